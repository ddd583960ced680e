section
-- ===== PART A: goes FIRST, ahead of the names: the tables' words, and 'selects' of the private methods out of them =====
/-- a private method of a class that the tables say can be made, by its rows of tables_1 -/
def lw_okq (q : MethodName × Nat) : Prop := (q.1.cls ≠ "java/lang/invoke/MethodHandle" ∧ q.1.cls ≠ "java/lang/invoke/VarHandle") ∧ Cond.instantiable q.1.cls q.2 ∈ tables_1 ∧ Cond.privateMethod q.1 ∈ tables_1 ∧ Cond.instanceMethod q.1 ∈ tables_1
theorem lw_p0 : lw_okq (⟨"TaskLeveller", "beginChange", "()V"⟩, 13) := ⟨⟨by decide +kernel, by decide +kernel⟩, List.mem_of_getElem? (i := 26) (by decide +kernel), List.mem_of_getElem? (i := 240) (by decide +kernel), List.mem_of_getElem? (i := 241) (by decide +kernel)⟩
theorem lw_p1 : lw_okq (⟨"TaskLeveller$History", "keep", "(LTaskLeveller$Project;)V"⟩, 3) := ⟨⟨by decide +kernel, by decide +kernel⟩, List.mem_of_getElem? (i := 88) (by decide +kernel), List.mem_of_getElem? (i := 244) (by decide +kernel), List.mem_of_getElem? (i := 245) (by decide +kernel)⟩
theorem lw_p2 : lw_okq (⟨"TaskLeveller$History", "stateAt", "(I)LTaskLeveller$Project;"⟩, 3) := ⟨⟨by decide +kernel, by decide +kernel⟩, List.mem_of_getElem? (i := 88) (by decide +kernel), List.mem_of_getElem? (i := 248) (by decide +kernel), List.mem_of_getElem? (i := 249) (by decide +kernel)⟩
theorem lw_p3 : lw_okq (⟨"TaskLeveller$Project", "copyFrom", "(LTaskLeveller$Project;)V"⟩, 9) := ⟨⟨by decide +kernel, by decide +kernel⟩, List.mem_of_getElem? (i := 34) (by decide +kernel), List.mem_of_getElem? (i := 252) (by decide +kernel), List.mem_of_getElem? (i := 253) (by decide +kernel)⟩
theorem lw_p4 : lw_okq (⟨"TaskLeveller", "currentPlan", "()LTaskLeveller$Plan;"⟩, 13) := ⟨⟨by decide +kernel, by decide +kernel⟩, List.mem_of_getElem? (i := 26) (by decide +kernel), List.mem_of_getElem? (i := 262) (by decide +kernel), List.mem_of_getElem? (i := 263) (by decide +kernel)⟩
theorem lw_p5 : lw_okq (⟨"TaskLeveller$Plan", "make", "(LTaskLeveller$Project;)V"⟩, 9) := ⟨⟨by decide +kernel, by decide +kernel⟩, List.mem_of_getElem? (i := 108) (by decide +kernel), List.mem_of_getElem? (i := 266) (by decide +kernel), List.mem_of_getElem? (i := 267) (by decide +kernel)⟩
theorem lw_p6 : lw_okq (⟨"TaskLeveller$Plan", "findOrder", "(LTaskLeveller$Project;)V"⟩, 9) := ⟨⟨by decide +kernel, by decide +kernel⟩, List.mem_of_getElem? (i := 108) (by decide +kernel), List.mem_of_getElem? (i := 270) (by decide +kernel), List.mem_of_getElem? (i := 271) (by decide +kernel)⟩
theorem lw_p7 : lw_okq (⟨"TaskLeveller$Project", "isReady", "(II)Z"⟩, 9) := ⟨⟨by decide +kernel, by decide +kernel⟩, List.mem_of_getElem? (i := 34) (by decide +kernel), List.mem_of_getElem? (i := 274) (by decide +kernel), List.mem_of_getElem? (i := 275) (by decide +kernel)⟩
theorem lw_p8 : lw_okq (⟨"TaskLeveller$Plan", "findClosure", "(LTaskLeveller$Project;)V"⟩, 9) := ⟨⟨by decide +kernel, by decide +kernel⟩, List.mem_of_getElem? (i := 108) (by decide +kernel), List.mem_of_getElem? (i := 287) (by decide +kernel), List.mem_of_getElem? (i := 288) (by decide +kernel)⟩
theorem lw_p9 : lw_okq (⟨"TaskLeveller$Plan", "findEarliest", "(LTaskLeveller$Project;)V"⟩, 9) := ⟨⟨by decide +kernel, by decide +kernel⟩, List.mem_of_getElem? (i := 108) (by decide +kernel), List.mem_of_getElem? (i := 294) (by decide +kernel), List.mem_of_getElem? (i := 295) (by decide +kernel)⟩
theorem lw_p10 : lw_okq (⟨"TaskLeveller$Plan", "findImproved", "(LTaskLeveller$Project;)V"⟩, 9) := ⟨⟨by decide +kernel, by decide +kernel⟩, List.mem_of_getElem? (i := 108) (by decide +kernel), List.mem_of_getElem? (i := 305) (by decide +kernel), List.mem_of_getElem? (i := 306) (by decide +kernel)⟩
theorem lw_p11 : lw_okq (⟨"TaskLeveller$Plan", "improve", "(LTaskLeveller$Project;)Z"⟩, 9) := ⟨⟨by decide +kernel, by decide +kernel⟩, List.mem_of_getElem? (i := 108) (by decide +kernel), List.mem_of_getElem? (i := 309) (by decide +kernel), List.mem_of_getElem? (i := 310) (by decide +kernel)⟩
theorem lw_p12 : lw_okq (⟨"TaskLeveller$Plan", "findLatest", "(LTaskLeveller$Project;)V"⟩, 9) := ⟨⟨by decide +kernel, by decide +kernel⟩, List.mem_of_getElem? (i := 108) (by decide +kernel), List.mem_of_getElem? (i := 316) (by decide +kernel), List.mem_of_getElem? (i := 317) (by decide +kernel)⟩
theorem lw_p13 : lw_okq (⟨"TaskLeveller$Project", "isLinked", "(II)Z"⟩, 9) := ⟨⟨by decide +kernel, by decide +kernel⟩, List.mem_of_getElem? (i := 34) (by decide +kernel), List.mem_of_getElem? (i := 320) (by decide +kernel), List.mem_of_getElem? (i := 321) (by decide +kernel)⟩
theorem lw_p14 : lw_okq (⟨"TaskLeveller$Plan", "findLevelled", "(LTaskLeveller$Project;)V"⟩, 9) := ⟨⟨by decide +kernel, by decide +kernel⟩, List.mem_of_getElem? (i := 108) (by decide +kernel), List.mem_of_getElem? (i := 325) (by decide +kernel), List.mem_of_getElem? (i := 326) (by decide +kernel)⟩
theorem lw_p15 : lw_okq (⟨"TaskLeveller$Plan", "mostUrgent", "(LTaskLeveller$Project;I)I"⟩, 9) := ⟨⟨by decide +kernel, by decide +kernel⟩, List.mem_of_getElem? (i := 108) (by decide +kernel), List.mem_of_getElem? (i := 329) (by decide +kernel), List.mem_of_getElem? (i := 330) (by decide +kernel)⟩
def lw_privs_1 : List (MethodName × Nat) := [(⟨"TaskLeveller", "beginChange", "()V"⟩, 13), (⟨"TaskLeveller$History", "keep", "(LTaskLeveller$Project;)V"⟩, 3), (⟨"TaskLeveller$History", "stateAt", "(I)LTaskLeveller$Project;"⟩, 3), (⟨"TaskLeveller$Project", "copyFrom", "(LTaskLeveller$Project;)V"⟩, 9), (⟨"TaskLeveller", "currentPlan", "()LTaskLeveller$Plan;"⟩, 13), (⟨"TaskLeveller$Plan", "make", "(LTaskLeveller$Project;)V"⟩, 9), (⟨"TaskLeveller$Plan", "findOrder", "(LTaskLeveller$Project;)V"⟩, 9), (⟨"TaskLeveller$Project", "isReady", "(II)Z"⟩, 9), (⟨"TaskLeveller$Plan", "findClosure", "(LTaskLeveller$Project;)V"⟩, 9), (⟨"TaskLeveller$Plan", "findEarliest", "(LTaskLeveller$Project;)V"⟩, 9), (⟨"TaskLeveller$Plan", "findImproved", "(LTaskLeveller$Project;)V"⟩, 9), (⟨"TaskLeveller$Plan", "improve", "(LTaskLeveller$Project;)Z"⟩, 9), (⟨"TaskLeveller$Plan", "findLatest", "(LTaskLeveller$Project;)V"⟩, 9), (⟨"TaskLeveller$Project", "isLinked", "(II)Z"⟩, 9), (⟨"TaskLeveller$Plan", "findLevelled", "(LTaskLeveller$Project;)V"⟩, 9), (⟨"TaskLeveller$Plan", "mostUrgent", "(LTaskLeveller$Project;I)I"⟩, 9)]
theorem lw_r1 : ∀ q ∈ lw_privs_1, lw_okq q := List.forall_mem_cons.mpr ⟨lw_p0, List.forall_mem_cons.mpr ⟨lw_p1, List.forall_mem_cons.mpr ⟨lw_p2, List.forall_mem_cons.mpr ⟨lw_p3, List.forall_mem_cons.mpr ⟨lw_p4, List.forall_mem_cons.mpr ⟨lw_p5, List.forall_mem_cons.mpr ⟨lw_p6, List.forall_mem_cons.mpr ⟨lw_p7, List.forall_mem_cons.mpr ⟨lw_p8, List.forall_mem_cons.mpr ⟨lw_p9, List.forall_mem_cons.mpr ⟨lw_p10, List.forall_mem_cons.mpr ⟨lw_p11, List.forall_mem_cons.mpr ⟨lw_p12, List.forall_mem_cons.mpr ⟨lw_p13, List.forall_mem_cons.mpr ⟨lw_p14, List.forall_mem_cons.mpr ⟨lw_p15, fun _ h => absurd h List.not_mem_nil⟩⟩⟩⟩⟩⟩⟩⟩⟩⟩⟩⟩⟩⟩⟩⟩
theorem lw_p16 : lw_okq (⟨"TaskLeveller$Plan", "lowestFit", "(LTaskLeveller$Project;I)I"⟩, 9) := ⟨⟨by decide +kernel, by decide +kernel⟩, List.mem_of_getElem? (i := 108) (by decide +kernel), List.mem_of_getElem? (i := 333) (by decide +kernel), List.mem_of_getElem? (i := 334) (by decide +kernel)⟩
theorem lw_p17 : lw_okq (⟨"TaskLeveller$Plan", "fits", "(LTaskLeveller$Project;II)Z"⟩, 9) := ⟨⟨by decide +kernel, by decide +kernel⟩, List.mem_of_getElem? (i := 108) (by decide +kernel), List.mem_of_getElem? (i := 337) (by decide +kernel), List.mem_of_getElem? (i := 338) (by decide +kernel)⟩
theorem lw_p18 : lw_okq (⟨"TaskLeveller$Plan", "place", "(LTaskLeveller$Project;II)V"⟩, 9) := ⟨⟨by decide +kernel, by decide +kernel⟩, List.mem_of_getElem? (i := 108) (by decide +kernel), List.mem_of_getElem? (i := 341) (by decide +kernel), List.mem_of_getElem? (i := 342) (by decide +kernel)⟩
theorem lw_p19 : lw_okq (⟨"TaskLeveller$Project", "takeStarts", "([I)V"⟩, 9) := ⟨⟨by decide +kernel, by decide +kernel⟩, List.mem_of_getElem? (i := 34) (by decide +kernel), List.mem_of_getElem? (i := 345) (by decide +kernel), List.mem_of_getElem? (i := 346) (by decide +kernel)⟩
theorem lw_p20 : lw_okq (⟨"TaskLeveller$Plan", "slackOf", "(I)I"⟩, 9) := ⟨⟨by decide +kernel, by decide +kernel⟩, List.mem_of_getElem? (i := 108) (by decide +kernel), List.mem_of_getElem? (i := 361) (by decide +kernel), List.mem_of_getElem? (i := 362) (by decide +kernel)⟩
theorem lw_p21 : lw_okq (⟨"TaskLeveller", "startsAgree", "()Z"⟩, 13) := ⟨⟨by decide +kernel, by decide +kernel⟩, List.mem_of_getElem? (i := 26) (by decide +kernel), List.mem_of_getElem? (i := 377) (by decide +kernel), List.mem_of_getElem? (i := 378) (by decide +kernel)⟩
theorem lw_p22 : lw_okq (⟨"TaskLeveller", "dependenciesAgree", "()Z"⟩, 13) := ⟨⟨by decide +kernel, by decide +kernel⟩, List.mem_of_getElem? (i := 26) (by decide +kernel), List.mem_of_getElem? (i := 382) (by decide +kernel), List.mem_of_getElem? (i := 383) (by decide +kernel)⟩
theorem lw_p23 : lw_okq (⟨"TaskLeveller$Project", "reaches", "(II)Z"⟩, 9) := ⟨⟨by decide +kernel, by decide +kernel⟩, List.mem_of_getElem? (i := 34) (by decide +kernel), List.mem_of_getElem? (i := 387) (by decide +kernel), List.mem_of_getElem? (i := 388) (by decide +kernel)⟩
theorem lw_p24 : lw_okq (⟨"TaskLeveller", "workloadsAgree", "()Z"⟩, 13) := ⟨⟨by decide +kernel, by decide +kernel⟩, List.mem_of_getElem? (i := 26) (by decide +kernel), List.mem_of_getElem? (i := 394) (by decide +kernel), List.mem_of_getElem? (i := 395) (by decide +kernel)⟩
theorem lw_p25 : lw_okq (⟨"TaskLeveller$Project", "workOf", "(I)I"⟩, 9) := ⟨⟨by decide +kernel, by decide +kernel⟩, List.mem_of_getElem? (i := 34) (by decide +kernel), List.mem_of_getElem? (i := 398) (by decide +kernel), List.mem_of_getElem? (i := 399) (by decide +kernel)⟩
theorem lw_p26 : lw_okq (⟨"TaskLeveller$Plan", "workOnAllDays", "(I)I"⟩, 9) := ⟨⟨by decide +kernel, by decide +kernel⟩, List.mem_of_getElem? (i := 108) (by decide +kernel), List.mem_of_getElem? (i := 402) (by decide +kernel), List.mem_of_getElem? (i := 403) (by decide +kernel)⟩
theorem lw_p27 : lw_okq (⟨"TaskLeveller$Plan", "usedOn", "(II)I"⟩, 9) := ⟨⟨by decide +kernel, by decide +kernel⟩, List.mem_of_getElem? (i := 108) (by decide +kernel), List.mem_of_getElem? (i := 406) (by decide +kernel), List.mem_of_getElem? (i := 407) (by decide +kernel)⟩
theorem lw_p28 : lw_okq (⟨"TaskLeveller$Project", "faultOfAdding", "(IIII)C"⟩, 9) := ⟨⟨by decide +kernel, by decide +kernel⟩, List.mem_of_getElem? (i := 34) (by decide +kernel), List.mem_of_getElem? (i := 424) (by decide +kernel), List.mem_of_getElem? (i := 425) (by decide +kernel)⟩
theorem lw_p29 : lw_okq (⟨"java/lang/Throwable", "fillInStackTrace", "(I)Ljava/lang/Throwable;"⟩, 6) := ⟨⟨by decide +kernel, by decide +kernel⟩, List.mem_of_getElem? (i := 476) (by decide +kernel), List.mem_of_getElem? (i := 474) (by decide +kernel), List.mem_of_getElem? (i := 475) (by decide +kernel)⟩
theorem lw_p30 : lw_okq (⟨"TaskLeveller$Project", "append", "(IIII)I"⟩, 9) := ⟨⟨by decide +kernel, by decide +kernel⟩, List.mem_of_getElem? (i := 34) (by decide +kernel), List.mem_of_getElem? (i := 554) (by decide +kernel), List.mem_of_getElem? (i := 555) (by decide +kernel)⟩
theorem lw_p31 : lw_okq (⟨"TaskLeveller$Project", "faultOfTask", "(I)C"⟩, 9) := ⟨⟨by decide +kernel, by decide +kernel⟩, List.mem_of_getElem? (i := 34) (by decide +kernel), List.mem_of_getElem? (i := 587) (by decide +kernel), List.mem_of_getElem? (i := 588) (by decide +kernel)⟩
def lw_privs_2 : List (MethodName × Nat) := [(⟨"TaskLeveller$Plan", "lowestFit", "(LTaskLeveller$Project;I)I"⟩, 9), (⟨"TaskLeveller$Plan", "fits", "(LTaskLeveller$Project;II)Z"⟩, 9), (⟨"TaskLeveller$Plan", "place", "(LTaskLeveller$Project;II)V"⟩, 9), (⟨"TaskLeveller$Project", "takeStarts", "([I)V"⟩, 9), (⟨"TaskLeveller$Plan", "slackOf", "(I)I"⟩, 9), (⟨"TaskLeveller", "startsAgree", "()Z"⟩, 13), (⟨"TaskLeveller", "dependenciesAgree", "()Z"⟩, 13), (⟨"TaskLeveller$Project", "reaches", "(II)Z"⟩, 9), (⟨"TaskLeveller", "workloadsAgree", "()Z"⟩, 13), (⟨"TaskLeveller$Project", "workOf", "(I)I"⟩, 9), (⟨"TaskLeveller$Plan", "workOnAllDays", "(I)I"⟩, 9), (⟨"TaskLeveller$Plan", "usedOn", "(II)I"⟩, 9), (⟨"TaskLeveller$Project", "faultOfAdding", "(IIII)C"⟩, 9), (⟨"java/lang/Throwable", "fillInStackTrace", "(I)Ljava/lang/Throwable;"⟩, 6), (⟨"TaskLeveller$Project", "append", "(IIII)I"⟩, 9), (⟨"TaskLeveller$Project", "faultOfTask", "(I)C"⟩, 9)]
theorem lw_r2 : ∀ q ∈ lw_privs_2, lw_okq q := List.forall_mem_cons.mpr ⟨lw_p16, List.forall_mem_cons.mpr ⟨lw_p17, List.forall_mem_cons.mpr ⟨lw_p18, List.forall_mem_cons.mpr ⟨lw_p19, List.forall_mem_cons.mpr ⟨lw_p20, List.forall_mem_cons.mpr ⟨lw_p21, List.forall_mem_cons.mpr ⟨lw_p22, List.forall_mem_cons.mpr ⟨lw_p23, List.forall_mem_cons.mpr ⟨lw_p24, List.forall_mem_cons.mpr ⟨lw_p25, List.forall_mem_cons.mpr ⟨lw_p26, List.forall_mem_cons.mpr ⟨lw_p27, List.forall_mem_cons.mpr ⟨lw_p28, List.forall_mem_cons.mpr ⟨lw_p29, List.forall_mem_cons.mpr ⟨lw_p30, List.forall_mem_cons.mpr ⟨lw_p31, fun _ h => absurd h List.not_mem_nil⟩⟩⟩⟩⟩⟩⟩⟩⟩⟩⟩⟩⟩⟩⟩⟩
theorem lw_p32 : lw_okq (⟨"TaskLeveller$Project", "drop", "(I)V"⟩, 9) := ⟨⟨by decide +kernel, by decide +kernel⟩, List.mem_of_getElem? (i := 34) (by decide +kernel), List.mem_of_getElem? (i := 591) (by decide +kernel), List.mem_of_getElem? (i := 592) (by decide +kernel)⟩
theorem lw_p33 : lw_okq (⟨"TaskLeveller$Project", "faultOfLinking", "(II)C"⟩, 9) := ⟨⟨by decide +kernel, by decide +kernel⟩, List.mem_of_getElem? (i := 34) (by decide +kernel), List.mem_of_getElem? (i := 607) (by decide +kernel), List.mem_of_getElem? (i := 608) (by decide +kernel)⟩
theorem lw_p34 : lw_okq (⟨"TaskLeveller$Project", "faultOfPair", "(II)C"⟩, 9) := ⟨⟨by decide +kernel, by decide +kernel⟩, List.mem_of_getElem? (i := 34) (by decide +kernel), List.mem_of_getElem? (i := 611) (by decide +kernel), List.mem_of_getElem? (i := 612) (by decide +kernel)⟩
theorem lw_p35 : lw_okq (⟨"TaskLeveller$Project", "link", "(II)V"⟩, 9) := ⟨⟨by decide +kernel, by decide +kernel⟩, List.mem_of_getElem? (i := 34) (by decide +kernel), List.mem_of_getElem? (i := 618) (by decide +kernel), List.mem_of_getElem? (i := 619) (by decide +kernel)⟩
theorem lw_p36 : lw_okq (⟨"TaskLeveller$Project", "unlink", "(II)V"⟩, 9) := ⟨⟨by decide +kernel, by decide +kernel⟩, List.mem_of_getElem? (i := 34) (by decide +kernel), List.mem_of_getElem? (i := 630) (by decide +kernel), List.mem_of_getElem? (i := 631) (by decide +kernel)⟩
theorem lw_p37 : lw_okq (⟨"TaskLeveller$Project", "faultOfDuration", "(II)C"⟩, 9) := ⟨⟨by decide +kernel, by decide +kernel⟩, List.mem_of_getElem? (i := 34) (by decide +kernel), List.mem_of_getElem? (i := 641) (by decide +kernel), List.mem_of_getElem? (i := 642) (by decide +kernel)⟩
theorem lw_p38 : lw_okq (⟨"TaskLeveller$Project", "faultOfRelease", "(II)C"⟩, 9) := ⟨⟨by decide +kernel, by decide +kernel⟩, List.mem_of_getElem? (i := 34) (by decide +kernel), List.mem_of_getElem? (i := 653) (by decide +kernel), List.mem_of_getElem? (i := 654) (by decide +kernel)⟩
theorem lw_p39 : lw_okq (⟨"TaskLeveller$Project", "faultOfLimit", "(II)C"⟩, 9) := ⟨⟨by decide +kernel, by decide +kernel⟩, List.mem_of_getElem? (i := 34) (by decide +kernel), List.mem_of_getElem? (i := 664) (by decide +kernel), List.mem_of_getElem? (i := 665) (by decide +kernel)⟩
theorem lw_p40 : lw_okq (⟨"TaskLeveller", "requireTask", "(I)V"⟩, 13) := ⟨⟨by decide +kernel, by decide +kernel⟩, List.mem_of_getElem? (i := 26) (by decide +kernel), List.mem_of_getElem? (i := 675) (by decide +kernel), List.mem_of_getElem? (i := 676) (by decide +kernel)⟩
theorem lw_p41 : lw_okq (⟨"TaskLeveller", "isWorkedOn", "(II)Z"⟩, 13) := ⟨⟨by decide +kernel, by decide +kernel⟩, List.mem_of_getElem? (i := 26) (by decide +kernel), List.mem_of_getElem? (i := 846) (by decide +kernel), List.mem_of_getElem? (i := 847) (by decide +kernel)⟩
theorem lw_p42 : lw_okq (⟨"TaskLeveller", "requireBaselineStart", "(I)V"⟩, 13) := ⟨⟨by decide +kernel, by decide +kernel⟩, List.mem_of_getElem? (i := 26) (by decide +kernel), List.mem_of_getElem? (i := 885) (by decide +kernel), List.mem_of_getElem? (i := 886) (by decide +kernel)⟩
theorem lw_p43 : lw_okq (⟨"TaskLeveller$Project", "hasStart", "(I)Z"⟩, 9) := ⟨⟨by decide +kernel, by decide +kernel⟩, List.mem_of_getElem? (i := 34) (by decide +kernel), List.mem_of_getElem? (i := 889) (by decide +kernel), List.mem_of_getElem? (i := 890) (by decide +kernel)⟩
theorem lw_p44 : lw_okq (⟨"TaskLeveller", "driftOf", "(I)I"⟩, 13) := ⟨⟨by decide +kernel, by decide +kernel⟩, List.mem_of_getElem? (i := 26) (by decide +kernel), List.mem_of_getElem? (i := 901) (by decide +kernel), List.mem_of_getElem? (i := 902) (by decide +kernel)⟩
theorem lw_p45 : lw_okq (⟨"TaskLeveller", "taskAtRank", "(I)I"⟩, 13) := ⟨⟨by decide +kernel, by decide +kernel⟩, List.mem_of_getElem? (i := 26) (by decide +kernel), List.mem_of_getElem? (i := 926) (by decide +kernel), List.mem_of_getElem? (i := 927) (by decide +kernel)⟩
theorem lw_p46 : lw_okq (⟨"TaskLeveller", "countBefore", "(I)I"⟩, 13) := ⟨⟨by decide +kernel, by decide +kernel⟩, List.mem_of_getElem? (i := 26) (by decide +kernel), List.mem_of_getElem? (i := 930) (by decide +kernel), List.mem_of_getElem? (i := 931) (by decide +kernel)⟩
theorem lw_p47 : lw_okq (⟨"TaskLeveller$Output", "clear", "()V"⟩, 2) := ⟨⟨by decide +kernel, by decide +kernel⟩, List.mem_of_getElem? (i := 181) (by decide +kernel), List.mem_of_getElem? (i := 979) (by decide +kernel), List.mem_of_getElem? (i := 980) (by decide +kernel)⟩
def lw_privs_3 : List (MethodName × Nat) := [(⟨"TaskLeveller$Project", "drop", "(I)V"⟩, 9), (⟨"TaskLeveller$Project", "faultOfLinking", "(II)C"⟩, 9), (⟨"TaskLeveller$Project", "faultOfPair", "(II)C"⟩, 9), (⟨"TaskLeveller$Project", "link", "(II)V"⟩, 9), (⟨"TaskLeveller$Project", "unlink", "(II)V"⟩, 9), (⟨"TaskLeveller$Project", "faultOfDuration", "(II)C"⟩, 9), (⟨"TaskLeveller$Project", "faultOfRelease", "(II)C"⟩, 9), (⟨"TaskLeveller$Project", "faultOfLimit", "(II)C"⟩, 9), (⟨"TaskLeveller", "requireTask", "(I)V"⟩, 13), (⟨"TaskLeveller", "isWorkedOn", "(II)Z"⟩, 13), (⟨"TaskLeveller", "requireBaselineStart", "(I)V"⟩, 13), (⟨"TaskLeveller$Project", "hasStart", "(I)Z"⟩, 9), (⟨"TaskLeveller", "driftOf", "(I)I"⟩, 13), (⟨"TaskLeveller", "taskAtRank", "(I)I"⟩, 13), (⟨"TaskLeveller", "countBefore", "(I)I"⟩, 13), (⟨"TaskLeveller$Output", "clear", "()V"⟩, 2)]
theorem lw_r3 : ∀ q ∈ lw_privs_3, lw_okq q := List.forall_mem_cons.mpr ⟨lw_p32, List.forall_mem_cons.mpr ⟨lw_p33, List.forall_mem_cons.mpr ⟨lw_p34, List.forall_mem_cons.mpr ⟨lw_p35, List.forall_mem_cons.mpr ⟨lw_p36, List.forall_mem_cons.mpr ⟨lw_p37, List.forall_mem_cons.mpr ⟨lw_p38, List.forall_mem_cons.mpr ⟨lw_p39, List.forall_mem_cons.mpr ⟨lw_p40, List.forall_mem_cons.mpr ⟨lw_p41, List.forall_mem_cons.mpr ⟨lw_p42, List.forall_mem_cons.mpr ⟨lw_p43, List.forall_mem_cons.mpr ⟨lw_p44, List.forall_mem_cons.mpr ⟨lw_p45, List.forall_mem_cons.mpr ⟨lw_p46, List.forall_mem_cons.mpr ⟨lw_p47, fun _ h => absurd h List.not_mem_nil⟩⟩⟩⟩⟩⟩⟩⟩⟩⟩⟩⟩⟩⟩⟩⟩
theorem lw_p48 : lw_okq (⟨"TaskLeveller$Output", "writeNumber", "(I)V"⟩, 2) := ⟨⟨by decide +kernel, by decide +kernel⟩, List.mem_of_getElem? (i := 181) (by decide +kernel), List.mem_of_getElem? (i := 983) (by decide +kernel), List.mem_of_getElem? (i := 984) (by decide +kernel)⟩
theorem lw_p49 : lw_okq (⟨"TaskLeveller$Output", "write", "(C)V"⟩, 2) := ⟨⟨by decide +kernel, by decide +kernel⟩, List.mem_of_getElem? (i := 181) (by decide +kernel), List.mem_of_getElem? (i := 987) (by decide +kernel), List.mem_of_getElem? (i := 988) (by decide +kernel)⟩
theorem lw_p50 : lw_okq (⟨"TaskLeveller$Script", "append", "(C)V"⟩, 6) := ⟨⟨by decide +kernel, by decide +kernel⟩, List.mem_of_getElem? (i := 150) (by decide +kernel), List.mem_of_getElem? (i := 1019) (by decide +kernel), List.mem_of_getElem? (i := 1020) (by decide +kernel)⟩
theorem lw_p51 : lw_okq (⟨"TaskLeveller$Script", "read", "()Z"⟩, 6) := ⟨⟨by decide +kernel, by decide +kernel⟩, List.mem_of_getElem? (i := 150) (by decide +kernel), List.mem_of_getElem? (i := 1030) (by decide +kernel), List.mem_of_getElem? (i := 1031) (by decide +kernel)⟩
theorem lw_p52 : lw_okq (⟨"TaskLeveller$Script", "readCommand", "()Z"⟩, 6) := ⟨⟨by decide +kernel, by decide +kernel⟩, List.mem_of_getElem? (i := 150) (by decide +kernel), List.mem_of_getElem? (i := 1034) (by decide +kernel), List.mem_of_getElem? (i := 1035) (by decide +kernel)⟩
theorem lw_p53 : lw_okq (⟨"TaskLeveller$Script", "follows", "(Ljava/lang/String;)Z"⟩, 6) := ⟨⟨by decide +kernel, by decide +kernel⟩, List.mem_of_getElem? (i := 150) (by decide +kernel), List.mem_of_getElem? (i := 1040) (by decide +kernel), List.mem_of_getElem? (i := 1041) (by decide +kernel)⟩
theorem lw_p54 : lw_okq (⟨"TaskLeveller$Script", "readNumber", "(II)Z"⟩, 6) := ⟨⟨by decide +kernel, by decide +kernel⟩, List.mem_of_getElem? (i := 150) (by decide +kernel), List.mem_of_getElem? (i := 1092) (by decide +kernel), List.mem_of_getElem? (i := 1093) (by decide +kernel)⟩
theorem lw_p55 : lw_okq (⟨"TaskLeveller$Script", "isDigitAt", "(I)Z"⟩, 6) := ⟨⟨by decide +kernel, by decide +kernel⟩, List.mem_of_getElem? (i := 150) (by decide +kernel), List.mem_of_getElem? (i := 1096) (by decide +kernel), List.mem_of_getElem? (i := 1097) (by decide +kernel)⟩
theorem lw_p56 : lw_okq (⟨"TaskLeveller$Script", "clear", "()V"⟩, 6) := ⟨⟨by decide +kernel, by decide +kernel⟩, List.mem_of_getElem? (i := 150) (by decide +kernel), List.mem_of_getElem? (i := 1104) (by decide +kernel), List.mem_of_getElem? (i := 1105) (by decide +kernel)⟩
theorem lw_p57 : lw_okq (⟨"TaskLeveller", "runCommand", "(I)C"⟩, 13) := ⟨⟨by decide +kernel, by decide +kernel⟩, List.mem_of_getElem? (i := 26) (by decide +kernel), List.mem_of_getElem? (i := 1109) (by decide +kernel), List.mem_of_getElem? (i := 1110) (by decide +kernel)⟩
theorem lw_p58 : lw_okq (⟨"TaskLeveller$Script", "commandAt", "(I)LTaskLeveller$Command;"⟩, 6) := ⟨⟨by decide +kernel, by decide +kernel⟩, List.mem_of_getElem? (i := 150) (by decide +kernel), List.mem_of_getElem? (i := 1113) (by decide +kernel), List.mem_of_getElem? (i := 1114) (by decide +kernel)⟩
theorem lw_p59 : lw_okq (⟨"TaskLeveller$Script", "numberAt", "(II)I"⟩, 6) := ⟨⟨by decide +kernel, by decide +kernel⟩, List.mem_of_getElem? (i := 150) (by decide +kernel), List.mem_of_getElem? (i := 1117) (by decide +kernel), List.mem_of_getElem? (i := 1118) (by decide +kernel)⟩
theorem lw_p60 : lw_okq (⟨"TaskLeveller", "runAdding", "(IIII)C"⟩, 13) := ⟨⟨by decide +kernel, by decide +kernel⟩, List.mem_of_getElem? (i := 26) (by decide +kernel), List.mem_of_getElem? (i := 1130) (by decide +kernel), List.mem_of_getElem? (i := 1131) (by decide +kernel)⟩
theorem lw_p61 : lw_okq (⟨"TaskLeveller", "markTrial", "()V"⟩, 13) := ⟨⟨by decide +kernel, by decide +kernel⟩, List.mem_of_getElem? (i := 26) (by decide +kernel), List.mem_of_getElem? (i := 1137) (by decide +kernel), List.mem_of_getElem? (i := 1138) (by decide +kernel)⟩
theorem lw_p62 : lw_okq (⟨"TaskLeveller", "requireFailure", "()V"⟩, 13) := ⟨⟨by decide +kernel, by decide +kernel⟩, List.mem_of_getElem? (i := 26) (by decide +kernel), List.mem_of_getElem? (i := 1157) (by decide +kernel), List.mem_of_getElem? (i := 1158) (by decide +kernel)⟩
theorem lw_p63 : lw_okq (⟨"TaskLeveller$History", "takeInto", "(LTaskLeveller$Project;)V"⟩, 3) := ⟨⟨by decide +kernel, by decide +kernel⟩, List.mem_of_getElem? (i := 88) (by decide +kernel), List.mem_of_getElem? (i := 1177) (by decide +kernel), List.mem_of_getElem? (i := 1178) (by decide +kernel)⟩
def lw_privs_4 : List (MethodName × Nat) := [(⟨"TaskLeveller$Output", "writeNumber", "(I)V"⟩, 2), (⟨"TaskLeveller$Output", "write", "(C)V"⟩, 2), (⟨"TaskLeveller$Script", "append", "(C)V"⟩, 6), (⟨"TaskLeveller$Script", "read", "()Z"⟩, 6), (⟨"TaskLeveller$Script", "readCommand", "()Z"⟩, 6), (⟨"TaskLeveller$Script", "follows", "(Ljava/lang/String;)Z"⟩, 6), (⟨"TaskLeveller$Script", "readNumber", "(II)Z"⟩, 6), (⟨"TaskLeveller$Script", "isDigitAt", "(I)Z"⟩, 6), (⟨"TaskLeveller$Script", "clear", "()V"⟩, 6), (⟨"TaskLeveller", "runCommand", "(I)C"⟩, 13), (⟨"TaskLeveller$Script", "commandAt", "(I)LTaskLeveller$Command;"⟩, 6), (⟨"TaskLeveller$Script", "numberAt", "(II)I"⟩, 6), (⟨"TaskLeveller", "runAdding", "(IIII)C"⟩, 13), (⟨"TaskLeveller", "markTrial", "()V"⟩, 13), (⟨"TaskLeveller", "requireFailure", "()V"⟩, 13), (⟨"TaskLeveller$History", "takeInto", "(LTaskLeveller$Project;)V"⟩, 3)]
theorem lw_r4 : ∀ q ∈ lw_privs_4, lw_okq q := List.forall_mem_cons.mpr ⟨lw_p48, List.forall_mem_cons.mpr ⟨lw_p49, List.forall_mem_cons.mpr ⟨lw_p50, List.forall_mem_cons.mpr ⟨lw_p51, List.forall_mem_cons.mpr ⟨lw_p52, List.forall_mem_cons.mpr ⟨lw_p53, List.forall_mem_cons.mpr ⟨lw_p54, List.forall_mem_cons.mpr ⟨lw_p55, List.forall_mem_cons.mpr ⟨lw_p56, List.forall_mem_cons.mpr ⟨lw_p57, List.forall_mem_cons.mpr ⟨lw_p58, List.forall_mem_cons.mpr ⟨lw_p59, List.forall_mem_cons.mpr ⟨lw_p60, List.forall_mem_cons.mpr ⟨lw_p61, List.forall_mem_cons.mpr ⟨lw_p62, List.forall_mem_cons.mpr ⟨lw_p63, fun _ h => absurd h List.not_mem_nil⟩⟩⟩⟩⟩⟩⟩⟩⟩⟩⟩⟩⟩⟩⟩⟩
theorem lw_p64 : lw_okq (⟨"TaskLeveller$History", "clear", "()V"⟩, 3) := ⟨⟨by decide +kernel, by decide +kernel⟩, List.mem_of_getElem? (i := 88) (by decide +kernel), List.mem_of_getElem? (i := 1190) (by decide +kernel), List.mem_of_getElem? (i := 1191) (by decide +kernel)⟩
theorem lw_p65 : lw_okq (⟨"TaskLevellerModel", "goes", "(Z)Z"⟩, 23) := ⟨⟨by decide +kernel, by decide +kernel⟩, List.mem_of_getElem? (i := 1194) (by decide +kernel), List.mem_of_getElem? (i := 1278) (by decide +kernel), List.mem_of_getElem? (i := 1279) (by decide +kernel)⟩
theorem lw_p66 : lw_okq (⟨"TaskLevellerModel", "holds", "(ZZZ)Z"⟩, 23) := ⟨⟨by decide +kernel, by decide +kernel⟩, List.mem_of_getElem? (i := 1194) (by decide +kernel), List.mem_of_getElem? (i := 1282) (by decide +kernel), List.mem_of_getElem? (i := 1283) (by decide +kernel)⟩
theorem lw_p67 : lw_okq (⟨"TaskLevellerModel", "begins", "()V"⟩, 23) := ⟨⟨by decide +kernel, by decide +kernel⟩, List.mem_of_getElem? (i := 1194) (by decide +kernel), List.mem_of_getElem? (i := 1301) (by decide +kernel), List.mem_of_getElem? (i := 1302) (by decide +kernel)⟩
theorem lw_p68 : lw_okq (⟨"TaskLevellerModel", "adds", "(IIII)I"⟩, 23) := ⟨⟨by decide +kernel, by decide +kernel⟩, List.mem_of_getElem? (i := 1194) (by decide +kernel), List.mem_of_getElem? (i := 1305) (by decide +kernel), List.mem_of_getElem? (i := 1306) (by decide +kernel)⟩
theorem lw_p69 : lw_okq (⟨"TaskLevellerModel", "ends", "(I)I"⟩, 23) := ⟨⟨by decide +kernel, by decide +kernel⟩, List.mem_of_getElem? (i := 1194) (by decide +kernel), List.mem_of_getElem? (i := 1318) (by decide +kernel), List.mem_of_getElem? (i := 1319) (by decide +kernel)⟩
theorem lw_p70 : lw_okq (⟨"TaskLevellerModel", "remembers", "()V"⟩, 23) := ⟨⟨by decide +kernel, by decide +kernel⟩, List.mem_of_getElem? (i := 1194) (by decide +kernel), List.mem_of_getElem? (i := 1322) (by decide +kernel), List.mem_of_getElem? (i := 1323) (by decide +kernel)⟩
theorem lw_p71 : lw_okq (⟨"TaskLevellerModel", "removes", "(I)I"⟩, 23) := ⟨⟨by decide +kernel, by decide +kernel⟩, List.mem_of_getElem? (i := 1194) (by decide +kernel), List.mem_of_getElem? (i := 1330) (by decide +kernel), List.mem_of_getElem? (i := 1331) (by decide +kernel)⟩
theorem lw_p72 : lw_okq (⟨"TaskLevellerModel", "isTask", "(I)Z"⟩, 23) := ⟨⟨by decide +kernel, by decide +kernel⟩, List.mem_of_getElem? (i := 1194) (by decide +kernel), List.mem_of_getElem? (i := 1334) (by decide +kernel), List.mem_of_getElem? (i := 1335) (by decide +kernel)⟩
theorem lw_p73 : lw_okq (⟨"TaskLevellerModel", "links", "(II)I"⟩, 23) := ⟨⟨by decide +kernel, by decide +kernel⟩, List.mem_of_getElem? (i := 1194) (by decide +kernel), List.mem_of_getElem? (i := 1342) (by decide +kernel), List.mem_of_getElem? (i := 1343) (by decide +kernel)⟩
theorem lw_p74 : lw_okq (⟨"TaskLevellerModel", "doesDepend", "(II)Z"⟩, 23) := ⟨⟨by decide +kernel, by decide +kernel⟩, List.mem_of_getElem? (i := 1194) (by decide +kernel), List.mem_of_getElem? (i := 1346) (by decide +kernel), List.mem_of_getElem? (i := 1347) (by decide +kernel)⟩
theorem lw_p75 : lw_okq (⟨"TaskLevellerModel", "needsOf", "(I)I"⟩, 23) := ⟨⟨by decide +kernel, by decide +kernel⟩, List.mem_of_getElem? (i := 1194) (by decide +kernel), List.mem_of_getElem? (i := 1350) (by decide +kernel), List.mem_of_getElem? (i := 1351) (by decide +kernel)⟩
theorem lw_p76 : lw_okq (⟨"TaskLevellerModel", "of", "(II)I"⟩, 23) := ⟨⟨by decide +kernel, by decide +kernel⟩, List.mem_of_getElem? (i := 1194) (by decide +kernel), List.mem_of_getElem? (i := 1354) (by decide +kernel), List.mem_of_getElem? (i := 1355) (by decide +kernel)⟩
theorem lw_p77 : lw_okq (⟨"TaskLevellerModel", "isNeeded", "(II)Z"⟩, 23) := ⟨⟨by decide +kernel, by decide +kernel⟩, List.mem_of_getElem? (i := 1194) (by decide +kernel), List.mem_of_getElem? (i := 1358) (by decide +kernel), List.mem_of_getElem? (i := 1359) (by decide +kernel)⟩
theorem lw_p78 : lw_okq (⟨"TaskLevellerModel", "unlinks", "(II)I"⟩, 23) := ⟨⟨by decide +kernel, by decide +kernel⟩, List.mem_of_getElem? (i := 1194) (by decide +kernel), List.mem_of_getElem? (i := 1366) (by decide +kernel), List.mem_of_getElem? (i := 1367) (by decide +kernel)⟩
theorem lw_p79 : lw_okq (⟨"TaskLevellerModel", "sets", "(IIIII)I"⟩, 23) := ⟨⟨by decide +kernel, by decide +kernel⟩, List.mem_of_getElem? (i := 1194) (by decide +kernel), List.mem_of_getElem? (i := 1374) (by decide +kernel), List.mem_of_getElem? (i := 1375) (by decide +kernel)⟩
def lw_privs_5 : List (MethodName × Nat) := [(⟨"TaskLeveller$History", "clear", "()V"⟩, 3), (⟨"TaskLevellerModel", "goes", "(Z)Z"⟩, 23), (⟨"TaskLevellerModel", "holds", "(ZZZ)Z"⟩, 23), (⟨"TaskLevellerModel", "begins", "()V"⟩, 23), (⟨"TaskLevellerModel", "adds", "(IIII)I"⟩, 23), (⟨"TaskLevellerModel", "ends", "(I)I"⟩, 23), (⟨"TaskLevellerModel", "remembers", "()V"⟩, 23), (⟨"TaskLevellerModel", "removes", "(I)I"⟩, 23), (⟨"TaskLevellerModel", "isTask", "(I)Z"⟩, 23), (⟨"TaskLevellerModel", "links", "(II)I"⟩, 23), (⟨"TaskLevellerModel", "doesDepend", "(II)Z"⟩, 23), (⟨"TaskLevellerModel", "needsOf", "(I)I"⟩, 23), (⟨"TaskLevellerModel", "of", "(II)I"⟩, 23), (⟨"TaskLevellerModel", "isNeeded", "(II)Z"⟩, 23), (⟨"TaskLevellerModel", "unlinks", "(II)I"⟩, 23), (⟨"TaskLevellerModel", "sets", "(IIIII)I"⟩, 23)]
theorem lw_r5 : ∀ q ∈ lw_privs_5, lw_okq q := List.forall_mem_cons.mpr ⟨lw_p64, List.forall_mem_cons.mpr ⟨lw_p65, List.forall_mem_cons.mpr ⟨lw_p66, List.forall_mem_cons.mpr ⟨lw_p67, List.forall_mem_cons.mpr ⟨lw_p68, List.forall_mem_cons.mpr ⟨lw_p69, List.forall_mem_cons.mpr ⟨lw_p70, List.forall_mem_cons.mpr ⟨lw_p71, List.forall_mem_cons.mpr ⟨lw_p72, List.forall_mem_cons.mpr ⟨lw_p73, List.forall_mem_cons.mpr ⟨lw_p74, List.forall_mem_cons.mpr ⟨lw_p75, List.forall_mem_cons.mpr ⟨lw_p76, List.forall_mem_cons.mpr ⟨lw_p77, List.forall_mem_cons.mpr ⟨lw_p78, List.forall_mem_cons.mpr ⟨lw_p79, fun _ h => absurd h List.not_mem_nil⟩⟩⟩⟩⟩⟩⟩⟩⟩⟩⟩⟩⟩⟩⟩⟩
theorem lw_p80 : lw_okq (⟨"TaskLevellerModel", "limits", "(II)I"⟩, 23) := ⟨⟨by decide +kernel, by decide +kernel⟩, List.mem_of_getElem? (i := 1194) (by decide +kernel), List.mem_of_getElem? (i := 1386) (by decide +kernel), List.mem_of_getElem? (i := 1387) (by decide +kernel)⟩
theorem lw_p81 : lw_okq (⟨"TaskLevellerModel", "marks", "()I"⟩, 23) := ⟨⟨by decide +kernel, by decide +kernel⟩, List.mem_of_getElem? (i := 1194) (by decide +kernel), List.mem_of_getElem? (i := 1394) (by decide +kernel), List.mem_of_getElem? (i := 1395) (by decide +kernel)⟩
theorem lw_p82 : lw_okq (⟨"TaskLevellerModel", "levels", "()V"⟩, 23) := ⟨⟨by decide +kernel, by decide +kernel⟩, List.mem_of_getElem? (i := 1194) (by decide +kernel), List.mem_of_getElem? (i := 1398) (by decide +kernel), List.mem_of_getElem? (i := 1399) (by decide +kernel)⟩
theorem lw_p83 : lw_okq (⟨"TaskLevellerModel", "starts", "()V"⟩, 23) := ⟨⟨by decide +kernel, by decide +kernel⟩, List.mem_of_getElem? (i := 1194) (by decide +kernel), List.mem_of_getElem? (i := 1402) (by decide +kernel), List.mem_of_getElem? (i := 1403) (by decide +kernel)⟩
theorem lw_p84 : lw_okq (⟨"TaskLevellerModel", "soonest", "(I[I)I"⟩, 23) := ⟨⟨by decide +kernel, by decide +kernel⟩, List.mem_of_getElem? (i := 1194) (by decide +kernel), List.mem_of_getElem? (i := 1406) (by decide +kernel), List.mem_of_getElem? (i := 1407) (by decide +kernel)⟩
theorem lw_p85 : lw_okq (⟨"TaskLevellerModel", "lastOf", "([I)I"⟩, 23) := ⟨⟨by decide +kernel, by decide +kernel⟩, List.mem_of_getElem? (i := 1194) (by decide +kernel), List.mem_of_getElem? (i := 1411) (by decide +kernel), List.mem_of_getElem? (i := 1412) (by decide +kernel)⟩
theorem lw_p86 : lw_okq (⟨"TaskLevellerModel", "puts", "(I)V"⟩, 23) := ⟨⟨by decide +kernel, by decide +kernel⟩, List.mem_of_getElem? (i := 1194) (by decide +kernel), List.mem_of_getElem? (i := 1415) (by decide +kernel), List.mem_of_getElem? (i := 1416) (by decide +kernel)⟩
theorem lw_p87 : lw_okq (⟨"TaskLevellerModel", "hasRoom", "(II)Z"⟩, 23) := ⟨⟨by decide +kernel, by decide +kernel⟩, List.mem_of_getElem? (i := 1194) (by decide +kernel), List.mem_of_getElem? (i := 1420) (by decide +kernel), List.mem_of_getElem? (i := 1421) (by decide +kernel)⟩
theorem lw_p88 : lw_okq (⟨"TaskLevellerModel", "asks", "(II)I"⟩, 23) := ⟨⟨by decide +kernel, by decide +kernel⟩, List.mem_of_getElem? (i := 1194) (by decide +kernel), List.mem_of_getElem? (i := 1432) (by decide +kernel), List.mem_of_getElem? (i := 1433) (by decide +kernel)⟩
theorem lw_p89 : lw_okq (⟨"TaskLevellerModel", "isBehind", "(II)Z"⟩, 23) := ⟨⟨by decide +kernel, by decide +kernel⟩, List.mem_of_getElem? (i := 1194) (by decide +kernel), List.mem_of_getElem? (i := 1460) (by decide +kernel), List.mem_of_getElem? (i := 1461) (by decide +kernel)⟩
theorem lw_p90 : lw_okq (⟨"TaskLevellerModel", "early", "(I)I"⟩, 23) := ⟨⟨by decide +kernel, by decide +kernel⟩, List.mem_of_getElem? (i := 1194) (by decide +kernel), List.mem_of_getElem? (i := 1485) (by decide +kernel), List.mem_of_getElem? (i := 1486) (by decide +kernel)⟩
theorem lw_p91 : lw_okq (⟨"TaskLevellerModel", "usageOn", "(II)I"⟩, 23) := ⟨⟨by decide +kernel, by decide +kernel⟩, List.mem_of_getElem? (i := 1194) (by decide +kernel), List.mem_of_getElem? (i := 1529) (by decide +kernel), List.mem_of_getElem? (i := 1530) (by decide +kernel)⟩
theorem lw_p92 : lw_okq (⟨"TaskLevellerModel", "work", "(I)I"⟩, 23) := ⟨⟨by decide +kernel, by decide +kernel⟩, List.mem_of_getElem? (i := 1194) (by decide +kernel), List.mem_of_getElem? (i := 1549) (by decide +kernel), List.mem_of_getElem? (i := 1550) (by decide +kernel)⟩
theorem lw_p93 : lw_okq (⟨"TaskLevellerModel", "writesNumber", "(II)I"⟩, 23) := ⟨⟨by decide +kernel, by decide +kernel⟩, List.mem_of_getElem? (i := 1194) (by decide +kernel), List.mem_of_getElem? (i := 1598) (by decide +kernel), List.mem_of_getElem? (i := 1599) (by decide +kernel)⟩
theorem lw_p94 : lw_okq (⟨"TaskLevellerModel", "put", "(II)I"⟩, 23) := ⟨⟨by decide +kernel, by decide +kernel⟩, List.mem_of_getElem? (i := 1194) (by decide +kernel), List.mem_of_getElem? (i := 1602) (by decide +kernel), List.mem_of_getElem? (i := 1603) (by decide +kernel)⟩
theorem lw_p95 : lw_okq (⟨"TaskLevellerModel", "readsAll", "()V"⟩, 23) := ⟨⟨by decide +kernel, by decide +kernel⟩, List.mem_of_getElem? (i := 1194) (by decide +kernel), List.mem_of_getElem? (i := 1622) (by decide +kernel), List.mem_of_getElem? (i := 1623) (by decide +kernel)⟩
def lw_privs_6 : List (MethodName × Nat) := [(⟨"TaskLevellerModel", "limits", "(II)I"⟩, 23), (⟨"TaskLevellerModel", "marks", "()I"⟩, 23), (⟨"TaskLevellerModel", "levels", "()V"⟩, 23), (⟨"TaskLevellerModel", "starts", "()V"⟩, 23), (⟨"TaskLevellerModel", "soonest", "(I[I)I"⟩, 23), (⟨"TaskLevellerModel", "lastOf", "([I)I"⟩, 23), (⟨"TaskLevellerModel", "puts", "(I)V"⟩, 23), (⟨"TaskLevellerModel", "hasRoom", "(II)Z"⟩, 23), (⟨"TaskLevellerModel", "asks", "(II)I"⟩, 23), (⟨"TaskLevellerModel", "isBehind", "(II)Z"⟩, 23), (⟨"TaskLevellerModel", "early", "(I)I"⟩, 23), (⟨"TaskLevellerModel", "usageOn", "(II)I"⟩, 23), (⟨"TaskLevellerModel", "work", "(I)I"⟩, 23), (⟨"TaskLevellerModel", "writesNumber", "(II)I"⟩, 23), (⟨"TaskLevellerModel", "put", "(II)I"⟩, 23), (⟨"TaskLevellerModel", "readsAll", "()V"⟩, 23)]
theorem lw_r6 : ∀ q ∈ lw_privs_6, lw_okq q := List.forall_mem_cons.mpr ⟨lw_p80, List.forall_mem_cons.mpr ⟨lw_p81, List.forall_mem_cons.mpr ⟨lw_p82, List.forall_mem_cons.mpr ⟨lw_p83, List.forall_mem_cons.mpr ⟨lw_p84, List.forall_mem_cons.mpr ⟨lw_p85, List.forall_mem_cons.mpr ⟨lw_p86, List.forall_mem_cons.mpr ⟨lw_p87, List.forall_mem_cons.mpr ⟨lw_p88, List.forall_mem_cons.mpr ⟨lw_p89, List.forall_mem_cons.mpr ⟨lw_p90, List.forall_mem_cons.mpr ⟨lw_p91, List.forall_mem_cons.mpr ⟨lw_p92, List.forall_mem_cons.mpr ⟨lw_p93, List.forall_mem_cons.mpr ⟨lw_p94, List.forall_mem_cons.mpr ⟨lw_p95, fun _ h => absurd h List.not_mem_nil⟩⟩⟩⟩⟩⟩⟩⟩⟩⟩⟩⟩⟩⟩⟩⟩
theorem lw_p96 : lw_okq (⟨"TaskLevellerModel", "readsCommand", "()V"⟩, 23) := ⟨⟨by decide +kernel, by decide +kernel⟩, List.mem_of_getElem? (i := 1194) (by decide +kernel), List.mem_of_getElem? (i := 1626) (by decide +kernel), List.mem_of_getElem? (i := 1627) (by decide +kernel)⟩
theorem lw_p97 : lw_okq (⟨"TaskLevellerModel", "kindHere", "()I"⟩, 23) := ⟨⟨by decide +kernel, by decide +kernel⟩, List.mem_of_getElem? (i := 1194) (by decide +kernel), List.mem_of_getElem? (i := 1630) (by decide +kernel), List.mem_of_getElem? (i := 1631) (by decide +kernel)⟩
theorem lw_p98 : lw_okq (⟨"TaskLevellerModel", "readsTask", "(I)V"⟩, 23) := ⟨⟨by decide +kernel, by decide +kernel⟩, List.mem_of_getElem? (i := 1194) (by decide +kernel), List.mem_of_getElem? (i := 1639) (by decide +kernel), List.mem_of_getElem? (i := 1640) (by decide +kernel)⟩
theorem lw_p99 : lw_okq (⟨"TaskLevellerModel", "digit", "()I"⟩, 23) := ⟨⟨by decide +kernel, by decide +kernel⟩, List.mem_of_getElem? (i := 1194) (by decide +kernel), List.mem_of_getElem? (i := 1643) (by decide +kernel), List.mem_of_getElem? (i := 1644) (by decide +kernel)⟩
theorem lw_p100 : lw_okq (⟨"TaskLevellerModel", "reads", "(II)I"⟩, 23) := ⟨⟨by decide +kernel, by decide +kernel⟩, List.mem_of_getElem? (i := 1194) (by decide +kernel), List.mem_of_getElem? (i := 1647) (by decide +kernel), List.mem_of_getElem? (i := 1648) (by decide +kernel)⟩
theorem lw_p101 : lw_okq (⟨"TaskLevellerModel", "letterHere", "()I"⟩, 23) := ⟨⟨by decide +kernel, by decide +kernel⟩, List.mem_of_getElem? (i := 1194) (by decide +kernel), List.mem_of_getElem? (i := 1651) (by decide +kernel), List.mem_of_getElem? (i := 1652) (by decide +kernel)⟩
theorem lw_p102 : lw_okq (⟨"TaskLevellerModel", "sign", "(I)V"⟩, 23) := ⟨⟨by decide +kernel, by decide +kernel⟩, List.mem_of_getElem? (i := 1194) (by decide +kernel), List.mem_of_getElem? (i := 1655) (by decide +kernel), List.mem_of_getElem? (i := 1656) (by decide +kernel)⟩
theorem lw_p103 : lw_okq (⟨"TaskLevellerModel", "number", "()I"⟩, 23) := ⟨⟨by decide +kernel, by decide +kernel⟩, List.mem_of_getElem? (i := 1194) (by decide +kernel), List.mem_of_getElem? (i := 1659) (by decide +kernel), List.mem_of_getElem? (i := 1660) (by decide +kernel)⟩
theorem lw_p104 : lw_okq (⟨"TaskLevellerModel", "does", "(I)I"⟩, 23) := ⟨⟨by decide +kernel, by decide +kernel⟩, List.mem_of_getElem? (i := 1194) (by decide +kernel), List.mem_of_getElem? (i := 1663) (by decide +kernel), List.mem_of_getElem? (i := 1664) (by decide +kernel)⟩
theorem lw_p105 : lw_okq (⟨"TaskLevellerModel", "letterFor", "(I)I"⟩, 23) := ⟨⟨by decide +kernel, by decide +kernel⟩, List.mem_of_getElem? (i := 1194) (by decide +kernel), List.mem_of_getElem? (i := 1667) (by decide +kernel), List.mem_of_getElem? (i := 1668) (by decide +kernel)⟩
def lw_privs_7 : List (MethodName × Nat) := [(⟨"TaskLevellerModel", "readsCommand", "()V"⟩, 23), (⟨"TaskLevellerModel", "kindHere", "()I"⟩, 23), (⟨"TaskLevellerModel", "readsTask", "(I)V"⟩, 23), (⟨"TaskLevellerModel", "digit", "()I"⟩, 23), (⟨"TaskLevellerModel", "reads", "(II)I"⟩, 23), (⟨"TaskLevellerModel", "letterHere", "()I"⟩, 23), (⟨"TaskLevellerModel", "sign", "(I)V"⟩, 23), (⟨"TaskLevellerModel", "number", "()I"⟩, 23), (⟨"TaskLevellerModel", "does", "(I)I"⟩, 23), (⟨"TaskLevellerModel", "letterFor", "(I)I"⟩, 23)]
theorem lw_r7 : ∀ q ∈ lw_privs_7, lw_okq q := List.forall_mem_cons.mpr ⟨lw_p96, List.forall_mem_cons.mpr ⟨lw_p97, List.forall_mem_cons.mpr ⟨lw_p98, List.forall_mem_cons.mpr ⟨lw_p99, List.forall_mem_cons.mpr ⟨lw_p100, List.forall_mem_cons.mpr ⟨lw_p101, List.forall_mem_cons.mpr ⟨lw_p102, List.forall_mem_cons.mpr ⟨lw_p103, List.forall_mem_cons.mpr ⟨lw_p104, List.forall_mem_cons.mpr ⟨lw_p105, fun _ h => absurd h List.not_mem_nil⟩⟩⟩⟩⟩⟩⟩⟩⟩⟩
def lw_privs : List (MethodName × Nat) := lw_privs_1 ++ (lw_privs_2 ++ (lw_privs_3 ++ (lw_privs_4 ++ (lw_privs_5 ++ (lw_privs_6 ++ (lw_privs_7))))))
def lw_tbl : List Cond := k2_sels lw_privs ++ tables_1
theorem lw_privs_ok : ∀ q ∈ lw_privs, lw_okq q := by
  show ∀ q ∈ lw_privs_1 ++ (lw_privs_2 ++ (lw_privs_3 ++ (lw_privs_4 ++ (lw_privs_5 ++ (lw_privs_6 ++ (lw_privs_7)))))), lw_okq q
  exact List.forall_mem_append.mpr ⟨lw_r1, List.forall_mem_append.mpr ⟨lw_r2, List.forall_mem_append.mpr ⟨lw_r3, List.forall_mem_append.mpr ⟨lw_r4, List.forall_mem_append.mpr ⟨lw_r5, List.forall_mem_append.mpr ⟨lw_r6, lw_r7⟩⟩⟩⟩⟩⟩
/-- the streams that the claim lets the run draw from -/
abbrev lw_cs : List Choice := [Jvm.Choice.named "NaN.bits"]
theorem lw_bits : nanBits ∈ lw_cs := by first | decide | exact List.mem_cons_self | simp [lw_cs, nanBits]
end
section
/-! ===== BEGIN words of one list among another's, by their places ===== -/
theorem goodIn_r {big : List Cond} (ws : List Cond) (ps : List Nat) (hp : ws = ps.filterMap (fun i => big[i]?)) (h : ws.all goodWord = true) : GoodIn big ws := by
  intro w hw
  have h1 := List.all_eq_true.mp h w hw
  rw [hp] at hw
  obtain ⟨i, -, hi⟩ := List.mem_filterMap.mp hw
  have hm : w ∈ big := by first | exact List.mem_of_getElem? hi | exact List.getElem?_mem hi
  exact ⟨hm, good_of_word h1⟩
theorem goodIn_app {big a b : List Cond} (ha : GoodIn big a) (hb : GoodIn big b) : GoodIn big (a ++ b) := fun w h => (List.mem_append.mp h).elim (ha w) (hb w)
theorem goodIn_ca {big a b : List Cond} {c : Cond} (ha : GoodIn big (c :: a)) (hb : GoodIn big b) : GoodIn big (c :: (a ++ b)) := fun w h => (List.mem_cons.mp h).elim (fun e => ha w (List.mem_cons.mpr (Or.inl e))) (fun h => (List.mem_append.mp h).elim (fun h => ha w (List.mem_cons.mpr (Or.inr h))) (hb w))
theorem goodIn_sub {big ws : List Cond} (hm : ∀ w ∈ ws, w ∈ big) (h : ws.all goodWord = true) : GoodIn big ws := fun w hw => ⟨hm w hw, good_of_word (List.all_eq_true.mp h w hw)⟩
/-! ===== END ===== -/
/-! ===== BEGIN exceptions that leave a method, and their catching by the caller (launches without stack traces) ===== -/
section VXA
/-! The laws vx_back, vx_callV, vx_callS, vx_callSW, vx_throw0, vx_throwS follow proofs of the library, with one case more: JvmDerived/Free/Laws.lean (Back.of_free), Shelf42/LK1.lean (callV, callS), Shelf/KitTraced.lean (throwNew0V, throwNewS). -/
/-- where a method has thrown q: the class by its name, the cell, what was written, the world -/
def vx_T (XC : String → State → State → Prop) (st : State) (q : Addr) (t : State) (mc ms : Nat) (free : Addr → Prop) : Prop :=
  ∃ (E : String) (ce : Cell) (L : List Loc), XC E st t ∧ t.heap[q]? = some ce ∧ ce.vm = .none ∧ st.vm.findClass E = some ce.cls ∧ st.WarmedH t.vm ∧ st.sameButNew ({ t with vm := st.vm } : State) L mc ms ∧ ∀ z ∈ L, free z.base
def vx_Q (Qc : Array Value → State → Outcome → State → Prop) (XC : String → State → State → Prop) (mc ms : Nat) (free : Addr → Prop) : Array Value → State → Outcome → State → Prop := fun a st o t =>
  (Qc a st o t ∧ ∃ L, FrameEnd st o t L mc ms ∧ ∀ q ∈ L, free q.base) ∨ ∃ q, o = .threw q ∧ vx_T XC st q t mc ms free
/-- a callee that returns or throws -/
def vx_Met (l : Launch) (y : MethodName) (ws : List Cond) (rm : Room) (Pc : Array Value → State → Prop) (Qc : Array Value → State → Outcome → State → Prop) (XC : String → State → State → Prop) (mc ms : Nat) (free : Addr → Prop) : Prop :=
  MetFree l y (headSpec ws rm) Pc (fun _ _ _ _ _ => True) (vx_Q Qc XC mc ms free)
def vx_Post (XC : String → State → State → Prop) (mc ms : Nat) (free : Addr → Prop) : Pt → Array Value → Addr → Pt → Prop := fun A a q B =>
  ∃ (g : JFrame) (mk : MethodId) (t : State) (L : List Loc) (E : String) (ce : Cell), B.U.heap = t.heap ∧ B.U.vm = t.vm ∧ XC E (A.U.calling g mk a) t ∧ t.heap[q]? = some ce ∧ ce.vm = .none ∧ A.U.vm.findClass E = some ce.cls ∧ B.locs = A.locs ++ L ∧ (∀ z ∈ L, free z.base) ∧ B.cells = A.cells + mc ∧ B.slots = A.slots + ms
def vx_Back (l : Launch) (R : Room) (p : Program) (e : Env) (below : List Frame) (s : State) (sargs : Array Value) (y : MethodName) (len W9 : Nat)
    (Pre : Pt → Array Value → Prop) (Post : Pt → Array Value → Option Value → Pt → Prop) (PostX : Pt → Array Value → Addr → Pt → Prop) : Prop :=
  ∀ (m : MethodId) (meth : Method) (c : Code) (A : Pt) (g : JFrame) (ig : Instr) (mk : MethodId) (a : Array Value),
    Stand p l e R s m sargs below meth c A.U A.locs A.cells A.slots → g.method = m → g.locals.size = c.maxLocals → decode c.code g.pc = .ok (ig, len) →
    2 * g.monitorRoom + (g.stack.map fun v => v.category).sum ≤ W9 → A.U.methodNamed? y = some mk → Pre A a →
    (∃ (v : Option Value) (B : Pt), Stand p l e R s m sargs below meth c B.U B.locs B.cells B.slots ∧ Post A a v B ∧
      Steps p.tables e below (doInvoke e (A.U.setTop g) [] mk a).1 (B.U.setTop { g with pc := g.pc + len, stack := v.toList ++ g.stack })) ∨
    (∃ (q : Addr) (B : Pt), Stand p l e R s m sargs below meth c B.U B.locs B.cells B.slots ∧ PostX A a q B ∧
      Steps p.tables e below (doInvoke e (A.U.setTop g) [] mk a).1 ((B.U.setTop g).pushFrame (.throwing q)))
section Payer
variable {l : Launch} {R : Room} {p : Program} {e : Env} {below : List Frame} {s : State} {sargs : Array Value} {y : MethodName} {len W9 : Nat}
theorem vx_back {ws : List Cond} {rm : Room} {Pc : Array Value → State → Prop} {Qc : Array Value → State → Outcome → State → Prop} {XC : String → State → State → Prop} {mc ms : Nat} {free : Addr → Prop} {bytes : ByteArray} {maxL : Nat} {ret : Option FieldType}
    (hM : vx_Met l y ws rm Pc Qc XC mc ms free) (hblind : FrameBlind Pc) (hrc : rm.cells = mc) (hrs : rm.slots = ms)
    (hframes : rm.frames + 1 ≤ R.frames) (hlocals : W9 + (maxL + 11) + rm.locals ≤ R.locals)
    (hws : ∀ w ∈ ws, ∀ a' U, s.WarmedH U.vm → w.before a' U = true) (hcode : Cond.code y bytes maxL ret ∈ ws) (hinit : ∀ a' U, s.WarmedH U.vm → (Cond.initialized y.cls).before a' U = true) :
    vx_Back l R p e below s sargs y len W9 (PreOf R mc ms Pc) (PostOf Qc mc ms free) (vx_Post XC mc ms free) := by
  intro m meth c A g ig mk a X hg hsize hdg hW hn hp
  have h1 : (headSpec ws rm).pre.before a A.U = true := atoms_intro fun w hw => hws w hw _ _ X.warmed
  have h2 : (Cond.code y bytes maxL ret).before a A.U = true := hws _ hcode _ _ X.warmed
  have h3 : (Cond.initialized y.cls).before a A.U = true := hinit _ _ X.warmed
  have h4 : A.cells + (headSpec ws rm).room.cells ≤ R.cells := by rw [show (headSpec ws rm).room.cells = mc from hrc]; exact hp.1
  have h5 : A.slots + (headSpec ws rm).room.slots ≤ R.slots := by rw [show (headSpec ws rm).room.slots = ms from hrs]; exact hp.2.1
  have hPc : Pc a (A.U.calling g mk a) := hblind _ _ _ _ hp.2.2
  obtain ⟨U, Ls, c0, s0⟩ := A
  dsimp only [Pt.U, Pt.locs, Pt.cells, Pt.slots] at h1 h2 h3 h4 h5 X hn hPc ⊢
  obtain ⟨methY, cY, hmY, hcY, -, hlY, -, -, -, -⟩ := Cond.code_spec hn h2
  obtain ⟨kY, hkY, -⟩ := className_of_methodNamed hn
  have hinitY : kY.init = .initialized := Cond.initialized_spec (findClass_of_methodNamed hn) hkY h3
  have h : At U g.method c below := by rw [hg]; exact X.here
  have hlocals9 : W9 + (maxL + 11) + (headSpec ws rm).room.locals ≤ R.locals := hlocals
  have happ : (headSpec ws rm).appliesLoose y e.platform (U.calling g mk a) = true :=
    Spec.appliesLoose_calling (g := g) h hdg hn hkY hinitY
      (X.room_calling (g := g) (R' := (headSpec ws rm).room) hsize hmY hcY hframes (by rw [hlY]; omega) h4 h5) h1
  obtain ⟨mid, hmid⟩ := h.above
  have hfr : (U.setTop g).frames = (.java g :: mid) ++ below := by rw [State.frames_setTop' g h.top, hmid]; rfl
  obtain ⟨o, s₂, hsteps, -, hend, hq⟩ := Steps.callFree hM p X.admits X.cas X.clock (acts := []) hfr happ hPc trivial
  have hq' : vx_Q Qc XC mc ms free a (U.calling g mk a) o s₂ := hq
  rw [State.frames_setTop' g h.top] at hend
  obtain ⟨g₀, hg0⟩ := Option.isSome_iff_exists.mp h.top
  obtain ⟨r, hr⟩ := State.topJava?_eq_some.mp hg0
  have hr' : (({ U with heap := s₂.heap, slotsUsed := s₂.slotsUsed } : State).setVm s₂.vm).frames = .java g₀ :: r := hr
  rcases hq' with ⟨hqc, L, hfe, hL⟩ | ⟨q, rfl, E, ce, L, hx, hce, hcv, hcl, hW₂, hsm, hL⟩
  · obtain ⟨⟨v, rfl⟩, hW₂, e2, q2, q3, q4, q5, q6⟩ := id hfe
    have e3 : s₂ = ({ (U.calling g mk a).setFrames s₂.frames with heap := s₂.heap, slotsUsed := s₂.slotsUsed } : State).setVm s₂.vm := by
      have : s₂ = ({ s₂ with vm := (U.calling g mk a).vm } : State).setVm s₂.vm := rfl
      rw [e2] at this
      exact this
    obtain ⟨c₂, i₂, len₂, hc₂, hd₂, hf₂⟩ := hend
    have hW' : U.WarmedH s₂.vm := hW₂
    have hcc : c₂ = c := by
      have h1 : s₂.code? g.method = U.code? g.method := by
        rw [State.code?_eq, State.code?_eq, hW'.alike.method?]
      exact Option.some.inj (hc₂.symm.trans (h1.trans h.code))
    subst hcc
    have hlen : len₂ = len := by rw [hdg] at hd₂; cases hd₂; rfl
    subst hlen
    have hs₂ : s₂ = (({ U with heap := s₂.heap, slotsUsed := s₂.slotsUsed } : State).setVm s₂.vm).setTop { g with pc := g.pc + len₂, stack := v.toList ++ g.stack } := by
      refine e3.trans ?_
      rw [hf₂, State.calling_eq h.top, State.setFrames_setFrames, State.setTop_of_frames _ hr', hr]
      rfl
    have hsame : U.sameButNew ({ U with heap := s₂.heap, slotsUsed := s₂.slotsUsed } : State) L mc ms := by
      refine ⟨?_, q2, q3, q4, q5, q6⟩
      obtain ⟨t, ht, -⟩ := State.frames_cons hr
      show ({ U with heap := s₂.heap, slotsUsed := s₂.slotsUsed } : State) = { U.setFrames U.frames with heap := s₂.heap, slotsUsed := s₂.slotsUsed }
      rw [State.setFrames_self ht]
    subst hg
    refine Or.inl ⟨v, ⟨(({ U with heap := s₂.heap, slotsUsed := s₂.slotsUsed } : State).setVm s₂.vm), Ls ++ L, c0 + mc, s0 + ms⟩,
      ⟨X.admits, X.cas, X.clock, X.frames, X.room, X.hears, X.method, X.code, (X.here.setHeapUsed s₂.heap s₂.slotsUsed).setVm hW'.alike, X.tail, State.WarmedH.trans X.warmed hW', X.limits, X.bytes, X.same.trans (hsame.setVm s.vm)⟩,
      ⟨g, mk, s₂, L, rfl, rfl, hqc, rfl, hL, rfl, rfl⟩, ?_⟩
    show Steps p.tables e below _ ((({ U with heap := s₂.heap, slotsUsed := s₂.slotsUsed } : State).setVm s₂.vm).setTop { g with pc := g.pc + len₂, stack := v.toList ++ g.stack })
    rw [← hs₂]
    exact hsteps
  · obtain ⟨e2, q2, q3, q4, q5, q6⟩ := id hsm
    have e3 : s₂ = ({ (U.calling g mk a).setFrames s₂.frames with heap := s₂.heap, slotsUsed := s₂.slotsUsed } : State).setVm s₂.vm := by
      have : s₂ = ({ s₂ with vm := (U.calling g mk a).vm } : State).setVm s₂.vm := rfl
      rw [e2] at this
      exact this
    have hf₂ : s₂.frames = .throwing q :: .java g :: U.frames.tail := hend
    have hW' : U.WarmedH s₂.vm := hW₂
    have hs₂ : s₂ = ((({ U with heap := s₂.heap, slotsUsed := s₂.slotsUsed } : State).setVm s₂.vm).setTop g).pushFrame (.throwing q) := by
      refine e3.trans ?_
      rw [hf₂, State.calling_eq h.top, State.setFrames_setFrames, State.pushFrame, State.frames_setTop _ hr', State.setTop_of_frames _ hr', State.setFrames_setFrames, hr]
      rfl
    have hsame : U.sameButNew ({ U with heap := s₂.heap, slotsUsed := s₂.slotsUsed } : State) L mc ms := by
      refine ⟨?_, q2, q3, q4, q5, q6⟩
      obtain ⟨t, ht, -⟩ := State.frames_cons hr
      show ({ U with heap := s₂.heap, slotsUsed := s₂.slotsUsed } : State) = { U.setFrames U.frames with heap := s₂.heap, slotsUsed := s₂.slotsUsed }
      rw [State.setFrames_self ht]
    subst hg
    refine Or.inr ⟨q, ⟨(({ U with heap := s₂.heap, slotsUsed := s₂.slotsUsed } : State).setVm s₂.vm), Ls ++ L, c0 + mc, s0 + ms⟩,
      ⟨X.admits, X.cas, X.clock, X.frames, X.room, X.hears, X.method, X.code, (X.here.setHeapUsed s₂.heap s₂.slotsUsed).setVm hW'.alike, X.tail, State.WarmedH.trans X.warmed hW', X.limits, X.bytes, X.same.trans (hsame.setVm s.vm)⟩,
      ⟨g, mk, s₂, L, E, ce, rfl, rfl, hx, hce, hcv, hcl, rfl, hL, rfl, rfl⟩, ?_⟩
    show Steps p.tables e below _ (((({ U with heap := s₂.heap, slotsUsed := s₂.slotsUsed } : State).setVm s₂.vm).setTop g).pushFrame (.throwing q))
    rw [← hs₂]
    exact hsteps
end Payer
section Calls
variable {p : Program} {l : Launch} {e : Env} {R : Room} {s : State} {m : MethodId} {args : Array Value} {below : List Frame} {meth : Method} {c : Code} {T : State} {locs : List Loc} {cells slots : Nat}
theorem vx_callV (X : Stand p l e R s m args below meth c T locs cells slots) (hexec : p.tables.exec = Jvm.exec) {own C : String} {index : Nat} {y : MethodName} {bytes : ByteArray} {maxL : Nat} {ret : Option FieldType}
    (hown : s.vm.findClass own = some m.cls) (hlink : (Cond.methodLink own index y).before args s = true) (hinst : (Cond.instanceMethod y).before args s = true) (hsel : (Cond.selects C y y).before args s = true)
    (hcode : (Cond.code y bytes maxL ret).before args s = true) (hy : y.cls ≠ "java/lang/invoke/MethodHandle" ∧ y.cls ≠ "java/lang/invoke/VarHandle")
    {W9 : Nat} {Pre : Pt → Array Value → Prop} {Post : Pt → Array Value → Option Value → Pt → Prop} {PostX : Pt → Array Value → Addr → Pt → Prop} (hK : vx_Back l R p e below s args y 3 W9 Pre Post PostX)
    {b : Addr} {cellB : Cell} (hcell : T.heap[b]? = some cellB) (hobj : cellB.vm.isStatics = false) (hcls : s.vm.findClass C = some cellB.cls)
    {g : JFrame} (hg : g.method = m) (hsize : g.locals.size = c.maxLocals) {argsL rest : List Value} (hlen : ∀ sig, parseMethodDescriptor y.desc = some sig → argsL.length = sig.parameters.length)
    (hstack : g.stack = argsL.reverse ++ .ref b :: rest) (hW : 2 * g.monitorRoom + (rest.map fun v => v.category).sum ≤ W9) (hdg : decode c.code g.pc = .ok (.invokevirtual index, 3))
    (hpre : ∀ vm₁, s.WarmedH vm₁ → Pre ⟨T.setVm vm₁, locs, cells, slots⟩ (Value.ref b :: argsL).toArray) :
    (∃ (v : Option Value) (vm₁ : Vm) (B : Pt), s.WarmedH vm₁ ∧ Stand p l e R s m args below meth c B.U B.locs B.cells B.slots ∧ Post ⟨T.setVm vm₁, locs, cells, slots⟩ (Value.ref b :: argsL).toArray v B ∧
      ∀ target, Steps p.tables e below (B.U.setTop { g with pc := g.pc + 3, stack := v.toList ++ rest }) target → Steps p.tables e below (T.setTop g) target) ∨
    (∃ (q : Addr) (vm₁ : Vm) (B : Pt), s.WarmedH vm₁ ∧ Stand p l e R s m args below meth c B.U B.locs B.cells B.slots ∧ PostX ⟨T.setVm vm₁, locs, cells, slots⟩ (Value.ref b :: argsL).toArray q B ∧
      Steps p.tables e below (T.setTop g) ((B.U.setTop { g with stack := rest }).pushFrame (.throwing q))) := by
  obtain ⟨mk, methM, hnamed, hmethM, hstM, habM⟩ := Cond.instanceMethod_spec hinst
  obtain ⟨methM', cM, hmethM', -, -, -, -, -, -, hsigM⟩ := Cond.code_spec hnamed hcode
  cases hmethM.symm.trans hmethM'
  obtain ⟨c2, r2, m2, q1, q2, q3, q4, kP, hkP, hkPi⟩ := Cond.selects_spec hsel
  cases hcls.symm.trans q1
  cases (State.methodFound?_of_named hnamed hy).symm.trans q2
  cases hnamed.symm.trans q3
  have hselP : selectMethod e.platform s.vm cellB.cls mk = .method mk := by rw [Launch.admits_selectMethod X.admits]; exact q4
  obtain ⟨vm₁, X₁, hstep₁⟩ := X.invokevirtual hexec hown hlink hnamed hmethM hstM hkP hkPi hy (a := b) (cell := cellB) hcell
    (fun z h => by rw [h] at hobj; cases hobj) hselP hmethM habM hkP hkPi (g := g) hg (argsL := argsL) (rest := rest) (hlen _ hsigM) hstack hdg
  rcases hK m meth c ⟨T.setVm vm₁, locs, cells, slots⟩ { g with stack := rest } (.invokevirtual index) mk (Value.ref b :: argsL).toArray X₁ hg hsize hdg hW (X₁.named hnamed) (hpre vm₁ X₁.warmed) with ⟨v, B, X', hpost, hsteps⟩ | ⟨q, B, X', hpost, hsteps⟩
  · exact Or.inl ⟨v, vm₁, B, X₁.warmed, X', hpost, fun target h => hstep₁ _ fun acts => by rw [doInvoke_state]; exact hsteps.trans h⟩
  · exact Or.inr ⟨q, vm₁, B, X₁.warmed, X', hpost, hstep₁ _ fun acts => by rw [doInvoke_state]; exact hsteps⟩
theorem vx_callS (X : Stand p l e R s m args below meth c T locs cells slots) (hexec : p.tables.exec = Jvm.exec) {own : String} {index : Nat} {y : MethodName} {bytes : ByteArray} {maxL : Nat} {ret : Option FieldType}
    (hown : s.vm.findClass own = some m.cls) (hlink : (Cond.methodLink own index y).before args s = true) (hstat : (Cond.static y).before args s = true) (hinit : (Cond.initialized y.cls).before args s = true)
    (hcode : (Cond.code y bytes maxL ret).before args s = true) (hy : y.cls ≠ "java/lang/invoke/MethodHandle" ∧ y.cls ≠ "java/lang/invoke/VarHandle")
    {W9 : Nat} {Pre : Pt → Array Value → Prop} {Post : Pt → Array Value → Option Value → Pt → Prop} {PostX : Pt → Array Value → Addr → Pt → Prop} (hK : vx_Back l R p e below s args y 3 W9 Pre Post PostX)
    {g : JFrame} (hg : g.method = m) (hsize : g.locals.size = c.maxLocals) {argsL rest : List Value} (hlen : ∀ sig, parseMethodDescriptor y.desc = some sig → argsL.length = sig.parameters.length)
    (hstack : g.stack = argsL.reverse ++ rest) (hW : 2 * g.monitorRoom + (rest.map fun v => v.category).sum ≤ W9) (hdg : decode c.code g.pc = .ok (.invokestatic index, 3))
    (hpre : ∀ vm₁, s.WarmedH vm₁ → Pre ⟨T.setVm vm₁, locs, cells, slots⟩ argsL.toArray) :
    (∃ (v : Option Value) (vm₁ : Vm) (B : Pt), s.WarmedH vm₁ ∧ Stand p l e R s m args below meth c B.U B.locs B.cells B.slots ∧ Post ⟨T.setVm vm₁, locs, cells, slots⟩ argsL.toArray v B ∧
      ∀ target, Steps p.tables e below (B.U.setTop { g with pc := g.pc + 3, stack := v.toList ++ rest }) target → Steps p.tables e below (T.setTop g) target) ∨
    (∃ (q : Addr) (vm₁ : Vm) (B : Pt), s.WarmedH vm₁ ∧ Stand p l e R s m args below meth c B.U B.locs B.cells B.slots ∧ PostX ⟨T.setVm vm₁, locs, cells, slots⟩ argsL.toArray q B ∧
      Steps p.tables e below (T.setTop g) ((B.U.setTop { g with stack := rest }).pushFrame (.throwing q))) := by
  obtain ⟨mk, hnamed⟩ := Cond.code_named hcode
  obtain ⟨methM, cM, hmethM, -, -, -, -, -, -, hsigM⟩ := Cond.code_spec hnamed hcode
  have hstatic : methM.isStatic = true := Cond.static_spec hnamed hmethM hstat
  obtain ⟨kP, hkP, -⟩ := className_of_methodNamed hnamed
  have hinitP : kP.init = .initialized := Cond.initialized_spec (findClass_of_methodNamed hnamed) hkP hinit
  obtain ⟨vm₁, X₁, hstep₁⟩ := X.invokestatic hexec hown hlink hnamed hmethM hstatic hkP hinitP hy (g := g) hg (argsL := argsL) (rest := rest) (hlen _ hsigM) hstack hdg
  rcases hK m meth c ⟨T.setVm vm₁, locs, cells, slots⟩ { g with stack := rest } (.invokestatic index) mk argsL.toArray X₁ hg hsize hdg hW (X₁.named hnamed) (hpre vm₁ X₁.warmed) with ⟨v, B, X', hpost, hsteps⟩ | ⟨q, B, X', hpost, hsteps⟩
  · exact Or.inl ⟨v, vm₁, B, X₁.warmed, X', hpost, fun target h => hstep₁ _ fun acts => by rw [doInvoke_state]; exact hsteps.trans h⟩
  · exact Or.inr ⟨q, vm₁, B, X₁.warmed, X', hpost, hstep₁ _ fun acts => by rw [doInvoke_state]; exact hsteps⟩
end Calls
theorem vx_cls {s : State} {T : State} {vm₁ : Vm} {E : String} {k : ClassId} (hW : s.WarmedH vm₁) (h : (T.setVm vm₁).vm.findClass E = some k) : s.vm.findClass E = some k := by
  have h1 : vm₁.findClass E = some k := h
  rw [hW.alike.findClass] at h1
  exact h1
/-- the method's frame g, with q thrown over it -/
def vx_W (p : Program) (l : Launch) (e : Env) (R : Room) (s : State) (m : MethodId) (args : Array Value) (below : List Frame) (meth : Method) (c : Code) (H : Heap) (locs : List Loc) (cells slots : Nat) (Q : State → Prop) (g : JFrame) (q : Addr) : Prop :=
  ∀ T : State, T.heap = H → Stand p l e R s m args below meth c T locs cells slots → ∃ t, Steps p.tables e below ((T.setTop g).pushFrame (.throwing q)) t ∧ Q t
def vx_Run (p : Program) (l : Launch) (e : Env) (R : Room) (s : State) (m : MethodId) (args : Array Value) (below : List Frame) (meth : Method) (c : Code) (H : Heap) (locs : List Loc) (cells slots mc ms : Nat) (g : JFrame) (rest : List Value) (Qa : State → Outcome → State → Prop) (XC : String → State → State → Prop) (free : Addr → Prop) : Prop :=
  ∀ T : State, T.heap = H → Stand p l e R s m args below meth c T locs cells slots →
    (∃ (v : Option Value) (st₀ t T' : State) (L : List Loc), st₀.heap = H ∧ Stand p l e R s m args below meth c T' (locs ++ L) (cells + mc) (slots + ms) ∧ (∀ q ∈ L, free q.base) ∧ T'.heap = t.heap ∧ T'.vm = t.vm ∧ Qa st₀ (.returned v) t ∧
      Goes p e below T g T' { g with pc := g.pc + 3, stack := v.toList ++ rest }) ∨
    (∃ (q : Addr) (st₀ t T' : State) (L : List Loc) (E : String) (ce : Cell), st₀.heap = H ∧ Stand p l e R s m args below meth c T' (locs ++ L) (cells + mc) (slots + ms) ∧ (∀ z ∈ L, free z.base) ∧ T'.heap = t.heap ∧ T'.vm = t.vm ∧ XC E st₀ t ∧ t.heap[q]? = some ce ∧ ce.vm = .none ∧ s.vm.findClass E = some ce.cls ∧
      Steps p.tables e below (T.setTop g) ((T'.setTop { g with stack := rest }).pushFrame (.throwing q)))
def vx_X {S : Type} (px : S → Prop) (B : String → S → State → Prop) (A : Nat → Prop) : String → State → State → Prop := fun E st t => ∃ u : S, px u ∧ B E u t ∧ va_F A st t
section Runs
variable {p : Program} {l : Launch} {e : Env} {R : Room} {s : State} {m : MethodId} {args : Array Value} {below : List Frame} {meth : Method} {c : Code} {H : Heap} {locs : List Loc} {cells slots : Nat}
variable {y : MethodName} {bytes cc : ByteArray} {maxL nL mc ms n index : Nat} {ret : Option FieldType} {ws : List Cond} {rm : Room} {Pc : Array Value → State → Prop} {Qc : Array Value → State → Outcome → State → Prop} {XC : String → State → State → Prop} {free : Addr → Prop} {Ts : List Cond} {own C : String} {b : Addr} {As rest : List Value} {g : JFrame}
theorem vx_callBack (cb : CallB R s args own index y bytes maxL ret ws rm mc ms n) (hM : vx_Met l y ws rm Pc Qc XC mc ms free) (hbl : FrameBlind Pc) : vx_Back l R p e below s args y 3 8 (PreOf R mc ms Pc) (PostOf Qc mc ms free) (vx_Post XC mc ms free) := by
  obtain ⟨hrc, hrs, hfr, hlo, hws, hcw, -, hini, -⟩ := cb
  exact vx_back (bytes := bytes) (maxL := maxL) (ret := ret) hM hbl hrc hrs hfr hlo hws hcw (fun a' U hW => word_at hW (Or.inl (by first | rfl | simp [Cond.onTables, Cond.keeps, Cond.steady])) hini)
theorem vx_runV (S : CallFix p m c cc nL s args Ts own) (hM : vx_Met l y ws rm Pc Qc XC mc ms free) (cw : CallW R s args own C index y bytes maxL ret ws rm mc ms n) (hp : PreV s H C b Pc As)
    (hg : g.method = m) (hn : As.length = n) (hsize : g.locals.size = nL) (hstack : g.stack = As.reverse ++ .ref b :: rest) (hW : 2 * g.monitorRoom + (rest.map fun v => v.category).sum ≤ 8) (hdg : decode cc g.pc = .ok (.invokevirtual index, 3)) (hf : cells + mc ≤ R.cells ∧ slots + ms ≤ R.slots) :
    vx_Run p l e R s m args below meth c H locs cells slots mc ms g rest (Qc (Value.ref b :: As).toArray) XC free := by
  have hK : vx_Back l R p e below s args y 3 8 (PreOf R mc ms Pc) (PostOf Qc mc ms free) (vx_Post XC mc ms free) := vx_callBack cw.1 hM hp.1
  obtain ⟨⟨-, -, -, -, -, -, hcode, -, hy, hlen, hl⟩, hin, hse⟩ := cw
  obtain ⟨hx, hb, hml, ho, -⟩ := S
  obtain ⟨-, ⟨cellB, hcB, hoB, hclB⟩, hPc⟩ := hp
  intro T hT X
  rcases vx_callV X hx (C := C) (bytes := bytes) (maxL := maxL) (ret := ret) ho hl hin hse hcode hy hK (by rw [hT]; exact hcB) hoB hclB hg (hsize.trans hml.symm) (argsL := As) (rest := rest) (fun sig h => hn.trans (hlen sig h)) hstack hW (by rw [hb]; exact hdg)
    (fun vm₁ hW₁ => ⟨hf.1, hf.2, hPc (T.setVm vm₁) hT hW₁⟩) with ⟨v, vm₁, ⟨U', l2, c2, s2⟩, hW₁, X', ⟨g', mk, t, L, e1, e2, hq, h1, hL, h2, h3⟩, st⟩ | ⟨q, vm₁, ⟨U', l2, c2, s2⟩, hW₁, X', ⟨g', mk, t, L, E, ce, e1, e2, hq, hce, hcv, hcl, h1, hL, h2, h3⟩, st⟩
  · dsimp only [Pt.U, Pt.locs, Pt.cells, Pt.slots] at X' e1 e2 h1 h2 h3 st
    subst h1; subst h2; subst h3
    exact Or.inl ⟨v, (T.setVm vm₁).calling g' mk (Value.ref b :: As).toArray, t, U', L, hT, X', hL, e1, e2, hq, st⟩
  · dsimp only [Pt.U, Pt.locs, Pt.cells, Pt.slots] at X' e1 e2 h1 h2 h3 st hcl
    subst h1; subst h2; subst h3
    exact Or.inr ⟨q, (T.setVm vm₁).calling g' mk (Value.ref b :: As).toArray, t, U', L, E, ce, hT, X', hL, e1, e2, hq, hce, hcv, vx_cls hW₁ hcl, st⟩
theorem vx_runS (S : CallFix p m c cc nL s args Ts own) (hM : vx_Met l y ws rm Pc Qc XC mc ms free) (cw : CallB R s args own index y bytes maxL ret ws rm mc ms n ∧ (Cond.static y).before args s = true) (hp : PreS s H Pc As)
    (hg : g.method = m) (hn : As.length = n) (hsize : g.locals.size = nL) (hstack : g.stack = As.reverse ++ rest) (hW : 2 * g.monitorRoom + (rest.map fun v => v.category).sum ≤ 8) (hdg : decode cc g.pc = .ok (.invokestatic index, 3)) (hf : cells + mc ≤ R.cells ∧ slots + ms ≤ R.slots) :
    vx_Run p l e R s m args below meth c H locs cells slots mc ms g rest (Qc As.toArray) XC free := by
  have hK : vx_Back l R p e below s args y 3 8 (PreOf R mc ms Pc) (PostOf Qc mc ms free) (vx_Post XC mc ms free) := vx_callBack cw.1 hM hp.1
  obtain ⟨⟨-, -, -, -, -, -, hcode, hini, hy, hlen, hl⟩, hstt⟩ := cw
  obtain ⟨hx, hb, hml, ho, -⟩ := S
  intro T hT X
  rcases vx_callS X hx (bytes := bytes) (maxL := maxL) (ret := ret) ho hl hstt hini hcode hy hK hg (hsize.trans hml.symm) (argsL := As) (rest := rest) (fun sig h => hn.trans (hlen sig h)) hstack hW (by rw [hb]; exact hdg)
    (fun vm₁ hW₁ => ⟨hf.1, hf.2, hp.2 (T.setVm vm₁) hT hW₁⟩) with ⟨v, vm₁, ⟨U', l2, c2, s2⟩, hW₁, X', ⟨g', mk, t, L, e1, e2, hq, h1, hL, h2, h3⟩, st⟩ | ⟨q, vm₁, ⟨U', l2, c2, s2⟩, hW₁, X', ⟨g', mk, t, L, E, ce, e1, e2, hq, hce, hcv, hcl, h1, hL, h2, h3⟩, st⟩
  · dsimp only [Pt.U, Pt.locs, Pt.cells, Pt.slots] at X' e1 e2 h1 h2 h3 st
    subst h1; subst h2; subst h3
    exact Or.inl ⟨v, (T.setVm vm₁).calling g' mk As.toArray, t, U', L, hT, X', hL, e1, e2, hq, st⟩
  · dsimp only [Pt.U, Pt.locs, Pt.cells, Pt.slots] at X' e1 e2 h1 h2 h3 st hcl
    subst h1; subst h2; subst h3
    exact Or.inr ⟨q, (T.setVm vm₁).calling g' mk As.toArray, t, U', L, E, ce, hT, X', hL, e1, e2, hq, hce, hcv, vx_cls hW₁ hcl, st⟩
end Runs
section Rows
variable {p : Program} {l : Launch} {e : Env} {R : Room} {s : State} {m : MethodId} {args : Array Value} {below : List Frame} {meth : Method} {c : Code} {H : Heap} {locs : List Loc} {cells slots : Nat} {Q : State → Prop}
variable {mc ms : Nat} {free : Addr → Prop} {A0 A1 : Nat → Prop} {H0 : Heap} {a : Array Value} {pc : Nat} {ls : Array Slot} {st0 rest : List Value}
theorem vx_keep {st₀ t T' : State} {L : List Loc} (h0 : st₀.heap = H) (e1 : T'.heap = t.heap) (hS : va_S A0 H0 H locs) (hA : ∀ q, q < H.size → A1 q → A0 q) (hf : ∀ q, free q → A0 q) (hL : ∀ q ∈ L, free q.base) (hF : va_F A1 st₀ t) :
    H.size ≤ T'.heap.size ∧ (∀ q : Nat, q < H.size → ¬ A1 q → T'.heap[q]? = H[q]?) ∧ va_S A0 H0 T'.heap (locs ++ L) := by
  obtain ⟨hz, hk⟩ := hF
  rw [h0] at hz hk
  exact ⟨by rw [e1]; exact hz, fun q h1 h2 => by rw [e1]; exact hk q h1 h2,
    ⟨Nat.le_trans hS.1 (by rw [e1]; exact hz), fun q h1 h2 => by rw [e1, hk q (Nat.lt_of_lt_of_le h1 hS.1) (fun z => h2 (hA q (Nat.lt_of_lt_of_le h1 hS.1) z))]; exact hS.2.1 q h1 h2, fun q hq => by
      rcases List.mem_append.mp hq with h | h
      · exact hS.2.2 q h
      · exact hf _ (hL q h)⟩⟩
theorem vx_calli {S SX : Type} {post : Int32 → S → Prop} {px : SX → Prop} {B : S → State → Prop} {BX : String → SX → State → Prop} {AX : Nat → Prop} (hr : vx_Run p l e R s m args below meth c H locs cells slots mc ms (F0 m pc ls st0) rest (va_Qi post B A1 a) (vx_X px BX AX) free) (hS : va_S A0 H0 H locs) (hA : ∀ q, q < H.size → A1 q → A0 q) (hf : ∀ q, free q → A0 q) (hAX : ∀ q, q < H.size → AX q → A0 q)
    (kx : ∀ (E : String) (ce : Cell) (q9 : Addr) (u : SX) (t : State) (H1 : Heap) (locs1 : List Loc), t.heap = H1 → s.vm.Alike t.vm → px u → BX E u t → H.size ≤ H1.size → (∀ q : Nat, q < H.size → ¬ AX q → H1[q]? = H[q]?) → va_S A0 H0 H1 locs1 → H1[q9]? = some ce → ce.vm = .none → s.vm.findClass E = some ce.cls → vx_W p l e R s m args below meth c H1 locs1 (cells + mc) (slots + ms) Q (F0 m pc ls rest) q9)
    (kk : ∀ (r : Int32) (u : S) (t : State) (H1 : Heap) (locs1 : List Loc), t.heap = H1 → s.vm.Alike t.vm → post r u → B u t → H.size ≤ H1.size → (∀ q : Nat, q < H.size → ¬ A1 q → H1[q]? = H[q]?) → va_S A0 H0 H1 locs1 → W p l e R s m args below meth c H1 locs1 (cells + mc) (slots + ms) Q (F0 m (pc + 3) ls (.int r :: rest))) : W p l e R s m args below meth c H locs cells slots Q (F0 m pc ls st0) := by
  intro T hT X
  rcases hr T hT X with ⟨v, st₀, t, T', L, h0, X', hL, e1, e2, ⟨⟨r, u, hv, hp, hb⟩, hF⟩, st⟩ | ⟨q, st₀, t, T', L, E, ce, h0, X', hL, e1, e2, ⟨u, hp, hb, hF⟩, hce, hcv, hcl, st⟩
  · cases hv
    obtain ⟨k1, k2, k3⟩ := vx_keep h0 e1 hS hA hf hL hF
    obtain ⟨t2, a1, b1⟩ := kk r u t T'.heap (locs ++ L) e1.symm (by rw [← e2]; exact X'.warmed.alike) hp hb k1 k2 k3 T' rfl X'
    exact ⟨t2, st t2 a1, b1⟩
  · obtain ⟨k1, k2, k3⟩ := vx_keep h0 e1 hS hAX hf hL hF
    obtain ⟨t2, a1, b1⟩ := kx E ce q u t T'.heap (locs ++ L) e1.symm (by rw [← e2]; exact X'.warmed.alike) hp hb k1 k2 k3 (by rw [e1]; exact hce) hcv hcl T' rfl X'
    exact ⟨t2, st.trans a1, b1⟩
theorem vx_calll {S SX : Type} {post : Int64 → S → Prop} {px : SX → Prop} {B : S → State → Prop} {BX : String → SX → State → Prop} {AX : Nat → Prop} (hr : vx_Run p l e R s m args below meth c H locs cells slots mc ms (F0 m pc ls st0) rest (va_Ql post B A1 a) (vx_X px BX AX) free) (hS : va_S A0 H0 H locs) (hA : ∀ q, q < H.size → A1 q → A0 q) (hf : ∀ q, free q → A0 q) (hAX : ∀ q, q < H.size → AX q → A0 q)
    (kx : ∀ (E : String) (ce : Cell) (q9 : Addr) (u : SX) (t : State) (H1 : Heap) (locs1 : List Loc), t.heap = H1 → s.vm.Alike t.vm → px u → BX E u t → H.size ≤ H1.size → (∀ q : Nat, q < H.size → ¬ AX q → H1[q]? = H[q]?) → va_S A0 H0 H1 locs1 → H1[q9]? = some ce → ce.vm = .none → s.vm.findClass E = some ce.cls → vx_W p l e R s m args below meth c H1 locs1 (cells + mc) (slots + ms) Q (F0 m pc ls rest) q9)
    (kk : ∀ (r : Int64) (u : S) (t : State) (H1 : Heap) (locs1 : List Loc), t.heap = H1 → s.vm.Alike t.vm → post r u → B u t → H.size ≤ H1.size → (∀ q : Nat, q < H.size → ¬ A1 q → H1[q]? = H[q]?) → va_S A0 H0 H1 locs1 → W p l e R s m args below meth c H1 locs1 (cells + mc) (slots + ms) Q (F0 m (pc + 3) ls (.long r :: rest))) : W p l e R s m args below meth c H locs cells slots Q (F0 m pc ls st0) := by
  intro T hT X
  rcases hr T hT X with ⟨v, st₀, t, T', L, h0, X', hL, e1, e2, ⟨⟨r, u, hv, hp, hb⟩, hF⟩, st⟩ | ⟨q, st₀, t, T', L, E, ce, h0, X', hL, e1, e2, ⟨u, hp, hb, hF⟩, hce, hcv, hcl, st⟩
  · cases hv
    obtain ⟨k1, k2, k3⟩ := vx_keep h0 e1 hS hA hf hL hF
    obtain ⟨t2, a1, b1⟩ := kk r u t T'.heap (locs ++ L) e1.symm (by rw [← e2]; exact X'.warmed.alike) hp hb k1 k2 k3 T' rfl X'
    exact ⟨t2, st t2 a1, b1⟩
  · obtain ⟨k1, k2, k3⟩ := vx_keep h0 e1 hS hAX hf hL hF
    obtain ⟨t2, a1, b1⟩ := kx E ce q u t T'.heap (locs ++ L) e1.symm (by rw [← e2]; exact X'.warmed.alike) hp hb k1 k2 k3 (by rw [e1]; exact hce) hcv hcl T' rfl X'
    exact ⟨t2, st.trans a1, b1⟩
theorem vx_callf {S SX : Type} {post : UInt32 → S → Prop} {px : SX → Prop} {B : S → State → Prop} {BX : String → SX → State → Prop} {AX : Nat → Prop} (hr : vx_Run p l e R s m args below meth c H locs cells slots mc ms (F0 m pc ls st0) rest (va_Qf post B A1 a) (vx_X px BX AX) free) (hS : va_S A0 H0 H locs) (hA : ∀ q, q < H.size → A1 q → A0 q) (hf : ∀ q, free q → A0 q) (hAX : ∀ q, q < H.size → AX q → A0 q)
    (kx : ∀ (E : String) (ce : Cell) (q9 : Addr) (u : SX) (t : State) (H1 : Heap) (locs1 : List Loc), t.heap = H1 → s.vm.Alike t.vm → px u → BX E u t → H.size ≤ H1.size → (∀ q : Nat, q < H.size → ¬ AX q → H1[q]? = H[q]?) → va_S A0 H0 H1 locs1 → H1[q9]? = some ce → ce.vm = .none → s.vm.findClass E = some ce.cls → vx_W p l e R s m args below meth c H1 locs1 (cells + mc) (slots + ms) Q (F0 m pc ls rest) q9)
    (kk : ∀ (r : UInt32) (u : S) (t : State) (H1 : Heap) (locs1 : List Loc), t.heap = H1 → s.vm.Alike t.vm → post r u → B u t → H.size ≤ H1.size → (∀ q : Nat, q < H.size → ¬ A1 q → H1[q]? = H[q]?) → va_S A0 H0 H1 locs1 → W p l e R s m args below meth c H1 locs1 (cells + mc) (slots + ms) Q (F0 m (pc + 3) ls (.float r :: rest))) : W p l e R s m args below meth c H locs cells slots Q (F0 m pc ls st0) := by
  intro T hT X
  rcases hr T hT X with ⟨v, st₀, t, T', L, h0, X', hL, e1, e2, ⟨⟨r, u, hv, hp, hb⟩, hF⟩, st⟩ | ⟨q, st₀, t, T', L, E, ce, h0, X', hL, e1, e2, ⟨u, hp, hb, hF⟩, hce, hcv, hcl, st⟩
  · cases hv
    obtain ⟨k1, k2, k3⟩ := vx_keep h0 e1 hS hA hf hL hF
    obtain ⟨t2, a1, b1⟩ := kk r u t T'.heap (locs ++ L) e1.symm (by rw [← e2]; exact X'.warmed.alike) hp hb k1 k2 k3 T' rfl X'
    exact ⟨t2, st t2 a1, b1⟩
  · obtain ⟨k1, k2, k3⟩ := vx_keep h0 e1 hS hAX hf hL hF
    obtain ⟨t2, a1, b1⟩ := kx E ce q u t T'.heap (locs ++ L) e1.symm (by rw [← e2]; exact X'.warmed.alike) hp hb k1 k2 k3 (by rw [e1]; exact hce) hcv hcl T' rfl X'
    exact ⟨t2, st.trans a1, b1⟩
theorem vx_calld {S SX : Type} {post : UInt64 → S → Prop} {px : SX → Prop} {B : S → State → Prop} {BX : String → SX → State → Prop} {AX : Nat → Prop} (hr : vx_Run p l e R s m args below meth c H locs cells slots mc ms (F0 m pc ls st0) rest (va_Qd post B A1 a) (vx_X px BX AX) free) (hS : va_S A0 H0 H locs) (hA : ∀ q, q < H.size → A1 q → A0 q) (hf : ∀ q, free q → A0 q) (hAX : ∀ q, q < H.size → AX q → A0 q)
    (kx : ∀ (E : String) (ce : Cell) (q9 : Addr) (u : SX) (t : State) (H1 : Heap) (locs1 : List Loc), t.heap = H1 → s.vm.Alike t.vm → px u → BX E u t → H.size ≤ H1.size → (∀ q : Nat, q < H.size → ¬ AX q → H1[q]? = H[q]?) → va_S A0 H0 H1 locs1 → H1[q9]? = some ce → ce.vm = .none → s.vm.findClass E = some ce.cls → vx_W p l e R s m args below meth c H1 locs1 (cells + mc) (slots + ms) Q (F0 m pc ls rest) q9)
    (kk : ∀ (r : UInt64) (u : S) (t : State) (H1 : Heap) (locs1 : List Loc), t.heap = H1 → s.vm.Alike t.vm → post r u → B u t → H.size ≤ H1.size → (∀ q : Nat, q < H.size → ¬ A1 q → H1[q]? = H[q]?) → va_S A0 H0 H1 locs1 → W p l e R s m args below meth c H1 locs1 (cells + mc) (slots + ms) Q (F0 m (pc + 3) ls (.double r :: rest))) : W p l e R s m args below meth c H locs cells slots Q (F0 m pc ls st0) := by
  intro T hT X
  rcases hr T hT X with ⟨v, st₀, t, T', L, h0, X', hL, e1, e2, ⟨⟨r, u, hv, hp, hb⟩, hF⟩, st⟩ | ⟨q, st₀, t, T', L, E, ce, h0, X', hL, e1, e2, ⟨u, hp, hb, hF⟩, hce, hcv, hcl, st⟩
  · cases hv
    obtain ⟨k1, k2, k3⟩ := vx_keep h0 e1 hS hA hf hL hF
    obtain ⟨t2, a1, b1⟩ := kk r u t T'.heap (locs ++ L) e1.symm (by rw [← e2]; exact X'.warmed.alike) hp hb k1 k2 k3 T' rfl X'
    exact ⟨t2, st t2 a1, b1⟩
  · obtain ⟨k1, k2, k3⟩ := vx_keep h0 e1 hS hAX hf hL hF
    obtain ⟨t2, a1, b1⟩ := kx E ce q u t T'.heap (locs ++ L) e1.symm (by rw [← e2]; exact X'.warmed.alike) hp hb k1 k2 k3 (by rw [e1]; exact hce) hcv hcl T' rfl X'
    exact ⟨t2, st.trans a1, b1⟩
theorem vx_callv {S SX : Type} {post : S → Prop} {px : SX → Prop} {B : S → State → Prop} {BX : String → SX → State → Prop} {AX : Nat → Prop} (hr : vx_Run p l e R s m args below meth c H locs cells slots mc ms (F0 m pc ls st0) rest (va_Qv post B A1 a) (vx_X px BX AX) free) (hS : va_S A0 H0 H locs) (hA : ∀ q, q < H.size → A1 q → A0 q) (hf : ∀ q, free q → A0 q) (hAX : ∀ q, q < H.size → AX q → A0 q)
    (kx : ∀ (E : String) (ce : Cell) (q9 : Addr) (u : SX) (t : State) (H1 : Heap) (locs1 : List Loc), t.heap = H1 → s.vm.Alike t.vm → px u → BX E u t → H.size ≤ H1.size → (∀ q : Nat, q < H.size → ¬ AX q → H1[q]? = H[q]?) → va_S A0 H0 H1 locs1 → H1[q9]? = some ce → ce.vm = .none → s.vm.findClass E = some ce.cls → vx_W p l e R s m args below meth c H1 locs1 (cells + mc) (slots + ms) Q (F0 m pc ls rest) q9)
    (kk : ∀ (u : S) (t : State) (H1 : Heap) (locs1 : List Loc), t.heap = H1 → s.vm.Alike t.vm → post u → B u t → H.size ≤ H1.size → (∀ q : Nat, q < H.size → ¬ A1 q → H1[q]? = H[q]?) → va_S A0 H0 H1 locs1 → W p l e R s m args below meth c H1 locs1 (cells + mc) (slots + ms) Q (F0 m (pc + 3) ls (rest))) : W p l e R s m args below meth c H locs cells slots Q (F0 m pc ls st0) := by
  intro T hT X
  rcases hr T hT X with ⟨v, st₀, t, T', L, h0, X', hL, e1, e2, ⟨⟨u, hv, hp, hb⟩, hF⟩, st⟩ | ⟨q, st₀, t, T', L, E, ce, h0, X', hL, e1, e2, ⟨u, hp, hb, hF⟩, hce, hcv, hcl, st⟩
  · cases hv
    obtain ⟨k1, k2, k3⟩ := vx_keep h0 e1 hS hA hf hL hF
    obtain ⟨t2, a1, b1⟩ := kk u t T'.heap (locs ++ L) e1.symm (by rw [← e2]; exact X'.warmed.alike) hp hb k1 k2 k3 T' rfl X'
    exact ⟨t2, st t2 a1, b1⟩
  · obtain ⟨k1, k2, k3⟩ := vx_keep h0 e1 hS hAX hf hL hF
    obtain ⟨t2, a1, b1⟩ := kx E ce q u t T'.heap (locs ++ L) e1.symm (by rw [← e2]; exact X'.warmed.alike) hp hb k1 k2 k3 (by rw [e1]; exact hce) hcv hcl T' rfl X'
    exact ⟨t2, st.trans a1, b1⟩
/-- caught by the row x of this method's table; the rows ahead don't take it -/
theorem vx_catch {own name : String} {E : String} {ce : Cell} {q : Addr} (hown : s.vm.findClass own = some m.cls) (pre : List ExceptionTableEntry) (x : ExceptionTableEntry) (suf : List ExceptionTableEntry) (hsplit : c.exceptionTable.toList = pre ++ x :: suf)
    (hpass : ∀ z ∈ pre, covers z pc = false ∨ (z.catchType ≠ 0 ∧ ∃ nm : String, (Cond.classLink own z.catchType nm).before args s = true ∧ va_Nc E nm s)) (hx : covers x pc = true) (h0 : x.catchType ≠ 0)
    (hlink : (Cond.classLink own x.catchType name).before args s = true) (hcast : (Cond.castable E name).before args s = true) (hcell : H[q]? = some ce) (hv : ce.vm = .none) (hcl : s.vm.findClass E = some ce.cls)
    (kk : W p l e R s m args below meth c H locs cells slots Q (F0 m x.handlerPc ls [.ref q])) : vx_W p l e R s m args below meth c H locs cells slots Q (F0 m pc ls rest) q := by
  intro T hT X
  have hpl : e.platform.magicAccessors = ({} : Platform).magicAccessors := by rw [X.admits.platform]
  obtain ⟨c3, c4, hc3, hc4, hasg⟩ := Cond.castable_spec hcast
  cases Option.some.inj (hc3.symm.trans hcl)
  obtain ⟨c5, hc5, hcl5⟩ := Cond.classLink_spec hown hlink e.platform hpl
  cases Option.some.inj (hc4.symm.trans hc5)
  obtain ⟨vm', X', st⟩ := X.thenCaughtThrough q (g := F0 m pc ls rest) rfl (Steps.refl _) (by rw [hT]; exact hcell) (by rw [hv]; rfl) (by obtain ⟨k9, h9, -⟩ := Vm.findClass_spec hcl; exact ⟨k9, h9⟩) pre x suf hsplit
    (fun z hz => by
      rcases hpass z hz with h | ⟨hz0, nm, hl1, hn1⟩
      · exact Or.inl h
      · obtain ⟨c6, hc6, hcl6⟩ := Cond.classLink_spec hown hl1 e.platform hpl
        obtain ⟨a8, b8, h1, h2, h3⟩ := hn1
        cases Option.some.inj (h1.symm.trans hcl)
        cases Option.some.inj (h2.symm.trans hc6)
        exact Or.inr ⟨hz0, _, hcl6, h3⟩) hx (Or.inr ⟨h0, c4, hcl5, hasg⟩)
  obtain ⟨t, a1, b1⟩ := kk (T.setVm vm') hT X'
  exact ⟨t, st.trans a1, b1⟩
end Rows
section Ends
variable {p : Program} {l : Launch} {e : Env} {R : Room} {s : State} {m : MethodId} {args : Array Value} {below : List Frame} {meth : Method} {c : Code} {H : Heap} {locs : List Loc} {cells slots : Nat} {Q : State → Prop}
variable {mc ms : Nat} {free : Addr → Prop} {A0 A1 : Nat → Prop} {H0 : Heap} {a : Array Value} {ls : Array Slot} {st0 rest : List Value}
variable {Qc : Array Value → State → Outcome → State → Prop} {XC : String → State → State → Prop}
/-- what a body that may throw owes at its end -/
def vx_MQ (below : List Frame) (Qc : Array Value → State → Outcome → State → Prop) (XC : String → State → State → Prop) (a : Array Value) (s : State) (mc ms : Nat) (free : Addr → Prop) : State → Prop := fun t =>
  ∃ o, t.status = .running ∧ Ended t below o ∧ vx_Q Qc XC mc ms free a s o t
theorem vx_ret {g : JFrame} {mc ms : Nat} (k : W p l e R s m args below meth c H locs cells slots (MQ below Qc args s mc ms free) g) : W p l e R s m args below meth c H locs cells slots (vx_MQ below Qc XC args s mc ms free) g := by
  intro T hT X
  obtain ⟨t, a1, o, b1, b2, b3, b4⟩ := k T hT X
  exact ⟨t, a1, o, b1, b2, Or.inl ⟨b3, b4⟩⟩
/-- not caught here: it goes on to the caller -/
theorem vx_widen {g : JFrame} {q : Addr} {k n : Nat} (h1 : cells ≤ k) (h2 : slots ≤ n) (kk : vx_W p l e R s m args below meth c H locs k n Q g q) : vx_W p l e R s m args below meth c H locs cells slots Q g q := fun T hT X => kk T hT (stand_widen X h1 h2)
theorem vx_out {pc : Nat} {E : String} {ce : Cell} {q : Addr} {mc ms : Nat} (hout : ∀ x ∈ c.exceptionTable.toList, covers x pc = false) (hlocks : meth.locks = false) (hcell : H[q]? = some ce) (hv : ce.vm = .none) (hcl : s.vm.findClass E = some ce.cls)
    (hx : ∀ t : State, t.heap = H → s.vm.Alike t.vm → XC E s t) (hf : ∀ z ∈ locs, free z.base) (hc : cells ≤ mc) (hs : slots ≤ ms) :
    vx_W p l e R s m args below meth c H locs cells slots (vx_MQ below Qc XC args s mc ms free) (F0 m pc ls rest) q := by
  intro T hT X
  obtain ⟨st1, hrun, hend, hW, hsm⟩ := X.leaveThrown q (g := F0 m pc ls rest) rfl rfl rfl hout hlocks
  have hcell9 : (T.setFrames (.throwing q :: below)).heap[q]? = some ce := by
    show T.heap[q]? = some ce
    rw [hT]; exact hcell
  exact ⟨_, st1, .threw q, hrun, hend, Or.inr ⟨q, rfl, E, ce, locs, hx _ hT hW.alike, hcell9, hv, hcl, hW, hsm.mono hc hs, hf⟩⟩
theorem vx_frame {U : State} {k n : Nat} (h : s.sameButNew ({ U with vm := s.vm } : State) locs k n) : s.heap.size ≤ U.heap.size ∧ ∀ q : Nat, q < s.heap.size → (∀ z ∈ locs, z.base ≠ q) → U.heap[q]? = s.heap[q]? := by
  obtain ⟨-, h2, -, -, -, h6⟩ := h
  refine ⟨h2, fun q hq hz => ?_⟩
  obtain ⟨c9, e1, e2, e3, e4⟩ := h6 q _ (Array.getElem?_eq_getElem hq)
  have hs : c9.slots = (s.heap[q]).slots := Array.ext_getElem? fun i => e4 i fun hm => hz _ hm rfl
  have h9 : c9 = s.heap[q] := by
    rw [hs] at e2
    exact e2
  have e5 : U.heap[q]? = some c9 := e1
  rw [e5, h9, Array.getElem?_eq_getElem hq]
/-- the words of a throw but the four that speak of the heap -/
def vx_no (w : Cond) : Bool := decide (w ≠ .isRef (.static Bundle.tN "UNASSIGNED_STACK" Bundle.steD)) && decide (w ≠ .isRef (.static Bundle.tN "SUPPRESSED_SENTINEL" Bundle.listD)) && decide (w ≠ .laysStatic Bundle.tN "UNASSIGNED_STACK" Bundle.steD) && decide (w ≠ .laysStatic Bundle.tN "SUPPRESSED_SENTINEL" Bundle.listD)
def vx_at0 (own : String) (ic : Nat) (X : String) (names : List String) : List Cond := (Bundle.ownAtoms0 own ic X names).filter vx_no
def vx_atS (own : String) (ic : Nat) (X : String) (names : List String) : List Cond := (Bundle.ownAtoms own ic X names).filter vx_no
/-- a word that the tables alone decide, or a good one -/
def vx_ot (w : Cond) : Bool := w.onTables || goodWord w
theorem vx_ot_at {args a' : Array Value} {s U : State} {w : Cond} (hW : s.WarmedH U.vm) (hvm : s.vm = U.vm) (hg : vx_ot w = true) (h : w.before args s = true) : w.before a' U = true := by
  simp only [vx_ot, Bool.or_eq_true] at hg
  rcases hg with hg | hg
  · exact va_tabs hg hvm h
  · exact word_at hW (good_of_word hg) h
/-- a list's words: the good ones out of the method's own list, the others by premises of their own -/
theorem vx_hat {args : Array Value} {s : State} {L B : List Cond} (h1 : ∀ w ∈ L.filter goodWord, w.before args s = true) (h2 : ∀ w ∈ L.filter (fun w => !goodWord w), w ∈ B) (h3 : ∀ w ∈ B, w.before args s = true) : ∀ w ∈ L, w.before args s = true := by
  intro w hw
  by_cases g : goodWord w = true
  · exact h1 w (List.mem_filter.mpr ⟨hw, g⟩)
  · refine h3 w (h2 w (List.mem_filter.mpr ⟨hw, ?_⟩))
    show (!goodWord w) = true
    cases hgw : goodWord w
    · rfl
    · exact absurd hgw g
theorem vx_c {args : Array Value} {s : State} {w : Cond} {B : List Cond} (h : w.before args s = true) (t : ∀ w ∈ B, w.before args s = true) : ∀ w' ∈ w :: B, w'.before args s = true := fun w' h' => (List.mem_cons.mp h').elim (fun e => by rw [e]; exact h) (t w')
theorem vx_n {args : Array Value} {s : State} : ∀ w ∈ ([] : List Cond), w.before args s = true := fun _ h => nomatch h
theorem vx_own {args : Array Value} {s : State} {L : List Cond} (h1 : ∀ w ∈ L.filter vx_no, w.before args s = true)
    (hU : (Cond.isRef (.static Bundle.tN "UNASSIGNED_STACK" Bundle.steD)).before args s = true) (hN : (Cond.isRef (.static Bundle.tN "SUPPRESSED_SENTINEL" Bundle.listD)).before args s = true)
    (lU : (Cond.laysStatic Bundle.tN "UNASSIGNED_STACK" Bundle.steD).before args s = true) (lN : (Cond.laysStatic Bundle.tN "SUPPRESSED_SENTINEL" Bundle.listD).before args s = true) : ∀ w ∈ L, w.before args s = true := by
  intro w hw
  by_cases e1 : w = .isRef (.static Bundle.tN "UNASSIGNED_STACK" Bundle.steD)
  · rw [e1]; exact hU
  · by_cases e2 : w = .isRef (.static Bundle.tN "SUPPRESSED_SENTINEL" Bundle.listD)
    · rw [e2]; exact hN
    · by_cases e3 : w = .laysStatic Bundle.tN "UNASSIGNED_STACK" Bundle.steD
      · rw [e3]; exact lU
      · by_cases e4 : w = .laysStatic Bundle.tN "SUPPRESSED_SENTINEL" Bundle.listD
        · rw [e4]; exact lN
        · exact h1 w (List.mem_filter.mpr ⟨hw, by unfold vx_no; rw [decide_eq_true e1, decide_eq_true e2, decide_eq_true e3, decide_eq_true e4]; rfl⟩)
/-- where a static field lies, its class's statics cell in H -/
def vx_L (C n d : String) (A : Nat → Prop) (U : State) (H : Heap) : Prop := ∃ (c : ClassId) (k : Class) (i : Nat) (f : Field) (a : Nat) (cell : Cell), U.vm.findClass C = some c ∧ U.fieldFound? C n d = some (c, k, i, f) ∧ f.isStatic = true ∧ k.statics = some a ∧ H[a]? = some cell ∧ cell.vm.isStatics = true ∧ cell.cls = c ∧ f.slot < cell.slots.size ∧ k.staticTypes[f.slot]? = some f.type ∧ ¬ A a
theorem vx_L.moved {C n d : String} {A : Nat → Prop} {u U : State} {H : Heap} (hvm : u.vm.Alike U.vm) (h : vx_L C n d A u H) : vx_L C n d A U H := by
  obtain ⟨c, k, i, f, a, cell, h1, h2, h3, h4, h5, h6, h7, h8, h9, h10⟩ := h
  obtain ⟨k', hi', he⟩ := State.fieldFound?_setVm hvm h2
  exact ⟨c, k', i, f, a, cell, by rw [hvm.findClass]; exact h1, hi', h3, by rw [he]; exact h4, h5, h6, h7, h8, by rw [he]; exact h9, h10⟩
theorem vx_L.kept {C n d : String} {A : Nat → Prop} {U : State} {H H1 : Heap} (h : vx_L C n d A U H) (hq : ∀ a : Nat, a < H.size → ¬ A a → H1[a]? = H[a]?) : vx_L C n d A U H1 := by
  obtain ⟨c, k, i, f, a, cell, h1, h2, h3, h4, h5, h6, h7, h8, h9, h10⟩ := h
  exact ⟨c, k, i, f, a, cell, h1, h2, h3, h4, by rw [hq a (Array.getElem?_eq_some_iff.mp h5).1 h10]; exact h5, h6, h7, h8, h9, h10⟩
theorem vx_L.narrow {C n d : String} {A B : Nat → Prop} {U : State} {H : Heap} (h : vx_L C n d A U H) (hAB : ∀ q, B q → A q) : vx_L C n d B U H := by
  obtain ⟨c, k, i, f, a, cell, h1, h2, h3, h4, h5, h6, h7, h8, h9, h10⟩ := h
  exact ⟨c, k, i, f, a, cell, h1, h2, h3, h4, h5, h6, h7, h8, h9, fun z => h10 (hAB _ z)⟩
theorem vx_L.word {C n d : String} {A : Nat → Prop} {s : State} {args : Array Value} (h : vx_L C n d A s s.heap) : (Cond.laysStatic C n d).before args s = true := by
  obtain ⟨c, k, i, f, a, cell, h1, h2, h3, h4, h5, h6, h7, h8, h9, -⟩ := h
  show (Cond.laysStatic C n d).holds args s none s [] = true
  exact Cond.laysStatic_of h1 h2 h3 h4 h5 h6 h7 h8 h9
/-- .. and what it holds: null or some reference -/
def vx_Zq (C n d : String) (A : Nat → Prop) (U : State) (H : Heap) : Prop := va_Zq C n d A U H ∧ vx_L C n d A U H
theorem vx_Zq.moved {C n d : String} {A : Nat → Prop} {u U : State} {H : Heap} (hvm : u.vm.Alike U.vm) (h : vx_Zq C n d A u H) : vx_Zq C n d A U H := ⟨va_Zq.moved hvm h.1, vx_L.moved hvm h.2⟩
theorem vx_Zq.kept {C n d : String} {A : Nat → Prop} {U : State} {H H1 : Heap} (h : vx_Zq C n d A U H) (hq : ∀ a : Nat, a < H.size → ¬ A a → H1[a]? = H[a]?) : vx_Zq C n d A U H1 := ⟨va_Zq.kept h.1 hq, vx_L.kept h.2 hq⟩
theorem vx_Zq.narrow {C n d : String} {A B : Nat → Prop} {U : State} {H : Heap} (h : vx_Zq C n d A U H) (hAB : ∀ q, B q → A q) : vx_Zq C n d B U H := ⟨va_Zq.narrow h.1 hAB, vx_L.narrow h.2 hAB⟩
theorem vx_Zqof {args : Array Value} {s : State} {C n d : String} {A : Nat → Prop} (hl : (Cond.laysStatic C n d).before args s = true) (hini : (Cond.initialized C).before args s = true) (h : (Cond.isRef (.static C n d)).before args s = true) (hA : ∀ a : Nat, a < s.heap.size → ¬ A a) : vx_Zq C n d A s s.heap := by
  refine ⟨va_Zqof hl hini h hA, ?_⟩
  obtain ⟨c, k, i, f, a, cell, h1, h2, h3, h4, h5, h6, h7, h8, h9⟩ := Cond.laysStatic_spec hl
  exact ⟨c, k, i, f, a, cell, h1, h2, h3, h4, h5, h6, h7, h8, h9, hA a (Array.getElem?_eq_some_iff.mp h5).1⟩
theorem vx_isRef {C n d : String} {v : Value} {A : Nat → Prop} {s : State} {args : Array Value} (h : va_Z C n d v A s s.heap) (hv : v.isRef = true) : (Cond.isRef (.static C n d)).before args s = true := by
  obtain ⟨cf, kf, fi, f, a, cell, h1, h2, h3, h4, h5, h6, h7, -⟩ := h
  have he : (Term.static C n d).eval args s none [] s = some v := by
    simp [Term.eval, State.fieldNamed?, h1, h2, h4, h5, h6, h7]
  simp only [Cond.before, Cond.holds, Cond.value, he]
  cases v <;> simp_all [Value.isRef]
theorem vx_isRefq {C n d : String} {A : Nat → Prop} {s : State} {args : Array Value} (h : va_Zq C n d A s s.heap) : (Cond.isRef (.static C n d)).before args s = true := by
  rcases h with h | ⟨t, h⟩
  · exact vx_isRef h rfl
  · exact vx_isRef h rfl
/-- the same frame, seen from here: as if the method were called anew in this heap -/
theorem vx_rebase {T : State} (X : Stand p l e R s m args below meth c T locs cells slots) {R' : Room} (hf : R'.frames ≤ R.frames) (hl : R'.locals ≤ R.locals) (hc : cells + R'.cells ≤ R.cells) (hs : slots + R'.slots ≤ R.slots) :
    Stand p l e R' ((T.setVm s.vm).setFrames (.invoking m args :: below)) m args below meth c T [] 0 0 := by
  have htop : (T.setVm s.vm).topJava?.isSome := X.here.top
  have hF : ((T.setVm s.vm).setFrames (.invoking m args :: below)).frames = .invoking m args :: below := State.frames_setFrames _ (State.cur_lt_of_top htop)
  obtain ⟨g₀, hg0⟩ := Option.isSome_iff_exists.mp htop
  obtain ⟨r, hr⟩ := State.topJava?_eq_some.mp hg0
  have hl9 : e.platform.stackLimits (T.setVm s.vm).me = e.platform.stackLimits s.me := X.limits
  have hb9 : (T.setVm s.vm).me.stackBytes = s.me.stackBytes := X.bytes
  refine ⟨X.admits, X.cas, X.clock, hF, ?_, X.hears, X.method, X.code, X.here, X.tail, X.warmed, ?_, ?_, ?_⟩
  · have h := X.room
    have hU : ((T.setVm s.vm).setFrames (.invoking m args :: below)).localsInUse = s.localsInUse := by
      rw [State.localsInUse_invoking hF (meth := meth) (c := c) X.method X.code, State.localsInUse_invoking X.frames X.method X.code]
    simp only [State.hasRoom, Bool.and_eq_true, decide_eq_true_eq] at h ⊢
    obtain ⟨⟨⟨⟨h1, h2, h3, h4, h5, h6⟩, h7⟩, h8⟩, h9⟩ := h
    rw [X.frames, List.length_cons] at h2 h3
    have q1 := X.heapSize
    have q2 := X.used
    simp only [hF, hU, List.length_cons, State.stackLimits_setFrames, State.stackBytes_setFrames, hl9, hb9]
    refine ⟨⟨⟨⟨by omega, by omega, by omega, by omega, by omega, h6⟩, ?_⟩, ?_⟩, X.book⟩
    · show T.heap.size + R'.cells ≤ e.platform.maxCells
      omega
    · show T.slotsUsed + R'.slots ≤ e.platform.maxSlots
      omega
  · rw [State.stackLimits_setFrames]; rfl
  · rw [State.stackBytes_setFrames]; rfl
  · refine ⟨?_, Nat.le_refl _, Nat.le_refl _, ?_, ?_, fun a c9 h9 => ⟨c9, h9, rfl, rfl, fun _ _ => rfl⟩⟩
    · obtain ⟨t, ht, -⟩ := State.frames_cons hr
      show T.setVm s.vm = { ((T.setVm s.vm).setFrames (.invoking m args :: below)).setFrames (T.setVm s.vm).frames with heap := T.heap, slotsUsed := T.slotsUsed }
      rw [State.setFrames_setFrames, State.setFrames_self ht]
      rfl
    · show T.slotsUsed = T.slotsUsed + ((T.heap.toList.drop T.heap.size).map (·.slots.size)).sum
      rw [List.drop_eq_nil_of_le (Nat.le_of_eq Array.length_toList)]
      rfl
    · show ((T.heap.toList.drop T.heap.size).map (·.slots.size)).sum ≤ 0
      rw [List.drop_eq_nil_of_le (Nat.le_of_eq Array.length_toList)]
      exact Nat.le_refl _
/-- 'throw new E()': new; dup; invokespecial; athrow -/
theorem vx_throw0 {cc : ByteArray} {pc : Nat} (hexec : p.tables.exec = Jvm.exec) (hb : c.code = cc) (hl : l.stackTraces = false) {own cls : String} {names : List String} {ik ic mc ms : Nat} {A : Nat → Prop}
    (hown : s.vm.findClass own = some m.cls) (hcls : Bundle.fit cls = true) (hnames : ∀ n ∈ names, Bundle.fit n = true)
    (hk : (Cond.classLink own ik cls).before args s = true) (hini : (Cond.initialized cls).before args s = true) (hat : ∀ w ∈ vx_at0 own ic cls names, w.before args s = true)
    (hgood : ∀ w ∈ Cond.classLink own ik cls :: Cond.initialized cls :: vx_at0 own ic cls names, vx_ot w = true)
    (hU : vx_Zq Bundle.tN "UNASSIGNED_STACK" Bundle.steD A s s.heap) (hN : vx_Zq Bundle.tN "SUPPRESSED_SENTINEL" Bundle.listD A s s.heap) (hS : va_S A s.heap H locs) (hsize : ls.size = c.maxLocals)
    (d0 : decode cc pc = .ok (.new ik, 3)) (d3 : decode cc (pc + 3) = .ok (.dup, 1)) (d4 : decode cc (pc + 4) = .ok (.invokespecial ic, 3)) (d7 : decode cc (pc + 7) = .ok (.athrow, 1))
    (hout : ∀ x ∈ c.exceptionTable.toList, covers x (pc + 7) = false)
    (hRframes : names.length + 3 < R.frames) (hRlocals : (rest.map fun v => v.category).sum + (13 * (names.length + 1) + 42) ≤ R.locals) (hRcells : cells + 1 ≤ R.cells) (hRslots : slots + 6 ≤ R.slots) (hlocks : meth.locks = false)
    (hx : ∀ t : State, s.vm.Alike t.vm → H.size ≤ t.heap.size → (∀ q : Nat, q < H.size → t.heap[q]? = H[q]?) → XC cls s t)
    (hf : ∀ z ∈ locs, free z.base) (hc : cells + 1 ≤ mc) (hs : slots + 6 ≤ ms) :
    W p l e R s m args below meth c H locs cells slots (vx_MQ below Qc XC args s mc ms free) (F0 m pc ls rest) := by
  intro T hT X
  have htr : e.platform.stackTraces = false := (show e.platform.stackTraces = l.stackTraces by rw [X.admits.platform]).trans hl
  have Y := vx_rebase X (R' := { frames := R.frames, locals := R.locals, cells := 1, slots := 6 }) (Nat.le_refl _) (Nat.le_refl _) hRcells hRslots
  obtain ⟨s', hA⟩ : ∃ z, z = (T.setVm s.vm).setFrames (.invoking m args :: below) := ⟨_, rfl⟩
  rw [← hA] at Y
  have hvm : s'.vm = s.vm := by rw [hA]; rfl
  have hhp : s'.heap = H := by rw [hA]; exact hT
  have hW0 : s.WarmedH s'.vm := by rw [hvm]; exact State.WarmedH.refl s
  have hat' : ∀ w ∈ vx_at0 own ic cls names, w.before args s' = true := fun w hw => vx_ot_at hW0 hvm.symm (hgood w (List.mem_cons_of_mem _ (List.mem_cons_of_mem _ hw))) (hat w hw)
  have hk' : (Cond.classLink own ik cls).before args s' = true := vx_ot_at hW0 hvm.symm (hgood _ List.mem_cons_self) hk
  have hini' : (Cond.initialized cls).before args s' = true := vx_ot_at hW0 hvm.symm (hgood _ (List.mem_cons_of_mem _ List.mem_cons_self)) hini
  have hU' : vx_Zq Bundle.tN "UNASSIGNED_STACK" Bundle.steD A s' s'.heap := by rw [hhp]; exact vx_Zq.moved hW0.alike (hU.kept hS.2.1)
  have hN' : vx_Zq Bundle.tN "SUPPRESSED_SENTINEL" Bundle.listD A s' s'.heap := by rw [hhp]; exact vx_Zq.moved hW0.alike (hN.kept hS.2.1)
  have h : ∀ w ∈ Bundle.ownAtoms0 own ic cls names, w.before args s' = true := vx_own hat' (vx_isRefq hU'.1) (vx_isRefq hN'.1) hU'.2.word hN'.2.word
  have hown' : s'.vm.findClass own = some m.cls := by rw [hvm]; exact hown
  have hins : (Cond.instantiable cls 6).before args s' = true := h _ (by simp [Bundle.ownAtoms0])
  obtain ⟨vm₁, cX, kX, hfX, hkX, -, -, X₁, st1⟩ := Y.newCold hexec (own := own) (C := cls) (index := ik) (n := 6) hown' hk' hins hini'
    (g := F0 m pc ls rest) rfl (by rw [hb]; exact d0) (Nat.le_refl _) (Nat.le_refl _)
  generalize hT1 : (T.setVm vm₁).pushCell { cls := cX, slots := kX.instanceTypes.map defaultValue, vm := .none } = T1 at X₁ st1
  have hcat : (Value.ref T.heap.size).category = 1 := rfl
  have hcellA : T1.heap[T.heap.size]? = some (freshCell cX kX) := by rw [← hT1]; exact State.heap_pushCell_size _ _
  have d3' : decode c.code (pc + 3) = .ok (.dup, 1) := by rw [hb]; exact d3
  obtain ⟨U, hsteps, hrun, hend, hW, hsame, ce, hce, hO⟩ := X₁.ctorThrow0 hexec htr (own := own) (cls := cls) (names := names) (ic := ic) hown' hcls hnames h (fun x hx => nomatch hx) hfX hkX hcellA (by rw [hhp, hT]; exact Nat.le_refl _)
    (g := { method := m, pc := pc + 4, locals := ls, stack := .ref T.heap.size :: .ref T.heap.size :: rest, locked := none }) rfl hsize rfl rfl (rest := rest) rfl
    (by rw [hb]; exact d4) (by rw [hb]; exact d7) hout hRframes (by simp only [List.map_cons, List.sum_cons, hcat]; omega) hlocks
  obtain ⟨f1, f2⟩ := vx_frame hsame
  rw [hhp] at f1 f2
  have hWs : s.WarmedH U.vm := State.WarmedH.trans hW0 hW
  have hcl : s.vm.findClass cls = some ce.cls := by
    have h9 := hO.cls
    rw [hvm] at h9
    exact h9
  have hall : s.sameButNew ({ U with vm := s.vm } : State) locs mc ms := by
    subst hA
    obtain ⟨e1, e2⟩ := hsame
    rw [State.setFrames_setFrames] at e1
    have h2 : (T.setVm s.vm).sameButNew ({ U with vm := s.vm } : State) [] (0 + 1) (0 + 6) := ⟨e1, e2⟩
    have h3 := X.same.trans h2
    rw [List.append_nil] at h3
    exact h3.mono hc hs
  refine ⟨U, ?_, .threw T.heap.size, hrun, hend, Or.inr ⟨T.heap.size, rfl, cls, ce, locs, hx U hWs.alike f1 (fun q hq => f2 q hq (fun z hz => nomatch hz)), hce, hO.vm, hcl, hWs, hall, hf⟩⟩
  refine st1 _ ?_
  show Steps p.tables e below (T1.setTop { method := m, pc := pc + 3, locals := ls, stack := .ref T.heap.size :: rest, locked := none }) _
  jvm_step X₁.here [X₁.here.top, hexec, d3', Value.category]
  exact hsteps
/-- 'throw new E("text")': new; dup; ldc; invokespecial; athrow -/
theorem vx_throwS {cc : ByteArray} {pc : Nat} (hexec : p.tables.exec = Jvm.exec) (hb : c.code = cc) (hl : l.stackTraces = false) {own cls text : String} {names : List String} {ik is ic mc ms sa : Nat} {A : Nat → Prop}
    (hown : s.vm.findClass own = some m.cls) (hcls : Bundle.fit cls = true) (hnames : ∀ n ∈ names, Bundle.fit n = true)
    (hk : (Cond.classLink own ik cls).before args s = true) (hini : (Cond.initialized cls).before args s = true) (hstr : vk_R own is text sa s) (hat : ∀ w ∈ vx_atS own ic cls names, w.before args s = true)
    (hgood : ∀ w ∈ Cond.classLink own ik cls :: Cond.initialized cls :: vx_atS own ic cls names, vx_ot w = true)
    (hU : vx_Zq Bundle.tN "UNASSIGNED_STACK" Bundle.steD A s s.heap) (hN : vx_Zq Bundle.tN "SUPPRESSED_SENTINEL" Bundle.listD A s s.heap) (hS : va_S A s.heap H locs) (hsize : ls.size = c.maxLocals)
    (d0 : decode cc pc = .ok (.new ik, 3)) (d3 : decode cc (pc + 3) = .ok (.dup, 1)) (d4 : decode cc (pc + 4) = .ok (.ldc is, 2)) (d6 : decode cc (pc + 6) = .ok (.invokespecial ic, 3)) (d9 : decode cc (pc + 9) = .ok (.athrow, 1))
    (hout : ∀ x ∈ c.exceptionTable.toList, covers x (pc + 9) = false)
    (hRframes : names.length + 3 < R.frames) (hRlocals : (rest.map fun v => v.category).sum + (13 * (names.length + 1) + 43) ≤ R.locals) (hRcells : cells + 1 ≤ R.cells) (hRslots : slots + 6 ≤ R.slots) (hlocks : meth.locks = false)
    (hx : ∀ t : State, s.vm.Alike t.vm → H.size ≤ t.heap.size → (∀ q : Nat, q < H.size → t.heap[q]? = H[q]?) → XC cls s t)
    (hf : ∀ z ∈ locs, free z.base) (hc : cells + 1 ≤ mc) (hs : slots + 6 ≤ ms) :
    W p l e R s m args below meth c H locs cells slots (vx_MQ below Qc XC args s mc ms free) (F0 m pc ls rest) := by
  intro T hT X
  have htr : e.platform.stackTraces = false := (show e.platform.stackTraces = l.stackTraces by rw [X.admits.platform]).trans hl
  have Y := vx_rebase X (R' := { frames := R.frames, locals := R.locals, cells := 1, slots := 6 }) (Nat.le_refl _) (Nat.le_refl _) hRcells hRslots
  obtain ⟨s', hA⟩ : ∃ z, z = (T.setVm s.vm).setFrames (.invoking m args :: below) := ⟨_, rfl⟩
  rw [← hA] at Y
  have hvm : s'.vm = s.vm := by rw [hA]; rfl
  have hhp : s'.heap = H := by rw [hA]; exact hT
  have hW0 : s.WarmedH s'.vm := by rw [hvm]; exact State.WarmedH.refl s
  have hat' : ∀ w ∈ vx_atS own ic cls names, w.before args s' = true := fun w hw => vx_ot_at hW0 hvm.symm (hgood w (List.mem_cons_of_mem _ (List.mem_cons_of_mem _ hw))) (hat w hw)
  have hk' : (Cond.classLink own ik cls).before args s' = true := vx_ot_at hW0 hvm.symm (hgood _ List.mem_cons_self) hk
  have hini' : (Cond.initialized cls).before args s' = true := vx_ot_at hW0 hvm.symm (hgood _ (List.mem_cons_of_mem _ List.mem_cons_self)) hini
  have hU' : vx_Zq Bundle.tN "UNASSIGNED_STACK" Bundle.steD A s' s'.heap := by rw [hhp]; exact vx_Zq.moved hW0.alike (hU.kept hS.2.1)
  have hN' : vx_Zq Bundle.tN "SUPPRESSED_SENTINEL" Bundle.listD A s' s'.heap := by rw [hhp]; exact vx_Zq.moved hW0.alike (hN.kept hS.2.1)
  have h : ∀ w ∈ Bundle.ownAtoms own ic cls names, w.before args s' = true := vx_own hat' (vx_isRefq hU'.1) (vx_isRefq hN'.1) hU'.2.word hN'.2.word
  have hown' : s'.vm.findClass own = some m.cls := by rw [hvm]; exact hown
  have hins : (Cond.instantiable cls 6).before args s' = true := h _ (by simp [Bundle.ownAtoms])
  obtain ⟨vm₁, cX, kX, hfX, hkX, -, -, X₁, st1⟩ := Y.newCold hexec (own := own) (C := cls) (index := ik) (n := 6) hown' hk' hins hini'
    (g := F0 m pc ls rest) rfl (by rw [hb]; exact d0) (Nat.le_refl _) (Nat.le_refl _)
  generalize hT1 : (T.setVm vm₁).pushCell { cls := cX, slots := kX.instanceTypes.map defaultValue, vm := .none } = T1 at X₁ st1
  have hcat : (Value.ref T.heap.size).category = 1 := rfl
  have hcellA : T1.heap[T.heap.size]? = some (freshCell cX kX) := by rw [← hT1]; exact State.heap_pushCell_size _ _
  have d3' : decode c.code (pc + 3) = .ok (.dup, 1) := by rw [hb]; exact d3
  have d4' : decode c.code (pc + 4) = .ok (.ldc is, 2) := by rw [hb]; exact d4
  have hstr' : vk_R own is text sa s' := vk_R.warm hW0 hstr
  obtain ⟨U, hsteps, hrun, hend, hW, hsame, ce, hce, hO⟩ := X₁.ctorThrowS hexec htr (own := own) (cls := cls) (names := names) (ic := ic) hown' hcls hnames h (fun x hx => nomatch hx) hfX hkX hcellA (by rw [hhp, hT]; exact Nat.le_refl _) (msg := .ref sa) rfl
    (g := { method := m, pc := pc + 6, locals := ls, stack := .ref sa :: .ref T.heap.size :: .ref T.heap.size :: rest, locked := none }) rfl hsize rfl rfl (rest := rest) rfl
    (by rw [hb]; exact d6) (by rw [hb]; exact d9) hout hRframes (by simp only [List.map_cons, List.sum_cons, hcat]; omega) hlocks
  obtain ⟨f1, f2⟩ := vx_frame hsame
  rw [hhp] at f1 f2
  have hWs : s.WarmedH U.vm := State.WarmedH.trans hW0 hW
  have hcl : s.vm.findClass cls = some ce.cls := by
    have h9 := hO.cls
    rw [hvm] at h9
    exact h9
  have hall : s.sameButNew ({ U with vm := s.vm } : State) locs mc ms := by
    subst hA
    obtain ⟨e1, e2⟩ := hsame
    rw [State.setFrames_setFrames] at e1
    have h2 : (T.setVm s.vm).sameButNew ({ U with vm := s.vm } : State) [] (0 + 1) (0 + 6) := ⟨e1, e2⟩
    have h3 := X.same.trans h2
    rw [List.append_nil] at h3
    exact h3.mono hc hs
  refine ⟨U, ?_, .threw T.heap.size, hrun, hend, Or.inr ⟨T.heap.size, rfl, cls, ce, locs, hx U hWs.alike f1 (fun q hq => f2 q hq (fun z hz => nomatch hz)), hce, hO.vm, hcl, hWs, hall, hf⟩⟩
  refine st1 _ ?_
  show Steps p.tables e below (T1.setTop { method := m, pc := pc + 3, locals := ls, stack := .ref T.heap.size :: rest, locked := none }) _
  jvm_step X₁.here [X₁.here.top, hexec, d3', Value.category]
  exact X₁.ldcString hexec (own := own) (text := text) (index := is) (a := sa) hown' hstr'.1 hstr'.2
    (g := { method := m, pc := pc + 4, locals := ls, stack := .ref T.heap.size :: .ref T.heap.size :: rest, locked := none }) rfl d4' _ hsteps
/-- 'throw new E("text")', the text by a wide index -/
theorem vx_throwSW {cc : ByteArray} {pc : Nat} (hexec : p.tables.exec = Jvm.exec) (hb : c.code = cc) (hl : l.stackTraces = false) {own cls text : String} {names : List String} {ik is ic mc ms sa : Nat} {A : Nat → Prop}
    (hown : s.vm.findClass own = some m.cls) (hcls : Bundle.fit cls = true) (hnames : ∀ n ∈ names, Bundle.fit n = true)
    (hk : (Cond.classLink own ik cls).before args s = true) (hini : (Cond.initialized cls).before args s = true) (hstr : vk_R own is text sa s) (hat : ∀ w ∈ vx_atS own ic cls names, w.before args s = true)
    (hgood : ∀ w ∈ Cond.classLink own ik cls :: Cond.initialized cls :: vx_atS own ic cls names, vx_ot w = true)
    (hU : vx_Zq Bundle.tN "UNASSIGNED_STACK" Bundle.steD A s s.heap) (hN : vx_Zq Bundle.tN "SUPPRESSED_SENTINEL" Bundle.listD A s s.heap) (hS : va_S A s.heap H locs) (hsize : ls.size = c.maxLocals)
    (d0 : decode cc pc = .ok (.new ik, 3)) (d3 : decode cc (pc + 3) = .ok (.dup, 1)) (d4 : decode cc (pc + 4) = .ok (.ldc_w is, 3)) (d7 : decode cc (pc + 7) = .ok (.invokespecial ic, 3)) (d10 : decode cc (pc + 10) = .ok (.athrow, 1))
    (hout : ∀ x ∈ c.exceptionTable.toList, covers x (pc + 10) = false)
    (hRframes : names.length + 3 < R.frames) (hRlocals : (rest.map fun v => v.category).sum + (13 * (names.length + 1) + 43) ≤ R.locals) (hRcells : cells + 1 ≤ R.cells) (hRslots : slots + 6 ≤ R.slots) (hlocks : meth.locks = false)
    (hx : ∀ t : State, s.vm.Alike t.vm → H.size ≤ t.heap.size → (∀ q : Nat, q < H.size → t.heap[q]? = H[q]?) → XC cls s t)
    (hf : ∀ z ∈ locs, free z.base) (hc : cells + 1 ≤ mc) (hs : slots + 6 ≤ ms) :
    W p l e R s m args below meth c H locs cells slots (vx_MQ below Qc XC args s mc ms free) (F0 m pc ls rest) := by
  intro T hT X
  have htr : e.platform.stackTraces = false := (show e.platform.stackTraces = l.stackTraces by rw [X.admits.platform]).trans hl
  have Y := vx_rebase X (R' := { frames := R.frames, locals := R.locals, cells := 1, slots := 6 }) (Nat.le_refl _) (Nat.le_refl _) hRcells hRslots
  obtain ⟨s', hA⟩ : ∃ z, z = (T.setVm s.vm).setFrames (.invoking m args :: below) := ⟨_, rfl⟩
  rw [← hA] at Y
  have hvm : s'.vm = s.vm := by rw [hA]; rfl
  have hhp : s'.heap = H := by rw [hA]; exact hT
  have hW0 : s.WarmedH s'.vm := by rw [hvm]; exact State.WarmedH.refl s
  have hat' : ∀ w ∈ vx_atS own ic cls names, w.before args s' = true := fun w hw => vx_ot_at hW0 hvm.symm (hgood w (List.mem_cons_of_mem _ (List.mem_cons_of_mem _ hw))) (hat w hw)
  have hk' : (Cond.classLink own ik cls).before args s' = true := vx_ot_at hW0 hvm.symm (hgood _ List.mem_cons_self) hk
  have hini' : (Cond.initialized cls).before args s' = true := vx_ot_at hW0 hvm.symm (hgood _ (List.mem_cons_of_mem _ List.mem_cons_self)) hini
  have hU' : vx_Zq Bundle.tN "UNASSIGNED_STACK" Bundle.steD A s' s'.heap := by rw [hhp]; exact vx_Zq.moved hW0.alike (hU.kept hS.2.1)
  have hN' : vx_Zq Bundle.tN "SUPPRESSED_SENTINEL" Bundle.listD A s' s'.heap := by rw [hhp]; exact vx_Zq.moved hW0.alike (hN.kept hS.2.1)
  have h : ∀ w ∈ Bundle.ownAtoms own ic cls names, w.before args s' = true := vx_own hat' (vx_isRefq hU'.1) (vx_isRefq hN'.1) hU'.2.word hN'.2.word
  have hown' : s'.vm.findClass own = some m.cls := by rw [hvm]; exact hown
  have hins : (Cond.instantiable cls 6).before args s' = true := h _ (by simp [Bundle.ownAtoms])
  obtain ⟨vm₁, cX, kX, hfX, hkX, -, -, X₁, st1⟩ := Y.newCold hexec (own := own) (C := cls) (index := ik) (n := 6) hown' hk' hins hini'
    (g := F0 m pc ls rest) rfl (by rw [hb]; exact d0) (Nat.le_refl _) (Nat.le_refl _)
  generalize hT1 : (T.setVm vm₁).pushCell { cls := cX, slots := kX.instanceTypes.map defaultValue, vm := .none } = T1 at X₁ st1
  have hcat : (Value.ref T.heap.size).category = 1 := rfl
  have hcellA : T1.heap[T.heap.size]? = some (freshCell cX kX) := by rw [← hT1]; exact State.heap_pushCell_size _ _
  have d3' : decode c.code (pc + 3) = .ok (.dup, 1) := by rw [hb]; exact d3
  have d4' : decode c.code (pc + 4) = .ok (.ldc_w is, 3) := by rw [hb]; exact d4
  have hstr' : vk_R own is text sa s' := vk_R.warm hW0 hstr
  obtain ⟨U, hsteps, hrun, hend, hW, hsame, ce, hce, hO⟩ := X₁.ctorThrowS hexec htr (own := own) (cls := cls) (names := names) (ic := ic) hown' hcls hnames h (fun x hx => nomatch hx) hfX hkX hcellA (by rw [hhp, hT]; exact Nat.le_refl _) (msg := .ref sa) rfl
    (g := { method := m, pc := pc + 7, locals := ls, stack := .ref sa :: .ref T.heap.size :: .ref T.heap.size :: rest, locked := none }) rfl hsize rfl rfl (rest := rest) rfl
    (by rw [hb]; exact d7) (by rw [hb]; exact d10) hout hRframes (by simp only [List.map_cons, List.sum_cons, hcat]; omega) hlocks
  obtain ⟨f1, f2⟩ := vx_frame hsame
  rw [hhp] at f1 f2
  have hWs : s.WarmedH U.vm := State.WarmedH.trans hW0 hW
  have hcl : s.vm.findClass cls = some ce.cls := by
    have h9 := hO.cls
    rw [hvm] at h9
    exact h9
  have hall : s.sameButNew ({ U with vm := s.vm } : State) locs mc ms := by
    subst hA
    obtain ⟨e1, e2⟩ := hsame
    rw [State.setFrames_setFrames] at e1
    have h2 : (T.setVm s.vm).sameButNew ({ U with vm := s.vm } : State) [] (0 + 1) (0 + 6) := ⟨e1, e2⟩
    have h3 := X.same.trans h2
    rw [List.append_nil] at h3
    exact h3.mono hc hs
  refine ⟨U, ?_, .threw T.heap.size, hrun, hend, Or.inr ⟨T.heap.size, rfl, cls, ce, locs, hx U hWs.alike f1 (fun q hq => f2 q hq (fun z hz => nomatch hz)), hce, hO.vm, hcl, hWs, hall, hf⟩⟩
  refine st1 _ ?_
  show Steps p.tables e below (T1.setTop { method := m, pc := pc + 3, locals := ls, stack := .ref T.heap.size :: rest, locked := none }) _
  jvm_step X₁.here [X₁.here.top, hexec, d3', Value.category]
  exact X₁.ldcStringW hexec (own := own) (text := text) (index := is) (a := sa) hown' hstr'.1 hstr'.2
    (g := { method := m, pc := pc + 4, locals := ls, stack := .ref T.heap.size :: .ref T.heap.size :: rest, locked := none }) rfl d4' _ hsteps
end Ends
section Bodies
variable {l : Launch}
theorem vx_ofW {y : MethodName} {ws ws' : List Cond} {rm : Room} {Pc : Array Value → State → Prop} {Qc : Array Value → State → Outcome → State → Prop} {XC : String → State → State → Prop} {mc ms : Nat} {free : Addr → Prop} {cc : ByteArray} {maxL : Nat} {ret : Option FieldType}
    (hy : plainName y.cls = true) (hw : ws = Cond.code y cc maxL ret :: ws')
    (body : ∀ p e s m args below meth c s₁, BodyLoose p l y (headSpec ws rm) cc maxL ret e s m args below meth c s₁ → c.maxLocals = maxL → (∀ x ∈ c.exceptionTable.toList, False) → Pc args s →
      W p l e (headSpec ws rm).room s m args below meth c s.heap [] 0 0 (vx_MQ below Qc XC args s mc ms free) (entryFrame m args maxL)) : vx_Met l y ws rm Pc Qc XC mc ms free := by
  refine MetFree.of_bodyS (code := cc) (maxLocals := maxL) (ret := ret) hy ?_ ?_
  · intro args s m h hn
    obtain ⟨meth, c, h1, h2, h3, h4, h5, h6, -, -⟩ := Cond.code_spec hn (atoms_spec (ws := ws) h _ (by rw [hw]; exact List.mem_cons_self))
    exact ⟨meth, c, h1, h2, h3, h4, h5, h6⟩
  · intro p e s m args below meth c s₁ B hml hP _
    have hh0 : s₁.heap = s.heap := by rw [B.state]; rfl
    have ht : ∀ x ∈ c.exceptionTable.toList, False := by
      obtain ⟨meth9, c9, h1, h2, -, -, -, -, h7, -⟩ := Cond.code_spec B.named (atoms_spec (ws := ws) B.pre _ (by rw [hw]; exact List.mem_cons_self))
      cases Option.some.inj (h1.symm.trans B.method)
      cases Option.some.inj (h2.symm.trans (Stand.of_body B).code)
      intro x hx
      rw [Array.isEmpty_iff.mp h7] at hx
      cases hx
    obtain ⟨t, a1, o, b1, b2, b3⟩ := body p e s m args below meth c s₁ B hml ht hP s₁ hh0 (Stand.of_body B)
    exact ⟨t, o, a1, b1, b2, b3⟩
/-- the table of a body with handlers -/
theorem vx_table {p : Program} {x y : MethodName} {S : Spec} {cc bytes : ByteArray} {maxL maxL' : Nat} {ret ret' : Option FieldType} {e : Env} {s s₁ : State} {m : MethodId} {args : Array Value} {below : List Frame} {meth : Method} {c : Code} {hh : List (Nat × Nat × Nat × Nat)}
    (B : BodyLoose p l y S cc maxL ret e s m args below meth c s₁) (h : (Cond.codeWith y bytes maxL' ret' hh).before args s = true) : c.exceptionTable.toList = tableOf hh := by
  obtain ⟨m9, meth9, c9, hn9, h1, h2, -, -, h6, -⟩ := Cond.codeWith_spec h
  cases Option.some.inj (hn9.symm.trans B.named)
  cases Option.some.inj (h1.symm.trans B.method)
  cases Option.some.inj (h2.symm.trans (Stand.of_body B).code)
  rw [← h6, table_eq]
end Bodies
end VXA
/-! ===== END ===== -/
/-! ===== BEGIN a static call of a method with an exception table ===== -/
section VXS
variable {p : Program} {l : Launch} {e : Env} {R : Room} {s : State} {m : MethodId} {args : Array Value} {below : List Frame} {meth : Method} {c : Code} {T : State} {H : Heap} {locs : List Loc} {cells slots : Nat}
abbrev vx_CSW (R : Room) (s : State) (args : Array Value) (own : String) (index : Nat) (y : MethodName) (bytes : ByteArray) (maxL : Nat) (ret : Option FieldType) (hh : List (Nat × Nat × Nat × Nat)) (ws : List Cond) (rm : Room) (mc ms n : Nat) : Prop :=
  (rm.cells = mc ∧ rm.slots = ms ∧ rm.frames + 1 ≤ R.frames ∧ 8 + (maxL + 11) + rm.locals ≤ R.locals ∧ (∀ w ∈ ws, ∀ (a' : Array Value) (U : State), s.WarmedH U.vm → w.before a' U = true) ∧ Cond.codeWith y bytes maxL ret hh ∈ ws) ∧
  (Cond.codeWith y bytes maxL ret hh).before args s = true ∧ (Cond.initialized y.cls).before args s = true ∧ (y.cls ≠ "java/lang/invoke/MethodHandle" ∧ y.cls ≠ "java/lang/invoke/VarHandle") ∧
  (∀ sig, parseMethodDescriptor y.desc = some sig → n = sig.parameters.length) ∧ (Cond.methodLink own index y).before args s = true ∧ (Cond.static y).before args s = true
theorem vx_cwSW {own : String} {index maxL mc ms : Nat} {y : MethodName} {bytes : ByteArray} {ret : Option FieldType} {hh : List (Nat × Nat × Nat × Nat)} {Ts ws ws' : List Cond} {rm : Room} (n : Nat) (ht : ∀ w ∈ Ts, w.before args s = true) (hT : GoodIn Ts (va_wsS own index y ws)) (hw : ws = Cond.codeWith y bytes maxL ret hh :: ws') (hrc : rm.cells = mc) (hrs : rm.slots = ms)
    (hd : y.cls ≠ "java/lang/invoke/MethodHandle" ∧ y.cls ≠ "java/lang/invoke/VarHandle" ∧ (parseMethodDescriptor y.desc).map (fun d => d.parameters.length) = some n) (hR : rm.frames + 1 ≤ R.frames ∧ 8 + (maxL + 11) + rm.locals ≤ R.locals) :
    vx_CSW R s args own index y bytes maxL ret hh ws rm mc ms n := by
  have ok : ∀ w ∈ va_wsS own index y ws, w.before args s = true := fun w h => ht w (hT w h).1
  have hG : GoodIn Ts ws := fun w h => hT w (by unfold va_wsS; exact List.mem_append_right _ h)
  have hc : Cond.codeWith y bytes maxL ret hh ∈ ws := by rw [hw]; exact List.mem_cons_self
  refine ⟨⟨hrc, hrs, hR.1, hR.2, pay_in ht hG, hc⟩, ht _ (hG _ hc).1, ok _ (by simp [va_wsS]), ⟨hd.1, hd.2.1⟩, fun sig h => ?_, ok _ (by simp [va_wsS]), ok _ (by simp [va_wsS])⟩
  have h2 := hd.2.2
  rw [h] at h2
  exact (Option.some.inj h2).symm
theorem vx_callSW (X : Stand p l e R s m args below meth c T locs cells slots) (hexec : p.tables.exec = Jvm.exec) {own : String} {index : Nat} {y : MethodName} {bytes : ByteArray} {maxL : Nat} {ret : Option FieldType} {hh : List (Nat × Nat × Nat × Nat)}
    (hown : s.vm.findClass own = some m.cls) (hlink : (Cond.methodLink own index y).before args s = true) (hstat : (Cond.static y).before args s = true) (hinit : (Cond.initialized y.cls).before args s = true)
    (hcode : (Cond.codeWith y bytes maxL ret hh).before args s = true) (hy : y.cls ≠ "java/lang/invoke/MethodHandle" ∧ y.cls ≠ "java/lang/invoke/VarHandle")
    {W9 : Nat} {Pre : Pt → Array Value → Prop} {Post : Pt → Array Value → Option Value → Pt → Prop} (hK : Back l R p e below s args y 3 W9 Pre Post)
    {g : JFrame} (hg : g.method = m) (hsize : g.locals.size = c.maxLocals) {argsL rest : List Value} (hlen : ∀ sig, parseMethodDescriptor y.desc = some sig → argsL.length = sig.parameters.length)
    (hstack : g.stack = argsL.reverse ++ rest) (hW : 2 * g.monitorRoom + (rest.map fun v => v.category).sum ≤ W9) (hdg : decode c.code g.pc = .ok (.invokestatic index, 3))
    (hpre : ∀ vm₁, s.WarmedH vm₁ → Pre ⟨T.setVm vm₁, locs, cells, slots⟩ argsL.toArray) :
    ∃ (v : Option Value) (vm₁ : Vm) (B : Pt), s.WarmedH vm₁ ∧ Stand p l e R s m args below meth c B.U B.locs B.cells B.slots ∧ Post ⟨T.setVm vm₁, locs, cells, slots⟩ argsL.toArray v B ∧
      ∀ target, Steps p.tables e below (B.U.setTop { g with pc := g.pc + 3, stack := v.toList ++ rest }) target → Steps p.tables e below (T.setTop g) target := by
  obtain ⟨mk, methM, cM, hnamed, hmethM, -, -, -, -, -, -, hsigM⟩ := Cond.codeWith_spec hcode
  have hstatic : methM.isStatic = true := Cond.static_spec hnamed hmethM hstat
  obtain ⟨kP, hkP, -⟩ := className_of_methodNamed hnamed
  have hinitP : kP.init = .initialized := Cond.initialized_spec (findClass_of_methodNamed hnamed) hkP hinit
  obtain ⟨vm₁, X₁, hstep₁⟩ := X.invokestatic hexec hown hlink hnamed hmethM hstatic hkP hinitP hy (g := g) hg (argsL := argsL) (rest := rest) (hlen _ hsigM) hstack hdg
  obtain ⟨v, B, X', hpost, hsteps⟩ := hK m meth c ⟨T.setVm vm₁, locs, cells, slots⟩ { g with stack := rest } (.invokestatic index) mk argsL.toArray X₁ hg hsize hdg hW (X₁.named hnamed) (hpre vm₁ X₁.warmed)
  exact ⟨v, vm₁, B, X₁.warmed, X', hpost, fun target h => hstep₁ _ fun acts => by rw [doInvoke_state]; exact hsteps.trans h⟩
theorem vx_runSW {y : MethodName} {bytes cc : ByteArray} {maxL nL mc ms n index : Nat} {ret : Option FieldType} {hh : List (Nat × Nat × Nat × Nat)} {ws : List Cond} {rm : Room} {Pc : Array Value → State → Prop} {Qc : Array Value → State → Outcome → State → Prop} {free : Addr → Prop} {Ts : List Cond} {own : String} {As rest : List Value} {g : JFrame}
    (S : CallFix p m c cc nL s args Ts own) (hM : Met l y ws rm Pc Qc mc ms free) (cw : vx_CSW R s args own index y bytes maxL ret hh ws rm mc ms n) (hp : PreS s H Pc As)
    (hg : g.method = m) (hn : As.length = n) (hsize : g.locals.size = nL) (hstack : g.stack = As.reverse ++ rest) (hW : 2 * g.monitorRoom + (rest.map fun v => v.category).sum ≤ 8) (hdg : decode cc g.pc = .ok (.invokestatic index, 3)) (hf : cells + mc ≤ R.cells ∧ slots + ms ≤ R.slots) :
    va_Run p l e R s m args below meth c H locs cells slots mc ms g rest (Qc As.toArray) (free) := by
  obtain ⟨⟨hrc, hrs, hfr, hlo, hws, hcw⟩, hcode, hini, hy, hlen, hl, hstt⟩ := cw
  have hK : Back l R p e below s args y 3 8 (PreOf R mc ms Pc) (PostOf Qc mc ms free) := va_backW (hh := hh) (bytes := bytes) (maxL := maxL) (ret := ret) hM hp.1 hrc hrs hfr hlo hws hcw (fun a' U hW => word_at hW (Or.inl (by first | rfl | simp [Cond.onTables, Cond.keeps, Cond.steady])) hini)
  obtain ⟨hx, hb, hml, ho, -⟩ := S
  intro T hT X
  obtain ⟨v, vm₁, ⟨U', l2, c2, s2⟩, hW₁, X', ⟨g', mk, t, L, e1, e2, hq, h1, hL, h2, h3⟩, st⟩ := vx_callSW X hx (hh := hh) (bytes := bytes) (maxL := maxL) (ret := ret) ho hl hstt hini hcode hy hK hg (hsize.trans hml.symm) (argsL := As) (rest := rest) (fun sig h => hn.trans (hlen sig h)) hstack hW (by rw [hb]; exact hdg)
    (fun vm₁ hW₁ => ⟨hf.1, hf.2, hp.2 (T.setVm vm₁) hT hW₁⟩)
  dsimp only [Pt.U, Pt.locs, Pt.cells, Pt.slots] at X' e1 e2 h1 h2 h3 st
  subst h1; subst h2; subst h3
  exact ⟨v, (T.setVm vm₁).calling g' mk As.toArray, t, U', L, hT, X', hL, e1, e2, hq, st⟩
/-- not caught here, past rows that name other classes: it goes on to the caller -/
theorem vx_outP {p : Program} {l : Launch} {e : Env} {R : Room} {s : State} {m : MethodId} {args : Array Value} {below : List Frame} {meth : Method} {c : Code} {H : Heap} {locs : List Loc} {cells slots : Nat} {free : Addr → Prop} {ls : Array Slot} {rest : List Value} {Qc : Array Value → State → Outcome → State → Prop} {XC : String → State → State → Prop}
    {pc : Nat} {own E : String} {ce : Cell} {q : Addr} {mc ms : Nat} (hown : s.vm.findClass own = some m.cls) (hlocks : meth.locks = false)
    (hpass : ∀ z ∈ c.exceptionTable.toList, covers z pc = false ∨ (z.catchType ≠ 0 ∧ ∃ nm : String, (Cond.classLink own z.catchType nm).before args s = true ∧ va_Nc E nm s)) (hcell : H[q]? = some ce) (hv : ce.vm = .none) (hcl : s.vm.findClass E = some ce.cls)
    (hx : ∀ t : State, t.heap = H → s.vm.Alike t.vm → XC E s t) (hf : ∀ z ∈ locs, free z.base) (hc : cells ≤ mc) (hs : slots ≤ ms) :
    vx_W p l e R s m args below meth c H locs cells slots (vx_MQ below Qc XC args s mc ms free) (F0 m pc ls rest) q := by
  intro T hT X
  have hpl : e.platform.magicAccessors = ({} : Platform).magicAccessors := by rw [X.admits.platform]
  obtain ⟨vm', hW', X', st⟩ := X.outThrough hlocks q (g := F0 m pc ls rest) rfl rfl rfl (cell := ce) (by rw [hT]; exact hcell) (by rw [hv]; rfl)
    (by obtain ⟨k9, h9, -⟩ := Vm.findClass_spec hcl; exact ⟨k9, h9⟩) (fun z hz => by
      rcases hpass z hz with h | ⟨hz0, nm, hl1, hn1⟩
      · exact Or.inl h
      · obtain ⟨c6, hc6, hcl6⟩ := Cond.classLink_spec hown hl1 e.platform hpl
        obtain ⟨a8, b8, h1, h2, h3⟩ := hn1
        cases Option.some.inj (h1.symm.trans hcl)
        cases Option.some.inj (h2.symm.trans hc6)
        exact Or.inr ⟨hz0, _, hcl6, h3⟩)
  obtain ⟨g₀, hfr⟩ := X'.frames_eq
  have hcell9 : ((T.setVm vm').setFrames (.throwing q :: below)).heap[q]? = some ce := by
    show T.heap[q]? = some ce
    rw [hT]; exact hcell
  have hend : Ended ((T.setVm vm').setFrames (.throwing q :: below)) below (.threw q) := State.frames_setFrames _ (State.cur_lt_of_frames hfr)
  refine ⟨(T.setVm vm').setFrames (.throwing q :: below), ?_, .threw q, X'.here.running, hend, Or.inr ⟨q, rfl, E, ce, locs, hx _ hT (X'.ends _).1.alike, hcell9, hv, hcl, (X'.ends _).1, (X'.ends _).2.mono hc hs, hf⟩⟩
  rw [X.pushThrowing_eq]
  exact st
/-- a thing of a world lies in the heap -/
theorem vx_lt {D : va_G} {cl : List vw_C} {ws : va_W} {H1 : Heap} (h : va_P D cl ws H1) {k : Nat} {q : Nat × va_E} (hk : ws[k]? = some q) : q.1 < H1.size := (h k q hk).lt
end VXS
/-! ===== END ===== -/
/-! ===== BEGIN methods with a table of their own: called by a name, returning or throwing ===== -/
section VXH
/-! vx_backW, vx_callVX, vx_callSX, vx_callVW, vx_runVW, vx_runVX, vx_runSX, vx_ofWH follow the same proofs as their sisters above (Free/Laws.lean, Shelf42/LK1.lean); vx_outP calls Shelf42/NT130.lean (outThrough). -/
section
variable {l : Launch} {R : Room} {p : Program} {e : Env} {below : List Frame} {s : State} {sargs : Array Value} {y : MethodName} {len W9 : Nat}
theorem vx_backW {ws : List Cond} {rm : Room} {Pc : Array Value → State → Prop} {Qc : Array Value → State → Outcome → State → Prop} {XC : String → State → State → Prop} {mc ms : Nat} {free : Addr → Prop} {bytes : ByteArray} {maxL : Nat} {ret : Option FieldType} {hh : List (Nat × Nat × Nat × Nat)}
    (hM : vx_Met l y ws rm Pc Qc XC mc ms free) (hblind : FrameBlind Pc) (hrc : rm.cells = mc) (hrs : rm.slots = ms)
    (hframes : rm.frames + 1 ≤ R.frames) (hlocals : W9 + (maxL + 11) + rm.locals ≤ R.locals)
    (hws : ∀ w ∈ ws, ∀ a' U, s.WarmedH U.vm → w.before a' U = true) (hcode : Cond.codeWith y bytes maxL ret hh ∈ ws) (hinit : ∀ a' U, s.WarmedH U.vm → (Cond.initialized y.cls).before a' U = true) :
    vx_Back l R p e below s sargs y len W9 (PreOf R mc ms Pc) (PostOf Qc mc ms free) (vx_Post XC mc ms free) := by
  intro m meth c A g ig mk a X hg hsize hdg hW hn hp
  have h1 : (headSpec ws rm).pre.before a A.U = true := atoms_intro fun w hw => hws w hw _ _ X.warmed
  have h2 : (Cond.codeWith y bytes maxL ret hh).before a A.U = true := hws _ hcode _ _ X.warmed
  have h3 : (Cond.initialized y.cls).before a A.U = true := hinit _ _ X.warmed
  have h4 : A.cells + (headSpec ws rm).room.cells ≤ R.cells := by rw [show (headSpec ws rm).room.cells = mc from hrc]; exact hp.1
  have h5 : A.slots + (headSpec ws rm).room.slots ≤ R.slots := by rw [show (headSpec ws rm).room.slots = ms from hrs]; exact hp.2.1
  have hPc : Pc a (A.U.calling g mk a) := hblind _ _ _ _ hp.2.2
  obtain ⟨U, Ls, c0, s0⟩ := A
  dsimp only [Pt.U, Pt.locs, Pt.cells, Pt.slots] at h1 h2 h3 h4 h5 X hn hPc ⊢
  obtain ⟨m9, methY, cY, hn9, hmY, hcY, -, hlY, -⟩ := Cond.codeWith_spec h2
  cases Option.some.inj (hn9.symm.trans hn)
  obtain ⟨kY, hkY, -⟩ := className_of_methodNamed hn
  have hinitY : kY.init = .initialized := Cond.initialized_spec (findClass_of_methodNamed hn) hkY h3
  have h : At U g.method c below := by rw [hg]; exact X.here
  have hlocals9 : W9 + (maxL + 11) + (headSpec ws rm).room.locals ≤ R.locals := hlocals
  have happ : (headSpec ws rm).appliesLoose y e.platform (U.calling g mk a) = true :=
    Spec.appliesLoose_calling (g := g) h hdg hn hkY hinitY
      (X.room_calling (g := g) (R' := (headSpec ws rm).room) hsize hmY hcY hframes (by rw [hlY]; omega) h4 h5) h1
  obtain ⟨mid, hmid⟩ := h.above
  have hfr : (U.setTop g).frames = (.java g :: mid) ++ below := by rw [State.frames_setTop' g h.top, hmid]; rfl
  obtain ⟨o, s₂, hsteps, -, hend, hq⟩ := Steps.callFree hM p X.admits X.cas X.clock (acts := []) hfr happ hPc trivial
  have hq' : vx_Q Qc XC mc ms free a (U.calling g mk a) o s₂ := hq
  rw [State.frames_setTop' g h.top] at hend
  obtain ⟨g₀, hg0⟩ := Option.isSome_iff_exists.mp h.top
  obtain ⟨r, hr⟩ := State.topJava?_eq_some.mp hg0
  have hr' : (({ U with heap := s₂.heap, slotsUsed := s₂.slotsUsed } : State).setVm s₂.vm).frames = .java g₀ :: r := hr
  rcases hq' with ⟨hqc, L, hfe, hL⟩ | ⟨q, rfl, E, ce, L, hx, hce, hcv, hcl, hW₂, hsm, hL⟩
  · obtain ⟨⟨v, rfl⟩, hW₂, e2, q2, q3, q4, q5, q6⟩ := id hfe
    have e3 : s₂ = ({ (U.calling g mk a).setFrames s₂.frames with heap := s₂.heap, slotsUsed := s₂.slotsUsed } : State).setVm s₂.vm := by
      have : s₂ = ({ s₂ with vm := (U.calling g mk a).vm } : State).setVm s₂.vm := rfl
      rw [e2] at this
      exact this
    obtain ⟨c₂, i₂, len₂, hc₂, hd₂, hf₂⟩ := hend
    have hW' : U.WarmedH s₂.vm := hW₂
    have hcc : c₂ = c := by
      have h1 : s₂.code? g.method = U.code? g.method := by
        rw [State.code?_eq, State.code?_eq, hW'.alike.method?]
      exact Option.some.inj (hc₂.symm.trans (h1.trans h.code))
    subst hcc
    have hlen : len₂ = len := by rw [hdg] at hd₂; cases hd₂; rfl
    subst hlen
    have hs₂ : s₂ = (({ U with heap := s₂.heap, slotsUsed := s₂.slotsUsed } : State).setVm s₂.vm).setTop { g with pc := g.pc + len₂, stack := v.toList ++ g.stack } := by
      refine e3.trans ?_
      rw [hf₂, State.calling_eq h.top, State.setFrames_setFrames, State.setTop_of_frames _ hr', hr]
      rfl
    have hsame : U.sameButNew ({ U with heap := s₂.heap, slotsUsed := s₂.slotsUsed } : State) L mc ms := by
      refine ⟨?_, q2, q3, q4, q5, q6⟩
      obtain ⟨t, ht, -⟩ := State.frames_cons hr
      show ({ U with heap := s₂.heap, slotsUsed := s₂.slotsUsed } : State) = { U.setFrames U.frames with heap := s₂.heap, slotsUsed := s₂.slotsUsed }
      rw [State.setFrames_self ht]
    subst hg
    refine Or.inl ⟨v, ⟨(({ U with heap := s₂.heap, slotsUsed := s₂.slotsUsed } : State).setVm s₂.vm), Ls ++ L, c0 + mc, s0 + ms⟩,
      ⟨X.admits, X.cas, X.clock, X.frames, X.room, X.hears, X.method, X.code, (X.here.setHeapUsed s₂.heap s₂.slotsUsed).setVm hW'.alike, X.tail, State.WarmedH.trans X.warmed hW', X.limits, X.bytes, X.same.trans (hsame.setVm s.vm)⟩,
      ⟨g, mk, s₂, L, rfl, rfl, hqc, rfl, hL, rfl, rfl⟩, ?_⟩
    show Steps p.tables e below _ ((({ U with heap := s₂.heap, slotsUsed := s₂.slotsUsed } : State).setVm s₂.vm).setTop { g with pc := g.pc + len₂, stack := v.toList ++ g.stack })
    rw [← hs₂]
    exact hsteps
  · obtain ⟨e2, q2, q3, q4, q5, q6⟩ := id hsm
    have e3 : s₂ = ({ (U.calling g mk a).setFrames s₂.frames with heap := s₂.heap, slotsUsed := s₂.slotsUsed } : State).setVm s₂.vm := by
      have : s₂ = ({ s₂ with vm := (U.calling g mk a).vm } : State).setVm s₂.vm := rfl
      rw [e2] at this
      exact this
    have hf₂ : s₂.frames = .throwing q :: .java g :: U.frames.tail := hend
    have hW' : U.WarmedH s₂.vm := hW₂
    have hs₂ : s₂ = ((({ U with heap := s₂.heap, slotsUsed := s₂.slotsUsed } : State).setVm s₂.vm).setTop g).pushFrame (.throwing q) := by
      refine e3.trans ?_
      rw [hf₂, State.calling_eq h.top, State.setFrames_setFrames, State.pushFrame, State.frames_setTop _ hr', State.setTop_of_frames _ hr', State.setFrames_setFrames, hr]
      rfl
    have hsame : U.sameButNew ({ U with heap := s₂.heap, slotsUsed := s₂.slotsUsed } : State) L mc ms := by
      refine ⟨?_, q2, q3, q4, q5, q6⟩
      obtain ⟨t, ht, -⟩ := State.frames_cons hr
      show ({ U with heap := s₂.heap, slotsUsed := s₂.slotsUsed } : State) = { U.setFrames U.frames with heap := s₂.heap, slotsUsed := s₂.slotsUsed }
      rw [State.setFrames_self ht]
    subst hg
    refine Or.inr ⟨q, ⟨(({ U with heap := s₂.heap, slotsUsed := s₂.slotsUsed } : State).setVm s₂.vm), Ls ++ L, c0 + mc, s0 + ms⟩,
      ⟨X.admits, X.cas, X.clock, X.frames, X.room, X.hears, X.method, X.code, (X.here.setHeapUsed s₂.heap s₂.slotsUsed).setVm hW'.alike, X.tail, State.WarmedH.trans X.warmed hW', X.limits, X.bytes, X.same.trans (hsame.setVm s.vm)⟩,
      ⟨g, mk, s₂, L, E, ce, rfl, rfl, hx, hce, hcv, hcl, rfl, hL, rfl, rfl⟩, ?_⟩
    show Steps p.tables e below _ (((({ U with heap := s₂.heap, slotsUsed := s₂.slotsUsed } : State).setVm s₂.vm).setTop g).pushFrame (.throwing q))
    rw [← hs₂]
    exact hsteps
end
variable {p : Program} {l : Launch} {e : Env} {R : Room} {s : State} {m : MethodId} {args : Array Value} {below : List Frame} {meth : Method} {c : Code} {T : State} {H : Heap} {locs : List Loc} {cells slots : Nat}
theorem vx_callVX (X : Stand p l e R s m args below meth c T locs cells slots) (hexec : p.tables.exec = Jvm.exec) {own C : String} {index : Nat} {y : MethodName} {bytes : ByteArray} {maxL : Nat} {ret : Option FieldType} {hh : List (Nat × Nat × Nat × Nat)}
    (hown : s.vm.findClass own = some m.cls) (hlink : (Cond.methodLink own index y).before args s = true) (hinst : (Cond.instanceMethod y).before args s = true) (hsel : (Cond.selects C y y).before args s = true)
    (hcode : (Cond.codeWith y bytes maxL ret hh).before args s = true) (hy : y.cls ≠ "java/lang/invoke/MethodHandle" ∧ y.cls ≠ "java/lang/invoke/VarHandle")
    {W9 : Nat} {Pre : Pt → Array Value → Prop} {Post : Pt → Array Value → Option Value → Pt → Prop} {PostX : Pt → Array Value → Addr → Pt → Prop} (hK : vx_Back l R p e below s args y 3 W9 Pre Post PostX)
    {b : Addr} {cellB : Cell} (hcell : T.heap[b]? = some cellB) (hobj : cellB.vm.isStatics = false) (hcls : s.vm.findClass C = some cellB.cls)
    {g : JFrame} (hg : g.method = m) (hsize : g.locals.size = c.maxLocals) {argsL rest : List Value} (hlen : ∀ sig, parseMethodDescriptor y.desc = some sig → argsL.length = sig.parameters.length)
    (hstack : g.stack = argsL.reverse ++ .ref b :: rest) (hW : 2 * g.monitorRoom + (rest.map fun v => v.category).sum ≤ W9) (hdg : decode c.code g.pc = .ok (.invokevirtual index, 3))
    (hpre : ∀ vm₁, s.WarmedH vm₁ → Pre ⟨T.setVm vm₁, locs, cells, slots⟩ (Value.ref b :: argsL).toArray) :
    (∃ (v : Option Value) (vm₁ : Vm) (B : Pt), s.WarmedH vm₁ ∧ Stand p l e R s m args below meth c B.U B.locs B.cells B.slots ∧ Post ⟨T.setVm vm₁, locs, cells, slots⟩ (Value.ref b :: argsL).toArray v B ∧
      ∀ target, Steps p.tables e below (B.U.setTop { g with pc := g.pc + 3, stack := v.toList ++ rest }) target → Steps p.tables e below (T.setTop g) target) ∨
    (∃ (q : Addr) (vm₁ : Vm) (B : Pt), s.WarmedH vm₁ ∧ Stand p l e R s m args below meth c B.U B.locs B.cells B.slots ∧ PostX ⟨T.setVm vm₁, locs, cells, slots⟩ (Value.ref b :: argsL).toArray q B ∧
      Steps p.tables e below (T.setTop g) ((B.U.setTop { g with stack := rest }).pushFrame (.throwing q))) := by
  obtain ⟨mk, methM, hnamed, hmethM, hstM, habM⟩ := Cond.instanceMethod_spec hinst
  obtain ⟨m8, methM', cM, hn8, hmethM', -, -, -, -, -, -, hsigM⟩ := Cond.codeWith_spec hcode
  cases Option.some.inj (hn8.symm.trans hnamed)
  cases hmethM.symm.trans hmethM'
  obtain ⟨c2, r2, m2, q1, q2, q3, q4, kP, hkP, hkPi⟩ := Cond.selects_spec hsel
  cases hcls.symm.trans q1
  cases (State.methodFound?_of_named hnamed hy).symm.trans q2
  cases hnamed.symm.trans q3
  have hselP : selectMethod e.platform s.vm cellB.cls mk = .method mk := by rw [Launch.admits_selectMethod X.admits]; exact q4
  obtain ⟨vm₁, X₁, hstep₁⟩ := X.invokevirtual hexec hown hlink hnamed hmethM hstM hkP hkPi hy (a := b) (cell := cellB) hcell
    (fun z h => by rw [h] at hobj; cases hobj) hselP hmethM habM hkP hkPi (g := g) hg (argsL := argsL) (rest := rest) (hlen _ hsigM) hstack hdg
  rcases hK m meth c ⟨T.setVm vm₁, locs, cells, slots⟩ { g with stack := rest } (.invokevirtual index) mk (Value.ref b :: argsL).toArray X₁ hg hsize hdg hW (X₁.named hnamed) (hpre vm₁ X₁.warmed) with ⟨v, B, X', hpost, hsteps⟩ | ⟨q, B, X', hpost, hsteps⟩
  · exact Or.inl ⟨v, vm₁, B, X₁.warmed, X', hpost, fun target h => hstep₁ _ fun acts => by rw [doInvoke_state]; exact hsteps.trans h⟩
  · exact Or.inr ⟨q, vm₁, B, X₁.warmed, X', hpost, hstep₁ _ fun acts => by rw [doInvoke_state]; exact hsteps⟩
theorem vx_callSX (X : Stand p l e R s m args below meth c T locs cells slots) (hexec : p.tables.exec = Jvm.exec) {own : String} {index : Nat} {y : MethodName} {bytes : ByteArray} {maxL : Nat} {ret : Option FieldType} {hh : List (Nat × Nat × Nat × Nat)}
    (hown : s.vm.findClass own = some m.cls) (hlink : (Cond.methodLink own index y).before args s = true) (hstat : (Cond.static y).before args s = true) (hinit : (Cond.initialized y.cls).before args s = true)
    (hcode : (Cond.codeWith y bytes maxL ret hh).before args s = true) (hy : y.cls ≠ "java/lang/invoke/MethodHandle" ∧ y.cls ≠ "java/lang/invoke/VarHandle")
    {W9 : Nat} {Pre : Pt → Array Value → Prop} {Post : Pt → Array Value → Option Value → Pt → Prop} {PostX : Pt → Array Value → Addr → Pt → Prop} (hK : vx_Back l R p e below s args y 3 W9 Pre Post PostX)
    {g : JFrame} (hg : g.method = m) (hsize : g.locals.size = c.maxLocals) {argsL rest : List Value} (hlen : ∀ sig, parseMethodDescriptor y.desc = some sig → argsL.length = sig.parameters.length)
    (hstack : g.stack = argsL.reverse ++ rest) (hW : 2 * g.monitorRoom + (rest.map fun v => v.category).sum ≤ W9) (hdg : decode c.code g.pc = .ok (.invokestatic index, 3))
    (hpre : ∀ vm₁, s.WarmedH vm₁ → Pre ⟨T.setVm vm₁, locs, cells, slots⟩ argsL.toArray) :
    (∃ (v : Option Value) (vm₁ : Vm) (B : Pt), s.WarmedH vm₁ ∧ Stand p l e R s m args below meth c B.U B.locs B.cells B.slots ∧ Post ⟨T.setVm vm₁, locs, cells, slots⟩ argsL.toArray v B ∧
      ∀ target, Steps p.tables e below (B.U.setTop { g with pc := g.pc + 3, stack := v.toList ++ rest }) target → Steps p.tables e below (T.setTop g) target) ∨
    (∃ (q : Addr) (vm₁ : Vm) (B : Pt), s.WarmedH vm₁ ∧ Stand p l e R s m args below meth c B.U B.locs B.cells B.slots ∧ PostX ⟨T.setVm vm₁, locs, cells, slots⟩ argsL.toArray q B ∧
      Steps p.tables e below (T.setTop g) ((B.U.setTop { g with stack := rest }).pushFrame (.throwing q))) := by
  obtain ⟨mk, methM, cM, hnamed, hmethM, -, -, -, -, -, -, hsigM⟩ := Cond.codeWith_spec hcode
  have hstatic : methM.isStatic = true := Cond.static_spec hnamed hmethM hstat
  obtain ⟨kP, hkP, -⟩ := className_of_methodNamed hnamed
  have hinitP : kP.init = .initialized := Cond.initialized_spec (findClass_of_methodNamed hnamed) hkP hinit
  obtain ⟨vm₁, X₁, hstep₁⟩ := X.invokestatic hexec hown hlink hnamed hmethM hstatic hkP hinitP hy (g := g) hg (argsL := argsL) (rest := rest) (hlen _ hsigM) hstack hdg
  rcases hK m meth c ⟨T.setVm vm₁, locs, cells, slots⟩ { g with stack := rest } (.invokestatic index) mk argsL.toArray X₁ hg hsize hdg hW (X₁.named hnamed) (hpre vm₁ X₁.warmed) with ⟨v, B, X', hpost, hsteps⟩ | ⟨q, B, X', hpost, hsteps⟩
  · exact Or.inl ⟨v, vm₁, B, X₁.warmed, X', hpost, fun target h => hstep₁ _ fun acts => by rw [doInvoke_state]; exact hsteps.trans h⟩
  · exact Or.inr ⟨q, vm₁, B, X₁.warmed, X', hpost, hstep₁ _ fun acts => by rw [doInvoke_state]; exact hsteps⟩
theorem vx_callVW (X : Stand p l e R s m args below meth c T locs cells slots) (hexec : p.tables.exec = Jvm.exec) {own C : String} {index : Nat} {y : MethodName} {bytes : ByteArray} {maxL : Nat} {ret : Option FieldType} {hh : List (Nat × Nat × Nat × Nat)}
    (hown : s.vm.findClass own = some m.cls) (hlink : (Cond.methodLink own index y).before args s = true) (hinst : (Cond.instanceMethod y).before args s = true) (hsel : (Cond.selects C y y).before args s = true)
    (hcode : (Cond.codeWith y bytes maxL ret hh).before args s = true) (hy : y.cls ≠ "java/lang/invoke/MethodHandle" ∧ y.cls ≠ "java/lang/invoke/VarHandle")
    {W9 : Nat} {Pre : Pt → Array Value → Prop} {Post : Pt → Array Value → Option Value → Pt → Prop} (hK : Back l R p e below s args y 3 W9 Pre Post)
    {b : Addr} {cellB : Cell} (hcell : T.heap[b]? = some cellB) (hobj : cellB.vm.isStatics = false) (hcls : s.vm.findClass C = some cellB.cls)
    {g : JFrame} (hg : g.method = m) (hsize : g.locals.size = c.maxLocals) {argsL rest : List Value} (hlen : ∀ sig, parseMethodDescriptor y.desc = some sig → argsL.length = sig.parameters.length)
    (hstack : g.stack = argsL.reverse ++ .ref b :: rest) (hW : 2 * g.monitorRoom + (rest.map fun v => v.category).sum ≤ W9) (hdg : decode c.code g.pc = .ok (.invokevirtual index, 3))
    (hpre : ∀ vm₁, s.WarmedH vm₁ → Pre ⟨T.setVm vm₁, locs, cells, slots⟩ (Value.ref b :: argsL).toArray) :
    ∃ (v : Option Value) (vm₁ : Vm) (B : Pt), s.WarmedH vm₁ ∧ Stand p l e R s m args below meth c B.U B.locs B.cells B.slots ∧ Post ⟨T.setVm vm₁, locs, cells, slots⟩ (Value.ref b :: argsL).toArray v B ∧
      ∀ target, Steps p.tables e below (B.U.setTop { g with pc := g.pc + 3, stack := v.toList ++ rest }) target → Steps p.tables e below (T.setTop g) target := by
  obtain ⟨mk, methM, hnamed, hmethM, hstM, habM⟩ := Cond.instanceMethod_spec hinst
  obtain ⟨m8, methM', cM, hn8, hmethM', -, -, -, -, -, -, hsigM⟩ := Cond.codeWith_spec hcode
  cases Option.some.inj (hn8.symm.trans hnamed)
  cases hmethM.symm.trans hmethM'
  obtain ⟨c2, r2, m2, q1, q2, q3, q4, kP, hkP, hkPi⟩ := Cond.selects_spec hsel
  cases hcls.symm.trans q1
  cases (State.methodFound?_of_named hnamed hy).symm.trans q2
  cases hnamed.symm.trans q3
  have hselP : selectMethod e.platform s.vm cellB.cls mk = .method mk := by rw [Launch.admits_selectMethod X.admits]; exact q4
  obtain ⟨vm₁, X₁, hstep₁⟩ := X.invokevirtual hexec hown hlink hnamed hmethM hstM hkP hkPi hy (a := b) (cell := cellB) hcell
    (fun z h => by rw [h] at hobj; cases hobj) hselP hmethM habM hkP hkPi (g := g) hg (argsL := argsL) (rest := rest) (hlen _ hsigM) hstack hdg
  obtain ⟨v, B, X', hpost, hsteps⟩ := hK m meth c ⟨T.setVm vm₁, locs, cells, slots⟩ { g with stack := rest } (.invokevirtual index) mk (Value.ref b :: argsL).toArray X₁ hg hsize hdg hW (X₁.named hnamed) (hpre vm₁ X₁.warmed)
  exact ⟨v, vm₁, B, X₁.warmed, X', hpost, fun target h => hstep₁ _ fun acts => by rw [doInvoke_state]; exact hsteps.trans h⟩
abbrev vx_CVW (R : Room) (s : State) (args : Array Value) (own C : String) (index : Nat) (y : MethodName) (bytes : ByteArray) (maxL : Nat) (ret : Option FieldType) (hh : List (Nat × Nat × Nat × Nat)) (ws : List Cond) (rm : Room) (mc ms n : Nat) : Prop :=
  (rm.cells = mc ∧ rm.slots = ms ∧ rm.frames + 1 ≤ R.frames ∧ 8 + (maxL + 11) + rm.locals ≤ R.locals ∧ (∀ w ∈ ws, ∀ (a' : Array Value) (U : State), s.WarmedH U.vm → w.before a' U = true) ∧ Cond.codeWith y bytes maxL ret hh ∈ ws) ∧
  (Cond.codeWith y bytes maxL ret hh).before args s = true ∧ (Cond.initialized y.cls).before args s = true ∧ (y.cls ≠ "java/lang/invoke/MethodHandle" ∧ y.cls ≠ "java/lang/invoke/VarHandle") ∧
  (∀ sig, parseMethodDescriptor y.desc = some sig → n = sig.parameters.length) ∧ (Cond.methodLink own index y).before args s = true ∧ (Cond.instanceMethod y).before args s = true ∧ (Cond.selects C y y).before args s = true
theorem vx_cwVW {own C : String} {index maxL mc ms : Nat} {y : MethodName} {bytes : ByteArray} {ret : Option FieldType} {hh : List (Nat × Nat × Nat × Nat)} {Ts ws ws' : List Cond} {rm : Room} (n : Nat) (ht : ∀ w ∈ Ts, w.before args s = true) (hT : GoodIn Ts (wsV own index C y ws)) (hw : ws = Cond.codeWith y bytes maxL ret hh :: ws') (hrc : rm.cells = mc) (hrs : rm.slots = ms)
    (hd : y.cls = C ∧ y.cls ≠ "java/lang/invoke/MethodHandle" ∧ y.cls ≠ "java/lang/invoke/VarHandle" ∧ (parseMethodDescriptor y.desc).map (fun d => d.parameters.length) = some n) (hR : rm.frames + 1 ≤ R.frames ∧ 8 + (maxL + 11) + rm.locals ≤ R.locals) :
    vx_CVW R s args own C index y bytes maxL ret hh ws rm mc ms n := by
  obtain ⟨hC, hd⟩ := hd
  subst hC
  have ok : ∀ w ∈ wsV own index y.cls y ws, w.before args s = true := fun w h => ht w (hT w h).1
  have hG : GoodIn Ts ws := fun w h => hT w (by unfold wsV; exact List.mem_append_right _ h)
  have hc : Cond.codeWith y bytes maxL ret hh ∈ ws := by rw [hw]; exact List.mem_cons_self
  refine ⟨⟨hrc, hrs, hR.1, hR.2, pay_in ht hG, hc⟩, ht _ (hG _ hc).1, ok _ (by simp [wsV]), ⟨hd.1, hd.2.1⟩, fun sig h => ?_, ok _ (by simp [wsV]), ok _ (by simp [wsV]), ok _ (by simp [wsV])⟩
  have h2 := hd.2.2
  rw [h] at h2
  exact (Option.some.inj h2).symm
theorem vx_runVW {y : MethodName} {bytes cc : ByteArray} {maxL nL mc ms n index : Nat} {ret : Option FieldType} {hh : List (Nat × Nat × Nat × Nat)} {ws : List Cond} {rm : Room} {Pc : Array Value → State → Prop} {Qc : Array Value → State → Outcome → State → Prop} {free : Addr → Prop} {Ts : List Cond} {own C : String} {b : Addr} {As rest : List Value} {g : JFrame}
    (S : CallFix p m c cc nL s args Ts own) (hM : Met l y ws rm Pc Qc mc ms free) (cw : vx_CVW R s args own C index y bytes maxL ret hh ws rm mc ms n) (hp : PreV s H C b Pc As)
    (hg : g.method = m) (hn : As.length = n) (hsize : g.locals.size = nL) (hstack : g.stack = As.reverse ++ .ref b :: rest) (hW : 2 * g.monitorRoom + (rest.map fun v => v.category).sum ≤ 8) (hdg : decode cc g.pc = .ok (.invokevirtual index, 3)) (hf : cells + mc ≤ R.cells ∧ slots + ms ≤ R.slots) :
    va_Run p l e R s m args below meth c H locs cells slots mc ms g rest (Qc (Value.ref b :: As).toArray) free := by
  obtain ⟨⟨hrc, hrs, hfr, hlo, hws, hcw⟩, hcode, hini, hy, hlen, hl, hin, hse⟩ := cw
  have hK : Back l R p e below s args y 3 8 (PreOf R mc ms Pc) (PostOf Qc mc ms free) := va_backW (hh := hh) (bytes := bytes) (maxL := maxL) (ret := ret) hM hp.1 hrc hrs hfr hlo hws hcw (fun a' U hW => word_at hW (Or.inl (by first | rfl | simp [Cond.onTables, Cond.keeps, Cond.steady])) hini)
  obtain ⟨hx, hb, hml, ho, -⟩ := S
  obtain ⟨-, ⟨cellB, hcB, hoB, hclB⟩, hPc⟩ := hp
  intro T hT X
  obtain ⟨v, vm₁, ⟨U', l2, c2, s2⟩, hW₁, X', ⟨g', mk, t, L, e1, e2, hq, h1, hL, h2, h3⟩, st⟩ := vx_callVW X hx (C := C) (hh := hh) (bytes := bytes) (maxL := maxL) (ret := ret) ho hl hin hse hcode hy hK (by rw [hT]; exact hcB) hoB hclB hg (hsize.trans hml.symm) (argsL := As) (rest := rest) (fun sig h => hn.trans (hlen sig h)) hstack hW (by rw [hb]; exact hdg)
    (fun vm₁ hW₁ => ⟨hf.1, hf.2, hPc (T.setVm vm₁) hT hW₁⟩)
  dsimp only [Pt.U, Pt.locs, Pt.cells, Pt.slots] at X' e1 e2 h1 h2 h3 st
  subst h1; subst h2; subst h3
  exact ⟨v, (T.setVm vm₁).calling g' mk (Value.ref b :: As).toArray, t, U', L, hT, X', hL, e1, e2, hq, st⟩
section
variable {y : MethodName} {bytes cc : ByteArray} {maxL nL mc ms n index : Nat} {ret : Option FieldType} {ws : List Cond} {rm : Room} {Pc : Array Value → State → Prop} {Qc : Array Value → State → Outcome → State → Prop} {XC : String → State → State → Prop} {free : Addr → Prop} {Ts : List Cond} {own C : String} {b : Addr} {As rest : List Value} {g : JFrame}
theorem vx_runVX {hh : List (Nat × Nat × Nat × Nat)} (S : CallFix p m c cc nL s args Ts own) (hM : vx_Met l y ws rm Pc Qc XC mc ms free) (cw : vx_CVW R s args own C index y bytes maxL ret hh ws rm mc ms n) (hp : PreV s H C b Pc As)
    (hg : g.method = m) (hn : As.length = n) (hsize : g.locals.size = nL) (hstack : g.stack = As.reverse ++ .ref b :: rest) (hW : 2 * g.monitorRoom + (rest.map fun v => v.category).sum ≤ 8) (hdg : decode cc g.pc = .ok (.invokevirtual index, 3)) (hf : cells + mc ≤ R.cells ∧ slots + ms ≤ R.slots) :
    vx_Run p l e R s m args below meth c H locs cells slots mc ms g rest (Qc (Value.ref b :: As).toArray) XC free := by
  obtain ⟨⟨hrc, hrs, hfr, hlo, hws, hcw⟩, hcode, hini, hy, hlen, hl, hin, hse⟩ := cw
  have hK : vx_Back l R p e below s args y 3 8 (PreOf R mc ms Pc) (PostOf Qc mc ms free) (vx_Post XC mc ms free) := vx_backW (hh := hh) (bytes := bytes) (maxL := maxL) (ret := ret) hM hp.1 hrc hrs hfr hlo hws hcw (fun a' U hW => word_at hW (Or.inl (by first | rfl | simp [Cond.onTables, Cond.keeps, Cond.steady])) hini)
  obtain ⟨hx, hb, hml, ho, -⟩ := S
  obtain ⟨-, ⟨cellB, hcB, hoB, hclB⟩, hPc⟩ := hp
  intro T hT X
  rcases vx_callVX X hx (C := C) (hh := hh) (bytes := bytes) (maxL := maxL) (ret := ret) ho hl hin hse hcode hy hK (by rw [hT]; exact hcB) hoB hclB hg (hsize.trans hml.symm) (argsL := As) (rest := rest) (fun sig h => hn.trans (hlen sig h)) hstack hW (by rw [hb]; exact hdg)
    (fun vm₁ hW₁ => ⟨hf.1, hf.2, hPc (T.setVm vm₁) hT hW₁⟩) with ⟨v, vm₁, ⟨U', l2, c2, s2⟩, hW₁, X', ⟨g', mk, t, L, e1, e2, hq, h1, hL, h2, h3⟩, st⟩ | ⟨q, vm₁, ⟨U', l2, c2, s2⟩, hW₁, X', ⟨g', mk, t, L, E, ce, e1, e2, hq, hce, hcv, hcl, h1, hL, h2, h3⟩, st⟩
  · dsimp only [Pt.U, Pt.locs, Pt.cells, Pt.slots] at X' e1 e2 h1 h2 h3 st
    subst h1; subst h2; subst h3
    exact Or.inl ⟨v, (T.setVm vm₁).calling g' mk (Value.ref b :: As).toArray, t, U', L, hT, X', hL, e1, e2, hq, st⟩
  · dsimp only [Pt.U, Pt.locs, Pt.cells, Pt.slots] at X' e1 e2 h1 h2 h3 st hcl
    subst h1; subst h2; subst h3
    exact Or.inr ⟨q, (T.setVm vm₁).calling g' mk (Value.ref b :: As).toArray, t, U', L, E, ce, hT, X', hL, e1, e2, hq, hce, hcv, vx_cls hW₁ hcl, st⟩
theorem vx_runSX {hh : List (Nat × Nat × Nat × Nat)} (S : CallFix p m c cc nL s args Ts own) (hM : vx_Met l y ws rm Pc Qc XC mc ms free) (cw : vx_CSW R s args own index y bytes maxL ret hh ws rm mc ms n) (hp : PreS s H Pc As)
    (hg : g.method = m) (hn : As.length = n) (hsize : g.locals.size = nL) (hstack : g.stack = As.reverse ++ rest) (hW : 2 * g.monitorRoom + (rest.map fun v => v.category).sum ≤ 8) (hdg : decode cc g.pc = .ok (.invokestatic index, 3)) (hf : cells + mc ≤ R.cells ∧ slots + ms ≤ R.slots) :
    vx_Run p l e R s m args below meth c H locs cells slots mc ms g rest (Qc As.toArray) XC free := by
  obtain ⟨⟨hrc, hrs, hfr, hlo, hws, hcw⟩, hcode, hini, hy, hlen, hl, hstt⟩ := cw
  have hK : vx_Back l R p e below s args y 3 8 (PreOf R mc ms Pc) (PostOf Qc mc ms free) (vx_Post XC mc ms free) := vx_backW (hh := hh) (bytes := bytes) (maxL := maxL) (ret := ret) hM hp.1 hrc hrs hfr hlo hws hcw (fun a' U hW => word_at hW (Or.inl (by first | rfl | simp [Cond.onTables, Cond.keeps, Cond.steady])) hini)
  obtain ⟨hx, hb, hml, ho, -⟩ := S
  intro T hT X
  rcases vx_callSX X hx (hh := hh) (bytes := bytes) (maxL := maxL) (ret := ret) ho hl hstt hini hcode hy hK hg (hsize.trans hml.symm) (argsL := As) (rest := rest) (fun sig h => hn.trans (hlen sig h)) hstack hW (by rw [hb]; exact hdg)
    (fun vm₁ hW₁ => ⟨hf.1, hf.2, hp.2 (T.setVm vm₁) hT hW₁⟩) with ⟨v, vm₁, ⟨U', l2, c2, s2⟩, hW₁, X', ⟨g', mk, t, L, e1, e2, hq, h1, hL, h2, h3⟩, st⟩ | ⟨q, vm₁, ⟨U', l2, c2, s2⟩, hW₁, X', ⟨g', mk, t, L, E, ce, e1, e2, hq, hce, hcv, hcl, h1, hL, h2, h3⟩, st⟩
  · dsimp only [Pt.U, Pt.locs, Pt.cells, Pt.slots] at X' e1 e2 h1 h2 h3 st
    subst h1; subst h2; subst h3
    exact Or.inl ⟨v, (T.setVm vm₁).calling g' mk As.toArray, t, U', L, hT, X', hL, e1, e2, hq, st⟩
  · dsimp only [Pt.U, Pt.locs, Pt.cells, Pt.slots] at X' e1 e2 h1 h2 h3 st hcl
    subst h1; subst h2; subst h3
    exact Or.inr ⟨q, (T.setVm vm₁).calling g' mk As.toArray, t, U', L, E, ce, hT, X', hL, e1, e2, hq, hce, hcv, vx_cls hW₁ hcl, st⟩
end
end VXH
theorem vx_ofWH {l : Launch} {y : MethodName} {ws ws' : List Cond} {rm : Room} {Pc : Array Value → State → Prop} {Qc : Array Value → State → Outcome → State → Prop} {XC : String → State → State → Prop} {mc ms : Nat} {free : Addr → Prop} {cc : ByteArray} {maxL : Nat} {ret : Option FieldType} {hh : List (Nat × Nat × Nat × Nat)}
    (hy : plainName y.cls = true) (hw : ws = Cond.codeWith y cc maxL ret hh :: ws')
    (body : ∀ p e s m args below meth c s₁, BodyLoose p l y (headSpec ws rm) cc maxL ret e s m args below meth c s₁ → c.maxLocals = maxL → Pc args s →
      W p l e (headSpec ws rm).room s m args below meth c s.heap [] 0 0 (vx_MQ below Qc XC args s mc ms free) (entryFrame m args maxL)) : vx_Met l y ws rm Pc Qc XC mc ms free := by
  refine MetFree.of_bodyS (code := cc) (maxLocals := maxL) (ret := ret) hy ?_ ?_
  · intro args s m h hn
    obtain ⟨m9, meth, c, hn9, h1, h2, h3, h4, -, h5, h6, -⟩ := Cond.codeWith_spec (atoms_spec (ws := ws) h _ (by rw [hw]; exact List.mem_cons_self))
    cases hn.symm.trans hn9
    exact ⟨meth, c, h1, h2, h3, h4, h5, h6⟩
  · intro p e s m args below meth c s₁ B hml hP _
    have hh0 : s₁.heap = s.heap := by rw [B.state]; rfl
    obtain ⟨t, a1, o, b1, b2, b3⟩ := body p e s m args below meth c s₁ B hml hP s₁ hh0 (Stand.of_body B)
    exact ⟨t, o, a1, b1, b2, b3⟩
/-! ===== END ===== -/
/-! ===== BEGIN what the machine throws by itself, no traces kept ===== -/
section VXM
set_option maxHeartbeats 1000000 in
/-- the machine throws cls with the message text, no traces kept: from its note over the frame g to 'throwing' over the same frame (follows the proofs of Stand.vmThrowsMessage, Shelf/KitTracedVmS.lean, and Stand.throwsMessageColdBareV, StandMessageColdV.lean, without the step out of the frame) -/
theorem vx_vmAt {p : Program} {l : Launch} {e : Env} {R : Room} {s : State} {m₀ : MethodId} {args : Array Value} {below : List Frame} {meth : Method} {c : Code} {W : State} {locs : List Loc} {cells slots : Nat}
    (X : Stand p l e R s m₀ args below meth c W locs cells slots) (hexec : p.tables.exec = Jvm.exec) (htr : e.platform.stackTraces = false) {cls : String} {names : List String} {text : String}
    (hcls : Bundle.fit cls = true) (hnames : ∀ n ∈ names, Bundle.fit n = true) (hsoe : (cls == "java/lang/StackOverflowError") = false) (hoom : (cls == "java/lang/OutOfMemoryError") = false)
    (h : ∀ a ∈ Bundle.messageArmAtoms cls names, a.before args s = true)
    (hlocs : ∀ x ∈ locs, ∀ cell, s.heap[x.base]? = some cell → cell.vm.isStatics = false)
    (htext : (text == notModelled) = false) (hlimit : ¬ (stringBytes (stringToUtf16 text)).size > e.platform.arrayLengthLimit) (hheap : ¬ (stringBytes (stringToUtf16 text)).size * componentBytes .byte > e.platform.maxHeapBytes)
    {g : JFrame} (hg : g.method = m₀) (hsize : g.locals.size = c.maxLocals)
    (hRframes : names.length + 4 < R.frames) (hRlocals : 2 * g.monitorRoom + (g.stack.map fun v => v.category).sum + 10240 ≤ R.locals) (hshort : 13 * names.length + 55 ≤ 10240)
    (hRcells : cells + 3 ≤ R.cells) (hRslots : slots + ((stringBytes (stringToUtf16 text)).size + 4 + 6) ≤ R.slots) (hlocks : meth.locks = false) :
    ∃ (S : State) (q : Addr) (ce : Cell), (∀ target, Steps p.tables e below ((S.setTop g).pushFrame (.throwing q)) target → Steps p.tables e below ((W.setTop g).pushFrame (.throwNew cls (some text) none)) target) ∧
      Stand p l e R s m₀ args below meth c S locs (cells + 3) (slots + ((stringBytes (stringToUtf16 text)).size + 4 + 6)) ∧ S.heap[q]? = some ce ∧ s.vm.findClass cls = some ce.cls ∧ ce.vm = .none := by
  have howns : e.platform.frameOwnsMonitors = true := by rw [X.admits.platform]
  have hfin : e.platform.finalization = false := by rw [X.admits.platform]
  have hpl : e.platform.magicAccessors = ({} : Platform).magicAccessors := by rw [X.admits.platform]
  have a : ∀ x, x ∈ Bundle.messageArmAtoms cls names → x.holds args s none s [] = true := fun x hx => h x hx
  obtain ⟨T, Z0, L, -, Y⟩ := ThrowableC.of_atoms (args := args) howns hfin hpl (fun x hx => h x (by simp [Bundle.messageArmAtoms, hx]))
  obtain ⟨Z, M, LZ, LM, hnZ⟩ := Init0T.ofS_atoms (args := args) hpl L Y (fun x hx => h x (by simp [Bundle.messageArmAtoms, hx]))
  obtain ⟨P1, Ps, hlen, L1, hL, hP1m, hlink1, hlink⟩ := Bundle.chainS (args := args) hpl hnZ names cls hcls hnames (fun x hx => h x (by simp [Bundle.messageArmAtoms, hx]))
  obtain ⟨Zs, LZs, hn4, hfitv, hfitc⟩ := StringT.of_atoms (args := args) (fun x hx => h x (by simp [Bundle.messageArmAtoms, hx]))
  have hfound : s.vm.findClass cls = some P1.m.cls := findClass_of_methodNamed hP1m
  obtain ⟨c1, kX, hc1, hk, hord, -, -, hn6⟩ := Cond.instantiable_spec (a (.instantiable cls 6) (by simp [Bundle.messageArmAtoms]))
  cases Option.some.inj (hc1.symm.trans hfound)
  have hinit := Cond.initialized_spec hfound hk (a (.initialized cls) (by simp [Bundle.messageArmAtoms]))
  have hctor : kX.findMethod "<init>" "(Ljava/lang/String;)V" = some P1.m.idx := findMethod_of_methodNamed hP1m hk
  have hsel0 : selectMethod e.platform s.vm P1.m.cls T.fill0 = .method T.fill0 := by
    obtain ⟨c2, r2, m2, q1, q2, q3, q4, -⟩ := Cond.selects_spec (a (.selects cls Bundle.tFill0 Bundle.tFill0) (by simp [Bundle.messageArmAtoms]))
    cases Option.some.inj (q1.symm.trans hfound)
    cases Option.some.inj (q2.symm.trans (State.methodFound?_of_named Y.fill0 (by decide)))
    cases Option.some.inj (q3.symm.trans Y.fill0)
    rw [Launch.admits_selectMethod X.admits]; exact q4
  have hselF : selectMethod e.platform s.vm P1.m.cls T.fill = .method T.fill := by
    obtain ⟨c2, r2, m2, q1, q2, q3, q4, -⟩ := Cond.selects_spec (a (.selects cls Bundle.tFill Bundle.tFill) (by simp [Bundle.messageArmAtoms]))
    cases Option.some.inj (q1.symm.trans hfound)
    cases Option.some.inj (q2.symm.trans (State.methodFound?_of_named Y.fill (by decide)))
    cases Option.some.inj (q3.symm.trans Y.fill)
    rw [Launch.admits_selectMethod X.admits]; exact q4
  obtain ⟨cellS0, hcS0, hiss⟩ := Y.statics
  obtain ⟨u0, hu0⟩ := Cond.staticRefV Y.unassigned L.unassignedStatic L.statics hcS0 hiss (a (.isRef (.static Bundle.tN "UNASSIGNED_STACK" Bundle.steD)) (by simp [Bundle.messageArmAtoms]))
  obtain ⟨sen, hsen⟩ := Cond.staticRefV Y.sentinel L.sentinelStatic L.statics hcS0 hiss (a (.isRef (.static Bundle.tN "SUPPRESSED_SENTINEL" Bundle.listD)) (by simp [Bundle.messageArmAtoms]))
  obtain ⟨ci198, i198, fB, hk198, hg198, ha198, hsB, -, hnB, htB, hffB⟩ := Cond.ownField (t := .object "java/lang/Object") Y.found L.cls (by decide +kernel) (a (.fieldLink Bundle.tN 198 Bundle.tN "backtrace" "Ljava/lang/Object;") (by simp [Bundle.messageArmAtoms])) (a (.lays Bundle.tN Bundle.tN "backtrace" "Ljava/lang/Object;") (by simp [Bundle.messageArmAtoms])) e.platform hpl
  obtain ⟨cellS, hcS', heS, -, hkeep⟩ := X.same.2.2.2.2.2 T.aS cellS0 hcS0
  have hcellS : W.heap[T.aS]? = some cellS := hcS'
  have hout' : ∀ i, (⟨T.aS, i⟩ : Loc) ∉ locs := fun i hmem => by
    have := hlocs _ hmem cellS0 hcS0
    rw [hiss] at this; cases this
  have hknownS : cellS.vm ≠ .unknown := by
    rw [heS]; intro hu
    rw [show cellS0.vm = .unknown from hu] at hiss
    cases hiss
  have hvU : cellS.slots[T.fUnassigned.slot]? = some u0.v := by rw [hkeep _ (hout' _)]; exact hu0
  have hvSen : cellS.slots[T.fSentinel.slot]? = some sen.v := by rw [hkeep _ (hout' _)]; exact hsen
  obtain ⟨iM, hffM⟩ := Y.msg
  obtain ⟨tyC, dC, hdC, hdnC⟩ := Cond.laysAt hfound hk Y.cause (a (.lays cls Bundle.tN "cause" "Ljava/lang/Throwable;") (by simp [Bundle.messageArmAtoms]))
  obtain ⟨tyS, dS, hdS, hdnS⟩ := Cond.laysAt hfound hk Y.stack (a (.lays cls Bundle.tN "stackTrace" Bundle.steD) (by simp [Bundle.messageArmAtoms]))
  obtain ⟨tyP, dP, hdP, hdnP⟩ := Cond.laysAt hfound hk Y.supp (a (.lays cls Bundle.tN "suppressedExceptions" Bundle.listD) (by simp [Bundle.messageArmAtoms]))
  obtain ⟨tyM, dM, hdM, hdnM⟩ := Cond.laysAt hfound hk hffM (a (.lays cls Bundle.tN "detailMessage" "Ljava/lang/String;") (by simp [Bundle.messageArmAtoms]))
  obtain ⟨tyB, dB, hdB, hdnB⟩ := Cond.laysAt hfound hk hffB (a (.lays cls Bundle.tN "backtrace" "Ljava/lang/Object;") (by simp [Bundle.messageArmAtoms]))
  have bC := Cond.laysApart hdB hdC hdnB hdnC (by rw [hnB, Y.causeName]; decide)
  have bS := Cond.laysApart hdB hdS hdnB hdnS (by rw [hnB, Y.stackName]; decide)
  have bP := Cond.laysApart hdB hdP hdnB hdnP (by rw [hnB, Y.suppName]; decide)
  have hbk : ((preparedCellV T.toThrowableT (freshCell P1.m.cls kX) (W.heap.size + 2) u0 sen).withEntry W.cur).slots[fB.slot]? = some .null := by
    have := fresh_default (c := P1.m.cls) tyB
    rw [htB] at this
    simpa [preparedCellV, Cell.setSlot, Cell.withEntry, Array.getElem?_setIfInBounds, bC, bS, bP, bC.symm, bS.symm, bP.symm, defaultValue] using this
  have tkC := Takes.of_laid (v := .ref (W.heap.size + 2)) hk hord tyC (by rw [Y.causeType]; rfl)
  have tkS := Takes.of_laid (v := u0.v) hk hord tyS (by rw [Y.stackType]; exact fits_refV_array _ u0)
  have tkP := Takes.of_laid (v := sen.v) hk hord tyP (by rw [Y.suppType]; exact fits_refV_object _ sen)
  have tkM := Takes.of_laid (v := .ref (W.heap.size + 1)) hk hord tyM (by rw [Y.msgType]; rfl)
  have hskip : SkipFacts T e.platform s (fun u => u) u0 ((preparedCellV T.toThrowableT (freshCell P1.m.cls kX) (W.heap.size + 2) u0 sen).withEntry W.cur) := ⟨{ ci198 := ci198, i198 := i198, fBack := fB }, ⟨hk198, hg198, ha198, hsB⟩, hbk, fun _ _ => rfl⟩
  have h0 : At W g.method c below := by rw [hg]; exact X.here
  obtain ⟨hbeyond, hfreeW⟩ := X.vmMayThrow hsize (.throwNew cls (some text) none) (fun f hf => by cases hf) rfl hRlocals
  have hfr' : W.frames.length + Ps.length + 4 < (e.platform.stackLimits W.me).1 := by have := X.framesAbove hRframes; omega
  have hwd' : (stackUse (.java g :: W.frames.tail)).2 + 13 * Ps.length + 55 ≤ (e.platform.stackLimits W.me).2 := by have := X.stackAbove hsize (K := 13 * Ps.length + 55) (by omega); omega
  have hslots : W.slotsUsed + (stringBytes (stringToUtf16 text)).size + Zs.kS.instanceTypes.size + kX.instanceTypes.size ≤ e.platform.maxSlots := by
    have := X.slotsAbove hRslots
    rw [hn4, hn6]
    omega
  obtain ⟨vm', hW', st⟩ := Steps.vmThrowsMessageColdByV p (s₀ := s) (S := W) (g := g) h0 hexec T L Z LZ M LM X.warmed (t := W.cur) rfl Zs LZs P1 L1 Ps hL hlink1 hlink hsoe hoom hfound hk hinit hord hctor
    (Launch.admits_hotImplicitExceptions X.admits) hbeyond hfreeW htext hlimit hheap (X.cellsAbove hRcells) hslots (hfitv _) (hfitc _)
    (Nn := fun u => u) heapOnly_id (fun _ _ => rfl) (fun _ => rfl) (fun u x y => setCell_twice _ _ _ _) (fun _ => Nat.le_refl _) (cN := ((preparedCellV T.toThrowableT (freshCell P1.m.cls kX) (W.heap.size + 2) u0 sen).withEntry W.cur))
    hsel0 hcellS hknownS hvU tkS (fun _ hu => hu) (fun _ hu => hu) rfl rfl rfl (by simp [preparedCellV, Cell.setSlot, Cell.withEntry]) hskip (fun _ _ hA hW _ hroom _ hrest => L.nativeOff p htr hA hW hroom hrest) hselF hvSen tkC tkP tkM Y.objLocals rfl hfr' hwd'
  rw [plainBareV_eq T.toThrowableT (W.heap.size + 2) u0 sen (.ref (W.heap.size + 1)) W.cur rfl rfl] at st
  obtain ⟨-, -, w3, w4, -, -, -⟩ := withThrown_facts e.platform W Zs text P1.m.cls kX
  have X3 := ((X.pushed (bytesOf Zs.cB (stringToUtf16 text))).pushed (stringAt Zs.cS Zs.kS Zs.fv Zs.fc (stringToUtf16 text) W.heap.size)).pushed (freshCell P1.m.cls kX)
  rw [← withString_eq] at X3
  have X4 := X3.noted hW'
  have ha : (W.heap.size + 2) < ((withThrown W Zs text P1.m.cls kX).setVm vm').heap.size := by show _ < (withThrown W Zs text P1.m.cls kX).heap.size; rw [w3]; omega
  have hcell : ((withThrown W Zs text P1.m.cls kX).setVm vm').heap[(W.heap.size + 2)]? = some (freshCell P1.m.cls kX) := w4
  have X5 := ((((X4.stored hcell T.fCause.slot (.ref (W.heap.size + 2))).storedAgain ha T.fStack.slot u0.v).storedAgain ha T.fSupp.slot sen.v).storedAgain ha T.fStack.slot u0.v).storedAgain ha T.fMsg.slot (.ref (W.heap.size + 1))
  obtain ⟨g₁, hfrM⟩ := X5.frames_eq
  have hU : ((((withThrown W Zs text P1.m.cls kX).setVm vm').setCell (W.heap.size + 2) (plainBareV T.toThrowableT (freshCell P1.m.cls kX) (W.heap.size + 2) u0 sen (.ref (W.heap.size + 1)))).setTop g).pushFrame (.throwing (W.heap.size + 2)) = (((withThrown W Zs text P1.m.cls kX).setVm vm').setCell (W.heap.size + 2) (plainBareV T.toThrowableT (freshCell P1.m.cls kX) (W.heap.size + 2) u0 sen (.ref (W.heap.size + 1)))).setFrames (.throwing (W.heap.size + 2) :: .java g :: below) := by
    rw [State.pushFrame, State.frames_setTop _ hfrM, State.setTop_of_frames _ hfrM, State.setFrames_setFrames]
  have b1 : (bytesOf Zs.cB (stringToUtf16 text)).slots.size = (stringBytes (stringToUtf16 text)).size := by
    rw [(Cell.writeAll_facts _ _).2.2]; simp [bytes0]
  have b2 : (stringAt Zs.cS Zs.kS Zs.fv Zs.fc (stringToUtf16 text) W.heap.size).slots.size = 4 := by simp [string0, Cell.setSlot, hn4]
  have b3 : (freshCell P1.m.cls kX).slots.size = 6 := by simp [hn6]
  rw [b1, b2, b3] at X5
  have e9 : slots + (stringBytes (stringToUtf16 text)).size + 4 + 6 = slots + ((stringBytes (stringToUtf16 text)).size + 4 + 6) := by omega
  rw [e9] at X5
  simp only [List.append_assoc, List.cons_append, List.nil_append] at X5
  refine ⟨((withThrown W Zs text P1.m.cls kX).setVm vm').setCell (W.heap.size + 2) (plainBareV T.toThrowableT (freshCell P1.m.cls kX) (W.heap.size + 2) u0 sen (.ref (W.heap.size + 1))), W.heap.size + 2, _, fun target ht => st _ (by rw [X.tail, ← hU]; exact ht),
    X5.forget (fun y hy => ?_), heapAt_setCell_self _ ha, hfound, rfl⟩
  simp only [List.mem_cons, List.not_mem_nil, or_false] at hy
  have hge : s.heap.size ≤ W.heap.size := X.same.2.1
  rcases hy with rfl | rfl | rfl | rfl | rfl <;> exact Nat.le_trans hge (Nat.le_add_right _ 2)
set_option maxHeartbeats 1000000 in
/-- the machine throws NullPointerException, no traces kept: from its note over the frame g to 'throwing' over the same frame (follows the proof of Stand.vmThrowsNpe, Shelf42/KT2.lean; throwsNpeColdBareVAt, Shelf42/NT91.lean, called) -/
theorem vx_npeAt {p : Program} {l : Launch} {e : Env} {R : Room} {s : State} {m₀ : MethodId} {args : Array Value} {below : List Frame} {meth : Method} {c : Code} {W : State} {locs : List Loc} {cells slots : Nat}
    (X : Stand p l e R s m₀ args below meth c W locs cells slots) (hexec : p.tables.exec = Jvm.exec) (htr : e.platform.stackTraces = false) {n : Nat}
    (h : ∀ a ∈ Bundle.npeArmAtoms n, a.before args s = true)
    (hlocs : ∀ x ∈ locs, ∀ cell, s.heap[x.base]? = some cell → cell.vm.isStatics = false)
    {g : JFrame} (hg : g.method = m₀) (hsize : g.locals.size = c.maxLocals)
    (hRframes : 7 < R.frames) (hRlocals : 2 * g.monitorRoom + (g.stack.map fun v => v.category).sum + 10240 ≤ R.locals)
    (hRcells : cells + 1 ≤ R.cells) (hRslots : slots + n ≤ R.slots) (hlocks : meth.locks = false) :
    ∃ (S : State) (q : Addr) (ce : Cell), (∀ target, Steps p.tables e below ((S.setTop g).pushFrame (.throwing q)) target → Steps p.tables e below ((W.setTop g).pushFrame (.throwNew "java/lang/NullPointerException" none none)) target) ∧
      Stand p l e R s m₀ args below meth c S locs (cells + 1) (slots + n) ∧ S.heap[q]? = some ce ∧ s.vm.findClass "java/lang/NullPointerException" = some ce.cls ∧ ce.vm = .none := by
  have howns : e.platform.frameOwnsMonitors = true := by rw [X.admits.platform]
  have hfin : e.platform.finalization = false := by rw [X.admits.platform]
  have hpl : e.platform.magicAccessors = ({} : Platform).magicAccessors := by rw [X.admits.platform]
  have hpl2 : e.platform.arrayCloneIsPublic = true := by rw [X.admits.platform]
  have a' : ∀ x, x ∈ Bundle.npeArmAtoms n → x.holds args s none s [] = true := fun x hx => h x hx
  obtain ⟨T, Z, L, LZ, Y⟩ := ThrowableC.of_atoms (args := args) howns hfin hpl (fun x hx => h x (by simp [Bundle.npeArmAtoms, hx]))
  obtain ⟨N, LN, hcN, hnNF, hordN, hffS⟩ := NpeC.of_atoms (args := args) hpl hpl2 L Y (fun x hx => h x (by simp [Bundle.npeArmAtoms, hx]))
  obtain ⟨P1, L1, hP1m, hP1s⟩ := PassC.of_atoms (args := args) (s := s) hpl (X := Bundle.nN) (Y := Bundle.rN) (by decide) (by decide) LibCode.NullPointerException.Init0.at_0 LibCode.NullPointerException.Init0.at_1 LibCode.NullPointerException.Init0.at_4 (fun x hx => h x (by simp [Bundle.npeArmAtoms, hx]))
  obtain ⟨PR, LR, hPRm, hPRs⟩ := PassC.of_atoms (args := args) (s := s) hpl (X := Bundle.rN) (Y := Bundle.eN) (by decide) (by decide) LibCode.RuntimeException.Init0.at_0 LibCode.RuntimeException.Init0.at_1 LibCode.RuntimeException.Init0.at_4 (fun x hx => h x (by simp [Bundle.npeArmAtoms, hx]))
  obtain ⟨PE, LEx, hPEm, hPEs⟩ := PassC.of_atoms (args := args) (s := s) hpl (X := Bundle.eN) (Y := Bundle.tN) (by decide) (by decide) LibCode.Exception.Init0.at_0 LibCode.Exception.Init0.at_1 LibCode.Exception.Init0.at_4 (fun x hx => h x (by simp [Bundle.npeArmAtoms, hx]))
  have hfound : s.vm.findClass Bundle.nN = some P1.m.cls := findClass_of_methodNamed hP1m
  have ecls : N.cN = P1.m.cls := Option.some.inj (hcN.symm.trans hfound)
  have hk : s.vm.classes[P1.m.cls]? = some N.kN := by rw [← ecls]; exact LN.cls
  have hinit := Cond.initialized_spec hfound hk (a' (.initialized Bundle.nN) (by simp [Bundle.npeArmAtoms]))
  have hctor : N.kN.findMethod "<init>" "()V" = some P1.m.idx := findMethod_of_methodNamed hP1m hk
  obtain ⟨c1, k1, hc1, hk1, -, -, -, hn⟩ := Cond.instantiable_spec (a' (.instantiable Bundle.nN n) (by simp [Bundle.npeArmAtoms]))
  cases Option.some.inj (hc1.symm.trans hfound)
  cases Option.some.inj (hk1.symm.trans hk)
  have hfsz : (freshCell P1.m.cls N.kN).slots.size = n := by simp [hn]
  have hlink1 : P1.sup = PR.m := Option.some.inj (hP1s.symm.trans hPRm)
  have hlinkR : PR.sup = PE.m := Option.some.inj (hPRs.symm.trans hPEm)
  have hlinkE : PE.sup = Z.m T.toThrowableT := Option.some.inj (hPEs.symm.trans Y.init0)
  have hLs : ∀ P, P ∈ [PR, PE] → P.Links0 e.platform s := fun P hP => by
    simp only [List.mem_cons, List.not_mem_nil, or_false] at hP
    rcases hP with rfl | rfl
    · exact LR
    · exact LEx
  have hsel0 : selectMethod e.platform s.vm P1.m.cls T.fill0 = .method T.fill0 := by
    obtain ⟨c2, r2, m2, q1, q2, q3, q4, -⟩ := Cond.selects_spec (a' (.selects Bundle.nN Bundle.tFill0 Bundle.tFill0) (by simp [Bundle.npeArmAtoms]))
    cases Option.some.inj (q1.symm.trans hfound)
    cases Option.some.inj (q2.symm.trans (State.methodFound?_of_named Y.fill0 (by decide)))
    cases Option.some.inj (q3.symm.trans Y.fill0)
    rw [Launch.admits_selectMethod X.admits]; exact q4
  have hselF : selectMethod e.platform s.vm P1.m.cls T.fill = .method N.fill := by
    obtain ⟨c2, r2, m2, q1, q2, q3, q4, -⟩ := Cond.selects_spec (a' (.selects Bundle.nN Bundle.tFill Bundle.nFill) (by simp [Bundle.npeArmAtoms]))
    cases Option.some.inj (q1.symm.trans hfound)
    cases Option.some.inj (q2.symm.trans (State.methodFound?_of_named Y.fill (by decide)))
    cases Option.some.inj (q3.symm.trans hnNF)
    rw [Launch.admits_selectMethod X.admits]; exact q4
  obtain ⟨cellS0, hcS0, hiss⟩ := Y.statics
  obtain ⟨u0, hu0⟩ := Cond.staticRefV Y.unassigned L.unassignedStatic L.statics hcS0 hiss (a' (.isRef (.static Bundle.tN "UNASSIGNED_STACK" Bundle.steD)) (by simp [Bundle.npeArmAtoms]))
  obtain ⟨sen, hsen⟩ := Cond.staticRefV Y.sentinel L.sentinelStatic L.statics hcS0 hiss (a' (.isRef (.static Bundle.tN "SUPPRESSED_SENTINEL" Bundle.listD)) (by simp [Bundle.npeArmAtoms]))
  obtain ⟨ci198, i198, fB, hk198, hg198, ha198, hsB, -, hnB, htB, hffB⟩ := Cond.ownField (t := .object "java/lang/Object") Y.found L.cls (by decide +kernel) (a' (.fieldLink Bundle.tN 198 Bundle.tN "backtrace" Bundle.objD) (by simp [Bundle.npeArmAtoms])) (a' (.lays Bundle.tN Bundle.tN "backtrace" Bundle.objD) (by simp [Bundle.npeArmAtoms])) e.platform hpl
  obtain ⟨cellS, hcS', heS, -, hkeep⟩ := X.same.2.2.2.2.2 T.aS cellS0 hcS0
  have hcellS : W.heap[T.aS]? = some cellS := hcS'
  have hout' : ∀ i, (⟨T.aS, i⟩ : Loc) ∉ locs := fun i hmem => by
    have := hlocs _ hmem cellS0 hcS0
    rw [hiss] at this; cases this
  have hknownS : cellS.vm ≠ .unknown := by
    rw [heS]; intro hu
    rw [show cellS0.vm = .unknown from hu] at hiss
    cases hiss
  have hvU : cellS.slots[T.fUnassigned.slot]? = some u0.v := by rw [hkeep _ (hout' _)]; exact hu0
  have hvSen : cellS.slots[T.fSentinel.slot]? = some sen.v := by rw [hkeep _ (hout' _)]; exact hsen
  obtain ⟨tyC, dC, hdC, hdnC⟩ := Cond.laysAt hfound hk Y.cause (a' (.lays Bundle.nN Bundle.tN "cause" "Ljava/lang/Throwable;") (by simp [Bundle.npeArmAtoms]))
  obtain ⟨tyS, dS, hdS, hdnS⟩ := Cond.laysAt hfound hk Y.stack (a' (.lays Bundle.nN Bundle.tN "stackTrace" Bundle.steD) (by simp [Bundle.npeArmAtoms]))
  obtain ⟨tyP, dP, hdP, hdnP⟩ := Cond.laysAt hfound hk Y.supp (a' (.lays Bundle.nN Bundle.tN "suppressedExceptions" Bundle.listD) (by simp [Bundle.npeArmAtoms]))
  obtain ⟨tyX, dX, hdX, hdnX⟩ := Cond.laysAt hfound hk hffS (a' (.lays Bundle.nN Bundle.nN "extendedMessageState" "I") (by simp [Bundle.npeArmAtoms, Bundle.npeAtoms]))
  obtain ⟨hnX, htX⟩ := State.fieldFound?_type hffS (t := .int) (by decide +kernel)
  have xC := Cond.laysApart hdC hdX hdnC hdnX (by rw [hnX, Y.causeName]; decide)
  have xS := Cond.laysApart hdS hdX hdnS hdnX (by rw [hnX, Y.stackName]; decide)
  have xP := Cond.laysApart hdP hdX hdnP hdnX (by rw [hnX, Y.suppName]; decide)
  have hv0 : (freshCell P1.m.cls N.kN).slots[N.fState.slot]? = some (.int 0) := by
    have := fresh_default (c := P1.m.cls) tyX
    rw [htX] at this; exact this
  obtain ⟨tyB, dB, hdB, hdnB⟩ := Cond.laysAt hfound hk hffB (a' (.lays Bundle.nN Bundle.tN "backtrace" Bundle.objD) (by simp [Bundle.npeArmAtoms]))
  have bC := Cond.laysApart hdB hdC hdnB hdnC (by rw [hnB, Y.causeName]; decide)
  have bS := Cond.laysApart hdB hdS hdnB hdnS (by rw [hnB, Y.stackName]; decide)
  have bP := Cond.laysApart hdB hdP hdnB hdnP (by rw [hnB, Y.suppName]; decide)
  have bX := Cond.laysApart hdB hdX hdnB hdnX (by rw [hnB, hnX]; decide)
  have hbk : ((npeCell N.toNpeT (preparedCellV T.toThrowableT (freshCell P1.m.cls N.kN) W.heap.size u0 sen) W.cur).withEntry W.cur).slots[fB.slot]? = some .null := by
    have := fresh_default (c := P1.m.cls) tyB
    rw [htB] at this
    simpa [npeCell, preparedCellV, Cell.setSlot, Cell.withEntry, Array.getElem?_setIfInBounds, bC, bS, bP, bX, bC.symm, bS.symm, bP.symm, bX.symm, defaultValue] using this
  have tkC := Takes.of_laid (v := .ref W.heap.size) hk hordN tyC (by rw [Y.causeType]; rfl)
  have tkS := Takes.of_laid (v := u0.v) hk hordN tyS (by rw [Y.stackType]; exact fits_refV_array _ u0)
  have tkP := Takes.of_laid (v := sen.v) hk hordN tyP (by rw [Y.suppType]; exact fits_refV_object _ sen)
  have tkX := Takes.of_laid (v := .int 1) hk hordN tyX (by rw [htX]; rfl)
  have hskip : SkipFacts T e.platform s (fun u => u) u0 ((npeCell N.toNpeT (preparedCellV T.toThrowableT (freshCell P1.m.cls N.kN) W.heap.size u0 sen) W.cur).withEntry W.cur) := ⟨{ ci198 := ci198, i198 := i198, fBack := fB }, ⟨hk198, hg198, ha198, hsB⟩, hbk, fun _ _ => rfl⟩
  obtain ⟨vm', X3, st, -⟩ := X.throwsNpeColdBareVAt hexec hg hsize T L Z LZ N LN P1 L1 [PR, PE] hLs hlink1 ⟨hlinkR, hlinkE, trivial⟩ hfound hk hinit hordN hctor hsel0 hselF hcellS hknownS hvU hvSen
    hv0 xC xS xP tkC tkS tkP tkX Y.objLocals hskip (fun _ _ hA hW _ hroom _ hrest => L.nativeOff p htr hA hW hroom hrest) (by simpa using hRframes) hRlocals (by simp) hRcells (by rw [hn]; exact hRslots)
  have hlt : W.heap.size < ((W.pushCell (freshCell P1.m.cls N.kN)).setVm vm').heap.size := by
    show W.heap.size < (W.pushCell (freshCell P1.m.cls N.kN)).heap.size
    rw [State.heap_size_pushCell]; omega
  rw [hfsz] at X3
  obtain ⟨g₁, hfrM⟩ := X3.frames_eq
  have hU : ((((W.pushCell (freshCell P1.m.cls N.kN)).setVm vm').setCell W.heap.size (npeBareV T.toThrowableT N.toNpeT (freshCell P1.m.cls N.kN) W.heap.size u0 sen)).setTop g).pushFrame (.throwing W.heap.size) = (((W.pushCell (freshCell P1.m.cls N.kN)).setVm vm').setCell W.heap.size (npeBareV T.toThrowableT N.toNpeT (freshCell P1.m.cls N.kN) W.heap.size u0 sen)).setFrames (.throwing W.heap.size :: .java g :: below) := by
    rw [State.pushFrame, State.frames_setTop _ hfrM, State.setTop_of_frames _ hfrM, State.setFrames_setFrames]
  refine ⟨_, W.heap.size, _, fun target ht => st.trans (by rw [← hU]; exact ht), X3.forget (fun y hy => ?_), heapAt_setCell_self _ hlt, hfound, rfl⟩
  simp only [List.mem_cons, List.not_mem_nil, or_false] at hy
  have hge : s.heap.size ≤ W.heap.size := X.same.2.1
  rcases hy with rfl | rfl | rfl | rfl | rfl <;> exact hge
/-- the words of a machine's NullPointerException, but the four that speak of the heap -/
def vx_atN (n : Nat) : List Cond := (Bundle.npeArmAtoms n).filter vx_no
/-- the words of a machine's throw with a message, but the four that speak of the heap -/
def vx_atM (X : String) (names : List String) : List Cond := (Bundle.messageArmAtoms X names).filter vx_no
section
variable {p : Program} {l : Launch} {e : Env} {R : Room} {s : State} {m : MethodId} {args : Array Value} {below : List Frame} {meth : Method} {c : Code} {H : Heap} {locs : List Loc} {cells slots : Nat}
/-- a frame seen from a rebased start, seen from the first start again -/
theorem vx_back9 {T S : State} {R' : Room} {k n : Nat} (X : Stand p l e R s m args below meth c T locs cells slots) (Y : Stand p l e R' ((T.setVm s.vm).setFrames (.invoking m args :: below)) m args below meth c T [] 0 0) (Z : Stand p l e R' ((T.setVm s.vm).setFrames (.invoking m args :: below)) m args below meth c S [] k n) :
    Stand p l e R s m args below meth c S locs (cells + k) (slots + n) := by
  have hW0 : s.WarmedH ((T.setVm s.vm).setFrames (.invoking m args :: below)).vm := State.WarmedH.refl s
  refine { admits := X.admits, cas := X.cas, clock := X.clock, frames := X.frames, room := X.room, hears := X.hears, method := X.method, code := X.code, here := Z.here, tail := Z.tail, warmed := State.WarmedH.trans hW0 Z.warmed, limits := Z.limits.trans (Y.limits.symm.trans X.limits), bytes := Z.bytes.trans (Y.bytes.symm.trans X.bytes), same := ?_ }
  obtain ⟨e1, e2⟩ := Z.same
  rw [State.setFrames_setFrames] at e1
  have h2 : (T.setVm s.vm).sameButNew (S.setVm s.vm) [] k n := ⟨e1, e2⟩
  have h3 := X.same.trans h2
  rw [List.append_nil] at h3
  exact h3
/-- from the machine's note that E is thrown here with this text -/
def vx_Note (p : Program) (l : Launch) (e : Env) (R : Room) (s : State) (m : MethodId) (args : Array Value) (below : List Frame) (meth : Method) (c : Code) (H : Heap) (locs : List Loc) (cells slots : Nat) (Q : State → Prop) (g : JFrame) (E text : String) : Prop :=
  ∀ T : State, T.heap = H → Stand p l e R s m args below meth c T locs cells slots → ∃ t, Steps p.tables e below ((T.setTop g).pushFrame (.throwNew E (some text) none)) t ∧ Q t
theorem vx_vm {pc : Nat} {ls : Array Slot} {rest : List Value} {Q : State → Prop} (hexec : p.tables.exec = Jvm.exec) (hl : l.stackTraces = false) {cls text : String} {names : List String} {nb : Nat} {A : Nat → Prop}
    (hcls : Bundle.fit cls = true) (hnames : ∀ n ∈ names, Bundle.fit n = true) (hsoe : (cls == "java/lang/StackOverflowError") = false) (hoom : (cls == "java/lang/OutOfMemoryError") = false)
    (hat : ∀ w ∈ vx_atM cls names, w.before args s = true) (hgood : ∀ w ∈ vx_atM cls names, vx_ot w = true)
    (hU : vx_Zq Bundle.tN "UNASSIGNED_STACK" Bundle.steD A s s.heap) (hN : vx_Zq Bundle.tN "SUPPRESSED_SENTINEL" Bundle.listD A s s.heap) (hS : va_S A s.heap H locs) (hsize : ls.size = c.maxLocals)
    (htext : (text == notModelled) = false) (hnb : (stringBytes (stringToUtf16 text)).size ≤ nb) (hnb1 : nb ≤ 1000)
    (hRframes : names.length + 4 < R.frames) (hRlocals : (rest.map fun v => v.category).sum + 10240 ≤ R.locals) (hshort : 13 * names.length + 55 ≤ 10240) (hRcells : cells + 3 ≤ R.cells) (hRslots : slots + (nb + 10) ≤ R.slots) (hlocks : meth.locks = false)
    (k : ∀ (H1 : Heap) (q9 : Addr) (ce : Cell), H.size ≤ H1.size → (∀ q : Nat, q < H.size → H1[q]? = H[q]?) → va_S A s.heap H1 locs → H1[q9]? = some ce → ce.vm = .none → s.vm.findClass cls = some ce.cls → vx_W p l e R s m args below meth c H1 locs (cells + 3) (slots + (nb + 10)) Q (F0 m pc ls rest) q9) :
    vx_Note p l e R s m args below meth c H locs cells slots Q (F0 m pc ls rest) cls text := by
  intro T hT X
  have htr : e.platform.stackTraces = false := (show e.platform.stackTraces = l.stackTraces by rw [X.admits.platform]).trans hl
  have Y := vx_rebase X (R' := { frames := R.frames, locals := R.locals, cells := 3, slots := nb + 10 }) (Nat.le_refl _) (Nat.le_refl _) hRcells hRslots
  have hhp : ((T.setVm s.vm).setFrames (.invoking m args :: below)).heap = H := hT
  have hW0 : s.WarmedH ((T.setVm s.vm).setFrames (.invoking m args :: below)).vm := State.WarmedH.refl s
  have hat' : ∀ w ∈ vx_atM cls names, w.before args ((T.setVm s.vm).setFrames (.invoking m args :: below)) = true := fun w hw => vx_ot_at hW0 rfl (hgood w hw) (hat w hw)
  have hU' : vx_Zq Bundle.tN "UNASSIGNED_STACK" Bundle.steD A ((T.setVm s.vm).setFrames (.invoking m args :: below)) ((T.setVm s.vm).setFrames (.invoking m args :: below)).heap := by rw [hhp]; exact vx_Zq.moved hW0.alike (hU.kept hS.2.1)
  have hN' : vx_Zq Bundle.tN "SUPPRESSED_SENTINEL" Bundle.listD A ((T.setVm s.vm).setFrames (.invoking m args :: below)) ((T.setVm s.vm).setFrames (.invoking m args :: below)).heap := by rw [hhp]; exact vx_Zq.moved hW0.alike (hN.kept hS.2.1)
  obtain ⟨S, q, ce, st, Z, hce, hcl', hv⟩ := vx_vmAt Y hexec htr (cls := cls) (names := names) (text := text) hcls hnames hsoe hoom (vx_own hat' (vx_isRefq hU'.1) (vx_isRefq hN'.1) hU'.2.word hN'.2.word) (fun x hx => nomatch hx) htext
    (by rw [Launch.admits_arrayLengthLimit X.admits]; omega) (by rw [Launch.admits_maxHeapBytes X.admits]; simp only [componentBytes]; omega)
    (g := F0 m pc ls rest) rfl hsize hRframes (by show 2 * 0 + (rest.map fun v => v.category).sum + 10240 ≤ R.locals; omega) hshort (by show 0 + 3 ≤ 3; omega) (by show 0 + (_ + 4 + 6) ≤ nb + 10; omega) hlocks
  obtain ⟨f1, f2⟩ := vx_frame Z.same
  have f1' : H.size ≤ S.heap.size := by rw [← hT]; exact f1
  have f2' : ∀ q : Nat, q < H.size → S.heap[q]? = H[q]? := fun q hq => by
    rw [← hT]
    exact f2 q (by rw [← hT] at hq; exact hq) (fun z hz => nomatch hz)
  have X5 := vx_back9 X Y Z
  have X6 : Stand p l e R s m args below meth c S locs (cells + 3) (slots + (nb + 10)) := { X5 with same := X5.same.mono (by omega) (by omega) }
  obtain ⟨t, a1, b1⟩ := k S.heap q ce f1' f2' ⟨Nat.le_trans hS.1 f1', fun q h1 h2 => (f2' q (Nat.lt_of_lt_of_le h1 hS.1)).trans (hS.2.1 q h1 h2), hS.2.2⟩ hce hv hcl' S rfl X6
  exact ⟨t, st t a1, b1⟩
/-- from the machine's note that NullPointerException is thrown here -/
def vx_NoteN (p : Program) (l : Launch) (e : Env) (R : Room) (s : State) (m : MethodId) (args : Array Value) (below : List Frame) (meth : Method) (c : Code) (H : Heap) (locs : List Loc) (cells slots : Nat) (Q : State → Prop) (g : JFrame) : Prop :=
  ∀ T : State, T.heap = H → Stand p l e R s m args below meth c T locs cells slots → ∃ t, Steps p.tables e below ((T.setTop g).pushFrame (.throwNew "java/lang/NullPointerException" none none)) t ∧ Q t
theorem vx_npe {pc : Nat} {ls : Array Slot} {rest : List Value} {Q : State → Prop} (hexec : p.tables.exec = Jvm.exec) (hl : l.stackTraces = false) {nb : Nat} {A : Nat → Prop}
    (hat : ∀ w ∈ vx_atN nb, w.before args s = true) (hgood : ∀ w ∈ vx_atN nb, vx_ot w = true)
    (hU : vx_Zq Bundle.tN "UNASSIGNED_STACK" Bundle.steD A s s.heap) (hN : vx_Zq Bundle.tN "SUPPRESSED_SENTINEL" Bundle.listD A s s.heap) (hS : va_S A s.heap H locs) (hsize : ls.size = c.maxLocals)
    (hRframes : 7 < R.frames) (hRlocals : (rest.map fun v => v.category).sum + 10240 ≤ R.locals) (hRcells : cells + 1 ≤ R.cells) (hRslots : slots + nb ≤ R.slots) (hlocks : meth.locks = false)
    (k : ∀ (H1 : Heap) (q9 : Addr) (ce : Cell), H.size ≤ H1.size → (∀ q : Nat, q < H.size → H1[q]? = H[q]?) → va_S A s.heap H1 locs → H1[q9]? = some ce → ce.vm = .none → s.vm.findClass "java/lang/NullPointerException" = some ce.cls → vx_W p l e R s m args below meth c H1 locs (cells + 1) (slots + nb) Q (F0 m pc ls rest) q9) :
    vx_NoteN p l e R s m args below meth c H locs cells slots Q (F0 m pc ls rest) := by
  intro T hT X
  have htr : e.platform.stackTraces = false := (show e.platform.stackTraces = l.stackTraces by rw [X.admits.platform]).trans hl
  have Y := vx_rebase X (R' := { frames := R.frames, locals := R.locals, cells := 1, slots := nb }) (Nat.le_refl _) (Nat.le_refl _) hRcells hRslots
  have hhp : ((T.setVm s.vm).setFrames (.invoking m args :: below)).heap = H := hT
  have hW0 : s.WarmedH ((T.setVm s.vm).setFrames (.invoking m args :: below)).vm := State.WarmedH.refl s
  have hat' : ∀ w ∈ vx_atN nb, w.before args ((T.setVm s.vm).setFrames (.invoking m args :: below)) = true := fun w hw => vx_ot_at hW0 rfl (hgood w hw) (hat w hw)
  have hU' : vx_Zq Bundle.tN "UNASSIGNED_STACK" Bundle.steD A ((T.setVm s.vm).setFrames (.invoking m args :: below)) ((T.setVm s.vm).setFrames (.invoking m args :: below)).heap := by rw [hhp]; exact vx_Zq.moved hW0.alike (hU.kept hS.2.1)
  have hN' : vx_Zq Bundle.tN "SUPPRESSED_SENTINEL" Bundle.listD A ((T.setVm s.vm).setFrames (.invoking m args :: below)) ((T.setVm s.vm).setFrames (.invoking m args :: below)).heap := by rw [hhp]; exact vx_Zq.moved hW0.alike (hN.kept hS.2.1)
  obtain ⟨S, q, ce, st, Z, hce, hcl', hv⟩ := vx_npeAt Y hexec htr (n := nb) (vx_own hat' (vx_isRefq hU'.1) (vx_isRefq hN'.1) hU'.2.word hN'.2.word) (fun x hx => nomatch hx)
    (g := F0 m pc ls rest) rfl hsize hRframes (by show 2 * 0 + (rest.map fun v => v.category).sum + 10240 ≤ R.locals; omega) (by show 0 + 1 ≤ 1; omega) (by show 0 + nb ≤ nb; omega) hlocks
  obtain ⟨f1, f2⟩ := vx_frame Z.same
  have f1' : H.size ≤ S.heap.size := by rw [← hT]; exact f1
  have f2' : ∀ q : Nat, q < H.size → S.heap[q]? = H[q]? := fun q hq => by
    rw [← hT]
    exact f2 q (by rw [← hT] at hq; exact hq) (fun z hz => nomatch hz)
  have X5 := vx_back9 X Y Z
  have X6 : Stand p l e R s m args below meth c S locs (cells + 1) (slots + nb) := { X5 with same := X5.same.mono (by omega) (by omega) }
  obtain ⟨t, a1, b1⟩ := k S.heap q ce f1' f2' ⟨Nat.le_trans hS.1 f1', fun q h1 h2 => (f2' q (Nat.lt_of_lt_of_le h1 hS.1)).trans (hS.2.1 q h1 h2), hS.2.2⟩ hce hv hcl' S rfl X6
  exact ⟨t, st t a1, b1⟩
variable {Q : State → Prop} {cc : ByteArray} {pc : Nat} {ls : Array Slot} {rest : List Value}
theorem vx_idivZ (hexec : p.tables.exec = Jvm.exec) (hb : c.code = cc) {a b : Int32} (h0 : b = 0) (d : decode cc pc = .ok (.idiv, 1)) (k : vx_Note p l e R s m args below meth c H locs cells slots Q (F0 m pc ls rest) "java/lang/ArithmeticException" "/ by zero") :
    W p l e R s m args below meth c H locs cells slots Q (F0 m pc ls (.int b :: .int a :: rest)) := by
  intro T hT X
  obtain ⟨t, st, q⟩ := k T hT X
  exact ⟨t, X.idivZero hexec (g := F0 m pc ls (.int b :: .int a :: rest)) rfl (a := a) (rest := rest) (by rw [h0]) (by rw [hb]; exact d) t st, q⟩
theorem vx_iremZ (hexec : p.tables.exec = Jvm.exec) (hb : c.code = cc) {a b : Int32} (h0 : b = 0) (d : decode cc pc = .ok (.irem, 1)) (k : vx_Note p l e R s m args below meth c H locs cells slots Q (F0 m pc ls rest) "java/lang/ArithmeticException" "/ by zero") :
    W p l e R s m args below meth c H locs cells slots Q (F0 m pc ls (.int b :: .int a :: rest)) := by
  intro T hT X
  obtain ⟨t, st, q⟩ := k T hT X
  exact ⟨t, X.iremZero hexec (g := F0 m pc ls (.int b :: .int a :: rest)) rfl (a := a) (rest := rest) (by rw [h0]) (by rw [hb]; exact d) t st, q⟩
theorem vx_ldivZ (hexec : p.tables.exec = Jvm.exec) (hb : c.code = cc) {a b : Int64} (h0 : b = 0) (d : decode cc pc = .ok (.ldiv, 1)) (k : vx_Note p l e R s m args below meth c H locs cells slots Q (F0 m pc ls rest) "java/lang/ArithmeticException" "/ by zero") :
    W p l e R s m args below meth c H locs cells slots Q (F0 m pc ls (.long b :: .long a :: rest)) := by
  intro T hT X
  obtain ⟨t, st, q⟩ := k T hT X
  exact ⟨t, X.ldivZero hexec (g := F0 m pc ls (.long b :: .long a :: rest)) rfl (a := a) (rest := rest) (by rw [h0]) (by rw [hb]; exact d) t st, q⟩
theorem vx_lremZ (hexec : p.tables.exec = Jvm.exec) (hb : c.code = cc) {a b : Int64} (h0 : b = 0) (d : decode cc pc = .ok (.lrem, 1)) (k : vx_Note p l e R s m args below meth c H locs cells slots Q (F0 m pc ls rest) "java/lang/ArithmeticException" "/ by zero") :
    W p l e R s m args below meth c H locs cells slots Q (F0 m pc ls (.long b :: .long a :: rest)) := by
  intro T hT X
  obtain ⟨t, st, q⟩ := k T hT X
  exact ⟨t, X.lremZero hexec (g := F0 m pc ls (.long b :: .long a :: rest)) rfl (a := a) (rest := rest) (by rw [h0]) (by rw [hb]; exact d) t st, q⟩
theorem vx_ialdZ {D : va_G} {cl : List vw_C} {ws : va_W} {tys : List (ClassId × FieldType)} {a : Nat} (hexec : p.tables.exec = Jvm.exec) (hb : c.code = cc) (hK : va_K D cl tys s) (hP : va_P D cl ws H) (q0 t0 : Nat) {cA : ClassId} {n : Nat} {f : Nat → Int32} (ha : ws[q0]? = some (a, .inl (cA, n, .inl f))) (ht : tys[t0]? = some (cA, .int)) {i : Int32} (hout : ¬ vp_in i n) (hdg : decode cc pc = .ok (.iaload, 1))
    (k : ∀ tx : String, tx = (toString "Index " ++ toString i ++ toString " out of bounds for length " ++ toString n : String) → vx_Note p l e R s m args below meth c H locs cells slots Q (F0 m pc ls rest) "java/lang/ArrayIndexOutOfBoundsException" tx) : W p l e R s m args below meth c H locs cells slots Q (F0 m pc ls (.int i :: .ref a :: rest)) := by
  intro T hT X
  obtain ⟨t, st, q⟩ := k _ rfl T hT X
  refine ⟨t, ?_, q⟩
  have h1 := X.ialoadOut hexec (by rw [hT]; exact hP q0 _ ha) ((hK.2 t0 _ ht).1 n (fun j => .int (f j))) (j := i) (by show (i < 0 ∨ (arrV _ _ _).slots.size ≤ _); rw [arrV_size]; exact Classical.byContradiction hout) (g := F0 m pc ls (.int i :: .ref a :: rest)) rfl (rest := rest) rfl (by rw [hb]; exact hdg) t
  simp only [arrV_size] at h1
  exact h1 st
theorem vx_iastZ {D : va_G} {cl : List vw_C} {ws : va_W} {tys : List (ClassId × FieldType)} {a : Nat} (hexec : p.tables.exec = Jvm.exec) (hb : c.code = cc) (hK : va_K D cl tys s) (hP : va_P D cl ws H) (q0 t0 : Nat) {cA : ClassId} {n : Nat} {f : Nat → Int32} (ha : ws[q0]? = some (a, .inl (cA, n, .inl f))) (ht : tys[t0]? = some (cA, .int)) {i : Int32} {x : Int32} (hout : ¬ vp_in i n) (hdg : decode cc pc = .ok (.iastore, 1))
    (k : ∀ tx : String, tx = (toString "Index " ++ toString i ++ toString " out of bounds for length " ++ toString n : String) → vx_Note p l e R s m args below meth c H locs cells slots Q (F0 m pc ls rest) "java/lang/ArrayIndexOutOfBoundsException" tx) : W p l e R s m args below meth c H locs cells slots Q (F0 m pc ls (.int x :: .int i :: .ref a :: rest)) := by
  intro T hT X
  obtain ⟨t, st, q⟩ := k _ rfl T hT X
  refine ⟨t, ?_, q⟩
  have h1 := X.iastoreOut hexec (by rw [hT]; exact hP q0 _ ha) ((hK.2 t0 _ ht).1 n (fun j => .int (f j))) (j := i) (by show (i < 0 ∨ (arrV _ _ _).slots.size ≤ _); rw [arrV_size]; exact Classical.byContradiction hout) (g := F0 m pc ls (.int x :: .int i :: .ref a :: rest)) rfl (rest := rest) rfl (by rw [hb]; exact hdg) t
  simp only [arrV_size] at h1
  exact h1 st
theorem vx_baldZ {D : va_G} {cl : List vw_C} {ws : va_W} {tys : List (ClassId × FieldType)} {a : Nat} (hexec : p.tables.exec = Jvm.exec) (hb : c.code = cc) (hK : va_K D cl tys s) (hP : va_P D cl ws H) (q0 t0 : Nat) {cA : ClassId} {n : Nat} {f : Nat → Int32} (ha : ws[q0]? = some (a, .inl (cA, n, .inl f))) (ht : tys[t0]? = some (cA, .byte)) {i : Int32} (hout : ¬ vp_in i n) (hdg : decode cc pc = .ok (.baload, 1))
    (k : ∀ tx : String, tx = (toString "Index " ++ toString i ++ toString " out of bounds for length " ++ toString n : String) → vx_Note p l e R s m args below meth c H locs cells slots Q (F0 m pc ls rest) "java/lang/ArrayIndexOutOfBoundsException" tx) : W p l e R s m args below meth c H locs cells slots Q (F0 m pc ls (.int i :: .ref a :: rest)) := by
  intro T hT X
  obtain ⟨t, st, q⟩ := k _ rfl T hT X
  refine ⟨t, ?_, q⟩
  have h1 := X.baloadOut hexec (by rw [hT]; exact hP q0 _ ha) ((hK.2 t0 _ ht).1 n (fun j => .int (f j))) (j := i) (by show (i < 0 ∨ (arrV _ _ _).slots.size ≤ _); rw [arrV_size]; exact Classical.byContradiction hout) (g := F0 m pc ls (.int i :: .ref a :: rest)) rfl (rest := rest) rfl (by rw [hb]; exact hdg) t
  simp only [arrV_size] at h1
  exact h1 st
theorem vx_bastZ {D : va_G} {cl : List vw_C} {ws : va_W} {tys : List (ClassId × FieldType)} {a : Nat} (hexec : p.tables.exec = Jvm.exec) (hb : c.code = cc) (hK : va_K D cl tys s) (hP : va_P D cl ws H) (q0 t0 : Nat) {cA : ClassId} {n : Nat} {f : Nat → Int32} (ha : ws[q0]? = some (a, .inl (cA, n, .inl f))) (ht : tys[t0]? = some (cA, .byte)) {i : Int32} {x : Int32} (hout : ¬ vp_in i n) (hdg : decode cc pc = .ok (.bastore, 1))
    (k : ∀ tx : String, tx = (toString "Index " ++ toString i ++ toString " out of bounds for length " ++ toString n : String) → vx_Note p l e R s m args below meth c H locs cells slots Q (F0 m pc ls rest) "java/lang/ArrayIndexOutOfBoundsException" tx) : W p l e R s m args below meth c H locs cells slots Q (F0 m pc ls (.int x :: .int i :: .ref a :: rest)) := by
  intro T hT X
  obtain ⟨t, st, q⟩ := k _ rfl T hT X
  refine ⟨t, ?_, q⟩
  have h1 := X.bastoreOut hexec (by rw [hT]; exact hP q0 _ ha) ((hK.2 t0 _ ht).1 n (fun j => .int (f j))) (j := i) (by show (i < 0 ∨ (arrV _ _ _).slots.size ≤ _); rw [arrV_size]; exact Classical.byContradiction hout) (g := F0 m pc ls (.int x :: .int i :: .ref a :: rest)) rfl (rest := rest) rfl (by rw [hb]; exact hdg) t
  simp only [arrV_size] at h1
  exact h1 st
theorem vx_zaldZ {D : va_G} {cl : List vw_C} {ws : va_W} {tys : List (ClassId × FieldType)} {a : Nat} (hexec : p.tables.exec = Jvm.exec) (hb : c.code = cc) (hK : va_K D cl tys s) (hP : va_P D cl ws H) (q0 t0 : Nat) {cA : ClassId} {n : Nat} {f : Nat → Int32} (ha : ws[q0]? = some (a, .inl (cA, n, .inl f))) (ht : tys[t0]? = some (cA, .boolean)) {i : Int32} (hout : ¬ vp_in i n) (hdg : decode cc pc = .ok (.baload, 1))
    (k : ∀ tx : String, tx = (toString "Index " ++ toString i ++ toString " out of bounds for length " ++ toString n : String) → vx_Note p l e R s m args below meth c H locs cells slots Q (F0 m pc ls rest) "java/lang/ArrayIndexOutOfBoundsException" tx) : W p l e R s m args below meth c H locs cells slots Q (F0 m pc ls (.int i :: .ref a :: rest)) := by
  intro T hT X
  obtain ⟨t, st, q⟩ := k _ rfl T hT X
  refine ⟨t, ?_, q⟩
  have h1 := X.baloadOut hexec (by rw [hT]; exact hP q0 _ ha) ((hK.2 t0 _ ht).1 n (fun j => .int (f j))) (j := i) (by show (i < 0 ∨ (arrV _ _ _).slots.size ≤ _); rw [arrV_size]; exact Classical.byContradiction hout) (g := F0 m pc ls (.int i :: .ref a :: rest)) rfl (rest := rest) rfl (by rw [hb]; exact hdg) t
  simp only [arrV_size] at h1
  exact h1 st
theorem vx_zastZ {D : va_G} {cl : List vw_C} {ws : va_W} {tys : List (ClassId × FieldType)} {a : Nat} (hexec : p.tables.exec = Jvm.exec) (hb : c.code = cc) (hK : va_K D cl tys s) (hP : va_P D cl ws H) (q0 t0 : Nat) {cA : ClassId} {n : Nat} {f : Nat → Int32} (ha : ws[q0]? = some (a, .inl (cA, n, .inl f))) (ht : tys[t0]? = some (cA, .boolean)) {i : Int32} {x : Int32} (hout : ¬ vp_in i n) (hdg : decode cc pc = .ok (.bastore, 1))
    (k : ∀ tx : String, tx = (toString "Index " ++ toString i ++ toString " out of bounds for length " ++ toString n : String) → vx_Note p l e R s m args below meth c H locs cells slots Q (F0 m pc ls rest) "java/lang/ArrayIndexOutOfBoundsException" tx) : W p l e R s m args below meth c H locs cells slots Q (F0 m pc ls (.int x :: .int i :: .ref a :: rest)) := by
  intro T hT X
  obtain ⟨t, st, q⟩ := k _ rfl T hT X
  refine ⟨t, ?_, q⟩
  have h1 := X.bastoreOut hexec (by rw [hT]; exact hP q0 _ ha) ((hK.2 t0 _ ht).1 n (fun j => .int (f j))) (j := i) (by show (i < 0 ∨ (arrV _ _ _).slots.size ≤ _); rw [arrV_size]; exact Classical.byContradiction hout) (g := F0 m pc ls (.int x :: .int i :: .ref a :: rest)) rfl (rest := rest) rfl (by rw [hb]; exact hdg) t
  simp only [arrV_size] at h1
  exact h1 st
theorem vx_caldZ {D : va_G} {cl : List vw_C} {ws : va_W} {tys : List (ClassId × FieldType)} {a : Nat} (hexec : p.tables.exec = Jvm.exec) (hb : c.code = cc) (hK : va_K D cl tys s) (hP : va_P D cl ws H) (q0 t0 : Nat) {cA : ClassId} {n : Nat} {f : Nat → Int32} (ha : ws[q0]? = some (a, .inl (cA, n, .inl f))) (ht : tys[t0]? = some (cA, .char)) {i : Int32} (hout : ¬ vp_in i n) (hdg : decode cc pc = .ok (.caload, 1))
    (k : ∀ tx : String, tx = (toString "Index " ++ toString i ++ toString " out of bounds for length " ++ toString n : String) → vx_Note p l e R s m args below meth c H locs cells slots Q (F0 m pc ls rest) "java/lang/ArrayIndexOutOfBoundsException" tx) : W p l e R s m args below meth c H locs cells slots Q (F0 m pc ls (.int i :: .ref a :: rest)) := by
  intro T hT X
  obtain ⟨t, st, q⟩ := k _ rfl T hT X
  refine ⟨t, ?_, q⟩
  have h1 := X.caloadOut hexec (by rw [hT]; exact hP q0 _ ha) ((hK.2 t0 _ ht).1 n (fun j => .int (f j))) (j := i) (by show (i < 0 ∨ (arrV _ _ _).slots.size ≤ _); rw [arrV_size]; exact Classical.byContradiction hout) (g := F0 m pc ls (.int i :: .ref a :: rest)) rfl (rest := rest) rfl (by rw [hb]; exact hdg) t
  simp only [arrV_size] at h1
  exact h1 st
theorem vx_castZ {D : va_G} {cl : List vw_C} {ws : va_W} {tys : List (ClassId × FieldType)} {a : Nat} (hexec : p.tables.exec = Jvm.exec) (hb : c.code = cc) (hK : va_K D cl tys s) (hP : va_P D cl ws H) (q0 t0 : Nat) {cA : ClassId} {n : Nat} {f : Nat → Int32} (ha : ws[q0]? = some (a, .inl (cA, n, .inl f))) (ht : tys[t0]? = some (cA, .char)) {i : Int32} {x : Int32} (hout : ¬ vp_in i n) (hdg : decode cc pc = .ok (.castore, 1))
    (k : ∀ tx : String, tx = (toString "Index " ++ toString i ++ toString " out of bounds for length " ++ toString n : String) → vx_Note p l e R s m args below meth c H locs cells slots Q (F0 m pc ls rest) "java/lang/ArrayIndexOutOfBoundsException" tx) : W p l e R s m args below meth c H locs cells slots Q (F0 m pc ls (.int x :: .int i :: .ref a :: rest)) := by
  intro T hT X
  obtain ⟨t, st, q⟩ := k _ rfl T hT X
  refine ⟨t, ?_, q⟩
  have h1 := X.castoreOut hexec (by rw [hT]; exact hP q0 _ ha) ((hK.2 t0 _ ht).1 n (fun j => .int (f j))) (j := i) (by show (i < 0 ∨ (arrV _ _ _).slots.size ≤ _); rw [arrV_size]; exact Classical.byContradiction hout) (g := F0 m pc ls (.int x :: .int i :: .ref a :: rest)) rfl (rest := rest) rfl (by rw [hb]; exact hdg) t
  simp only [arrV_size] at h1
  exact h1 st
theorem vx_saldZ {D : va_G} {cl : List vw_C} {ws : va_W} {tys : List (ClassId × FieldType)} {a : Nat} (hexec : p.tables.exec = Jvm.exec) (hb : c.code = cc) (hK : va_K D cl tys s) (hP : va_P D cl ws H) (q0 t0 : Nat) {cA : ClassId} {n : Nat} {f : Nat → Int32} (ha : ws[q0]? = some (a, .inl (cA, n, .inl f))) (ht : tys[t0]? = some (cA, .short)) {i : Int32} (hout : ¬ vp_in i n) (hdg : decode cc pc = .ok (.saload, 1))
    (k : ∀ tx : String, tx = (toString "Index " ++ toString i ++ toString " out of bounds for length " ++ toString n : String) → vx_Note p l e R s m args below meth c H locs cells slots Q (F0 m pc ls rest) "java/lang/ArrayIndexOutOfBoundsException" tx) : W p l e R s m args below meth c H locs cells slots Q (F0 m pc ls (.int i :: .ref a :: rest)) := by
  intro T hT X
  obtain ⟨t, st, q⟩ := k _ rfl T hT X
  refine ⟨t, ?_, q⟩
  have h1 := X.saloadOut hexec (by rw [hT]; exact hP q0 _ ha) ((hK.2 t0 _ ht).1 n (fun j => .int (f j))) (j := i) (by show (i < 0 ∨ (arrV _ _ _).slots.size ≤ _); rw [arrV_size]; exact Classical.byContradiction hout) (g := F0 m pc ls (.int i :: .ref a :: rest)) rfl (rest := rest) rfl (by rw [hb]; exact hdg) t
  simp only [arrV_size] at h1
  exact h1 st
theorem vx_sastZ {D : va_G} {cl : List vw_C} {ws : va_W} {tys : List (ClassId × FieldType)} {a : Nat} (hexec : p.tables.exec = Jvm.exec) (hb : c.code = cc) (hK : va_K D cl tys s) (hP : va_P D cl ws H) (q0 t0 : Nat) {cA : ClassId} {n : Nat} {f : Nat → Int32} (ha : ws[q0]? = some (a, .inl (cA, n, .inl f))) (ht : tys[t0]? = some (cA, .short)) {i : Int32} {x : Int32} (hout : ¬ vp_in i n) (hdg : decode cc pc = .ok (.sastore, 1))
    (k : ∀ tx : String, tx = (toString "Index " ++ toString i ++ toString " out of bounds for length " ++ toString n : String) → vx_Note p l e R s m args below meth c H locs cells slots Q (F0 m pc ls rest) "java/lang/ArrayIndexOutOfBoundsException" tx) : W p l e R s m args below meth c H locs cells slots Q (F0 m pc ls (.int x :: .int i :: .ref a :: rest)) := by
  intro T hT X
  obtain ⟨t, st, q⟩ := k _ rfl T hT X
  refine ⟨t, ?_, q⟩
  have h1 := X.sastoreOut hexec (by rw [hT]; exact hP q0 _ ha) ((hK.2 t0 _ ht).1 n (fun j => .int (f j))) (j := i) (by show (i < 0 ∨ (arrV _ _ _).slots.size ≤ _); rw [arrV_size]; exact Classical.byContradiction hout) (g := F0 m pc ls (.int x :: .int i :: .ref a :: rest)) rfl (rest := rest) rfl (by rw [hb]; exact hdg) t
  simp only [arrV_size] at h1
  exact h1 st
theorem vx_laldZ {D : va_G} {cl : List vw_C} {ws : va_W} {tys : List (ClassId × FieldType)} {a : Nat} (hexec : p.tables.exec = Jvm.exec) (hb : c.code = cc) (hK : va_K D cl tys s) (hP : va_P D cl ws H) (q0 t0 : Nat) {cA : ClassId} {n : Nat} {f : Nat → Int64} (ha : ws[q0]? = some (a, .inl (cA, n, .inr (.inl f)))) (ht : tys[t0]? = some (cA, .long)) {i : Int32} (hout : ¬ vp_in i n) (hdg : decode cc pc = .ok (.laload, 1))
    (k : ∀ tx : String, tx = (toString "Index " ++ toString i ++ toString " out of bounds for length " ++ toString n : String) → vx_Note p l e R s m args below meth c H locs cells slots Q (F0 m pc ls rest) "java/lang/ArrayIndexOutOfBoundsException" tx) : W p l e R s m args below meth c H locs cells slots Q (F0 m pc ls (.int i :: .ref a :: rest)) := by
  intro T hT X
  obtain ⟨t, st, q⟩ := k _ rfl T hT X
  refine ⟨t, ?_, q⟩
  have h1 := X.laloadOut hexec (by rw [hT]; exact hP q0 _ ha) ((hK.2 t0 _ ht).1 n (fun j => .long (f j))) (j := i) (by show (i < 0 ∨ (arrV _ _ _).slots.size ≤ _); rw [arrV_size]; exact Classical.byContradiction hout) (g := F0 m pc ls (.int i :: .ref a :: rest)) rfl (rest := rest) rfl (by rw [hb]; exact hdg) t
  simp only [arrV_size] at h1
  exact h1 st
theorem vx_lastZ {D : va_G} {cl : List vw_C} {ws : va_W} {tys : List (ClassId × FieldType)} {a : Nat} (hexec : p.tables.exec = Jvm.exec) (hb : c.code = cc) (hK : va_K D cl tys s) (hP : va_P D cl ws H) (q0 t0 : Nat) {cA : ClassId} {n : Nat} {f : Nat → Int64} (ha : ws[q0]? = some (a, .inl (cA, n, .inr (.inl f)))) (ht : tys[t0]? = some (cA, .long)) {i : Int32} {x : Int64} (hout : ¬ vp_in i n) (hdg : decode cc pc = .ok (.lastore, 1))
    (k : ∀ tx : String, tx = (toString "Index " ++ toString i ++ toString " out of bounds for length " ++ toString n : String) → vx_Note p l e R s m args below meth c H locs cells slots Q (F0 m pc ls rest) "java/lang/ArrayIndexOutOfBoundsException" tx) : W p l e R s m args below meth c H locs cells slots Q (F0 m pc ls (.long x :: .int i :: .ref a :: rest)) := by
  intro T hT X
  obtain ⟨t, st, q⟩ := k _ rfl T hT X
  refine ⟨t, ?_, q⟩
  have h1 := X.lastoreOut hexec (by rw [hT]; exact hP q0 _ ha) ((hK.2 t0 _ ht).1 n (fun j => .long (f j))) (j := i) (by show (i < 0 ∨ (arrV _ _ _).slots.size ≤ _); rw [arrV_size]; exact Classical.byContradiction hout) (g := F0 m pc ls (.long x :: .int i :: .ref a :: rest)) rfl (rest := rest) rfl (by rw [hb]; exact hdg) t
  simp only [arrV_size] at h1
  exact h1 st
theorem vx_faldZ {D : va_G} {cl : List vw_C} {ws : va_W} {tys : List (ClassId × FieldType)} {a : Nat} (hexec : p.tables.exec = Jvm.exec) (hb : c.code = cc) (hK : va_K D cl tys s) (hP : va_P D cl ws H) (q0 t0 : Nat) {cA : ClassId} {n : Nat} {f : Nat → UInt32} (ha : ws[q0]? = some (a, .inl (cA, n, .inr (.inr (.inl f))))) (ht : tys[t0]? = some (cA, .float)) {i : Int32} (hout : ¬ vp_in i n) (hdg : decode cc pc = .ok (.faload, 1))
    (k : ∀ tx : String, tx = (toString "Index " ++ toString i ++ toString " out of bounds for length " ++ toString n : String) → vx_Note p l e R s m args below meth c H locs cells slots Q (F0 m pc ls rest) "java/lang/ArrayIndexOutOfBoundsException" tx) : W p l e R s m args below meth c H locs cells slots Q (F0 m pc ls (.int i :: .ref a :: rest)) := by
  intro T hT X
  obtain ⟨t, st, q⟩ := k _ rfl T hT X
  refine ⟨t, ?_, q⟩
  have h1 := X.faloadOut hexec (by rw [hT]; exact hP q0 _ ha) ((hK.2 t0 _ ht).1 n (fun j => .float (f j))) (j := i) (by show (i < 0 ∨ (arrV _ _ _).slots.size ≤ _); rw [arrV_size]; exact Classical.byContradiction hout) (g := F0 m pc ls (.int i :: .ref a :: rest)) rfl (rest := rest) rfl (by rw [hb]; exact hdg) t
  simp only [arrV_size] at h1
  exact h1 st
theorem vx_fastZ {D : va_G} {cl : List vw_C} {ws : va_W} {tys : List (ClassId × FieldType)} {a : Nat} (hexec : p.tables.exec = Jvm.exec) (hb : c.code = cc) (hK : va_K D cl tys s) (hP : va_P D cl ws H) (q0 t0 : Nat) {cA : ClassId} {n : Nat} {f : Nat → UInt32} (ha : ws[q0]? = some (a, .inl (cA, n, .inr (.inr (.inl f))))) (ht : tys[t0]? = some (cA, .float)) {i : Int32} {x : UInt32} (hout : ¬ vp_in i n) (hdg : decode cc pc = .ok (.fastore, 1))
    (k : ∀ tx : String, tx = (toString "Index " ++ toString i ++ toString " out of bounds for length " ++ toString n : String) → vx_Note p l e R s m args below meth c H locs cells slots Q (F0 m pc ls rest) "java/lang/ArrayIndexOutOfBoundsException" tx) : W p l e R s m args below meth c H locs cells slots Q (F0 m pc ls (.float x :: .int i :: .ref a :: rest)) := by
  intro T hT X
  obtain ⟨t, st, q⟩ := k _ rfl T hT X
  refine ⟨t, ?_, q⟩
  have h1 := X.fastoreOut hexec (by rw [hT]; exact hP q0 _ ha) ((hK.2 t0 _ ht).1 n (fun j => .float (f j))) (j := i) (by show (i < 0 ∨ (arrV _ _ _).slots.size ≤ _); rw [arrV_size]; exact Classical.byContradiction hout) (g := F0 m pc ls (.float x :: .int i :: .ref a :: rest)) rfl (rest := rest) rfl (by rw [hb]; exact hdg) t
  simp only [arrV_size] at h1
  exact h1 st
theorem vx_daldZ {D : va_G} {cl : List vw_C} {ws : va_W} {tys : List (ClassId × FieldType)} {a : Nat} (hexec : p.tables.exec = Jvm.exec) (hb : c.code = cc) (hK : va_K D cl tys s) (hP : va_P D cl ws H) (q0 t0 : Nat) {cA : ClassId} {n : Nat} {f : Nat → UInt64} (ha : ws[q0]? = some (a, .inl (cA, n, .inr (.inr (.inr (.inl f)))))) (ht : tys[t0]? = some (cA, .double)) {i : Int32} (hout : ¬ vp_in i n) (hdg : decode cc pc = .ok (.daload, 1))
    (k : ∀ tx : String, tx = (toString "Index " ++ toString i ++ toString " out of bounds for length " ++ toString n : String) → vx_Note p l e R s m args below meth c H locs cells slots Q (F0 m pc ls rest) "java/lang/ArrayIndexOutOfBoundsException" tx) : W p l e R s m args below meth c H locs cells slots Q (F0 m pc ls (.int i :: .ref a :: rest)) := by
  intro T hT X
  obtain ⟨t, st, q⟩ := k _ rfl T hT X
  refine ⟨t, ?_, q⟩
  have h1 := X.daloadOut hexec (by rw [hT]; exact hP q0 _ ha) ((hK.2 t0 _ ht).1 n (fun j => .double (f j))) (j := i) (by show (i < 0 ∨ (arrV _ _ _).slots.size ≤ _); rw [arrV_size]; exact Classical.byContradiction hout) (g := F0 m pc ls (.int i :: .ref a :: rest)) rfl (rest := rest) rfl (by rw [hb]; exact hdg) t
  simp only [arrV_size] at h1
  exact h1 st
theorem vx_dastZ {D : va_G} {cl : List vw_C} {ws : va_W} {tys : List (ClassId × FieldType)} {a : Nat} (hexec : p.tables.exec = Jvm.exec) (hb : c.code = cc) (hK : va_K D cl tys s) (hP : va_P D cl ws H) (q0 t0 : Nat) {cA : ClassId} {n : Nat} {f : Nat → UInt64} (ha : ws[q0]? = some (a, .inl (cA, n, .inr (.inr (.inr (.inl f)))))) (ht : tys[t0]? = some (cA, .double)) {i : Int32} {x : UInt64} (hout : ¬ vp_in i n) (hdg : decode cc pc = .ok (.dastore, 1))
    (k : ∀ tx : String, tx = (toString "Index " ++ toString i ++ toString " out of bounds for length " ++ toString n : String) → vx_Note p l e R s m args below meth c H locs cells slots Q (F0 m pc ls rest) "java/lang/ArrayIndexOutOfBoundsException" tx) : W p l e R s m args below meth c H locs cells slots Q (F0 m pc ls (.double x :: .int i :: .ref a :: rest)) := by
  intro T hT X
  obtain ⟨t, st, q⟩ := k _ rfl T hT X
  refine ⟨t, ?_, q⟩
  have h1 := X.dastoreOut hexec (by rw [hT]; exact hP q0 _ ha) ((hK.2 t0 _ ht).1 n (fun j => .double (f j))) (j := i) (by show (i < 0 ∨ (arrV _ _ _).slots.size ≤ _); rw [arrV_size]; exact Classical.byContradiction hout) (g := F0 m pc ls (.double x :: .int i :: .ref a :: rest)) rfl (rest := rest) rfl (by rw [hb]; exact hdg) t
  simp only [arrV_size] at h1
  exact h1 st
theorem vx_arraylengthN (hexec : p.tables.exec = Jvm.exec) (hb : c.code = cc) (hdg : decode cc pc = .ok (.arraylength, 1)) (k : vx_NoteN p l e R s m args below meth c H locs cells slots Q (F0 m pc ls rest)) : W p l e R s m args below meth c H locs cells slots Q (F0 m pc ls (.null :: rest)) := by
  intro T hT X
  obtain ⟨t, st, q⟩ := k T hT X
  exact ⟨t, X.arraylengthNull hexec (g := F0 m pc ls (.null :: rest)) rfl (rest := rest) rfl (by rw [hb]; exact hdg) t st, q⟩
theorem vx_ialoadN (hexec : p.tables.exec = Jvm.exec) (hb : c.code = cc) {i : Int32} (hdg : decode cc pc = .ok (.iaload, 1)) (k : vx_NoteN p l e R s m args below meth c H locs cells slots Q (F0 m pc ls rest)) : W p l e R s m args below meth c H locs cells slots Q (F0 m pc ls (.int i :: .null :: rest)) := by
  intro T hT X
  obtain ⟨t, st, q⟩ := k T hT X
  exact ⟨t, X.ialoadNull hexec (g := F0 m pc ls (.int i :: .null :: rest)) rfl (rest := rest) rfl (by rw [hb]; exact hdg) t st, q⟩
theorem vx_laloadN (hexec : p.tables.exec = Jvm.exec) (hb : c.code = cc) {i : Int32} (hdg : decode cc pc = .ok (.laload, 1)) (k : vx_NoteN p l e R s m args below meth c H locs cells slots Q (F0 m pc ls rest)) : W p l e R s m args below meth c H locs cells slots Q (F0 m pc ls (.int i :: .null :: rest)) := by
  intro T hT X
  obtain ⟨t, st, q⟩ := k T hT X
  exact ⟨t, X.laloadNull hexec (g := F0 m pc ls (.int i :: .null :: rest)) rfl (rest := rest) rfl (by rw [hb]; exact hdg) t st, q⟩
theorem vx_faloadN (hexec : p.tables.exec = Jvm.exec) (hb : c.code = cc) {i : Int32} (hdg : decode cc pc = .ok (.faload, 1)) (k : vx_NoteN p l e R s m args below meth c H locs cells slots Q (F0 m pc ls rest)) : W p l e R s m args below meth c H locs cells slots Q (F0 m pc ls (.int i :: .null :: rest)) := by
  intro T hT X
  obtain ⟨t, st, q⟩ := k T hT X
  exact ⟨t, X.faloadNull hexec (g := F0 m pc ls (.int i :: .null :: rest)) rfl (rest := rest) rfl (by rw [hb]; exact hdg) t st, q⟩
theorem vx_daloadN (hexec : p.tables.exec = Jvm.exec) (hb : c.code = cc) {i : Int32} (hdg : decode cc pc = .ok (.daload, 1)) (k : vx_NoteN p l e R s m args below meth c H locs cells slots Q (F0 m pc ls rest)) : W p l e R s m args below meth c H locs cells slots Q (F0 m pc ls (.int i :: .null :: rest)) := by
  intro T hT X
  obtain ⟨t, st, q⟩ := k T hT X
  exact ⟨t, X.daloadNull hexec (g := F0 m pc ls (.int i :: .null :: rest)) rfl (rest := rest) rfl (by rw [hb]; exact hdg) t st, q⟩
theorem vx_aaloadN (hexec : p.tables.exec = Jvm.exec) (hb : c.code = cc) {i : Int32} (hdg : decode cc pc = .ok (.aaload, 1)) (k : vx_NoteN p l e R s m args below meth c H locs cells slots Q (F0 m pc ls rest)) : W p l e R s m args below meth c H locs cells slots Q (F0 m pc ls (.int i :: .null :: rest)) := by
  intro T hT X
  obtain ⟨t, st, q⟩ := k T hT X
  exact ⟨t, X.aaloadNull hexec (g := F0 m pc ls (.int i :: .null :: rest)) rfl (rest := rest) rfl (by rw [hb]; exact hdg) t st, q⟩
theorem vx_baloadN (hexec : p.tables.exec = Jvm.exec) (hb : c.code = cc) {i : Int32} (hdg : decode cc pc = .ok (.baload, 1)) (k : vx_NoteN p l e R s m args below meth c H locs cells slots Q (F0 m pc ls rest)) : W p l e R s m args below meth c H locs cells slots Q (F0 m pc ls (.int i :: .null :: rest)) := by
  intro T hT X
  obtain ⟨t, st, q⟩ := k T hT X
  exact ⟨t, X.baloadNull hexec (g := F0 m pc ls (.int i :: .null :: rest)) rfl (rest := rest) rfl (by rw [hb]; exact hdg) t st, q⟩
theorem vx_caloadN (hexec : p.tables.exec = Jvm.exec) (hb : c.code = cc) {i : Int32} (hdg : decode cc pc = .ok (.caload, 1)) (k : vx_NoteN p l e R s m args below meth c H locs cells slots Q (F0 m pc ls rest)) : W p l e R s m args below meth c H locs cells slots Q (F0 m pc ls (.int i :: .null :: rest)) := by
  intro T hT X
  obtain ⟨t, st, q⟩ := k T hT X
  exact ⟨t, X.caloadNull hexec (g := F0 m pc ls (.int i :: .null :: rest)) rfl (rest := rest) rfl (by rw [hb]; exact hdg) t st, q⟩
theorem vx_saloadN (hexec : p.tables.exec = Jvm.exec) (hb : c.code = cc) {i : Int32} (hdg : decode cc pc = .ok (.saload, 1)) (k : vx_NoteN p l e R s m args below meth c H locs cells slots Q (F0 m pc ls rest)) : W p l e R s m args below meth c H locs cells slots Q (F0 m pc ls (.int i :: .null :: rest)) := by
  intro T hT X
  obtain ⟨t, st, q⟩ := k T hT X
  exact ⟨t, X.saloadNull hexec (g := F0 m pc ls (.int i :: .null :: rest)) rfl (rest := rest) rfl (by rw [hb]; exact hdg) t st, q⟩
theorem vx_iastoreN (hexec : p.tables.exec = Jvm.exec) (hb : c.code = cc) {x : Int32} {i : Int32} (hdg : decode cc pc = .ok (.iastore, 1)) (k : vx_NoteN p l e R s m args below meth c H locs cells slots Q (F0 m pc ls rest)) : W p l e R s m args below meth c H locs cells slots Q (F0 m pc ls (.int x :: .int i :: .null :: rest)) := by
  intro T hT X
  obtain ⟨t, st, q⟩ := k T hT X
  exact ⟨t, X.iastoreNull hexec (g := F0 m pc ls (.int x :: .int i :: .null :: rest)) rfl (rest := rest) rfl (by rw [hb]; exact hdg) t st, q⟩
theorem vx_lastoreN (hexec : p.tables.exec = Jvm.exec) (hb : c.code = cc) {x : Int64} {i : Int32} (hdg : decode cc pc = .ok (.lastore, 1)) (k : vx_NoteN p l e R s m args below meth c H locs cells slots Q (F0 m pc ls rest)) : W p l e R s m args below meth c H locs cells slots Q (F0 m pc ls (.long x :: .int i :: .null :: rest)) := by
  intro T hT X
  obtain ⟨t, st, q⟩ := k T hT X
  exact ⟨t, X.lastoreNull hexec (g := F0 m pc ls (.long x :: .int i :: .null :: rest)) rfl (rest := rest) rfl (by rw [hb]; exact hdg) t st, q⟩
theorem vx_fastoreN (hexec : p.tables.exec = Jvm.exec) (hb : c.code = cc) {x : UInt32} {i : Int32} (hdg : decode cc pc = .ok (.fastore, 1)) (k : vx_NoteN p l e R s m args below meth c H locs cells slots Q (F0 m pc ls rest)) : W p l e R s m args below meth c H locs cells slots Q (F0 m pc ls (.float x :: .int i :: .null :: rest)) := by
  intro T hT X
  obtain ⟨t, st, q⟩ := k T hT X
  exact ⟨t, X.fastoreNull hexec (g := F0 m pc ls (.float x :: .int i :: .null :: rest)) rfl (rest := rest) rfl (by rw [hb]; exact hdg) t st, q⟩
theorem vx_dastoreN (hexec : p.tables.exec = Jvm.exec) (hb : c.code = cc) {x : UInt64} {i : Int32} (hdg : decode cc pc = .ok (.dastore, 1)) (k : vx_NoteN p l e R s m args below meth c H locs cells slots Q (F0 m pc ls rest)) : W p l e R s m args below meth c H locs cells slots Q (F0 m pc ls (.double x :: .int i :: .null :: rest)) := by
  intro T hT X
  obtain ⟨t, st, q⟩ := k T hT X
  exact ⟨t, X.dastoreNull hexec (g := F0 m pc ls (.double x :: .int i :: .null :: rest)) rfl (rest := rest) rfl (by rw [hb]; exact hdg) t st, q⟩
theorem vx_bastoreN (hexec : p.tables.exec = Jvm.exec) (hb : c.code = cc) {x : Int32} {i : Int32} (hdg : decode cc pc = .ok (.bastore, 1)) (k : vx_NoteN p l e R s m args below meth c H locs cells slots Q (F0 m pc ls rest)) : W p l e R s m args below meth c H locs cells slots Q (F0 m pc ls (.int x :: .int i :: .null :: rest)) := by
  intro T hT X
  obtain ⟨t, st, q⟩ := k T hT X
  exact ⟨t, X.bastoreNull hexec (g := F0 m pc ls (.int x :: .int i :: .null :: rest)) rfl (rest := rest) rfl (by rw [hb]; exact hdg) t st, q⟩
theorem vx_castoreN (hexec : p.tables.exec = Jvm.exec) (hb : c.code = cc) {x : Int32} {i : Int32} (hdg : decode cc pc = .ok (.castore, 1)) (k : vx_NoteN p l e R s m args below meth c H locs cells slots Q (F0 m pc ls rest)) : W p l e R s m args below meth c H locs cells slots Q (F0 m pc ls (.int x :: .int i :: .null :: rest)) := by
  intro T hT X
  obtain ⟨t, st, q⟩ := k T hT X
  exact ⟨t, X.castoreNull hexec (g := F0 m pc ls (.int x :: .int i :: .null :: rest)) rfl (rest := rest) rfl (by rw [hb]; exact hdg) t st, q⟩
theorem vx_sastoreN (hexec : p.tables.exec = Jvm.exec) (hb : c.code = cc) {x : Int32} {i : Int32} (hdg : decode cc pc = .ok (.sastore, 1)) (k : vx_NoteN p l e R s m args below meth c H locs cells slots Q (F0 m pc ls rest)) : W p l e R s m args below meth c H locs cells slots Q (F0 m pc ls (.int x :: .int i :: .null :: rest)) := by
  intro T hT X
  obtain ⟨t, st, q⟩ := k T hT X
  exact ⟨t, X.sastoreNull hexec (g := F0 m pc ls (.int x :: .int i :: .null :: rest)) rfl (rest := rest) rfl (by rw [hb]; exact hdg) t st, q⟩
theorem vx_invokeN {own C : String} {index maxL : Nat} {y : MethodName} {bytes : ByteArray} {ret : Option FieldType} (hexec : p.tables.exec = Jvm.exec) (hb : c.code = cc) (hown : s.vm.findClass own = some m.cls) (hlink : (Cond.methodLink own index y).before args s = true) (hinst : (Cond.instanceMethod y).before args s = true) (hcode : (Cond.code y bytes maxL ret).before args s = true) (hsel : (Cond.selects C y y).before args s = true)
    (hx : y.cls ≠ "java/lang/invoke/MethodHandle" ∧ y.cls ≠ "java/lang/invoke/VarHandle") {As : List Value} (hlen : (parseMethodDescriptor y.desc).map (fun d => d.parameters.length) = some As.length) (hdg : decode cc pc = .ok (.invokevirtual index, 3))
    (k : vx_NoteN p l e R s m args below meth c H locs cells slots Q (F0 m pc ls rest)) {st0 : List Value} (hst : st0 = As.reverse ++ .null :: rest) : W p l e R s m args below meth c H locs cells slots Q (F0 m pc ls st0) := by
  intro T hT X
  obtain ⟨r0, r, hn, hrm, hstR, hsigR⟩ := va_Decl.of hinst hcode
  obtain ⟨c2, r2, m2, q1, q2, q3, q4, kP, hkP, hkPi⟩ := Cond.selects_spec hsel
  cases hn.symm.trans q3
  have hl9 : As.length = r.sig.parameters.length := by
    rw [hsigR] at hlen
    exact (Option.some.inj hlen).symm
  obtain ⟨vm', X1, st1⟩ := X.invokevirtualNull hexec hown hlink hn hrm hstR hkP hkPi hx (g := F0 m pc ls st0) rfl (argsL := As) (rest := rest) hl9 hst (by rw [hb]; exact hdg)
  obtain ⟨t, st, q⟩ := k (T.setVm vm') hT X1
  exact ⟨t, st1 t st, q⟩
theorem vx_newarrayZ {atype : ArrayType} (hexec : p.tables.exec = Jvm.exec) (hb : c.code = cc) {n : Int32} (h0 : n < 0) (hdg : decode cc pc = .ok (.newarray atype, 2)) (k : ∀ tx : String, tx = toString n → vx_Note p l e R s m args below meth c H locs cells slots Q (F0 m pc ls rest) "java/lang/NegativeArraySizeException" tx) : W p l e R s m args below meth c H locs cells slots Q (F0 m pc ls (.int n :: rest)) := by
  intro T hT X
  obtain ⟨t, st, q⟩ := k _ rfl T hT X
  exact ⟨t, X.newarrayNegative hexec (g := F0 m pc ls (.int n :: rest)) rfl h0 (rest := rest) rfl (by rw [hb]; exact hdg) t st, q⟩
end
end VXM
/-! ===== END ===== -/
/-! ===== BEGIN an exception as an object: made, kept, thrown later (no traces kept) ===== -/
section VXK
variable {p : Program} {l : Launch} {e : Env} {R : Room} {s : State} {m₀ : MethodId} {args : Array Value} {below : List Frame} {meth : Method} {c : Code} {W : State} {locs : List Loc} {cells slots : Nat}
set_option maxHeartbeats 1000000 in
theorem vx_ctorMadeS (X : Stand p l e R s m₀ args below meth c W locs cells slots) (hexec : p.tables.exec = Jvm.exec) (htr : e.platform.stackTraces = false) {own cls : String} {names : List String} {ic : Nat}
    (hown : s.vm.findClass own = some m₀.cls) (hcls : Bundle.fit cls = true) (hnames : ∀ n ∈ names, Bundle.fit n = true)
    (h : ∀ a ∈ Bundle.ownAtoms own ic cls names, a.before args s = true)
    (hlocs : ∀ x ∈ locs, ∀ cell, s.heap[x.base]? = some cell → cell.vm.isStatics = false)
    {a : Addr} {cX : ClassId} {kX : Class} (hfoundX : s.vm.findClass cls = some cX) (hkX : s.vm.classes[cX]? = some kX) (hcell : W.heap[a]? = some (freshCell cX kX)) (hnew : s.heap.size ≤ a)
    {msg : Value} (hmsg : msg.isRef = true)
    {g : JFrame} (hg : g.method = m₀) (hsize : g.locals.size = c.maxLocals) {rest : List Value} (hstack : g.stack = msg :: .ref a :: .ref a :: rest)
    (hd6 : decode c.code g.pc = .ok (.invokespecial ic, 3))
    (hRframes : names.length + 3 < R.frames) (hRlocals : 2 * g.monitorRoom + ((Value.ref a :: rest).map fun v => v.category).sum + (13 * (names.length + 1) + 42) ≤ R.locals) :
    ∃ (V : State) (ce : Cell) (L : List Loc), Stand p l e R s m₀ args below meth c (V.setCell a ce) (locs ++ L) cells slots ∧ (∀ y ∈ L, y.base = a) ∧ a < V.heap.size ∧ ce.cls = cX ∧ ce.vm = .none ∧
      ∀ target, Steps p.tables e below ((V.setCell a ce).setTop { g with stack := .ref a :: rest, pc := g.pc + 3 }) target → Steps p.tables e below (W.setTop g) target := by
  have howns : e.platform.frameOwnsMonitors = true := by rw [X.admits.platform]
  have hfin : e.platform.finalization = false := by rw [X.admits.platform]
  have hpl : e.platform.magicAccessors = ({} : Platform).magicAccessors := by rw [X.admits.platform]
  have a' : ∀ x, x ∈ Bundle.ownAtoms own ic cls names → x.holds args s none s [] = true := fun x hx => h x hx
  obtain ⟨T, Z0, L, -, Y⟩ := ThrowableC.of_atoms (args := args) howns hfin hpl (fun x hx => h x (by simp [Bundle.ownAtoms, hx]))
  obtain ⟨Z, M, LZ, LM, hnZ⟩ := Init0T.ofS_atoms (args := args) hpl L Y (fun x hx => h x (by simp [Bundle.ownAtoms, hx]))
  obtain ⟨P1, Ps, hlen, L1, hL, hP1m, hlink1, hlink⟩ := Bundle.chainS (args := args) hpl hnZ names cls hcls hnames (fun x hx => h x (by simp [Bundle.ownAtoms, hx]))
  have hfound : s.vm.findClass cls = some P1.m.cls := findClass_of_methodNamed hP1m
  cases Option.some.inj (hfoundX.symm.trans hfound)
  obtain ⟨c1, kX', hc1, hk, hord, -, -, hn6⟩ := Cond.instantiable_spec (a' (.instantiable cls 6) (by simp [Bundle.ownAtoms]))
  cases Option.some.inj (hc1.symm.trans hfound)
  cases Option.some.inj (hkX.symm.trans hk)
  have hsel0 : selectMethod e.platform s.vm P1.m.cls T.fill0 = .method T.fill0 := by
    obtain ⟨c2, r2, m2, q1, q2, q3, q4, -⟩ := Cond.selects_spec (a' (.selects cls Bundle.tFill0 Bundle.tFill0) (by simp [Bundle.ownAtoms]))
    cases Option.some.inj (q1.symm.trans hfound)
    cases Option.some.inj (q2.symm.trans (State.methodFound?_of_named Y.fill0 (by decide)))
    cases Option.some.inj (q3.symm.trans Y.fill0)
    rw [Launch.admits_selectMethod X.admits]; exact q4
  have hselF : selectMethod e.platform s.vm P1.m.cls T.fill = .method T.fill := by
    obtain ⟨c2, r2, m2, q1, q2, q3, q4, -⟩ := Cond.selects_spec (a' (.selects cls Bundle.tFill Bundle.tFill) (by simp [Bundle.ownAtoms]))
    cases Option.some.inj (q1.symm.trans hfound)
    cases Option.some.inj (q2.symm.trans (State.methodFound?_of_named Y.fill (by decide)))
    cases Option.some.inj (q3.symm.trans Y.fill)
    rw [Launch.admits_selectMethod X.admits]; exact q4
  obtain ⟨cellS0, hcS0, hiss⟩ := Y.statics
  obtain ⟨u0, hu0⟩ := Cond.staticRefV Y.unassigned L.unassignedStatic L.statics hcS0 hiss (a' (.isRef (.static Bundle.tN "UNASSIGNED_STACK" Bundle.steD)) (by simp [Bundle.ownAtoms]))
  obtain ⟨sen, hsen⟩ := Cond.staticRefV Y.sentinel L.sentinelStatic L.statics hcS0 hiss (a' (.isRef (.static Bundle.tN "SUPPRESSED_SENTINEL" Bundle.listD)) (by simp [Bundle.ownAtoms]))
  obtain ⟨ci198, i198, fB, hk198, hg198, ha198, hsB, -, hnB, htB, hffB⟩ := Cond.ownField (t := .object "java/lang/Object") Y.found L.cls (by decide +kernel) (a' (.fieldLink Bundle.tN 198 Bundle.tN "backtrace" "Ljava/lang/Object;") (by simp [Bundle.ownAtoms])) (a' (.lays Bundle.tN Bundle.tN "backtrace" "Ljava/lang/Object;") (by simp [Bundle.ownAtoms])) e.platform hpl
  obtain ⟨cellS, hcS', heS, -, hkeep⟩ := X.same.2.2.2.2.2 T.aS cellS0 hcS0
  have hcellS : W.heap[T.aS]? = some cellS := hcS'
  have hout' : ∀ i, (⟨T.aS, i⟩ : Loc) ∉ locs := fun i hmem => by
    have := hlocs _ hmem cellS0 hcS0
    rw [hiss] at this; cases this
  have hknownS : cellS.vm ≠ .unknown := by
    rw [heS]; intro hu
    rw [show cellS0.vm = .unknown from hu] at hiss
    cases hiss
  have hneS : T.aS ≠ a := Nat.ne_of_lt (Nat.lt_of_lt_of_le (Array.getElem?_eq_some_iff.mp hcS0).1 hnew)
  obtain ⟨iM, hffM⟩ := Y.msg
  obtain ⟨tyC, dC, hdC, hdnC⟩ := Cond.laysAt hfound hk Y.cause (a' (.lays cls Bundle.tN "cause" "Ljava/lang/Throwable;") (by simp [Bundle.ownAtoms]))
  obtain ⟨tyS, dS, hdS, hdnS⟩ := Cond.laysAt hfound hk Y.stack (a' (.lays cls Bundle.tN "stackTrace" Bundle.steD) (by simp [Bundle.ownAtoms]))
  obtain ⟨tyP, dP, hdP, hdnP⟩ := Cond.laysAt hfound hk Y.supp (a' (.lays cls Bundle.tN "suppressedExceptions" Bundle.listD) (by simp [Bundle.ownAtoms]))
  obtain ⟨tyM, dM, hdM, hdnM⟩ := Cond.laysAt hfound hk hffM (a' (.lays cls Bundle.tN "detailMessage" "Ljava/lang/String;") (by simp [Bundle.ownAtoms]))
  obtain ⟨tyB, dB, hdB, hdnB⟩ := Cond.laysAt hfound hk hffB (a' (.lays cls Bundle.tN "backtrace" "Ljava/lang/Object;") (by simp [Bundle.ownAtoms]))
  have bC := Cond.laysApart hdB hdC hdnB hdnC (by rw [hnB, Y.causeName]; decide)
  have bS := Cond.laysApart hdB hdS hdnB hdnS (by rw [hnB, Y.stackName]; decide)
  have bP := Cond.laysApart hdB hdP hdnB hdnP (by rw [hnB, Y.suppName]; decide)
  have hskip : SkipFacts T e.platform s (fun u => u) u0 ((preparedCellV T.toThrowableT (freshCell P1.m.cls kX) a u0 sen).withEntry W.cur) :=
    ⟨{ ci198 := ci198, i198 := i198, fBack := fB }, ⟨hk198, hg198, ha198, hsB⟩, by
      have := fresh_default (c := P1.m.cls) tyB
      rw [htB] at this
      simpa [preparedCellV, Cell.setSlot, Cell.withEntry, Array.getElem?_setIfInBounds, bC, bS, bP, bC.symm, bS.symm, bP.symm, defaultValue] using this, fun _ _ => rfl⟩
  obtain ⟨tm, methC, cdC, kC, vm₁, hnC, -, -, -, -, -, -, -, hW₁, st1⟩ := Steps.initColdS (tb := p.tables) (e := e) (below := below) (s := s) (U := W) X.here hexec X.warmed hpl hown (t := Bundle.initS cls) rfl rfl (Bundle.fit_spec hcls).2
    (a' (.methodLink own ic (Bundle.initS cls)) (by simp [Bundle.ownAtoms])) (h (.instanceMethod (Bundle.initS cls)) (by cases names <;> simp [Bundle.ownAtoms, Bundle.chainSAtoms, Bundle.passSAtoms])) (bytes := Bundle.six) (maxL := 2) (h (.code (Bundle.initS cls) Bundle.six 2 none) (by cases names <;> simp [Bundle.ownAtoms, Bundle.chainSAtoms, Bundle.passSAtoms]))
    (f := g) hg (a := a) (msg := msg) (rest := .ref a :: rest) hstack hd6
  cases Option.some.inj (hnC.symm.trans hP1m)
  have X₁ := X.noted hW₁
  obtain ⟨vm₂, X₂, st2⟩ := X₁.ctorMessageOffV hexec (g := { g with stack := .ref a :: rest }) hg hsize T L Z LZ M LM (P1 :: Ps)
    (fun P hP => by rcases List.mem_cons.mp hP with rfl | hP; exact L1; exact hL P hP) ⟨hlink1, hlink⟩ (u0 := u0) (sen := sen) (self := a) hmsg (cell := freshCell P1.m.cls kX) (cellS := cellS)
    hcell (fun _ => by simp) (by simp) rfl rfl hsel0 hselF hcellS hneS hknownS (by rw [hkeep _ (hout' _)]; exact hu0) (by rw [hkeep _ (hout' _)]; exact hsen)
    (Takes.of_laid hk hord tyC (by rw [Y.causeType]; rfl)) (Takes.of_laid hk hord tyS (by rw [Y.stackType]; exact fits_refV_array _ u0)) (Takes.of_laid hk hord tyP (by rw [Y.suppType]; exact fits_refV_object _ sen))
    (Takes.of_laid hk hord tyM (by rw [Y.msgType]; exact fits_refV_object _ ⟨msg, hmsg⟩)) Y.objLocals hskip htr [] hd6
    (by simp only [List.length_cons, hlen]; omega) (by simp only [List.length_cons, hlen]; exact hRlocals)
  have hlt : a < ((W.setVm vm₁).setVm vm₂).heap.size := (Array.getElem?_eq_some_iff.mp hcell).1
  refine ⟨(W.setVm vm₁).setVm vm₂, _, _, X₂, fun y hy => ?_, hlt, rfl, rfl, fun target hwalk => st1 _ (fun acts => ?_)⟩
  · simp only [List.mem_cons, List.not_mem_nil, or_false] at hy
    rcases hy with rfl | rfl | rfl | rfl | rfl <;> rfl
  · rw [doInvoke_state]
    exact st2 _ hwalk
set_option maxHeartbeats 1000000 in
theorem vx_ctorMade0 (X : Stand p l e R s m₀ args below meth c W locs cells slots) (hexec : p.tables.exec = Jvm.exec) (htr : e.platform.stackTraces = false) {own cls : String} {names : List String} {ic : Nat}
    (hown : s.vm.findClass own = some m₀.cls) (hcls : Bundle.fit cls = true) (hnames : ∀ n ∈ names, Bundle.fit n = true)
    (h : ∀ a ∈ Bundle.ownAtoms0 own ic cls names, a.before args s = true)
    (hlocs : ∀ x ∈ locs, ∀ cell, s.heap[x.base]? = some cell → cell.vm.isStatics = false)
    {a : Addr} {cX : ClassId} {kX : Class} (hfoundX : s.vm.findClass cls = some cX) (hkX : s.vm.classes[cX]? = some kX) (hcell : W.heap[a]? = some (freshCell cX kX)) (hnew : s.heap.size ≤ a)
    {g : JFrame} (hg : g.method = m₀) (hsize : g.locals.size = c.maxLocals) {rest : List Value} (hstack : g.stack = .ref a :: .ref a :: rest)
    (hd6 : decode c.code g.pc = .ok (.invokespecial ic, 3))
    (hRframes : names.length + 3 < R.frames) (hRlocals : 2 * g.monitorRoom + ((Value.ref a :: rest).map fun v => v.category).sum + (13 * (names.length + 1) + 41) ≤ R.locals) :
    ∃ (V : State) (ce : Cell) (L : List Loc), Stand p l e R s m₀ args below meth c (V.setCell a ce) (locs ++ L) cells slots ∧ (∀ y ∈ L, y.base = a) ∧ a < V.heap.size ∧ ce.cls = cX ∧ ce.vm = .none ∧
      ∀ target, Steps p.tables e below ((V.setCell a ce).setTop { g with stack := .ref a :: rest, pc := g.pc + 3 }) target → Steps p.tables e below (W.setTop g) target := by
  have howns : e.platform.frameOwnsMonitors = true := by rw [X.admits.platform]
  have hfin : e.platform.finalization = false := by rw [X.admits.platform]
  have hpl : e.platform.magicAccessors = ({} : Platform).magicAccessors := by rw [X.admits.platform]
  have a' : ∀ x, x ∈ Bundle.ownAtoms0 own ic cls names → x.holds args s none s [] = true := fun x hx => h x hx
  obtain ⟨T, Z, L, LZ, Y⟩ := ThrowableC.of_atoms (args := args) howns hfin hpl (fun x hx => h x (by simp [Bundle.ownAtoms0, hx]))
  obtain ⟨P1, Ps, hlen, L1, hL, hP1m, hlink1, hlink⟩ := Bundle.chain0 (args := args) hpl Y.init0 names cls hcls hnames (fun x hx => h x (by simp [Bundle.ownAtoms0, hx]))
  have hfound : s.vm.findClass cls = some P1.m.cls := findClass_of_methodNamed hP1m
  cases Option.some.inj (hfoundX.symm.trans hfound)
  obtain ⟨c1, kX', hc1, hk, hord, -, -, hn6⟩ := Cond.instantiable_spec (a' (.instantiable cls 6) (by simp [Bundle.ownAtoms0]))
  cases Option.some.inj (hc1.symm.trans hfound)
  cases Option.some.inj (hkX.symm.trans hk)
  have hsel0 : selectMethod e.platform s.vm P1.m.cls T.fill0 = .method T.fill0 := by
    obtain ⟨c2, r2, m2, q1, q2, q3, q4, -⟩ := Cond.selects_spec (a' (.selects cls Bundle.tFill0 Bundle.tFill0) (by simp [Bundle.ownAtoms0]))
    cases Option.some.inj (q1.symm.trans hfound)
    cases Option.some.inj (q2.symm.trans (State.methodFound?_of_named Y.fill0 (by decide)))
    cases Option.some.inj (q3.symm.trans Y.fill0)
    rw [Launch.admits_selectMethod X.admits]; exact q4
  have hselF : selectMethod e.platform s.vm P1.m.cls T.fill = .method T.fill := by
    obtain ⟨c2, r2, m2, q1, q2, q3, q4, -⟩ := Cond.selects_spec (a' (.selects cls Bundle.tFill Bundle.tFill) (by simp [Bundle.ownAtoms0]))
    cases Option.some.inj (q1.symm.trans hfound)
    cases Option.some.inj (q2.symm.trans (State.methodFound?_of_named Y.fill (by decide)))
    cases Option.some.inj (q3.symm.trans Y.fill)
    rw [Launch.admits_selectMethod X.admits]; exact q4
  obtain ⟨cellS0, hcS0, hiss⟩ := Y.statics
  obtain ⟨u0, hu0⟩ := Cond.staticRefV Y.unassigned L.unassignedStatic L.statics hcS0 hiss (a' (.isRef (.static Bundle.tN "UNASSIGNED_STACK" Bundle.steD)) (by simp [Bundle.ownAtoms0]))
  obtain ⟨sen, hsen⟩ := Cond.staticRefV Y.sentinel L.sentinelStatic L.statics hcS0 hiss (a' (.isRef (.static Bundle.tN "SUPPRESSED_SENTINEL" Bundle.listD)) (by simp [Bundle.ownAtoms0]))
  obtain ⟨ci198, i198, fB, hk198, hg198, ha198, hsB, -, hnB, htB, hffB⟩ := Cond.ownField (t := .object "java/lang/Object") Y.found L.cls (by decide +kernel) (a' (.fieldLink Bundle.tN 198 Bundle.tN "backtrace" "Ljava/lang/Object;") (by simp [Bundle.ownAtoms0])) (a' (.lays Bundle.tN Bundle.tN "backtrace" "Ljava/lang/Object;") (by simp [Bundle.ownAtoms0])) e.platform hpl
  obtain ⟨cellS, hcS', heS, -, hkeep⟩ := X.same.2.2.2.2.2 T.aS cellS0 hcS0
  have hcellS : W.heap[T.aS]? = some cellS := hcS'
  have hout' : ∀ i, (⟨T.aS, i⟩ : Loc) ∉ locs := fun i hmem => by
    have := hlocs _ hmem cellS0 hcS0
    rw [hiss] at this; cases this
  have hknownS : cellS.vm ≠ .unknown := by
    rw [heS]; intro hu
    rw [show cellS0.vm = .unknown from hu] at hiss
    cases hiss
  have hneS : T.aS ≠ a := Nat.ne_of_lt (Nat.lt_of_lt_of_le (Array.getElem?_eq_some_iff.mp hcS0).1 hnew)
  obtain ⟨iM, hffM⟩ := Y.msg
  obtain ⟨tyC, dC, hdC, hdnC⟩ := Cond.laysAt hfound hk Y.cause (a' (.lays cls Bundle.tN "cause" "Ljava/lang/Throwable;") (by simp [Bundle.ownAtoms0]))
  obtain ⟨tyS, dS, hdS, hdnS⟩ := Cond.laysAt hfound hk Y.stack (a' (.lays cls Bundle.tN "stackTrace" Bundle.steD) (by simp [Bundle.ownAtoms0]))
  obtain ⟨tyP, dP, hdP, hdnP⟩ := Cond.laysAt hfound hk Y.supp (a' (.lays cls Bundle.tN "suppressedExceptions" Bundle.listD) (by simp [Bundle.ownAtoms0]))
  obtain ⟨tyM, dM, hdM, hdnM⟩ := Cond.laysAt hfound hk hffM (a' (.lays cls Bundle.tN "detailMessage" "Ljava/lang/String;") (by simp [Bundle.ownAtoms0]))
  obtain ⟨tyB, dB, hdB, hdnB⟩ := Cond.laysAt hfound hk hffB (a' (.lays cls Bundle.tN "backtrace" "Ljava/lang/Object;") (by simp [Bundle.ownAtoms0]))
  have bC := Cond.laysApart hdB hdC hdnB hdnC (by rw [hnB, Y.causeName]; decide)
  have bS := Cond.laysApart hdB hdS hdnB hdnS (by rw [hnB, Y.stackName]; decide)
  have bP := Cond.laysApart hdB hdP hdnB hdnP (by rw [hnB, Y.suppName]; decide)
  have hskip : SkipFacts T e.platform s (fun u => u) u0 ((preparedCellV T.toThrowableT (freshCell P1.m.cls kX) a u0 sen).withEntry W.cur) :=
    ⟨{ ci198 := ci198, i198 := i198, fBack := fB }, ⟨hk198, hg198, ha198, hsB⟩, by
      have := fresh_default (c := P1.m.cls) tyB
      rw [htB] at this
      simpa [preparedCellV, Cell.setSlot, Cell.withEntry, Array.getElem?_setIfInBounds, bC, bS, bP, bC.symm, bS.symm, bP.symm, defaultValue] using this, fun _ _ => rfl⟩
  obtain ⟨tm, methC, cdC, kC, vm₁, hnC, -, -, -, -, -, -, -, hW₁, st1⟩ := Steps.initCold (tb := p.tables) (e := e) (below := below) (s := s) (U := W) X.here hexec X.warmed hpl hown (t := Bundle.init0 cls) rfl rfl (Bundle.fit_spec hcls).2
    (a' (.methodLink own ic (Bundle.init0 cls)) (by simp [Bundle.ownAtoms0])) (h (.instanceMethod (Bundle.init0 cls)) (by cases names <;> simp [Bundle.ownAtoms0, Bundle.chain0Atoms, Bundle.passAtoms])) (bytes := Bundle.five) (maxL := 1) (h (.code (Bundle.init0 cls) Bundle.five 1 none) (by cases names <;> simp [Bundle.ownAtoms0, Bundle.chain0Atoms, Bundle.passAtoms]))
    (f := g) hg (a := a) (rest := .ref a :: rest) hstack hd6
  cases Option.some.inj (hnC.symm.trans hP1m)
  have X₁ := X.noted hW₁
  obtain ⟨vm₂, X₂, st2⟩ := X₁.ctorPlainOffV hexec (g := { g with stack := .ref a :: rest }) hg hsize T L Z LZ (P1 :: Ps)
    (fun P hP => by rcases List.mem_cons.mp hP with rfl | hP; exact L1; exact hL P hP) ⟨hlink1, hlink⟩ (u0 := u0) (sen := sen) (self := a) (cell := freshCell P1.m.cls kX) (cellS := cellS)
    hcell (fun _ => by simp) (by simp) rfl rfl hsel0 hselF hcellS hneS hknownS (by rw [hkeep _ (hout' _)]; exact hu0) (by rw [hkeep _ (hout' _)]; exact hsen)
    (Takes.of_laid hk hord tyC (by rw [Y.causeType]; rfl)) (Takes.of_laid hk hord tyS (by rw [Y.stackType]; exact fits_refV_array _ u0)) (Takes.of_laid hk hord tyP (by rw [Y.suppType]; exact fits_refV_object _ sen)) Y.objLocals hskip htr [] hd6
    (by simp only [List.length_cons, hlen]; omega) (by simp only [List.length_cons, hlen]; exact hRlocals)
  have hlt : a < ((W.setVm vm₁).setVm vm₂).heap.size := (Array.getElem?_eq_some_iff.mp hcell).1
  refine ⟨(W.setVm vm₁).setVm vm₂, _, _, X₂, fun y hy => ?_, hlt, rfl, rfl, fun target hwalk => st1 _ (fun acts => ?_)⟩
  · simp only [List.mem_cons, List.not_mem_nil, or_false] at hy
    rcases hy with rfl | rfl | rfl | rfl <;> rfl
  · rw [doInvoke_state]
    exact st2 _ hwalk
end VXK
section VXK2
variable {p : Program} {l : Launch} {e : Env} {R : Room} {s : State} {m : MethodId} {args : Array Value} {below : List Frame} {meth : Method} {c : Code} {H : Heap} {locs : List Loc} {cells slots : Nat} {Q : State → Prop}
variable {ls : Array Slot} {rest : List Value} {D : va_G} {cl : List vw_C} {tys : List (ClassId × FieldType)} {ws : va_W}
/-- 'new E("text")' that isn't thrown at once: the object goes on the stack -/
theorem vx_makeS {cc : ByteArray} {pc : Nat} (hexec : p.tables.exec = Jvm.exec) (hb : c.code = cc) (hl : l.stackTraces = false) {own cls text : String} {names : List String} {ik is ic sa ci : Nat} {A : Nat → Prop} {T0 : u_T}
    (hown : s.vm.findClass own = some m.cls) (hcls : Bundle.fit cls = true) (hnames : ∀ n ∈ names, Bundle.fit n = true)
    (hk : (Cond.classLink own ik cls).before args s = true) (hini : (Cond.initialized cls).before args s = true) (hstr : vk_R own is text sa s) (hat : ∀ w ∈ vx_atS own ic cls names, w.before args s = true)
    (hgood : ∀ w ∈ Cond.classLink own ik cls :: Cond.initialized cls :: vx_atS own ic cls names, vx_ot w = true)
    (hU : vx_Zq Bundle.tN "UNASSIGNED_STACK" Bundle.steD A s s.heap) (hN : vx_Zq Bundle.tN "SUPPRESSED_SENTINEL" Bundle.listD A s s.heap) (hS : va_S A s.heap H locs) (hsize : ls.size = c.maxLocals)
    (d0 : decode cc pc = .ok (.new ik, 3)) (d3 : decode cc (pc + 3) = .ok (.dup, 1)) (d4 : decode cc (pc + 4) = .ok (.ldc is, 2)) (d6 : decode cc (pc + 6) = .ok (.invokespecial ic, 3))
    (hK : va_K D cl tys s) (hP : va_P D cl ws H) (hD : va_D A ws) (hA : ∀ q, s.heap.size ≤ q → A q) (hc : cl[ci]? = some (cls, T0, 0))
    (hRframes : names.length + 3 < R.frames) (hRlocals : (rest.map fun v => v.category).sum + (13 * (names.length + 1) + 43) ≤ R.locals) (hRcells : cells + 1 ≤ R.cells) (hRslots : slots + 6 ≤ R.slots)
    (kk : ∀ (q : Nat) (H1 : Heap), va_P D cl (ws ++ [(q, .inr (ci, []))]) H1 → va_D A (ws ++ [(q, .inr (ci, []))]) → va_S A s.heap H1 locs → W p l e R s m args below meth c H1 locs (cells + 1) (slots + 6) Q (F0 m (pc + 9) ls (.ref q :: rest))) :
    W p l e R s m args below meth c H locs cells slots Q (F0 m pc ls rest) := by
  intro T hT X
  subst hT
  have htr : e.platform.stackTraces = false := (show e.platform.stackTraces = l.stackTraces by rw [X.admits.platform]).trans hl
  have Y := vx_rebase X (R' := { frames := R.frames, locals := R.locals, cells := 1, slots := 6 }) (Nat.le_refl _) (Nat.le_refl _) hRcells hRslots
  obtain ⟨s', hA'⟩ : ∃ z, z = (T.setVm s.vm).setFrames (.invoking m args :: below) := ⟨_, rfl⟩
  rw [← hA'] at Y
  have hvm : s'.vm = s.vm := by rw [hA']; rfl
  have hhp : s'.heap = T.heap := by rw [hA']; rfl
  have hW0 : s.WarmedH s'.vm := by rw [hvm]; exact State.WarmedH.refl s
  have hat' : ∀ w ∈ vx_atS own ic cls names, w.before args s' = true := fun w hw => vx_ot_at hW0 hvm.symm (hgood w (List.mem_cons_of_mem _ (List.mem_cons_of_mem _ hw))) (hat w hw)
  have hk' : (Cond.classLink own ik cls).before args s' = true := vx_ot_at hW0 hvm.symm (hgood _ List.mem_cons_self) hk
  have hini' : (Cond.initialized cls).before args s' = true := vx_ot_at hW0 hvm.symm (hgood _ (List.mem_cons_of_mem _ List.mem_cons_self)) hini
  have hU' : vx_Zq Bundle.tN "UNASSIGNED_STACK" Bundle.steD A s' s'.heap := by rw [hhp]; exact vx_Zq.moved hW0.alike (hU.kept hS.2.1)
  have hN' : vx_Zq Bundle.tN "SUPPRESSED_SENTINEL" Bundle.listD A s' s'.heap := by rw [hhp]; exact vx_Zq.moved hW0.alike (hN.kept hS.2.1)
  have h : ∀ w ∈ Bundle.ownAtoms own ic cls names, w.before args s' = true := vx_own hat' (vx_isRefq hU'.1) (vx_isRefq hN'.1) hU'.2.word hN'.2.word
  have hown' : s'.vm.findClass own = some m.cls := by rw [hvm]; exact hown
  have hins : (Cond.instantiable cls 6).before args s' = true := h _ (by simp [Bundle.ownAtoms])
  obtain ⟨vm₁, cX, kX, hfX, hkX, -, -, X₁, st1⟩ := Y.newCold hexec (own := own) (C := cls) (index := ik) (n := 6) hown' hk' hins hini'
    (g := F0 m pc ls rest) rfl (by rw [hb]; exact d0) (Nat.le_refl _) (Nat.le_refl _)
  generalize hT1 : (T.setVm vm₁).pushCell { cls := cX, slots := kX.instanceTypes.map defaultValue, vm := .none } = T1 at X₁ st1
  have hcat : (Value.ref T.heap.size).category = 1 := rfl
  have hcellA : T1.heap[T.heap.size]? = some (freshCell cX kX) := by rw [← hT1]; exact State.heap_pushCell_size _ _
  have d3' : decode c.code (pc + 3) = .ok (.dup, 1) := by rw [hb]; exact d3
  have d4' : decode c.code (pc + 4) = .ok (.ldc is, 2) := by rw [hb]; exact d4
  have hstr' : vk_R own is text sa s' := vk_R.warm hW0 hstr
  obtain ⟨V, ce, L, Z, hL, hlt, hcl9, hvm9, st⟩ := vx_ctorMadeS X₁ hexec htr (own := own) (cls := cls) (names := names) (ic := ic) hown' hcls hnames h (fun x hx => nomatch hx) hfX hkX hcellA (by rw [hhp]; exact Nat.le_refl _) (msg := .ref sa) rfl
    (g := { method := m, pc := pc + 6, locals := ls, stack := .ref sa :: .ref T.heap.size :: .ref T.heap.size :: rest, locked := none }) rfl hsize (rest := rest) rfl
    (by rw [hb]; exact d6) hRframes (by simp only [List.map_cons, List.sum_cons, hcat]; omega)
  have Z0 := Stand.forget (locs := []) Z (fun y hy => by rw [hL y hy, hhp]; exact Nat.le_refl _)
  obtain ⟨f1, f2⟩ := vx_frame Z0.same
  rw [hhp] at f1 f2
  have hcid : ce.cls = D.1 ci := by
    rw [hcl9]
    have h1 := (hK.1 ci _ hc).2.1
    rw [hvm] at hfX
    exact Option.some.inj (hfX.symm.trans h1)
  have hh : (V.setCell T.heap.size ce).heap[T.heap.size]? = some ce := heapAt_setCell_self (s := V) ce hlt
  subst hA'
  have X5 := vx_back9 X Y Z0
  have X6 : Stand p l e R s m args below meth c (V.setCell T.heap.size ce) locs (cells + 1) (slots + 6) := { X5 with same := X5.same.mono (by omega) (by omega) }
  have hk9 : ∀ (k : Nat) (x : Nat × va_E), ws[k]? = some x → (V.setCell T.heap.size ce).heap[x.1]? = T.heap[x.1]? := fun k x hx => f2 x.1 ((hP k x hx).lt) (fun z hz => nomatch hz)
  obtain ⟨t, a1, b1⟩ := kk T.heap.size (V.setCell T.heap.size ce).heap ((hP.kept hk9).app (fun k x hx => by
      have hz : k < 1 := (List.getElem?_eq_some_iff.mp hx).1
      rw [show k = 0 by omega] at hx
      cases hx
      exact ⟨_, hc, ce, hh, hcid, hvm9, fun k hk => absurd hk (Nat.not_lt_zero k)⟩)) (hD.push hP rfl (hA _ hS.1)) ⟨Nat.le_trans hS.1 f1, fun q h1 h2 => (f2 q (Nat.lt_of_lt_of_le h1 hS.1) (fun z hz => nomatch hz)).trans (hS.2.1 q h1 h2), hS.2.2⟩ _ rfl X6
  refine ⟨t, st1 _ ?_, b1⟩
  show Steps p.tables e below (T1.setTop { method := m, pc := pc + 3, locals := ls, stack := .ref T.heap.size :: rest, locked := none }) _
  jvm_step X₁.here [X₁.here.top, hexec, d3', Value.category]
  exact X₁.ldcString hexec (own := own) (text := text) (index := is) (a := sa) hown' hstr'.1 hstr'.2
    (g := { method := m, pc := pc + 4, locals := ls, stack := .ref T.heap.size :: .ref T.heap.size :: rest, locked := none }) rfl d4' _ (st _ a1)
/-- 'new E()' that isn't thrown at once: the object goes on the stack -/
theorem vx_make0 {cc : ByteArray} {pc : Nat} (hexec : p.tables.exec = Jvm.exec) (hb : c.code = cc) (hl : l.stackTraces = false) {own cls : String} {names : List String} {ik ic ci : Nat} {A : Nat → Prop} {T0 : u_T}
    (hown : s.vm.findClass own = some m.cls) (hcls : Bundle.fit cls = true) (hnames : ∀ n ∈ names, Bundle.fit n = true)
    (hk : (Cond.classLink own ik cls).before args s = true) (hini : (Cond.initialized cls).before args s = true) (hat : ∀ w ∈ vx_at0 own ic cls names, w.before args s = true)
    (hgood : ∀ w ∈ Cond.classLink own ik cls :: Cond.initialized cls :: vx_at0 own ic cls names, vx_ot w = true)
    (hU : vx_Zq Bundle.tN "UNASSIGNED_STACK" Bundle.steD A s s.heap) (hN : vx_Zq Bundle.tN "SUPPRESSED_SENTINEL" Bundle.listD A s s.heap) (hS : va_S A s.heap H locs) (hsize : ls.size = c.maxLocals)
    (d0 : decode cc pc = .ok (.new ik, 3)) (d3 : decode cc (pc + 3) = .ok (.dup, 1)) (d4 : decode cc (pc + 4) = .ok (.invokespecial ic, 3))
    (hK : va_K D cl tys s) (hP : va_P D cl ws H) (hD : va_D A ws) (hA : ∀ q, s.heap.size ≤ q → A q) (hc : cl[ci]? = some (cls, T0, 0))
    (hRframes : names.length + 3 < R.frames) (hRlocals : (rest.map fun v => v.category).sum + (13 * (names.length + 1) + 42) ≤ R.locals) (hRcells : cells + 1 ≤ R.cells) (hRslots : slots + 6 ≤ R.slots)
    (kk : ∀ (q : Nat) (H1 : Heap), va_P D cl (ws ++ [(q, .inr (ci, []))]) H1 → va_D A (ws ++ [(q, .inr (ci, []))]) → va_S A s.heap H1 locs → W p l e R s m args below meth c H1 locs (cells + 1) (slots + 6) Q (F0 m (pc + 7) ls (.ref q :: rest))) :
    W p l e R s m args below meth c H locs cells slots Q (F0 m pc ls rest) := by
  intro T hT X
  subst hT
  have htr : e.platform.stackTraces = false := (show e.platform.stackTraces = l.stackTraces by rw [X.admits.platform]).trans hl
  have Y := vx_rebase X (R' := { frames := R.frames, locals := R.locals, cells := 1, slots := 6 }) (Nat.le_refl _) (Nat.le_refl _) hRcells hRslots
  obtain ⟨s', hA'⟩ : ∃ z, z = (T.setVm s.vm).setFrames (.invoking m args :: below) := ⟨_, rfl⟩
  rw [← hA'] at Y
  have hvm : s'.vm = s.vm := by rw [hA']; rfl
  have hhp : s'.heap = T.heap := by rw [hA']; rfl
  have hW0 : s.WarmedH s'.vm := by rw [hvm]; exact State.WarmedH.refl s
  have hat' : ∀ w ∈ vx_at0 own ic cls names, w.before args s' = true := fun w hw => vx_ot_at hW0 hvm.symm (hgood w (List.mem_cons_of_mem _ (List.mem_cons_of_mem _ hw))) (hat w hw)
  have hk' : (Cond.classLink own ik cls).before args s' = true := vx_ot_at hW0 hvm.symm (hgood _ List.mem_cons_self) hk
  have hini' : (Cond.initialized cls).before args s' = true := vx_ot_at hW0 hvm.symm (hgood _ (List.mem_cons_of_mem _ List.mem_cons_self)) hini
  have hU' : vx_Zq Bundle.tN "UNASSIGNED_STACK" Bundle.steD A s' s'.heap := by rw [hhp]; exact vx_Zq.moved hW0.alike (hU.kept hS.2.1)
  have hN' : vx_Zq Bundle.tN "SUPPRESSED_SENTINEL" Bundle.listD A s' s'.heap := by rw [hhp]; exact vx_Zq.moved hW0.alike (hN.kept hS.2.1)
  have h : ∀ w ∈ Bundle.ownAtoms0 own ic cls names, w.before args s' = true := vx_own hat' (vx_isRefq hU'.1) (vx_isRefq hN'.1) hU'.2.word hN'.2.word
  have hown' : s'.vm.findClass own = some m.cls := by rw [hvm]; exact hown
  have hins : (Cond.instantiable cls 6).before args s' = true := h _ (by simp [Bundle.ownAtoms0])
  obtain ⟨vm₁, cX, kX, hfX, hkX, -, -, X₁, st1⟩ := Y.newCold hexec (own := own) (C := cls) (index := ik) (n := 6) hown' hk' hins hini'
    (g := F0 m pc ls rest) rfl (by rw [hb]; exact d0) (Nat.le_refl _) (Nat.le_refl _)
  generalize hT1 : (T.setVm vm₁).pushCell { cls := cX, slots := kX.instanceTypes.map defaultValue, vm := .none } = T1 at X₁ st1
  have hcat : (Value.ref T.heap.size).category = 1 := rfl
  have hcellA : T1.heap[T.heap.size]? = some (freshCell cX kX) := by rw [← hT1]; exact State.heap_pushCell_size _ _
  have d3' : decode c.code (pc + 3) = .ok (.dup, 1) := by rw [hb]; exact d3
  obtain ⟨V, ce, L, Z, hL, hlt, hcl9, hvm9, st⟩ := vx_ctorMade0 X₁ hexec htr (own := own) (cls := cls) (names := names) (ic := ic) hown' hcls hnames h (fun x hx => nomatch hx) hfX hkX hcellA (by rw [hhp]; exact Nat.le_refl _)
    (g := { method := m, pc := pc + 4, locals := ls, stack := .ref T.heap.size :: .ref T.heap.size :: rest, locked := none }) rfl hsize (rest := rest) rfl
    (by rw [hb]; exact d4) hRframes (by simp only [List.map_cons, List.sum_cons, hcat]; omega)
  have Z0 := Stand.forget (locs := []) Z (fun y hy => by rw [hL y hy, hhp]; exact Nat.le_refl _)
  obtain ⟨f1, f2⟩ := vx_frame Z0.same
  rw [hhp] at f1 f2
  have hcid : ce.cls = D.1 ci := by
    rw [hcl9]
    have h1 := (hK.1 ci _ hc).2.1
    rw [hvm] at hfX
    exact Option.some.inj (hfX.symm.trans h1)
  have hh : (V.setCell T.heap.size ce).heap[T.heap.size]? = some ce := heapAt_setCell_self (s := V) ce hlt
  subst hA'
  have X5 := vx_back9 X Y Z0
  have X6 : Stand p l e R s m args below meth c (V.setCell T.heap.size ce) locs (cells + 1) (slots + 6) := { X5 with same := X5.same.mono (by omega) (by omega) }
  have hk9 : ∀ (k : Nat) (x : Nat × va_E), ws[k]? = some x → (V.setCell T.heap.size ce).heap[x.1]? = T.heap[x.1]? := fun k x hx => f2 x.1 ((hP k x hx).lt) (fun z hz => nomatch hz)
  obtain ⟨t, a1, b1⟩ := kk T.heap.size (V.setCell T.heap.size ce).heap ((hP.kept hk9).app (fun k x hx => by
      have hz : k < 1 := (List.getElem?_eq_some_iff.mp hx).1
      rw [show k = 0 by omega] at hx
      cases hx
      exact ⟨_, hc, ce, hh, hcid, hvm9, fun k hk => absurd hk (Nat.not_lt_zero k)⟩)) (hD.push hP rfl (hA _ hS.1)) ⟨Nat.le_trans hS.1 f1, fun q h1 h2 => (f2 q (Nat.lt_of_lt_of_le h1 hS.1) (fun z hz => nomatch hz)).trans (hS.2.1 q h1 h2), hS.2.2⟩ _ rfl X6
  refine ⟨t, st1 _ ?_, b1⟩
  show Steps p.tables e below (T1.setTop { method := m, pc := pc + 3, locals := ls, stack := .ref T.heap.size :: rest, locked := none }) _
  jvm_step X₁.here [X₁.here.top, hexec, d3', Value.category]
  exact st _ a1
/-- 'throw x' of an object that was made before -/
theorem vx_athrow {cc : ByteArray} {pc : Nat} (hexec : p.tables.exec = Jvm.exec) (hb : c.code = cc) {q : Addr} (hdg : decode cc pc = .ok (.athrow, 1)) (k : vx_W p l e R s m args below meth c H locs cells slots Q (F0 m pc ls rest) q) : W p l e R s m args below meth c H locs cells slots Q (F0 m pc ls (.ref q :: rest)) := by
  intro T hT X
  obtain ⟨t, st, hq⟩ := k T hT X
  refine ⟨t, ?_, hq⟩
  have hdg' : decode c.code pc = .ok (.athrow, 1) := by rw [hb]; exact hdg
  jvm_step X.here [X.here.top, hexec, hdg', athrow.wp_sem]
  exact st
end VXK2
/-! ===== END ===== -/
/-! ===== BEGIN a constructor that throws (launches without stack traces) ===== -/
section VXIA
variable {p : Program} {l : Launch} {e : Env} {R : Room} {s : State} {m : MethodId} {args : Array Value} {below : List Frame} {meth : Method} {c : Code} {T : State} {locs : List Loc} {cells slots : Nat}
theorem vx_callI (X : Stand p l e R s m args below meth c T locs cells slots) (hexec : p.tables.exec = Jvm.exec) {own : String} {index : Nat} {y : MethodName} {bytes : ByteArray} {maxL : Nat}
    (hown : s.vm.findClass own = some m.cls) (hy1 : y.name = "<init>") (hlink : (Cond.methodLink own index y).before args s = true) (hinst : (Cond.instanceMethod y).before args s = true)
    (hcode : (Cond.code y bytes maxL none).before args s = true) (hy : y.cls ≠ "java/lang/invoke/MethodHandle" ∧ y.cls ≠ "java/lang/invoke/VarHandle")
    {W9 : Nat} {Pre : Pt → Array Value → Prop} {Post : Pt → Array Value → Option Value → Pt → Prop} {PostX : Pt → Array Value → Addr → Pt → Prop} (hK : vx_Back l R p e below s args y 3 W9 Pre Post PostX)
    {g : JFrame} (hg : g.method = m) (hsize : g.locals.size = c.maxLocals) {a : Addr} {argsL rest : List Value} (hlen : ∀ sig, parseMethodDescriptor y.desc = some sig → argsL.length = sig.parameters.length)
    (hstack : g.stack = argsL.reverse ++ .ref a :: rest) (hW : 2 * g.monitorRoom + (rest.map fun v => v.category).sum ≤ W9) (hdg : decode c.code g.pc = .ok (.invokespecial index, 3))
    (hpre : ∀ vm₁, s.WarmedH vm₁ → Pre ⟨T.setVm vm₁, locs, cells, slots⟩ (Value.ref a :: argsL).toArray) :
    (∃ (v : Option Value) (vm₁ : Vm) (B : Pt), s.WarmedH vm₁ ∧ Stand p l e R s m args below meth c B.U B.locs B.cells B.slots ∧ Post ⟨T.setVm vm₁, locs, cells, slots⟩ (Value.ref a :: argsL).toArray v B ∧
      ∀ target, Steps p.tables e below (B.U.setTop { g with pc := g.pc + 3, stack := v.toList ++ rest }) target → Steps p.tables e below (T.setTop g) target) ∨
    (∃ (q : Addr) (vm₁ : Vm) (B : Pt), s.WarmedH vm₁ ∧ Stand p l e R s m args below meth c B.U B.locs B.cells B.slots ∧ PostX ⟨T.setVm vm₁, locs, cells, slots⟩ (Value.ref a :: argsL).toArray q B ∧
      Steps p.tables e below (T.setTop g) ((B.U.setTop { g with stack := rest }).pushFrame (.throwing q))) := by
  subst hg
  have hpl : e.platform.magicAccessors = ({} : Platform).magicAccessors := by rw [X.admits.platform]
  obtain ⟨mk, methM, cM, kP, vm₁, hnamed, hmethM, hcodeM, -, hlocalsM, -, hkP, -, hW₁, hstep₁⟩ := Steps.initColdArgs (e := e) X.here hexec X.warmed hpl hown hy1 hy hlink hinst hcode (f := g) rfl hlen hstack hdg
  have X₁ := X.noted hW₁
  rcases hK g.method meth c ⟨T.setVm vm₁, locs, cells, slots⟩ { g with stack := rest } (.invokespecial index) mk (Value.ref a :: argsL).toArray X₁ rfl hsize hdg hW (X₁.named hnamed) (hpre vm₁ X₁.warmed) with ⟨v, B, X', hpost, hsteps⟩ | ⟨q, B, X', hpost, hsteps⟩
  · exact Or.inl ⟨v, vm₁, B, X₁.warmed, X', hpost, fun target h => hstep₁ _ fun acts => by rw [doInvoke_state]; exact hsteps.trans h⟩
  · exact Or.inr ⟨q, vm₁, B, X₁.warmed, X', hpost, hstep₁ _ fun acts => by rw [doInvoke_state]; exact hsteps⟩
end VXIA
section VXIB
variable {p : Program} {l : Launch} {e : Env} {R : Room} {s : State} {m : MethodId} {args : Array Value} {below : List Frame} {meth : Method} {c : Code} {H : Heap} {locs : List Loc} {cells slots : Nat}
variable {y : MethodName} {bytes cc : ByteArray} {maxL nL mc ms n index : Nat} {ret : Option FieldType} {ws : List Cond} {rm : Room} {Pc : Array Value → State → Prop} {Qc : Array Value → State → Outcome → State → Prop} {XC : String → State → State → Prop} {free : Addr → Prop} {Ts : List Cond} {own C : String} {b : Addr} {As rest : List Value} {g : JFrame}
theorem vx_runI (S : CallFix p m c cc nL s args Ts own) (hM : vx_Met l y ws rm Pc Qc XC mc ms free) (cw : CallB R s args own index y bytes maxL none ws rm mc ms n ∧ y.name = "<init>" ∧ (Cond.instanceMethod y).before args s = true) (hp : PreS s H Pc (.ref b :: As))
    (hg : g.method = m) (hn : As.length = n) (hsize : g.locals.size = nL) (hstack : g.stack = As.reverse ++ .ref b :: rest) (hW : 2 * g.monitorRoom + (rest.map fun v => v.category).sum ≤ 8) (hdg : decode cc g.pc = .ok (.invokespecial index, 3)) (hf : cells + mc ≤ R.cells ∧ slots + ms ≤ R.slots) :
    vx_Run p l e R s m args below meth c H locs cells slots mc ms g rest (Qc (Value.ref b :: As).toArray) XC free := by
  have hK : vx_Back l R p e below s args y 3 8 (PreOf R mc ms Pc) (PostOf Qc mc ms free) (vx_Post XC mc ms free) := vx_callBack cw.1 hM hp.1
  obtain ⟨⟨-, -, -, -, -, -, hcode, -, hy, hlen, hl⟩, hy1, hin⟩ := cw
  obtain ⟨hx, hb, hml, ho, -⟩ := S
  have hPc := hp.2
  intro T hT X
  rcases vx_callI X hx (bytes := bytes) (maxL := maxL) ho hy1 hl hin hcode hy hK hg (hsize.trans hml.symm) (a := b) (argsL := As) (rest := rest) (fun sig h => hn.trans (hlen sig h)) hstack hW (by rw [hb]; exact hdg)
    (fun vm₁ hW₁ => ⟨hf.1, hf.2, hPc (T.setVm vm₁) hT hW₁⟩) with ⟨v, vm₁, ⟨U', l2, c2, s2⟩, hW₁, X', ⟨g', mk, t, L, e1, e2, hq, h1, hL, h2, h3⟩, st⟩ | ⟨q, vm₁, ⟨U', l2, c2, s2⟩, hW₁, X', ⟨g', mk, t, L, E, ce, e1, e2, hq, hce, hcv, hcl, h1, hL, h2, h3⟩, st⟩
  · dsimp only [Pt.U, Pt.locs, Pt.cells, Pt.slots] at X' e1 e2 h1 h2 h3 st
    subst h1; subst h2; subst h3
    exact Or.inl ⟨v, (T.setVm vm₁).calling g' mk (Value.ref b :: As).toArray, t, U', L, hT, X', hL, e1, e2, hq, st⟩
  · dsimp only [Pt.U, Pt.locs, Pt.cells, Pt.slots] at X' e1 e2 h1 h2 h3 st hcl
    subst h1; subst h2; subst h3
    exact Or.inr ⟨q, (T.setVm vm₁).calling g' mk (Value.ref b :: As).toArray, t, U', L, E, ce, hT, X', hL, e1, e2, hq, hce, hcv, vx_cls hW₁ hcl, st⟩
end VXIB
/-! ===== END ===== -/
/-! ===== BEGIN a private constructor of a nest mate that throws ===== -/
section VXIC
variable {p : Program} {l : Launch} {e : Env} {R : Room} {s : State} {m : MethodId} {args : Array Value} {below : List Frame} {meth : Method} {c : Code} {T : State} {locs : List Loc} {cells slots : Nat}
theorem vx_callIN (X : Stand p l e R s m args below meth c T locs cells slots) (hexec : p.tables.exec = Jvm.exec) {own : String} {index : Nat} {host : String} {y : MethodName} {bytes : ByteArray} {maxL : Nat}
    (hown : s.vm.findClass own = some m.cls) (hy1 : y.name = "<init>") (hlink : (Cond.methodLinkNest own index y host).before args s = true) (hinst : (Cond.instanceMethod y).before args s = true)
    (hcode : (Cond.code y bytes maxL none).before args s = true) (hy : y.cls ≠ "java/lang/invoke/MethodHandle" ∧ y.cls ≠ "java/lang/invoke/VarHandle")
    {W9 : Nat} {Pre : Pt → Array Value → Prop} {Post : Pt → Array Value → Option Value → Pt → Prop} {PostX : Pt → Array Value → Addr → Pt → Prop} (hK : vx_Back l R p e below s args y 3 W9 Pre Post PostX)
    {g : JFrame} (hg : g.method = m) (hsize : g.locals.size = c.maxLocals) {a : Addr} {argsL rest : List Value} (hlen : ∀ sig, parseMethodDescriptor y.desc = some sig → argsL.length = sig.parameters.length)
    (hstack : g.stack = argsL.reverse ++ .ref a :: rest) (hW : 2 * g.monitorRoom + (rest.map fun v => v.category).sum ≤ W9) (hdg : decode c.code g.pc = .ok (.invokespecial index, 3))
    (hpre : ∀ vm₁, s.WarmedH vm₁ → Pre ⟨T.setVm vm₁, locs, cells, slots⟩ (Value.ref a :: argsL).toArray) :
    (∃ (v : Option Value) (vm₁ : Vm) (B : Pt), s.WarmedH vm₁ ∧ Stand p l e R s m args below meth c B.U B.locs B.cells B.slots ∧ Post ⟨T.setVm vm₁, locs, cells, slots⟩ (Value.ref a :: argsL).toArray v B ∧
      ∀ target, Steps p.tables e below (B.U.setTop { g with pc := g.pc + 3, stack := v.toList ++ rest }) target → Steps p.tables e below (T.setTop g) target) ∨
    (∃ (q : Addr) (vm₁ : Vm) (B : Pt), s.WarmedH vm₁ ∧ Stand p l e R s m args below meth c B.U B.locs B.cells B.slots ∧ PostX ⟨T.setVm vm₁, locs, cells, slots⟩ (Value.ref a :: argsL).toArray q B ∧
      Steps p.tables e below (T.setTop g) ((B.U.setTop { g with stack := rest }).pushFrame (.throwing q))) := by
  subst hg
  have hpl : e.platform.magicAccessors = ({} : Platform).magicAccessors := by rw [X.admits.platform]
  obtain ⟨mk, methM, cM, kP, vm₁, hnamed, hmethM, hcodeM, -, hlocalsM, -, hkP, -, hW₁, hstep₁⟩ := Steps.initColdArgsNest (e := e) X.here hexec X.warmed hpl hown hy1 hy hlink hinst hcode (f := g) rfl hlen hstack hdg
  have X₁ := X.noted hW₁
  rcases hK g.method meth c ⟨T.setVm vm₁, locs, cells, slots⟩ { g with stack := rest } (.invokespecial index) mk (Value.ref a :: argsL).toArray X₁ rfl hsize hdg hW (X₁.named hnamed) (hpre vm₁ X₁.warmed) with ⟨v, B, X', hpost, hsteps⟩ | ⟨q, B, X', hpost, hsteps⟩
  · exact Or.inl ⟨v, vm₁, B, X₁.warmed, X', hpost, fun target h => hstep₁ _ fun acts => by rw [doInvoke_state]; exact hsteps.trans h⟩
  · exact Or.inr ⟨q, vm₁, B, X₁.warmed, X', hpost, hstep₁ _ fun acts => by rw [doInvoke_state]; exact hsteps⟩
end VXIC
section VXID
variable {p : Program} {l : Launch} {e : Env} {R : Room} {s : State} {m : MethodId} {args : Array Value} {below : List Frame} {meth : Method} {c : Code} {H : Heap} {locs : List Loc} {cells slots : Nat}
theorem vx_runIN {y : MethodName} {bytes cc : ByteArray} {maxL nL mc ms n index : Nat} {ws : List Cond} {rm : Room} {Pc : Array Value → State → Prop} {Qc : Array Value → State → Outcome → State → Prop} {XC : String → State → State → Prop} {free : Addr → Prop} {Ts : List Cond} {own host : String} {b : Addr} {As rest : List Value} {g : JFrame}
    (S : CallFix p m c cc nL s args Ts own) (hM : vx_Met l y ws rm Pc Qc XC mc ms free) (cw : va_CN R s args own index y host bytes maxL none ws rm mc ms n ∧ y.name = "<init>" ∧ (Cond.instanceMethod y).before args s = true) (hp : PreS s H Pc (.ref b :: As))
    (hg : g.method = m) (hn : As.length = n) (hsize : g.locals.size = nL) (hstack : g.stack = As.reverse ++ .ref b :: rest) (hW : 2 * g.monitorRoom + (rest.map fun v => v.category).sum ≤ 8) (hdg : decode cc g.pc = .ok (.invokespecial index, 3)) (hf : cells + mc ≤ R.cells ∧ slots + ms ≤ R.slots) :
    vx_Run p l e R s m args below meth c H locs cells slots mc ms g rest (Qc (Value.ref b :: As).toArray) XC free := by
  obtain ⟨⟨⟨hrc, hrs, hfr, hlo, hws, hcw⟩, hcode, hini, hy, hlen, hl⟩, hx1, hx2⟩ := cw
  have hK : vx_Back l R p e below s args y 3 8 (PreOf R mc ms Pc) (PostOf Qc mc ms free) (vx_Post XC mc ms free) := vx_back (bytes := bytes) (maxL := maxL) (ret := none) hM hp.1 hrc hrs hfr hlo hws hcw (fun a' U hW => word_at hW (Or.inl (by first | rfl | simp [Cond.onTables, Cond.keeps, Cond.steady])) hini)
  obtain ⟨hx, hb, hml, ho, -⟩ := S
  have hPc := hp.2
  intro T hT X
  rcases vx_callIN X hx (bytes := bytes) (maxL := maxL) ho hx1 hl hx2 hcode hy hK hg (hsize.trans hml.symm) (a := b) (argsL := As) (rest := rest) (fun sig h => hn.trans (hlen sig h)) hstack hW (by rw [hb]; exact hdg)
    (fun vm₁ hW₁ => ⟨hf.1, hf.2, hPc (T.setVm vm₁) hT hW₁⟩) with ⟨v, vm₁, ⟨U', l2, c2, s2⟩, hW₁, X', ⟨g', mk, t, L, e1, e2, hq, h1, hL, h2, h3⟩, st⟩ | ⟨q, vm₁, ⟨U', l2, c2, s2⟩, hW₁, X', ⟨g', mk, t, L, E, ce, e1, e2, hq, hce, hcv, hcl, h1, hL, h2, h3⟩, st⟩
  · dsimp only [Pt.U, Pt.locs, Pt.cells, Pt.slots] at X' e1 e2 h1 h2 h3 st
    subst h1; subst h2; subst h3
    exact Or.inl ⟨v, (T.setVm vm₁).calling g' mk (Value.ref b :: As).toArray, t, U', L, hT, X', hL, e1, e2, hq, st⟩
  · dsimp only [Pt.U, Pt.locs, Pt.cells, Pt.slots] at X' e1 e2 h1 h2 h3 st hcl
    subst h1; subst h2; subst h3
    exact Or.inr ⟨q, (T.setVm vm₁).calling g' mk (Value.ref b :: As).toArray, t, U', L, E, ce, hT, X', hL, e1, e2, hq, hce, hcv, vx_cls hW₁ hcl, st⟩
end VXID
/-! ===== END ===== -/
/-! ===== BEGIN a method of a class above, found by the receiver, that may throw (follows va_callVU, va_runU of this kit) ===== -/
section
variable {p : Program} {l : Launch} {e : Env} {R : Room} {s : State} {m : MethodId} {args : Array Value} {below : List Frame} {meth : Method} {c : Code} {H : Heap} {locs : List Loc} {cells slots : Nat}
theorem vx_callVU {T : State} {locs : List Loc} {cells slots : Nat} (X : Stand p l e R s m args below meth c T locs cells slots) (hexec : p.tables.exec = Jvm.exec) {own C owner : String} {index : Nat} {x y : MethodName} {bytes : ByteArray} {maxL : Nat} {ret : Option FieldType}
    (hown : s.vm.findClass own = some m.cls) (hlink : (Cond.methodLink own index x).before args s = true) (hsame : (Cond.sameMethod x.cls owner x.name x.desc).before args s = true)
    (hd0 : va_Decl s ⟨owner, x.name, x.desc⟩) (howner : owner ≠ "java/lang/invoke/MethodHandle" ∧ owner ≠ "java/lang/invoke/VarHandle")
    (hsel : (Cond.selects C x y).before args s = true) (hinst : (Cond.instanceMethod y).before args s = true) (hcode : (Cond.code y bytes maxL ret).before args s = true)
    {W : Nat} {Pre : Pt → Array Value → Prop} {Post : Pt → Array Value → Option Value → Pt → Prop} {PostX : Pt → Array Value → Addr → Pt → Prop} (hK : vx_Back l R p e below s args y 3 W Pre Post PostX)
    {b : Addr} {cellB : Cell} (hcell : T.heap[b]? = some cellB) (hobj : cellB.vm.isStatics = false) (hcls : s.vm.findClass C = some cellB.cls)
    {g : JFrame} (hg : g.method = m) (hsize : g.locals.size = c.maxLocals) {argsL rest : List Value} (hlen : ∀ sig, parseMethodDescriptor x.desc = some sig → argsL.length = sig.parameters.length)
    (hstack : g.stack = argsL.reverse ++ .ref b :: rest) (hW : 2 * g.monitorRoom + (rest.map fun v => v.category).sum ≤ W) (hdg : decode c.code g.pc = .ok (.invokevirtual index, 3))
    (hpre : ∀ vm₁, s.WarmedH vm₁ → Pre ⟨T.setVm vm₁, locs, cells, slots⟩ (Value.ref b :: argsL).toArray) :
    (∃ (v : Option Value) (vm₁ : Vm) (B : Pt), s.WarmedH vm₁ ∧ Stand p l e R s m args below meth c B.U B.locs B.cells B.slots ∧ Post ⟨T.setVm vm₁, locs, cells, slots⟩ (Value.ref b :: argsL).toArray v B ∧
      ∀ target, Steps p.tables e below (B.U.setTop { g with pc := g.pc + 3, stack := v.toList ++ rest }) target → Steps p.tables e below (T.setTop g) target) ∨
    (∃ (q : Addr) (vm₁ : Vm) (B : Pt), s.WarmedH vm₁ ∧ Stand p l e R s m args below meth c B.U B.locs B.cells B.slots ∧ PostX ⟨T.setVm vm₁, locs, cells, slots⟩ (Value.ref b :: argsL).toArray q B ∧
      Steps p.tables e below (T.setTop g) ((B.U.setTop { g with stack := rest }).pushFrame (.throwing q))) := by
  obtain ⟨r0, r, hn, hrm, hstR, hsigR⟩ := hd0
  obtain ⟨cn, ck, r1, hcn, hck, hni, hf, hn1⟩ := Cond.sameMethod_found hsame
  cases hn.symm.trans hn1
  obtain ⟨mk, methM, hnamed, hmethM, -, habM⟩ := Cond.instanceMethod_spec hinst
  obtain ⟨c2, r2, m2, q1, q2, q3, q4, kP, hkP, hkPi⟩ := Cond.selects_spec hsel
  cases hcls.symm.trans q1
  cases hf.symm.trans q2
  cases hnamed.symm.trans q3
  have hselP : selectMethod e.platform s.vm cellB.cls r0 = .method mk := by rw [Launch.admits_selectMethod X.admits]; exact q4
  obtain ⟨vm₁, X₁, hstep₁⟩ := X.invokevirtualUp hexec hown hlink hsame howner hn hrm hstR (a := b) (cell := cellB) hcell
    (fun z h => by rw [h] at hobj; cases hobj) hselP hmethM habM hkP hkPi (g := g) hg (argsL := argsL) (rest := rest) (hlen _ hsigR) hstack hdg
  rcases hK m meth c ⟨T.setVm vm₁, locs, cells, slots⟩ { g with stack := rest } (.invokevirtual index) mk (Value.ref b :: argsL).toArray X₁ hg hsize hdg hW (X₁.named hnamed) (hpre vm₁ X₁.warmed) with ⟨v, B, X', hpost, hsteps⟩ | ⟨q, B, X', hpost, hsteps⟩
  · exact Or.inl ⟨v, vm₁, B, X₁.warmed, X', hpost, fun target h => hstep₁ _ fun acts => by rw [doInvoke_state]; exact hsteps.trans h⟩
  · exact Or.inr ⟨q, vm₁, B, X₁.warmed, X', hpost, hstep₁ _ fun acts => by rw [doInvoke_state]; exact hsteps⟩
theorem vx_runU {x y : MethodName} {bytes cc : ByteArray} {maxL nL mc ms n index : Nat} {ret : Option FieldType} {ws : List Cond} {rm : Room} {Pc : Array Value → State → Prop} {Qc : Array Value → State → Outcome → State → Prop} {XC : String → State → State → Prop} {free : Addr → Prop} {Ts : List Cond} {own C owner : String} {b : Addr} {As rest : List Value} {g : JFrame}
    (S : CallFix p m c cc nL s args Ts own) (hM : vx_Met l y ws rm Pc Qc XC mc ms free) (cw : va_CU R s args own C owner index x y bytes maxL ret ws rm mc ms n) (hp : PreV s H C b Pc As)
    (hg : g.method = m) (hn : As.length = n) (hsize : g.locals.size = nL) (hstack : g.stack = As.reverse ++ .ref b :: rest) (hW : 2 * g.monitorRoom + (rest.map fun v => v.category).sum ≤ 8) (hdg : decode cc g.pc = .ok (.invokevirtual index, 3)) (hf : cells + mc ≤ R.cells ∧ slots + ms ≤ R.slots) :
    vx_Run p l e R s m args below meth c H locs cells slots mc ms g rest (Qc (Value.ref b :: As).toArray) XC free := by
  obtain ⟨hrc, hrs, hfr, hlo, hws, hcw⟩ := cw.back
  have hini := cw.init
  have hK : vx_Back l R p e below s args y 3 8 (PreOf R mc ms Pc) (PostOf Qc mc ms free) (vx_Post XC mc ms free) := vx_back (bytes := bytes) (maxL := maxL) (ret := ret) hM hp.1 hrc hrs hfr hlo hws hcw (fun a' U hW => word_at hW (Or.inl (by first | rfl | simp [Cond.onTables, Cond.keeps, Cond.steady])) hini)
  obtain ⟨hx, hb, hml, ho, -⟩ := S
  obtain ⟨-, ⟨cellB, hcB, hoB, hclB⟩, hPc⟩ := hp
  intro T hT X
  rcases vx_callVU X hx (C := C) (owner := owner) (bytes := bytes) (maxL := maxL) (ret := ret) ho cw.link cw.same cw.decl cw.notMH cw.sel cw.inst cw.code hK (by rw [hT]; exact hcB) hoB hclB hg (hsize.trans hml.symm) (argsL := As) (rest := rest) (fun sig h => hn.trans (cw.len sig h)) hstack hW (by rw [hb]; exact hdg)
    (fun vm₁ hW₁ => ⟨hf.1, hf.2, hPc (T.setVm vm₁) hT hW₁⟩) with ⟨v, vm₁, ⟨U', l2, c2, s2⟩, hW₁, X', ⟨g', mk, t, L, e1, e2, hq, h1, hL, h2, h3⟩, st⟩ | ⟨q, vm₁, ⟨U', l2, c2, s2⟩, hW₁, X', ⟨g', mk, t, L, E, ce, e1, e2, hq, hce, hcv, hcl, h1, hL, h2, h3⟩, st⟩
  · dsimp only [Pt.U, Pt.locs, Pt.cells, Pt.slots] at X' e1 e2 h1 h2 h3 st
    subst h1; subst h2; subst h3
    exact Or.inl ⟨v, (T.setVm vm₁).calling g' mk (Value.ref b :: As).toArray, t, U', L, hT, X', hL, e1, e2, hq, st⟩
  · dsimp only [Pt.U, Pt.locs, Pt.cells, Pt.slots] at X' e1 e2 h1 h2 h3 st hcl
    subst h1; subst h2; subst h3
    exact Or.inr ⟨q, (T.setVm vm₁).calling g' mk (Value.ref b :: As).toArray, t, U', L, E, ce, hT, X', hL, e1, e2, hq, hce, hcv, vx_cls hW₁ hcl, st⟩
end
/-! ===== END ===== -/
/-! ===== BEGIN super.m(..) that may throw (follows va_callSU, va_runSU) ===== -/
section
variable {p : Program} {l : Launch} {e : Env} {R : Room} {s : State} {m : MethodId} {args : Array Value} {below : List Frame} {meth : Method} {c : Code} {H : Heap} {locs : List Loc} {cells slots : Nat}
theorem vx_callSU {T : State} {locs : List Loc} {cells slots : Nat} (X : Stand p l e R s m args below meth c T locs cells slots) (hexec : p.tables.exec = Jvm.exec) {own : String} {index : Nat} {y : MethodName} {bytes : ByteArray} {maxL : Nat} {ret : Option FieldType}
    (hown : s.vm.findClass own = some m.cls) (hlink : (Cond.methodLink own index y).before args s = true) (hsame : (Cond.sameMethod y.cls y.cls y.name y.desc).before args s = true) (hsup : (Cond.superclass own y.cls).before args s = true)
    (hinst : (Cond.instanceMethod y).before args s = true) (hcode : (Cond.code y bytes maxL ret).before args s = true) (hno : y.name ≠ "<init>")
    {W : Nat} {Pre : Pt → Array Value → Prop} {Post : Pt → Array Value → Option Value → Pt → Prop} {PostX : Pt → Array Value → Addr → Pt → Prop} (hK : vx_Back l R p e below s args y 3 W Pre Post PostX)
    {b : Addr} {cellB : Cell} {kB : Class} (hcell : T.heap[b]? = some cellB) (hobj : cellB.vm.isStatics = false) (hkB : s.vm.classes[cellB.cls]? = some kB)
    {g : JFrame} (hg : g.method = m) (hsize : g.locals.size = c.maxLocals) {argsL rest : List Value} (hlen : ∀ sig, parseMethodDescriptor y.desc = some sig → argsL.length = sig.parameters.length)
    (hstack : g.stack = argsL.reverse ++ .ref b :: rest) (hW : 2 * g.monitorRoom + (rest.map fun v => v.category).sum ≤ W) (hdg : decode c.code g.pc = .ok (.invokespecial index, 3))
    (hpre : ∀ vm₁, s.WarmedH vm₁ → Pre ⟨T.setVm vm₁, locs, cells, slots⟩ (Value.ref b :: argsL).toArray) :
    (∃ (v : Option Value) (vm₁ : Vm) (B : Pt), s.WarmedH vm₁ ∧ Stand p l e R s m args below meth c B.U B.locs B.cells B.slots ∧ Post ⟨T.setVm vm₁, locs, cells, slots⟩ (Value.ref b :: argsL).toArray v B ∧
      ∀ target, Steps p.tables e below (B.U.setTop { g with pc := g.pc + 3, stack := v.toList ++ rest }) target → Steps p.tables e below (T.setTop g) target) ∨
    (∃ (q : Addr) (vm₁ : Vm) (B : Pt), s.WarmedH vm₁ ∧ Stand p l e R s m args below meth c B.U B.locs B.cells B.slots ∧ PostX ⟨T.setVm vm₁, locs, cells, slots⟩ (Value.ref b :: argsL).toArray q B ∧
      Steps p.tables e below (T.setTop g) ((B.U.setTop { g with stack := rest }).pushFrame (.throwing q))) := by
  obtain ⟨mk, methM, hnamed, hmethM, hstM, habM⟩ := Cond.instanceMethod_spec hinst
  obtain ⟨methM', cM, hmethM', -, -, -, -, -, -, hsigM⟩ := Cond.code_spec hnamed hcode
  cases hmethM.symm.trans hmethM'
  obtain ⟨ps, dk, kp, hps, hdk, hkp, hsuper, -, -, hnid⟩ := Cond.superclass_spec hown hsup
  have hn : s.methodNamed? ⟨y.cls, y.name, y.desc⟩ = some mk := hnamed
  have hpm : ps = mk.cls := Option.some.inj (hps.symm.trans (findClass_of_methodNamed hnamed))
  have hsub : s.vm.isSubclass ps mk.cls = true := by rw [hpm]; simp [Vm.isSubclass, Vm.isSubclassAux]
  obtain ⟨vm₁, X₁, hstep₁⟩ := X.invokespecialUp hexec hown hlink hsame hn hmethM hstM habM hno hdk hnid hps hsuper hsub (a := b) (cell := cellB) hcell
    (fun z h => by rw [h] at hobj; cases hobj) hkB (g := g) hg (argsL := argsL) (rest := rest) (hlen _ hsigM) hstack hdg
  rcases hK m meth c ⟨T.setVm vm₁, locs, cells, slots⟩ { g with stack := rest } (.invokespecial index) mk (Value.ref b :: argsL).toArray X₁ hg hsize hdg hW (X₁.named hnamed) (hpre vm₁ X₁.warmed) with ⟨v, B, X', hpost, hsteps⟩ | ⟨q, B, X', hpost, hsteps⟩
  · exact Or.inl ⟨v, vm₁, B, X₁.warmed, X', hpost, fun target h => hstep₁ _ (by rw [doInvoke_state]; exact hsteps.trans h)⟩
  · exact Or.inr ⟨q, vm₁, B, X₁.warmed, X', hpost, hstep₁ _ (by rw [doInvoke_state]; exact hsteps)⟩
theorem vx_runSU {y : MethodName} {bytes cc : ByteArray} {maxL nL mc ms n index : Nat} {ret : Option FieldType} {ws : List Cond} {rm : Room} {Pc : Array Value → State → Prop} {Qc : Array Value → State → Outcome → State → Prop} {XC : String → State → State → Prop} {free : Addr → Prop} {Ts : List Cond} {own C : String} {cC : ClassId} {b : Addr} {As rest : List Value} {g : JFrame}
    (hat : ClassAt s C cC) (S : CallFix p m c cc nL s args Ts own) (hM : vx_Met l y ws rm Pc Qc XC mc ms free) (cw : va_CS R s args own index y bytes maxL ret ws rm mc ms n) (hp : PreV s H C b Pc As)
    (hg : g.method = m) (hn : As.length = n) (hsize : g.locals.size = nL) (hstack : g.stack = As.reverse ++ .ref b :: rest) (hW : 2 * g.monitorRoom + (rest.map fun v => v.category).sum ≤ 8) (hdg : decode cc g.pc = .ok (.invokespecial index, 3)) (hf : cells + mc ≤ R.cells ∧ slots + ms ≤ R.slots) :
    vx_Run p l e R s m args below meth c H locs cells slots mc ms g rest (Qc (Value.ref b :: As).toArray) XC free := by
  obtain ⟨⟨hrc, hrs, hfr, hlo, hws, hcw⟩, hl1, hl2, hl3, hl4, hini, hcode, hno, hlen⟩ := cw
  have hK : vx_Back l R p e below s args y 3 8 (PreOf R mc ms Pc) (PostOf Qc mc ms free) (vx_Post XC mc ms free) := vx_back (bytes := bytes) (maxL := maxL) (ret := ret) hM hp.1 hrc hrs hfr hlo hws hcw (fun a' U hW => word_at hW (Or.inl (by first | rfl | simp [Cond.onTables, Cond.keeps, Cond.steady])) hini)
  obtain ⟨hx, hb, hml, ho, -⟩ := S
  obtain ⟨-, ⟨cellB, hcB, hoB, hclB⟩, hPc⟩ := hp
  obtain ⟨hfc, kB, hkB, -⟩ := hat
  cases hfc.symm.trans hclB
  intro T hT X
  rcases vx_callSU X hx (bytes := bytes) (maxL := maxL) (ret := ret) ho hl1 hl2 hl3 hl4 hcode hno hK (by rw [hT]; exact hcB) hoB hkB hg (hsize.trans hml.symm) (argsL := As) (rest := rest) (fun sig h => hn.trans (hlen sig h)) hstack hW (by rw [hb]; exact hdg)
    (fun vm₁ hW₁ => ⟨hf.1, hf.2, hPc (T.setVm vm₁) hT hW₁⟩) with ⟨v, vm₁, ⟨U', l2, c2, s2⟩, hW₁, X', ⟨g', mk, t, L, e1, e2, hq, h1, hL, h2, h3⟩, st⟩ | ⟨q, vm₁, ⟨U', l2, c2, s2⟩, hW₁, X', ⟨g', mk, t, L, E, ce, e1, e2, hq, hce, hcv, hcl, h1, hL, h2, h3⟩, st⟩
  · dsimp only [Pt.U, Pt.locs, Pt.cells, Pt.slots] at X' e1 e2 h1 h2 h3 st
    subst h1; subst h2; subst h3
    exact Or.inl ⟨v, (T.setVm vm₁).calling g' mk (Value.ref b :: As).toArray, t, U', L, hT, X', hL, e1, e2, hq, st⟩
  · dsimp only [Pt.U, Pt.locs, Pt.cells, Pt.slots] at X' e1 e2 h1 h2 h3 st hcl
    subst h1; subst h2; subst h3
    exact Or.inr ⟨q, (T.setVm vm₁).calling g' mk (Value.ref b :: As).toArray, t, U', L, E, ce, hT, X', hL, e1, e2, hq, hce, hcv, vx_cls hW₁ hcl, st⟩
end
/-! ===== END ===== -/
/-! ===== BEGIN a private method of a nest mate that may throw (follows va_callVN, va_callSN, va_runVN, va_runSN) ===== -/
section
variable {p : Program} {l : Launch} {e : Env} {R : Room} {s : State} {m : MethodId} {args : Array Value} {below : List Frame} {meth : Method} {c : Code} {H : Heap} {locs : List Loc} {cells slots : Nat}
variable {T : State}
theorem vx_callVN (X : Stand p l e R s m args below meth c T locs cells slots) (hexec : p.tables.exec = Jvm.exec) {own C : String} {index : Nat} {host : String} {y : MethodName} {bytes : ByteArray} {maxL : Nat} {ret : Option FieldType}
    (hown : s.vm.findClass own = some m.cls) (hlink : (Cond.methodLinkNest own index y host).before args s = true) (hinst : (Cond.instanceMethod y).before args s = true) (hsel : (Cond.selects C y y).before args s = true)
    (hcode : (Cond.code y bytes maxL ret).before args s = true) (hy : y.cls ≠ "java/lang/invoke/MethodHandle" ∧ y.cls ≠ "java/lang/invoke/VarHandle")
    {W : Nat} {Pre : Pt → Array Value → Prop} {Post : Pt → Array Value → Option Value → Pt → Prop} {PostX : Pt → Array Value → Addr → Pt → Prop} (hK : vx_Back l R p e below s args y 3 W Pre Post PostX)
    {b : Addr} {cellB : Cell} (hcell : T.heap[b]? = some cellB) (hobj : cellB.vm.isStatics = false) (hcls : s.vm.findClass C = some cellB.cls)
    {g : JFrame} (hg : g.method = m) (hsize : g.locals.size = c.maxLocals) {argsL rest : List Value} (hlen : ∀ sig, parseMethodDescriptor y.desc = some sig → argsL.length = sig.parameters.length)
    (hstack : g.stack = argsL.reverse ++ .ref b :: rest) (hW : 2 * g.monitorRoom + (rest.map fun v => v.category).sum ≤ W) (hdg : decode c.code g.pc = .ok (.invokevirtual index, 3))
    (hpre : ∀ vm₁, s.WarmedH vm₁ → Pre ⟨T.setVm vm₁, locs, cells, slots⟩ (Value.ref b :: argsL).toArray) :
    (∃ (v : Option Value) (vm₁ : Vm) (B : Pt), s.WarmedH vm₁ ∧ Stand p l e R s m args below meth c B.U B.locs B.cells B.slots ∧ Post ⟨T.setVm vm₁, locs, cells, slots⟩ (Value.ref b :: argsL).toArray v B ∧
      ∀ target, Steps p.tables e below (B.U.setTop { g with pc := g.pc + 3, stack := v.toList ++ rest }) target → Steps p.tables e below (T.setTop g) target) ∨
    (∃ (q : Addr) (vm₁ : Vm) (B : Pt), s.WarmedH vm₁ ∧ Stand p l e R s m args below meth c B.U B.locs B.cells B.slots ∧ PostX ⟨T.setVm vm₁, locs, cells, slots⟩ (Value.ref b :: argsL).toArray q B ∧
      Steps p.tables e below (T.setTop g) ((B.U.setTop { g with stack := rest }).pushFrame (.throwing q))) := by
  obtain ⟨mk, methM, hnamed, hmethM, hstM, habM⟩ := Cond.instanceMethod_spec hinst
  obtain ⟨methM', cM, hmethM', -, -, -, -, -, -, hsigM⟩ := Cond.code_spec hnamed hcode
  cases hmethM.symm.trans hmethM'
  obtain ⟨c2, r2, m2, q1, q2, q3, q4, kP, hkP, hkPi⟩ := Cond.selects_spec hsel
  cases hcls.symm.trans q1
  cases (State.methodFound?_of_named hnamed hy).symm.trans q2
  cases hnamed.symm.trans q3
  have hselP : selectMethod e.platform s.vm cellB.cls mk = .method mk := by rw [Launch.admits_selectMethod X.admits]; exact q4
  obtain ⟨vm₁, X₁, hstep₁⟩ := X.invokevirtualNest hexec hown hlink hnamed hmethM hstM hkP hkPi hy (a := b) (cell := cellB) hcell
    (fun z h => by rw [h] at hobj; cases hobj) hselP hmethM habM hkP hkPi (g := g) hg (argsL := argsL) (rest := rest) (hlen _ hsigM) hstack hdg
  rcases hK m meth c ⟨T.setVm vm₁, locs, cells, slots⟩ { g with stack := rest } (.invokevirtual index) mk (Value.ref b :: argsL).toArray X₁ hg hsize hdg hW (X₁.named hnamed) (hpre vm₁ X₁.warmed) with ⟨v, B, X', hpost, hsteps⟩ | ⟨q, B, X', hpost, hsteps⟩
  · exact Or.inl ⟨v, vm₁, B, X₁.warmed, X', hpost, fun target h => hstep₁ _ fun acts => by rw [doInvoke_state]; exact hsteps.trans h⟩
  · exact Or.inr ⟨q, vm₁, B, X₁.warmed, X', hpost, hstep₁ _ fun acts => by rw [doInvoke_state]; exact hsteps⟩
theorem vx_callSN (X : Stand p l e R s m args below meth c T locs cells slots) (hexec : p.tables.exec = Jvm.exec) {own : String} {index : Nat} {host : String} {y : MethodName} {bytes : ByteArray} {maxL : Nat} {ret : Option FieldType}
    (hown : s.vm.findClass own = some m.cls) (hlink : (Cond.methodLinkNest own index y host).before args s = true) (hstat : (Cond.static y).before args s = true) (hinit : (Cond.initialized y.cls).before args s = true)
    (hcode : (Cond.code y bytes maxL ret).before args s = true) (hy : y.cls ≠ "java/lang/invoke/MethodHandle" ∧ y.cls ≠ "java/lang/invoke/VarHandle")
    {W : Nat} {Pre : Pt → Array Value → Prop} {Post : Pt → Array Value → Option Value → Pt → Prop} {PostX : Pt → Array Value → Addr → Pt → Prop} (hK : vx_Back l R p e below s args y 3 W Pre Post PostX)
    {g : JFrame} (hg : g.method = m) (hsize : g.locals.size = c.maxLocals) {argsL rest : List Value} (hlen : ∀ sig, parseMethodDescriptor y.desc = some sig → argsL.length = sig.parameters.length)
    (hstack : g.stack = argsL.reverse ++ rest) (hW : 2 * g.monitorRoom + (rest.map fun v => v.category).sum ≤ W) (hdg : decode c.code g.pc = .ok (.invokestatic index, 3))
    (hpre : ∀ vm₁, s.WarmedH vm₁ → Pre ⟨T.setVm vm₁, locs, cells, slots⟩ argsL.toArray) :
    (∃ (v : Option Value) (vm₁ : Vm) (B : Pt), s.WarmedH vm₁ ∧ Stand p l e R s m args below meth c B.U B.locs B.cells B.slots ∧ Post ⟨T.setVm vm₁, locs, cells, slots⟩ argsL.toArray v B ∧
      ∀ target, Steps p.tables e below (B.U.setTop { g with pc := g.pc + 3, stack := v.toList ++ rest }) target → Steps p.tables e below (T.setTop g) target) ∨
    (∃ (q : Addr) (vm₁ : Vm) (B : Pt), s.WarmedH vm₁ ∧ Stand p l e R s m args below meth c B.U B.locs B.cells B.slots ∧ PostX ⟨T.setVm vm₁, locs, cells, slots⟩ argsL.toArray q B ∧
      Steps p.tables e below (T.setTop g) ((B.U.setTop { g with stack := rest }).pushFrame (.throwing q))) := by
  obtain ⟨mk, hnamed⟩ := Cond.code_named hcode
  obtain ⟨methM, cM, hmethM, -, -, -, -, -, -, hsigM⟩ := Cond.code_spec hnamed hcode
  have hstatic : methM.isStatic = true := Cond.static_spec hnamed hmethM hstat
  obtain ⟨kP, hkP, -⟩ := className_of_methodNamed hnamed
  have hinitP : kP.init = .initialized := Cond.initialized_spec (findClass_of_methodNamed hnamed) hkP hinit
  obtain ⟨vm₁, X₁, hstep₁⟩ := X.invokestaticNest hexec hown hlink hnamed hmethM hstatic hkP hinitP hy (g := g) hg (argsL := argsL) (rest := rest) (hlen _ hsigM) hstack hdg
  rcases hK m meth c ⟨T.setVm vm₁, locs, cells, slots⟩ { g with stack := rest } (.invokestatic index) mk argsL.toArray X₁ hg hsize hdg hW (X₁.named hnamed) (hpre vm₁ X₁.warmed) with ⟨v, B, X', hpost, hsteps⟩ | ⟨q, B, X', hpost, hsteps⟩
  · exact Or.inl ⟨v, vm₁, B, X₁.warmed, X', hpost, fun target h => hstep₁ _ fun acts => by rw [doInvoke_state]; exact hsteps.trans h⟩
  · exact Or.inr ⟨q, vm₁, B, X₁.warmed, X', hpost, hstep₁ _ fun acts => by rw [doInvoke_state]; exact hsteps⟩
theorem vx_runVN {y : MethodName} {bytes cc : ByteArray} {maxL nL mc ms n index : Nat} {ret : Option FieldType} {ws : List Cond} {rm : Room} {Pc : Array Value → State → Prop} {Qc : Array Value → State → Outcome → State → Prop} {XC : String → State → State → Prop} {free : Addr → Prop} {Ts : List Cond} {own C host : String} {b : Addr} {As rest : List Value} {g : JFrame}
    (S : CallFix p m c cc nL s args Ts own) (hM : vx_Met l y ws rm Pc Qc XC mc ms free) (cw : va_CN R s args own index y host bytes maxL ret ws rm mc ms n ∧ (Cond.instanceMethod y).before args s = true ∧ (Cond.selects C y y).before args s = true) (hp : PreV s H C b Pc As)
    (hg : g.method = m) (hn : As.length = n) (hsize : g.locals.size = nL) (hstack : g.stack = As.reverse ++ .ref b :: rest) (hW : 2 * g.monitorRoom + (rest.map fun v => v.category).sum ≤ 8) (hdg : decode cc g.pc = .ok (.invokevirtual index, 3)) (hf : cells + mc ≤ R.cells ∧ slots + ms ≤ R.slots) :
    vx_Run p l e R s m args below meth c H locs cells slots mc ms g rest (Qc (Value.ref b :: As).toArray) XC free := by
  obtain ⟨⟨⟨hrc, hrs, hfr, hlo, hws, hcw⟩, hcode, hini, hy, hlen, hl⟩, hx1, hx2⟩ := cw
  have hK : vx_Back l R p e below s args y 3 8 (PreOf R mc ms Pc) (PostOf Qc mc ms free) (vx_Post XC mc ms free) := vx_back (bytes := bytes) (maxL := maxL) (ret := ret) hM hp.1 hrc hrs hfr hlo hws hcw (fun a' U hW => word_at hW (Or.inl (by first | rfl | simp [Cond.onTables, Cond.keeps, Cond.steady])) hini)
  obtain ⟨hx, hb, hml, ho, -⟩ := S
  obtain ⟨-, ⟨cellB, hcB, hoB, hclB⟩, hPc⟩ := hp
  intro T hT X
  rcases vx_callVN X hx (C := C) (bytes := bytes) (maxL := maxL) (ret := ret) ho hl hx1 hx2 hcode hy hK (by rw [hT]; exact hcB) hoB hclB hg (hsize.trans hml.symm) (argsL := As) (rest := rest) (fun sig h => hn.trans (hlen sig h)) hstack hW (by rw [hb]; exact hdg)
    (fun vm₁ hW₁ => ⟨hf.1, hf.2, hPc (T.setVm vm₁) hT hW₁⟩) with ⟨v, vm₁, ⟨U', l2, c2, s2⟩, hW₁, X', ⟨g', mk, t, L, e1, e2, hq, h1, hL, h2, h3⟩, st⟩ | ⟨q, vm₁, ⟨U', l2, c2, s2⟩, hW₁, X', ⟨g', mk, t, L, E, ce, e1, e2, hq, hce, hcv, hcl, h1, hL, h2, h3⟩, st⟩
  · dsimp only [Pt.U, Pt.locs, Pt.cells, Pt.slots] at X' e1 e2 h1 h2 h3 st
    subst h1; subst h2; subst h3
    exact Or.inl ⟨v, (T.setVm vm₁).calling g' mk (Value.ref b :: As).toArray, t, U', L, hT, X', hL, e1, e2, hq, st⟩
  · dsimp only [Pt.U, Pt.locs, Pt.cells, Pt.slots] at X' e1 e2 h1 h2 h3 st hcl
    subst h1; subst h2; subst h3
    exact Or.inr ⟨q, (T.setVm vm₁).calling g' mk (Value.ref b :: As).toArray, t, U', L, E, ce, hT, X', hL, e1, e2, hq, hce, hcv, vx_cls hW₁ hcl, st⟩
theorem vx_runSN {y : MethodName} {bytes cc : ByteArray} {maxL nL mc ms n index : Nat} {ret : Option FieldType} {ws : List Cond} {rm : Room} {Pc : Array Value → State → Prop} {Qc : Array Value → State → Outcome → State → Prop} {XC : String → State → State → Prop} {free : Addr → Prop} {Ts : List Cond} {own host : String} {As rest : List Value} {g : JFrame}
    (S : CallFix p m c cc nL s args Ts own) (hM : vx_Met l y ws rm Pc Qc XC mc ms free) (cw : va_CN R s args own index y host bytes maxL ret ws rm mc ms n ∧ (Cond.static y).before args s = true ∧ True) (hp : PreS s H Pc As)
    (hg : g.method = m) (hn : As.length = n) (hsize : g.locals.size = nL) (hstack : g.stack = As.reverse ++ rest) (hW : 2 * g.monitorRoom + (rest.map fun v => v.category).sum ≤ 8) (hdg : decode cc g.pc = .ok (.invokestatic index, 3)) (hf : cells + mc ≤ R.cells ∧ slots + ms ≤ R.slots) :
    vx_Run p l e R s m args below meth c H locs cells slots mc ms g rest (Qc As.toArray) XC free := by
  obtain ⟨⟨⟨hrc, hrs, hfr, hlo, hws, hcw⟩, hcode, hini, hy, hlen, hl⟩, hx1, hx2⟩ := cw
  have hK : vx_Back l R p e below s args y 3 8 (PreOf R mc ms Pc) (PostOf Qc mc ms free) (vx_Post XC mc ms free) := vx_back (bytes := bytes) (maxL := maxL) (ret := ret) hM hp.1 hrc hrs hfr hlo hws hcw (fun a' U hW => word_at hW (Or.inl (by first | rfl | simp [Cond.onTables, Cond.keeps, Cond.steady])) hini)
  obtain ⟨hx, hb, hml, ho, -⟩ := S
  have hPc := hp.2
  intro T hT X
  rcases vx_callSN X hx (bytes := bytes) (maxL := maxL) (ret := ret) ho hl hx1 hini hcode hy hK hg (hsize.trans hml.symm) (argsL := As) (rest := rest) (fun sig h => hn.trans (hlen sig h)) hstack hW (by rw [hb]; exact hdg)
    (fun vm₁ hW₁ => ⟨hf.1, hf.2, hPc (T.setVm vm₁) hT hW₁⟩) with ⟨v, vm₁, ⟨U', l2, c2, s2⟩, hW₁, X', ⟨g', mk, t, L, e1, e2, hq, h1, hL, h2, h3⟩, st⟩ | ⟨q, vm₁, ⟨U', l2, c2, s2⟩, hW₁, X', ⟨g', mk, t, L, E, ce, e1, e2, hq, hce, hcv, hcl, h1, hL, h2, h3⟩, st⟩
  · dsimp only [Pt.U, Pt.locs, Pt.cells, Pt.slots] at X' e1 e2 h1 h2 h3 st
    subst h1; subst h2; subst h3
    exact Or.inl ⟨v, (T.setVm vm₁).calling g' mk As.toArray, t, U', L, hT, X', hL, e1, e2, hq, st⟩
  · dsimp only [Pt.U, Pt.locs, Pt.cells, Pt.slots] at X' e1 e2 h1 h2 h3 st hcl
    subst h1; subst h2; subst h3
    exact Or.inr ⟨q, (T.setVm vm₁).calling g' mk As.toArray, t, U', L, E, ce, hT, X', hL, e1, e2, hq, hce, hcv, vx_cls hW₁ hcl, st⟩
end
/-! ===== END ===== -/
/-! ===== BEGIN calls by an interface of methods that may throw (vx_callIF, vx_runF follow va_callIF, va_runF of this kit) ===== -/
section
variable {p : Program} {l : Launch} {e : Env} {R : Room} {s : State} {m : MethodId} {args : Array Value} {below : List Frame} {meth : Method} {c : Code} {H : Heap} {locs : List Loc} {cells slots : Nat} {Q : State → Prop}
variable {mc ms : Nat} {free : Addr → Prop} {A0 A1 : Nat → Prop} {H0 : Heap} {a : Array Value} {pc : Nat} {ls : Array Slot} {st0 rest : List Value}
def vx_Run5 (p : Program) (l : Launch) (e : Env) (R : Room) (s : State) (m : MethodId) (args : Array Value) (below : List Frame) (meth : Method) (c : Code) (H : Heap) (locs : List Loc) (cells slots mc ms : Nat) (g : JFrame) (rest : List Value) (Qa : State → Outcome → State → Prop) (XC : String → State → State → Prop) (free : Addr → Prop) : Prop :=
  ∀ T : State, T.heap = H → Stand p l e R s m args below meth c T locs cells slots →
    (∃ (v : Option Value) (st₀ t T' : State) (L : List Loc), st₀.heap = H ∧ Stand p l e R s m args below meth c T' (locs ++ L) (cells + mc) (slots + ms) ∧ (∀ q ∈ L, free q.base) ∧ T'.heap = t.heap ∧ T'.vm = t.vm ∧ Qa st₀ (.returned v) t ∧
      Goes p e below T g T' { g with pc := g.pc + 5, stack := v.toList ++ rest }) ∨
    (∃ (q : Addr) (st₀ t T' : State) (L : List Loc) (E : String) (ce : Cell), st₀.heap = H ∧ Stand p l e R s m args below meth c T' (locs ++ L) (cells + mc) (slots + ms) ∧ (∀ z ∈ L, free z.base) ∧ T'.heap = t.heap ∧ T'.vm = t.vm ∧ XC E st₀ t ∧ t.heap[q]? = some ce ∧ ce.vm = .none ∧ s.vm.findClass E = some ce.cls ∧
      Steps p.tables e below (T.setTop g) ((T'.setTop { g with stack := rest }).pushFrame (.throwing q)))
theorem vx_callIF {T : State} (X : Stand p l e R s m args below meth c T locs cells slots) (hexec : p.tables.exec = Jvm.exec) {own C : String} {index count : Nat} {x y : MethodName} {bytes : ByteArray} {maxL : Nat} {ret : Option FieldType}
    (hown : s.vm.findClass own = some m.cls) (hlink : (Cond.methodLink own index x).before args s = true) (hdecl : (Cond.declares x).before args s = true) (hface : (Cond.interfaceMethod x.cls x.cls x.name x.desc).before args s = true)
    (hsel : (Cond.selects C x y).before args s = true) (hinst : (Cond.instanceMethod y).before args s = true) (hpub : (Cond.publicMethod y).before args s = true) (hunh : (Cond.unhidden C x.name x.desc).before args s = true)
    (hcast : (Cond.castable C x.cls).before args s = true) (hcode : (Cond.code y bytes maxL ret).before args s = true) (hx : x.cls ≠ "java/lang/invoke/MethodHandle" ∧ x.cls ≠ "java/lang/invoke/VarHandle")
    {W9 : Nat} {Pre : Pt → Array Value → Prop} {Post : Pt → Array Value → Option Value → Pt → Prop} {PostX : Pt → Array Value → Addr → Pt → Prop} (hK : vx_Back l R p e below s args y 5 W9 Pre Post PostX)
    {b : Addr} {cellB : Cell} {kB : Class} (hcell : T.heap[b]? = some cellB) (hobj : cellB.vm.isStatics = false) (hcls : s.vm.findClass C = some cellB.cls) (hkB : s.vm.classes[cellB.cls]? = some kB)
    {g : JFrame} (hg : g.method = m) (hsize : g.locals.size = c.maxLocals) {argsL rest : List Value} (hlen : ∀ sig, parseMethodDescriptor x.desc = some sig → argsL.length = sig.parameters.length)
    (hstack : g.stack = argsL.reverse ++ .ref b :: rest) (hW : 2 * g.monitorRoom + (rest.map fun v => v.category).sum ≤ W9) (hdg : decode c.code g.pc = .ok (.invokeinterface index count, 5))
    (hpre : ∀ vm₁, s.WarmedH vm₁ → Pre ⟨T.setVm vm₁, locs, cells, slots⟩ (Value.ref b :: argsL).toArray) :
    (∃ (v : Option Value) (vm₁ : Vm) (B : Pt), s.WarmedH vm₁ ∧ Stand p l e R s m args below meth c B.U B.locs B.cells B.slots ∧ Post ⟨T.setVm vm₁, locs, cells, slots⟩ (Value.ref b :: argsL).toArray v B ∧
      ∀ target, Steps p.tables e below (B.U.setTop { g with pc := g.pc + 5, stack := v.toList ++ rest }) target → Steps p.tables e below (T.setTop g) target) ∨
    (∃ (q : Addr) (vm₁ : Vm) (B : Pt), s.WarmedH vm₁ ∧ Stand p l e R s m args below meth c B.U B.locs B.cells B.slots ∧ PostX ⟨T.setVm vm₁, locs, cells, slots⟩ (Value.ref b :: argsL).toArray q B ∧
      Steps p.tables e below (T.setTop g) ((B.U.setTop { g with stack := rest }).pushFrame (.throwing q))) := by
  obtain ⟨r0, r, hn, hrm, hstR, hsigR⟩ := Cond.declares_spec hdecl
  obtain ⟨cL, kL, r1, hcL, hkL, hiL, hfoundL, hn1⟩ := Cond.interfaceMethod_spec hface
  cases hn.symm.trans hn1
  have hr0cls : r0.cls = cL := Option.some.inj ((findClass_of_methodNamed hn).symm.trans hcL)
  obtain ⟨hnameR, hdescR⟩ := name_of_methodNamed hn hrm
  obtain ⟨mk, methM, hnamed, hmethM, -, habM⟩ := Cond.instanceMethod_spec hinst
  obtain ⟨c2, r2, m2, q1, q2, q3, q4, -⟩ := Cond.selects_spec hsel
  cases hcls.symm.trans q1
  cases hfoundL.symm.trans q2
  cases hnamed.symm.trans q3
  have hselP : selectMethod e.platform s.vm cellB.cls r0 = .method mk := by rw [Launch.admits_selectMethod X.admits]; exact q4
  have hpubM : hasFlag methM.accessFlags Acc.public_ = true := Cond.publicMethod_spec hnamed hmethM hpub
  have hway : ((cellB.cls :: s.vm.superclasses cellB.cls).any fun k => (declaredIn s.vm r.name r.desc k).any fun (_, z) => z.isPrivate || z.isStatic) = false := by
    rw [hnameR, hdescR]; exact Cond.unhidden_spec hcls hunh
  obtain ⟨c3, t3, w1, w2, w3⟩ := Cond.castable_spec hcast
  cases hcls.symm.trans w1
  cases hcL.symm.trans w2
  obtain ⟨vm₁, X₁, hstep₁⟩ := X.invokeinterface hexec hown hlink hn hrm hstR (by rw [hr0cls]; exact hkL) hiL hx (a := b) (cell := cellB) (kcell := kB) hcell
    (fun z h => by rw [h] at hobj; cases hobj) hkB (by rw [hr0cls]; exact w3) hselP hmethM hway hpubM habM (g := g) hg (argsL := argsL) (rest := rest) (hlen _ hsigR) hstack hdg
  rcases hK m meth c ⟨T.setVm vm₁, locs, cells, slots⟩ { g with stack := rest } (.invokeinterface index count) mk (Value.ref b :: argsL).toArray X₁ hg hsize hdg hW (X₁.named hnamed) (hpre vm₁ X₁.warmed) with ⟨v, B, X', hpost, hsteps⟩ | ⟨q, B, X', hpost, hsteps⟩
  · exact Or.inl ⟨v, vm₁, B, X₁.warmed, X', hpost, fun target h => hstep₁ _ fun acts => by rw [doInvoke_state]; exact hsteps.trans h⟩
  · exact Or.inr ⟨q, vm₁, B, X₁.warmed, X', hpost, hstep₁ _ fun acts => by rw [doInvoke_state]; exact hsteps⟩
theorem vx_runF {x y : MethodName} {bytes cc : ByteArray} {maxL nL mc ms n index count : Nat} {ret : Option FieldType} {ws : List Cond} {rm : Room} {Pc : Array Value → State → Prop} {Qc : Array Value → State → Outcome → State → Prop} {XC : String → State → State → Prop} {free : Addr → Prop} {Ts : List Cond} {own C : String} {cC : ClassId} {b : Addr} {As rest : List Value} {g : JFrame}
    (hat : ClassAt s C cC) (S : CallFix p m c cc nL s args Ts own) (hM : vx_Met l y ws rm Pc Qc XC mc ms free) (cw : va_CI R s args own C index x y bytes maxL ret ws rm mc ms n) (hp : PreV s H C b Pc As)
    (hg : g.method = m) (hn : As.length = n) (hsize : g.locals.size = nL) (hstack : g.stack = As.reverse ++ .ref b :: rest) (hW : 2 * g.monitorRoom + (rest.map fun v => v.category).sum ≤ 8) (hdg : decode cc g.pc = .ok (.invokeinterface index count, 5)) (hf : cells + mc ≤ R.cells ∧ slots + ms ≤ R.slots) :
    vx_Run5 p l e R s m args below meth c H locs cells slots mc ms g rest (Qc (Value.ref b :: As).toArray) XC free := by
  obtain ⟨hrc, hrs, hfr, hlo, hws, hcw⟩ := cw.back
  have hini := cw.init
  have hK : vx_Back l R p e below s args y 5 8 (PreOf R mc ms Pc) (PostOf Qc mc ms free) (vx_Post XC mc ms free) := vx_back (bytes := bytes) (maxL := maxL) (ret := ret) hM hp.1 hrc hrs hfr hlo hws hcw (fun a' U hW => word_at hW (Or.inl (by first | rfl | simp [Cond.onTables, Cond.keeps, Cond.steady])) hini)
  obtain ⟨hx, hb, hml, ho, -⟩ := S
  obtain ⟨-, ⟨cellB, hcB, hoB, hclB⟩, hPc⟩ := hp
  obtain ⟨hfc, kB, hkB, -⟩ := hat
  cases hfc.symm.trans hclB
  intro T hT X
  rcases vx_callIF X hx (C := C) (bytes := bytes) (maxL := maxL) (ret := ret) ho cw.link cw.decl cw.face cw.sel cw.inst cw.pub cw.unh cw.cast cw.code cw.notMH hK (by rw [hT]; exact hcB) hoB hclB hkB hg (hsize.trans hml.symm) (argsL := As) (rest := rest) (fun sig h => hn.trans (cw.len sig h)) hstack hW (by rw [hb]; exact hdg)
    (fun vm₁ hW₁ => ⟨hf.1, hf.2, hPc (T.setVm vm₁) hT hW₁⟩) with ⟨v, vm₁, ⟨U', l2, c2, s2⟩, hW₁, X', ⟨g', mk, t, L, e1, e2, hq, h1, hL, h2, h3⟩, st⟩ | ⟨q, vm₁, ⟨U', l2, c2, s2⟩, hW₁, X', ⟨g', mk, t, L, E, ce, e1, e2, hq, hce, hcv, hcl, h1, hL, h2, h3⟩, st⟩
  · dsimp only [Pt.U, Pt.locs, Pt.cells, Pt.slots] at X' e1 e2 h1 h2 h3 st
    subst h1; subst h2; subst h3
    exact Or.inl ⟨v, (T.setVm vm₁).calling g' mk (Value.ref b :: As).toArray, t, U', L, hT, X', hL, e1, e2, hq, st⟩
  · dsimp only [Pt.U, Pt.locs, Pt.cells, Pt.slots] at X' e1 e2 h1 h2 h3 st hcl
    subst h1; subst h2; subst h3
    exact Or.inr ⟨q, (T.setVm vm₁).calling g' mk (Value.ref b :: As).toArray, t, U', L, E, ce, hT, X', hL, e1, e2, hq, hce, hcv, vx_cls hW₁ hcl, st⟩
theorem vx_callFv {S SX : Type} {post : S → Prop} {px : SX → Prop} {B : S → State → Prop} {BX : String → SX → State → Prop} {AX : Nat → Prop} (hr : vx_Run5 p l e R s m args below meth c H locs cells slots mc ms (F0 m pc ls st0) rest (va_Qv post B A1 a) (vx_X px BX AX) free) (hS : va_S A0 H0 H locs) (hA : ∀ q, q < H.size → A1 q → A0 q) (hf : ∀ q, free q → A0 q) (hAX : ∀ q, q < H.size → AX q → A0 q)
    (kx : ∀ (E : String) (ce : Cell) (q9 : Addr) (u : SX) (t : State) (H1 : Heap) (locs1 : List Loc), t.heap = H1 → s.vm.Alike t.vm → px u → BX E u t → H.size ≤ H1.size → (∀ q : Nat, q < H.size → ¬ AX q → H1[q]? = H[q]?) → va_S A0 H0 H1 locs1 → H1[q9]? = some ce → ce.vm = .none → s.vm.findClass E = some ce.cls → vx_W p l e R s m args below meth c H1 locs1 (cells + mc) (slots + ms) Q (F0 m pc ls rest) q9)
    (kk : ∀ (u : S) (t : State) (H1 : Heap) (locs1 : List Loc), t.heap = H1 → s.vm.Alike t.vm → post u → B u t → H.size ≤ H1.size → (∀ q : Nat, q < H.size → ¬ A1 q → H1[q]? = H[q]?) → va_S A0 H0 H1 locs1 → W p l e R s m args below meth c H1 locs1 (cells + mc) (slots + ms) Q (F0 m (pc + 5) ls (rest))) : W p l e R s m args below meth c H locs cells slots Q (F0 m pc ls st0) := by
  intro T hT X
  rcases hr T hT X with ⟨v, st₀, t, T', L, h0, X', hL, e1, e2, ⟨⟨u, hv, hp, hb⟩, hF⟩, st⟩ | ⟨q, st₀, t, T', L, E, ce, h0, X', hL, e1, e2, ⟨u, hp, hb, hF⟩, hce, hcv, hcl, st⟩
  · cases hv
    obtain ⟨k1, k2, k3⟩ := vx_keep h0 e1 hS hA hf hL hF
    obtain ⟨t2, a1, b1⟩ := kk u t T'.heap (locs ++ L) e1.symm (by rw [← e2]; exact X'.warmed.alike) hp hb k1 k2 k3 T' rfl X'
    exact ⟨t2, st t2 a1, b1⟩
  · obtain ⟨k1, k2, k3⟩ := vx_keep h0 e1 hS hAX hf hL hF
    obtain ⟨t2, a1, b1⟩ := kx E ce q u t T'.heap (locs ++ L) e1.symm (by rw [← e2]; exact X'.warmed.alike) hp hb k1 k2 k3 (by rw [e1]; exact hce) hcv hcl T' rfl X'
    exact ⟨t2, st.trans a1, b1⟩
theorem vx_callFi {S SX : Type} {post : Int32 → S → Prop} {px : SX → Prop} {B : S → State → Prop} {BX : String → SX → State → Prop} {AX : Nat → Prop} (hr : vx_Run5 p l e R s m args below meth c H locs cells slots mc ms (F0 m pc ls st0) rest (va_Qi post B A1 a) (vx_X px BX AX) free) (hS : va_S A0 H0 H locs) (hA : ∀ q, q < H.size → A1 q → A0 q) (hf : ∀ q, free q → A0 q) (hAX : ∀ q, q < H.size → AX q → A0 q)
    (kx : ∀ (E : String) (ce : Cell) (q9 : Addr) (u : SX) (t : State) (H1 : Heap) (locs1 : List Loc), t.heap = H1 → s.vm.Alike t.vm → px u → BX E u t → H.size ≤ H1.size → (∀ q : Nat, q < H.size → ¬ AX q → H1[q]? = H[q]?) → va_S A0 H0 H1 locs1 → H1[q9]? = some ce → ce.vm = .none → s.vm.findClass E = some ce.cls → vx_W p l e R s m args below meth c H1 locs1 (cells + mc) (slots + ms) Q (F0 m pc ls rest) q9)
    (kk : ∀ (r : Int32) (u : S) (t : State) (H1 : Heap) (locs1 : List Loc), t.heap = H1 → s.vm.Alike t.vm → post r u → B u t → H.size ≤ H1.size → (∀ q : Nat, q < H.size → ¬ A1 q → H1[q]? = H[q]?) → va_S A0 H0 H1 locs1 → W p l e R s m args below meth c H1 locs1 (cells + mc) (slots + ms) Q (F0 m (pc + 5) ls (.int r :: rest))) : W p l e R s m args below meth c H locs cells slots Q (F0 m pc ls st0) := by
  intro T hT X
  rcases hr T hT X with ⟨v, st₀, t, T', L, h0, X', hL, e1, e2, ⟨⟨r, u, hv, hp, hb⟩, hF⟩, st⟩ | ⟨q, st₀, t, T', L, E, ce, h0, X', hL, e1, e2, ⟨u, hp, hb, hF⟩, hce, hcv, hcl, st⟩
  · cases hv
    obtain ⟨k1, k2, k3⟩ := vx_keep h0 e1 hS hA hf hL hF
    obtain ⟨t2, a1, b1⟩ := kk r u t T'.heap (locs ++ L) e1.symm (by rw [← e2]; exact X'.warmed.alike) hp hb k1 k2 k3 T' rfl X'
    exact ⟨t2, st t2 a1, b1⟩
  · obtain ⟨k1, k2, k3⟩ := vx_keep h0 e1 hS hAX hf hL hF
    obtain ⟨t2, a1, b1⟩ := kx E ce q u t T'.heap (locs ++ L) e1.symm (by rw [← e2]; exact X'.warmed.alike) hp hb k1 k2 k3 (by rw [e1]; exact hce) hcv hcl T' rfl X'
    exact ⟨t2, st.trans a1, b1⟩
theorem vx_callFl {S SX : Type} {post : Int64 → S → Prop} {px : SX → Prop} {B : S → State → Prop} {BX : String → SX → State → Prop} {AX : Nat → Prop} (hr : vx_Run5 p l e R s m args below meth c H locs cells slots mc ms (F0 m pc ls st0) rest (va_Ql post B A1 a) (vx_X px BX AX) free) (hS : va_S A0 H0 H locs) (hA : ∀ q, q < H.size → A1 q → A0 q) (hf : ∀ q, free q → A0 q) (hAX : ∀ q, q < H.size → AX q → A0 q)
    (kx : ∀ (E : String) (ce : Cell) (q9 : Addr) (u : SX) (t : State) (H1 : Heap) (locs1 : List Loc), t.heap = H1 → s.vm.Alike t.vm → px u → BX E u t → H.size ≤ H1.size → (∀ q : Nat, q < H.size → ¬ AX q → H1[q]? = H[q]?) → va_S A0 H0 H1 locs1 → H1[q9]? = some ce → ce.vm = .none → s.vm.findClass E = some ce.cls → vx_W p l e R s m args below meth c H1 locs1 (cells + mc) (slots + ms) Q (F0 m pc ls rest) q9)
    (kk : ∀ (r : Int64) (u : S) (t : State) (H1 : Heap) (locs1 : List Loc), t.heap = H1 → s.vm.Alike t.vm → post r u → B u t → H.size ≤ H1.size → (∀ q : Nat, q < H.size → ¬ A1 q → H1[q]? = H[q]?) → va_S A0 H0 H1 locs1 → W p l e R s m args below meth c H1 locs1 (cells + mc) (slots + ms) Q (F0 m (pc + 5) ls (.long r :: rest))) : W p l e R s m args below meth c H locs cells slots Q (F0 m pc ls st0) := by
  intro T hT X
  rcases hr T hT X with ⟨v, st₀, t, T', L, h0, X', hL, e1, e2, ⟨⟨r, u, hv, hp, hb⟩, hF⟩, st⟩ | ⟨q, st₀, t, T', L, E, ce, h0, X', hL, e1, e2, ⟨u, hp, hb, hF⟩, hce, hcv, hcl, st⟩
  · cases hv
    obtain ⟨k1, k2, k3⟩ := vx_keep h0 e1 hS hA hf hL hF
    obtain ⟨t2, a1, b1⟩ := kk r u t T'.heap (locs ++ L) e1.symm (by rw [← e2]; exact X'.warmed.alike) hp hb k1 k2 k3 T' rfl X'
    exact ⟨t2, st t2 a1, b1⟩
  · obtain ⟨k1, k2, k3⟩ := vx_keep h0 e1 hS hAX hf hL hF
    obtain ⟨t2, a1, b1⟩ := kx E ce q u t T'.heap (locs ++ L) e1.symm (by rw [← e2]; exact X'.warmed.alike) hp hb k1 k2 k3 (by rw [e1]; exact hce) hcv hcl T' rfl X'
    exact ⟨t2, st.trans a1, b1⟩
theorem vx_callFf {S SX : Type} {post : UInt32 → S → Prop} {px : SX → Prop} {B : S → State → Prop} {BX : String → SX → State → Prop} {AX : Nat → Prop} (hr : vx_Run5 p l e R s m args below meth c H locs cells slots mc ms (F0 m pc ls st0) rest (va_Qf post B A1 a) (vx_X px BX AX) free) (hS : va_S A0 H0 H locs) (hA : ∀ q, q < H.size → A1 q → A0 q) (hf : ∀ q, free q → A0 q) (hAX : ∀ q, q < H.size → AX q → A0 q)
    (kx : ∀ (E : String) (ce : Cell) (q9 : Addr) (u : SX) (t : State) (H1 : Heap) (locs1 : List Loc), t.heap = H1 → s.vm.Alike t.vm → px u → BX E u t → H.size ≤ H1.size → (∀ q : Nat, q < H.size → ¬ AX q → H1[q]? = H[q]?) → va_S A0 H0 H1 locs1 → H1[q9]? = some ce → ce.vm = .none → s.vm.findClass E = some ce.cls → vx_W p l e R s m args below meth c H1 locs1 (cells + mc) (slots + ms) Q (F0 m pc ls rest) q9)
    (kk : ∀ (r : UInt32) (u : S) (t : State) (H1 : Heap) (locs1 : List Loc), t.heap = H1 → s.vm.Alike t.vm → post r u → B u t → H.size ≤ H1.size → (∀ q : Nat, q < H.size → ¬ A1 q → H1[q]? = H[q]?) → va_S A0 H0 H1 locs1 → W p l e R s m args below meth c H1 locs1 (cells + mc) (slots + ms) Q (F0 m (pc + 5) ls (.float r :: rest))) : W p l e R s m args below meth c H locs cells slots Q (F0 m pc ls st0) := by
  intro T hT X
  rcases hr T hT X with ⟨v, st₀, t, T', L, h0, X', hL, e1, e2, ⟨⟨r, u, hv, hp, hb⟩, hF⟩, st⟩ | ⟨q, st₀, t, T', L, E, ce, h0, X', hL, e1, e2, ⟨u, hp, hb, hF⟩, hce, hcv, hcl, st⟩
  · cases hv
    obtain ⟨k1, k2, k3⟩ := vx_keep h0 e1 hS hA hf hL hF
    obtain ⟨t2, a1, b1⟩ := kk r u t T'.heap (locs ++ L) e1.symm (by rw [← e2]; exact X'.warmed.alike) hp hb k1 k2 k3 T' rfl X'
    exact ⟨t2, st t2 a1, b1⟩
  · obtain ⟨k1, k2, k3⟩ := vx_keep h0 e1 hS hAX hf hL hF
    obtain ⟨t2, a1, b1⟩ := kx E ce q u t T'.heap (locs ++ L) e1.symm (by rw [← e2]; exact X'.warmed.alike) hp hb k1 k2 k3 (by rw [e1]; exact hce) hcv hcl T' rfl X'
    exact ⟨t2, st.trans a1, b1⟩
theorem vx_callFd {S SX : Type} {post : UInt64 → S → Prop} {px : SX → Prop} {B : S → State → Prop} {BX : String → SX → State → Prop} {AX : Nat → Prop} (hr : vx_Run5 p l e R s m args below meth c H locs cells slots mc ms (F0 m pc ls st0) rest (va_Qd post B A1 a) (vx_X px BX AX) free) (hS : va_S A0 H0 H locs) (hA : ∀ q, q < H.size → A1 q → A0 q) (hf : ∀ q, free q → A0 q) (hAX : ∀ q, q < H.size → AX q → A0 q)
    (kx : ∀ (E : String) (ce : Cell) (q9 : Addr) (u : SX) (t : State) (H1 : Heap) (locs1 : List Loc), t.heap = H1 → s.vm.Alike t.vm → px u → BX E u t → H.size ≤ H1.size → (∀ q : Nat, q < H.size → ¬ AX q → H1[q]? = H[q]?) → va_S A0 H0 H1 locs1 → H1[q9]? = some ce → ce.vm = .none → s.vm.findClass E = some ce.cls → vx_W p l e R s m args below meth c H1 locs1 (cells + mc) (slots + ms) Q (F0 m pc ls rest) q9)
    (kk : ∀ (r : UInt64) (u : S) (t : State) (H1 : Heap) (locs1 : List Loc), t.heap = H1 → s.vm.Alike t.vm → post r u → B u t → H.size ≤ H1.size → (∀ q : Nat, q < H.size → ¬ A1 q → H1[q]? = H[q]?) → va_S A0 H0 H1 locs1 → W p l e R s m args below meth c H1 locs1 (cells + mc) (slots + ms) Q (F0 m (pc + 5) ls (.double r :: rest))) : W p l e R s m args below meth c H locs cells slots Q (F0 m pc ls st0) := by
  intro T hT X
  rcases hr T hT X with ⟨v, st₀, t, T', L, h0, X', hL, e1, e2, ⟨⟨r, u, hv, hp, hb⟩, hF⟩, st⟩ | ⟨q, st₀, t, T', L, E, ce, h0, X', hL, e1, e2, ⟨u, hp, hb, hF⟩, hce, hcv, hcl, st⟩
  · cases hv
    obtain ⟨k1, k2, k3⟩ := vx_keep h0 e1 hS hA hf hL hF
    obtain ⟨t2, a1, b1⟩ := kk r u t T'.heap (locs ++ L) e1.symm (by rw [← e2]; exact X'.warmed.alike) hp hb k1 k2 k3 T' rfl X'
    exact ⟨t2, st t2 a1, b1⟩
  · obtain ⟨k1, k2, k3⟩ := vx_keep h0 e1 hS hAX hf hL hF
    obtain ⟨t2, a1, b1⟩ := kx E ce q u t T'.heap (locs ++ L) e1.symm (by rw [← e2]; exact X'.warmed.alike) hp hb k1 k2 k3 (by rw [e1]; exact hce) hcv hcl T' rfl X'
    exact ⟨t2, st.trans a1, b1⟩
end
/-! ===== END ===== -/
/-! ===== BEGIN by an interface, a method with a table of its own that may throw (follows va_callIFW, va_runFW) ===== -/
section
variable {p : Program} {l : Launch} {e : Env} {R : Room} {s : State} {m : MethodId} {args : Array Value} {below : List Frame} {meth : Method} {c : Code} {H : Heap} {locs : List Loc} {cells slots : Nat}
theorem vx_callIFW {T : State} (X : Stand p l e R s m args below meth c T locs cells slots) (hexec : p.tables.exec = Jvm.exec) {own C : String} {index count : Nat} {x y : MethodName} {bytes : ByteArray} {maxL : Nat} {ret : Option FieldType} {hh : List (Nat × Nat × Nat × Nat)}
    (hown : s.vm.findClass own = some m.cls) (hlink : (Cond.methodLink own index x).before args s = true) (hdecl : (Cond.declares x).before args s = true) (hface : (Cond.interfaceMethod x.cls x.cls x.name x.desc).before args s = true)
    (hsel : (Cond.selects C x y).before args s = true) (hinst : (Cond.instanceMethod y).before args s = true) (hpub : (Cond.publicMethod y).before args s = true) (hunh : (Cond.unhidden C x.name x.desc).before args s = true)
    (hcast : (Cond.castable C x.cls).before args s = true) (hcode : (Cond.codeWith y bytes maxL ret hh).before args s = true) (hx : x.cls ≠ "java/lang/invoke/MethodHandle" ∧ x.cls ≠ "java/lang/invoke/VarHandle")
    {W : Nat} {Pre : Pt → Array Value → Prop} {Post : Pt → Array Value → Option Value → Pt → Prop} {PostX : Pt → Array Value → Addr → Pt → Prop} (hK : vx_Back l R p e below s args y 5 W Pre Post PostX)
    {b : Addr} {cellB : Cell} {kB : Class} (hcell : T.heap[b]? = some cellB) (hobj : cellB.vm.isStatics = false) (hcls : s.vm.findClass C = some cellB.cls) (hkB : s.vm.classes[cellB.cls]? = some kB)
    {g : JFrame} (hg : g.method = m) (hsize : g.locals.size = c.maxLocals) {argsL rest : List Value} (hlen : ∀ sig, parseMethodDescriptor x.desc = some sig → argsL.length = sig.parameters.length)
    (hstack : g.stack = argsL.reverse ++ .ref b :: rest) (hW : 2 * g.monitorRoom + (rest.map fun v => v.category).sum ≤ W) (hdg : decode c.code g.pc = .ok (.invokeinterface index count, 5))
    (hpre : ∀ vm₁, s.WarmedH vm₁ → Pre ⟨T.setVm vm₁, locs, cells, slots⟩ (Value.ref b :: argsL).toArray) :
    (∃ (v : Option Value) (vm₁ : Vm) (B : Pt), s.WarmedH vm₁ ∧ Stand p l e R s m args below meth c B.U B.locs B.cells B.slots ∧ Post ⟨T.setVm vm₁, locs, cells, slots⟩ (Value.ref b :: argsL).toArray v B ∧
      ∀ target, Steps p.tables e below (B.U.setTop { g with pc := g.pc + 5, stack := v.toList ++ rest }) target → Steps p.tables e below (T.setTop g) target) ∨
    (∃ (q : Addr) (vm₁ : Vm) (B : Pt), s.WarmedH vm₁ ∧ Stand p l e R s m args below meth c B.U B.locs B.cells B.slots ∧ PostX ⟨T.setVm vm₁, locs, cells, slots⟩ (Value.ref b :: argsL).toArray q B ∧
      Steps p.tables e below (T.setTop g) ((B.U.setTop { g with stack := rest }).pushFrame (.throwing q))) := by
  obtain ⟨r0, r, hn, hrm, hstR, hsigR⟩ := Cond.declares_spec hdecl
  obtain ⟨cL, kL, r1, hcL, hkL, hiL, hfoundL, hn1⟩ := Cond.interfaceMethod_spec hface
  cases hn.symm.trans hn1
  have hr0cls : r0.cls = cL := Option.some.inj ((findClass_of_methodNamed hn).symm.trans hcL)
  obtain ⟨hnameR, hdescR⟩ := name_of_methodNamed hn hrm
  obtain ⟨mk, methM, hnamed, hmethM, -, habM⟩ := Cond.instanceMethod_spec hinst
  obtain ⟨c2, r2, m2, q1, q2, q3, q4, -⟩ := Cond.selects_spec hsel
  cases hcls.symm.trans q1
  cases hfoundL.symm.trans q2
  cases hnamed.symm.trans q3
  have hselP : selectMethod e.platform s.vm cellB.cls r0 = .method mk := by rw [Launch.admits_selectMethod X.admits]; exact q4
  have hpubM : hasFlag methM.accessFlags Acc.public_ = true := Cond.publicMethod_spec hnamed hmethM hpub
  have hway : ((cellB.cls :: s.vm.superclasses cellB.cls).any fun k => (declaredIn s.vm r.name r.desc k).any fun (_, z) => z.isPrivate || z.isStatic) = false := by
    rw [hnameR, hdescR]; exact Cond.unhidden_spec hcls hunh
  obtain ⟨c3, t3, w1, w2, w3⟩ := Cond.castable_spec hcast
  cases hcls.symm.trans w1
  cases hcL.symm.trans w2
  obtain ⟨vm₁, X₁, hstep₁⟩ := X.invokeinterface hexec hown hlink hn hrm hstR (by rw [hr0cls]; exact hkL) hiL hx (a := b) (cell := cellB) (kcell := kB) hcell
    (fun z h => by rw [h] at hobj; cases hobj) hkB (by rw [hr0cls]; exact w3) hselP hmethM hway hpubM habM (g := g) hg (argsL := argsL) (rest := rest) (hlen _ hsigR) hstack hdg
  rcases hK m meth c ⟨T.setVm vm₁, locs, cells, slots⟩ { g with stack := rest } (.invokeinterface index count) mk (Value.ref b :: argsL).toArray X₁ hg hsize hdg hW (X₁.named hnamed) (hpre vm₁ X₁.warmed) with ⟨v, B, X', hpost, hsteps⟩ | ⟨q, B, X', hpost, hsteps⟩
  · exact Or.inl ⟨v, vm₁, B, X₁.warmed, X', hpost, fun target h => hstep₁ _ fun acts => by rw [doInvoke_state]; exact hsteps.trans h⟩
  · exact Or.inr ⟨q, vm₁, B, X₁.warmed, X', hpost, hstep₁ _ fun acts => by rw [doInvoke_state]; exact hsteps⟩
theorem vx_runFW {x y : MethodName} {bytes cc : ByteArray} {maxL nL mc ms n index count : Nat} {ret : Option FieldType} {hh : List (Nat × Nat × Nat × Nat)} {ws : List Cond} {rm : Room} {Pc : Array Value → State → Prop} {Qc : Array Value → State → Outcome → State → Prop} {XC : String → State → State → Prop} {free : Addr → Prop} {Ts : List Cond} {own C : String} {cC : ClassId} {b : Addr} {As rest : List Value} {g : JFrame}
    (hat : ClassAt s C cC) (S : CallFix p m c cc nL s args Ts own) (hM : vx_Met l y ws rm Pc Qc XC mc ms free) (cw : va_CIW R s args own C index x y bytes maxL ret hh ws rm mc ms n) (hp : PreV s H C b Pc As)
    (hg : g.method = m) (hn : As.length = n) (hsize : g.locals.size = nL) (hstack : g.stack = As.reverse ++ .ref b :: rest) (hW : 2 * g.monitorRoom + (rest.map fun v => v.category).sum ≤ 8) (hdg : decode cc g.pc = .ok (.invokeinterface index count, 5)) (hf : cells + mc ≤ R.cells ∧ slots + ms ≤ R.slots) :
    vx_Run5 p l e R s m args below meth c H locs cells slots mc ms g rest (Qc (Value.ref b :: As).toArray) XC free := by
  obtain ⟨hrc, hrs, hfr, hlo, hws, hcw⟩ := cw.back
  have hini := cw.init
  have hK : vx_Back l R p e below s args y 5 8 (PreOf R mc ms Pc) (PostOf Qc mc ms free) (vx_Post XC mc ms free) := vx_backW (hh := hh) (bytes := bytes) (maxL := maxL) (ret := ret) hM hp.1 hrc hrs hfr hlo hws hcw (fun a' U hW => word_at hW (Or.inl (by first | rfl | simp [Cond.onTables, Cond.keeps, Cond.steady])) hini)
  obtain ⟨hx, hb, hml, ho, -⟩ := S
  obtain ⟨-, ⟨cellB, hcB, hoB, hclB⟩, hPc⟩ := hp
  obtain ⟨hfc, kB, hkB, -⟩ := hat
  cases hfc.symm.trans hclB
  intro T hT X
  rcases vx_callIFW X hx (C := C) (hh := hh) (bytes := bytes) (maxL := maxL) (ret := ret) ho cw.link cw.decl cw.face cw.sel cw.inst cw.pub cw.unh cw.cast cw.code cw.notMH hK (by rw [hT]; exact hcB) hoB hclB hkB hg (hsize.trans hml.symm) (argsL := As) (rest := rest) (fun sig h => hn.trans (cw.len sig h)) hstack hW (by rw [hb]; exact hdg)
    (fun vm₁ hW₁ => ⟨hf.1, hf.2, hPc (T.setVm vm₁) hT hW₁⟩) with ⟨v, vm₁, ⟨U', l2, c2, s2⟩, hW₁, X', ⟨g', mk, t, L, e1, e2, hq, h1, hL, h2, h3⟩, st⟩ | ⟨q, vm₁, ⟨U', l2, c2, s2⟩, hW₁, X', ⟨g', mk, t, L, E, ce, e1, e2, hq, hce, hcv, hcl, h1, hL, h2, h3⟩, st⟩
  · dsimp only [Pt.U, Pt.locs, Pt.cells, Pt.slots] at X' e1 e2 h1 h2 h3 st
    subst h1; subst h2; subst h3
    exact Or.inl ⟨v, (T.setVm vm₁).calling g' mk (Value.ref b :: As).toArray, t, U', L, hT, X', hL, e1, e2, hq, st⟩
  · dsimp only [Pt.U, Pt.locs, Pt.cells, Pt.slots] at X' e1 e2 h1 h2 h3 st hcl
    subst h1; subst h2; subst h3
    exact Or.inr ⟨q, (T.setVm vm₁).calling g' mk (Value.ref b :: As).toArray, t, U', L, E, ce, hT, X', hL, e1, e2, hq, hce, hcv, vx_cls hW₁ hcl, st⟩
end
/-! ===== END ===== -/
/-! ===== BEGIN .. of methods that hand back an object of the pool ===== -/
section
variable {p : Program} {l : Launch} {e : Env} {R : Room} {s : State} {m : MethodId} {args : Array Value} {below : List Frame} {meth : Method} {c : Code} {H : Heap} {locs : List Loc} {cells slots : Nat} {Q : State → Prop}
variable {mc ms : Nat} {free : Addr → Prop} {A0 A1 : Nat → Prop} {H0 : Heap} {a : Array Value} {pc : Nat} {ls : Array Slot} {st0 rest : List Value}
theorem vx_callq {S SX : Type} {post : Option Nat → S → Prop} {px : SX → Prop} {B : S → State → Prop} {BX : String → SX → State → Prop} {AX : Nat → Prop} (hr : vx_Run p l e R s m args below meth c H locs cells slots mc ms (F0 m pc ls st0) rest (va_Qq post B A1 a) (vx_X px BX AX) free) (hS : va_S A0 H0 H locs) (hA : ∀ q, q < H.size → A1 q → A0 q) (hf : ∀ q, free q → A0 q) (hAX : ∀ q, q < H.size → AX q → A0 q)
    (kx : ∀ (E : String) (ce : Cell) (q9 : Addr) (u : SX) (t : State) (H1 : Heap) (locs1 : List Loc), t.heap = H1 → s.vm.Alike t.vm → px u → BX E u t → H.size ≤ H1.size → (∀ q : Nat, q < H.size → ¬ AX q → H1[q]? = H[q]?) → va_S A0 H0 H1 locs1 → H1[q9]? = some ce → ce.vm = .none → s.vm.findClass E = some ce.cls → vx_W p l e R s m args below meth c H1 locs1 (cells + mc) (slots + ms) Q (F0 m pc ls rest) q9)
    (kk : ∀ (r : Option Nat) (u : S) (t : State) (H1 : Heap) (locs1 : List Loc), t.heap = H1 → s.vm.Alike t.vm → post r u → B u t → H.size ≤ H1.size → (∀ q : Nat, q < H.size → ¬ A1 q → H1[q]? = H[q]?) → va_S A0 H0 H1 locs1 → W p l e R s m args below meth c H1 locs1 (cells + mc) (slots + ms) Q (F0 m (pc + 3) ls (va_rf r :: rest))) : W p l e R s m args below meth c H locs cells slots Q (F0 m pc ls st0) := by
  intro T hT X
  rcases hr T hT X with ⟨v, st₀, t, T', L, h0, X', hL, e1, e2, ⟨⟨r, u, hv, hp, hb⟩, hF⟩, st⟩ | ⟨q, st₀, t, T', L, E, ce, h0, X', hL, e1, e2, ⟨u, hp, hb, hF⟩, hce, hcv, hcl, st⟩
  · cases hv
    obtain ⟨k1, k2, k3⟩ := vx_keep h0 e1 hS hA hf hL hF
    obtain ⟨t2, a1, b1⟩ := kk r u t T'.heap (locs ++ L) e1.symm (by rw [← e2]; exact X'.warmed.alike) hp hb k1 k2 k3 T' rfl X'
    exact ⟨t2, st t2 a1, b1⟩
  · obtain ⟨k1, k2, k3⟩ := vx_keep h0 e1 hS hAX hf hL hF
    obtain ⟨t2, a1, b1⟩ := kx E ce q u t T'.heap (locs ++ L) e1.symm (by rw [← e2]; exact X'.warmed.alike) hp hb k1 k2 k3 (by rw [e1]; exact hce) hcv hcl T' rfl X'
    exact ⟨t2, st.trans a1, b1⟩
end
/-! ===== END ===== -/
/-! ===== BEGIN .. a constant ===== -/
section
variable {p : Program} {l : Launch} {e : Env} {R : Room} {s : State} {m : MethodId} {args : Array Value} {below : List Frame} {meth : Method} {c : Code} {H : Heap} {locs : List Loc} {cells slots : Nat} {Q : State → Prop}
variable {mc ms : Nat} {free : Addr → Prop} {A0 A1 : Nat → Prop} {H0 : Heap} {a : Array Value} {pc : Nat} {ls : Array Slot} {st0 rest : List Value}
theorem vx_calle {ad : Nat → Nat} {S SX : Type} {post : Option Nat → S → Prop} {px : SX → Prop} {B : S → State → Prop} {BX : String → SX → State → Prop} {AX : Nat → Prop} (hr : vx_Run p l e R s m args below meth c H locs cells slots mc ms (F0 m pc ls st0) rest (va_Qe ad post B A1 a) (vx_X px BX AX) free) (hS : va_S A0 H0 H locs) (hA : ∀ q, q < H.size → A1 q → A0 q) (hf : ∀ q, free q → A0 q) (hAX : ∀ q, q < H.size → AX q → A0 q)
    (kx : ∀ (E : String) (ce : Cell) (q9 : Addr) (u : SX) (t : State) (H1 : Heap) (locs1 : List Loc), t.heap = H1 → s.vm.Alike t.vm → px u → BX E u t → H.size ≤ H1.size → (∀ q : Nat, q < H.size → ¬ AX q → H1[q]? = H[q]?) → va_S A0 H0 H1 locs1 → H1[q9]? = some ce → ce.vm = .none → s.vm.findClass E = some ce.cls → vx_W p l e R s m args below meth c H1 locs1 (cells + mc) (slots + ms) Q (F0 m pc ls rest) q9)
    (kk : ∀ (r : Option Nat) (u : S) (t : State) (H1 : Heap) (locs1 : List Loc), t.heap = H1 → s.vm.Alike t.vm → post r u → B u t → H.size ≤ H1.size → (∀ q : Nat, q < H.size → ¬ A1 q → H1[q]? = H[q]?) → va_S A0 H0 H1 locs1 → W p l e R s m args below meth c H1 locs1 (cells + mc) (slots + ms) Q (F0 m (pc + 3) ls (va_re ad r :: rest))) : W p l e R s m args below meth c H locs cells slots Q (F0 m pc ls st0) := by
  intro T hT X
  rcases hr T hT X with ⟨v, st₀, t, T', L, h0, X', hL, e1, e2, ⟨⟨r, u, hv, hp, hb⟩, hF⟩, st⟩ | ⟨q, st₀, t, T', L, E, ce, h0, X', hL, e1, e2, ⟨u, hp, hb, hF⟩, hce, hcv, hcl, st⟩
  · cases hv
    obtain ⟨k1, k2, k3⟩ := vx_keep h0 e1 hS hA hf hL hF
    obtain ⟨t2, a1, b1⟩ := kk r u t T'.heap (locs ++ L) e1.symm (by rw [← e2]; exact X'.warmed.alike) hp hb k1 k2 k3 T' rfl X'
    exact ⟨t2, st t2 a1, b1⟩
  · obtain ⟨k1, k2, k3⟩ := vx_keep h0 e1 hS hAX hf hL hF
    obtain ⟨t2, a1, b1⟩ := kx E ce q u t T'.heap (locs ++ L) e1.symm (by rw [← e2]; exact X'.warmed.alike) hp hb k1 k2 k3 (by rw [e1]; exact hce) hcv hcl T' rfl X'
    exact ⟨t2, st.trans a1, b1⟩
end
/-! ===== END ===== -/
/-! ===== BEGIN .. by an interface, an object ===== -/
section
variable {p : Program} {l : Launch} {e : Env} {R : Room} {s : State} {m : MethodId} {args : Array Value} {below : List Frame} {meth : Method} {c : Code} {H : Heap} {locs : List Loc} {cells slots : Nat} {Q : State → Prop}
variable {mc ms : Nat} {free : Addr → Prop} {A0 A1 : Nat → Prop} {H0 : Heap} {a : Array Value} {pc : Nat} {ls : Array Slot} {st0 rest : List Value}
theorem vx_callFq {S SX : Type} {post : Option Nat → S → Prop} {px : SX → Prop} {B : S → State → Prop} {BX : String → SX → State → Prop} {AX : Nat → Prop} (hr : vx_Run5 p l e R s m args below meth c H locs cells slots mc ms (F0 m pc ls st0) rest (va_Qq post B A1 a) (vx_X px BX AX) free) (hS : va_S A0 H0 H locs) (hA : ∀ q, q < H.size → A1 q → A0 q) (hf : ∀ q, free q → A0 q) (hAX : ∀ q, q < H.size → AX q → A0 q)
    (kx : ∀ (E : String) (ce : Cell) (q9 : Addr) (u : SX) (t : State) (H1 : Heap) (locs1 : List Loc), t.heap = H1 → s.vm.Alike t.vm → px u → BX E u t → H.size ≤ H1.size → (∀ q : Nat, q < H.size → ¬ AX q → H1[q]? = H[q]?) → va_S A0 H0 H1 locs1 → H1[q9]? = some ce → ce.vm = .none → s.vm.findClass E = some ce.cls → vx_W p l e R s m args below meth c H1 locs1 (cells + mc) (slots + ms) Q (F0 m pc ls rest) q9)
    (kk : ∀ (r : Option Nat) (u : S) (t : State) (H1 : Heap) (locs1 : List Loc), t.heap = H1 → s.vm.Alike t.vm → post r u → B u t → H.size ≤ H1.size → (∀ q : Nat, q < H.size → ¬ A1 q → H1[q]? = H[q]?) → va_S A0 H0 H1 locs1 → W p l e R s m args below meth c H1 locs1 (cells + mc) (slots + ms) Q (F0 m (pc + 5) ls (va_rf r :: rest))) : W p l e R s m args below meth c H locs cells slots Q (F0 m pc ls st0) := by
  intro T hT X
  rcases hr T hT X with ⟨v, st₀, t, T', L, h0, X', hL, e1, e2, ⟨⟨r, u, hv, hp, hb⟩, hF⟩, st⟩ | ⟨q, st₀, t, T', L, E, ce, h0, X', hL, e1, e2, ⟨u, hp, hb, hF⟩, hce, hcv, hcl, st⟩
  · cases hv
    obtain ⟨k1, k2, k3⟩ := vx_keep h0 e1 hS hA hf hL hF
    obtain ⟨t2, a1, b1⟩ := kk r u t T'.heap (locs ++ L) e1.symm (by rw [← e2]; exact X'.warmed.alike) hp hb k1 k2 k3 T' rfl X'
    exact ⟨t2, st t2 a1, b1⟩
  · obtain ⟨k1, k2, k3⟩ := vx_keep h0 e1 hS hAX hf hL hF
    obtain ⟨t2, a1, b1⟩ := kx E ce q u t T'.heap (locs ++ L) e1.symm (by rw [← e2]; exact X'.warmed.alike) hp hb k1 k2 k3 (by rw [e1]; exact hce) hcv hcl T' rfl X'
    exact ⟨t2, st.trans a1, b1⟩
end
/-! ===== END ===== -/
/-! ===== BEGIN .. by an interface, a constant ===== -/
section
variable {p : Program} {l : Launch} {e : Env} {R : Room} {s : State} {m : MethodId} {args : Array Value} {below : List Frame} {meth : Method} {c : Code} {H : Heap} {locs : List Loc} {cells slots : Nat} {Q : State → Prop}
variable {mc ms : Nat} {free : Addr → Prop} {A0 A1 : Nat → Prop} {H0 : Heap} {a : Array Value} {pc : Nat} {ls : Array Slot} {st0 rest : List Value}
theorem vx_callFe {ad : Nat → Nat} {S SX : Type} {post : Option Nat → S → Prop} {px : SX → Prop} {B : S → State → Prop} {BX : String → SX → State → Prop} {AX : Nat → Prop} (hr : vx_Run5 p l e R s m args below meth c H locs cells slots mc ms (F0 m pc ls st0) rest (va_Qe ad post B A1 a) (vx_X px BX AX) free) (hS : va_S A0 H0 H locs) (hA : ∀ q, q < H.size → A1 q → A0 q) (hf : ∀ q, free q → A0 q) (hAX : ∀ q, q < H.size → AX q → A0 q)
    (kx : ∀ (E : String) (ce : Cell) (q9 : Addr) (u : SX) (t : State) (H1 : Heap) (locs1 : List Loc), t.heap = H1 → s.vm.Alike t.vm → px u → BX E u t → H.size ≤ H1.size → (∀ q : Nat, q < H.size → ¬ AX q → H1[q]? = H[q]?) → va_S A0 H0 H1 locs1 → H1[q9]? = some ce → ce.vm = .none → s.vm.findClass E = some ce.cls → vx_W p l e R s m args below meth c H1 locs1 (cells + mc) (slots + ms) Q (F0 m pc ls rest) q9)
    (kk : ∀ (r : Option Nat) (u : S) (t : State) (H1 : Heap) (locs1 : List Loc), t.heap = H1 → s.vm.Alike t.vm → post r u → B u t → H.size ≤ H1.size → (∀ q : Nat, q < H.size → ¬ A1 q → H1[q]? = H[q]?) → va_S A0 H0 H1 locs1 → W p l e R s m args below meth c H1 locs1 (cells + mc) (slots + ms) Q (F0 m (pc + 5) ls (va_re ad r :: rest))) : W p l e R s m args below meth c H locs cells slots Q (F0 m pc ls st0) := by
  intro T hT X
  rcases hr T hT X with ⟨v, st₀, t, T', L, h0, X', hL, e1, e2, ⟨⟨r, u, hv, hp, hb⟩, hF⟩, st⟩ | ⟨q, st₀, t, T', L, E, ce, h0, X', hL, e1, e2, ⟨u, hp, hb, hF⟩, hce, hcv, hcl, st⟩
  · cases hv
    obtain ⟨k1, k2, k3⟩ := vx_keep h0 e1 hS hA hf hL hF
    obtain ⟨t2, a1, b1⟩ := kk r u t T'.heap (locs ++ L) e1.symm (by rw [← e2]; exact X'.warmed.alike) hp hb k1 k2 k3 T' rfl X'
    exact ⟨t2, st t2 a1, b1⟩
  · obtain ⟨k1, k2, k3⟩ := vx_keep h0 e1 hS hAX hf hL hF
    obtain ⟨t2, a1, b1⟩ := kx E ce q u t T'.heap (locs ++ L) e1.symm (by rw [← e2]; exact X'.warmed.alike) hp hb k1 k2 k3 (by rw [e1]; exact hce) hcv hcl T' rfl X'
    exact ⟨t2, st.trans a1, b1⟩
end
/-! ===== END ===== -/
/-! ===== BEGIN what the machine throws by itself: null at a field, at athrow ===== -/
section VXM2
variable {p : Program} {l : Launch} {e : Env} {R : Room} {s : State} {m : MethodId} {args : Array Value} {below : List Frame} {meth : Method} {c : Code} {H : Heap} {locs : List Loc} {cells slots : Nat}
variable {Q : State → Prop} {cc : ByteArray} {pc : Nat} {ls : Array Slot} {rest : List Value}
theorem vx_getfN {D cl tys} {own ref C : String} {T : u_T} {N ci index : Nat} {Ts : List Cond} (hexec : p.tables.exec = Jvm.exec) (hb : c.code = cc) (hts : ∀ w ∈ Ts, w.before args s = true) (hin : ∀ w ∈ u_ws C T N, w ∈ Ts) (hown : s.vm.findClass own = some m.cls) (hK : va_K D cl tys s) (hc : cl[ci]? = some (C, T, N)) (k : Nat) (hk : k < N) (hlink : (Cond.fieldLink own index ref (T k).2.1 (T k).2.2.1).before args s = true) (hsame : ∀ x, s.fieldFound? (T k).1 (T k).2.1 (T k).2.2.1 = some x → s.fieldFound? ref (T k).2.1 (T k).2.2.1 = some x) (hdg : decode cc pc = .ok (.getfield index, 3)) (kk : vx_NoteN p l e R s m args below meth c H locs cells slots Q (F0 m pc ls rest)) : W p l e R s m args below meth c H locs cells slots Q (F0 m pc ls (.null :: rest)) := by
  obtain ⟨hS, hfc, kC, hkC, -⟩ := hK.1 ci _ hc
  obtain ⟨cf, kf, fi, f, hi, -⟩ := hS k hk
  intro U hU X
  obtain ⟨vm', X1, st1⟩ := X.getfieldNull hexec hown hlink (hsame _ hi) (u_facts hfc hkC (u_lays hts hin hk) hi).1 (g := F0 m pc ls (.null :: rest)) rfl (rest := rest) rfl (by rw [hb]; exact hdg)
  obtain ⟨t, st, q⟩ := kk (U.setVm vm') hU X1
  exact ⟨t, st1 t st, q⟩
theorem vx_getfNN {D cl tys} {own ref C host : String} {T : u_T} {N ci index : Nat} {Ts : List Cond} (hexec : p.tables.exec = Jvm.exec) (hb : c.code = cc) (hts : ∀ w ∈ Ts, w.before args s = true) (hin : ∀ w ∈ u_ws C T N, w ∈ Ts) (hown : s.vm.findClass own = some m.cls) (hK : va_K D cl tys s) (hc : cl[ci]? = some (C, T, N)) (k : Nat) (hk : k < N) (hlink : (Cond.fieldLinkNest own index ref (T k).2.1 (T k).2.2.1 host).before args s = true) (hsame : ∀ x, s.fieldFound? (T k).1 (T k).2.1 (T k).2.2.1 = some x → s.fieldFound? ref (T k).2.1 (T k).2.2.1 = some x) (hdg : decode cc pc = .ok (.getfield index, 3)) (kk : vx_NoteN p l e R s m args below meth c H locs cells slots Q (F0 m pc ls rest)) : W p l e R s m args below meth c H locs cells slots Q (F0 m pc ls (.null :: rest)) := by
  obtain ⟨hS, hfc, kC, hkC, -⟩ := hK.1 ci _ hc
  obtain ⟨cf, kf, fi, f, hi, -⟩ := hS k hk
  intro U hU X
  obtain ⟨vm', X1, st1⟩ := X.getfieldNullNest hexec hown hlink (hsame _ hi) (u_facts hfc hkC (u_lays hts hin hk) hi).1 (g := F0 m pc ls (.null :: rest)) rfl (rest := rest) rfl (by rw [hb]; exact hdg)
  obtain ⟨t, st, q⟩ := kk (U.setVm vm') hU X1
  exact ⟨t, st1 t st, q⟩
theorem vx_putfN {D cl tys} {own ref C : String} {T : u_T} {N ci index : Nat} {Ts : List Cond} (hexec : p.tables.exec = Jvm.exec) (hb : c.code = cc) (hts : ∀ w ∈ Ts, w.before args s = true) (hin : ∀ w ∈ u_ws C T N, w ∈ Ts) (hown : s.vm.findClass own = some m.cls) (hK : va_K D cl tys s) (hc : cl[ci]? = some (C, T, N)) (k : Nat) (hk : k < N) (hlink : (Cond.fieldLink own index ref (T k).2.1 (T k).2.2.1).before args s = true) (hsame : ∀ x, s.fieldFound? (T k).1 (T k).2.1 (T k).2.2.1 = some x → s.fieldFound? ref (T k).2.1 (T k).2.2.1 = some x) (hfin : (T k).2.2.2 = false) {v : Value} (hdg : decode cc pc = .ok (.putfield index, 3)) (kk : vx_NoteN p l e R s m args below meth c H locs cells slots Q (F0 m pc ls rest)) : W p l e R s m args below meth c H locs cells slots Q (F0 m pc ls (v :: .null :: rest)) := by
  obtain ⟨hS, hfc, kC, hkC, -⟩ := hK.1 ci _ hc
  obtain ⟨cf, kf, fi, f, hi, -⟩ := hS k hk
  have hlay := hts _ (hin _ (u_in_lay hk))
  unfold u_lay at hlay
  rw [if_neg (by rw [hfin]; decide)] at hlay
  obtain ⟨c9, k9, cf9, kf9, fi9, f9, -, -, hi9, hst9, hnf9, -⟩ := Cond.lays_spec hlay
  cases hi.symm.trans hi9
  intro U hU X
  obtain ⟨vm', X1, st1⟩ := X.putfieldNull hexec hown hlink (hsame _ hi) hst9 hnf9 (g := F0 m pc ls (v :: .null :: rest)) rfl (v := v) (rest := rest) rfl (by rw [hb]; exact hdg)
  obtain ⟨t, st, q⟩ := kk (U.setVm vm') hU X1
  exact ⟨t, st1 t st, q⟩
theorem vx_putfNN {D cl tys} {own ref C host : String} {T : u_T} {N ci index : Nat} {Ts : List Cond} (hexec : p.tables.exec = Jvm.exec) (hb : c.code = cc) (hts : ∀ w ∈ Ts, w.before args s = true) (hin : ∀ w ∈ u_ws C T N, w ∈ Ts) (hown : s.vm.findClass own = some m.cls) (hK : va_K D cl tys s) (hc : cl[ci]? = some (C, T, N)) (k : Nat) (hk : k < N) (hlink : (Cond.fieldLinkNest own index ref (T k).2.1 (T k).2.2.1 host).before args s = true) (hsame : ∀ x, s.fieldFound? (T k).1 (T k).2.1 (T k).2.2.1 = some x → s.fieldFound? ref (T k).2.1 (T k).2.2.1 = some x) (hfin : (T k).2.2.2 = false) {v : Value} (hdg : decode cc pc = .ok (.putfield index, 3)) (kk : vx_NoteN p l e R s m args below meth c H locs cells slots Q (F0 m pc ls rest)) : W p l e R s m args below meth c H locs cells slots Q (F0 m pc ls (v :: .null :: rest)) := by
  obtain ⟨hS, hfc, kC, hkC, -⟩ := hK.1 ci _ hc
  obtain ⟨cf, kf, fi, f, hi, -⟩ := hS k hk
  have hlay := hts _ (hin _ (u_in_lay hk))
  unfold u_lay at hlay
  rw [if_neg (by rw [hfin]; decide)] at hlay
  obtain ⟨c9, k9, cf9, kf9, fi9, f9, -, -, hi9, hst9, hnf9, -⟩ := Cond.lays_spec hlay
  cases hi.symm.trans hi9
  intro U hU X
  obtain ⟨vm', X1, st1⟩ := X.putfieldNullNest hexec hown hlink (hsame _ hi) hst9 hnf9 (g := F0 m pc ls (v :: .null :: rest)) rfl (v := v) (rest := rest) rfl (by rw [hb]; exact hdg)
  obtain ⟨t, st, q⟩ := kk (U.setVm vm') hU X1
  exact ⟨t, st1 t st, q⟩
theorem vx_athrowN (hexec : p.tables.exec = Jvm.exec) (hb : c.code = cc) (hdg : decode cc pc = .ok (.athrow, 1)) (k : vx_NoteN p l e R s m args below meth c H locs cells slots Q (F0 m pc ls rest)) : W p l e R s m args below meth c H locs cells slots Q (F0 m pc ls (.null :: rest)) := by
  intro T hT X
  obtain ⟨t, st, q⟩ := k T hT X
  exact ⟨t, X.athrowNull hexec (g := F0 m pc ls (.null :: rest)) rfl (rest := rest) rfl (by rw [hb]; exact hdg) t st, q⟩
end VXM2
/-! ===== END ===== -/
end
section
def RX0 : String := "TaskLeveller$1"
def TX0 : u_T := fun k => match k with
  | _ => ("", "", "", false)
def tyX0 : Nat → FieldType := fun k => match k with
  | _ => .int
theorem nmX0 : ∀ a, a < 0 → ∀ b, b < 0 → a ≠ b → (TX0 a).2.1 ≠ (TX0 b).2.1 := by decide +kernel
theorem tyX0_ok : ∀ k, k < 0 → parseFieldDescriptor (TX0 k).2.2.1 = some (tyX0 k) := by decide +kernel
def RX1 : String := "TaskLeveller$Command"
def TX1 : u_T := fun k => match k with
  | _ => ("", "", "", false)
def tyX1 : Nat → FieldType := fun k => match k with
  | _ => .int
theorem nmX1 : ∀ a, a < 0 → ∀ b, b < 0 → a ≠ b → (TX1 a).2.1 ≠ (TX1 b).2.1 := by decide +kernel
theorem tyX1_ok : ∀ k, k < 0 → parseFieldDescriptor (TX1 k).2.2.1 = some (tyX1 k) := by decide +kernel
def RX2 : String := "TaskLeveller$History"
def TX2 : u_T := fun k => match k with
  | 0 => ("TaskLeveller$History", "states", "[LTaskLeveller$Project;", true)
  | 1 => ("TaskLeveller$History", "count", "I", false)
  | _ => ("TaskLeveller$History", "next", "I", false)
def tyX2 : Nat → FieldType := fun k => match k with
  | 0 => .array (.object "TaskLeveller$Project")
  | 1 => .int
  | _ => .int
theorem nmX2 : ∀ a, a < 3 → ∀ b, b < 3 → a ≠ b → (TX2 a).2.1 ≠ (TX2 b).2.1 := by decide +kernel
theorem tyX2_ok : ∀ k, k < 3 → parseFieldDescriptor (TX2 k).2.2.1 = some (tyX2 k) := by decide +kernel
abbrev cX2_init : ByteArray := prog_4_method_1_code
def yX2_init : MethodName := ⟨RX2, "<init>", "()V"⟩
abbrev cX2_keep : ByteArray := prog_4_method_2_code
def yX2_keep : MethodName := ⟨RX2, "keep", "(LTaskLeveller$Project;)V"⟩
abbrev cX2_takeInto : ByteArray := prog_4_method_3_code
def yX2_takeInto : MethodName := ⟨RX2, "takeInto", "(LTaskLeveller$Project;)V"⟩
abbrev cX2_clear : ByteArray := prog_4_method_4_code
def yX2_clear : MethodName := ⟨RX2, "clear", "()V"⟩
abbrev cX2_stateAt : ByteArray := prog_4_method_5_code
def yX2_stateAt : MethodName := ⟨RX2, "stateAt", "(I)LTaskLeveller$Project;"⟩
def RX3 : String := "TaskLeveller$Output"
def TX3 : u_T := fun k => match k with
  | 0 => ("TaskLeveller$Output", "signs", "[C", true)
  | _ => ("TaskLeveller$Output", "length", "I", false)
def tyX3 : Nat → FieldType := fun k => match k with
  | 0 => .array .char
  | _ => .int
theorem nmX3 : ∀ a, a < 2 → ∀ b, b < 2 → a ≠ b → (TX3 a).2.1 ≠ (TX3 b).2.1 := by decide +kernel
theorem tyX3_ok : ∀ k, k < 2 → parseFieldDescriptor (TX3 k).2.2.1 = some (tyX3 k) := by decide +kernel
abbrev cX3_init : ByteArray := prog_5_method_1_code
def yX3_init : MethodName := ⟨RX3, "<init>", "()V"⟩
abbrev cX3_clear : ByteArray := prog_5_method_2_code
def yX3_clear : MethodName := ⟨RX3, "clear", "()V"⟩
abbrev cX3_write : ByteArray := prog_5_method_3_code
def yX3_write : MethodName := ⟨RX3, "write", "(C)V"⟩
abbrev cX3_writeNumber : ByteArray := prog_5_method_4_code
def yX3_writeNumber : MethodName := ⟨RX3, "writeNumber", "(I)V"⟩
def RX4 : String := "TaskLeveller$Plan"
def TX4 : u_T := fun k => match k with
  | 0 => ("TaskLeveller$Plan", "order", "[I", true)
  | 1 => ("TaskLeveller$Plan", "closure", "[I", true)
  | 2 => ("TaskLeveller$Plan", "earliest", "[I", true)
  | 3 => ("TaskLeveller$Plan", "improved", "[I", true)
  | 4 => ("TaskLeveller$Plan", "latest", "[I", true)
  | 5 => ("TaskLeveller$Plan", "levelled", "[I", true)
  | 6 => ("TaskLeveller$Plan", "used", "[I", true)
  | 7 => ("TaskLeveller$Plan", "end", "I", false)
  | _ => ("TaskLeveller$Plan", "levelledEnd", "I", false)
def tyX4 : Nat → FieldType := fun k => match k with
  | 0 => .array .int
  | 1 => .array .int
  | 2 => .array .int
  | 3 => .array .int
  | 4 => .array .int
  | 5 => .array .int
  | 6 => .array .int
  | 7 => .int
  | _ => .int
theorem nmX4 : ∀ a, a < 9 → ∀ b, b < 9 → a ≠ b → (TX4 a).2.1 ≠ (TX4 b).2.1 := by decide +kernel
theorem tyX4_ok : ∀ k, k < 9 → parseFieldDescriptor (TX4 k).2.2.1 = some (tyX4 k) := by decide +kernel
abbrev cX4_init : ByteArray := prog_6_method_1_code
def yX4_init : MethodName := ⟨RX4, "<init>", "()V"⟩
abbrev cX4_make : ByteArray := prog_6_method_2_code
def yX4_make : MethodName := ⟨RX4, "make", "(LTaskLeveller$Project;)V"⟩
abbrev cX4_slackOf : ByteArray := prog_6_method_3_code
def yX4_slackOf : MethodName := ⟨RX4, "slackOf", "(I)I"⟩
abbrev cX4_usedOn : ByteArray := prog_6_method_4_code
def yX4_usedOn : MethodName := ⟨RX4, "usedOn", "(II)I"⟩
abbrev cX4_workOnAllDays : ByteArray := prog_6_method_5_code
def yX4_workOnAllDays : MethodName := ⟨RX4, "workOnAllDays", "(I)I"⟩
abbrev cX4_findOrder : ByteArray := prog_6_method_6_code
def yX4_findOrder : MethodName := ⟨RX4, "findOrder", "(LTaskLeveller$Project;)V"⟩
abbrev cX4_findClosure : ByteArray := prog_6_method_7_code
def yX4_findClosure : MethodName := ⟨RX4, "findClosure", "(LTaskLeveller$Project;)V"⟩
abbrev cX4_findEarliest : ByteArray := prog_6_method_8_code
def yX4_findEarliest : MethodName := ⟨RX4, "findEarliest", "(LTaskLeveller$Project;)V"⟩
abbrev cX4_earliestOf : ByteArray := prog_6_method_9_code
def yX4_earliestOf : MethodName := ⟨RX4, "earliestOf", "(LTaskLeveller$Project;[III)I"⟩
abbrev cX4_findImproved : ByteArray := prog_6_method_10_code
def yX4_findImproved : MethodName := ⟨RX4, "findImproved", "(LTaskLeveller$Project;)V"⟩
abbrev cX4_improve : ByteArray := prog_6_method_11_code
def yX4_improve : MethodName := ⟨RX4, "improve", "(LTaskLeveller$Project;)Z"⟩
abbrev cX4_soonestStart : ByteArray := prog_6_method_12_code
def yX4_soonestStart : MethodName := ⟨RX4, "soonestStart", "(LTaskLeveller$Project;I[I)I"⟩
abbrev cX4_findLatest : ByteArray := prog_6_method_13_code
def yX4_findLatest : MethodName := ⟨RX4, "findLatest", "(LTaskLeveller$Project;)V"⟩
abbrev cX4_findLevelled : ByteArray := prog_6_method_14_code
def yX4_findLevelled : MethodName := ⟨RX4, "findLevelled", "(LTaskLeveller$Project;)V"⟩
abbrev cX4_mostUrgent : ByteArray := prog_6_method_15_code
def yX4_mostUrgent : MethodName := ⟨RX4, "mostUrgent", "(LTaskLeveller$Project;I)I"⟩
abbrev cX4_lowestFit : ByteArray := prog_6_method_16_code
def yX4_lowestFit : MethodName := ⟨RX4, "lowestFit", "(LTaskLeveller$Project;I)I"⟩
abbrev cX4_fits : ByteArray := prog_6_method_17_code
def yX4_fits : MethodName := ⟨RX4, "fits", "(LTaskLeveller$Project;II)Z"⟩
abbrev cX4_place : ByteArray := prog_6_method_18_code
def yX4_place : MethodName := ⟨RX4, "place", "(LTaskLeveller$Project;II)V"⟩
def RX5 : String := "TaskLeveller$Project"
def TX5 : u_T := fun k => match k with
  | 0 => ("TaskLeveller$Project", "durations", "[I", true)
  | 1 => ("TaskLeveller$Project", "resources", "[I", true)
  | 2 => ("TaskLeveller$Project", "demands", "[I", true)
  | 3 => ("TaskLeveller$Project", "releases", "[I", true)
  | 4 => ("TaskLeveller$Project", "needs", "[I", true)
  | 5 => ("TaskLeveller$Project", "starts", "[I", true)
  | 6 => ("TaskLeveller$Project", "limits", "[I", true)
  | 7 => ("TaskLeveller$Project", "count", "I", false)
  | _ => ("TaskLeveller$Project", "hasStarts", "Z", false)
def tyX5 : Nat → FieldType := fun k => match k with
  | 0 => .array .int
  | 1 => .array .int
  | 2 => .array .int
  | 3 => .array .int
  | 4 => .array .int
  | 5 => .array .int
  | 6 => .array .int
  | 7 => .int
  | _ => .boolean
theorem nmX5 : ∀ a, a < 9 → ∀ b, b < 9 → a ≠ b → (TX5 a).2.1 ≠ (TX5 b).2.1 := by decide +kernel
theorem tyX5_ok : ∀ k, k < 9 → parseFieldDescriptor (TX5 k).2.2.1 = some (tyX5 k) := by decide +kernel
abbrev cX5_init : ByteArray := prog_7_method_1_code
def yX5_init : MethodName := ⟨RX5, "<init>", "()V"⟩
abbrev cX5_copyFrom : ByteArray := prog_7_method_2_code
def yX5_copyFrom : MethodName := ⟨RX5, "copyFrom", "(LTaskLeveller$Project;)V"⟩
abbrev cX5_faultOfTask : ByteArray := prog_7_method_3_code
def yX5_faultOfTask : MethodName := ⟨RX5, "faultOfTask", "(I)C"⟩
abbrev cX5_faultOfPair : ByteArray := prog_7_method_4_code
def yX5_faultOfPair : MethodName := ⟨RX5, "faultOfPair", "(II)C"⟩
abbrev cX5_faultOfAdding : ByteArray := prog_7_method_5_code
def yX5_faultOfAdding : MethodName := ⟨RX5, "faultOfAdding", "(IIII)C"⟩
abbrev cX5_faultOfLinking : ByteArray := prog_7_method_6_code
def yX5_faultOfLinking : MethodName := ⟨RX5, "faultOfLinking", "(II)C"⟩
abbrev cX5_faultOfDuration : ByteArray := prog_7_method_7_code
def yX5_faultOfDuration : MethodName := ⟨RX5, "faultOfDuration", "(II)C"⟩
abbrev cX5_faultOfRelease : ByteArray := prog_7_method_8_code
def yX5_faultOfRelease : MethodName := ⟨RX5, "faultOfRelease", "(II)C"⟩
abbrev cX5_faultOfLimit : ByteArray := prog_7_method_9_code
def yX5_faultOfLimit : MethodName := ⟨RX5, "faultOfLimit", "(II)C"⟩
abbrev cX5_append : ByteArray := prog_7_method_10_code
def yX5_append : MethodName := ⟨RX5, "append", "(IIII)I"⟩
abbrev cX5_drop : ByteArray := prog_7_method_11_code
def yX5_drop : MethodName := ⟨RX5, "drop", "(I)V"⟩
abbrev cX5_link : ByteArray := prog_7_method_12_code
def yX5_link : MethodName := ⟨RX5, "link", "(II)V"⟩
abbrev cX5_unlink : ByteArray := prog_7_method_13_code
def yX5_unlink : MethodName := ⟨RX5, "unlink", "(II)V"⟩
abbrev cX5_isLinked : ByteArray := prog_7_method_14_code
def yX5_isLinked : MethodName := ⟨RX5, "isLinked", "(II)Z"⟩
abbrev cX5_reaches : ByteArray := prog_7_method_15_code
def yX5_reaches : MethodName := ⟨RX5, "reaches", "(II)Z"⟩
abbrev cX5_search : ByteArray := prog_7_method_16_code
def yX5_search : MethodName := ⟨RX5, "search", "([IIII)I"⟩
abbrev cX5_isReady : ByteArray := prog_7_method_17_code
def yX5_isReady : MethodName := ⟨RX5, "isReady", "(II)Z"⟩
abbrev cX5_takeStarts : ByteArray := prog_7_method_18_code
def yX5_takeStarts : MethodName := ⟨RX5, "takeStarts", "([I)V"⟩
abbrev cX5_hasStart : ByteArray := prog_7_method_19_code
def yX5_hasStart : MethodName := ⟨RX5, "hasStart", "(I)Z"⟩
abbrev cX5_workOf : ByteArray := prog_7_method_20_code
def yX5_workOf : MethodName := ⟨RX5, "workOf", "(I)I"⟩
def RX6 : String := "TaskLeveller$Script"
def TX6 : u_T := fun k => match k with
  | 0 => ("TaskLeveller$Script", "signs", "[C", true)
  | 1 => ("TaskLeveller$Script", "commands", "[LTaskLeveller$Command;", true)
  | 2 => ("TaskLeveller$Script", "numbers", "[I", true)
  | 3 => ("TaskLeveller$Script", "length", "I", false)
  | 4 => ("TaskLeveller$Script", "commandCount", "I", false)
  | _ => ("TaskLeveller$Script", "position", "I", false)
def tyX6 : Nat → FieldType := fun k => match k with
  | 0 => .array .char
  | 1 => .array (.object "TaskLeveller$Command")
  | 2 => .array .int
  | 3 => .int
  | 4 => .int
  | _ => .int
theorem nmX6 : ∀ a, a < 6 → ∀ b, b < 6 → a ≠ b → (TX6 a).2.1 ≠ (TX6 b).2.1 := by decide +kernel
theorem tyX6_ok : ∀ k, k < 6 → parseFieldDescriptor (TX6 k).2.2.1 = some (tyX6 k) := by decide +kernel
abbrev cX6_init : ByteArray := prog_8_method_1_code
def yX6_init : MethodName := ⟨RX6, "<init>", "()V"⟩
abbrev cX6_append : ByteArray := prog_8_method_2_code
def yX6_append : MethodName := ⟨RX6, "append", "(C)V"⟩
abbrev cX6_clear : ByteArray := prog_8_method_3_code
def yX6_clear : MethodName := ⟨RX6, "clear", "()V"⟩
abbrev cX6_commandAt : ByteArray := prog_8_method_4_code
def yX6_commandAt : MethodName := ⟨RX6, "commandAt", "(I)LTaskLeveller$Command;"⟩
abbrev cX6_numberAt : ByteArray := prog_8_method_5_code
def yX6_numberAt : MethodName := ⟨RX6, "numberAt", "(II)I"⟩
abbrev cX6_read : ByteArray := prog_8_method_6_code
def yX6_read : MethodName := ⟨RX6, "read", "()Z"⟩
abbrev cX6_readCommand : ByteArray := prog_8_method_7_code
def yX6_readCommand : MethodName := ⟨RX6, "readCommand", "()Z"⟩
abbrev cX6_follows : ByteArray := prog_8_method_8_code
def yX6_follows : MethodName := ⟨RX6, "follows", "(Ljava/lang/String;)Z"⟩
abbrev cX6_readNumber : ByteArray := prog_8_method_9_code
def yX6_readNumber : MethodName := ⟨RX6, "readNumber", "(II)Z"⟩
abbrev cX6_isDigitAt : ByteArray := prog_8_method_10_code
def yX6_isDigitAt : MethodName := ⟨RX6, "isDigitAt", "(I)Z"⟩
def RX7 : String := "TaskLeveller"
def TX7 : u_T := fun k => match k with
  | 0 => ("TaskLeveller", "project", "LTaskLeveller$Project;", true)
  | 1 => ("TaskLeveller", "trial", "LTaskLeveller$Project;", true)
  | 2 => ("TaskLeveller", "snapshot", "LTaskLeveller$Project;", true)
  | 3 => ("TaskLeveller", "history", "LTaskLeveller$History;", true)
  | 4 => ("TaskLeveller", "plan", "LTaskLeveller$Plan;", true)
  | 5 => ("TaskLeveller", "script", "LTaskLeveller$Script;", true)
  | 6 => ("TaskLeveller", "output", "LTaskLeveller$Output;", true)
  | 7 => ("TaskLeveller", "keys", "[I", true)
  | 8 => ("TaskLeveller", "planFits", "Z", false)
  | 9 => ("TaskLeveller", "hasSnapshot", "Z", false)
  | 10 => ("TaskLeveller", "scriptError", "I", false)
  | 11 => ("TaskLeveller", "failedIndex", "I", false)
  | _ => ("TaskLeveller", "failedReason", "C", false)
def tyX7 : Nat → FieldType := fun k => match k with
  | 0 => .object "TaskLeveller$Project"
  | 1 => .object "TaskLeveller$Project"
  | 2 => .object "TaskLeveller$Project"
  | 3 => .object "TaskLeveller$History"
  | 4 => .object "TaskLeveller$Plan"
  | 5 => .object "TaskLeveller$Script"
  | 6 => .object "TaskLeveller$Output"
  | 7 => .array .int
  | 8 => .boolean
  | 9 => .boolean
  | 10 => .int
  | 11 => .int
  | _ => .char
theorem nmX7 : ∀ a, a < 13 → ∀ b, b < 13 → a ≠ b → (TX7 a).2.1 ≠ (TX7 b).2.1 := by decide +kernel
theorem tyX7_ok : ∀ k, k < 13 → parseFieldDescriptor (TX7 k).2.2.1 = some (tyX7 k) := by decide +kernel
abbrev cX7_init : ByteArray := prog_1_method_1_code
def yX7_init : MethodName := ⟨RX7, "<init>", "()V"⟩
abbrev cX7_addTask : ByteArray := prog_1_method_2_code
def yX7_addTask : MethodName := ⟨RX7, "addTask", "(IIII)I"⟩
abbrev cX7_removeTask : ByteArray := prog_1_method_3_code
def yX7_removeTask : MethodName := ⟨RX7, "removeTask", "(I)I"⟩
abbrev cX7_addDependency : ByteArray := prog_1_method_4_code
def yX7_addDependency : MethodName := ⟨RX7, "addDependency", "(II)Z"⟩
abbrev cX7_removeDependency : ByteArray := prog_1_method_5_code
def yX7_removeDependency : MethodName := ⟨RX7, "removeDependency", "(II)Z"⟩
abbrev cX7_setDuration : ByteArray := prog_1_method_6_code
def yX7_setDuration : MethodName := ⟨RX7, "setDuration", "(II)I"⟩
abbrev cX7_setRelease : ByteArray := prog_1_method_7_code
def yX7_setRelease : MethodName := ⟨RX7, "setRelease", "(II)I"⟩
abbrev cX7_setLimit : ByteArray := prog_1_method_8_code
def yX7_setLimit : MethodName := ⟨RX7, "setLimit", "(II)I"⟩
abbrev cX7_takeBaseline : ByteArray := prog_1_method_9_code
def yX7_takeBaseline : MethodName := ⟨RX7, "takeBaseline", "()I"⟩
abbrev cX7_taskCount : ByteArray := prog_1_method_10_code
def yX7_taskCount : MethodName := ⟨RX7, "taskCount", "()I"⟩
abbrev cX7_duration : ByteArray := prog_1_method_11_code
def yX7_duration : MethodName := ⟨RX7, "duration", "(I)I"⟩
abbrev cX7_resource : ByteArray := prog_1_method_12_code
def yX7_resource : MethodName := ⟨RX7, "resource", "(I)I"⟩
abbrev cX7_demand : ByteArray := prog_1_method_13_code
def yX7_demand : MethodName := ⟨RX7, "demand", "(I)I"⟩
abbrev cX7_release : ByteArray := prog_1_method_14_code
def yX7_release : MethodName := ⟨RX7, "release", "(I)I"⟩
abbrev cX7_limit : ByteArray := prog_1_method_15_code
def yX7_limit : MethodName := ⟨RX7, "limit", "(I)I"⟩
abbrev cX7_dependsDirectly : ByteArray := prog_1_method_16_code
def yX7_dependsDirectly : MethodName := ⟨RX7, "dependsDirectly", "(II)Z"⟩
abbrev cX7_depends : ByteArray := prog_1_method_17_code
def yX7_depends : MethodName := ⟨RX7, "depends", "(II)Z"⟩
abbrev cX7_dependsByClosure : ByteArray := prog_1_method_18_code
def yX7_dependsByClosure : MethodName := ⟨RX7, "dependsByClosure", "(II)Z"⟩
abbrev cX7_neededCount : ByteArray := prog_1_method_19_code
def yX7_neededCount : MethodName := ⟨RX7, "neededCount", "(I)I"⟩
abbrev cX7_dependentCount : ByteArray := prog_1_method_20_code
def yX7_dependentCount : MethodName := ⟨RX7, "dependentCount", "(I)I"⟩
abbrev cX7_taskInOrder : ByteArray := prog_1_method_21_code
def yX7_taskInOrder : MethodName := ⟨RX7, "taskInOrder", "(I)I"⟩
abbrev cX7_earliestStart : ByteArray := prog_1_method_22_code
def yX7_earliestStart : MethodName := ⟨RX7, "earliestStart", "(I)I"⟩
abbrev cX7_earliestStartByRounds : ByteArray := prog_1_method_23_code
def yX7_earliestStartByRounds : MethodName := ⟨RX7, "earliestStartByRounds", "(I)I"⟩
abbrev cX7_latestStart : ByteArray := prog_1_method_24_code
def yX7_latestStart : MethodName := ⟨RX7, "latestStart", "(I)I"⟩
abbrev cX7_slack : ByteArray := prog_1_method_25_code
def yX7_slack : MethodName := ⟨RX7, "slack", "(I)I"⟩
abbrev cX7_isCritical : ByteArray := prog_1_method_26_code
def yX7_isCritical : MethodName := ⟨RX7, "isCritical", "(I)Z"⟩
abbrev cX7_projectLength : ByteArray := prog_1_method_27_code
def yX7_projectLength : MethodName := ⟨RX7, "projectLength", "()I"⟩
abbrev cX7_criticalCount : ByteArray := prog_1_method_28_code
def yX7_criticalCount : MethodName := ⟨RX7, "criticalCount", "()I"⟩
abbrev cX7_lastTask : ByteArray := prog_1_method_29_code
def yX7_lastTask : MethodName := ⟨RX7, "lastTask", "()I"⟩
abbrev cX7_levelledStart : ByteArray := prog_1_method_30_code
def yX7_levelledStart : MethodName := ⟨RX7, "levelledStart", "(I)I"⟩
abbrev cX7_levelledLength : ByteArray := prog_1_method_31_code
def yX7_levelledLength : MethodName := ⟨RX7, "levelledLength", "()I"⟩
abbrev cX7_usage : ByteArray := prog_1_method_32_code
def yX7_usage : MethodName := ⟨RX7, "usage", "(II)I"⟩
abbrev cX7_usageByTasks : ByteArray := prog_1_method_33_code
def yX7_usageByTasks : MethodName := ⟨RX7, "usageByTasks", "(II)I"⟩
abbrev cX7_peakUsage : ByteArray := prog_1_method_34_code
def yX7_peakUsage : MethodName := ⟨RX7, "peakUsage", "(I)I"⟩
abbrev cX7_tasksOn : ByteArray := prog_1_method_35_code
def yX7_tasksOn : MethodName := ⟨RX7, "tasksOn", "(I)I"⟩
abbrev cX7_workload : ByteArray := prog_1_method_36_code
def yX7_workload : MethodName := ⟨RX7, "workload", "(I)I"⟩
abbrev cX7_workloadByDays : ByteArray := prog_1_method_37_code
def yX7_workloadByDays : MethodName := ⟨RX7, "workloadByDays", "(I)I"⟩
abbrev cX7_hasBaseline : ByteArray := prog_1_method_38_code
def yX7_hasBaseline : MethodName := ⟨RX7, "hasBaseline", "()Z"⟩
abbrev cX7_baselineStart : ByteArray := prog_1_method_39_code
def yX7_baselineStart : MethodName := ⟨RX7, "baselineStart", "(I)I"⟩
abbrev cX7_drift : ByteArray := prog_1_method_40_code
def yX7_drift : MethodName := ⟨RX7, "drift", "(I)I"⟩
abbrev cX7_totalDrift : ByteArray := prog_1_method_41_code
def yX7_totalDrift : MethodName := ⟨RX7, "totalDrift", "()I"⟩
abbrev cX7_taskBySlack : ByteArray := prog_1_method_42_code
def yX7_taskBySlack : MethodName := ⟨RX7, "taskBySlack", "(I)I"⟩
abbrev cX7_taskByStart : ByteArray := prog_1_method_43_code
def yX7_taskByStart : MethodName := ⟨RX7, "taskByStart", "(I)I"⟩
abbrev cX7_meanSlack : ByteArray := prog_1_method_44_code
def yX7_meanSlack : MethodName := ⟨RX7, "meanSlack", "()D"⟩
abbrev cX7_utilization : ByteArray := prog_1_method_45_code
def yX7_utilization : MethodName := ⟨RX7, "utilization", "(I)F"⟩
abbrev cX7_isConsistent : ByteArray := prog_1_method_46_code
def yX7_isConsistent : MethodName := ⟨RX7, "isConsistent", "()Z"⟩
abbrev cX7_renderTask : ByteArray := prog_1_method_47_code
def yX7_renderTask : MethodName := ⟨RX7, "renderTask", "(I)I"⟩
abbrev cX7_renderUsage : ByteArray := prog_1_method_48_code
def yX7_renderUsage : MethodName := ⟨RX7, "renderUsage", "(I)I"⟩
abbrev cX7_outputAt : ByteArray := prog_1_method_49_code
def yX7_outputAt : MethodName := ⟨RX7, "outputAt", "(I)C"⟩
abbrev cX7_type : ByteArray := prog_1_method_50_code
def yX7_type : MethodName := ⟨RX7, "type", "(C)I"⟩
abbrev cX7_runScript : ByteArray := prog_1_method_51_code
def yX7_runScript : MethodName := ⟨RX7, "runScript", "()I"⟩
abbrev cX7_errorPosition : ByteArray := prog_1_method_52_code
def yX7_errorPosition : MethodName := ⟨RX7, "errorPosition", "()I"⟩
abbrev cX7_failedCommand : ByteArray := prog_1_method_53_code
def yX7_failedCommand : MethodName := ⟨RX7, "failedCommand", "()I"⟩
abbrev cX7_failureReason : ByteArray := prog_1_method_54_code
def yX7_failureReason : MethodName := ⟨RX7, "failureReason", "()C"⟩
abbrev cX7_undo : ByteArray := prog_1_method_55_code
def yX7_undo : MethodName := ⟨RX7, "undo", "()I"⟩
abbrev cX7_save : ByteArray := prog_1_method_56_code
def yX7_save : MethodName := ⟨RX7, "save", "()I"⟩
abbrev cX7_restore : ByteArray := prog_1_method_57_code
def yX7_restore : MethodName := ⟨RX7, "restore", "()I"⟩
abbrev cX7_beginChange : ByteArray := prog_1_method_58_code
def yX7_beginChange : MethodName := ⟨RX7, "beginChange", "()V"⟩
abbrev cX7_currentPlan : ByteArray := prog_1_method_59_code
def yX7_currentPlan : MethodName := ⟨RX7, "currentPlan", "()LTaskLeveller$Plan;"⟩
abbrev cX7_runCommand : ByteArray := prog_1_method_60_code
def yX7_runCommand : MethodName := ⟨RX7, "runCommand", "(I)C"⟩
abbrev cX7_runAdding : ByteArray := prog_1_method_61_code
def yX7_runAdding : MethodName := ⟨RX7, "runAdding", "(IIII)C"⟩
abbrev cX7_runSetting : ByteArray := prog_1_method_62_code
def yX7_runSetting : MethodName := ⟨RX7, "runSetting", "(C[III)C"⟩
abbrev cX7_markTrial : ByteArray := prog_1_method_63_code
def yX7_markTrial : MethodName := ⟨RX7, "markTrial", "()V"⟩
abbrev cX7_isWorkedOn : ByteArray := prog_1_method_64_code
def yX7_isWorkedOn : MethodName := ⟨RX7, "isWorkedOn", "(II)Z"⟩
abbrev cX7_driftOf : ByteArray := prog_1_method_65_code
def yX7_driftOf : MethodName := ⟨RX7, "driftOf", "(I)I"⟩
abbrev cX7_sortingKey : ByteArray := prog_1_method_66_code
def yX7_sortingKey : MethodName := ⟨RX7, "sortingKey", "(II)I"⟩
abbrev cX7_taskAtRank : ByteArray := prog_1_method_67_code
def yX7_taskAtRank : MethodName := ⟨RX7, "taskAtRank", "(I)I"⟩
abbrev cX7_countBefore : ByteArray := prog_1_method_68_code
def yX7_countBefore : MethodName := ⟨RX7, "countBefore", "(I)I"⟩
abbrev cX7_startsAgree : ByteArray := prog_1_method_69_code
def yX7_startsAgree : MethodName := ⟨RX7, "startsAgree", "()Z"⟩
abbrev cX7_dependenciesAgree : ByteArray := prog_1_method_70_code
def yX7_dependenciesAgree : MethodName := ⟨RX7, "dependenciesAgree", "()Z"⟩
abbrev cX7_workloadsAgree : ByteArray := prog_1_method_71_code
def yX7_workloadsAgree : MethodName := ⟨RX7, "workloadsAgree", "()Z"⟩
abbrev cX7_requireTask : ByteArray := prog_1_method_72_code
def yX7_requireTask : MethodName := ⟨RX7, "requireTask", "(I)V"⟩
abbrev cX7_requireResource : ByteArray := prog_1_method_73_code
def yX7_requireResource : MethodName := ⟨RX7, "requireResource", "(I)V"⟩
abbrev cX7_requireDay : ByteArray := prog_1_method_74_code
def yX7_requireDay : MethodName := ⟨RX7, "requireDay", "(I)V"⟩
abbrev cX7_requireBaselineStart : ByteArray := prog_1_method_75_code
def yX7_requireBaselineStart : MethodName := ⟨RX7, "requireBaselineStart", "(I)V"⟩
abbrev cX7_requireFailure : ByteArray := prog_1_method_76_code
def yX7_requireFailure : MethodName := ⟨RX7, "requireFailure", "()V"⟩
abbrev cX7_refuse : ByteArray := prog_1_method_77_code
def yX7_refuse : MethodName := ⟨RX7, "refuse", "(C)V"⟩
abbrev cX7_isWithin : ByteArray := prog_1_method_78_code
def yX7_isWithin : MethodName := ⟨RX7, "isWithin", "(III)Z"⟩
abbrev cX7_hasBit : ByteArray := prog_1_method_79_code
def yX7_hasBit : MethodName := ⟨RX7, "hasBit", "(II)Z"⟩
abbrev cX7_at : ByteArray := prog_1_method_80_code
def yX7_at : MethodName := ⟨RX7, "at", "([II)I"⟩
abbrev cX7_put : ByteArray := prog_1_method_81_code
def yX7_put : MethodName := ⟨RX7, "put", "([III)V"⟩
abbrev cX7_charAt : ByteArray := prog_1_method_82_code
def yX7_charAt : MethodName := ⟨RX7, "charAt", "([CI)C"⟩
abbrev cX7_copyRow : ByteArray := prog_1_method_83_code
def yX7_copyRow : MethodName := ⟨RX7, "copyRow", "([I[I)V"⟩
abbrev cX7_fillRow : ByteArray := prog_1_method_84_code
def yX7_fillRow : MethodName := ⟨RX7, "fillRow", "([II)V"⟩
abbrev cX7_closeGap : ByteArray := prog_1_method_85_code
def yX7_closeGap : MethodName := ⟨RX7, "closeGap", "([II)V"⟩
def RX8 : String := "TaskLevellerModel"
def TX8 : u_T := fun k => match k with
  | 0 => ("TaskLevellerModel", "now", "[I", true)
  | 1 => ("TaskLevellerModel", "before", "[I", true)
  | 2 => ("TaskLevellerModel", "saved", "[I", true)
  | 3 => ("TaskLevellerModel", "history", "[I", true)
  | 4 => ("TaskLevellerModel", "isSaved", "Z", false)
  | 5 => ("TaskLevellerModel", "remembered", "I", false)
  | 6 => ("TaskLevellerModel", "errorAt", "I", false)
  | 7 => ("TaskLevellerModel", "failedAt", "I", false)
  | 8 => ("TaskLevellerModel", "cause", "I", false)
  | 9 => ("TaskLevellerModel", "early", "[I", true)
  | 10 => ("TaskLevellerModel", "late", "[I", true)
  | 11 => ("TaskLevellerModel", "level", "[I", true)
  | 12 => ("TaskLevellerModel", "use", "[I", true)
  | 13 => ("TaskLevellerModel", "text", "[I", true)
  | 14 => ("TaskLevellerModel", "typed", "I", false)
  | 15 => ("TaskLevellerModel", "line", "[I", true)
  | 16 => ("TaskLevellerModel", "lined", "I", false)
  | 17 => ("TaskLevellerModel", "thrown", "I", false)
  | 18 => ("TaskLevellerModel", "size", "I", false)
  | 19 => ("TaskLevellerModel", "place", "I", false)
  | 20 => ("TaskLevellerModel", "wrong", "I", false)
  | 21 => ("TaskLevellerModel", "told", "I", false)
  | _ => ("TaskLevellerModel", "numbers", "[I", true)
def tyX8 : Nat → FieldType := fun k => match k with
  | 0 => .array .int
  | 1 => .array .int
  | 2 => .array .int
  | 3 => .array .int
  | 4 => .boolean
  | 5 => .int
  | 6 => .int
  | 7 => .int
  | 8 => .int
  | 9 => .array .int
  | 10 => .array .int
  | 11 => .array .int
  | 12 => .array .int
  | 13 => .array .int
  | 14 => .int
  | 15 => .array .int
  | 16 => .int
  | 17 => .int
  | 18 => .int
  | 19 => .int
  | 20 => .int
  | 21 => .int
  | _ => .array .int
theorem nmX8 : ∀ a, a < 23 → ∀ b, b < 23 → a ≠ b → (TX8 a).2.1 ≠ (TX8 b).2.1 := by decide +kernel
theorem tyX8_ok : ∀ k, k < 23 → parseFieldDescriptor (TX8 k).2.2.1 = some (tyX8 k) := by decide +kernel
abbrev cX8_init : ByteArray := prog_10_method_1_code
def yX8_init : MethodName := ⟨RX8, "<init>", "()V"⟩
abbrev cX8_thrown : ByteArray := prog_10_method_2_code
def yX8_thrown : MethodName := ⟨RX8, "thrown", "()I"⟩
abbrev cX8_isIn : ByteArray := prog_10_method_3_code
def yX8_isIn : MethodName := ⟨RX8, "isIn", "(III)Z"⟩
abbrev cX8_copies : ByteArray := prog_10_method_4_code
def yX8_copies : MethodName := ⟨RX8, "copies", "([II[II)V"⟩
abbrev cX8_holds : ByteArray := prog_10_method_5_code
def yX8_holds : MethodName := ⟨RX8, "holds", "(ZZZ)Z"⟩
abbrev cX8_goes : ByteArray := prog_10_method_6_code
def yX8_goes : MethodName := ⟨RX8, "goes", "(Z)Z"⟩
abbrev cX8_begins : ByteArray := prog_10_method_7_code
def yX8_begins : MethodName := ⟨RX8, "begins", "()V"⟩
abbrev cX8_remembers : ByteArray := prog_10_method_8_code
def yX8_remembers : MethodName := ⟨RX8, "remembers", "()V"⟩
abbrev cX8_ends : ByteArray := prog_10_method_9_code
def yX8_ends : MethodName := ⟨RX8, "ends", "(I)I"⟩
abbrev cX8_undo : ByteArray := prog_10_method_10_code
def yX8_undo : MethodName := ⟨RX8, "undo", "()I"⟩
abbrev cX8_save : ByteArray := prog_10_method_11_code
def yX8_save : MethodName := ⟨RX8, "save", "()I"⟩
abbrev cX8_restore : ByteArray := prog_10_method_12_code
def yX8_restore : MethodName := ⟨RX8, "restore", "()I"⟩
abbrev cX8_isTask : ByteArray := prog_10_method_13_code
def yX8_isTask : MethodName := ⟨RX8, "isTask", "(I)Z"⟩
abbrev cX8_isResource : ByteArray := prog_10_method_14_code
def yX8_isResource : MethodName := ⟨RX8, "isResource", "(I)Z"⟩
abbrev cX8_taskAt : ByteArray := prog_10_method_15_code
def yX8_taskAt : MethodName := ⟨RX8, "taskAt", "(I)I"⟩
abbrev cX8_of : ByteArray := prog_10_method_16_code
def yX8_of : MethodName := ⟨RX8, "of", "(II)I"⟩
abbrev cX8_isNeeded : ByteArray := prog_10_method_17_code
def yX8_isNeeded : MethodName := ⟨RX8, "isNeeded", "(II)Z"⟩
abbrev cX8_needsOf : ByteArray := prog_10_method_18_code
def yX8_needsOf : MethodName := ⟨RX8, "needsOf", "(I)I"⟩
abbrev cX8_doesDepend : ByteArray := prog_10_method_19_code
def yX8_doesDepend : MethodName := ⟨RX8, "doesDepend", "(II)Z"⟩
abbrev cX8_adds : ByteArray := prog_10_method_20_code
def yX8_adds : MethodName := ⟨RX8, "adds", "(IIII)I"⟩
abbrev cX8_addTask : ByteArray := prog_10_method_21_code
def yX8_addTask : MethodName := ⟨RX8, "addTask", "(IIII)I"⟩
abbrev cX8_removes : ByteArray := prog_10_method_22_code
def yX8_removes : MethodName := ⟨RX8, "removes", "(I)I"⟩
abbrev cX8_removeTask : ByteArray := prog_10_method_23_code
def yX8_removeTask : MethodName := ⟨RX8, "removeTask", "(I)I"⟩
abbrev cX8_links : ByteArray := prog_10_method_24_code
def yX8_links : MethodName := ⟨RX8, "links", "(II)I"⟩
abbrev cX8_addDependency : ByteArray := prog_10_method_25_code
def yX8_addDependency : MethodName := ⟨RX8, "addDependency", "(II)Z"⟩
abbrev cX8_unlinks : ByteArray := prog_10_method_26_code
def yX8_unlinks : MethodName := ⟨RX8, "unlinks", "(II)I"⟩
abbrev cX8_removeDependency : ByteArray := prog_10_method_27_code
def yX8_removeDependency : MethodName := ⟨RX8, "removeDependency", "(II)Z"⟩
abbrev cX8_sets : ByteArray := prog_10_method_28_code
def yX8_sets : MethodName := ⟨RX8, "sets", "(IIIII)I"⟩
abbrev cX8_setDuration : ByteArray := prog_10_method_29_code
def yX8_setDuration : MethodName := ⟨RX8, "setDuration", "(II)I"⟩
abbrev cX8_setRelease : ByteArray := prog_10_method_30_code
def yX8_setRelease : MethodName := ⟨RX8, "setRelease", "(II)I"⟩
abbrev cX8_limits : ByteArray := prog_10_method_31_code
def yX8_limits : MethodName := ⟨RX8, "limits", "(II)I"⟩
abbrev cX8_setLimit : ByteArray := prog_10_method_32_code
def yX8_setLimit : MethodName := ⟨RX8, "setLimit", "(II)I"⟩
abbrev cX8_marks : ByteArray := prog_10_method_33_code
def yX8_marks : MethodName := ⟨RX8, "marks", "()I"⟩
abbrev cX8_takeBaseline : ByteArray := prog_10_method_34_code
def yX8_takeBaseline : MethodName := ⟨RX8, "takeBaseline", "()I"⟩
abbrev cX8_lastOf : ByteArray := prog_10_method_35_code
def yX8_lastOf : MethodName := ⟨RX8, "lastOf", "([I)I"⟩
abbrev cX8_soonest : ByteArray := prog_10_method_36_code
def yX8_soonest : MethodName := ⟨RX8, "soonest", "(I[I)I"⟩
abbrev cX8_starts : ByteArray := prog_10_method_37_code
def yX8_starts : MethodName := ⟨RX8, "starts", "()V"⟩
abbrev cX8_puts : ByteArray := prog_10_method_38_code
def yX8_puts : MethodName := ⟨RX8, "puts", "(I)V"⟩
abbrev cX8_hasRoom : ByteArray := prog_10_method_39_code
def yX8_hasRoom : MethodName := ⟨RX8, "hasRoom", "(II)Z"⟩
abbrev cX8_levels : ByteArray := prog_10_method_40_code
def yX8_levels : MethodName := ⟨RX8, "levels", "()V"⟩
abbrev cX8_taskCount : ByteArray := prog_10_method_41_code
def yX8_taskCount : MethodName := ⟨RX8, "taskCount", "()I"⟩
abbrev cX8_asks : ByteArray := prog_10_method_42_code
def yX8_asks : MethodName := ⟨RX8, "asks", "(II)I"⟩
abbrev cX8_duration : ByteArray := prog_10_method_43_code
def yX8_duration : MethodName := ⟨RX8, "duration", "(I)I"⟩
abbrev cX8_resource : ByteArray := prog_10_method_44_code
def yX8_resource : MethodName := ⟨RX8, "resource", "(I)I"⟩
abbrev cX8_demand : ByteArray := prog_10_method_45_code
def yX8_demand : MethodName := ⟨RX8, "demand", "(I)I"⟩
abbrev cX8_release : ByteArray := prog_10_method_46_code
def yX8_release : MethodName := ⟨RX8, "release", "(I)I"⟩
abbrev cX8_limit : ByteArray := prog_10_method_47_code
def yX8_limit : MethodName := ⟨RX8, "limit", "(I)I"⟩
abbrev cX8_dependsDirectly : ByteArray := prog_10_method_48_code
def yX8_dependsDirectly : MethodName := ⟨RX8, "dependsDirectly", "(II)Z"⟩
abbrev cX8_isBehind : ByteArray := prog_10_method_49_code
def yX8_isBehind : MethodName := ⟨RX8, "isBehind", "(II)Z"⟩
abbrev cX8_depends : ByteArray := prog_10_method_50_code
def yX8_depends : MethodName := ⟨RX8, "depends", "(II)Z"⟩
abbrev cX8_dependsByClosure : ByteArray := prog_10_method_51_code
def yX8_dependsByClosure : MethodName := ⟨RX8, "dependsByClosure", "(II)Z"⟩
abbrev cX8_neededCount : ByteArray := prog_10_method_52_code
def yX8_neededCount : MethodName := ⟨RX8, "neededCount", "(I)I"⟩
abbrev cX8_dependentCount : ByteArray := prog_10_method_53_code
def yX8_dependentCount : MethodName := ⟨RX8, "dependentCount", "(I)I"⟩
abbrev cX8_taskInOrder : ByteArray := prog_10_method_54_code
def yX8_taskInOrder : MethodName := ⟨RX8, "taskInOrder", "(I)I"⟩
abbrev cX8_early : ByteArray := prog_10_method_55_code
def yX8_early : MethodName := ⟨RX8, "early", "(I)I"⟩
abbrev cX8_earliestStart : ByteArray := prog_10_method_56_code
def yX8_earliestStart : MethodName := ⟨RX8, "earliestStart", "(I)I"⟩
abbrev cX8_earliestStartByRounds : ByteArray := prog_10_method_57_code
def yX8_earliestStartByRounds : MethodName := ⟨RX8, "earliestStartByRounds", "(I)I"⟩
abbrev cX8_latestStart : ByteArray := prog_10_method_58_code
def yX8_latestStart : MethodName := ⟨RX8, "latestStart", "(I)I"⟩
abbrev cX8_slack : ByteArray := prog_10_method_59_code
def yX8_slack : MethodName := ⟨RX8, "slack", "(I)I"⟩
abbrev cX8_isCritical : ByteArray := prog_10_method_60_code
def yX8_isCritical : MethodName := ⟨RX8, "isCritical", "(I)Z"⟩
abbrev cX8_projectLength : ByteArray := prog_10_method_61_code
def yX8_projectLength : MethodName := ⟨RX8, "projectLength", "()I"⟩
abbrev cX8_criticalCount : ByteArray := prog_10_method_62_code
def yX8_criticalCount : MethodName := ⟨RX8, "criticalCount", "()I"⟩
abbrev cX8_lastTask : ByteArray := prog_10_method_63_code
def yX8_lastTask : MethodName := ⟨RX8, "lastTask", "()I"⟩
abbrev cX8_levelledStart : ByteArray := prog_10_method_64_code
def yX8_levelledStart : MethodName := ⟨RX8, "levelledStart", "(I)I"⟩
abbrev cX8_levelledLength : ByteArray := prog_10_method_65_code
def yX8_levelledLength : MethodName := ⟨RX8, "levelledLength", "()I"⟩
abbrev cX8_usageOn : ByteArray := prog_10_method_66_code
def yX8_usageOn : MethodName := ⟨RX8, "usageOn", "(II)I"⟩
abbrev cX8_usage : ByteArray := prog_10_method_67_code
def yX8_usage : MethodName := ⟨RX8, "usage", "(II)I"⟩
abbrev cX8_usageByTasks : ByteArray := prog_10_method_68_code
def yX8_usageByTasks : MethodName := ⟨RX8, "usageByTasks", "(II)I"⟩
abbrev cX8_peakUsage : ByteArray := prog_10_method_69_code
def yX8_peakUsage : MethodName := ⟨RX8, "peakUsage", "(I)I"⟩
abbrev cX8_tasksOn : ByteArray := prog_10_method_70_code
def yX8_tasksOn : MethodName := ⟨RX8, "tasksOn", "(I)I"⟩
abbrev cX8_work : ByteArray := prog_10_method_71_code
def yX8_work : MethodName := ⟨RX8, "work", "(I)I"⟩
abbrev cX8_workload : ByteArray := prog_10_method_72_code
def yX8_workload : MethodName := ⟨RX8, "workload", "(I)I"⟩
abbrev cX8_workloadByDays : ByteArray := prog_10_method_73_code
def yX8_workloadByDays : MethodName := ⟨RX8, "workloadByDays", "(I)I"⟩
abbrev cX8_hasBaseline : ByteArray := prog_10_method_74_code
def yX8_hasBaseline : MethodName := ⟨RX8, "hasBaseline", "()Z"⟩
abbrev cX8_baselineStart : ByteArray := prog_10_method_75_code
def yX8_baselineStart : MethodName := ⟨RX8, "baselineStart", "(I)I"⟩
abbrev cX8_drift : ByteArray := prog_10_method_76_code
def yX8_drift : MethodName := ⟨RX8, "drift", "(I)I"⟩
abbrev cX8_totalDrift : ByteArray := prog_10_method_77_code
def yX8_totalDrift : MethodName := ⟨RX8, "totalDrift", "()I"⟩
abbrev cX8_taskBySlack : ByteArray := prog_10_method_78_code
def yX8_taskBySlack : MethodName := ⟨RX8, "taskBySlack", "(I)I"⟩
abbrev cX8_taskByStart : ByteArray := prog_10_method_79_code
def yX8_taskByStart : MethodName := ⟨RX8, "taskByStart", "(I)I"⟩
abbrev cX8_meanSlack : ByteArray := prog_10_method_80_code
def yX8_meanSlack : MethodName := ⟨RX8, "meanSlack", "()D"⟩
abbrev cX8_utilization : ByteArray := prog_10_method_81_code
def yX8_utilization : MethodName := ⟨RX8, "utilization", "(I)F"⟩
abbrev cX8_isConsistent : ByteArray := prog_10_method_82_code
def yX8_isConsistent : MethodName := ⟨RX8, "isConsistent", "()Z"⟩
abbrev cX8_put : ByteArray := prog_10_method_83_code
def yX8_put : MethodName := ⟨RX8, "put", "(II)I"⟩
abbrev cX8_writesNumber : ByteArray := prog_10_method_84_code
def yX8_writesNumber : MethodName := ⟨RX8, "writesNumber", "(II)I"⟩
abbrev cX8_renderTask : ByteArray := prog_10_method_85_code
def yX8_renderTask : MethodName := ⟨RX8, "renderTask", "(I)I"⟩
abbrev cX8_renderUsage : ByteArray := prog_10_method_86_code
def yX8_renderUsage : MethodName := ⟨RX8, "renderUsage", "(I)I"⟩
abbrev cX8_outputAt : ByteArray := prog_10_method_87_code
def yX8_outputAt : MethodName := ⟨RX8, "outputAt", "(I)C"⟩
abbrev cX8_type : ByteArray := prog_10_method_88_code
def yX8_type : MethodName := ⟨RX8, "type", "(C)I"⟩
abbrev cX8_letterHere : ByteArray := prog_10_method_89_code
def yX8_letterHere : MethodName := ⟨RX8, "letterHere", "()I"⟩
abbrev cX8_reads : ByteArray := prog_10_method_90_code
def yX8_reads : MethodName := ⟨RX8, "reads", "(II)I"⟩
abbrev cX8_digit : ByteArray := prog_10_method_91_code
def yX8_digit : MethodName := ⟨RX8, "digit", "()I"⟩
abbrev cX8_number : ByteArray := prog_10_method_92_code
def yX8_number : MethodName := ⟨RX8, "number", "()I"⟩
abbrev cX8_sign : ByteArray := prog_10_method_93_code
def yX8_sign : MethodName := ⟨RX8, "sign", "(I)V"⟩
abbrev cX8_startOf : ByteArray := prog_10_method_94_code
def yX8_startOf : MethodName := ⟨RX8, "startOf", "(I)I"⟩
abbrev cX8_kindHere : ByteArray := prog_10_method_95_code
def yX8_kindHere : MethodName := ⟨RX8, "kindHere", "()I"⟩
abbrev cX8_readsTask : ByteArray := prog_10_method_96_code
def yX8_readsTask : MethodName := ⟨RX8, "readsTask", "(I)V"⟩
abbrev cX8_readsCommand : ByteArray := prog_10_method_97_code
def yX8_readsCommand : MethodName := ⟨RX8, "readsCommand", "()V"⟩
abbrev cX8_readsAll : ByteArray := prog_10_method_98_code
def yX8_readsAll : MethodName := ⟨RX8, "readsAll", "()V"⟩
abbrev cX8_does : ByteArray := prog_10_method_99_code
def yX8_does : MethodName := ⟨RX8, "does", "(I)I"⟩
abbrev cX8_letterFor : ByteArray := prog_10_method_100_code
def yX8_letterFor : MethodName := ⟨RX8, "letterFor", "(I)I"⟩
abbrev cX8_runScript : ByteArray := prog_10_method_101_code
def yX8_runScript : MethodName := ⟨RX8, "runScript", "()I"⟩
abbrev cX8_errorPosition : ByteArray := prog_10_method_102_code
def yX8_errorPosition : MethodName := ⟨RX8, "errorPosition", "()I"⟩
abbrev cX8_failedCommand : ByteArray := prog_10_method_103_code
def yX8_failedCommand : MethodName := ⟨RX8, "failedCommand", "()I"⟩
abbrev cX8_failureReason : ByteArray := prog_10_method_104_code
def yX8_failureReason : MethodName := ⟨RX8, "failureReason", "()C"⟩
def RJx145de : String := "java/io/Serializable"
def TJx145de : u_T := fun k => match k with
  | _ => ("", "", "", false)
def RJx00060 : String := "java/lang/ArrayIndexOutOfBoundsException"
def TJx00060 : u_T := fun k => match k with
  | 0 => ("java/lang/Throwable", "backtrace", "Ljava/lang/Object;", false)
  | 1 => ("java/lang/Throwable", "detailMessage", "Ljava/lang/String;", false)
  | 2 => ("java/lang/Throwable", "cause", "Ljava/lang/Throwable;", false)
  | 3 => ("java/lang/Throwable", "stackTrace", "[Ljava/lang/StackTraceElement;", false)
  | 4 => ("java/lang/Throwable", "depth", "I", false)
  | _ => ("java/lang/Throwable", "suppressedExceptions", "Ljava/util/List;", false)
def RJx9f9b0 : String := "java/lang/CharSequence"
def TJx9f9b0 : u_T := fun k => match k with
  | _ => ("", "", "", false)
def RJxb160c : String := "java/lang/Comparable"
def TJxb160c : u_T := fun k => match k with
  | _ => ("", "", "", false)
def RJx29ce0 : String := "java/lang/Enum"
def TJx29ce0 : u_T := fun k => match k with
  | _ => ("", "", "", false)
def RJ6 : String := "java/lang/Integer"
def TJ6 : u_T := fun k => match k with
  | _ => ("", "", "", false)
def tyJ6 : Nat → FieldType := fun k => match k with
  | _ => .int
abbrev cJ6_bitCount_0f7a4 : ByteArray := prog_21_method_49_code
def yJ6_bitCount_0f7a4 : MethodName := ⟨RJ6, "bitCount", "(I)I"⟩
def RJ9 : String := "java/lang/Math"
def TJ9 : u_T := fun k => match k with
  | _ => ("", "", "", false)
def tyJ9 : Nat → FieldType := fun k => match k with
  | _ => .int
abbrev cJ9_abs_0f7a4 : ByteArray := prog_22_method_59_code
def yJ9_abs_0f7a4 : MethodName := ⟨RJ9, "abs", "(I)I"⟩
abbrev cJ9_max_7cf53 : ByteArray := prog_22_method_65_code
def yJ9_max_7cf53 : MethodName := ⟨RJ9, "max", "(II)I"⟩
abbrev cJ9_min_7cf53 : ByteArray := prog_22_method_69_code
def yJ9_min_7cf53 : MethodName := ⟨RJ9, "min", "(II)I"⟩
def RJ0 : String := "java/lang/String"
def TJ0 : u_T := fun k => match k with
  | 0 => ("java/lang/String", "value", "[B", true)
  | _ => ("java/lang/String", "coder", "B", true)
def tyJ0 : Nat → FieldType := fun k => match k with
  | 0 => .array .byte
  | _ => .byte
abbrev cJ0_length_8abf5 : ByteArray := prog_24_method_54_code
def yJ0_length_8abf5 : MethodName := ⟨RJ0, "length", "()I"⟩
abbrev cJ0_charAt_5068e : ByteArray := prog_24_method_56_code
def yJ0_charAt_5068e : MethodName := ⟨RJ0, "charAt", "(I)C"⟩
abbrev cJ0_coder_7d493 : ByteArray := prog_24_method_152_code
def yJ0_coder_7d493 : MethodName := ⟨RJ0, "coder", "()B"⟩
abbrev cJ0_isLatin1_aae02 : ByteArray := prog_24_method_154_code
def yJ0_isLatin1_aae02 : MethodName := ⟨RJ0, "isLatin1", "()Z"⟩
abbrev cJ0_checkIndex_df160 : ByteArray := prog_24_method_155_code
def yJ0_checkIndex_df160 : MethodName := ⟨RJ0, "checkIndex", "(II)V"⟩
def RJ1 : String := "java/lang/StringLatin1"
def TJ1 : u_T := fun k => match k with
  | _ => ("", "", "", false)
def tyJ1 : Nat → FieldType := fun k => match k with
  | _ => .int
abbrev cJ1_charAt_3b067 : ByteArray := prog_25_method_2_code
def yJ1_charAt_3b067 : MethodName := ⟨RJ1, "charAt", "([BI)C"⟩
def RJ2 : String := "java/lang/StringUTF16"
def TJ2 : u_T := fun k => match k with
  | _ => ("", "", "", false)
def tyJ2 : Nat → FieldType := fun k => match k with
  | _ => .int
abbrev cJ2_getChar_3b067 : ByteArray := prog_26_method_5_code
def yJ2_getChar_3b067 : MethodName := ⟨RJ2, "getChar", "([BI)C"⟩
abbrev cJ2_length_9d52b : ByteArray := prog_26_method_6_code
def yJ2_length_9d52b : MethodName := ⟨RJ2, "length", "([B)I"⟩
abbrev cJ2_charAt_3b067 : ByteArray := prog_26_method_83_code
def yJ2_charAt_3b067 : MethodName := ⟨RJ2, "charAt", "([BI)C"⟩
abbrev cJ2_checkIndex_2214a : ByteArray := prog_26_method_91_code
def yJ2_checkIndex_2214a : MethodName := ⟨RJ2, "checkIndex", "(I[B)V"⟩
def RJxfd54e : String := "java/lang/constant/Constable"
def TJxfd54e : u_T := fun k => match k with
  | _ => ("", "", "", false)
def RJx3cf43 : String := "java/lang/constant/ConstantDesc"
def TJx3cf43 : u_T := fun k => match k with
  | _ => ("", "", "", false)
def RJ3 : String := "jdk/internal/util/Preconditions"
def TJ3 : u_T := fun k => match k with
  | _ => ("", "", "", false)
def tyJ3 : Nat → FieldType := fun k => match k with
  | _ => .int
abbrev cJ3_checkIndex_8e157 : ByteArray := prog_32_method_11_code
def yJ3_checkIndex_8e157 : MethodName := ⟨RJ3, "checkIndex", "(IILjava/util/function/BiFunction;)I"⟩
def RL : String := "TaskLevellerLaw"
abbrev cL_addTask : ByteArray := method_3_code
def yL_addTask : MethodName := ⟨RL, "addTask", "(LTaskLeveller;IIII[J)I"⟩
abbrev cL_removeTask : ByteArray := method_4_code
def yL_removeTask : MethodName := ⟨RL, "removeTask", "(LTaskLeveller;I[J)I"⟩
abbrev cL_addDependency : ByteArray := method_5_code
def yL_addDependency : MethodName := ⟨RL, "addDependency", "(LTaskLeveller;II[J)I"⟩
abbrev cL_removeDependency : ByteArray := method_6_code
def yL_removeDependency : MethodName := ⟨RL, "removeDependency", "(LTaskLeveller;II[J)I"⟩
abbrev cL_setDuration : ByteArray := method_7_code
def yL_setDuration : MethodName := ⟨RL, "setDuration", "(LTaskLeveller;II[J)I"⟩
abbrev cL_setRelease : ByteArray := method_8_code
def yL_setRelease : MethodName := ⟨RL, "setRelease", "(LTaskLeveller;II[J)I"⟩
abbrev cL_setLimit : ByteArray := method_9_code
def yL_setLimit : MethodName := ⟨RL, "setLimit", "(LTaskLeveller;II[J)I"⟩
abbrev cL_duration : ByteArray := method_10_code
def yL_duration : MethodName := ⟨RL, "duration", "(LTaskLeveller;I[J)I"⟩
abbrev cL_resource : ByteArray := method_11_code
def yL_resource : MethodName := ⟨RL, "resource", "(LTaskLeveller;I[J)I"⟩
abbrev cL_demand : ByteArray := method_12_code
def yL_demand : MethodName := ⟨RL, "demand", "(LTaskLeveller;I[J)I"⟩
abbrev cL_release : ByteArray := method_13_code
def yL_release : MethodName := ⟨RL, "release", "(LTaskLeveller;I[J)I"⟩
abbrev cL_limit : ByteArray := method_14_code
def yL_limit : MethodName := ⟨RL, "limit", "(LTaskLeveller;I[J)I"⟩
abbrev cL_dependsDirectly : ByteArray := method_15_code
def yL_dependsDirectly : MethodName := ⟨RL, "dependsDirectly", "(LTaskLeveller;II[J)I"⟩
abbrev cL_depends : ByteArray := method_16_code
def yL_depends : MethodName := ⟨RL, "depends", "(LTaskLeveller;II[J)I"⟩
abbrev cL_dependsByClosure : ByteArray := method_17_code
def yL_dependsByClosure : MethodName := ⟨RL, "dependsByClosure", "(LTaskLeveller;II[J)I"⟩
abbrev cL_neededCount : ByteArray := method_18_code
def yL_neededCount : MethodName := ⟨RL, "neededCount", "(LTaskLeveller;I[J)I"⟩
abbrev cL_dependentCount : ByteArray := method_19_code
def yL_dependentCount : MethodName := ⟨RL, "dependentCount", "(LTaskLeveller;I[J)I"⟩
abbrev cL_taskInOrder : ByteArray := method_20_code
def yL_taskInOrder : MethodName := ⟨RL, "taskInOrder", "(LTaskLeveller;I[J)I"⟩
abbrev cL_earliestStart : ByteArray := method_21_code
def yL_earliestStart : MethodName := ⟨RL, "earliestStart", "(LTaskLeveller;I[J)I"⟩
abbrev cL_earliestStartByRounds : ByteArray := method_22_code
def yL_earliestStartByRounds : MethodName := ⟨RL, "earliestStartByRounds", "(LTaskLeveller;I[J)I"⟩
abbrev cL_latestStart : ByteArray := method_23_code
def yL_latestStart : MethodName := ⟨RL, "latestStart", "(LTaskLeveller;I[J)I"⟩
abbrev cL_slack : ByteArray := method_24_code
def yL_slack : MethodName := ⟨RL, "slack", "(LTaskLeveller;I[J)I"⟩
abbrev cL_isCritical : ByteArray := method_25_code
def yL_isCritical : MethodName := ⟨RL, "isCritical", "(LTaskLeveller;I[J)I"⟩
abbrev cL_lastTask : ByteArray := method_26_code
def yL_lastTask : MethodName := ⟨RL, "lastTask", "(LTaskLeveller;[J)I"⟩
abbrev cL_levelledStart : ByteArray := method_27_code
def yL_levelledStart : MethodName := ⟨RL, "levelledStart", "(LTaskLeveller;I[J)I"⟩
abbrev cL_usage : ByteArray := method_28_code
def yL_usage : MethodName := ⟨RL, "usage", "(LTaskLeveller;II[J)I"⟩
abbrev cL_usageByTasks : ByteArray := method_29_code
def yL_usageByTasks : MethodName := ⟨RL, "usageByTasks", "(LTaskLeveller;II[J)I"⟩
abbrev cL_peakUsage : ByteArray := method_30_code
def yL_peakUsage : MethodName := ⟨RL, "peakUsage", "(LTaskLeveller;I[J)I"⟩
abbrev cL_tasksOn : ByteArray := method_31_code
def yL_tasksOn : MethodName := ⟨RL, "tasksOn", "(LTaskLeveller;I[J)I"⟩
abbrev cL_workload : ByteArray := method_32_code
def yL_workload : MethodName := ⟨RL, "workload", "(LTaskLeveller;I[J)I"⟩
abbrev cL_workloadByDays : ByteArray := method_33_code
def yL_workloadByDays : MethodName := ⟨RL, "workloadByDays", "(LTaskLeveller;I[J)I"⟩
abbrev cL_baselineStart : ByteArray := method_34_code
def yL_baselineStart : MethodName := ⟨RL, "baselineStart", "(LTaskLeveller;I[J)I"⟩
abbrev cL_drift : ByteArray := method_35_code
def yL_drift : MethodName := ⟨RL, "drift", "(LTaskLeveller;I[J)I"⟩
abbrev cL_totalDrift : ByteArray := method_36_code
def yL_totalDrift : MethodName := ⟨RL, "totalDrift", "(LTaskLeveller;[J)I"⟩
abbrev cL_taskBySlack : ByteArray := method_37_code
def yL_taskBySlack : MethodName := ⟨RL, "taskBySlack", "(LTaskLeveller;I[J)I"⟩
abbrev cL_taskByStart : ByteArray := method_38_code
def yL_taskByStart : MethodName := ⟨RL, "taskByStart", "(LTaskLeveller;I[J)I"⟩
abbrev cL_meanSlack : ByteArray := method_39_code
def yL_meanSlack : MethodName := ⟨RL, "meanSlack", "(LTaskLeveller;[D)I"⟩
abbrev cL_utilization : ByteArray := method_40_code
def yL_utilization : MethodName := ⟨RL, "utilization", "(LTaskLeveller;I[D)I"⟩
abbrev cL_renderTask : ByteArray := method_41_code
def yL_renderTask : MethodName := ⟨RL, "renderTask", "(LTaskLeveller;I[J)I"⟩
abbrev cL_renderUsage : ByteArray := method_42_code
def yL_renderUsage : MethodName := ⟨RL, "renderUsage", "(LTaskLeveller;I[J)I"⟩
abbrev cL_outputAt : ByteArray := method_43_code
def yL_outputAt : MethodName := ⟨RL, "outputAt", "(LTaskLeveller;I[J)I"⟩
abbrev cL_type : ByteArray := method_44_code
def yL_type : MethodName := ⟨RL, "type", "(LTaskLeveller;C[J)I"⟩
abbrev cL_runScript : ByteArray := method_45_code
def yL_runScript : MethodName := ⟨RL, "runScript", "(LTaskLeveller;[J)I"⟩
abbrev cL_errorPosition : ByteArray := method_46_code
def yL_errorPosition : MethodName := ⟨RL, "errorPosition", "(LTaskLeveller;[J)I"⟩
abbrev cL_failedCommand : ByteArray := method_47_code
def yL_failedCommand : MethodName := ⟨RL, "failedCommand", "(LTaskLeveller;[J)I"⟩
abbrev cL_failureReason : ByteArray := method_48_code
def yL_failureReason : MethodName := ⟨RL, "failureReason", "(LTaskLeveller;[J)I"⟩
abbrev cL_undo : ByteArray := method_49_code
def yL_undo : MethodName := ⟨RL, "undo", "(LTaskLeveller;[J)I"⟩
abbrev cL_restore : ByteArray := method_50_code
def yL_restore : MethodName := ⟨RL, "restore", "(LTaskLeveller;[J)I"⟩
abbrev cL_law : ByteArray := code
def yL_law : MethodName := ⟨RL, "law", "([I)Z"⟩
end
section
/-! THE ABSTRACT LAYER: all cells of the run by kind, instance and place; a row an instruction over it (names of this part: q..) -/
/-- the words of the tables that every method may use -/
def qok : Cond → Bool
  | .methodLinkNest .. => true
  | .fieldLinkNest .. => true
  | .castable .. => true
  | .declares _ => true
  | w => goodWord w
def qWA : List Cond := lw_tbl.filter qok
theorem qWA_in {w : Cond} (h : w ∈ lw_tbl) (h2 : qok w = true) : w ∈ qWA := List.mem_filter.mpr ⟨h, h2⟩
theorem qok_warm {w : Cond} (hk : qok w = true) {a a' : Array Value} {s U : State} (hW : s.WarmedH U.vm) (h : w.before a s = true) : w.before a' U = true := by
  cases w
  case methodLinkNest => exact va_Nw.use rfl (va_Nw.warmM hW (va_Nw.of rfl h))
  case fieldLinkNest => exact va_Nw.use rfl (va_Nw.warmF hW (va_Nw.of rfl h))
  case castable => exact va_Nw.use rfl (va_Nw.warmC hW (va_Nw.of rfl h))
  case declares => exact va_Nw.use rfl (va_Nw.warmD hW (va_Nw.of rfl h))
  all_goals exact word_at hW (good_of_word hk) h
/-- the fixed things of a run: class ids, array class ids, addresses by kind and instance, the first address that the run may write -/
abbrev qG : Type := va_G × (Nat → ClassId) × (Nat → Nat → Nat) × Nat
abbrev qA : Type := Value ⊕ (Nat × Nat)
def qcv (g : qG) (v : qA) : Value := match v with
  | .inl v => v
  | .inr q => .ref (g.2.2.1 q.1 q.2)
abbrev qI (x : Int32) : qA := .inl (.int x)
abbrev qR (k j : Nat) : qA := .inr (k, j)
abbrev qS : Type := Nat → Nat → Nat → Int32
abbrev qO : Type := (Option qA ⊕ String) × qS
def qu (σ : qS) (k j i : Nat) (v : Int32) : qS := fun a b => if a = k ∧ b = j then upd (σ a b) i v else σ a b
abbrev qAf (g : qG) : Nat → Prop := fun q => g.2.2.2 ≤ q
/-- the classes of the objects -/
abbrev qcls : List vw_C := [(RX2, TX2, 3), (RX3, TX3, 2), (RX4, TX4, 9), (RX5, TX5, 9), (RX6, TX6, 6), (RX7, TX7, 13), (RX8, TX8, 23)]
/-- what a kind is: 0 an object, 1 ints, 2 chars, 3 the states, 4 the commands, 5 a long, 6 a double -/
def qsh (k : Nat) : Nat := match k with
  | 0 => 0 | 1 => 0 | 9 => 0 | 11 => 0 | 19 => 0 | 23 => 0 | 26 => 0
  | 10 => 3 | 21 => 4 | 38 => 5 | 39 => 6 | 20 => 2 | 24 => 2
  | _ => 1
def qlen (k : Nat) : Nat := match k with
  | 8 => 3 | 10 => 8 | 18 => 414 | 20 => 60 | 21 => 60 | 22 => 240 | 24 => 414
  | 27 => 77 | 28 => 77 | 29 => 77 | 30 => 616 | 34 => 480 | 35 => 60 | 36 => 600 | 37 => 150
  | 38 => 1 | 39 => 1
  | _ => 12
/-- how many of a kind there are -/
def qn (k : Nat) : Nat := match k with
  | 1 => 11 | 2 => 11 | 3 => 11 | 4 => 11 | 5 => 11 | 6 => 11 | 7 => 11 | 8 => 11
  | _ => 1
def qci (k : Nat) : Nat := match k with
  | 0 => 5 | 1 => 3 | 9 => 0 | 11 => 2 | 19 => 4 | 23 => 1 | _ => 6
/-- an object's fields: a number, or the kind (and how far on in its instances) of the cell that it names -/
def qfs (k : Nat) : List (Option (Nat × Nat)) := match k with
  | 0 => [some (1, 0), some (1, 1), some (1, 2), some (9, 0), some (11, 0), some (19, 0), some (23, 0), some (25, 0), none, none, none, none, none]
  | 1 => [some (2, 0), some (3, 0), some (4, 0), some (5, 0), some (6, 0), some (7, 0), some (8, 0), none, none]
  | 9 => [some (10, 0), none, none]
  | 11 => [some (12, 0), some (13, 0), some (14, 0), some (15, 0), some (16, 0), some (17, 0), some (18, 0), none, none]
  | 19 => [some (20, 0), some (21, 0), some (22, 0), none, none, none]
  | 23 => [some (24, 0), none]
  | 26 => [some (27, 0), some (28, 0), some (29, 0), some (30, 0), none, none, none, none, none, some (31, 0), some (32, 0), some (33, 0), some (34, 0), some (35, 0), none, some (36, 0), none, none, none, none, none, none, some (37, 0)]
  | _ => []
def qfv (g : qG) (j : Nat) (r : Nat → Int32) (f : Option (Nat × Nat)) (i : Nat) : Value := match f with
  | some q => .ref (g.2.2.1 q.1 (j + q.2))
  | none => .int (r i)
def qfl (g : qG) (j : Nat) (r : Nat → Int32) : Nat → List (Option (Nat × Nat)) → List Value
  | _, [] => []
  | i, f :: t => qfv g j r f i :: qfl g j r (i + 1) t
/-- a double's bits out of two ints, and back -/
def qdb (a b : Int32) : UInt64 := a.toUInt32.toUInt64 <<< 32 ||| b.toUInt32.toUInt64
def qent (g : qG) (k j : Nat) (r : Nat → Int32) : va_E :=
  if qsh k = 0 then .inr (qci k, qfl g j r 0 (qfs k))
  else if qsh k = 1 then .inl (g.2.1 0, qlen k, .inl r)
  else if qsh k = 2 then .inl (g.2.1 1, qlen k, .inl r)
  else if qsh k = 3 then .inl (g.2.1 2, qlen k, .inr (.inr (.inr (.inr (fun i => some (g.2.2.1 1 (3 + i)))))))
  else if qsh k = 4 then .inl (g.2.1 3, qlen k, .inr (.inr (.inr (.inr (fun i => if r i = 0 then none else some (g.2.2.1 40 (r i - 1).toNatClampNeg))))))
  else if qsh k = 5 then .inl (g.2.1 4, qlen k, .inr (.inl (fun i => (r i).toInt64)))
  else .inl (g.2.1 5, qlen k, .inr (.inr (.inr (.inl (fun i => qdb (r (2 * i)) (r (2 * i + 1)))))))
def qcl : List (Nat × Nat) := (List.range 40).flatMap (fun k => (List.range (qn k)).map (fun j => (k, j)))
theorem qcl_in {k j : Nat} (hk : k < 40) (hj : j < qn k) : (k, j) ∈ qcl := List.mem_flatMap.mpr ⟨k, List.mem_range.mpr hk, List.mem_map.mpr ⟨j, List.mem_range.mpr hj, rfl⟩⟩
def qws (g : qG) (σ : qS) : va_W := qcl.map (fun q => (g.2.2.1 q.1 q.2, qent g q.1 q.2 (σ q.1 q.2)))
def qtys (g : qG) : List (ClassId × FieldType) := [(g.2.1 0, .int), (g.2.1 1, .char), (g.2.1 2, .object RX5), (g.2.1 3, .object RX1), (g.2.1 4, .long), (g.2.1 5, .double)]
def qH (g : qG) (σ : qS) (H : Heap) : Prop := va_P g.1 qcls (qws g σ) H ∧ va_D (qAf g) (qws g σ)
theorem qws_at (g : qG) (σ : qS) {k j : Nat} (hk : k < 40) (hj : j < qn k) : ∃ q0 : Nat, qcl[q0]? = some (k, j) ∧ (qws g σ)[q0]? = some (g.2.2.1 k j, qent g k j (σ k j)) := by
  obtain ⟨q0, h⟩ := List.getElem?_of_mem (qcl_in hk hj)
  exact ⟨q0, h, by simp [qws, h]⟩
theorem qu_row (σ : qS) (k j i : Nat) (v : Int32) : qu σ k j i v k j = upd (σ k j) i v := by simp [qu]
theorem qu_other (σ : qS) {k j i a b : Nat} {v : Int32} (h : ¬ (a = k ∧ b = j)) : qu σ k j i v a b = σ a b := by simp [qu, h]
/-- one cell's row is written -/
theorem qws_setL {c : List (Nat × Nat)} {g : qG} {σ σ' : qS} {q0 k j : Nat} {e0 : va_E} {A : Nat → Prop} {w : va_W} (hw : w = c.map (fun q => (g.2.2.1 q.1 q.2, qent g q.1 q.2 (σ q.1 q.2)))) (hD : va_D A w) (hq : c[q0]? = some (k, j)) (h0 : w[q0]? = some (g.2.2.1 k j, e0)) (ho : ∀ a b, ¬ (a = k ∧ b = j) → σ' a b = σ a b) :
    w.set q0 (g.2.2.1 k j, qent g k j (σ' k j)) = c.map (fun q => (g.2.2.1 q.1 q.2, qent g q.1 q.2 (σ' q.1 q.2))) := by
  have hl : q0 < w.length := (List.getElem?_eq_some_iff.mp h0).1
  apply List.ext_getElem?
  intro i
  by_cases hi : i = q0
  · subst hi
    rw [List.getElem?_set_self hl]
    simp [hq]
  · rw [List.getElem?_set_ne (Ne.symm hi), hw, List.getElem?_map, List.getElem?_map]
    cases hc : c[i]? with
    | none => rw [Option.map_none, Option.map_none]
    | some q =>
      obtain ⟨a, b⟩ := q
      have hne : ¬ (a = k ∧ b = j) := by
        rintro ⟨rfl, rfl⟩
        refine hi (hD.1 i q0 (g.2.2.1 a b, qent g a b (σ a b)) _ ?_ h0 rfl)
        rw [hw, List.getElem?_map, hc]
        rfl
      rw [Option.map_some, Option.map_some]
      dsimp only
      rw [ho a b hne]
theorem qws_set {g : qG} {σ σ' : qS} {q0 k j : Nat} {e0 : va_E} (hD : va_D (qAf g) (qws g σ)) (hq : qcl[q0]? = some (k, j)) (h0 : (qws g σ)[q0]? = some (g.2.2.1 k j, e0)) (ho : ∀ a b, ¬ (a = k ∧ b = j) → σ' a b = σ a b) :
    (qws g σ).set q0 (g.2.2.1 k j, qent g k j (σ' k j)) = qws g σ' := qws_setL (c := qcl) rfl hD hq h0 ho
theorem qws_set' {g : qG} {σ : qS} {q0 k j i : Nat} {e0 e1 : va_E} {v : Int32} (hD : va_D (qAf g) (qws g σ)) (hq : qcl[q0]? = some (k, j)) (h0 : (qws g σ)[q0]? = some (g.2.2.1 k j, e0)) (he : e1 = qent g k j (upd (σ k j) i v)) :
    (qws g σ).set q0 (g.2.2.1 k j, e1) = qws g (qu σ k j i v) := by
  subst he
  rw [← qu_row σ k j i v]
  exact qws_set hD hq h0 (fun a b h => qu_other σ h)
theorem qfl_get (g : qG) (j : Nat) (r : Nat → Int32) : ∀ (l : List (Option (Nat × Nat))) (n i : Nat) (f : Option (Nat × Nat)), l[i]? = some f → (qfl g j r n l)[i]? = some (qfv g j r f (n + i))
  | [], _, _, _, h => by simp at h
  | a :: t, n, 0, f, h => by simp at h; subst h; simp [qfl]
  | a :: t, n, i + 1, f, h => by
    simp only [List.getElem?_cons_succ] at h
    simp only [qfl, List.getElem?_cons_succ]
    rw [qfl_get g j r t (n + 1) i f h]
    congr 2; omega
theorem qfl_len (g : qG) (j : Nat) (r : Nat → Int32) : ∀ (l : List (Option (Nat × Nat))) (n : Nat), (qfl g j r n l).length = l.length
  | [], _ => rfl
  | a :: t, n => by simp [qfl, qfl_len g j r t (n + 1)]
theorem qfl_same (g : qG) (j : Nat) (r : Nat → Int32) (v : Int32) : ∀ (l : List (Option (Nat × Nat))) (n i : Nat), i < n → qfl g j (upd r i v) n l = qfl g j r n l
  | [], _, _, _ => rfl
  | a :: t, n, i, h => by
    simp only [qfl]
    rw [qfl_same g j r v t (n + 1) i (by omega)]
    congr 1
    cases a with
    | none => simp [qfv, upd, show ¬ n = i by omega]
    | some q => rfl
theorem qfl_set (g : qG) (j : Nat) (r : Nat → Int32) (v : Int32) : ∀ (l : List (Option (Nat × Nat))) (n i : Nat), l[i]? = some none → (qfl g j r n l).set i (.int v) = qfl g j (upd r (n + i) v) n l
  | [], _, _, h => by simp at h
  | a :: t, n, 0, h => by
    simp at h; subst h
    simp only [qfl, List.set_cons_zero]
    rw [qfl_same g j r v t (n + 1) (n + 0) (by omega)]
    simp [qfv, upd]
  | a :: t, n, i + 1, h => by
    simp only [List.getElem?_cons_succ] at h
    simp only [qfl, List.set_cons_succ]
    rw [qfl_set g j r v t (n + 1) i h]
    rw [show n + 1 + i = n + (i + 1) by omega]
    congr 1
    cases a with
    | none => simp [qfv, upd]
    | some q => rfl
theorem qent0 {g : qG} {k j : Nat} {r : Nat → Int32} (h : qsh k = 0) : qent g k j r = .inr (qci k, qfl g j r 0 (qfs k)) := by simp [qent, h]
theorem qent1 {g : qG} {k j : Nat} {r : Nat → Int32} (h : qsh k = 1) : qent g k j r = .inl (g.2.1 0, qlen k, .inl r) := by simp [qent, h]
theorem qent2 {g : qG} {k j : Nat} {r : Nat → Int32} (h : qsh k = 2) : qent g k j r = .inl (g.2.1 1, qlen k, .inl r) := by simp [qent, h]
theorem qent3 {g : qG} {k j : Nat} {r : Nat → Int32} (h : qsh k = 3) : qent g k j r = .inl (g.2.1 2, qlen k, .inr (.inr (.inr (.inr (fun i => some (g.2.2.1 1 (3 + i))))))) := by simp [qent, h]
theorem qent4 {g : qG} {k j : Nat} {r : Nat → Int32} (h : qsh k = 4) : qent g k j r = .inl (g.2.1 3, qlen k, .inr (.inr (.inr (.inr (fun i => if r i = 0 then none else some (g.2.2.1 40 (r i - 1).toNatClampNeg)))))) := by simp [qent, h]
theorem qent5 {g : qG} {k j : Nat} {r : Nat → Int32} (h : qsh k = 5) : qent g k j r = .inl (g.2.1 4, qlen k, .inr (.inl (fun i => (r i).toInt64))) := by simp [qent, h]
theorem qent6 {g : qG} {k j : Nat} {r : Nat → Int32} (h : qsh k = 6) : qent g k j r = .inl (g.2.1 5, qlen k, .inr (.inr (.inr (.inl (fun i => qdb (r (2 * i)) (r (2 * i + 1))))))) := by simp [qent, h]
end
section
/-! THE ENVIRONMENT of a run: tables' words and what never changes (names: q..) -/
def qthr : List (Nat × String) := [(398, "no such task"), (400, "an argument is out of its range"), (402, "there is no room for another task"), (406, "a task would depend on itself"), (390, "no such resource"), (185, "no such position"), (208, "there are no tasks"), (392, "the day is negative"), (394, "the task has no baseline start"), (244, "there is no baseline"), (388, "no such rank"), (286, "no such character"), (299, "not a character of a script"), (305, "the script buffer is full"), (317, "the script does not have the required form"), (329, "a command failed"), (331, "no script was without the required form"), (396, "no command of a script failed"), (337, "there is nothing to undo"), (348, "there is no snapshot")]
abbrev qIOE : String := "java/lang/IndexOutOfBoundsException"
abbrev qIAE : String := "java/lang/IllegalArgumentException"
abbrev qISE : String := "java/lang/IllegalStateException"
abbrev qUOE : String := "java/lang/UnsupportedOperationException"
abbrev qNSE : String := "java/util/NoSuchElementException"
abbrev qARE : String := "java/lang/ArithmeticException"
def qncs : List (String × String) := [(qISE, qIAE), (qIAE, qIOE), (qUOE, qIOE), (qUOE, qIAE), (qNSE, qIOE), (qARE, qIAE)]
def qstx : List (List Int32) := [[116, 97, 115, 107, 32, 35, 32, 35, 32, 35, 32, 37], [100, 114, 111, 112, 32, 37], [108, 105, 110, 107, 32, 37, 62, 37], [117, 110, 108, 105, 110, 107, 32, 37, 62, 37], [108, 105, 109, 105, 116, 32, 35, 32, 37], [114, 101, 115, 105, 122, 101, 32, 37, 32, 35], [100, 101, 108, 97, 121, 32, 37, 32, 37], [109, 97, 114, 107],
  [116, 97, 115, 107, 32, 100, 114, 111, 112, 32, 108, 105, 110, 107, 32, 117, 110, 108, 105, 110, 107, 32, 108, 105, 109, 105, 116, 32, 114, 101, 115, 105, 122, 101, 32, 100, 101, 108, 97, 121, 32, 109, 97, 114, 107]]
/-- a text's length, its signs -/
def qsl (i : Nat) : Nat := (qstx.getD i []).length
def qsc (i j : Nat) : Int32 := (qstx.getD i []).getD j 0
def qkm (j : Nat) : Int32 := if j = 7 then 0 else nI (j + 1)
def qkS (g : qG) (U : State) (H : Heap) : Prop := ∀ i : Nat, i < 9 → va_O "java/lang/String" (g.2.2.1 42 i) (qAf g) U H ∧ va_OF "java/lang/String" "coder" "B" (.int 0) (g.2.2.1 42 i) (qAf g) U H ∧ va_OF "java/lang/String" "value" "[B" (.ref (g.2.2.1 44 i)) (g.2.2.1 42 i) (qAf g) U H ∧ va_T .byte (g.2.2.1 44 i) (qsl i) (fun j => .int (qsc i j)) (qAf g) U H
def qK (g : qG) (U : State) (H : Heap) : Prop :=
  (∀ i : Nat, i < 8 → va_O RX1 (g.2.2.1 40 i) (qAf g) U H) ∧ va_Ef 8 RX1 "form" "Ljava/lang/String;" (fun i => .ref (g.2.2.1 42 i)) (g.2.2.1 40) (qAf g) U H ∧ va_Ef 8 "java/lang/Enum" "ordinal" "I" (fun i => .int (nI i)) (g.2.2.1 40) (qAf g) U H ∧
  va_Z RX7 "COMMANDS" "[LTaskLeveller$Command;" (.ref (g.2.2.1 41 0)) (qAf g) U H ∧ va_T (.object RX1) (g.2.2.1 41 0) 8 (fun j => .ref (g.2.2.1 40 j)) (qAf g) U H ∧ qkS g U H ∧
  va_Z RX0 "$SwitchMap$TaskLeveller$Command" "[I" (.ref (g.2.2.1 43 0)) (qAf g) U H ∧ va_T .int (g.2.2.1 43 0) 8 (fun j => .int (qkm j)) (qAf g) U H ∧ (va_Z "java/lang/String" "COMPACT_STRINGS" "Z" (.int 1) (qAf g) U H ∧ va_Zq "jdk/internal/util/Preconditions" "SIOOBE_FORMATTER" "Ljava/util/function/BiFunction;" (qAf g) U H) ∧
  vx_Zq Bundle.tN "UNASSIGNED_STACK" Bundle.steD (qAf g) U H ∧ vx_Zq Bundle.tN "SUPPRESSED_SENTINEL" Bundle.listD (qAf g) U H
/-- of the tables alone -/
def qKt (g : qG) (U : State) : Prop := va_K g.1 qcls (qtys g) U ∧ (∀ w ∈ qWA, w.before #[] U = true) ∧ vk_R RX8 218 "task drop link unlink limit resize delay mark" (g.2.2.1 42 8) U ∧ (∀ q ∈ qthr, ∃ a : Nat, vk_R RX7 q.1 q.2 a U) ∧ ∀ q ∈ qncs, va_Nc q.1 q.2 U
def qE (g : qG) (U : State) (H : Heap) : Prop := qKt g U ∧ g.2.2.2 ≤ H.size ∧ qK g U H
theorem va_Nc_warm {C T : String} {s U : State} (hvm : s.vm.Alike U.vm) (h : va_Nc C T s) : va_Nc C T U := by
  obtain ⟨c, t, h1, h2, h3⟩ := h
  exact ⟨c, t, by rw [hvm.findClass]; exact h1, by rw [hvm.findClass]; exact h2, by rw [hvm.assignable]; exact h3⟩
theorem qKt.warm {g : qG} {s U : State} (hW : s.WarmedH U.vm) (h : qKt g s) : qKt g U := by
  obtain ⟨h1, h2, h3, h4, h5⟩ := h
  refine ⟨va_K.moved hW.alike h1, fun w hw => qok_warm (List.mem_filter.mp hw).2 hW (h2 w hw), vk_R.warm hW h3, fun q hq => ?_, fun q hq => va_Nc_warm hW.alike (h5 q hq)⟩
  obtain ⟨a, ha⟩ := h4 q hq
  exact ⟨a, vk_R.warm hW ha⟩
theorem qK.moved {g : qG} {u U : State} {H : Heap} (hvm : u.vm.Alike U.vm) (h : qK g u H) : qK g U H := by
  obtain ⟨h1, h2, h3, h4, h5, h6, h7, h8, h9, h10, h11⟩ := h
  exact ⟨fun i hi => va_O.moved hvm (h1 i hi), va_Ef.moved hvm h2, va_Ef.moved hvm h3, va_Z.moved hvm h4, va_T.moved hvm h5,
    fun i hi => ⟨va_O.moved hvm (h6 i hi).1, va_OF.moved hvm (h6 i hi).2.1, va_OF.moved hvm (h6 i hi).2.2.1, va_T.moved hvm (h6 i hi).2.2.2⟩,
    va_Z.moved hvm h7, va_T.moved hvm h8, ⟨va_Z.moved hvm h9.1, va_Zq.moved hvm h9.2⟩, vx_Zq.moved hvm h10, vx_Zq.moved hvm h11⟩
theorem qK.kept {g : qG} {U : State} {H H1 : Heap} (h : qK g U H) (hq : ∀ a : Nat, a < H.size → ¬ qAf g a → H1[a]? = H[a]?) : qK g U H1 := by
  obtain ⟨h1, h2, h3, h4, h5, h6, h7, h8, h9, h10, h11⟩ := h
  exact ⟨fun i hi => (h1 i hi).kept hq, h2.kept hq, h3.kept hq, h4.kept hq, h5.kept hq,
    fun i hi => ⟨(h6 i hi).1.kept hq, (h6 i hi).2.1.kept hq, (h6 i hi).2.2.1.kept hq, (h6 i hi).2.2.2.kept hq⟩,
    h7.kept hq, h8.kept hq, ⟨h9.1.kept hq, h9.2.kept hq⟩, h10.kept hq, h11.kept hq⟩
/-- at a callee's start -/
theorem qE.go {g : qG} {s U : State} {H : Heap} {locs : List Loc} (h : qE g s s.heap) (hW : s.WarmedH U.vm) (hS : va_S (qAf g) s.heap H locs) (hU : U.heap = H) : qE g U U.heap := by
  obtain ⟨h1, h2, h3⟩ := h
  rw [hU]
  exact ⟨h1.warm hW, Nat.le_trans h2 hS.1, (h3.kept hS.2.1).moved hW.alike⟩
theorem qKt.same {g : qG} {u U : State} (hv : U.vm = u.vm) (h : qKt g u) : qKt g U := h.warm (by rw [hv]; exact State.WarmedH.refl u)
theorem qE.blind {g : qG} {U : State} {a : Array Value} {g0 : JFrame} {mk : MethodId} (h : qE g U U.heap) : qE g (U.calling g0 mk a) (U.calling g0 mk a).heap := ⟨qKt.same (u := U) rfl h.1, h.2.1, qK.moved (u := U) (Vm.Alike.refl U.vm) h.2.2⟩
/-- a word for any arguments -/
theorem qword {g : qG} {s : State} (h : qKt g s) {w : Cond} (hw : w ∈ qWA) {a : Array Value} : w.before a s = true := qok_warm (List.mem_filter.mp hw).2 (State.WarmedH.refl s) (h.2.1 w hw)
theorem qwords {g : qG} {s : State} (h : qKt g s) {a : Array Value} : ∀ w ∈ qWA, w.before a s = true := fun w hw => qword h hw
end
section
/-! V: the machine at a place of a method, over the abstract cells; a row an instruction -/
def qlc (g : qG) : Nat → List (Option qA) → List (Nat × Value)
  | _, [] => []
  | i, none :: t => qlc g (i + 1) t
  | i, some v :: t => (i, qcv g v) :: qlc g (i + 1) t
theorem qlc_get (g : qG) : ∀ (L : List (Option qA)) (n i : Nat) (v : qA), L[i]? = some (some v) → (n + i, qcv g v) ∈ qlc g n L
  | [], _, _, _, h => by simp at h
  | a :: t, n, 0, v, h => by simp at h; subst h; simp [qlc]
  | a :: t, n, i + 1, v, h => by
    simp only [List.getElem?_cons_succ] at h
    have h1 := qlc_get g t (n + 1) i v h
    rw [show n + 1 + i = n + (i + 1) by omega] at h1
    cases a with
    | none => exact h1
    | some a => exact List.mem_cons_of_mem _ h1
theorem qlc_mem (g : qG) : ∀ (L : List (Option qA)) (n : Nat) (q : Nat × Value), q ∈ qlc g n L → ∃ (i : Nat) (v : qA), q.1 = n + i ∧ L[i]? = some (some v) ∧ q.2 = qcv g v
  | [], _, _, h => by simp [qlc] at h
  | none :: t, n, q, h => by
    obtain ⟨i, v, h1, h2, h3⟩ := qlc_mem g t (n + 1) q h
    exact ⟨i + 1, v, by omega, by simpa using h2, h3⟩
  | some a :: t, n, q, h => by
    rcases List.mem_cons.mp h with rfl | h
    · exact ⟨0, a, by simp, by simp, rfl⟩
    · obtain ⟨i, v, h1, h2, h3⟩ := qlc_mem g t (n + 1) q h
      exact ⟨i + 1, v, by omega, by simpa using h2, h3⟩
/-- the locals hold what the list says -/
def qLs (g : qG) (ls : Array Slot) (nL : Nat) (L : List (Option qA)) : Prop := lv_has ls nL (qlc g 0 L)
theorem qLs.at {g : qG} {ls : Array Slot} {nL i : Nat} {L : List (Option qA)} {v : qA} (h : qLs g ls nL L) (hi : L[i]? = some (some v)) : ls[i]? = some (.val (qcv g v)) := by
  have h1 := qlc_get g L 0 i v hi
  rw [Nat.zero_add] at h1
  exact h.2.2 _ h1
def qmask : List (Option qA) → List Bool → List (Option qA)
  | [], _ => []
  | a :: t, [] => a :: t
  | a :: t, true :: m => a :: qmask t m
  | _ :: t, false :: m => none :: qmask t m
theorem qmask_get : ∀ (L : List (Option qA)) (m : List Bool) (i : Nat) (v : qA), (qmask L m)[i]? = some (some v) → L[i]? = some (some v)
  | [], _, _, _, h => by simp [qmask] at h
  | a :: t, [], _, _, h => h
  | a :: t, true :: m, 0, v, h => h
  | a :: t, true :: m, i + 1, v, h => by simp only [qmask, List.getElem?_cons_succ] at h ⊢; exact qmask_get t m i v h
  | a :: t, false :: m, 0, v, h => by simp [qmask] at h
  | a :: t, false :: m, i + 1, v, h => by simp only [qmask, List.getElem?_cons_succ] at h ⊢; exact qmask_get t m i v h
theorem qLs.weak {g : qG} {ls : Array Slot} {nL : Nat} {L L' : List (Option qA)} (h : qLs g ls nL L) (hw : ∀ (i : Nat) (v : qA), L'[i]? = some (some v) → L[i]? = some (some v)) : qLs g ls nL L' := by
  refine ⟨h.1, h.2.1, fun q hq => ?_⟩
  obtain ⟨i, v, h1, h2, h3⟩ := qlc_mem g L' 0 q hq
  rw [h1, h3, Nat.zero_add]
  exact h.at (hw i v h2)
def qcat (v : qA) : Nat := match v with
  | .inl v => v.category
  | .inr _ => 1
theorem qcat_cv (g : qG) (v : qA) : (qcv g v).category = qcat v := by cases v <;> rfl
/-- a store at place i: nothing long stands one place ahead -/
def qok1 (L : List (Option qA)) (i : Nat) : Bool := match i with
  | 0 => true
  | i + 1 => match L[i]? with
    | some (some v) => qcat v == 1
    | _ => true
theorem qLs.store {g : qG} {ls' : Array Slot} {nL i : Nat} {L : List (Option qA)} {v : qA} {lv' : List (Nat × Value)} (hk : qok1 L i = true) (hl : (i, qcv g v) :: (qlc g 0 L).filter (fun q => !(q.1 == i) && !(q.1 + 1 == i && q.2.category == 2)) = lv') (h : lv_has ls' nL lv') : qLs g ls' nL (L.set i (some v)) := by
  refine ⟨h.1, h.2.1, fun q hq => ?_⟩
  refine h.2.2 q ?_
  rw [← hl]
  obtain ⟨j, w, h1, h2, h3⟩ := qlc_mem g _ 0 q hq
  rw [Nat.zero_add] at h1
  by_cases hj : j = i
  · subst hj
    have hlt : j < L.length := by
      have := (List.getElem?_eq_some_iff.mp h2).1
      simpa using this
    rw [List.getElem?_set_self hlt] at h2
    cases h2
    have : q = (j, qcv g v) := by cases q; simp_all
    rw [this]; exact List.mem_cons_self
  · rw [List.getElem?_set_ne (Ne.symm hj)] at h2
    refine List.mem_cons_of_mem _ (List.mem_filter.mpr ⟨?_, ?_⟩)
    · have h4 := qlc_get g L 0 j w h2
      rw [Nat.zero_add] at h4
      have : q = (j, qcv g w) := by cases q; simp_all
      rw [this]; exact h4
    · rw [h1, h3, qcat_cv]
      have e1 : (j == i) = false := by simp [hj]
      rw [e1]
      by_cases hj2 : j + 1 = i
      · subst hj2
        simp only [qok1, h2] at hk
        have : qcat w = 1 := by simpa using hk
        simp [this]
      · simp [hj2]
section QV
/-- V: whatever the outcome r that o names, the machine comes from here to an end that Qf r allows; at most cb cells of sb slots are made on the way -/
def qV (p : Program) (l : Launch) (e : Env) (R : Room) (s : State) (m : MethodId) (args : Array Value) (below : List Frame) (meth : Method) (c : Code) (g : qG) (nL : Nat) (Qf : qO → State → Prop) (o : Option qO) (cb sb pc : Nat) (L : List (Option qA)) (st : List qA) (σ : qS) : Prop :=
  ∀ r : qO, o = some r → ∀ (ls : Array Slot) (H : Heap) (locs : List Loc) (cells slots : Nat), qLs g ls nL L → qH g σ H → va_S (qAf g) s.heap H locs → cells + cb ≤ R.cells → slots + sb ≤ R.slots → W p l e R s m args below meth c H locs cells slots (Qf r) (F0 m pc ls (st.map (qcv g)))
def qC (p : Program) (l : Launch) (s : State) (m : MethodId) (meth : Method) (c : Code) (cc : ByteArray) (nL : Nat) (own : String) (g : qG) : Prop :=
  p.tables.exec = Jvm.exec ∧ c.code = cc ∧ c.maxLocals = nL ∧ s.vm.findClass own = some m.cls ∧ qE g s s.heap ∧ l.stackTraces = false ∧ meth.locks = false
variable {p : Program} {l : Launch} {e : Env} {R : Room} {s : State} {m : MethodId} {args : Array Value} {below : List Frame} {meth : Method} {c : Code} {g : qG} {nL : Nat} {Qf : qO → State → Prop} {o : Option qO} {cb sb pc : Nat} {L : List (Option qA)} {st : List qA} {σ : qS} {cc : ByteArray} {own : String}
theorem qV.weak (m' : List Bool) (k : qV p l e R s m args below meth c g nL Qf o cb sb pc (qmask L m') st σ) : qV p l e R s m args below meth c g nL Qf o cb sb pc L st σ :=
  fun r hr ls H locs cells slots h1 h2 h3 h4 h5 => k r hr ls H locs cells slots (h1.weak (fun i v h => qmask_get L m' i v h)) h2 h3 h4 h5
theorem qV.less {cb' sb' : Nat} (k : qV p l e R s m args below meth c g nL Qf o cb' sb' pc L st σ) (h1 : cb' ≤ cb) (h2 : sb' ≤ sb) : qV p l e R s m args below meth c g nL Qf o cb sb pc L st σ :=
  fun r hr ls H locs cells slots g1 g2 g3 g4 g5 => k r hr ls H locs cells slots g1 g2 g3 (by omega) (by omega)
theorem qV.no : qV p l e R s m args below meth c g nL Qf none cb sb pc L st σ := fun r hr => by cases hr
theorem qv_iload (C : qC p l s m meth c cc nL own g) {i : Nat} {x : Int32} (d : decode cc pc = .ok (.iload i, 2)) (hl : L[i]? = some (some (qI x))) (k : qV p l e R s m args below meth c g nL Qf o cb sb (pc + 2) L (qI x :: st) σ) : qV p l e R s m args below meth c g nL Qf o cb sb pc L st σ :=
  fun r hr ls H locs cells slots h1 h2 h3 h4 h5 => lv_iload C.1 C.2.1 d (h1.at hl) (k r hr ls H locs cells slots h1 h2 h3 h4 h5)
theorem qv_iload_n (C : qC p l s m meth c cc nL own g) {k0 : Fin 4} {x : Int32} (d : decode cc pc = .ok (.iload_n k0, 1)) (hl : L[(k0 : Nat)]? = some (some (qI x))) (k : qV p l e R s m args below meth c g nL Qf o cb sb (pc + 1) L (qI x :: st) σ) : qV p l e R s m args below meth c g nL Qf o cb sb pc L st σ :=
  fun r hr ls H locs cells slots h1 h2 h3 h4 h5 => lv_iload_n C.1 C.2.1 d rfl (h1.at hl) (k r hr ls H locs cells slots h1 h2 h3 h4 h5)
theorem qv_aload (C : qC p l s m meth c cc nL own g) {i : Nat} {a : Nat × Nat} (d : decode cc pc = .ok (.aload i, 2)) (hl : L[i]? = some (some (.inr a))) (k : qV p l e R s m args below meth c g nL Qf o cb sb (pc + 2) L (.inr a :: st) σ) : qV p l e R s m args below meth c g nL Qf o cb sb pc L st σ :=
  fun r hr ls H locs cells slots h1 h2 h3 h4 h5 => lv_aload C.1 C.2.1 d (h1.at hl) (k r hr ls H locs cells slots h1 h2 h3 h4 h5)
theorem qv_aload_n (C : qC p l s m meth c cc nL own g) {k0 : Fin 4} {a : Nat × Nat} (d : decode cc pc = .ok (.aload_n k0, 1)) (hl : L[(k0 : Nat)]? = some (some (.inr a))) (k : qV p l e R s m args below meth c g nL Qf o cb sb (pc + 1) L (.inr a :: st) σ) : qV p l e R s m args below meth c g nL Qf o cb sb pc L st σ :=
  fun r hr ls H locs cells slots h1 h2 h3 h4 h5 => lv_aload_n C.1 C.2.1 d rfl (h1.at hl) (k r hr ls H locs cells slots h1 h2 h3 h4 h5)
theorem qv_istore (C : qC p l s m meth c cc nL own g) {i : Nat} {x : Int32} (d : decode cc pc = .ok (.istore i, 2)) (hn : i < nL) (hk : qok1 L i = true) (k : qV p l e R s m args below meth c g nL Qf o cb sb (pc + 2) (L.set i (some (qI x))) st σ) : qV p l e R s m args below meth c g nL Qf o cb sb pc L (qI x :: st) σ :=
  fun r hr ls H locs cells slots h1 h2 h3 h4 h5 => lv_istore C.1 C.2.1 d h1 hn rfl (fun ls' hl' => k r hr ls' H locs cells slots (qLs.store (v := qI x) hk rfl hl') h2 h3 h4 h5)
theorem qv_istore_n (C : qC p l s m meth c cc nL own g) {k0 : Fin 4} {x : Int32} (d : decode cc pc = .ok (.istore_n k0, 1)) (hn : (k0 : Nat) < nL) (hk : qok1 L k0 = true) (k : qV p l e R s m args below meth c g nL Qf o cb sb (pc + 1) (L.set k0 (some (qI x))) st σ) : qV p l e R s m args below meth c g nL Qf o cb sb pc L (qI x :: st) σ :=
  fun r hr ls H locs cells slots h1 h2 h3 h4 h5 => lv_istore_n C.1 C.2.1 d rfl h1 hn rfl (fun ls' hl' => k r hr ls' H locs cells slots (qLs.store (v := qI x) hk rfl hl') h2 h3 h4 h5)
theorem qv_astore (C : qC p l s m meth c cc nL own g) {i : Nat} {a : Nat × Nat} (d : decode cc pc = .ok (.astore i, 2)) (hn : i < nL) (hk : qok1 L i = true) (k : qV p l e R s m args below meth c g nL Qf o cb sb (pc + 2) (L.set i (some (.inr a))) st σ) : qV p l e R s m args below meth c g nL Qf o cb sb pc L (.inr a :: st) σ :=
  fun r hr ls H locs cells slots h1 h2 h3 h4 h5 => lv_astore C.1 C.2.1 d h1 hn rfl (fun ls' hl' => k r hr ls' H locs cells slots (qLs.store (v := .inr a) hk rfl hl') h2 h3 h4 h5)
theorem qv_astore_n (C : qC p l s m meth c cc nL own g) {k0 : Fin 4} {a : Nat × Nat} (d : decode cc pc = .ok (.astore_n k0, 1)) (hn : (k0 : Nat) < nL) (hk : qok1 L k0 = true) (k : qV p l e R s m args below meth c g nL Qf o cb sb (pc + 1) (L.set k0 (some (.inr a))) st σ) : qV p l e R s m args below meth c g nL Qf o cb sb pc L (.inr a :: st) σ :=
  fun r hr ls H locs cells slots h1 h2 h3 h4 h5 => lv_astore_n C.1 C.2.1 d rfl h1 hn rfl (fun ls' hl' => k r hr ls' H locs cells slots (qLs.store (v := .inr a) hk rfl hl') h2 h3 h4 h5)
theorem qv_iinc (C : qC p l s m meth c cc nL own g) {i : Nat} {n : Int} {x v : Int32} (d : decode cc pc = .ok (.iinc i n, 3)) (hl : L[i]? = some (some (qI x))) (hv : x + Int32.ofInt n = v) (hn : i < nL) (hk : qok1 L i = true) (k : qV p l e R s m args below meth c g nL Qf o cb sb (pc + 3) (L.set i (some (qI v))) st σ) : qV p l e R s m args below meth c g nL Qf o cb sb pc L st σ := by
  intro r hr ls H locs cells slots h1 h2 h3 h4 h5
  have hm := qlc_get g L 0 i _ hl
  rw [Nat.zero_add] at hm
  obtain ⟨k1, hk1⟩ := List.getElem?_of_mem hm
  exact lv_iinc C.1 C.2.1 d h1 hk1 hv hn rfl (fun ls' hl' => k r hr ls' H locs cells slots (qLs.store (v := qI v) hk rfl hl') h2 h3 h4 h5)
theorem qv_iconst (C : qC p l s m meth c cc nL own g) {n : Int} {v : Int32} (d : decode cc pc = .ok (.iconst n, 1)) (hv : Int32.ofInt n = v) (k : qV p l e R s m args below meth c g nL Qf o cb sb (pc + 1) L (qI v :: st) σ) : qV p l e R s m args below meth c g nL Qf o cb sb pc L st σ :=
  fun r hr ls H locs cells slots h1 h2 h3 h4 h5 => lv_iconst C.1 C.2.1 d hv (k r hr ls H locs cells slots h1 h2 h3 h4 h5)
theorem qv_bipush (C : qC p l s m meth c cc nL own g) {n : Int} {v : Int32} (d : decode cc pc = .ok (.bipush n, 2)) (hv : (Int8.ofInt n).toInt32 = v) (k : qV p l e R s m args below meth c g nL Qf o cb sb (pc + 2) L (qI v :: st) σ) : qV p l e R s m args below meth c g nL Qf o cb sb pc L st σ :=
  fun r hr ls H locs cells slots h1 h2 h3 h4 h5 => lv_bipush C.1 C.2.1 d hv (k r hr ls H locs cells slots h1 h2 h3 h4 h5)
theorem qv_sipush (C : qC p l s m meth c cc nL own g) {n : Int} {v : Int32} (d : decode cc pc = .ok (.sipush n, 3)) (hv : (Int16.ofInt n).toInt32 = v) (k : qV p l e R s m args below meth c g nL Qf o cb sb (pc + 3) L (qI v :: st) σ) : qV p l e R s m args below meth c g nL Qf o cb sb pc L st σ :=
  fun r hr ls H locs cells slots h1 h2 h3 h4 h5 => lv_sipush C.1 C.2.1 d hv (k r hr ls H locs cells slots h1 h2 h3 h4 h5)
theorem qv_lconst (C : qC p l s m meth c cc nL own g) {n : Fin 2} {v : Int64} (d : decode cc pc = .ok (.lconst n, 1)) (hv : Int64.ofNat (n : Nat) = v) (k : qV p l e R s m args below meth c g nL Qf o cb sb (pc + 1) L (.inl (.long v) :: st) σ) : qV p l e R s m args below meth c g nL Qf o cb sb pc L st σ :=
  fun r hr ls H locs cells slots h1 h2 h3 h4 h5 => lv_lconst C.1 C.2.1 d hv (k r hr ls H locs cells slots h1 h2 h3 h4 h5)
theorem qv_iadd (C : qC p l s m meth c cc nL own g) {x y : Int32} (d : decode cc pc = .ok (.iadd, 1)) (k : qV p l e R s m args below meth c g nL Qf o cb sb (pc + 1) L (qI (x + y) :: st) σ) : qV p l e R s m args below meth c g nL Qf o cb sb pc L (qI y :: qI x :: st) σ :=
  fun r hr ls H locs cells slots h1 h2 h3 h4 h5 => lv_iadd C.1 C.2.1 d (k r hr ls H locs cells slots h1 h2 h3 h4 h5)
theorem qv_isub (C : qC p l s m meth c cc nL own g) {x y : Int32} (d : decode cc pc = .ok (.isub, 1)) (k : qV p l e R s m args below meth c g nL Qf o cb sb (pc + 1) L (qI (x - y) :: st) σ) : qV p l e R s m args below meth c g nL Qf o cb sb pc L (qI y :: qI x :: st) σ :=
  fun r hr ls H locs cells slots h1 h2 h3 h4 h5 => lv_isub C.1 C.2.1 d (k r hr ls H locs cells slots h1 h2 h3 h4 h5)
theorem qv_imul (C : qC p l s m meth c cc nL own g) {x y : Int32} (d : decode cc pc = .ok (.imul, 1)) (k : qV p l e R s m args below meth c g nL Qf o cb sb (pc + 1) L (qI (x * y) :: st) σ) : qV p l e R s m args below meth c g nL Qf o cb sb pc L (qI y :: qI x :: st) σ :=
  fun r hr ls H locs cells slots h1 h2 h3 h4 h5 => lv_imul C.1 C.2.1 d (k r hr ls H locs cells slots h1 h2 h3 h4 h5)
theorem qv_iand (C : qC p l s m meth c cc nL own g) {x y : Int32} (d : decode cc pc = .ok (.iand, 1)) (k : qV p l e R s m args below meth c g nL Qf o cb sb (pc + 1) L (qI (x &&& y) :: st) σ) : qV p l e R s m args below meth c g nL Qf o cb sb pc L (qI y :: qI x :: st) σ :=
  fun r hr ls H locs cells slots h1 h2 h3 h4 h5 => lv_iand C.1 C.2.1 d (k r hr ls H locs cells slots h1 h2 h3 h4 h5)
theorem qv_ior (C : qC p l s m meth c cc nL own g) {x y : Int32} (d : decode cc pc = .ok (.ior, 1)) (k : qV p l e R s m args below meth c g nL Qf o cb sb (pc + 1) L (qI (x ||| y) :: st) σ) : qV p l e R s m args below meth c g nL Qf o cb sb pc L (qI y :: qI x :: st) σ :=
  fun r hr ls H locs cells slots h1 h2 h3 h4 h5 => lv_ior C.1 C.2.1 d (k r hr ls H locs cells slots h1 h2 h3 h4 h5)
theorem qv_ixor (C : qC p l s m meth c cc nL own g) {x y : Int32} (d : decode cc pc = .ok (.ixor, 1)) (k : qV p l e R s m args below meth c g nL Qf o cb sb (pc + 1) L (qI (x ^^^ y) :: st) σ) : qV p l e R s m args below meth c g nL Qf o cb sb pc L (qI y :: qI x :: st) σ :=
  fun r hr ls H locs cells slots h1 h2 h3 h4 h5 => lv_ixor C.1 C.2.1 d (k r hr ls H locs cells slots h1 h2 h3 h4 h5)
theorem qv_ishl (C : qC p l s m meth c cc nL own g) {x y : Int32} (d : decode cc pc = .ok (.ishl, 1)) (k : qV p l e R s m args below meth c g nL Qf o cb sb (pc + 1) L (qI (x <<< (y &&& 31)) :: st) σ) : qV p l e R s m args below meth c g nL Qf o cb sb pc L (qI y :: qI x :: st) σ :=
  fun r hr ls H locs cells slots h1 h2 h3 h4 h5 => lv_ishl C.1 C.2.1 d (k r hr ls H locs cells slots h1 h2 h3 h4 h5)
theorem qv_ishr (C : qC p l s m meth c cc nL own g) {x y : Int32} (d : decode cc pc = .ok (.ishr, 1)) (k : qV p l e R s m args below meth c g nL Qf o cb sb (pc + 1) L (qI (x >>> (y &&& 31)) :: st) σ) : qV p l e R s m args below meth c g nL Qf o cb sb pc L (qI y :: qI x :: st) σ :=
  fun r hr ls H locs cells slots h1 h2 h3 h4 h5 => lv_ishr C.1 C.2.1 d (k r hr ls H locs cells slots h1 h2 h3 h4 h5)
theorem qv_iushr (C : qC p l s m meth c cc nL own g) {x y : Int32} (d : decode cc pc = .ok (.iushr, 1)) (k : qV p l e R s m args below meth c g nL Qf o cb sb (pc + 1) L (qI ((x.toUInt32 >>> (y.toUInt32 &&& Int32.toUInt32 31)).toInt32) :: st) σ) : qV p l e R s m args below meth c g nL Qf o cb sb pc L (qI y :: qI x :: st) σ :=
  fun r hr ls H locs cells slots h1 h2 h3 h4 h5 => lv_iushr C.1 C.2.1 d rfl (k r hr ls H locs cells slots h1 h2 h3 h4 h5)
theorem qv_ineg (C : qC p l s m meth c cc nL own g) {x : Int32} (d : decode cc pc = .ok (.ineg, 1)) (k : qV p l e R s m args below meth c g nL Qf o cb sb (pc + 1) L (qI (-x) :: st) σ) : qV p l e R s m args below meth c g nL Qf o cb sb pc L (qI x :: st) σ :=
  fun r hr ls H locs cells slots h1 h2 h3 h4 h5 => lv_ineg C.1 C.2.1 d (k r hr ls H locs cells slots h1 h2 h3 h4 h5)
theorem qv_idiv (C : qC p l s m meth c cc nL own g) {x y : Int32} (d : decode cc pc = .ok (.idiv, 1)) (k : ¬ y = 0 → qV p l e R s m args below meth c g nL Qf o cb sb (pc + 1) L (qI (x / y) :: st) σ) : qV p l e R s m args below meth c g nL Qf (if y = 0 then none else o) cb sb pc L (qI y :: qI x :: st) σ := by
  by_cases h : y = 0
  · rw [if_pos h]; exact qV.no
  · rw [if_neg h]
    have k := k h
    exact fun r hr ls H locs cells slots h1 h2 h3 h4 h5 => lv_idiv C.1 C.2.1 d h (k r hr ls H locs cells slots h1 h2 h3 h4 h5)
theorem qv_irem (C : qC p l s m meth c cc nL own g) {x y : Int32} (d : decode cc pc = .ok (.irem, 1)) (k : ¬ y = 0 → qV p l e R s m args below meth c g nL Qf o cb sb (pc + 1) L (qI (x - x / y * y) :: st) σ) : qV p l e R s m args below meth c g nL Qf (if y = 0 then none else o) cb sb pc L (qI y :: qI x :: st) σ := by
  by_cases h : y = 0
  · rw [if_pos h]; exact qV.no
  · rw [if_neg h]
    have k := k h
    exact fun r hr ls H locs cells slots h1 h2 h3 h4 h5 => lv_irem C.1 C.2.1 d h (k r hr ls H locs cells slots h1 h2 h3 h4 h5)
theorem qv_i2l (C : qC p l s m meth c cc nL own g) {x : Int32} (d : decode cc pc = .ok (.i2l, 1)) (k : qV p l e R s m args below meth c g nL Qf o cb sb (pc + 1) L (.inl (.long x.toInt64) :: st) σ) : qV p l e R s m args below meth c g nL Qf o cb sb pc L (qI x :: st) σ :=
  fun r hr ls H locs cells slots h1 h2 h3 h4 h5 => lv_i2l C.1 C.2.1 d rfl (k r hr ls H locs cells slots h1 h2 h3 h4 h5)
theorem qv_i2c (C : qC p l s m meth c cc nL own g) {x : Int32} (d : decode cc pc = .ok (.i2c, 1)) (k : qV p l e R s m args below meth c g nL Qf o cb sb (pc + 1) L (qI ((x.toUInt32 % 65536).toInt32) :: st) σ) : qV p l e R s m args below meth c g nL Qf o cb sb pc L (qI x :: st) σ :=
  fun r hr ls H locs cells slots h1 h2 h3 h4 h5 => lv_i2c C.1 C.2.1 d rfl (k r hr ls H locs cells slots h1 h2 h3 h4 h5)
theorem qv_dup (C : qC p l s m meth c cc nL own g) {v : qA} (d : decode cc pc = .ok (.dup, 1)) (hv : qcat v = 1) (k : qV p l e R s m args below meth c g nL Qf o cb sb (pc + 1) L (v :: v :: st) σ) : qV p l e R s m args below meth c g nL Qf o cb sb pc L (v :: st) σ :=
  fun r hr ls H locs cells slots h1 h2 h3 h4 h5 => lv_dup C.1 C.2.1 d (by rw [qcat_cv]; exact hv) (k r hr ls H locs cells slots h1 h2 h3 h4 h5)
theorem qv_dup2 (C : qC p l s m meth c cc nL own g) {v w : qA} (d : decode cc pc = .ok (.dup2, 1)) (hv : qcat v = 1) (hw : qcat w = 1) (k : qV p l e R s m args below meth c g nL Qf o cb sb (pc + 1) L (v :: w :: v :: w :: st) σ) : qV p l e R s m args below meth c g nL Qf o cb sb pc L (v :: w :: st) σ :=
  fun r hr ls H locs cells slots h1 h2 h3 h4 h5 => lv_dup2_11 C.1 C.2.1 d (by rw [qcat_cv]; exact hv) (by rw [qcat_cv]; exact hw) (k r hr ls H locs cells slots h1 h2 h3 h4 h5)
theorem qv_pop (C : qC p l s m meth c cc nL own g) {v : qA} (d : decode cc pc = .ok (.pop, 1)) (hv : qcat v = 1) (k : qV p l e R s m args below meth c g nL Qf o cb sb (pc + 1) L st σ) : qV p l e R s m args below meth c g nL Qf o cb sb pc L (v :: st) σ :=
  fun r hr ls H locs cells slots h1 h2 h3 h4 h5 => lv_pop C.1 C.2.1 d (by rw [qcat_cv]; exact hv) (k r hr ls H locs cells slots h1 h2 h3 h4 h5)
theorem qv_if_eq (C : qC p l s m meth c cc nL own g) {x : Int32} {off : Int} {tgt : Nat} {o1 o2 : Option qO} (d : decode cc pc = .ok (.ifCond .eq off, 3)) (ht : (pc : Int) + off = (tgt : Int)) (k1 : x = 0 → qV p l e R s m args below meth c g nL Qf o1 cb sb tgt L st σ) (k2 : ¬ (x = 0) → qV p l e R s m args below meth c g nL Qf o2 cb sb (pc + 3) L st σ) : qV p l e R s m args below meth c g nL Qf (if x = 0 then o1 else o2) cb sb pc L (qI x :: st) σ := by
  intro r hr ls H locs cells slots h1 h2 h3 h4 h5
  refine lv_if_eq C.1 C.2.1 d ht (fun h => ?_) (fun h => ?_)
  · rw [if_pos h] at hr; exact k1 h r hr ls H locs cells slots h1 h2 h3 h4 h5
  · rw [if_neg h] at hr; exact k2 h r hr ls H locs cells slots h1 h2 h3 h4 h5
theorem qv_icmp_eq (C : qC p l s m meth c cc nL own g) {x y : Int32} {off : Int} {tgt : Nat} {o1 o2 : Option qO} (d : decode cc pc = .ok (.if_icmp .eq off, 3)) (ht : (pc : Int) + off = (tgt : Int)) (k1 : x = y → qV p l e R s m args below meth c g nL Qf o1 cb sb tgt L st σ) (k2 : ¬ (x = y) → qV p l e R s m args below meth c g nL Qf o2 cb sb (pc + 3) L st σ) : qV p l e R s m args below meth c g nL Qf (if x = y then o1 else o2) cb sb pc L (qI y :: qI x :: st) σ := by
  intro r hr ls H locs cells slots h1 h2 h3 h4 h5
  refine lv_icmp_eq C.1 C.2.1 d ht (fun h => ?_) (fun h => ?_)
  · rw [if_pos h] at hr; exact k1 h r hr ls H locs cells slots h1 h2 h3 h4 h5
  · rw [if_neg h] at hr; exact k2 h r hr ls H locs cells slots h1 h2 h3 h4 h5
theorem qv_if_ne (C : qC p l s m meth c cc nL own g) {x : Int32} {off : Int} {tgt : Nat} {o1 o2 : Option qO} (d : decode cc pc = .ok (.ifCond .ne off, 3)) (ht : (pc : Int) + off = (tgt : Int)) (k1 : x = 0 → qV p l e R s m args below meth c g nL Qf o1 cb sb (pc + 3) L st σ) (k2 : ¬ (x = 0) → qV p l e R s m args below meth c g nL Qf o2 cb sb tgt L st σ) : qV p l e R s m args below meth c g nL Qf (if x = 0 then o1 else o2) cb sb pc L (qI x :: st) σ := by
  intro r hr ls H locs cells slots h1 h2 h3 h4 h5
  refine lv_if_ne C.1 C.2.1 d ht (fun h => ?_) (fun h => ?_)
  · rw [if_neg h] at hr; exact k2 h r hr ls H locs cells slots h1 h2 h3 h4 h5
  · rw [if_pos h] at hr; exact k1 h r hr ls H locs cells slots h1 h2 h3 h4 h5
theorem qv_icmp_ne (C : qC p l s m meth c cc nL own g) {x y : Int32} {off : Int} {tgt : Nat} {o1 o2 : Option qO} (d : decode cc pc = .ok (.if_icmp .ne off, 3)) (ht : (pc : Int) + off = (tgt : Int)) (k1 : x = y → qV p l e R s m args below meth c g nL Qf o1 cb sb (pc + 3) L st σ) (k2 : ¬ (x = y) → qV p l e R s m args below meth c g nL Qf o2 cb sb tgt L st σ) : qV p l e R s m args below meth c g nL Qf (if x = y then o1 else o2) cb sb pc L (qI y :: qI x :: st) σ := by
  intro r hr ls H locs cells slots h1 h2 h3 h4 h5
  refine lv_icmp_ne C.1 C.2.1 d ht (fun h => ?_) (fun h => ?_)
  · rw [if_neg h] at hr; exact k2 h r hr ls H locs cells slots h1 h2 h3 h4 h5
  · rw [if_pos h] at hr; exact k1 h r hr ls H locs cells slots h1 h2 h3 h4 h5
theorem qv_if_lt (C : qC p l s m meth c cc nL own g) {x : Int32} {off : Int} {tgt : Nat} {o1 o2 : Option qO} (d : decode cc pc = .ok (.ifCond .lt off, 3)) (ht : (pc : Int) + off = (tgt : Int)) (k1 : x < 0 → qV p l e R s m args below meth c g nL Qf o1 cb sb tgt L st σ) (k2 : ¬ (x < 0) → qV p l e R s m args below meth c g nL Qf o2 cb sb (pc + 3) L st σ) : qV p l e R s m args below meth c g nL Qf (if x < 0 then o1 else o2) cb sb pc L (qI x :: st) σ := by
  intro r hr ls H locs cells slots h1 h2 h3 h4 h5
  refine lv_if_lt C.1 C.2.1 d ht (fun h => ?_) (fun h => ?_)
  · rw [if_pos h] at hr; exact k1 h r hr ls H locs cells slots h1 h2 h3 h4 h5
  · rw [if_neg h] at hr; exact k2 h r hr ls H locs cells slots h1 h2 h3 h4 h5
theorem qv_icmp_lt (C : qC p l s m meth c cc nL own g) {x y : Int32} {off : Int} {tgt : Nat} {o1 o2 : Option qO} (d : decode cc pc = .ok (.if_icmp .lt off, 3)) (ht : (pc : Int) + off = (tgt : Int)) (k1 : x < y → qV p l e R s m args below meth c g nL Qf o1 cb sb tgt L st σ) (k2 : ¬ (x < y) → qV p l e R s m args below meth c g nL Qf o2 cb sb (pc + 3) L st σ) : qV p l e R s m args below meth c g nL Qf (if x < y then o1 else o2) cb sb pc L (qI y :: qI x :: st) σ := by
  intro r hr ls H locs cells slots h1 h2 h3 h4 h5
  refine lv_icmp_lt C.1 C.2.1 d ht (fun h => ?_) (fun h => ?_)
  · rw [if_pos h] at hr; exact k1 h r hr ls H locs cells slots h1 h2 h3 h4 h5
  · rw [if_neg h] at hr; exact k2 h r hr ls H locs cells slots h1 h2 h3 h4 h5
theorem qv_if_ge (C : qC p l s m meth c cc nL own g) {x : Int32} {off : Int} {tgt : Nat} {o1 o2 : Option qO} (d : decode cc pc = .ok (.ifCond .ge off, 3)) (ht : (pc : Int) + off = (tgt : Int)) (k1 : 0 ≤ x → qV p l e R s m args below meth c g nL Qf o1 cb sb tgt L st σ) (k2 : ¬ (0 ≤ x) → qV p l e R s m args below meth c g nL Qf o2 cb sb (pc + 3) L st σ) : qV p l e R s m args below meth c g nL Qf (if 0 ≤ x then o1 else o2) cb sb pc L (qI x :: st) σ := by
  intro r hr ls H locs cells slots h1 h2 h3 h4 h5
  refine lv_if_ge C.1 C.2.1 d ht (fun h => ?_) (fun h => ?_)
  · rw [if_pos h] at hr; exact k1 h r hr ls H locs cells slots h1 h2 h3 h4 h5
  · rw [if_neg h] at hr; exact k2 h r hr ls H locs cells slots h1 h2 h3 h4 h5
theorem qv_icmp_ge (C : qC p l s m meth c cc nL own g) {x y : Int32} {off : Int} {tgt : Nat} {o1 o2 : Option qO} (d : decode cc pc = .ok (.if_icmp .ge off, 3)) (ht : (pc : Int) + off = (tgt : Int)) (k1 : y ≤ x → qV p l e R s m args below meth c g nL Qf o1 cb sb tgt L st σ) (k2 : ¬ (y ≤ x) → qV p l e R s m args below meth c g nL Qf o2 cb sb (pc + 3) L st σ) : qV p l e R s m args below meth c g nL Qf (if y ≤ x then o1 else o2) cb sb pc L (qI y :: qI x :: st) σ := by
  intro r hr ls H locs cells slots h1 h2 h3 h4 h5
  refine lv_icmp_ge C.1 C.2.1 d ht (fun h => ?_) (fun h => ?_)
  · rw [if_pos h] at hr; exact k1 h r hr ls H locs cells slots h1 h2 h3 h4 h5
  · rw [if_neg h] at hr; exact k2 h r hr ls H locs cells slots h1 h2 h3 h4 h5
theorem qv_if_gt (C : qC p l s m meth c cc nL own g) {x : Int32} {off : Int} {tgt : Nat} {o1 o2 : Option qO} (d : decode cc pc = .ok (.ifCond .gt off, 3)) (ht : (pc : Int) + off = (tgt : Int)) (k1 : 0 < x → qV p l e R s m args below meth c g nL Qf o1 cb sb tgt L st σ) (k2 : ¬ (0 < x) → qV p l e R s m args below meth c g nL Qf o2 cb sb (pc + 3) L st σ) : qV p l e R s m args below meth c g nL Qf (if 0 < x then o1 else o2) cb sb pc L (qI x :: st) σ := by
  intro r hr ls H locs cells slots h1 h2 h3 h4 h5
  refine lv_if_gt C.1 C.2.1 d ht (fun h => ?_) (fun h => ?_)
  · rw [if_pos h] at hr; exact k1 h r hr ls H locs cells slots h1 h2 h3 h4 h5
  · rw [if_neg h] at hr; exact k2 h r hr ls H locs cells slots h1 h2 h3 h4 h5
theorem qv_icmp_gt (C : qC p l s m meth c cc nL own g) {x y : Int32} {off : Int} {tgt : Nat} {o1 o2 : Option qO} (d : decode cc pc = .ok (.if_icmp .gt off, 3)) (ht : (pc : Int) + off = (tgt : Int)) (k1 : y < x → qV p l e R s m args below meth c g nL Qf o1 cb sb tgt L st σ) (k2 : ¬ (y < x) → qV p l e R s m args below meth c g nL Qf o2 cb sb (pc + 3) L st σ) : qV p l e R s m args below meth c g nL Qf (if y < x then o1 else o2) cb sb pc L (qI y :: qI x :: st) σ := by
  intro r hr ls H locs cells slots h1 h2 h3 h4 h5
  refine lv_icmp_gt C.1 C.2.1 d ht (fun h => ?_) (fun h => ?_)
  · rw [if_pos h] at hr; exact k1 h r hr ls H locs cells slots h1 h2 h3 h4 h5
  · rw [if_neg h] at hr; exact k2 h r hr ls H locs cells slots h1 h2 h3 h4 h5
theorem qv_if_le (C : qC p l s m meth c cc nL own g) {x : Int32} {off : Int} {tgt : Nat} {o1 o2 : Option qO} (d : decode cc pc = .ok (.ifCond .le off, 3)) (ht : (pc : Int) + off = (tgt : Int)) (k1 : x ≤ 0 → qV p l e R s m args below meth c g nL Qf o1 cb sb tgt L st σ) (k2 : ¬ (x ≤ 0) → qV p l e R s m args below meth c g nL Qf o2 cb sb (pc + 3) L st σ) : qV p l e R s m args below meth c g nL Qf (if x ≤ 0 then o1 else o2) cb sb pc L (qI x :: st) σ := by
  intro r hr ls H locs cells slots h1 h2 h3 h4 h5
  refine lv_if_le C.1 C.2.1 d ht (fun h => ?_) (fun h => ?_)
  · rw [if_pos h] at hr; exact k1 h r hr ls H locs cells slots h1 h2 h3 h4 h5
  · rw [if_neg h] at hr; exact k2 h r hr ls H locs cells slots h1 h2 h3 h4 h5
theorem qv_icmp_le (C : qC p l s m meth c cc nL own g) {x y : Int32} {off : Int} {tgt : Nat} {o1 o2 : Option qO} (d : decode cc pc = .ok (.if_icmp .le off, 3)) (ht : (pc : Int) + off = (tgt : Int)) (k1 : x ≤ y → qV p l e R s m args below meth c g nL Qf o1 cb sb tgt L st σ) (k2 : ¬ (x ≤ y) → qV p l e R s m args below meth c g nL Qf o2 cb sb (pc + 3) L st σ) : qV p l e R s m args below meth c g nL Qf (if x ≤ y then o1 else o2) cb sb pc L (qI y :: qI x :: st) σ := by
  intro r hr ls H locs cells slots h1 h2 h3 h4 h5
  refine lv_icmp_le C.1 C.2.1 d ht (fun h => ?_) (fun h => ?_)
  · rw [if_pos h] at hr; exact k1 h r hr ls H locs cells slots h1 h2 h3 h4 h5
  · rw [if_neg h] at hr; exact k2 h r hr ls H locs cells slots h1 h2 h3 h4 h5
theorem qv_goto (C : qC p l s m meth c cc nL own g) {off : Int} {tgt : Nat} (d : decode cc pc = .ok (.goto off, 3)) (ht : (pc : Int) + off = (tgt : Int)) (k : qV p l e R s m args below meth c g nL Qf o cb sb tgt L st σ) : qV p l e R s m args below meth c g nL Qf o cb sb pc L st σ :=
  fun r hr ls H locs cells slots h1 h2 h3 h4 h5 => lv_goto C.1 C.2.1 d ht (k r hr ls H locs cells slots h1 h2 h3 h4 h5)
/-- what a method may link: a field by its place in the pool -/
def qFl (own : String) (idx : Nat) (C : String) (T : u_T) (k : Nat) : Prop := Cond.fieldLink own idx (T k).1 (T k).2.1 (T k).2.2.1 ∈ qWA ∨ ∃ host : String, Cond.fieldLinkNest own idx (T k).1 (T k).2.1 (T k).2.2.1 host ∈ qWA
/-- the class of a kind of objects, as the tables lay it -/
def qCl (ci : Nat) (C : String) (T : u_T) (N : Nat) : Prop := qcls[ci]? = some (C, T, N) ∧ (∀ w ∈ u_ws C T N, w ∈ qWA) ∧ (∀ a, a < N → ∀ b, b < N → a ≠ b → (T a).2.1 ≠ (T b).2.1) ∧ ∃ ty : Nat → FieldType, ∀ k, k < N → parseFieldDescriptor (T k).2.2.1 = some (ty k)
theorem qv_getfield_v (C : qC p l s m meth c cc nL own g) {C0 : String} {T : u_T} {N idx kd j f : Nat} {x : qA} {fd : Option (Nat × Nat)} (hsh : qsh kd = 0) (hCl : qCl (qci kd) C0 T N) (hF : qFl own idx C0 T f) (hf : f < N) (hkd : kd < 40) (hj : j < qn kd) (hfd : (qfs kd)[f]? = some fd) (hx : ∀ g : qG, qfv g j (σ kd j) fd f = qcv g x) (d : decode cc pc = .ok (.getfield idx, 3)) (k : qV p l e R s m args below meth c g nL Qf o cb sb (pc + 3) L (x :: st) σ) : qV p l e R s m args below meth c g nL Qf o cb sb pc L (qR kd j :: st) σ := by
  intro r hr ls H locs cells slots h1 h2 h3 h4 h5
  obtain ⟨hx0, hb, hml, hown, hE, -, -⟩ := C
  obtain ⟨q0, -, hq⟩ := qws_at g σ hkd hj
  rw [qent0 hsh] at hq
  have hv := qfl_get g j (σ kd j) (qfs kd) 0 f fd hfd
  rw [Nat.zero_add, hx g] at hv
  have K := k r hr ls H locs cells slots h1 h2 h3 h4 h5
  rcases hF with hF | ⟨host, hF⟩
  · exact va_get hx0 hb (qwords (a := args) hE.1) hCl.2.1 hown hE.1.1 h2.1 q0 hq hCl.1 f hf (qword hE.1 hF) (fun _ h => h) hv d K
  · exact va_getN hx0 hb (qwords (a := args) hE.1) hCl.2.1 hown hE.1.1 h2.1 q0 hq hCl.1 f hf (qword hE.1 hF) (fun _ h => h) hv d K
/-- a field of numbers -/
theorem qv_getI (C : qC p l s m meth c cc nL own g) {C0 : String} {T : u_T} {N idx kd j f : Nat} (hF : qFl own idx C0 T f) (hCl : qCl (qci kd) C0 T N) (hsh : qsh kd = 0) (hf : f < N) (hkd : kd < 40) (hj : j < qn kd) (hfd : (qfs kd)[f]? = some none) (d : decode cc pc = .ok (.getfield idx, 3)) (k : qV p l e R s m args below meth c g nL Qf o cb sb (pc + 3) L (qI (σ kd j f) :: st) σ) : qV p l e R s m args below meth c g nL Qf o cb sb pc L (qR kd j :: st) σ :=
  qv_getfield_v C hsh hCl hF hf hkd hj hfd (fun _ => rfl) d k
/-- a field that names a cell -/
theorem qv_getR (C : qC p l s m meth c cc nL own g) {C0 : String} {T : u_T} {N idx kd j f k2 off j2 : Nat} (hF : qFl own idx C0 T f) (hCl : qCl (qci kd) C0 T N) (hsh : qsh kd = 0) (hf : f < N) (hkd : kd < 40) (hj : j < qn kd) (hfd : (qfs kd)[f]? = some (some (k2, off))) (hj2 : j + off = j2) (d : decode cc pc = .ok (.getfield idx, 3)) (k : qV p l e R s m args below meth c g nL Qf o cb sb (pc + 3) L (qR k2 j2 :: st) σ) : qV p l e R s m args below meth c g nL Qf o cb sb pc L (qR kd j :: st) σ :=
  qv_getfield_v C hsh hCl hF hf hkd hj hfd (fun _ => by subst hj2; rfl) d k
theorem qv_putI (C : qC p l s m meth c cc nL own g) {C0 : String} {T : u_T} {N idx kd j f : Nat} {x : Int32} {ty : FieldType} (hF : qFl own idx C0 T f) (hCl : qCl (qci kd) C0 T N) (hsh : qsh kd = 0) (hf : f < N) (hkd : kd < 40) (hj : j < qn kd) (hfd : (qfs kd)[f]? = some none) (hfin : (T f).2.2.2 = false) (hty : parseFieldDescriptor (T f).2.2.1 = some ty) (hn : narrow ty (.int x) = .int x) (hfit : fits ty (.int x) = true) (d : decode cc pc = .ok (.putfield idx, 3)) (k : qV p l e R s m args below meth c g nL Qf o cb sb (pc + 3) L st (qu σ kd j f x)) : qV p l e R s m args below meth c g nL Qf o cb sb pc L (qI x :: qR kd j :: st) σ := by
  intro r hr ls H locs cells slots h1 h2 h3 h4 h5
  obtain ⟨hx0, hb, hml, hown, hE, -, -⟩ := C
  obtain ⟨q0, hc0, hq⟩ := qws_at g σ hkd hj
  obtain ⟨hcl, hin, hnm, ty0, hty0⟩ := hCl
  have he : (.inr (qci kd, (qfl g j (σ kd j) 0 (qfs kd)).set f (.int x)) : va_E) = qent g kd j (upd (σ kd j) f x) := by
    rw [qent0 hsh, qfl_set g j (σ kd j) x (qfs kd) 0 f hfd, Nat.zero_add]
  have hset := qws_set' h2.2 hc0 hq he
  rw [qent0 hsh] at hq
  have hl : f < (qfl g j (σ kd j) 0 (qfs kd)).length := by rw [qfl_len]; exact (List.getElem?_eq_some_iff.mp hfd).1
  have K := fun (H1 : Heap) (locs1 : List Loc) hP1 hD1 hS1 => k r hr ls H1 locs1 cells slots h1 ⟨hP1, hD1⟩ hS1 h4 h5
  rcases hF with hF | ⟨host, hF⟩
  · exact va_put hx0 hb (qwords (a := args) hE.1) hin ty0 hty0 hnm hown hE.1.1 h2.1 h2.2 h3 q0 hq hcl f hf (qword hE.1 hF) (fun _ h => h) hfin hty hn hfit hl d (fun H1 locs1 hP1 hD1 hS1 => K H1 locs1 (hset ▸ hP1) (hset ▸ hD1) hS1)
  · exact va_putN hx0 hb (qwords (a := args) hE.1) hin ty0 hty0 hnm hown hE.1.1 h2.1 h2.2 h3 q0 hq hcl f hf (qword hE.1 hF) (fun _ h => h) hfin hty hn hfit hl d (fun H1 locs1 hP1 hD1 hS1 => K H1 locs1 (hset ▸ hP1) (hset ▸ hD1) hS1)

end QV
end
section
/-! more rows: arrays, ends, contracts -/
section QA
variable {p : Program} {l : Launch} {e : Env} {R : Room} {s : State} {m : MethodId} {args : Array Value} {below : List Frame} {meth : Method} {c : Code} {g : qG} {nL : Nat} {Qf : qO → State → Prop} {o : Option qO} {cb sb pc : Nat} {L : List (Option qA)} {st : List qA} {σ : qS} {cc : ByteArray} {own : String}
/-- an index within n places -/
abbrev qin (i : Int32) (n : Nat) : Prop := 0 ≤ i.toInt ∧ i.toInt < (n : Int)
theorem qin_vp {i : Int32} {n : Nat} (h : qin i n) : vp_in i n := vp_in_iff.mpr h
theorem qv_alen (C : qC p l s m meth c cc nL own g) {kd j n : Nat} (hsh : qsh kd = 1 ∨ qsh kd = 2 ∨ qsh kd = 3 ∨ qsh kd = 4) (hn : qlen kd = n) (hkd : kd < 40) (hj : j < qn kd) (d : decode cc pc = .ok (.arraylength, 1)) (k : qV p l e R s m args below meth c g nL Qf o cb sb (pc + 1) L (qI (Int32.ofNat n) :: st) σ) : qV p l e R s m args below meth c g nL Qf o cb sb pc L (qR kd j :: st) σ := by
  intro r hr ls H locs cells slots h1 h2 h3 h4 h5
  obtain ⟨hx0, hb, hml, hown, hE, -, -⟩ := C
  obtain ⟨q0, -, hq⟩ := qws_at g σ hkd hj
  have K := k r hr ls H locs cells slots h1 h2 h3 h4 h5
  rcases hsh with h | h | h | h
  · rw [qent1 h] at hq
    exact va_alen hx0 hb hE.1.1 h2.1 q0 0 hq rfl (by rw [← hn]) d K
  · rw [qent2 h] at hq
    exact va_alen hx0 hb hE.1.1 h2.1 q0 1 hq rfl (by rw [← hn]) d K
  · rw [qent3 h] at hq
    exact va_alen hx0 hb hE.1.1 h2.1 q0 2 hq rfl (by rw [← hn]) d K
  · rw [qent4 h] at hq
    exact va_alen hx0 hb hE.1.1 h2.1 q0 3 hq rfl (by rw [← hn]) d K
theorem qv_iald! (C : qC p l s m meth c cc nL own g) {kd j : Nat} {i : Int32} (hsh : qsh kd = 1) (hkd : kd < 40) (hj : j < qn kd) (hin : qin i (qlen kd)) (d : decode cc pc = .ok (.iaload, 1)) (k : qV p l e R s m args below meth c g nL Qf o cb sb (pc + 1) L (qI (σ kd j i.toNatClampNeg) :: st) σ) : qV p l e R s m args below meth c g nL Qf o cb sb pc L (qI i :: qR kd j :: st) σ := by
  intro r hr ls H locs cells slots h1 h2 h3 h4 h5
  obtain ⟨hx0, hb, hml, hown, hE, -, -⟩ := C
  obtain ⟨q0, -, hq⟩ := qws_at g σ hkd hj
  rw [qent1 hsh] at hq
  exact va_iald hx0 hb hE.1.1 h2.1 q0 0 hq rfl (qin_vp hin) d (k r hr ls H locs cells slots h1 h2 h3 h4 h5)
theorem qv_iald (C : qC p l s m meth c cc nL own g) {kd j n : Nat} {i : Int32} (hn : qlen kd = n) (hsh : qsh kd = 1) (hkd : kd < 40) (hj : j < qn kd) (d : decode cc pc = .ok (.iaload, 1)) (k : qin i n → qV p l e R s m args below meth c g nL Qf o cb sb (pc + 1) L (qI (σ kd j i.toNatClampNeg) :: st) σ) : qV p l e R s m args below meth c g nL Qf (if qin i n then o else none) cb sb pc L (qI i :: qR kd j :: st) σ := by
  by_cases h : qin i n
  · rw [if_pos h]; exact qv_iald! C hsh hkd hj (hn ▸ h) d (k h)
  · rw [if_neg h]; exact qV.no
theorem qv_cald! (C : qC p l s m meth c cc nL own g) {kd j : Nat} {i : Int32} (hsh : qsh kd = 2) (hkd : kd < 40) (hj : j < qn kd) (hin : qin i (qlen kd)) (d : decode cc pc = .ok (.caload, 1)) (k : qV p l e R s m args below meth c g nL Qf o cb sb (pc + 1) L (qI (σ kd j i.toNatClampNeg) :: st) σ) : qV p l e R s m args below meth c g nL Qf o cb sb pc L (qI i :: qR kd j :: st) σ := by
  intro r hr ls H locs cells slots h1 h2 h3 h4 h5
  obtain ⟨hx0, hb, hml, hown, hE, -, -⟩ := C
  obtain ⟨q0, -, hq⟩ := qws_at g σ hkd hj
  rw [qent2 hsh] at hq
  exact va_cald hx0 hb hE.1.1 h2.1 q0 1 hq rfl (qin_vp hin) d (k r hr ls H locs cells slots h1 h2 h3 h4 h5)
theorem qv_cald (C : qC p l s m meth c cc nL own g) {kd j n : Nat} {i : Int32} (hn : qlen kd = n) (hsh : qsh kd = 2) (hkd : kd < 40) (hj : j < qn kd) (d : decode cc pc = .ok (.caload, 1)) (k : qin i n → qV p l e R s m args below meth c g nL Qf o cb sb (pc + 1) L (qI (σ kd j i.toNatClampNeg) :: st) σ) : qV p l e R s m args below meth c g nL Qf (if qin i n then o else none) cb sb pc L (qI i :: qR kd j :: st) σ := by
  by_cases h : qin i n
  · rw [if_pos h]; exact qv_cald! C hsh hkd hj (hn ▸ h) d (k h)
  · rw [if_neg h]; exact qV.no
theorem qv_iast! (C : qC p l s m meth c cc nL own g) {kd j : Nat} {i x : Int32} (hsh : qsh kd = 1) (hkd : kd < 40) (hj : j < qn kd) (hin : qin i (qlen kd)) (d : decode cc pc = .ok (.iastore, 1)) (k : qV p l e R s m args below meth c g nL Qf o cb sb (pc + 1) L st (qu σ kd j i.toNatClampNeg x)) : qV p l e R s m args below meth c g nL Qf o cb sb pc L (qI x :: qI i :: qR kd j :: st) σ := by
  intro r hr ls H locs cells slots h1 h2 h3 h4 h5
  obtain ⟨hx0, hb, hml, hown, hE, -, -⟩ := C
  obtain ⟨q0, hc0, hq⟩ := qws_at g σ hkd hj
  have hset := qws_set' (e1 := .inl (g.2.1 0, qlen kd, .inl (upd (σ kd j) i.toNatClampNeg x))) h2.2 hc0 hq (by rw [qent1 hsh])
  rw [qent1 hsh] at hq
  exact va_iast hx0 hb hE.1.1 h2.1 h2.2 h3 q0 0 hq rfl (qin_vp hin) d (fun H1 locs1 hP1 hD1 hS1 => k r hr ls H1 locs1 cells slots h1 ⟨hset ▸ hP1, hset ▸ hD1⟩ hS1 h4 h5)
theorem qv_iast (C : qC p l s m meth c cc nL own g) {kd j n : Nat} {i x : Int32} (hn : qlen kd = n) (hsh : qsh kd = 1) (hkd : kd < 40) (hj : j < qn kd) (d : decode cc pc = .ok (.iastore, 1)) (k : qin i n → qV p l e R s m args below meth c g nL Qf o cb sb (pc + 1) L st (qu σ kd j i.toNatClampNeg x)) : qV p l e R s m args below meth c g nL Qf (if qin i n then o else none) cb sb pc L (qI x :: qI i :: qR kd j :: st) σ := by
  by_cases h : qin i n
  · rw [if_pos h]; exact qv_iast! C hsh hkd hj (hn ▸ h) d (k h)
  · rw [if_neg h]; exact qV.no
/-- a char; a boolean -/
abbrev qch (x : Int32) : Prop := 0 ≤ x ∧ x ≤ 65535
abbrev qbo (x : Int32) : Prop := x = 0 ∨ x = 1
theorem qch_fits {x : Int32} (h : qch x) : fits .char (.int x) = true := by simp [fits, h.1, h.2]
theorem qch_nar {x : Int32} (h : qch x) : narrow .char (.int x) = .int x := by
  obtain ⟨n, hn, rfl⟩ := nI_of2 (M := 65535) (n := 65535) (by decide) (by intro h2; exact absurd h.1 (by simpa using h2)) h.2
  exact (pk_charN (by omega)).1
theorem qbo_fits {x : Int32} (h : qbo x) : fits .boolean (.int x) = true := by rcases h with rfl | rfl <;> rfl
theorem qbo_nar {x : Int32} (h : qbo x) : narrow .boolean (.int x) = .int x := by rcases h with rfl | rfl <;> rfl
theorem qin_fits (x : Int32) : fits .int (.int x) = true := rfl
theorem qin_nar (x : Int32) : narrow .int (.int x) = .int x := rfl
theorem qv_cast (C : qC p l s m meth c cc nL own g) {kd j n : Nat} {i x : Int32} (hn : qlen kd = n) (hsh : qsh kd = 2) (hkd : kd < 40) (hj : j < qn kd) (d : decode cc pc = .ok (.castore, 1)) (k : qin i n → qch x → qV p l e R s m args below meth c g nL Qf o cb sb (pc + 1) L st (qu σ kd j i.toNatClampNeg x)) : qV p l e R s m args below meth c g nL Qf (if qin i n ∧ qch x then o else none) cb sb pc L (qI x :: qI i :: qR kd j :: st) σ := by
  by_cases h : qin i n ∧ qch x
  · rw [if_pos h]
    intro r hr ls H locs cells slots h1 h2 h3 h4 h5
    obtain ⟨hx0, hb, hml, hown, hE, -, -⟩ := C
    obtain ⟨q0, hc0, hq⟩ := qws_at g σ hkd hj
    have hset := qws_set' (e1 := .inl (g.2.1 1, qlen kd, .inl (upd (σ kd j) i.toNatClampNeg x))) h2.2 hc0 hq (by rw [qent2 hsh])
    rw [qent2 hsh] at hq
    have K := fun (H1 : Heap) (locs1 : List Loc) hP1 hD1 hS1 => k h.1 h.2 r hr ls H1 locs1 cells slots h1 ⟨hP1, hD1⟩ hS1 h4 h5
    exact va_cast hx0 hb hE.1.1 h2.1 h2.2 h3 q0 1 hq rfl (qin_vp (hn ▸ h.1)) d (fun H1 locs1 hP1 hD1 hS1 => by
      have hz : vp_nar .char x = x := by simp [vp_nar, qch_nar h.2]
      rw [hz] at hP1 hD1
      exact K H1 locs1 (hset ▸ hP1) (hset ▸ hD1) hS1)
  · rw [if_neg h]; exact qV.no
/-- the states' row: the projects from the third on -/
theorem qv_aldS (C : qC p l s m meth c cc nL own g) {i : Int32} (d : decode cc pc = .ok (.aaload, 1)) (k : qin i 8 → qV p l e R s m args below meth c g nL Qf o cb sb (pc + 1) L (qR 1 (3 + i.toNatClampNeg) :: st) σ) : qV p l e R s m args below meth c g nL Qf (if qin i 8 then o else none) cb sb pc L (qI i :: qR 10 0 :: st) σ := by
  by_cases h : qin i 8
  · rw [if_pos h]
    intro r hr ls H locs cells slots h1 h2 h3 h4 h5
    obtain ⟨hx0, hb, hml, hown, hE, -, -⟩ := C
    obtain ⟨q0, hc0, hq⟩ := qws_at g σ (k := 10) (j := 0) (by decide) (by decide)
    rw [qent3 rfl] at hq
    exact va_aldq hx0 hb hE.1.1 h2.1 q0 2 hq rfl (qin_vp h) d (k h r hr ls H locs cells slots h1 h2 h3 h4 h5)
  · rw [if_neg h]; exact qV.no
/-- a place of the commands' row: 0 null, c + 1 the c-th command -/
def qcm (x : Int32) : qA := if x = 0 then .inl .null else qR 40 (x - 1).toNatClampNeg
theorem qv_aldC (C : qC p l s m meth c cc nL own g) {i : Int32} (d : decode cc pc = .ok (.aaload, 1)) (k : qin i 60 → qV p l e R s m args below meth c g nL Qf o cb sb (pc + 1) L (qcm (σ 21 0 i.toNatClampNeg) :: st) σ) : qV p l e R s m args below meth c g nL Qf (if qin i 60 then o else none) cb sb pc L (qI i :: qR 21 0 :: st) σ := by
  by_cases h : qin i 60
  · rw [if_pos h]
    intro r hr ls H locs cells slots h1 h2 h3 h4 h5
    obtain ⟨hx0, hb, hml, hown, hE, -, -⟩ := C
    obtain ⟨q0, hc0, hq⟩ := qws_at g σ (k := 21) (j := 0) (by decide) (by decide)
    rw [qent4 rfl] at hq
    refine va_aldq hx0 hb hE.1.1 h2.1 q0 3 hq rfl (qin_vp h) d ?_
    have K := k h r hr ls H locs cells slots h1 h2 h3 h4 h5
    have e : qcv g (qcm (σ 21 0 i.toNatClampNeg)) = va_rf (if σ 21 0 i.toNatClampNeg = 0 then none else some (g.2.2.1 40 (σ 21 0 i.toNatClampNeg - 1).toNatClampNeg)) := by
      unfold qcm
      split <;> rfl
    rw [List.map_cons, e] at K
    exact K
  · rw [if_neg h]; exact qV.no
theorem qv_null (C : qC p l s m meth c cc nL own g) (d : decode cc pc = .ok (.aconst_null, 1)) (k : qV p l e R s m args below meth c g nL Qf o cb sb (pc + 1) L (.inl .null :: st) σ) : qV p l e R s m args below meth c g nL Qf o cb sb pc L st σ :=
  fun r hr ls H locs cells slots h1 h2 h3 h4 h5 => lv_null C.1 C.2.1 d (k r hr ls H locs cells slots h1 h2 h3 h4 h5)
theorem qv_lald! (C : qC p l s m meth c cc nL own g) {kd j : Nat} {i : Int32} (hsh : qsh kd = 5) (hkd : kd < 40) (hj : j < qn kd) (hin : qin i (qlen kd)) (d : decode cc pc = .ok (.laload, 1)) (k : qV p l e R s m args below meth c g nL Qf o cb sb (pc + 1) L (.inl (.long (σ kd j i.toNatClampNeg).toInt64) :: st) σ) : qV p l e R s m args below meth c g nL Qf o cb sb pc L (qI i :: qR kd j :: st) σ := by
  intro r hr ls H locs cells slots h1 h2 h3 h4 h5
  obtain ⟨hx0, hb, hml, hown, hE, -, -⟩ := C
  obtain ⟨q0, -, hq⟩ := qws_at g σ hkd hj
  rw [qent5 hsh] at hq
  exact va_lald hx0 hb hE.1.1 h2.1 q0 4 hq rfl (qin_vp hin) d (k r hr ls H locs cells slots h1 h2 h3 h4 h5)
theorem qv_last! (C : qC p l s m meth c cc nL own g) {kd j : Nat} {i x : Int32} (hsh : qsh kd = 5) (hkd : kd < 40) (hj : j < qn kd) (hin : qin i (qlen kd)) (d : decode cc pc = .ok (.lastore, 1)) (k : qV p l e R s m args below meth c g nL Qf o cb sb (pc + 1) L st (qu σ kd j i.toNatClampNeg x)) : qV p l e R s m args below meth c g nL Qf o cb sb pc L (.inl (.long x.toInt64) :: qI i :: qR kd j :: st) σ := by
  intro r hr ls H locs cells slots h1 h2 h3 h4 h5
  obtain ⟨hx0, hb, hml, hown, hE, -, -⟩ := C
  obtain ⟨q0, hc0, hq⟩ := qws_at g σ hkd hj
  have hset := qws_set' (i := i.toNatClampNeg) (v := x) (e1 := .inl (g.2.1 4, qlen kd, .inr (.inl (vp_updL (fun i => (σ kd j i).toInt64) i.toNatClampNeg x.toInt64)))) h2.2 hc0 hq (by
    rw [qent5 hsh]
    congr 5
    funext z
    by_cases hz : z = i.toNatClampNeg <;> simp [vp_updL, upd, hz])
  rw [qent5 hsh] at hq
  exact va_last hx0 hb hE.1.1 h2.1 h2.2 h3 q0 4 hq rfl (qin_vp hin) d (fun H1 locs1 hP1 hD1 hS1 => k r hr ls H1 locs1 cells slots h1 ⟨hset ▸ hP1, hset ▸ hD1⟩ hS1 h4 h5)
/-- the ends of a method -/
def qQ (g : qG) (r : qO) : Array Value → State → Outcome → State → Prop := fun _ st oc t => (∃ v : Option qA, r.1 = .inl v ∧ oc = .returned (v.map (qcv g)) ∧ qH g r.2 t.heap) ∧ va_F (qAf g) st t
def qX (g : qG) (r : qO) : String → State → State → Prop := fun E st t => (r.1 = .inr E ∧ qH g r.2 t.heap) ∧ va_F (qAf g) st t
def qPc (g : qG) (As : List qA) (σ : qS) : Array Value → State → Prop := va_Pc (As.map (qcv g)) (fun U => qE g U U.heap ∧ qH g σ U.heap)
abbrev qrm (d mc ms : Nat) : Room := { frames := d + 10, cells := mc, slots := ms, locals := 64 * d + 1000 }
/-- THE CONTRACT of a method at a call: whatever outcome o names, that is how it ends -/
def qM (g : qG) (l : Launch) (d mc ms : Nat) (w : Cond) (y : MethodName) (As : List qA) (σ : qS) (o : Option qO) : Prop := ∀ r : qO, o = some r → vx_Met l y [w] (qrm d mc ms) (qPc g As σ) (qQ g r) (qX g r) mc ms (qAf g)
def qQf (g : qG) (below : List Frame) (args : Array Value) (s : State) (R : Room) : qO → State → Prop := fun r => vx_MQ below (qQ g r) (qX g r) args s R.cells R.slots (qAf g)
theorem qret_q {t : State} {H : Heap} {locs : List Loc} {v : Option qA} (h2 : qH g σ H) (h3 : va_S (qAf g) s.heap H locs) (ht : t.heap = H) : qQ g (.inl v, σ) args s (.returned (v.map (qcv g))) t := ⟨⟨v, rfl, rfl, by rw [ht]; exact h2⟩, h3.F ht⟩
theorem qv_iret (C : qC p l s m meth c cc nL own g) (hr : meth.sig.returnType = some .int) {x : Int32} (d : decode cc pc = .ok (.ireturn, 1)) : qV p l e R s m args below meth c g nL (qQf g below args s R) (some (.inl (some (qI x)), σ)) cb sb pc L [qI x] σ := by
  intro r h0 ls H locs cells slots h1 h2 h3 h4 h5
  cases h0
  obtain ⟨hx0, hb, hml, hown, hE, -, hlk⟩ := C
  exact vx_ret (W.widen (by omega) (by omega) (W.iret hx0 hb hr (fun t ht hW => qret_q (v := some (qI x)) h2 h3 ht) h3.2.2 d hlk))
theorem qv_zret! (C : qC p l s m meth c cc nL own g) {ty : FieldType} (hr : meth.sig.returnType = some ty) {x : Int32} (hn : narrow ty (.int x) = .int x) (d : decode cc pc = .ok (.ireturn, 1)) : qV p l e R s m args below meth c g nL (qQf g below args s R) (some (.inl (some (qI x)), σ)) cb sb pc L [qI x] σ := by
  intro r h0 ls H locs cells slots h1 h2 h3 h4 h5
  cases h0
  obtain ⟨hx0, hb, hml, hown, hE, -, hlk⟩ := C
  exact vx_ret (W.widen (by omega) (by omega) (W.zret hx0 hb hr hn (fun t ht hW => qret_q (v := some (qI x)) h2 h3 ht) h3.2.2 d hlk))
theorem qv_bret (C : qC p l s m meth c cc nL own g) (hr : meth.sig.returnType = some .boolean) {x : Int32} (d : decode cc pc = .ok (.ireturn, 1)) : qV p l e R s m args below meth c g nL (qQf g below args s R) (if qbo x then some (.inl (some (qI x)), σ) else none) cb sb pc L [qI x] σ := by
  by_cases h : qbo x
  · rw [if_pos h]; exact qv_zret! C hr (qbo_nar h) d
  · rw [if_neg h]; exact qV.no
theorem qv_cret (C : qC p l s m meth c cc nL own g) (hr : meth.sig.returnType = some .char) {x : Int32} (d : decode cc pc = .ok (.ireturn, 1)) : qV p l e R s m args below meth c g nL (qQf g below args s R) (if qch x then some (.inl (some (qI x)), σ) else none) cb sb pc L [qI x] σ := by
  by_cases h : qch x
  · rw [if_pos h]; exact qv_zret! C hr (qch_nar h) d
  · rw [if_neg h]; exact qV.no
theorem qv_vret (C : qC p l s m meth c cc nL own g) (hr : meth.sig.returnType = none) (d : decode cc pc = .ok (.return_, 1)) : qV p l e R s m args below meth c g nL (qQf g below args s R) (some (.inl none, σ)) cb sb pc L [] σ := by
  intro r h0 ls H locs cells slots h1 h2 h3 h4 h5
  cases h0
  obtain ⟨hx0, hb, hml, hown, hE, -, hlk⟩ := C
  exact vx_ret (W.widen (by omega) (by omega) (W.vret hx0 hb hr (fun t ht hW => qret_q (v := none) h2 h3 ht) h3.2.2 d hlk))
theorem qv_aret (C : qC p l s m meth c cc nL own g) {nm : String} (hr : meth.sig.returnType = some (.object nm)) {v : qA} (hv : v = .inl .null ∨ ∃ a, v = .inr a) (d : decode cc pc = .ok (.areturn, 1)) : qV p l e R s m args below meth c g nL (qQf g below args s R) (some (.inl (some v), σ)) cb sb pc L [v] σ := by
  intro r h0 ls H locs cells slots h1 h2 h3 h4 h5
  cases h0
  obtain ⟨hx0, hb, hml, hown, hE, -, hlk⟩ := C
  refine vx_ret (W.widen (by omega) (by omega) (W.aret (v := qcv g v) hx0 hb hr (Or.inl ⟨_, rfl⟩) ?_ (fun t ht hW => qret_q (v := some v) h2 h3 ht) h3.2.2 d hlk))
  rcases hv with rfl | ⟨a, rfl⟩
  · exact Or.inl rfl
  · exact Or.inr ⟨_, rfl⟩
theorem qv_dret (C : qC p l s m meth c cc nL own g) (hr : meth.sig.returnType = some .double) {x : UInt64} (d : decode cc pc = .ok (.dreturn, 1)) : qV p l e R s m args below meth c g nL (qQf g below args s R) (some (.inl (some (.inl (.double x))), σ)) cb sb pc L [.inl (.double x)] σ := by
  intro r h0 ls H locs cells slots h1 h2 h3 h4 h5
  cases h0
  obtain ⟨hx0, hb, hml, hown, hE, -, hlk⟩ := C
  exact vx_ret (W.widen (by omega) (by omega) (W.dret hx0 hb hr (fun t ht hW => qret_q (v := some (.inl (.double x))) h2 h3 ht) h3.2.2 d hlk))
theorem qv_fret (C : qC p l s m meth c cc nL own g) (hr : meth.sig.returnType = some .float) {x : UInt32} (d : decode cc pc = .ok (.freturn, 1)) : qV p l e R s m args below meth c g nL (qQf g below args s R) (some (.inl (some (.inl (.float x))), σ)) cb sb pc L [.inl (.float x)] σ := by
  intro r h0 ls H locs cells slots h1 h2 h3 h4 h5
  cases h0
  obtain ⟨hx0, hb, hml, hown, hE, -, hlk⟩ := C
  exact vx_ret (W.widen (by omega) (by omega) (W.fret hx0 hb hr (fun t ht hW => qret_q (v := some (.inl (.float x))) h2 h3 ht) h3.2.2 d hlk))
/-- the locals with which a method begins -/
def qL0 (nL : Nat) (As : List qA) : List (Option qA) := As.map some ++ List.replicate (nL - As.length) none
theorem qlv_args (g : qG) : ∀ (As : List qA) (n i : Nat) (v : qA), (∀ a ∈ As, qcat a = 1) → As[i]? = some v → (n + i, qcv g v) ∈ lv_args n (As.map (qcv g))
  | [], _, _, _, _, h => by simp at h
  | a :: t, n, 0, v, _, h => by simp at h; subst h; simp [lv_args]
  | a :: t, n, i + 1, v, hc, h => by
    simp only [List.getElem?_cons_succ] at h
    have h1 := qlv_args g t (n + 1) i v (fun x hx => hc x (List.mem_cons_of_mem _ hx)) h
    have h2 : (qcv g a).category = 1 := by rw [qcat_cv]; exact hc a List.mem_cons_self
    simp only [List.map_cons, lv_args, h2, show ¬ (1 = 2) by decide, if_false]
    rw [show n + 1 + i = n + (i + 1) by omega] at h1
    exact List.mem_cons_of_mem _ h1
theorem qL0_get {nL : Nat} {As : List qA} {i : Nat} {v : qA} (h : (qL0 nL As)[i]? = some (some v)) : As[i]? = some v := by
  unfold qL0 at h
  by_cases hi : i < As.length
  · rw [List.getElem?_append_left (by simpa using hi)] at h
    simpa using h
  · rw [List.getElem?_append_right (by simpa using hi)] at h
    have := List.eq_of_mem_replicate (List.mem_of_getElem? h)
    cases this
theorem qlg_len (g : qG) : ∀ (As : List qA), (∀ a ∈ As, qcat a = 1) → (lg_sl (As.map (qcv g))).length = As.length
  | [], _ => rfl
  | a :: t, h => by
    have h2 : (qcv g a).category = 1 := by rw [qcat_cv]; exact h a List.mem_cons_self
    have h3 := qlg_len g t (fun x hx => h x (List.mem_cons_of_mem _ hx))
    simp only [lg_sl] at h3 ⊢
    simp [h2, h3]
theorem qM_of {d mc ms maxL : Nat} {cc : ByteArray} {y : MethodName} {ret : Option FieldType} {As : List qA} {o : Option qO} (hy : plainName y.cls = true) (hl : l.stackTraces = false) (hc : ∀ a ∈ As, qcat a = 1) (hlen : As.length ≤ maxL)
    (body : ∀ (p : Program) (e : Env) (s : State) (m : MethodId) (args : Array Value) (below : List Frame) (meth : Method) (c : Code), qC p l s m meth c cc maxL y.cls g → meth.sig.returnType = ret → (∀ x ∈ c.exceptionTable.toList, False) → qV p l e (qrm d mc ms) s m args below meth c g maxL (qQf g below args s (qrm d mc ms)) o mc ms 0 (qL0 maxL As) [] σ) :
    qM g l d mc ms (.code y cc maxL ret) y As σ o := by
  intro r hr
  refine vx_ofW (cc := cc) (maxL := maxL) (ret := ret) hy rfl ?_
  intro p e s m args below meth c s₁ B hml ht hv
  obtain ⟨rfl, hE, hH⟩ := hv
  have hC : qC p l s m meth c cc maxL y.cls g := ⟨B.exec, B.bytes, hml, findClass_of_methodNamed B.named, hE, hl, B.notSynchronized⟩
  have K := body p e s m (List.map (qcv g) As).toArray below meth c hC B.returns ht r hr
  rw [lg_entry_eq]
  refine K _ _ [] 0 0 ?_ hH va_S.rf (by simp) (by simp)
  have h0 := lv_entry (As.map (qcv g)) (n := maxL) (by rw [qlg_len g As hc]; exact hlen)
  refine ⟨h0.1, h0.2.1, fun q hq => ?_⟩
  obtain ⟨i, v, e1, e2, e3⟩ := qlc_mem g _ 0 q hq
  have h4 := qlv_args g As 0 i v hc (qL0_get e2)
  have h5 := h0.2.2 _ h4
  rw [e1, e3]
  exact h5
end QA
end
section
/-! calls, throws, catches -/
/-- how a call goes on: by what it answers, or by what it throws -/
def qbind (o1 : Option qO) (kv : Option qA → qS → Option qO) (kE : String → qS → Option qO) : Option qO := match o1 with
  | none => none
  | some (.inl v, σ1) => kv v σ1
  | some (.inr E, σ1) => kE E σ1
def qvI (k : Int32 → qS → Option qO) : Option qA → qS → Option qO := fun v σ => match v with
  | some (.inl (.int x)) => k x σ
  | _ => none
def qvD (k : UInt64 → qS → Option qO) : Option qA → qS → Option qO := fun v σ => match v with
  | some (.inl (.double x)) => k x σ
  | _ => none
def qvF (k : UInt32 → qS → Option qO) : Option qA → qS → Option qO := fun v σ => match v with
  | some (.inl (.float x)) => k x σ
  | _ => none
def qvV (k : qS → Option qO) : Option qA → qS → Option qO := fun v σ => match v with
  | none => k σ
  | _ => none
/-- a reference of kind K -/
def qvR (K : Nat) (k : Nat → qS → Option qO) : Option qA → qS → Option qO := fun v σ => match v with
  | some (.inr q) => if q.1 = K ∧ q.2 < qn K then k q.2 σ else none
  | _ => none
/-- null, or a reference of kind K, with n of them -/
def qvN (K n : Nat) (kn : qS → Option qO) (k : Nat → qS → Option qO) : Option qA → qS → Option qO := fun v σ => match v with
  | some (.inr q) => if q.1 = K ∧ q.2 < n then k q.2 σ else none
  | some (.inl .null) => kn σ
  | _ => none
def qE0 : String → qS → Option qO := fun _ _ => none
def qE1 : String → qS → Option qO := fun E σ => some (.inr E, σ)
abbrev qcI (o1 : Option qO) (k : Int32 → qS → Option qO) : Option qO := qbind o1 (qvI k) qE0
abbrev qcV (o1 : Option qO) (k : qS → Option qO) : Option qO := qbind o1 (qvV k) qE0
abbrev qcR (K : Nat) (o1 : Option qO) (k : Nat → qS → Option qO) : Option qO := qbind o1 (qvR K k) qE0
abbrev qcD (o1 : Option qO) (k : UInt64 → qS → Option qO) : Option qO := qbind o1 (qvD k) qE0
abbrev qcF (o1 : Option qO) (k : UInt32 → qS → Option qO) : Option qO := qbind o1 (qvF k) qE0
abbrev qtI (o1 : Option qO) (k : Int32 → qS → Option qO) : Option qO := qbind o1 (qvI k) qE1
abbrev qtV (o1 : Option qO) (k : qS → Option qO) : Option qO := qbind o1 (qvV k) qE1
section QB
variable {p : Program} {l : Launch} {e : Env} {R : Room} {s : State} {m : MethodId} {args : Array Value} {below : List Frame} {meth : Method} {c : Code} {g : qG} {nL : Nat} {Qf : qO → State → Prop} {o : Option qO} {cb sb pc : Nat} {L : List (Option qA)} {st : List qA} {σ : qS} {cc : ByteArray} {own : String}
theorem qv_core {H : Heap} {locs : List Loc} {cells slots mc ms : Nat} {Q : State → Prop} {ls : Array Slot} {st0 rest : List Value} {r1 : qO} {a : Array Value} (hr : vx_Run p l e R s m args below meth c H locs cells slots mc ms (F0 m pc ls st0) rest (qQ g r1 a) (qX g r1) (qAf g)) (hS : va_S (qAf g) s.heap H locs)
    (kv : ∀ v : Option qA, r1.1 = .inl v → ∀ (H1 : Heap) (locs1 : List Loc), qH g r1.2 H1 → va_S (qAf g) s.heap H1 locs1 → W p l e R s m args below meth c H1 locs1 (cells + mc) (slots + ms) Q (F0 m (pc + 3) ls ((v.map (qcv g)).toList ++ rest)))
    (kx : ∀ E : String, r1.1 = .inr E → ∀ (ce : Cell) (q9 : Addr) (H1 : Heap) (locs1 : List Loc), qH g r1.2 H1 → va_S (qAf g) s.heap H1 locs1 → H1[q9]? = some ce → ce.vm = .none → s.vm.findClass E = some ce.cls → vx_W p l e R s m args below meth c H1 locs1 (cells + mc) (slots + ms) Q (F0 m pc ls rest) q9) :
    W p l e R s m args below meth c H locs cells slots Q (F0 m pc ls st0) := by
  intro T hT X
  rcases hr T hT X with ⟨v, st₀, t, T', L', h0, X', hL, e1, e2, ⟨⟨v2, hv, hv2, hb⟩, hF⟩, st⟩ | ⟨q, st₀, t, T', L', E, ce, h0, X', hL, e1, e2, ⟨⟨hv, hb⟩, hF⟩, hce, hcv, hcl, st⟩
  · cases hv2
    obtain ⟨k1, k2, k3⟩ := vx_keep h0 e1 hS (fun q _ h => h) (fun q h => h) hL hF
    obtain ⟨t2, a1, b1⟩ := kv v2 hv T'.heap (locs ++ L') (by rw [e1]; exact hb) k3 T' rfl X'
    exact ⟨t2, st t2 a1, b1⟩
  · obtain ⟨k1, k2, k3⟩ := vx_keep h0 e1 hS (fun q _ h => h) (fun q h => h) hL hF
    obtain ⟨t2, a1, b1⟩ := kx E hv ce q T'.heap (locs ++ L') (by rw [e1]; exact hb) k3 (by rw [e1]; exact hce) hcv hcl T' rfl X'
    exact ⟨t2, st.trans a1, b1⟩
theorem qPc_blind {As : List qA} : FrameBlind (qPc g As σ) := fun a U g0 mk h => ⟨h.1, h.2.1.blind, h.2.2⟩
/-- the words that a callee's contract wants of its caller -/
theorem qword1 {w : Cond} (h : qKt g s) (hw : w ∈ qWA) : ∀ w' ∈ [w], ∀ (a' : Array Value) (U : State), s.WarmedH U.vm → w'.before a' U = true := by
  intro w' hw' a' U hW
  rw [List.mem_singleton.mp hw']
  exact qok_warm (List.mem_filter.mp hw).2 hW (h.2.1 w hw)
/-- a method that may be called: its code, its class -/
def qMw (y : MethodName) (b : ByteArray) (mL n : Nat) (ret : Option FieldType) : Prop :=
  Cond.code y b mL ret ∈ qWA ∧ Cond.initialized y.cls ∈ qWA ∧ (y.cls ≠ "java/lang/invoke/MethodHandle" ∧ y.cls ≠ "java/lang/invoke/VarHandle") ∧ (parseMethodDescriptor y.desc).map (fun d => d.parameters.length) = some n
theorem qCallB {idx mL n d mc ms : Nat} {y : MethodName} {b : ByteArray} {ret : Option FieldType} (h : qKt g s) (hw : qMw y b mL n ret) (hl : Cond.methodLink own idx y ∈ qWA) (hR : d + 11 ≤ R.frames ∧ 8 + (mL + 11) + (64 * d + 1000) ≤ R.locals) :
    CallB R s args own idx y b mL ret [.code y b mL ret] (qrm d mc ms) mc ms n := by
  obtain ⟨h1, h2, h3, h4⟩ := hw
  refine ⟨rfl, rfl, by show d + 10 + 1 ≤ _; omega, hR.2, qword1 h h1, List.mem_singleton.mpr rfl, qword h h1, qword h h2, h3, fun sig hs => ?_, qword h hl⟩
  rw [hs] at h4
  exact (Option.some.inj h4).symm
theorem qcat_sum (g : qG) (rest : List qA) : ((rest.map (qcv g)).map fun v => v.category).sum = (rest.map qcat).sum := by
  rw [List.map_map]
  congr 1
  exact List.map_congr_left fun v _ => qcat_cv g v
theorem qroom {ls : Array Slot} {st0 : List Value} {rest : List qA} (h : (rest.map qcat).sum ≤ 8) : 2 * (F0 m pc ls st0).monitorRoom + ((rest.map (qcv g)).map fun v => v.category).sum ≤ 8 := lv_room (by rw [qcat_sum]; exact h)
/-- a static call within the class -/
theorem qrunS (C : qC p l s m meth c cc nL own g) {idx mL n d mc ms cells slots : Nat} {y : MethodName} {b : ByteArray} {ret : Option FieldType} {As rest : List qA} {o1 : Option qO} {r1 : qO} {ls : Array Slot} {H : Heap} {locs : List Loc} (hM : qM g l d mc ms (.code y b mL ret) y As σ o1) (hr1 : o1 = some r1) (hw : qMw y b mL n ret) (hl : Cond.methodLink own idx y ∈ qWA) (hst : Cond.static y ∈ qWA) (hn : As.length = n) (hrest : (rest.map qcat).sum ≤ 8) (hR : d + 11 ≤ R.frames ∧ 8 + (mL + 11) + (64 * d + 1000) ≤ R.locals)
    (dd : decode cc pc = .ok (.invokestatic idx, 3)) (h1 : qLs g ls nL L) (h2 : qH g σ H) (h3 : va_S (qAf g) s.heap H locs) (h4 : cells + mc ≤ R.cells) (h5 : slots + ms ≤ R.slots) :
    vx_Run p l e R s m args below meth c H locs cells slots mc ms (F0 m pc ls ((As.reverse ++ rest).map (qcv g))) (rest.map (qcv g)) (qQ g r1 (As.map (qcv g)).toArray) (qX g r1) (qAf g) := by
  obtain ⟨hx0, hb, hml, hown, hE, -, -⟩ := C
  exact vx_runS (As := As.map (qcv g)) (rest := rest.map (qcv g)) ⟨hx0, hb, hml, hown, qwords (a := args) hE.1⟩ (hM r1 hr1) ⟨qCallB hE.1 hw hl hR, qword hE.1 hst⟩ ⟨qPc_blind, fun U hU hW => ⟨rfl, hE.go hW h3 hU, by rw [hU]; exact h2⟩⟩ rfl (by rw [List.length_map]; exact hn) h1.1 (by rw [List.map_append, List.map_reverse]) (qroom hrest) dd ⟨h4, h5⟩
/-- an object's cell, for its calls -/
theorem qcell (h : qKt g s) {H : Heap} {kd j N : Nat} {C0 : String} {T : u_T} (h2 : qH g σ H) (hsh : qsh kd = 0) (hkd : kd < 40) (hj : j < qn kd) (hc : qcls[qci kd]? = some (C0, T, N)) : ∃ cellB : Cell, H[g.2.2.1 kd j]? = some cellB ∧ cellB.vm.isStatics = false ∧ s.vm.findClass C0 = some cellB.cls := by
  obtain ⟨q0, -, hq⟩ := qws_at g σ hkd hj
  rw [qent0 hsh] at hq
  exact va_recv h.1 h2.1 hc hq
theorem qrunV (C : qC p l s m meth c cc nL own g) {idx mL n d mc ms cells slots kd j N : Nat} {C0 : String} {T : u_T} {y : MethodName} {b : ByteArray} {ret : Option FieldType} {As rest : List qA} {o1 : Option qO} {r1 : qO} {ls : Array Slot} {H : Heap} {locs : List Loc} (hM : qM g l d mc ms (.code y b mL ret) y (qR kd j :: As) σ o1) (hr1 : o1 = some r1) (hw : qMw y b mL n ret) (hl : Cond.methodLink own idx y ∈ qWA) (hin : Cond.instanceMethod y ∈ qWA) (hse : Cond.selects C0 y y ∈ qWA) (hsh : qsh kd = 0) (hkd : kd < 40) (hj : j < qn kd) (hc : qcls[qci kd]? = some (C0, T, N)) (hn : As.length = n) (hrest : (rest.map qcat).sum ≤ 8) (hR : d + 11 ≤ R.frames ∧ 8 + (mL + 11) + (64 * d + 1000) ≤ R.locals)
    (dd : decode cc pc = .ok (.invokevirtual idx, 3)) (h1 : qLs g ls nL L) (h2 : qH g σ H) (h3 : va_S (qAf g) s.heap H locs) (h4 : cells + mc ≤ R.cells) (h5 : slots + ms ≤ R.slots) :
    vx_Run p l e R s m args below meth c H locs cells slots mc ms (F0 m pc ls ((As.reverse ++ qR kd j :: rest).map (qcv g))) (rest.map (qcv g)) (qQ g r1 ((qR kd j :: As).map (qcv g)).toArray) (qX g r1) (qAf g) := by
  obtain ⟨hx0, hb, hml, hown, hE, -, -⟩ := C
  exact vx_runV (C := C0) (b := g.2.2.1 kd j) (As := As.map (qcv g)) (rest := rest.map (qcv g)) ⟨hx0, hb, hml, hown, qwords (a := args) hE.1⟩ (hM r1 hr1) ⟨qCallB hE.1 hw hl hR, qword hE.1 hin, qword hE.1 hse⟩ ⟨qPc_blind, qcell hE.1 h2 hsh hkd hj hc, fun U hU hW => ⟨rfl, hE.go hW h3 hU, by rw [hU]; exact h2⟩⟩ rfl (by rw [List.length_map]; exact hn) h1.1 (by simp [qcv]) (qroom hrest) dd ⟨h4, h5⟩
/-- a contract whose outcome is an answer, as one that never throws -/
theorem qM_met {d mc ms : Nat} {w : Cond} {y : MethodName} {As : List qA} {o1 : Option qO} {v : Option qA} {σ1 : qS} (hM : qM g l d mc ms w y As σ o1) (hr : o1 = some (.inl v, σ1)) : Met l y [w] (qrm d mc ms) (qPc g As σ) (qQ g (.inl v, σ1)) mc ms (qAf g) :=
  (hM _ hr).mono (fun _ _ h => h) (fun _ _ _ _ _ h => h) (fun a st oc t _ h => by
    rcases h with h | ⟨q, -, E, ce, L, ⟨⟨h, -⟩, -⟩, -⟩
    · exact h
    · cases h)
theorem qCN {idx mL n d mc ms : Nat} {y : MethodName} {b : ByteArray} {ret : Option FieldType} {host : String} (h : qKt g s) (hw : qMw y b mL n ret) (hl : Cond.methodLinkNest own idx y host ∈ qWA) (hR : d + 11 ≤ R.frames ∧ 8 + (mL + 11) + (64 * d + 1000) ≤ R.locals) :
    va_CN R s args own idx y host b mL ret [.code y b mL ret] (qrm d mc ms) mc ms n := by
  obtain ⟨h1, h2, h3, h4⟩ := hw
  refine ⟨⟨rfl, rfl, by show d + 10 + 1 ≤ _; omega, hR.2, qword1 h h1, List.mem_singleton.mpr rfl⟩, qword h h1, qword h h2, h3, fun sig hs => ?_, qword h hl⟩
  rw [hs] at h4
  exact (Option.some.inj h4).symm
/-- of a run that only returns, one that may throw -/
theorem qrun_of {H : Heap} {locs : List Loc} {cells slots mc ms : Nat} {g0 : JFrame} {rest : List Value} {Qa : State → Outcome → State → Prop} {XC : String → State → State → Prop} {free : Addr → Prop} (h : va_Run p l e R s m args below meth c H locs cells slots mc ms g0 rest Qa free) : vx_Run p l e R s m args below meth c H locs cells slots mc ms g0 rest Qa XC free := fun T hT X => Or.inl (h T hT X)
theorem qrunSN (C : qC p l s m meth c cc nL own g) {idx mL n d mc ms cells slots : Nat} {y : MethodName} {b : ByteArray} {ret : Option FieldType} {host : String} {As rest : List qA} {o1 : Option qO} {v : Option qA} {σ1 : qS} {ls : Array Slot} {H : Heap} {locs : List Loc} (hM : qM g l d mc ms (.code y b mL ret) y As σ o1) (hr1 : o1 = some (.inl v, σ1)) (hw : qMw y b mL n ret) (hl : Cond.methodLinkNest own idx y host ∈ qWA) (hst : Cond.static y ∈ qWA) (hn : As.length = n) (hrest : (rest.map qcat).sum ≤ 8) (hR : d + 11 ≤ R.frames ∧ 8 + (mL + 11) + (64 * d + 1000) ≤ R.locals)
    (dd : decode cc pc = .ok (.invokestatic idx, 3)) (h1 : qLs g ls nL L) (h2 : qH g σ H) (h3 : va_S (qAf g) s.heap H locs) (h4 : cells + mc ≤ R.cells) (h5 : slots + ms ≤ R.slots) :
    vx_Run p l e R s m args below meth c H locs cells slots mc ms (F0 m pc ls ((As.reverse ++ rest).map (qcv g))) (rest.map (qcv g)) (qQ g (.inl v, σ1) (As.map (qcv g)).toArray) (qX g (.inl v, σ1)) (qAf g) := by
  obtain ⟨hx0, hb, hml, hown, hE, -, -⟩ := C
  exact qrun_of (va_runSN (As := As.map (qcv g)) (rest := rest.map (qcv g)) ⟨hx0, hb, hml, hown, qwords (a := args) hE.1⟩ (qM_met hM hr1) ⟨qCN hE.1 hw hl hR, qword hE.1 hst, trivial⟩ ⟨qPc_blind, fun U hU hW => ⟨rfl, hE.go hW h3 hU, by rw [hU]; exact h2⟩⟩ rfl (by rw [List.length_map]; exact hn) h1.1 (by rw [List.map_append, List.map_reverse]) (qroom hrest) dd ⟨h4, h5⟩)
theorem qrunVN (C : qC p l s m meth c cc nL own g) {idx mL n d mc ms cells slots kd j N : Nat} {C0 : String} {T : u_T} {y : MethodName} {b : ByteArray} {ret : Option FieldType} {host : String} {As rest : List qA} {o1 : Option qO} {v : Option qA} {σ1 : qS} {ls : Array Slot} {H : Heap} {locs : List Loc} (hM : qM g l d mc ms (.code y b mL ret) y (qR kd j :: As) σ o1) (hr1 : o1 = some (.inl v, σ1)) (hw : qMw y b mL n ret) (hl : Cond.methodLinkNest own idx y host ∈ qWA) (hin : Cond.instanceMethod y ∈ qWA) (hse : Cond.selects C0 y y ∈ qWA) (hsh : qsh kd = 0) (hkd : kd < 40) (hj : j < qn kd) (hc : qcls[qci kd]? = some (C0, T, N)) (hn : As.length = n) (hrest : (rest.map qcat).sum ≤ 8) (hR : d + 11 ≤ R.frames ∧ 8 + (mL + 11) + (64 * d + 1000) ≤ R.locals)
    (dd : decode cc pc = .ok (.invokevirtual idx, 3)) (h1 : qLs g ls nL L) (h2 : qH g σ H) (h3 : va_S (qAf g) s.heap H locs) (h4 : cells + mc ≤ R.cells) (h5 : slots + ms ≤ R.slots) :
    vx_Run p l e R s m args below meth c H locs cells slots mc ms (F0 m pc ls ((As.reverse ++ qR kd j :: rest).map (qcv g))) (rest.map (qcv g)) (qQ g (.inl v, σ1) ((qR kd j :: As).map (qcv g)).toArray) (qX g (.inl v, σ1)) (qAf g) := by
  obtain ⟨hx0, hb, hml, hown, hE, -, -⟩ := C
  exact qrun_of (va_runVN (C := C0) (b := g.2.2.1 kd j) (As := As.map (qcv g)) (rest := rest.map (qcv g)) ⟨hx0, hb, hml, hown, qwords (a := args) hE.1⟩ (qM_met hM hr1) ⟨qCN hE.1 hw hl hR, qword hE.1 hin, qword hE.1 hse⟩ ⟨qPc_blind, qcell hE.1 h2 hsh hkd hj hc, fun U hU hW => ⟨rfl, hE.go hW h3 hU, by rw [hU]; exact h2⟩⟩ rfl (by rw [List.length_map]; exact hn) h1.1 (by simp [qcv]) (qroom hrest) dd ⟨h4, h5⟩)
theorem qv_map (v : Option qA) (rest : List qA) : (v.map (qcv g)).toList ++ rest.map (qcv g) = (v.toList ++ rest).map (qcv g) := by cases v <;> rfl
theorem qkI {k : Int32 → qS → Option qO} {rest : List qA} (h : ∀ (x : Int32) (σ1 : qS), qV p l e R s m args below meth c g nL Qf (k x σ1) cb sb pc L (qI x :: rest) σ1) : ∀ (v : Option qA) (σ1 : qS), qV p l e R s m args below meth c g nL Qf (qvI k v σ1) cb sb pc L (v.toList ++ rest) σ1
  | some (.inl (.int x)), σ1 => h x σ1
  | none, _ | some (.inl (.long _)), _ | some (.inl (.float _)), _ | some (.inl (.double _)), _ | some (.inl .null), _ | some (.inl (.ref _)), _ | some (.inl (.retAddr _)), _ | some (.inr _), _ => qV.no
theorem qkD {k : UInt64 → qS → Option qO} {rest : List qA} (h : ∀ (x : UInt64) (σ1 : qS), qV p l e R s m args below meth c g nL Qf (k x σ1) cb sb pc L (.inl (.double x) :: rest) σ1) : ∀ (v : Option qA) (σ1 : qS), qV p l e R s m args below meth c g nL Qf (qvD k v σ1) cb sb pc L (v.toList ++ rest) σ1
  | some (.inl (.double x)), σ1 => h x σ1
  | none, _ | some (.inl (.long _)), _ | some (.inl (.float _)), _ | some (.inl (.int _)), _ | some (.inl .null), _ | some (.inl (.ref _)), _ | some (.inl (.retAddr _)), _ | some (.inr _), _ => qV.no
theorem qkF {k : UInt32 → qS → Option qO} {rest : List qA} (h : ∀ (x : UInt32) (σ1 : qS), qV p l e R s m args below meth c g nL Qf (k x σ1) cb sb pc L (.inl (.float x) :: rest) σ1) : ∀ (v : Option qA) (σ1 : qS), qV p l e R s m args below meth c g nL Qf (qvF k v σ1) cb sb pc L (v.toList ++ rest) σ1
  | some (.inl (.float x)), σ1 => h x σ1
  | none, _ | some (.inl (.long _)), _ | some (.inl (.double _)), _ | some (.inl (.int _)), _ | some (.inl .null), _ | some (.inl (.ref _)), _ | some (.inl (.retAddr _)), _ | some (.inr _), _ => qV.no
theorem qkV {k : qS → Option qO} {rest : List qA} (h : ∀ (σ1 : qS), qV p l e R s m args below meth c g nL Qf (k σ1) cb sb pc L rest σ1) : ∀ (v : Option qA) (σ1 : qS), qV p l e R s m args below meth c g nL Qf (qvV k v σ1) cb sb pc L (v.toList ++ rest) σ1
  | none, σ1 => h σ1
  | some _, _ => qV.no
theorem qkR {K : Nat} {k : Nat → qS → Option qO} {rest : List qA} (h : ∀ (j : Nat), j < qn K → ∀ σ1 : qS, qV p l e R s m args below meth c g nL Qf (k j σ1) cb sb pc L (qR K j :: rest) σ1) : ∀ (v : Option qA) (σ1 : qS), qV p l e R s m args below meth c g nL Qf (qvR K k v σ1) cb sb pc L (v.toList ++ rest) σ1
  | some (.inr (K', j)), σ1 => by
    show qV p l e R s m args below meth c g nL Qf (if K' = K ∧ j < qn K then k j σ1 else none) cb sb pc L (qR K' j :: rest) σ1
    by_cases h1 : K' = K ∧ j < qn K
    · rw [if_pos h1]; obtain ⟨rfl, h2⟩ := h1; exact h j h2 σ1
    · rw [if_neg h1]; exact qV.no
  | none, _ | some (.inl _), _ => qV.no
theorem qkN {K n : Nat} {kn : qS → Option qO} {k : Nat → qS → Option qO} {rest : List qA} (hn : ∀ σ1 : qS, qV p l e R s m args below meth c g nL Qf (kn σ1) cb sb pc L (.inl .null :: rest) σ1) (h : ∀ (j : Nat), j < n → ∀ σ1 : qS, qV p l e R s m args below meth c g nL Qf (k j σ1) cb sb pc L (qR K j :: rest) σ1) : ∀ (v : Option qA) (σ1 : qS), qV p l e R s m args below meth c g nL Qf (qvN K n kn k v σ1) cb sb pc L (v.toList ++ rest) σ1
  | some (.inr (K', j)), σ1 => by
    show qV p l e R s m args below meth c g nL Qf (if K' = K ∧ j < n then k j σ1 else none) cb sb pc L (qR K' j :: rest) σ1
    by_cases h1 : K' = K ∧ j < n
    · rw [if_pos h1]; obtain ⟨rfl, h2⟩ := h1; exact h j h2 σ1
    · rw [if_neg h1]; exact qV.no
  | some (.inl .null), σ1 => hn σ1
  | none, _ | some (.inl (.long _)), _ | some (.inl (.float _)), _ | some (.inl (.double _)), _ | some (.inl (.int _)), _ | some (.inl (.ref _)), _ | some (.inl (.retAddr _)), _ => qV.no
/-- a call that is to answer -/
theorem qv_callS (C : qC p l s m meth c cc nL own g) {idx mL n d mc ms : Nat} {y : MethodName} {b : ByteArray} {ret : Option FieldType} {As rest : List qA} {o1 : Option qO} {kv : Option qA → qS → Option qO} (hM : qM g l d mc ms (.code y b mL ret) y As σ o1) (hw : qMw y b mL n ret) (hl : Cond.methodLink own idx y ∈ qWA) (hstt : Cond.static y ∈ qWA) (hn : As.length = n) (hrest : (rest.map qcat).sum ≤ 8) (hR : d + 11 ≤ R.frames ∧ 8 + (mL + 11) + (64 * d + 1000) ≤ R.locals) (dd : decode cc pc = .ok (.invokestatic idx, 3)) (hst : st = As.reverse ++ rest) (k : ∀ (v : Option qA) (σ1 : qS), qV p l e R s m args below meth c g nL Qf (kv v σ1) cb sb (pc + 3) L (v.toList ++ rest) σ1) : qV p l e R s m args below meth c g nL Qf (qbind o1 kv qE0) (mc + cb) (ms + sb) pc L st σ := by
  subst hst
  intro r hr ls H locs cells slots h1 h2 h3 h4 h5
  match o1, hM, hr with
  | none, _, hr => cases hr
  | some (.inr E, σ1), _, hr => cases hr
  | some (.inl v, σ1), hM, hr =>
    refine qv_core (qrunS C hM rfl hw hl hstt hn hrest hR dd h1 h2 h3 (by omega) (by omega)) h3 (fun v2 hv2 H1 locs1 hb1 hS1 => ?_) (fun E hE2 => ?_)
    · cases hv2
      rw [qv_map]
      exact k v σ1 r hr ls H1 locs1 _ _ h1 hb1 hS1 (by omega) (by omega)
    · cases hE2
/-- a call that is to answer -/
theorem qv_callSN (C : qC p l s m meth c cc nL own g) {idx mL n d mc ms : Nat} {y : MethodName} {b : ByteArray} {ret : Option FieldType} {As rest : List qA} {o1 : Option qO} {kv : Option qA → qS → Option qO} (hM : qM g l d mc ms (.code y b mL ret) y As σ o1) (hw : qMw y b mL n ret) (hl : ∃ host : String, Cond.methodLinkNest own idx y host ∈ qWA) (hstt : Cond.static y ∈ qWA) (hn : As.length = n) (hrest : (rest.map qcat).sum ≤ 8) (hR : d + 11 ≤ R.frames ∧ 8 + (mL + 11) + (64 * d + 1000) ≤ R.locals) (dd : decode cc pc = .ok (.invokestatic idx, 3)) (hst : st = As.reverse ++ rest) (k : ∀ (v : Option qA) (σ1 : qS), qV p l e R s m args below meth c g nL Qf (kv v σ1) cb sb (pc + 3) L (v.toList ++ rest) σ1) : qV p l e R s m args below meth c g nL Qf (qbind o1 kv qE0) (mc + cb) (ms + sb) pc L st σ := by
  subst hst
  obtain ⟨host, hlh⟩ := hl
  intro r hr ls H locs cells slots h1 h2 h3 h4 h5
  match o1, hM, hr with
  | none, _, hr => cases hr
  | some (.inr E, σ1), _, hr => cases hr
  | some (.inl v, σ1), hM, hr =>
    refine qv_core (qrunSN C hM rfl hw hlh hstt hn hrest hR dd h1 h2 h3 (by omega) (by omega)) h3 (fun v2 hv2 H1 locs1 hb1 hS1 => ?_) (fun E hE2 => ?_)
    · cases hv2
      rw [qv_map]
      exact k v σ1 r hr ls H1 locs1 _ _ h1 hb1 hS1 (by omega) (by omega)
    · cases hE2
/-- a call that is to answer -/
theorem qv_callV (C : qC p l s m meth c cc nL own g) {idx mL n d mc ms kd j N : Nat} {C0 : String} {T : u_T} {y : MethodName} {b : ByteArray} {ret : Option FieldType} {As rest : List qA} {o1 : Option qO} {kv : Option qA → qS → Option qO} (hM : qM g l d mc ms (.code y b mL ret) y (qR kd j :: As) σ o1) (hw : qMw y b mL n ret) (hl : Cond.methodLink own idx y ∈ qWA) (hin : Cond.instanceMethod y ∈ qWA) (hse : Cond.selects C0 y y ∈ qWA) (hsh : qsh kd = 0) (hkd : kd < 40) (hj : j < qn kd) (hc : qcls[qci kd]? = some (C0, T, N)) (hn : As.length = n) (hrest : (rest.map qcat).sum ≤ 8) (hR : d + 11 ≤ R.frames ∧ 8 + (mL + 11) + (64 * d + 1000) ≤ R.locals) (dd : decode cc pc = .ok (.invokevirtual idx, 3)) (hst : st = As.reverse ++ qR kd j :: rest) (k : ∀ (v : Option qA) (σ1 : qS), qV p l e R s m args below meth c g nL Qf (kv v σ1) cb sb (pc + 3) L (v.toList ++ rest) σ1) : qV p l e R s m args below meth c g nL Qf (qbind o1 kv qE0) (mc + cb) (ms + sb) pc L st σ := by
  subst hst
  intro r hr ls H locs cells slots h1 h2 h3 h4 h5
  match o1, hM, hr with
  | none, _, hr => cases hr
  | some (.inr E, σ1), _, hr => cases hr
  | some (.inl v, σ1), hM, hr =>
    refine qv_core (qrunV C hM rfl hw hl hin hse hsh hkd hj hc hn hrest hR dd h1 h2 h3 (by omega) (by omega)) h3 (fun v2 hv2 H1 locs1 hb1 hS1 => ?_) (fun E hE2 => ?_)
    · cases hv2
      rw [qv_map]
      exact k v σ1 r hr ls H1 locs1 _ _ h1 hb1 hS1 (by omega) (by omega)
    · cases hE2
/-- a call that is to answer -/
theorem qv_callVN (C : qC p l s m meth c cc nL own g) {idx mL n d mc ms kd j N : Nat} {C0 : String} {T : u_T} {y : MethodName} {b : ByteArray} {ret : Option FieldType} {As rest : List qA} {o1 : Option qO} {kv : Option qA → qS → Option qO} (hM : qM g l d mc ms (.code y b mL ret) y (qR kd j :: As) σ o1) (hw : qMw y b mL n ret) (hl : ∃ host : String, Cond.methodLinkNest own idx y host ∈ qWA) (hin : Cond.instanceMethod y ∈ qWA) (hse : Cond.selects C0 y y ∈ qWA) (hsh : qsh kd = 0) (hkd : kd < 40) (hj : j < qn kd) (hc : qcls[qci kd]? = some (C0, T, N)) (hn : As.length = n) (hrest : (rest.map qcat).sum ≤ 8) (hR : d + 11 ≤ R.frames ∧ 8 + (mL + 11) + (64 * d + 1000) ≤ R.locals) (dd : decode cc pc = .ok (.invokevirtual idx, 3)) (hst : st = As.reverse ++ qR kd j :: rest) (k : ∀ (v : Option qA) (σ1 : qS), qV p l e R s m args below meth c g nL Qf (kv v σ1) cb sb (pc + 3) L (v.toList ++ rest) σ1) : qV p l e R s m args below meth c g nL Qf (qbind o1 kv qE0) (mc + cb) (ms + sb) pc L st σ := by
  subst hst
  obtain ⟨host, hlh⟩ := hl
  intro r hr ls H locs cells slots h1 h2 h3 h4 h5
  match o1, hM, hr with
  | none, _, hr => cases hr
  | some (.inr E, σ1), _, hr => cases hr
  | some (.inl v, σ1), hM, hr =>
    refine qv_core (qrunVN C hM rfl hw hlh hin hse hsh hkd hj hc hn hrest hR dd h1 h2 h3 (by omega) (by omega)) h3 (fun v2 hv2 H1 locs1 hb1 hS1 => ?_) (fun E hE2 => ?_)
    · cases hv2
      rw [qv_map]
      exact k v σ1 r hr ls H1 locs1 _ _ h1 hb1 hS1 (by omega) (by omega)
    · cases hE2
/-- a call that may throw, past this method -/
theorem qt_callS (C : qC p l s m meth c cc nL own g) {idx mL n d mc ms : Nat} {y : MethodName} {b : ByteArray} {ret : Option FieldType} {As rest : List qA} {o1 : Option qO} {kv : Option qA → qS → Option qO} (hM : qM g l d mc ms (.code y b mL ret) y As σ o1) (hw : qMw y b mL n ret) (hl : Cond.methodLink own idx y ∈ qWA) (hstt : Cond.static y ∈ qWA) (hn : As.length = n) (hrest : (rest.map qcat).sum ≤ 8) (hR : d + 11 ≤ R.frames ∧ 8 + (mL + 11) + (64 * d + 1000) ≤ R.locals) (dd : decode cc pc = .ok (.invokestatic idx, 3)) (hst : st = As.reverse ++ rest) (ht : ∀ x ∈ c.exceptionTable.toList, False) (k : ∀ (v : Option qA) (σ1 : qS), qV p l e R s m args below meth c g nL (qQf g below args s R) (kv v σ1) cb sb (pc + 3) L (v.toList ++ rest) σ1) : qV p l e R s m args below meth c g nL (qQf g below args s R) (qbind o1 kv qE1) (mc + cb) (ms + sb) pc L st σ := by
  subst hst
  intro r hr ls H locs cells slots h1 h2 h3 h4 h5
  match o1, hM, hr with
  | none, _, hr => cases hr
  | some (.inr E, σ1), hM, hr =>
    refine qv_core (qrunS C hM rfl hw hl hstt hn hrest hR dd h1 h2 h3 (by omega) (by omega)) h3 (fun v2 hv2 => ?_) (fun E2 hE2 ce q9 H1 locs1 hb1 hS1 hce hcv hcl => ?_)
    · cases hv2
    · cases hE2
      cases hr
      exact vx_out (fun x hx => (ht x hx).elim) C.2.2.2.2.2.2 hce hcv hcl (fun t ht2 _ => ⟨⟨rfl, by rw [ht2]; exact hb1⟩, hS1.F ht2⟩) hS1.2.2 (by omega) (by omega)
  | some (.inl v, σ1), hM, hr =>
    refine qv_core (qrunS C hM rfl hw hl hstt hn hrest hR dd h1 h2 h3 (by omega) (by omega)) h3 (fun v2 hv2 H1 locs1 hb1 hS1 => ?_) (fun E hE2 => ?_)
    · cases hv2
      rw [qv_map]
      exact k v σ1 r hr ls H1 locs1 _ _ h1 hb1 hS1 (by omega) (by omega)
    · cases hE2
/-- a call that may throw, past this method -/
theorem qt_callV (C : qC p l s m meth c cc nL own g) {idx mL n d mc ms kd j N : Nat} {C0 : String} {T : u_T} {y : MethodName} {b : ByteArray} {ret : Option FieldType} {As rest : List qA} {o1 : Option qO} {kv : Option qA → qS → Option qO} (hM : qM g l d mc ms (.code y b mL ret) y (qR kd j :: As) σ o1) (hw : qMw y b mL n ret) (hl : Cond.methodLink own idx y ∈ qWA) (hin : Cond.instanceMethod y ∈ qWA) (hse : Cond.selects C0 y y ∈ qWA) (hsh : qsh kd = 0) (hkd : kd < 40) (hj : j < qn kd) (hc : qcls[qci kd]? = some (C0, T, N)) (hn : As.length = n) (hrest : (rest.map qcat).sum ≤ 8) (hR : d + 11 ≤ R.frames ∧ 8 + (mL + 11) + (64 * d + 1000) ≤ R.locals) (dd : decode cc pc = .ok (.invokevirtual idx, 3)) (hst : st = As.reverse ++ qR kd j :: rest) (ht : ∀ x ∈ c.exceptionTable.toList, False) (k : ∀ (v : Option qA) (σ1 : qS), qV p l e R s m args below meth c g nL (qQf g below args s R) (kv v σ1) cb sb (pc + 3) L (v.toList ++ rest) σ1) : qV p l e R s m args below meth c g nL (qQf g below args s R) (qbind o1 kv qE1) (mc + cb) (ms + sb) pc L st σ := by
  subst hst
  intro r hr ls H locs cells slots h1 h2 h3 h4 h5
  match o1, hM, hr with
  | none, _, hr => cases hr
  | some (.inr E, σ1), hM, hr =>
    refine qv_core (qrunV C hM rfl hw hl hin hse hsh hkd hj hc hn hrest hR dd h1 h2 h3 (by omega) (by omega)) h3 (fun v2 hv2 => ?_) (fun E2 hE2 ce q9 H1 locs1 hb1 hS1 hce hcv hcl => ?_)
    · cases hv2
    · cases hE2
      cases hr
      exact vx_out (fun x hx => (ht x hx).elim) C.2.2.2.2.2.2 hce hcv hcl (fun t ht2 _ => ⟨⟨rfl, by rw [ht2]; exact hb1⟩, hS1.F ht2⟩) hS1.2.2 (by omega) (by omega)
  | some (.inl v, σ1), hM, hr =>
    refine qv_core (qrunV C hM rfl hw hl hin hse hsh hkd hj hc hn hrest hR dd h1 h2 h3 (by omega) (by omega)) h3 (fun v2 hv2 H1 locs1 hb1 hS1 => ?_) (fun E hE2 => ?_)
    · cases hv2
      rw [qv_map]
      exact k v σ1 r hr ls H1 locs1 _ _ h1 hb1 hS1 (by omega) (by omega)
    · cases hE2
end QB
section QT
variable {p : Program} {l : Launch} {e : Env} {R : Room} {s : State} {m : MethodId} {args : Array Value} {below : List Frame} {meth : Method} {c : Code} {g : qG} {nL : Nat} {Qf : qO → State → Prop} {o : Option qO} {cb sb pc : Nat} {L : List (Option qA)} {st : List qA} {σ : qS} {cc : ByteArray} {own : String}
/-- the world stands when new cells come -/
theorem qH.new {H H1 : Heap} (h : qH g σ H) (hk : ∀ q : Nat, q < H.size → H1[q]? = H[q]?) : qH g σ H1 := ⟨h.1.kept (fun k q hq => hk q.1 (h.1 k q hq).lt), h.2⟩
abbrev qxn : List String := ["java/lang/RuntimeException", "java/lang/Exception"]
/-- what a throw of class E wants of the tables -/
def qThr (ik ic : Nat) (E : String) : Prop := Bundle.fit E = true ∧ Cond.classLink RX7 ik E ∈ qWA ∧ Cond.initialized E ∈ qWA ∧ (∀ w ∈ vx_atS RX7 ic E qxn, w ∈ qWA) ∧ (∀ w ∈ Cond.classLink RX7 ik E :: Cond.initialized E :: vx_atS RX7 ic E qxn, vx_ot w = true)
theorem qxn_fit : ∀ n ∈ qxn, Bundle.fit n = true := by decide +kernel
theorem qthrow_x {t : State} {H : Heap} {locs : List Loc} {E : String} (h2 : qH g σ H) (h3 : va_S (qAf g) s.heap H locs) (hsz : H.size ≤ t.heap.size) (hk : ∀ q : Nat, q < H.size → t.heap[q]? = H[q]?) : qX g (.inr E, σ) E s t :=
  ⟨⟨rfl, h2.new hk⟩, Nat.le_trans h3.1 hsz, fun q h1 h4 => by rw [hk q (Nat.lt_of_lt_of_le h1 h3.1)]; exact h3.2.1 q h1 h4⟩
/-- throw new E(text), the text by a wide index -/
theorem qv_throwW (C : qC p l s m meth c cc nL RX7 g) {ik is ic : Nat} {E text : String} (hT : qThr ik ic E) (hs : (is, text) ∈ qthr) (ht : ∀ x ∈ c.exceptionTable.toList, False) (hrest : (st.map qcat).sum ≤ 8) (hR : 10 ≤ R.frames ∧ 1000 ≤ R.locals)
    (d0 : decode cc pc = .ok (.new ik, 3)) (d3 : decode cc (pc + 3) = .ok (.dup, 1)) (d4 : decode cc (pc + 4) = .ok (.ldc_w is, 3)) (d7 : decode cc (pc + 7) = .ok (.invokespecial ic, 3)) (d10 : decode cc (pc + 10) = .ok (.athrow, 1)) :
    qV p l e R s m args below meth c g nL (qQf g below args s R) (some (.inr E, σ)) 1 6 pc L st σ := by
  intro r h0 ls H locs cells slots h1 h2 h3 h4 h5
  cases h0
  obtain ⟨hx0, hb, hml, hown, hE, hl, hlk⟩ := C
  obtain ⟨a, ha⟩ := hE.1.2.2.2.1 _ hs
  obtain ⟨t1, t2, t3, t4, t5⟩ := hT
  exact vx_throwSW hx0 hb hl hown t1 qxn_fit (qword hE.1 t2) (qword hE.1 t3) ha (fun w hw => qword hE.1 (t4 w hw)) t5 hE.2.2.2.2.2.2.2.2.2.2.2.1 hE.2.2.2.2.2.2.2.2.2.2.2.2 h3 (h1.1.trans hml.symm) d0 d3 d4 d7 d10 (fun x hx => (ht x hx).elim)
    (by show 2 + 3 < R.frames; omega) (by rw [qcat_sum]; show _ + (13 * (2 + 1) + 43) ≤ R.locals; omega) h4 h5 hlk (fun t _ z1 z2 => qthrow_x h2 h3 z1 z2) h3.2.2 (by omega) (by omega)
theorem qv_throwN (C : qC p l s m meth c cc nL RX7 g) {ik is ic : Nat} {E text : String} (hT : qThr ik ic E) (hs : (is, text) ∈ qthr) (ht : ∀ x ∈ c.exceptionTable.toList, False) (hrest : (st.map qcat).sum ≤ 8) (hR : 10 ≤ R.frames ∧ 1000 ≤ R.locals)
    (d0 : decode cc pc = .ok (.new ik, 3)) (d3 : decode cc (pc + 3) = .ok (.dup, 1)) (d4 : decode cc (pc + 4) = .ok (.ldc is, 2)) (d6 : decode cc (pc + 6) = .ok (.invokespecial ic, 3)) (d9 : decode cc (pc + 9) = .ok (.athrow, 1)) :
    qV p l e R s m args below meth c g nL (qQf g below args s R) (some (.inr E, σ)) 1 6 pc L st σ := by
  intro r h0 ls H locs cells slots h1 h2 h3 h4 h5
  cases h0
  obtain ⟨hx0, hb, hml, hown, hE, hl, hlk⟩ := C
  obtain ⟨a, ha⟩ := hE.1.2.2.2.1 _ hs
  obtain ⟨t1, t2, t3, t4, t5⟩ := hT
  exact vx_throwS hx0 hb hl hown t1 qxn_fit (qword hE.1 t2) (qword hE.1 t3) ha (fun w hw => qword hE.1 (t4 w hw)) t5 hE.2.2.2.2.2.2.2.2.2.2.2.1 hE.2.2.2.2.2.2.2.2.2.2.2.2 h3 (h1.1.trans hml.symm) d0 d3 d4 d6 d9 (fun x hx => (ht x hx).elim)
    (by show 2 + 3 < R.frames; omega) (by rw [qcat_sum]; show _ + (13 * (2 + 1) + 43) ≤ R.locals; omega) h4 h5 hlk (fun t _ z1 z2 => qthrow_x h2 h3 z1 z2) h3.2.2 (by omega) (by omega)
/-- with E thrown over the frame -/
def qVX (p : Program) (l : Launch) (e : Env) (R : Room) (s : State) (m : MethodId) (args : Array Value) (below : List Frame) (meth : Method) (c : Code) (g : qG) (nL : Nat) (Qf : qO → State → Prop) (o : Option qO) (cb sb pc : Nat) (L : List (Option qA)) (st : List qA) (σ : qS) (E : String) : Prop :=
  ∀ r : qO, o = some r → ∀ (ls : Array Slot) (H : Heap) (locs : List Loc) (cells slots : Nat) (ce : Cell) (q9 : Addr), qLs g ls nL L → qH g σ H → va_S (qAf g) s.heap H locs → cells + cb ≤ R.cells → slots + sb ≤ R.slots → H[q9]? = some ce → ce.vm = .none → s.vm.findClass E = some ce.cls → vx_W p l e R s m args below meth c H locs cells slots (Qf r) (F0 m pc ls (st.map (qcv g))) q9
/-- a call, with handlers at hand -/
theorem qh_callV (C : qC p l s m meth c cc nL own g) {idx mL n d mc ms kd j N : Nat} {C0 : String} {T : u_T} {y : MethodName} {b : ByteArray} {ret : Option FieldType} {As rest : List qA} {o1 : Option qO} {kv : Option qA → qS → Option qO} {kE : String → qS → Option qO} (hM : qM g l d mc ms (.code y b mL ret) y (qR kd j :: As) σ o1) (hw : qMw y b mL n ret) (hl : Cond.methodLink own idx y ∈ qWA) (hin : Cond.instanceMethod y ∈ qWA) (hse : Cond.selects C0 y y ∈ qWA) (hsh : qsh kd = 0) (hkd : kd < 40) (hj : j < qn kd) (hc : qcls[qci kd]? = some (C0, T, N)) (hn : As.length = n) (hrest : (rest.map qcat).sum ≤ 8) (hR : d + 11 ≤ R.frames ∧ 8 + (mL + 11) + (64 * d + 1000) ≤ R.locals) (dd : decode cc pc = .ok (.invokevirtual idx, 3))
    (hst : st = As.reverse ++ qR kd j :: rest) (k : ∀ (v : Option qA) (σ1 : qS), qV p l e R s m args below meth c g nL Qf (kv v σ1) cb sb (pc + 3) L (v.toList ++ rest) σ1) (kx : ∀ (E : String) (σ1 : qS), qVX p l e R s m args below meth c g nL Qf (kE E σ1) cb sb pc L rest σ1 E) : qV p l e R s m args below meth c g nL Qf (qbind o1 kv kE) (mc + cb) (ms + sb) pc L st σ := by
  subst hst
  intro r hr ls H locs cells slots h1 h2 h3 h4 h5
  match o1, hM, hr with
  | none, _, hr => cases hr
  | some (.inr E, σ1), hM, hr =>
    refine qv_core (qrunV C hM rfl hw hl hin hse hsh hkd hj hc hn hrest hR dd h1 h2 h3 (by omega) (by omega)) h3 (fun v2 hv2 => ?_) (fun E2 hE2 ce q9 H1 locs1 hb1 hS1 hce hcv hcl => ?_)
    · cases hv2
    · cases hE2
      exact kx E σ1 r hr ls H1 locs1 _ _ ce q9 h1 hb1 hS1 (by omega) (by omega) hce hcv hcl
  | some (.inl v, σ1), hM, hr =>
    refine qv_core (qrunV C hM rfl hw hl hin hse hsh hkd hj hc hn hrest hR dd h1 h2 h3 (by omega) (by omega)) h3 (fun v2 hv2 H1 locs1 hb1 hS1 => ?_) (fun E hE2 => ?_)
    · cases hv2
      rw [qv_map]
      exact k v σ1 r hr ls H1 locs1 _ _ h1 hb1 hS1 (by omega) (by omega)
    · cases hE2
end QT
end
section
/-! handlers; methods with a table; calls of them -/
section QH
variable {p : Program} {l : Launch} {e : Env} {R : Room} {s : State} {m : MethodId} {args : Array Value} {below : List Frame} {meth : Method} {c : Code} {g : qG} {nL : Nat} {Qf : qO → State → Prop} {o : Option qO} {cb sb pc : Nat} {L : List (Option qA)} {st : List qA} {σ : qS} {cc : ByteArray} {own : String}
theorem qLs.drop1 {ls : Array Slot} {i : Nat} {v : qA} (h : qLs g ls nL (L.set i (some v))) : qLs g ls nL (L.set i none) := h.weak (fun j w hj => by
  by_cases hij : i = j
  · subst hij
    have hlt : i < L.length := by
      have := (List.getElem?_eq_some_iff.mp hj).1
      simpa using this
    rw [List.getElem?_set_self hlt] at hj
    cases hj
  · rw [List.getElem?_set_ne hij] at hj ⊢
    exact hj)
theorem qVX_catch (C : qC p l s m meth c cc nL own g) {hh : List (Nat × Nat × Nat × Nat)} (htab : c.exceptionTable.toList = tableOf hh) (pre suf : List (Nat × Nat × Nat × Nat)) {x : Nat × Nat × Nat × Nat} {E : String} (hsplit : hh = pre ++ x :: suf) (hpass : ∀ z ∈ pre, z.2.2.2 ≠ 0 ∧ ∃ nm : String, Cond.classLink own z.2.2.2 nm ∈ qWA ∧ (E, nm) ∈ qncs) (hcov : covers ⟨x.1, x.2.1, x.2.2.1, x.2.2.2⟩ pc = true) (hct : x.2.2.2 ≠ 0) (hlink : Cond.classLink own x.2.2.2 E ∈ qWA) (hcast : Cond.castable E E ∈ qWA)
    {i n : Nat} (hd : (decode cc x.2.2.1 = .ok (.astore i, 2) ∧ n = 2) ∨ ∃ k0 : Fin 4, decode cc x.2.2.1 = .ok (.astore_n k0, 1) ∧ (k0 : Nat) = i ∧ n = 1) (hi : i < nL) (hk : qok1 L i = true) (k : qV p l e R s m args below meth c g nL Qf o cb sb (x.2.2.1 + n) (L.set i none) [] σ) : qVX p l e R s m args below meth c g nL Qf o cb sb pc L st σ E := by
  intro r hr ls H locs cells slots ce q9 h1 h2 h3 h4 h5 hce hcv hcl
  obtain ⟨hx0, hb, hml, hown, hE, -, -⟩ := C
  refine vx_catch hown (tableOf pre) ⟨x.1, x.2.1, x.2.2.1, x.2.2.2⟩ (tableOf suf) (by rw [htab, hsplit]; simp [tableOf]) ?_ hcov hct (qword hE.1 hlink) (qword hE.1 hcast) hce hcv hcl ?_
  · intro z hz
    obtain ⟨w, hw, rfl⟩ := List.mem_map.mp hz
    obtain ⟨h7, nm, h8, h9⟩ := hpass w hw
    exact Or.inr ⟨h7, nm, qword hE.1 h8, hE.1.2.2.2.2 _ h9⟩
  · rcases hd with ⟨hd, rfl⟩ | ⟨k0, hd, rfl, rfl⟩
    · exact lv_astore hx0 hb hd h1 hi rfl (fun ls' hl' => k r hr ls' H locs cells slots (qLs.drop1 (qLs.store (v := .inl (.ref q9)) hk rfl hl')) h2 h3 h4 h5)
    · exact lv_astore_n hx0 hb hd rfl h1 hi rfl (fun ls' hl' => k r hr ls' H locs cells slots (qLs.drop1 (qLs.store (v := .inl (.ref q9)) hk rfl hl')) h2 h3 h4 h5)
theorem qVX_no {E : String} : qVX p l e R s m args below meth c g nL Qf none cb sb pc L st σ E := fun r hr => by cases hr
/-- handlers chosen by the class of what is thrown -/
theorem qVX_if {E E1 : String} {o1 o2 : Option qO} (h1 : qVX p l e R s m args below meth c g nL Qf o1 cb sb pc L st σ E1) (h2 : qVX p l e R s m args below meth c g nL Qf o2 cb sb pc L st σ E) : qVX p l e R s m args below meth c g nL Qf (if E = E1 then o1 else o2) cb sb pc L st σ E := by
  by_cases h : E = E1
  · rw [if_pos h, h]; exact h1
  · rw [if_neg h]; exact h2
theorem qM_ofH {d mc ms maxL : Nat} {cc : ByteArray} {y : MethodName} {ret : Option FieldType} {hh : List (Nat × Nat × Nat × Nat)} {As : List qA} {o : Option qO} (hy : plainName y.cls = true) (hl : l.stackTraces = false) (hc : ∀ a ∈ As, qcat a = 1) (hlen : As.length ≤ maxL)
    (body : ∀ (p : Program) (e : Env) (s : State) (m : MethodId) (args : Array Value) (below : List Frame) (meth : Method) (c : Code), qC p l s m meth c cc maxL y.cls g → meth.sig.returnType = ret → c.exceptionTable.toList = tableOf hh → qV p l e (qrm d mc ms) s m args below meth c g maxL (qQf g below args s (qrm d mc ms)) o mc ms 0 (qL0 maxL As) [] σ) :
    qM g l d mc ms (.codeWith y cc maxL ret hh) y As σ o := by
  intro r hr
  refine vx_ofWH (cc := cc) (maxL := maxL) (ret := ret) (hh := hh) hy rfl ?_
  intro p e s m args below meth c s₁ B hml hv
  obtain ⟨rfl, hE, hH⟩ := hv
  have hC : qC p l s m meth c cc maxL y.cls g := ⟨B.exec, B.bytes, hml, findClass_of_methodNamed B.named, hE, hl, B.notSynchronized⟩
  have ht := vx_table (x := y) B (atoms_spec (ws := [Cond.codeWith y cc maxL ret hh]) B.pre _ List.mem_cons_self)
  have K := body p e s m (List.map (qcv g) As).toArray below meth c hC B.returns ht r hr
  rw [lg_entry_eq]
  refine K _ _ [] 0 0 ?_ hH va_S.rf (by simp) (by simp)
  have h0 := lv_entry (As.map (qcv g)) (n := maxL) (by rw [qlg_len g As hc]; exact hlen)
  refine ⟨h0.1, h0.2.1, fun q hq => ?_⟩
  obtain ⟨i, v, e1, e2, e3⟩ := qlc_mem g _ 0 q hq
  have h4 := qlv_args g As 0 i v hc (qL0_get e2)
  have h5 := h0.2.2 _ h4
  rw [e1, e3]
  exact h5
/-- a method with a table that may be called -/
def qMwH (y : MethodName) (b : ByteArray) (mL n : Nat) (ret : Option FieldType) (hh : List (Nat × Nat × Nat × Nat)) : Prop :=
  Cond.codeWith y b mL ret hh ∈ qWA ∧ Cond.initialized y.cls ∈ qWA ∧ (y.cls ≠ "java/lang/invoke/MethodHandle" ∧ y.cls ≠ "java/lang/invoke/VarHandle") ∧ (parseMethodDescriptor y.desc).map (fun d => d.parameters.length) = some n
theorem qv_callSH (C : qC p l s m meth c cc nL own g) {idx mL n d mc ms : Nat} {y : MethodName} {b : ByteArray} {ret : Option FieldType} {hh : List (Nat × Nat × Nat × Nat)} {As rest : List qA} {o1 : Option qO} {kv : Option qA → qS → Option qO} (hM : qM g l d mc ms (.codeWith y b mL ret hh) y As σ o1) (hw : qMwH y b mL n ret hh) (hl : Cond.methodLink own idx y ∈ qWA) (hstt : Cond.static y ∈ qWA) (hn : As.length = n) (hrest : (rest.map qcat).sum ≤ 8) (hR : d + 11 ≤ R.frames ∧ 8 + (mL + 11) + (64 * d + 1000) ≤ R.locals) (dd : decode cc pc = .ok (.invokestatic idx, 3)) (hst : st = As.reverse ++ rest) (k : ∀ (v : Option qA) (σ1 : qS), qV p l e R s m args below meth c g nL Qf (kv v σ1) cb sb (pc + 3) L (v.toList ++ rest) σ1) : qV p l e R s m args below meth c g nL Qf (qbind o1 kv qE0) (mc + cb) (ms + sb) pc L st σ := by
  subst hst
  intro r hr ls H locs cells slots h1 h2 h3 h4 h5
  match o1, hM, hr with
  | none, _, hr => cases hr
  | some (.inr E, σ1), _, hr => cases hr
  | some (.inl v, σ1), hM, hr =>
    have hrun : vx_Run p l e R s m args below meth c H locs cells slots mc ms (F0 m pc ls ((As.reverse ++ rest).map (qcv g))) (rest.map (qcv g)) (qQ g (.inl v, σ1) (As.map (qcv g)).toArray) (qX g (.inl v, σ1)) (qAf g) := by
      obtain ⟨hx0, hb, hml, hown, hE, -, -⟩ := C
      obtain ⟨w1, w2, w3, w4⟩ := hw
      exact vx_runSX (As := As.map (qcv g)) (rest := rest.map (qcv g)) (n := n) (index := idx) ⟨hx0, hb, hml, hown, qwords (a := args) hE.1⟩ (hM _ rfl)
        ⟨⟨rfl, rfl, by show d + 10 + 1 ≤ _; omega, hR.2, qword1 hE.1 w1, List.mem_singleton.mpr rfl⟩, qword hE.1 w1, qword hE.1 w2, w3, fun sig hs => (by rw [hs] at w4; exact (Option.some.inj w4).symm), qword hE.1 hl, qword hE.1 hstt⟩
        ⟨qPc_blind, fun U hU hW => ⟨rfl, hE.go hW h3 hU, by rw [hU]; exact h2⟩⟩ rfl (by rw [List.length_map]; exact hn) h1.1 (by rw [List.map_append, List.map_reverse]) (qroom hrest) dd ⟨by omega, by omega⟩
    refine qv_core hrun h3 (fun v2 hv2 H1 locs1 hb1 hS1 => ?_) (fun E hE2 => ?_)
    · cases hv2
      rw [qv_map]
      exact k v σ1 r hr ls H1 locs1 _ _ h1 hb1 hS1 (by omega) (by omega)
    · cases hE2
end QH
end
section
/-! rows of guarded stores, of null, of one of a kind -/
def qvS (K : Nat) (k : qS → Option qO) : Option qA → qS → Option qO := fun v σ => match v with
  | some (.inr q) => if q.1 = K ∧ q.2 = 0 then k σ else none
  | _ => none
theorem q3lt {i : Int32} (h : qin i 8) : 3 + i.toNatClampNeg < 11 := by
  have h1 := qin_vp h
  have : ¬ 8 ≤ i.toNatClampNeg := fun q => h1 (Or.inr q)
  omega
theorem q8lt {i : Int32} (h : qin i 8) : i.toNatClampNeg < 8 := by
  have h1 := qin_vp h
  have : ¬ 8 ≤ i.toNatClampNeg := fun q => h1 (Or.inr q)
  omega
theorem qcm_or (x : Int32) : qcm x = .inl .null ∨ ∃ a, qcm x = .inr a := by
  unfold qcm
  split
  · exact Or.inl rfl
  · exact Or.inr ⟨_, rfl⟩
section QR2
variable {p : Program} {l : Launch} {e : Env} {R : Room} {s : State} {m : MethodId} {args : Array Value} {below : List Frame} {meth : Method} {c : Code} {g : qG} {nL : Nat} {Qf : qO → State → Prop} {o : Option qO} {cb sb pc : Nat} {L : List (Option qA)} {st : List qA} {σ : qS} {cc : ByteArray} {own : String}
theorem qkOne {K : Nat} {k : qS → Option qO} {rest : List qA} (h : ∀ σ1 : qS, qV p l e R s m args below meth c g nL Qf (k σ1) cb sb pc L (qR K 0 :: rest) σ1) : ∀ (v : Option qA) (σ1 : qS), qV p l e R s m args below meth c g nL Qf (qvS K k v σ1) cb sb pc L (v.toList ++ rest) σ1
  | some (.inr (K', j)), σ1 => by
    show qV p l e R s m args below meth c g nL Qf (if K' = K ∧ j = 0 then k σ1 else none) cb sb pc L (qR K' j :: rest) σ1
    by_cases h1 : K' = K ∧ j = 0
    · rw [if_pos h1]; obtain ⟨rfl, rfl⟩ := h1; exact h σ1
    · rw [if_neg h1]; exact qV.no
  | none, _ | some (.inl _), _ => qV.no
theorem qv_putZ (C : qC p l s m meth c cc nL own g) {C0 : String} {T : u_T} {N idx kd j f : Nat} {x : Int32} (hF : qFl own idx C0 T f) (hCl : qCl (qci kd) C0 T N) (hsh : qsh kd = 0) (hf : f < N) (hkd : kd < 40) (hj : j < qn kd) (hfd : (qfs kd)[f]? = some none) (hfin : (T f).2.2.2 = false) (hty : parseFieldDescriptor (T f).2.2.1 = some .boolean) (d : decode cc pc = .ok (.putfield idx, 3)) (k : qbo x → qV p l e R s m args below meth c g nL Qf o cb sb (pc + 3) L st (qu σ kd j f x)) : qV p l e R s m args below meth c g nL Qf (if qbo x then o else none) cb sb pc L (qI x :: qR kd j :: st) σ := by
  by_cases h : qbo x
  · rw [if_pos h]; exact qv_putI C hF hCl hsh hf hkd hj hfd hfin hty (qbo_nar h) (qbo_fits h) d (k h)
  · rw [if_neg h]; exact qV.no
theorem qv_putC (C : qC p l s m meth c cc nL own g) {C0 : String} {T : u_T} {N idx kd j f : Nat} {x : Int32} (hF : qFl own idx C0 T f) (hCl : qCl (qci kd) C0 T N) (hsh : qsh kd = 0) (hf : f < N) (hkd : kd < 40) (hj : j < qn kd) (hfd : (qfs kd)[f]? = some none) (hfin : (T f).2.2.2 = false) (hty : parseFieldDescriptor (T f).2.2.1 = some .char) (d : decode cc pc = .ok (.putfield idx, 3)) (k : qch x → qV p l e R s m args below meth c g nL Qf o cb sb (pc + 3) L st (qu σ kd j f x)) : qV p l e R s m args below meth c g nL Qf (if qch x then o else none) cb sb pc L (qI x :: qR kd j :: st) σ := by
  by_cases h : qch x
  · rw [if_pos h]; exact qv_putI C hF hCl hsh hf hkd hj hfd hfin hty (qch_nar h) (qch_fits h) d (k h)
  · rw [if_neg h]; exact qV.no
theorem qv_idiv! (C : qC p l s m meth c cc nL own g) {x y : Int32} (h : ¬ y = 0) (d : decode cc pc = .ok (.idiv, 1)) (k : qV p l e R s m args below meth c g nL Qf o cb sb (pc + 1) L (qI (x / y) :: st) σ) : qV p l e R s m args below meth c g nL Qf o cb sb pc L (qI y :: qI x :: st) σ :=
  fun r hr ls H locs cells slots h1 h2 h3 h4 h5 => lv_idiv C.1 C.2.1 d h (k r hr ls H locs cells slots h1 h2 h3 h4 h5)
theorem qv_irem! (C : qC p l s m meth c cc nL own g) {x y : Int32} (h : ¬ y = 0) (d : decode cc pc = .ok (.irem, 1)) (k : qV p l e R s m args below meth c g nL Qf o cb sb (pc + 1) L (qI (x - x / y * y) :: st) σ) : qV p l e R s m args below meth c g nL Qf o cb sb pc L (qI y :: qI x :: st) σ :=
  fun r hr ls H locs cells slots h1 h2 h3 h4 h5 => lv_irem C.1 C.2.1 d h (k r hr ls H locs cells slots h1 h2 h3 h4 h5)
theorem qv_ifnullR (C : qC p l s m meth c cc nL own g) {a : Nat × Nat} {off : Int} (d : decode cc pc = .ok (.ifnull off, 3)) (k : qV p l e R s m args below meth c g nL Qf o cb sb (pc + 3) L st σ) : qV p l e R s m args below meth c g nL Qf o cb sb pc L (.inr a :: st) σ :=
  fun r hr ls H locs cells slots h1 h2 h3 h4 h5 => lv_ifnull C.1 C.2.1 d (k r hr ls H locs cells slots h1 h2 h3 h4 h5)
theorem qv_ifnonnullR (C : qC p l s m meth c cc nL own g) {a : Nat × Nat} {off : Int} {tgt : Nat} (d : decode cc pc = .ok (.ifnonnull off, 3)) (ht : (pc : Int) + off = (tgt : Int)) (k : qV p l e R s m args below meth c g nL Qf o cb sb tgt L st σ) : qV p l e R s m args below meth c g nL Qf o cb sb pc L (.inr a :: st) σ :=
  fun r hr ls H locs cells slots h1 h2 h3 h4 h5 => lv_ifnonnull C.1 C.2.1 d ht (k r hr ls H locs cells slots h1 h2 h3 h4 h5)
theorem qv_ifnullN (C : qC p l s m meth c cc nL own g) {off : Int} {tgt : Nat} (d : decode cc pc = .ok (.ifnull off, 3)) (ht : (pc : Int) + off = (tgt : Int)) (k : qV p l e R s m args below meth c g nL Qf o cb sb tgt L st σ) : qV p l e R s m args below meth c g nL Qf o cb sb pc L (.inl .null :: st) σ :=
  fun r hr ls H locs cells slots h1 h2 h3 h4 h5 => lv_ifnullN C.1 C.2.1 d ht (k r hr ls H locs cells slots h1 h2 h3 h4 h5)
theorem qv_ifnonnullN (C : qC p l s m meth c cc nL own g) {off : Int} (d : decode cc pc = .ok (.ifnonnull off, 3)) (k : qV p l e R s m args below meth c g nL Qf o cb sb (pc + 3) L st σ) : qV p l e R s m args below meth c g nL Qf o cb sb pc L (.inl .null :: st) σ :=
  fun r hr ls H locs cells slots h1 h2 h3 h4 h5 => lv_ifnonnullN C.1 C.2.1 d (k r hr ls H locs cells slots h1 h2 h3 h4 h5)
end QR2
end
section
/-! Math, and small helps of the printed functions -/
abbrev qmax (x y : Int32) : Int32 := if x < y then y else x
abbrev qmin (x y : Int32) : Int32 := if y < x then y else x
abbrev qabs (x : Int32) : Int32 := if 0 ≤ x then x else 0 - x
/-- a name for a state on the way -/
def qlet {α β : Type} (v : α) (k : α → β) : β := k v
/-- a loop's fuel -/
def qFU : Nat := 100000
section QP
variable {p : Program} {l : Launch} {e : Env} {R : Room} {s : State} {m : MethodId} {args : Array Value} {below : List Frame} {meth : Method} {c : Code} {g : qG} {nL : Nat} {Qf : qO → State → Prop} {o : Option qO} {cb sb pc : Nat} {L : List (Option qA)} {st : List qA} {σ : qS} {cc : ByteArray} {own : String}
theorem qv_let {k : qS → Option qO} (h : ∀ σ1 : qS, qV p l e R s m args below meth c g nL Qf (k σ1) cb sb pc L st σ1) : qV p l e R s m args below meth c g nL Qf (qlet σ k) cb sb pc L st σ := h σ
theorem qv_mmax (C : qC p l s m meth c cc nL own g) {idx : Nat} {x y : Int32} (hl : Cond.methodLink own idx Lib.Math.max.name ∈ qWA) (hw : Cond.static Lib.Math.max.name ∈ qWA ∧ Cond.initialized "java/lang/Math" ∈ qWA ∧ Cond.code Lib.Math.max.name Lib.Math.max.code 2 (some .int) ∈ qWA) (hrest : (st.map qcat).sum ≤ 8) (hR : 1 ≤ R.frames ∧ 21 ≤ R.locals) (d : decode cc pc = .ok (.invokestatic idx, 3)) (k : qV p l e R s m args below meth c g nL Qf o cb sb (pc + 3) L (qI (qmax x y) :: st) σ) : qV p l e R s m args below meth c g nL Qf o cb sb pc L (qI y :: qI x :: st) σ := by
  intro r hr ls H locs cells slots h1 h2 h3 h4 h5
  obtain ⟨hx0, hb, hml, hown, hE, -, -⟩ := C
  exact va_mmax hx0 hb (hml.trans h1.1.symm) hown (qword hE.1 hl) (qword hE.1 hw.1) (qword hE.1 hw.2.1) (qword hE.1 hw.2.2) hR.1 (by rw [qcat_sum]; omega) (by omega) (by omega) d (k r hr ls H locs cells slots h1 h2 h3 h4 h5)
theorem qv_mmin (C : qC p l s m meth c cc nL own g) {idx : Nat} {x y : Int32} (hl : Cond.methodLink own idx Lib.Math.min.name ∈ qWA) (hw : Cond.static Lib.Math.min.name ∈ qWA ∧ Cond.initialized "java/lang/Math" ∈ qWA ∧ Cond.code Lib.Math.min.name Lib.Math.min.code 2 (some .int) ∈ qWA) (hrest : (st.map qcat).sum ≤ 8) (hR : 1 ≤ R.frames ∧ 21 ≤ R.locals) (d : decode cc pc = .ok (.invokestatic idx, 3)) (k : qV p l e R s m args below meth c g nL Qf o cb sb (pc + 3) L (qI (qmin x y) :: st) σ) : qV p l e R s m args below meth c g nL Qf o cb sb pc L (qI y :: qI x :: st) σ := by
  intro r hr ls H locs cells slots h1 h2 h3 h4 h5
  obtain ⟨hx0, hb, hml, hown, hE, -, -⟩ := C
  exact va_mmin hx0 hb (hml.trans h1.1.symm) hown (qword hE.1 hl) (qword hE.1 hw.1) (qword hE.1 hw.2.1) (qword hE.1 hw.2.2) hR.1 (by rw [qcat_sum]; omega) (by omega) (by omega) d (k r hr ls H locs cells slots h1 h2 h3 h4 h5)
theorem qv_mabs (C : qC p l s m meth c cc nL own g) {idx : Nat} {x : Int32} (hl : Cond.methodLink own idx Lib.Math.abs.name ∈ qWA) (hw : Cond.static Lib.Math.abs.name ∈ qWA ∧ Cond.initialized "java/lang/Math" ∈ qWA ∧ Cond.code Lib.Math.abs.name Lib.Math.abs.code 1 (some .int) ∈ qWA) (hrest : (st.map qcat).sum ≤ 8) (hR : 1 ≤ R.frames ∧ 21 ≤ R.locals) (d : decode cc pc = .ok (.invokestatic idx, 3)) (k : qV p l e R s m args below meth c g nL Qf o cb sb (pc + 3) L (qI (qabs x) :: st) σ) : qV p l e R s m args below meth c g nL Qf o cb sb pc L (qI x :: st) σ := by
  intro r hr ls H locs cells slots h1 h2 h3 h4 h5
  obtain ⟨hx0, hb, hml, hown, hE, -, -⟩ := C
  exact va_mabs hx0 hb (hml.trans h1.1.symm) hown (qword hE.1 hl) (qword hE.1 hw.1) (qword hE.1 hw.2.1) (qword hE.1 hw.2.2) hR.1 (by rw [qcat_sum]; omega) (by omega) (by omega) d (k r hr ls H locs cells slots h1 h2 h3 h4 h5)
end QP
end
section
/-! rows of null, of floats, of the run's constants -/
/-- a double, a float that is a number -/
abbrev qn64 (r : UInt64) : Prop := r &&& 0x7fffffffffffffff ≤ 0x7ff0000000000000
abbrev qn32 (r : UInt32) : Prop := r &&& 0x7fffffff ≤ 0x7f800000
section QR3
variable {p : Program} {l : Launch} {e : Env} {R : Room} {s : State} {m : MethodId} {args : Array Value} {below : List Frame} {meth : Method} {c : Code} {g : qG} {nL : Nat} {Qf : qO → State → Prop} {o : Option qO} {cb sb pc : Nat} {L : List (Option qA)} {st : List qA} {σ : qS} {cc : ByteArray} {own : String}
theorem qv_aload0 (C : qC p l s m meth c cc nL own g) {i : Nat} (d : decode cc pc = .ok (.aload i, 2)) (hl : L[i]? = some (some (.inl .null))) (k : qV p l e R s m args below meth c g nL Qf o cb sb (pc + 2) L (.inl .null :: st) σ) : qV p l e R s m args below meth c g nL Qf o cb sb pc L st σ :=
  fun r hr ls H locs cells slots h1 h2 h3 h4 h5 => lv_aloadN C.1 C.2.1 d (h1.at hl) (k r hr ls H locs cells slots h1 h2 h3 h4 h5)
theorem qv_aload_n0 (C : qC p l s m meth c cc nL own g) {k0 : Fin 4} (d : decode cc pc = .ok (.aload_n k0, 1)) (hl : L[(k0 : Nat)]? = some (some (.inl .null))) (k : qV p l e R s m args below meth c g nL Qf o cb sb (pc + 1) L (.inl .null :: st) σ) : qV p l e R s m args below meth c g nL Qf o cb sb pc L st σ :=
  fun r hr ls H locs cells slots h1 h2 h3 h4 h5 => lv_aload_nN C.1 C.2.1 d rfl (h1.at hl) (k r hr ls H locs cells slots h1 h2 h3 h4 h5)
theorem qv_astore0 (C : qC p l s m meth c cc nL own g) {i : Nat} (d : decode cc pc = .ok (.astore i, 2)) (hn : i < nL) (hk : qok1 L i = true) (k : qV p l e R s m args below meth c g nL Qf o cb sb (pc + 2) (L.set i (some (.inl .null))) st σ) : qV p l e R s m args below meth c g nL Qf o cb sb pc L (.inl .null :: st) σ :=
  fun r hr ls H locs cells slots h1 h2 h3 h4 h5 => lv_astoreN C.1 C.2.1 d h1 hn rfl (fun ls' hl' => k r hr ls' H locs cells slots (qLs.store (v := .inl .null) hk rfl hl') h2 h3 h4 h5)
theorem qv_astore_n0 (C : qC p l s m meth c cc nL own g) {k0 : Fin 4} (d : decode cc pc = .ok (.astore_n k0, 1)) (hn : (k0 : Nat) < nL) (hk : qok1 L k0 = true) (k : qV p l e R s m args below meth c g nL Qf o cb sb (pc + 1) (L.set k0 (some (.inl .null))) st σ) : qV p l e R s m args below meth c g nL Qf o cb sb pc L (.inl .null :: st) σ :=
  fun r hr ls H locs cells slots h1 h2 h3 h4 h5 => lv_astore_nN C.1 C.2.1 d rfl h1 hn rfl (fun ls' hl' => k r hr ls' H locs cells slots (qLs.store (v := .inl .null) hk rfl hl') h2 h3 h4 h5)
theorem qv_i2d (C : qC p l s m meth c cc nL own g) {x : Int32} (d : decode cc pc = .ok (.i2d, 1)) (k : qV p l e R s m args below meth c g nL Qf o cb sb (pc + 1) L (.inl (.double (FP.i2d x)) :: st) σ) : qV p l e R s m args below meth c g nL Qf o cb sb pc L (qI x :: st) σ :=
  fun r hr ls H locs cells slots h1 h2 h3 h4 h5 => lv_i2d C.1 C.2.1 d (k r hr ls H locs cells slots h1 h2 h3 h4 h5)
theorem qv_i2f (C : qC p l s m meth c cc nL own g) {x : Int32} (d : decode cc pc = .ok (.i2f, 1)) (k : qV p l e R s m args below meth c g nL Qf o cb sb (pc + 1) L (.inl (.float (FP.i2f x)) :: st) σ) : qV p l e R s m args below meth c g nL Qf o cb sb pc L (qI x :: st) σ :=
  fun r hr ls H locs cells slots h1 h2 h3 h4 h5 => lv_i2f C.1 C.2.1 d (k r hr ls H locs cells slots h1 h2 h3 h4 h5)
theorem qv_dconst (C : qC p l s m meth c cc nL own g) (d : decode cc pc = .ok (.dconst 0, 1)) (k : qV p l e R s m args below meth c g nL Qf o cb sb (pc + 1) L (.inl (.double 0) :: st) σ) : qV p l e R s m args below meth c g nL Qf o cb sb pc L st σ :=
  fun r hr ls H locs cells slots h1 h2 h3 h4 h5 => lv_dconst0 C.1 C.2.1 d (k r hr ls H locs cells slots h1 h2 h3 h4 h5)
theorem qv_fconst (C : qC p l s m meth c cc nL own g) (d : decode cc pc = .ok (.fconst 0, 1)) (k : qV p l e R s m args below meth c g nL Qf o cb sb (pc + 1) L (.inl (.float 0) :: st) σ) : qV p l e R s m args below meth c g nL Qf o cb sb pc L st σ :=
  fun r hr ls H locs cells slots h1 h2 h3 h4 h5 => lv_fconst0 C.1 C.2.1 d (k r hr ls H locs cells slots h1 h2 h3 h4 h5)
theorem qv_ddiv (C : qC p l s m meth c cc nL own g) {x y : UInt64} (d : decode cc pc = .ok (.ddiv, 1)) (k : qn64 (FP.ddiv x y) → qV p l e R s m args below meth c g nL Qf o cb sb (pc + 1) L (.inl (.double (FP.ddiv x y)) :: st) σ) : qV p l e R s m args below meth c g nL Qf (if qn64 (FP.ddiv x y) then o else none) cb sb pc L (.inl (.double y) :: .inl (.double x) :: st) σ := by
  by_cases h : qn64 (FP.ddiv x y)
  · rw [if_pos h]
    exact fun r hr ls H locs cells slots h1 h2 h3 h4 h5 => lv_ddiv C.1 C.2.1 d h (k h r hr ls H locs cells slots h1 h2 h3 h4 h5)
  · rw [if_neg h]; exact qV.no
theorem qv_fdiv (C : qC p l s m meth c cc nL own g) {x y : UInt32} (d : decode cc pc = .ok (.fdiv, 1)) (k : qn32 (FP.fdiv x y) → qV p l e R s m args below meth c g nL Qf o cb sb (pc + 1) L (.inl (.float (FP.fdiv x y)) :: st) σ) : qV p l e R s m args below meth c g nL Qf (if qn32 (FP.fdiv x y) then o else none) cb sb pc L (.inl (.float y) :: .inl (.float x) :: st) σ := by
  by_cases h : qn32 (FP.fdiv x y)
  · rw [if_pos h]
    exact fun r hr ls H locs cells slots h1 h2 h3 h4 h5 => lv_fdiv C.1 C.2.1 d h (k h r hr ls H locs cells slots h1 h2 h3 h4 h5)
  · rw [if_neg h]; exact qV.no
/-- a command's form -/
theorem fs_form : Cond.fieldLinkNest RX6 50 RX1 "form" "Ljava/lang/String;" "TaskLeveller" ∈ qWA := qWA_in (List.mem_of_getElem? (i := 1809) (by decide +kernel)) rfl
theorem qv_form (C : qC p l s m meth c cc nL RX6 g) {c0 : Nat} (hc : c0 < 8) (d : decode cc pc = .ok (.getfield 50, 3)) (k : qV p l e R s m args below meth c g nL Qf o cb sb (pc + 3) L (qR 42 c0 :: st) σ) : qV p l e R s m args below meth c g nL Qf o cb sb pc L (qR 40 c0 :: st) σ := by
  intro r hr ls H locs cells slots h1 h2 h3 h4 h5
  obtain ⟨hx0, hb, hml, hown, hE, -, -⟩ := C
  obtain ⟨cf, kf, fi, f, cell, e1, e2, e3, e4, e5, e6⟩ := (hE.2.2.2.1 c0 hc).kept h3.2.1
  exact va_Wgetf hx0 hb hown (qword (a := args) hE.1 fs_form) e1 e2 e3 e4 e5 rfl rfl d (k r hr ls H locs cells slots h1 h2 h3 h4 h5)
theorem fs_cmds : Cond.fieldLinkNest RX6 47 RX7 "COMMANDS" "[LTaskLeveller$Command;" "TaskLeveller" ∈ qWA := qWA_in (List.mem_of_getElem? (i := 1143) (by decide +kernel)) rfl
theorem qv_gsC (C : qC p l s m meth c cc nL RX6 g) (d : decode cc pc = .ok (.getstatic 47, 3)) (k : qV p l e R s m args below meth c g nL Qf o cb sb (pc + 3) L (qR 41 0 :: st) σ) : qV p l e R s m args below meth c g nL Qf o cb sb pc L st σ := by
  intro r hr ls H locs cells slots h1 h2 h3 h4 h5
  obtain ⟨hx0, hb, hml, hown, hE, -, -⟩ := C
  obtain ⟨-, -, -, hZ, -⟩ := hE.2.2
  exact va_getsN hx0 hb hZ h3 hown (qword (a := args) hE.1 fs_cmds) (fun _ h => h) d (k r hr ls H locs cells slots h1 h2 h3 h4 h5)
theorem fs_smap : Cond.fieldLink RX7 364 RX0 "$SwitchMap$TaskLeveller$Command" "[I" ∈ qWA := qWA_in (List.mem_of_getElem? (i := 1227) (by decide +kernel)) rfl
theorem qv_gsM (C : qC p l s m meth c cc nL RX7 g) (d : decode cc pc = .ok (.getstatic 364, 3)) (k : qV p l e R s m args below meth c g nL Qf o cb sb (pc + 3) L (qR 43 0 :: st) σ) : qV p l e R s m args below meth c g nL Qf o cb sb pc L st σ := by
  intro r hr ls H locs cells slots h1 h2 h3 h4 h5
  obtain ⟨hx0, hb, hml, hown, hE, -, -⟩ := C
  obtain ⟨-, -, -, -, -, -, hZ, -⟩ := hE.2.2
  exact va_gets hx0 hb hZ h3 hown (qword (a := args) hE.1 fs_smap) (fun _ h => h) d (k r hr ls H locs cells slots h1 h2 h3 h4 h5)
theorem qv_alen41 (C : qC p l s m meth c cc nL own g) (d : decode cc pc = .ok (.arraylength, 1)) (k : qV p l e R s m args below meth c g nL Qf o cb sb (pc + 1) L (qI (8 : Int32) :: st) σ) : qV p l e R s m args below meth c g nL Qf o cb sb pc L (qR 41 0 :: st) σ := by
  intro r hr ls H locs cells slots h1 h2 h3 h4 h5
  obtain ⟨hx0, hb, hml, hown, hE, -, -⟩ := C
  obtain ⟨-, -, -, -, hT, -⟩ := hE.2.2
  exact va_tlen hx0 hb hT h3 rfl d (k r hr ls H locs cells slots h1 h2 h3 h4 h5)
theorem qv_ald41 (C : qC p l s m meth c cc nL own g) {i : Int32} (d : decode cc pc = .ok (.aaload, 1)) (k : qin i 8 → qV p l e R s m args below meth c g nL Qf o cb sb (pc + 1) L (qR 40 i.toNatClampNeg :: st) σ) : qV p l e R s m args below meth c g nL Qf (if qin i 8 then o else none) cb sb pc L (qI i :: qR 41 0 :: st) σ := by
  by_cases h : qin i 8
  · rw [if_pos h]
    intro r hr ls H locs cells slots h1 h2 h3 h4 h5
    obtain ⟨hx0, hb, hml, hown, hE, -, -⟩ := C
    obtain ⟨-, -, -, -, ⟨cell, e1, e2, e3, e4, e5, e6, e7⟩, -⟩ := hE.2.2
    have hin := qin_vp h
    have hlt : i.toNatClampNeg < 8 := q8lt h
    have hin' : ¬ (i < 0 ∨ cell.slots.size ≤ i.toNatClampNeg) := by
      intro q
      rcases q with q | q
      · exact hin (Or.inl q)
      · omega
    exact W.aald (v := .ref (g.2.2.1 40 i.toNatClampNeg)) (ty := .object RX1) hx0 hb (by rw [h3.2.1 _ (Array.getElem?_eq_some_iff.mp e1).1 e7]; exact e1) e2 rfl e3 hin' (by rw [e6 _ hlt]) rfl rfl d (k h r hr ls H locs cells slots h1 h2 h3 h4 h5)
  · rw [if_neg h]; exact qV.no
theorem qv_ald43 (C : qC p l s m meth c cc nL own g) {i : Int32} (d : decode cc pc = .ok (.iaload, 1)) (k : qin i 8 → qV p l e R s m args below meth c g nL Qf o cb sb (pc + 1) L (qI (qkm i.toNatClampNeg) :: st) σ) : qV p l e R s m args below meth c g nL Qf (if qin i 8 then o else none) cb sb pc L (qI i :: qR 43 0 :: st) σ := by
  by_cases h : qin i 8
  · rw [if_pos h]
    intro r hr ls H locs cells slots h1 h2 h3 h4 h5
    obtain ⟨hx0, hb, hml, hown, hE, -, -⟩ := C
    obtain ⟨-, -, -, -, -, -, -, hT, -⟩ := hE.2.2
    exact va_ti hx0 hb hT h3 (qin_vp h) rfl d (k h r hr ls H locs cells slots h1 h2 h3 h4 h5)
  · rw [if_neg h]; exact qV.no
theorem qcmd_any {s : State} {H : Heap} {locs : List Loc} (hE : qE g s s.heap) (h3 : va_S (qAf g) s.heap H locs) {c0 : Nat} (hc : c0 < 8) : va_Any RX1 s H (g.2.2.1 40 c0) := by
  obtain ⟨cell, e1, e2, e3, e4⟩ := (hE.2.2.1 c0 hc).kept h3.2.1
  obtain ⟨kC, hk, -⟩ := Vm.findClass_spec e3
  exact ⟨cell, e1, e2, ⟨kC, hk⟩, fun comp h => by cases e3.symm.trans h; exact va_asg _ _⟩
theorem q8p1 {n : Nat} (h : n < 8) : ¬ nI (n + 1) = 0 ∧ (nI (n + 1) - 1).toNatClampNeg = n := by
  revert n
  decide
theorem qv_astC (C : qC p l s m meth c cc nL own g) {c0 : Nat} {i : Int32} (hc : c0 < 8) (d : decode cc pc = .ok (.aastore, 1)) (k : qin i 60 → qV p l e R s m args below meth c g nL Qf o cb sb (pc + 1) L st (qu σ 21 0 i.toNatClampNeg (nI (c0 + 1)))) : qV p l e R s m args below meth c g nL Qf (if qin i 60 then o else none) cb sb pc L (qR 40 c0 :: qI i :: qR 21 0 :: st) σ := by
  by_cases h : qin i 60
  · rw [if_pos h]
    intro r hr ls H locs cells slots h1 h2 h3 h4 h5
    obtain ⟨hx0, hb, hml, hown, hE, -, -⟩ := C
    obtain ⟨q0, hc0, hq⟩ := qws_at g σ (k := 21) (j := 0) (by decide) (by decide)
    have hset := qws_set' (i := i.toNatClampNeg) (v := nI (c0 + 1)) (e1 := .inl (g.2.1 3, qlen 21, .inr (.inr (.inr (.inr (va_up (fun i => if σ 21 0 i = 0 then none else some (g.2.2.1 40 (σ 21 0 i - 1).toNatClampNeg)) i.toNatClampNeg (some (g.2.2.1 40 c0)))))))) h2.2 hc0 hq (by
      rw [qent4 rfl]
      congr 7
      funext z
      by_cases hz : z = i.toNatClampNeg
      · simp [va_up, upd, hz, (q8p1 hc).1, (q8p1 hc).2]
      · simp [va_up, upd, hz])
    rw [qent4 rfl] at hq
    exact va_astqM hx0 hb hE.1.1 h2.1 h2.2 h3 q0 3 hq rfl (qcmd_any hE h3 hc) (qin_vp h) d (fun H1 locs1 hP1 hD1 hS1 => k h r hr ls H1 locs1 cells slots h1 ⟨hset ▸ hP1, hset ▸ hD1⟩ hS1 h4 h5)
  · rw [if_neg h]; exact qV.no
/-- the names' text -/
theorem qv_ldcN (C : qC p l s m meth c cc nL RX8 g) (d : decode cc pc = .ok (.ldc 218, 2)) (k : qV p l e R s m args below meth c g nL Qf o cb sb (pc + 2) L (qR 42 8 :: st) σ) : qV p l e R s m args below meth c g nL Qf o cb sb pc L st σ := by
  intro r hr ls H locs cells slots h1 h2 h3 h4 h5
  obtain ⟨hx0, hb, hml, hown, hE, -, -⟩ := C
  exact va_ldcS hx0 hb hown hE.1.2.2.1 d (k r hr ls H locs cells slots h1 h2 h3 h4 h5)
end QR3
end
section
/-! rows of the texts that are constants, and of their methods -/
section QJ
variable {p : Program} {l : Launch} {e : Env} {R : Room} {s : State} {m : MethodId} {args : Array Value} {below : List Frame} {meth : Method} {c : Code} {g : qG} {nL : Nat} {Qf : qO → State → Prop} {o : Option qO} {cb sb pc : Nat} {L : List (Option qA)} {st : List qA} {σ : qS} {cc : ByteArray} {own : String}
theorem fs_sval : Cond.fieldLink RJ0 9 RJ0 "value" "[B" ∈ qWA := qWA_in (List.mem_of_getElem? (i := 1810) (by decide +kernel)) rfl
theorem fs_scod : Cond.fieldLink RJ0 15 RJ0 "coder" "B" ∈ qWA := qWA_in (List.mem_of_getElem? (i := 1811) (by decide +kernel)) rfl
theorem fs_eord : Cond.fieldLink RJx29ce0 7 RJx29ce0 "ordinal" "I" ∈ qWA := qWA_in (List.mem_of_getElem? (i := 1812) (by decide +kernel)) rfl
theorem fs_comp : Cond.fieldLink RJ0 38 RJ0 "COMPACT_STRINGS" "Z" ∈ qWA := qWA_in (List.mem_of_getElem? (i := 1157) (by decide +kernel)) rfl
theorem fs_sio : Cond.fieldLink RJ0 1053 RJ3 "SIOOBE_FORMATTER" "Ljava/util/function/BiFunction;" ∈ qWA := qWA_in (List.mem_of_getElem? (i := 1173) (by decide +kernel)) rfl
theorem fs_b1 : Cond.constant RJ6 265 1431655765 ∈ qWA := qWA_in (List.mem_of_getElem? (i := 848) (by decide +kernel)) rfl
theorem fs_b2 : Cond.constant RJ6 266 858993459 ∈ qWA := qWA_in (List.mem_of_getElem? (i := 849) (by decide +kernel)) rfl
theorem fs_b3 : Cond.constant RJ6 267 252645135 ∈ qWA := qWA_in (List.mem_of_getElem? (i := 850) (by decide +kernel)) rfl
theorem qv_sval (C : qC p l s m meth c cc nL RJ0 g) {j : Nat} (hj : j < 9) (d : decode cc pc = .ok (.getfield 9, 3)) (k : qV p l e R s m args below meth c g nL Qf o cb sb (pc + 3) L (qR 44 j :: st) σ) : qV p l e R s m args below meth c g nL Qf o cb sb pc L (qR 42 j :: st) σ := by
  intro r hr ls H locs cells slots h1 h2 h3 h4 h5
  obtain ⟨hx0, hb, hml, hown, hE, -, -⟩ := C
  obtain ⟨-, -, -, -, -, hS9, -⟩ := hE.2.2
  obtain ⟨cf, kf, fi, f, cell, e1, e2, e3, e4, e5, e6⟩ := (hS9 j hj).2.2.1.kept h3.2.1
  exact W.getf hx0 hb hown (qword (a := args) hE.1 fs_sval) e1 e2 e3 e4 (v := .ref (g.2.2.1 44 j)) e5 rfl rfl d (k r hr ls H locs cells slots h1 h2 h3 h4 h5)
theorem qv_scod (C : qC p l s m meth c cc nL RJ0 g) {j : Nat} (hj : j < 9) (d : decode cc pc = .ok (.getfield 15, 3)) (k : qV p l e R s m args below meth c g nL Qf o cb sb (pc + 3) L (qI (0 : Int32) :: st) σ) : qV p l e R s m args below meth c g nL Qf o cb sb pc L (qR 42 j :: st) σ := by
  intro r hr ls H locs cells slots h1 h2 h3 h4 h5
  obtain ⟨hx0, hb, hml, hown, hE, -, -⟩ := C
  obtain ⟨-, -, -, -, -, hS9, -⟩ := hE.2.2
  obtain ⟨cf, kf, fi, f, cell, e1, e2, e3, e4, e5, e6⟩ := (hS9 j hj).2.1.kept h3.2.1
  exact W.getf hx0 hb hown (qword (a := args) hE.1 fs_scod) e1 e2 e3 e4 (v := .int 0) e5 rfl rfl d (k r hr ls H locs cells slots h1 h2 h3 h4 h5)
theorem qv_gscs (C : qC p l s m meth c cc nL RJ0 g) (d : decode cc pc = .ok (.getstatic 38, 3)) (k : qV p l e R s m args below meth c g nL Qf o cb sb (pc + 3) L (qI (1 : Int32) :: st) σ) : qV p l e R s m args below meth c g nL Qf o cb sb pc L st σ := by
  intro r hr ls H locs cells slots h1 h2 h3 h4 h5
  obtain ⟨hx0, hb, hml, hown, hE, -, -⟩ := C
  obtain ⟨-, -, -, -, -, -, -, -, ⟨hZ, -⟩, -⟩ := hE.2.2
  exact va_gets hx0 hb hZ h3 hown (qword (a := args) hE.1 fs_comp) (fun _ h => h) d (k r hr ls H locs cells slots h1 h2 h3 h4 h5)
theorem qv_gssi (C : qC p l s m meth c cc nL RJ0 g) (d : decode cc pc = .ok (.getstatic 1053, 3)) (k : ∀ v : Value, v.category = 1 → qV p l e R s m args below meth c g nL Qf o cb sb (pc + 3) L (.inl v :: st) σ) : qV p l e R s m args below meth c g nL Qf o cb sb pc L st σ := by
  intro r hr ls H locs cells slots h1 h2 h3 h4 h5
  obtain ⟨hx0, hb, hml, hown, hE, -, -⟩ := C
  obtain ⟨-, -, -, -, -, -, -, -, ⟨-, hZ⟩, -⟩ := hE.2.2
  rcases hZ with hZ | ⟨t, hZ⟩
  · exact va_gets hx0 hb hZ h3 hown (qword (a := args) hE.1 fs_sio) (fun _ h => h) d (k .null rfl r hr ls H locs cells slots h1 h2 h3 h4 h5)
  · exact va_gets hx0 hb hZ h3 hown (qword (a := args) hE.1 fs_sio) (fun _ h => h) d (k (.ref t) rfl r hr ls H locs cells slots h1 h2 h3 h4 h5)
theorem qv_blen (C : qC p l s m meth c cc nL own g) {j : Nat} (hj : j < 9) (d : decode cc pc = .ok (.arraylength, 1)) (k : qV p l e R s m args below meth c g nL Qf o cb sb (pc + 1) L (qI (Int32.ofNat (qsl j)) :: st) σ) : qV p l e R s m args below meth c g nL Qf o cb sb pc L (qR 44 j :: st) σ := by
  intro r hr ls H locs cells slots h1 h2 h3 h4 h5
  obtain ⟨hx0, hb, hml, hown, hE, -, -⟩ := C
  obtain ⟨-, -, -, -, -, hS9, -⟩ := hE.2.2
  exact va_tlen hx0 hb (hS9 j hj).2.2.2 h3 rfl d (k r hr ls H locs cells slots h1 h2 h3 h4 h5)
theorem qv_bald (C : qC p l s m meth c cc nL own g) {j : Nat} {i : Int32} (hj : j < 9) (d : decode cc pc = .ok (.baload, 1)) (k : qin i (qsl j) → qV p l e R s m args below meth c g nL Qf o cb sb (pc + 1) L (qI (qsc j i.toNatClampNeg) :: st) σ) : qV p l e R s m args below meth c g nL Qf (if qin i (qsl j) then o else none) cb sb pc L (qI i :: qR 44 j :: st) σ := by
  by_cases h : qin i (qsl j)
  · rw [if_pos h]
    intro r hr ls H locs cells slots h1 h2 h3 h4 h5
    obtain ⟨hx0, hb, hml, hown, hE, -, -⟩ := C
    obtain ⟨-, -, -, -, -, hS9, -⟩ := hE.2.2
    exact va_tb hx0 hb (hS9 j hj).2.2.2 h3 (qin_vp h) rfl d (k h r hr ls H locs cells slots h1 h2 h3 h4 h5)
  · rw [if_neg h]; exact qV.no
theorem qv_ldcwI (C : qC p l s m meth c cc nL own g) {idx : Nat} {v : Int32} (hw : Cond.constant own idx v ∈ qWA) (d : decode cc pc = .ok (.ldc_w idx, 3)) (k : qV p l e R s m args below meth c g nL Qf o cb sb (pc + 3) L (qI v :: st) σ) : qV p l e R s m args below meth c g nL Qf o cb sb pc L st σ := by
  intro r hr ls H locs cells slots h1 h2 h3 h4 h5
  obtain ⟨hx0, hb, hml, hown, hE, -, -⟩ := C
  exact lv_ldcw hx0 hb hown (qword (a := args) hE.1 hw) d (k r hr ls H locs cells slots h1 h2 h3 h4 h5)
/-- a text's cell, for its calls -/
theorem qscell (h : qE g s s.heap) {H : Heap} {locs : List Loc} {j : Nat} (h3 : va_S (qAf g) s.heap H locs) (hj : j < 9) : ∃ cellB : Cell, H[g.2.2.1 42 j]? = some cellB ∧ cellB.vm.isStatics = false ∧ s.vm.findClass RJ0 = some cellB.cls := by
  obtain ⟨-, -, -, -, -, hS9, -⟩ := h.2.2
  obtain ⟨cell, e1, e2, e3, -⟩ := (hS9 j hj).1.kept h3.2.1
  exact ⟨cell, e1, e2, e3⟩
/-- a call of a text's method -/
theorem qv_callT (C : qC p l s m meth c cc nL own g) {idx mL n d mc ms j : Nat} {y : MethodName} {b : ByteArray} {ret : Option FieldType} {As rest : List qA} {o1 : Option qO} {kv : Option qA → qS → Option qO} (hM : qM g l d mc ms (.code y b mL ret) y (qR 42 j :: As) σ o1) (hw : qMw y b mL n ret) (hl : Cond.methodLink own idx y ∈ qWA) (hin : Cond.instanceMethod y ∈ qWA) (hse : Cond.selects RJ0 y y ∈ qWA) (hj : j < 9) (hn : As.length = n) (hrest : (rest.map qcat).sum ≤ 8) (hR : d + 11 ≤ R.frames ∧ 8 + (mL + 11) + (64 * d + 1000) ≤ R.locals) (dd : decode cc pc = .ok (.invokevirtual idx, 3)) (hst : st = As.reverse ++ qR 42 j :: rest) (k : ∀ (v : Option qA) (σ1 : qS), qV p l e R s m args below meth c g nL Qf (kv v σ1) cb sb (pc + 3) L (v.toList ++ rest) σ1) : qV p l e R s m args below meth c g nL Qf (qbind o1 kv qE0) (mc + cb) (ms + sb) pc L st σ := by
  subst hst
  intro r hr ls H locs cells slots h1 h2 h3 h4 h5
  match o1, hM, hr with
  | none, _, hr => cases hr
  | some (.inr E, σ1), _, hr => cases hr
  | some (.inl v, σ1), hM, hr =>
    have hrun : vx_Run p l e R s m args below meth c H locs cells slots mc ms (F0 m pc ls ((As.reverse ++ qR 42 j :: rest).map (qcv g))) (rest.map (qcv g)) (qQ g (.inl v, σ1) ((qR 42 j :: As).map (qcv g)).toArray) (qX g (.inl v, σ1)) (qAf g) := by
      obtain ⟨hx0, hb, hml, hown, hE, -, -⟩ := C
      exact vx_runV (C := RJ0) (b := g.2.2.1 42 j) (As := As.map (qcv g)) (rest := rest.map (qcv g)) ⟨hx0, hb, hml, hown, qwords (a := args) hE.1⟩ (hM _ rfl) ⟨qCallB hE.1 hw hl hR, qword hE.1 hin, qword hE.1 hse⟩ ⟨qPc_blind, qscell hE h3 hj, fun U hU hW => ⟨rfl, hE.go hW h3 hU, by rw [hU]; exact h2⟩⟩ rfl (by rw [List.length_map]; exact hn) h1.1 (by simp [qcv]) (qroom hrest) dd ⟨by omega, by omega⟩
    refine qv_core hrun h3 (fun v2 hv2 H1 locs1 hb1 hS1 => ?_) (fun E hE2 => ?_)
    · cases hv2
      rw [qv_map]
      exact k v σ1 r hr ls H1 locs1 _ _ h1 hb1 hS1 (by omega) (by omega)
    · cases hE2
/-- ordinal() of a command -/
abbrev yEord : MethodName := ⟨RJx29ce0, "ordinal", "()I"⟩
abbrev yCord : MethodName := ⟨RX1, "ordinal", "()I"⟩
theorem dEord_0 : decode prog_16_method_2_code 0 = .ok (.aload_n 0, 1) := by decide +kernel
theorem dEord_1 : decode prog_16_method_2_code 1 = .ok (.getfield 7, 3) := by decide +kernel
theorem dEord_4 : decode prog_16_method_2_code 4 = .ok (.ireturn, 1) := by decide +kernel
theorem qv_eord (C : qC p l s m meth c cc nL RJx29ce0 g) {j : Nat} (hj : j < 8) (d : decode cc pc = .ok (.getfield 7, 3)) (k : qV p l e R s m args below meth c g nL Qf o cb sb (pc + 3) L (qI (nI j) :: st) σ) : qV p l e R s m args below meth c g nL Qf o cb sb pc L (qR 40 j :: st) σ := by
  intro r hr ls H locs cells slots h1 h2 h3 h4 h5
  obtain ⟨hx0, hb, hml, hown, hE, -, -⟩ := C
  obtain ⟨-, -, hO, -⟩ := hE.2.2
  obtain ⟨cf, kf, fi, f, cell, e1, e2, e3, e4, e5, e6⟩ := (hO j hj).kept h3.2.1
  exact W.getf hx0 hb hown (qword (a := args) hE.1 fs_eord) e1 e2 e3 e4 (v := .int (nI j)) e5 rfl rfl d (k r hr ls H locs cells slots h1 h2 h3 h4 h5)
theorem qv_callOrd (C : qC p l s m meth c cc nL RX7 g) {j : Nat} (hj : j < 8) (hrest : (st.map qcat).sum ≤ 8) (hR : 12 ≤ R.frames ∧ 1100 ≤ R.locals) (d : decode cc pc = .ok (.invokevirtual 369, 3)) (k : qV p l e R s m args below meth c g nL Qf o cb sb (pc + 3) L (qI (nI j) :: st) σ) : qV p l e R s m args below meth c g nL Qf o cb sb pc L (qR 40 j :: st) σ := by
  sorry
/-! a switch by a table -/
def qsw (x : Int32) : Int → List (Option qO) → Option qO → Option qO
  | _, [], od => od
  | k, o1 :: t, od => if x.toInt = k then o1 else qsw x (k + 1) t od
def qVs (P : Option qO → Nat → Prop) : List (Option qO) → List Nat → Prop
  | [], [] => True
  | o1 :: os, t1 :: ts => P o1 t1 ∧ qVs P os ts
  | _, _ => False
theorem qVs_len {P : Option qO → Nat → Prop} : ∀ {os : List (Option qO)} {ts : List Nat}, qVs P os ts → os.length = ts.length
  | [], [], _ => rfl
  | _ :: _, _ :: _, h => by simp [qVs_len h.2]
theorem qVs_at {P : Option qO → Nat → Prop} : ∀ {os : List (Option qO)} {ts : List Nat}, qVs P os ts → ∀ (i : Nat) (o1 : Option qO) (t1 : Nat), os[i]? = some o1 → ts[i]? = some t1 → P o1 t1
  | [], [], _, i, _, _, h, _ => by simp at h
  | _ :: _, _ :: _, h, 0, _, _, h1, h2 => by simp at h1 h2; subst h1; subst h2; exact h.1
  | _ :: _, _ :: _, h, i + 1, _, _, h1, h2 => qVs_at h.2 i _ _ (by simpa using h1) (by simpa using h2)
theorem qsw_case {P : Option qO → Prop} {x : Int32} {od : Option qO} : ∀ (os : List (Option qO)) (k : Int), (¬ (k ≤ x.toInt ∧ x.toInt < k + os.length) → P od) → (∀ (i : Nat) (o1 : Option qO), os[i]? = some o1 → x.toInt = k + i → P o1) → P (qsw x k os od)
  | [], k, hd, _ => hd (by simp)
  | o1 :: t, k, hd, hs => by
    unfold qsw
    split
    · exact hs 0 o1 rfl (by simpa using ‹x.toInt = k›)
    · rename_i hne
      refine qsw_case t (k + 1) (fun h => hd (fun h2 => h ?_)) (fun i o2 h1 h2 => hs (i + 1) o2 (by simpa using h1) (by rw [h2]; push_cast; omega))
      simp only [List.length_cons] at h2
      push_cast at h2
      omega
theorem qv_tsw (C : qC p l s m meth c cc nL own g) {dflt lo hi : Int} {offs : Array Int} {n : Nat} {x : Int32} {os : List (Option qO)} {od : Option qO} {tg : List Nat} {dt : Nat} (d : decode cc pc = .ok (.tableswitch dflt lo hi offs, n)) (hhi : hi = lo + offs.toList.length - 1) (htg : offs.toList.map (fun z => (pc : Int) + z) = tg.map (fun t : Nat => Int.ofNat t)) (hdt : (pc : Int) + dflt = (dt : Int)) (ks : qVs (fun o1 t1 => qV p l e R s m args below meth c g nL Qf o1 cb sb t1 L st σ) os tg) (kd : qV p l e R s m args below meth c g nL Qf od cb sb dt L st σ) : qV p l e R s m args below meth c g nL Qf (qsw x lo os od) cb sb pc L (qI x :: st) σ := by
  have hlen : os.length = tg.length := qVs_len ks
  have hlen2 : offs.toList.length = tg.length := by
    have := congrArg List.length htg
    simpa using this
  refine qsw_case (P := fun o1 => qV p l e R s m args below meth c g nL Qf o1 cb sb pc L (qI x :: st) σ) os lo (fun hout => ?_) (fun i o1 hi1 hx => ?_)
  · intro r hr ls H locs cells slots h1 h2 h3 h4 h5
    exact lv_tableOut C.1 C.2.1 d (by omega) hdt (kd r hr ls H locs cells slots h1 h2 h3 h4 h5)
  · intro r hr ls H locs cells slots h1 h2 h3 h4 h5
    have hil : i < os.length := (List.getElem?_eq_some_iff.mp hi1).1
    have hit : i < tg.length := by omega
    have hio : i < offs.toList.length := by omega
    have e1 : (offs.toList.map (fun z => (pc : Int) + z))[i]? = (tg.map (fun t : Nat => Int.ofNat t))[i]? := by rw [htg]
    rw [List.getElem?_map, List.getElem?_map, List.getElem?_eq_getElem hio, List.getElem?_eq_getElem hit] at e1
    simp only [Option.map_some, Option.some.injEq] at e1
    refine lv_tableIn (off := offs.toList[i]) (tgt := tg[i]) C.1 C.2.1 d (by omega) (by omega) ?_ e1 (qVs_at ks i o1 _ hi1 (List.getElem?_eq_getElem hit) r hr ls H locs cells slots h1 h2 h3 h4 h5)
    rw [show (x.toInt - lo).toNat = i by omega, ← Array.getElem?_toList, List.getElem?_eq_getElem hio]
/-! doubles -/
def qhi (x : UInt64) : Int32 := (x >>> 32).toUInt32.toInt32
def qlo (x : UInt64) : Int32 := x.toUInt32.toInt32
theorem qdb_hl (x : UInt64) : qdb (qhi x) (qlo x) = x := by
  show ((x >>> 32).toUInt32.toUInt64 <<< 32 ||| x.toUInt32.toUInt64) = x
  rw [← UInt64.toNat_inj]
  have hx := UInt64.toNat_lt x
  simp only [UInt64.toNat_or, UInt64.toNat_shiftLeft, UInt64.toNat_shiftRight, UInt32.toNat_toUInt64, UInt64.toNat_toUInt32]
  have e1 : (32 : UInt64).toNat % 64 = 32 := by decide
  rw [e1, Nat.shiftRight_eq_div_pow]
  have h1 : x.toNat / 2 ^ 32 % 2 ^ 32 = x.toNat / 2 ^ 32 := Nat.mod_eq_of_lt (by omega)
  rw [h1]
  have h2 : (x.toNat / 2 ^ 32) <<< 32 % 2 ^ 64 = (x.toNat / 2 ^ 32) <<< 32 := by rw [Nat.shiftLeft_eq]; exact Nat.mod_eq_of_lt (by omega)
  rw [h2, ← Nat.shiftLeft_add_eq_or_of_lt (show x.toNat % 2 ^ 32 < 2 ^ 32 by omega), Nat.shiftLeft_eq]
  omega
abbrev qsd (σ : qS) (x : UInt64) : qS := qu (qu σ 39 0 0 (qhi x)) 39 0 1 (qlo x)
theorem qv_dald (C : qC p l s m meth c cc nL own g) (d : decode cc pc = .ok (.daload, 1)) (k : qV p l e R s m args below meth c g nL Qf o cb sb (pc + 1) L (.inl (.double (qdb (σ 39 0 0) (σ 39 0 1))) :: st) σ) : qV p l e R s m args below meth c g nL Qf o cb sb pc L (qI (0 : Int32) :: qR 39 0 :: st) σ := by
  intro r hr ls H locs cells slots h1 h2 h3 h4 h5
  obtain ⟨hx0, hb, hml, hown, hE, -, -⟩ := C
  obtain ⟨q0, -, hq⟩ := qws_at g σ (k := 39) (j := 0) (by decide) (by decide)
  rw [qent6 (by decide)] at hq
  exact va_dald hx0 hb hE.1.1 h2.1 q0 5 hq rfl (i := 0) (qin_vp (by decide)) d (k r hr ls H locs cells slots h1 h2 h3 h4 h5)
theorem qv_dast (C : qC p l s m meth c cc nL own g) {x : UInt64} (d : decode cc pc = .ok (.dastore, 1)) (k : qV p l e R s m args below meth c g nL Qf o cb sb (pc + 1) L st (qsd σ x)) : qV p l e R s m args below meth c g nL Qf o cb sb pc L (.inl (.double x) :: qI (0 : Int32) :: qR 39 0 :: st) σ := by
  intro r hr ls H locs cells slots h1 h2 h3 h4 h5
  obtain ⟨hx0, hb, hml, hown, hE, -, -⟩ := C
  obtain ⟨q0, hc0, hq⟩ := qws_at g σ (k := 39) (j := 0) (by decide) (by decide)
  have hset := qws_set (σ' := qsd σ x) h2.2 hc0 hq (fun a b h => by rw [qsd, qu_other _ h, qu_other _ h])
  have he : qent g 39 0 (qsd σ x 39 0) = .inl (g.2.1 5, qlen 39, .inr (.inr (.inr (.inl (vf_upd (fun i => qdb (σ 39 0 (2 * i)) (σ 39 0 (2 * i + 1))) (0 : Int32).toNatClampNeg x))))) := by
    rw [qent6 (by decide)]
    congr 7
    funext z
    by_cases hz : z = 0
    · subst hz
      simp [qsd, qu, upd, vf_upd, qdb_hl]
    · have e1 : ¬ 2 * z = 0 := by omega
      have e2 : ¬ 2 * z = 1 := by omega
      have e3 : ¬ 2 * z + 1 = 1 := by omega
      have e4 : ¬ 2 * z + 1 = 0 := by omega
      simp [qsd, qu, upd, vf_upd, hz, e1, e2, e3, e4]
  rw [he] at hset
  rw [qent6 (by decide)] at hq
  exact va_dast hx0 hb hE.1.1 h2.1 h2.2 h3 q0 5 hq rfl (i := 0) (qin_vp (by decide)) d (fun H1 locs1 hP1 hD1 hS1 => k r hr ls H1 locs1 cells slots h1 ⟨hset ▸ hP1, hset ▸ hD1⟩ hS1 h4 h5)
theorem qv_f2d (C : qC p l s m meth c cc nL own g) {x : UInt32} (d : decode cc pc = .ok (.f2d, 1)) (k : qn64 (FP.f2d x) → qV p l e R s m args below meth c g nL Qf o cb sb (pc + 1) L (.inl (.double (FP.f2d x)) :: st) σ) : qV p l e R s m args below meth c g nL Qf (if qn64 (FP.f2d x) then o else none) cb sb pc L (.inl (.float x) :: st) σ := by
  by_cases h : qn64 (FP.f2d x)
  · rw [if_pos h]
    exact fun r hr ls H locs cells slots h1 h2 h3 h4 h5 => lv_f2d C.1 C.2.1 d h (k h r hr ls H locs cells slots h1 h2 h3 h4 h5)
  · rw [if_neg h]; exact qV.no
theorem qv_dcmp (C : qC p l s m meth c cc nL own g) {x y : UInt64} {op : CmpOp} (d : decode cc pc = .ok (.dcmp op, 1)) (k : qV p l e R s m args below meth c g nL Qf o cb sb (pc + 1) L (qI (Op.cmpValue (FP.dcmp x y) op) :: st) σ) : qV p l e R s m args below meth c g nL Qf o cb sb pc L (.inl (.double y) :: .inl (.double x) :: st) σ :=
  fun r hr ls H locs cells slots h1 h2 h3 h4 h5 => lv_dcmp C.1 C.2.1 d (k r hr ls H locs cells slots h1 h2 h3 h4 h5)
theorem qv_fcmp (C : qC p l s m meth c cc nL own g) {x y : UInt32} {op : CmpOp} (d : decode cc pc = .ok (.fcmp op, 1)) (k : qV p l e R s m args below meth c g nL Qf o cb sb (pc + 1) L (qI (Op.cmpValue (FP.fcmp x y) op) :: st) σ) : qV p l e R s m args below meth c g nL Qf o cb sb pc L (.inl (.float y) :: .inl (.float x) :: st) σ :=
  fun r hr ls H locs cells slots h1 h2 h3 h4 h5 => lv_fcmp C.1 C.2.1 d (k r hr ls H locs cells slots h1 h2 h3 h4 h5)
end QJ
end
section
/-! the methods as plain functions: definitions alone (for the pure side; the machine side has them with their proofs) -/
def f_J6_bitCount_0f7a4 (a1 : Int32) (s0 : qS) : Option qO :=
  (some (.inl (some (qI ((((((((a1 - (((a1).toUInt32 >>> (((1 : Int32)).toUInt32 &&& Int32.toUInt32 31)).toInt32 &&& (1431655765 : Int32))) &&& (858993459 : Int32)) + ((((a1 - (((a1).toUInt32 >>> (((1 : Int32)).toUInt32 &&& Int32.toUInt32 31)).toInt32 &&& (1431655765 : Int32)))).toUInt32 >>> (((2 : Int32)).toUInt32 &&& Int32.toUInt32 31)).toInt32 &&& (858993459 : Int32))) + (((((a1 - (((a1).toUInt32 >>> (((1 : Int32)).toUInt32 &&& Int32.toUInt32 31)).toInt32 &&& (1431655765 : Int32))) &&& (858993459 : Int32)) + ((((a1 - (((a1).toUInt32 >>> (((1 : Int32)).toUInt32 &&& Int32.toUInt32 31)).toInt32 &&& (1431655765 : Int32)))).toUInt32 >>> (((2 : Int32)).toUInt32 &&& Int32.toUInt32 31)).toInt32 &&& (858993459 : Int32)))).toUInt32 >>> (((4 : Int32)).toUInt32 &&& Int32.toUInt32 31)).toInt32) &&& (252645135 : Int32)) + (((((((a1 - (((a1).toUInt32 >>> (((1 : Int32)).toUInt32 &&& Int32.toUInt32 31)).toInt32 &&& (1431655765 : Int32))) &&& (858993459 : Int32)) + ((((a1 - (((a1).toUInt32 >>> (((1 : Int32)).toUInt32 &&& Int32.toUInt32 31)).toInt32 &&& (1431655765 : Int32)))).toUInt32 >>> (((2 : Int32)).toUInt32 &&& Int32.toUInt32 31)).toInt32 &&& (858993459 : Int32))) + (((((a1 - (((a1).toUInt32 >>> (((1 : Int32)).toUInt32 &&& Int32.toUInt32 31)).toInt32 &&& (1431655765 : Int32))) &&& (858993459 : Int32)) + ((((a1 - (((a1).toUInt32 >>> (((1 : Int32)).toUInt32 &&& Int32.toUInt32 31)).toInt32 &&& (1431655765 : Int32)))).toUInt32 >>> (((2 : Int32)).toUInt32 &&& Int32.toUInt32 31)).toInt32 &&& (858993459 : Int32)))).toUInt32 >>> (((4 : Int32)).toUInt32 &&& Int32.toUInt32 31)).toInt32) &&& (252645135 : Int32))).toUInt32 >>> (((8 : Int32)).toUInt32 &&& Int32.toUInt32 31)).toInt32) + ((((((((a1 - (((a1).toUInt32 >>> (((1 : Int32)).toUInt32 &&& Int32.toUInt32 31)).toInt32 &&& (1431655765 : Int32))) &&& (858993459 : Int32)) + ((((a1 - (((a1).toUInt32 >>> (((1 : Int32)).toUInt32 &&& Int32.toUInt32 31)).toInt32 &&& (1431655765 : Int32)))).toUInt32 >>> (((2 : Int32)).toUInt32 &&& Int32.toUInt32 31)).toInt32 &&& (858993459 : Int32))) + (((((a1 - (((a1).toUInt32 >>> (((1 : Int32)).toUInt32 &&& Int32.toUInt32 31)).toInt32 &&& (1431655765 : Int32))) &&& (858993459 : Int32)) + ((((a1 - (((a1).toUInt32 >>> (((1 : Int32)).toUInt32 &&& Int32.toUInt32 31)).toInt32 &&& (1431655765 : Int32)))).toUInt32 >>> (((2 : Int32)).toUInt32 &&& Int32.toUInt32 31)).toInt32 &&& (858993459 : Int32)))).toUInt32 >>> (((4 : Int32)).toUInt32 &&& Int32.toUInt32 31)).toInt32) &&& (252645135 : Int32)) + (((((((a1 - (((a1).toUInt32 >>> (((1 : Int32)).toUInt32 &&& Int32.toUInt32 31)).toInt32 &&& (1431655765 : Int32))) &&& (858993459 : Int32)) + ((((a1 - (((a1).toUInt32 >>> (((1 : Int32)).toUInt32 &&& Int32.toUInt32 31)).toInt32 &&& (1431655765 : Int32)))).toUInt32 >>> (((2 : Int32)).toUInt32 &&& Int32.toUInt32 31)).toInt32 &&& (858993459 : Int32))) + (((((a1 - (((a1).toUInt32 >>> (((1 : Int32)).toUInt32 &&& Int32.toUInt32 31)).toInt32 &&& (1431655765 : Int32))) &&& (858993459 : Int32)) + ((((a1 - (((a1).toUInt32 >>> (((1 : Int32)).toUInt32 &&& Int32.toUInt32 31)).toInt32 &&& (1431655765 : Int32)))).toUInt32 >>> (((2 : Int32)).toUInt32 &&& Int32.toUInt32 31)).toInt32 &&& (858993459 : Int32)))).toUInt32 >>> (((4 : Int32)).toUInt32 &&& Int32.toUInt32 31)).toInt32) &&& (252645135 : Int32))).toUInt32 >>> (((8 : Int32)).toUInt32 &&& Int32.toUInt32 31)).toInt32)).toUInt32 >>> (((16 : Int32)).toUInt32 &&& Int32.toUInt32 31)).toInt32) &&& (63 : Int32)))), s0))
def f_J0_coder_7d493 (j0 : Nat) (s0 : qS) : Option qO :=
  (if (1 : Int32) = 0 then none else
  (some (.inl (some (qI (0 : Int32))), s0)))
def f_J0_isLatin1_aae02 (j0 : Nat) (s0 : qS) : Option qO :=
  (if (1 : Int32) = 0 then none else
  (if (0 : Int32) = 0 then (some (.inl (some (qI (1 : Int32))), s0)) else
  none))
def f_J3_checkIndex_8e157 (a1 : Int32) (a2 : Int32) (s0 : qS) : Option qO :=
  (if a1 < 0 then none else
  (if a1 < a2 then (some (.inl (some (qI a1)), s0)) else
  none))
def f_J0_length_8abf5 (j0 : Nat) (s0 : qS) : Option qO :=
  qbind (f_J0_coder_7d493 j0 s0) (qvI (fun r1 s1 =>
  (some (.inl (some (qI ((Int32.ofNat (qsl j0)) >>> (r1 &&& 31)))), s1)))) qE0
def f_J0_checkIndex_df160 (a1 : Int32) (a2 : Int32) (s0 : qS) : Option qO :=
  qbind (f_J3_checkIndex_8e157 a1 a2 s0) (qvI (fun r1 s1 =>
  (some (.inl none, s1)))) qE0
def f_J1_charAt_3b067 (j1 : Nat) (a2 : Int32) (s0 : qS) : Option qO :=
  qbind (f_J0_checkIndex_df160 a2 (Int32.ofNat (qsl j1)) s0) (qvV (fun s1 =>
  (if qin a2 (qsl j1) then (if qch ((((qsc j1 (a2).toNatClampNeg) &&& (255 : Int32)).toUInt32 % 65536).toInt32) then some (.inl (some (qI ((((qsc j1 (a2).toNatClampNeg) &&& (255 : Int32)).toUInt32 % 65536).toInt32))), s1) else none) else none))) qE0
def f_J0_charAt_5068e (j0 : Nat) (a1 : Int32) (s0 : qS) : Option qO :=
  qbind (f_J0_isLatin1_aae02 j0 s0) (qvI (fun r1 s1 =>
  (if r1 = 0 then none else
  qbind (f_J1_charAt_3b067 j0 a1 s1) (qvI (fun r2 s2 =>
  (if qch r2 then some (.inl (some (qI r2)), s2) else none))) qE0))) qE0
def f_X7_isWithin (a1 : Int32) (a2 : Int32) (a3 : Int32) (s0 : qS) : Option qO :=
  (if a1 < a2 then (some (.inl (some (qI (0 : Int32))), s0)) else
  (if a3 < a1 then (some (.inl (some (qI (0 : Int32))), s0)) else
  (some (.inl (some (qI (1 : Int32))), s0))))
def f_X7_hasBit (a1 : Int32) (a2 : Int32) (s0 : qS) : Option qO :=
  (if ((a1 >>> (a2 &&& 31)) &&& (1 : Int32)) = (1 : Int32) then (some (.inl (some (qI (1 : Int32))), s0)) else
  (some (.inl (some (qI (0 : Int32))), s0)))
def f_X7_at (k1 j1 : Nat) (a2 : Int32) (s0 : qS) : Option qO :=
  (if a2 < 0 then (some (.inl (some (qI (0 : Int32))), s0)) else
  (if (Int32.ofNat (qlen k1)) ≤ a2 then (some (.inl (some (qI (0 : Int32))), s0)) else
  (if qin a2 (qlen k1) then (some (.inl (some (qI (s0 k1 j1 (a2).toNatClampNeg))), s0)) else none)))
def f_X7_put (k1 j1 : Nat) (a2 : Int32) (a3 : Int32) (s0 : qS) : Option qO :=
  (if a2 < 0 then (some (.inl none, s0)) else
  (if (Int32.ofNat (qlen k1)) ≤ a2 then (some (.inl none, s0)) else
  (if qin a2 (qlen k1) then qlet (qu s0 k1 j1 (a2).toNatClampNeg a3) (fun s1 =>
  (some (.inl none, s1))) else none)))
def f_X7_charAt (k1 j1 : Nat) (a2 : Int32) (s0 : qS) : Option qO :=
  (if a2 < 0 then (some (.inl (some (qI (32 : Int32))), s0)) else
  (if (Int32.ofNat (qlen k1)) ≤ a2 then (some (.inl (some (qI (32 : Int32))), s0)) else
  (if qin a2 (qlen k1) then (if qch (s0 k1 j1 (a2).toNatClampNeg) then some (.inl (some (qI (s0 k1 j1 (a2).toNatClampNeg))), s0) else none) else none)))
def b_X7_copyRow_2 (k1 : Nat) (j1 : Nat) (k2 : Nat) (j2 : Nat) (rk2 : Int32 → qS → Option qO) (v2 : Int32) (s0 : qS) : Option qO :=
  (if (Int32.ofNat (qlen k1)) ≤ v2 then (some (.inl none, s0)) else
  (if (Int32.ofNat (qlen k2)) ≤ v2 then (some (.inl none, s0)) else
  (if qin v2 (qlen k1) then (if qin v2 (qlen k2) then qlet (qu s0 k2 j2 (v2).toNatClampNeg (s0 k1 j1 (v2).toNatClampNeg)) (fun s1 =>
  rk2 (v2 + (1 : Int32)) s1) else none) else none)))
def l_X7_copyRow_2 (k1 : Nat) (j1 : Nat) (k2 : Nat) (j2 : Nat) : Nat → Int32 → qS → Option qO
  | 0, _, _ => none
  | n + 1, v2, s0 => b_X7_copyRow_2 k1 j1 k2 j2 (l_X7_copyRow_2 k1 j1 k2 j2 n) v2 s0
def f_X7_copyRow (k1 j1 : Nat) (k2 j2 : Nat) (s0 : qS) : Option qO :=
  l_X7_copyRow_2 k1 j1 k2 j2 qFU (0 : Int32) s0
def b_X7_fillRow_2 (k1 : Nat) (j1 : Nat) (rk2 : Int32 → Int32 → qS → Option qO) (v1 : Int32) (v2 : Int32) (s0 : qS) : Option qO :=
  (if (Int32.ofNat (qlen k1)) ≤ v2 then (some (.inl none, s0)) else
  (if qin v2 (qlen k1) then qlet (qu s0 k1 j1 (v2).toNatClampNeg v1) (fun s1 =>
  rk2 v1 (v2 + (1 : Int32)) s1) else none))
def l_X7_fillRow_2 (k1 : Nat) (j1 : Nat) : Nat → Int32 → Int32 → qS → Option qO
  | 0, _, _, _ => none
  | n + 1, v1, v2, s0 => b_X7_fillRow_2 k1 j1 (l_X7_fillRow_2 k1 j1 n) v1 v2 s0
def f_X7_fillRow (k1 j1 : Nat) (a2 : Int32) (s0 : qS) : Option qO :=
  l_X7_fillRow_2 k1 j1 qFU a2 (0 : Int32) s0
def b_X7_closeGap_6 (k1 : Nat) (j1 : Nat) (rk6 : Int32 → qS → Option qO) (v2 : Int32) (s0 : qS) : Option qO :=
  (if (Int32.ofNat (qlen k1)) ≤ (v2 + (1 : Int32)) then (some (.inl none, s0)) else
  (if qin (v2 + (1 : Int32)) (qlen k1) then (if qin v2 (qlen k1) then qlet (qu s0 k1 j1 (v2).toNatClampNeg (s0 k1 j1 ((v2 + (1 : Int32))).toNatClampNeg)) (fun s1 =>
  rk6 (v2 + (1 : Int32)) s1) else none) else none))
def l_X7_closeGap_6 (k1 : Nat) (j1 : Nat) : Nat → Int32 → qS → Option qO
  | 0, _, _ => none
  | n + 1, v2, s0 => b_X7_closeGap_6 k1 j1 (l_X7_closeGap_6 k1 j1 n) v2 s0
def f_X7_closeGap (k1 j1 : Nat) (a2 : Int32) (s0 : qS) : Option qO :=
  l_X7_closeGap_6 k1 j1 qFU (qmax a2 (0 : Int32)) s0
def f_X7_sortingKey (a1 : Int32) (a2 : Int32) (s0 : qS) : Option qO :=
  (some (.inl (some (qI (((10 : Int32) * a1) - a2))), s0))
def f_X5_faultOfTask (j0 : Nat) (a1 : Int32) (s0 : qS) : Option qO :=
  qbind (f_X7_isWithin a1 (0 : Int32) ((s0 1 j0 7) - (1 : Int32)) s0) (qvI (fun r1 s1 =>
  (if r1 = 0 then (some (.inl (some (qI (105 : Int32))), s1)) else
  (some (.inl (some (qI (46 : Int32))), s1))))) qE0
def f_X5_faultOfPair (j0 : Nat) (a1 : Int32) (a2 : Int32) (s0 : qS) : Option qO :=
  qbind (f_X5_faultOfTask j0 a1 s0) (qvI (fun r1 s1 =>
  (if r1 = (46 : Int32) then qbind (f_X5_faultOfTask j0 a2 s1) (qvI (fun r2 s2 =>
  (if qch r2 then some (.inl (some (qI r2)), s2) else none))) qE0 else
  (some (.inl (some (qI (105 : Int32))), s1))))) qE0
def j_X5_faultOfAdding_43 (j0 : Nat) (s0 : qS) : Option qO :=
  (if (0 : Int32) = 0 then (some (.inl (some (qI (97 : Int32))), s0)) else
  (if (12 : Int32) ≤ (s0 1 j0 7) then (some (.inl (some (qI (115 : Int32))), s0)) else
  (some (.inl (some (qI (46 : Int32))), s0))))
def f_X5_faultOfAdding (j0 : Nat) (a1 : Int32) (a2 : Int32) (a3 : Int32) (a4 : Int32) (s0 : qS) : Option qO :=
  qbind (f_X7_isWithin a1 (1 : Int32) (9 : Int32) s0) (qvI (fun r1 s1 =>
  (if r1 = 0 then j_X5_faultOfAdding_43 j0  s1 else
  qbind (f_X7_isWithin a2 (0 : Int32) (2 : Int32) s1) (qvI (fun r2 s2 =>
  (if r2 = 0 then j_X5_faultOfAdding_43 j0  s2 else
  qbind (f_X7_isWithin a3 (1 : Int32) (5 : Int32) s2) (qvI (fun r3 s3 =>
  (if r3 = 0 then j_X5_faultOfAdding_43 j0  s3 else
  qbind (f_X7_isWithin a4 (0 : Int32) (30 : Int32) s3) (qvI (fun r4 s4 =>
  (if r4 = 0 then j_X5_faultOfAdding_43 j0  s4 else
  (if (1 : Int32) = 0 then (some (.inl (some (qI (97 : Int32))), s4)) else
  (if (12 : Int32) ≤ (s4 1 j0 7) then (some (.inl (some (qI (115 : Int32))), s4)) else
  (some (.inl (some (qI (46 : Int32))), s4))))))) qE0))) qE0))) qE0))) qE0
def f_X5_isLinked (j0 : Nat) (a1 : Int32) (a2 : Int32) (s0 : qS) : Option qO :=
  qbind (f_X7_at 6 j0 a1 s0) (qvI (fun r1 s1 =>
  qbind (f_X7_hasBit r1 a2 s1) (qvI (fun r2 s2 =>
  (if qbo r2 then some (.inl (some (qI r2)), s2) else none))) qE0)) qE0
def f_X5_link (j0 : Nat) (a1 : Int32) (a2 : Int32) (s0 : qS) : Option qO :=
  qbind (f_X7_at 6 j0 a1 s0) (qvI (fun r1 s1 =>
  qbind (f_X7_put 6 j0 a1 (r1 ||| ((1 : Int32) <<< (a2 &&& 31))) s1) (qvV (fun s2 =>
  (some (.inl none, s2)))) qE0)) qE0
def f_X5_unlink (j0 : Nat) (a1 : Int32) (a2 : Int32) (s0 : qS) : Option qO :=
  qbind (f_X7_at 6 j0 a1 s0) (qvI (fun r1 s1 =>
  qbind (f_X7_put 6 j0 a1 (r1 &&& (((1 : Int32) <<< (a2 &&& 31)) ^^^ (-1 : Int32))) s1) (qvV (fun s2 =>
  (some (.inl none, s2)))) qE0)) qE0
def f_X5_isReady (j0 : Nat) (a1 : Int32) (a2 : Int32) (s0 : qS) : Option qO :=
  qbind (f_X7_hasBit a2 a1 s0) (qvI (fun r1 s1 =>
  (if r1 = 0 then qbind (f_X7_at 6 j0 a1 s1) (qvI (fun r2 s2 =>
  (if (r2 &&& (a2 ^^^ (-1 : Int32))) = 0 then (some (.inl (some (qI (1 : Int32))), s2)) else
  (some (.inl (some (qI (0 : Int32))), s2))))) qE0 else
  (some (.inl (some (qI (0 : Int32))), s1))))) qE0
def f_X5_takeStarts (j0 : Nat) (k1 j1 : Nat) (s0 : qS) : Option qO :=
  qbind (f_X7_copyRow k1 j1 7 j0 s0) (qvV (fun s1 =>
  qlet (qu s1 1 j0 8 (1 : Int32)) (fun s2 =>
  (some (.inl none, s2))))) qE0
def f_X5_hasStart (j0 : Nat) (a1 : Int32) (s0 : qS) : Option qO :=
  (if (s0 1 j0 8) = 0 then (some (.inl (some (qI (0 : Int32))), s0)) else
  qbind (f_X7_at 7 j0 a1 s0) (qvI (fun r1 s1 =>
  (if r1 = (-1 : Int32) then (some (.inl (some (qI (0 : Int32))), s1)) else
  (some (.inl (some (qI (1 : Int32))), s1))))) qE0)
def b_X5_workOf_4 (j0 : Nat) (rk4 : Int32 → Int32 → Int32 → qS → Option qO) (v1 : Int32) (v2 : Int32) (v3 : Int32) (s0 : qS) : Option qO :=
  (if (s0 1 j0 7) ≤ v3 then (some (.inl (some (qI v2)), s0)) else
  qbind (f_X7_at 3 j0 v3 s0) (qvI (fun r1 s1 =>
  (if r1 = v1 then qbind (f_X7_at 2 j0 v3 s1) (qvI (fun r2 s2 =>
  qbind (f_X7_at 4 j0 v3 s2) (qvI (fun r3 s3 =>
  rk4 v1 (v2 + (r2 * r3)) (v3 + (1 : Int32)) s3)) qE0)) qE0 else
  rk4 v1 v2 (v3 + (1 : Int32)) s1))) qE0)
def l_X5_workOf_4 (j0 : Nat) : Nat → Int32 → Int32 → Int32 → qS → Option qO
  | 0, _, _, _, _ => none
  | n + 1, v1, v2, v3, s0 => b_X5_workOf_4 j0 (l_X5_workOf_4 j0 n) v1 v2 v3 s0
def f_X5_workOf (j0 : Nat) (a1 : Int32) (s0 : qS) : Option qO :=
  l_X5_workOf_4 j0 qFU a1 (0 : Int32) (0 : Int32) s0
def f_X5_append (j0 : Nat) (a1 : Int32) (a2 : Int32) (a3 : Int32) (a4 : Int32) (s0 : qS) : Option qO :=
  qbind (f_X7_put 2 j0 (s0 1 j0 7) a1 s0) (qvV (fun s1 =>
  qbind (f_X7_put 3 j0 (s0 1 j0 7) a2 s1) (qvV (fun s2 =>
  qbind (f_X7_put 4 j0 (s0 1 j0 7) a3 s2) (qvV (fun s3 =>
  qbind (f_X7_put 5 j0 (s0 1 j0 7) a4 s3) (qvV (fun s4 =>
  qbind (f_X7_put 6 j0 (s0 1 j0 7) (0 : Int32) s4) (qvV (fun s5 =>
  qbind (f_X7_put 7 j0 (s0 1 j0 7) (-1 : Int32) s5) (qvV (fun s6 =>
  qlet (qu s6 1 j0 7 ((s0 1 j0 7) + (1 : Int32))) (fun s7 =>
  (some (.inl (some (qI (s0 1 j0 7))), s7))))) qE0)) qE0)) qE0)) qE0)) qE0)) qE0
def b_X5_drop_66 (j0 : Nat) (rk66 : Int32 → Int32 → qS → Option qO) (v2 : Int32) (v3 : Int32) (s0 : qS) : Option qO :=
  (if (s0 1 j0 7) ≤ v3 then (some (.inl none, s0)) else
  qbind (f_X7_at 6 j0 v3 s0) (qvI (fun r1 s8 =>
  qbind (f_X7_put 6 j0 v3 ((r1 &&& v2) ||| ((r1 >>> ((1 : Int32) &&& 31)) &&& (v2 ^^^ (-1 : Int32)))) s8) (qvV (fun s9 =>
  rk66 v2 (v3 + (1 : Int32)) s9)) qE0)) qE0)
def l_X5_drop_66 (j0 : Nat) : Nat → Int32 → Int32 → qS → Option qO
  | 0, _, _, _ => none
  | n + 1, v2, v3, s0 => b_X5_drop_66 j0 (l_X5_drop_66 j0 n) v2 v3 s0
def f_X5_drop (j0 : Nat) (a1 : Int32) (s0 : qS) : Option qO :=
  qbind (f_X7_closeGap 2 j0 a1 s0) (qvV (fun s1 =>
  qbind (f_X7_closeGap 3 j0 a1 s1) (qvV (fun s2 =>
  qbind (f_X7_closeGap 4 j0 a1 s2) (qvV (fun s3 =>
  qbind (f_X7_closeGap 5 j0 a1 s3) (qvV (fun s4 =>
  qbind (f_X7_closeGap 6 j0 a1 s4) (qvV (fun s5 =>
  qbind (f_X7_closeGap 7 j0 a1 s5) (qvV (fun s6 =>
  qlet (qu s6 1 j0 7 ((s6 1 j0 7) - (1 : Int32))) (fun s7 =>
  l_X5_drop_66 j0 qFU (((1 : Int32) <<< (a1 &&& 31)) - (1 : Int32)) (0 : Int32) s7))) qE0)) qE0)) qE0)) qE0)) qE0)) qE0
def f_X5_copyFrom (j0 : Nat) (j1 : Nat) (s0 : qS) : Option qO :=
  qbind (f_X7_copyRow 2 j1 2 j0 s0) (qvV (fun s1 =>
  qbind (f_X7_copyRow 3 j1 3 j0 s1) (qvV (fun s2 =>
  qbind (f_X7_copyRow 4 j1 4 j0 s2) (qvV (fun s3 =>
  qbind (f_X7_copyRow 5 j1 5 j0 s3) (qvV (fun s4 =>
  qbind (f_X7_copyRow 6 j1 6 j0 s4) (qvV (fun s5 =>
  qbind (f_X7_copyRow 7 j1 7 j0 s5) (qvV (fun s6 =>
  qbind (f_X7_copyRow 8 j1 8 j0 s6) (qvV (fun s7 =>
  qlet (qu s7 1 j0 7 (s7 1 j1 7)) (fun s8 =>
  (if qbo (s8 1 j1 8) then qlet (qu s8 1 j0 8 (s8 1 j1 8)) (fun s9 =>
  (some (.inl none, s9))) else none)))) qE0)) qE0)) qE0)) qE0)) qE0)) qE0)) qE0
def f_X5_faultOfDuration (j0 : Nat) (a1 : Int32) (a2 : Int32) (s0 : qS) : Option qO :=
  qbind (f_X5_faultOfTask j0 a1 s0) (qvI (fun r1 s1 =>
  (if r1 = (46 : Int32) then qbind (f_X7_isWithin a2 (1 : Int32) (9 : Int32) s1) (qvI (fun r2 s2 =>
  (if r2 = 0 then (some (.inl (some (qI (97 : Int32))), s2)) else
  (some (.inl (some (qI (46 : Int32))), s2))))) qE0 else
  (some (.inl (some (qI (105 : Int32))), s1))))) qE0
def f_X5_faultOfRelease (j0 : Nat) (a1 : Int32) (a2 : Int32) (s0 : qS) : Option qO :=
  qbind (f_X5_faultOfTask j0 a1 s0) (qvI (fun r1 s1 =>
  (if r1 = (46 : Int32) then qbind (f_X7_isWithin a2 (0 : Int32) (30 : Int32) s1) (qvI (fun r2 s2 =>
  (if r2 = 0 then (some (.inl (some (qI (97 : Int32))), s2)) else
  (some (.inl (some (qI (46 : Int32))), s2))))) qE0 else
  (some (.inl (some (qI (105 : Int32))), s1))))) qE0
def f_X5_faultOfLimit (j0 : Nat) (a1 : Int32) (a2 : Int32) (s0 : qS) : Option qO :=
  qbind (f_X7_isWithin a1 (0 : Int32) (2 : Int32) s0) (qvI (fun r1 s1 =>
  (if r1 = 0 then (if (0 : Int32) = 0 then (some (.inl (some (qI (97 : Int32))), s1)) else
  (some (.inl (some (qI (46 : Int32))), s1))) else
  qbind (f_X7_isWithin a2 (5 : Int32) (20 : Int32) s1) (qvI (fun r2 s2 =>
  (if r2 = 0 then (if (0 : Int32) = 0 then (some (.inl (some (qI (97 : Int32))), s2)) else
  (some (.inl (some (qI (46 : Int32))), s2))) else
  (if (1 : Int32) = 0 then (some (.inl (some (qI (97 : Int32))), s2)) else
  (some (.inl (some (qI (46 : Int32))), s2)))))) qE0))) qE0
def b_X5_search_22 (rf : Nat → Nat → Int32 → Int32 → Int32 → qS → Option qO) (k1 : Nat) (j1 : Nat) (rk22 : Int32 → Int32 → Int32 → Int32 → qS → Option qO) (v3 : Int32) (v4 : Int32) (v5 : Int32) (v6 : Int32) (s0 : qS) : Option qO :=
  (if (12 : Int32) ≤ v6 then (some (.inl (some (qI v4)), s0)) else
  qbind (f_X7_hasBit v5 v6 s0) (qvI (fun r2 s2 =>
  (if r2 = 0 then rk22 v3 v4 v5 (v6 + (1 : Int32)) s2 else
  qbind (f_X7_hasBit v4 v6 s2) (qvI (fun r3 s3 =>
  (if r3 = 0 then qbind (rf k1 j1 v6 (v4 ||| ((1 : Int32) <<< (v6 &&& 31))) (v3 + (1 : Int32)) s3) (qvI (fun r4 s4 =>
  rk22 v3 r4 v5 (v6 + (1 : Int32)) s4)) qE0 else
  rk22 v3 v4 v5 (v6 + (1 : Int32)) s3))) qE0))) qE0)
def l_X5_search_22 (rf : Nat → Nat → Int32 → Int32 → Int32 → qS → Option qO) (k1 : Nat) (j1 : Nat) : Nat → Int32 → Int32 → Int32 → Int32 → qS → Option qO
  | 0, _, _, _, _, _ => none
  | n + 1, v3, v4, v5, v6, s0 => b_X5_search_22 rf k1 j1 (l_X5_search_22 rf k1 j1 n) v3 v4 v5 v6 s0
def fb_X5_search (rf : Nat → Nat → Int32 → Int32 → Int32 → qS → Option qO) (k1 j1 : Nat) (a2 : Int32) (a3 : Int32) (a4 : Int32) (s0 : qS) : Option qO :=
  (if a4 ≤ (12 : Int32) then qbind (f_X7_at k1 j1 a2 s0) (qvI (fun r1 s1 =>
  l_X5_search_22 rf k1 j1 qFU a4 a3 r1 (0 : Int32) s1)) qE0 else
  (some (.inl (some (qI a3)), s0)))
def fn_X5_search : Nat → Nat → Nat → Int32 → Int32 → Int32 → qS → Option qO
  | 0, _, _, _, _, _, _ => none
  | n + 1, k1, j1, a2, a3, a4, s0 => fb_X5_search (fn_X5_search n) k1 j1 a2 a3 a4 s0
def f_X5_search (k1 j1 : Nat) (a2 : Int32) (a3 : Int32) (a4 : Int32) (s0 : qS) : Option qO := fn_X5_search 16 k1 j1 a2 a3 a4 s0
def f_X5_reaches (j0 : Nat) (a1 : Int32) (a2 : Int32) (s0 : qS) : Option qO :=
  qbind (f_X5_search 6 j0 a1 (0 : Int32) (0 : Int32) s0) (qvI (fun r1 s1 =>
  qbind (f_X7_hasBit r1 a2 s1) (qvI (fun r2 s2 =>
  (if qbo r2 then some (.inl (some (qI r2)), s2) else none))) qE0)) qE0
def f_X5_faultOfLinking (j0 : Nat) (a1 : Int32) (a2 : Int32) (s0 : qS) : Option qO :=
  qbind (f_X5_faultOfPair j0 a1 a2 s0) (qvI (fun r1 s1 =>
  (if r1 = (46 : Int32) then (if a1 = a2 then (some (.inl (some (qI (97 : Int32))), s1)) else
  qbind (f_X5_reaches j0 a2 a1 s1) (qvI (fun r2 s2 =>
  (if r2 = 0 then (some (.inl (some (qI (46 : Int32))), s2)) else
  (some (.inl (some (qI (117 : Int32))), s2))))) qE0) else
  (some (.inl (some (qI (105 : Int32))), s1))))) qE0
def f_X3_clear  (s0 : qS) : Option qO :=
  qlet (qu s0 23 0 1 (0 : Int32)) (fun s1 =>
  (some (.inl none, s1)))
def f_X3_write (a1 : Int32) (s0 : qS) : Option qO :=
  (if (s0 23 0 1) < 0 then (some (.inl none, s0)) else
  (if (Int32.ofNat 414) ≤ (s0 23 0 1) then (some (.inl none, s0)) else
  (if qin (s0 23 0 1) 414 ∧ qch a1 then qlet (qu s0 24 0 ((s0 23 0 1)).toNatClampNeg a1) (fun s1 =>
  qlet (qu s1 23 0 1 ((s1 23 0 1) + (1 : Int32))) (fun s2 =>
  (some (.inl none, s2)))) else none)))
def j_X3_writeNumber_21 (v1 : Int32) (s0 : qS) : Option qO :=
  (if v1 < (10 : Int32) then qbind (f_X3_write ((((48 : Int32) + (v1 - v1 / (10 : Int32) * (10 : Int32))).toUInt32 % 65536).toInt32) s0) (qvV (fun s1 =>
  (some (.inl none, s1)))) qE0 else
  qbind (f_X3_write ((((48 : Int32) + ((v1 / (10 : Int32)) - (v1 / (10 : Int32)) / (10 : Int32) * (10 : Int32))).toUInt32 % 65536).toInt32) s0) (qvV (fun s2 =>
  qbind (f_X3_write ((((48 : Int32) + (v1 - v1 / (10 : Int32) * (10 : Int32))).toUInt32 % 65536).toInt32) s2) (qvV (fun s3 =>
  (some (.inl none, s3)))) qE0)) qE0)
def f_X3_writeNumber (a1 : Int32) (s0 : qS) : Option qO :=
  (if a1 < (100 : Int32) then j_X3_writeNumber_21  a1 s0 else
  qbind (f_X3_write ((((48 : Int32) + ((a1 / (100 : Int32)) - (a1 / (100 : Int32)) / (10 : Int32) * (10 : Int32))).toUInt32 % 65536).toInt32) s0) (qvV (fun s4 =>
  j_X3_writeNumber_21  a1 s4)) qE0)
def f_X2_stateAt (a1 : Int32) (s0 : qS) : Option qO :=
  (if a1 < 0 then (some (.inl (some (.inl .null)), s0)) else
  (if (Int32.ofNat 8) ≤ a1 then (some (.inl (some (.inl .null)), s0)) else
  (if qin a1 8 then (some (.inl (some (qR 1 (3 + (a1).toNatClampNeg))), s0)) else none)))
def j_X2_keep_18 (j1 : Nat) (s0 : qS) : Option qO :=
  (if (8 : Int32) ≤ ((s0 9 0 2) + (1 : Int32)) then qlet (qu s0 9 0 2 (0 : Int32)) (fun s2 =>
  qlet (qu s2 9 0 1 (qmin ((s2 9 0 1) + (1 : Int32)) (8 : Int32))) (fun s3 =>
  (some (.inl none, s3)))) else
  qlet (qu s0 9 0 2 ((s0 9 0 2) + (1 : Int32))) (fun s4 =>
  qlet (qu s4 9 0 1 (qmin ((s4 9 0 1) + (1 : Int32)) (8 : Int32))) (fun s5 =>
  (some (.inl none, s5)))))
def f_X2_keep (j1 : Nat) (s0 : qS) : Option qO :=
  qbind (f_X2_stateAt (s0 9 0 2) s0) (qvN 1 11 (fun s1 =>
  j_X2_keep_18 j1  s1) (fun jr1 s1 =>
  qbind (f_X5_copyFrom jr1 j1 s1) (qvV (fun s6 =>
  j_X2_keep_18 j1  s6)) qE0)) qE0
def j_X2_takeInto_19 (j1 : Nat) (w1 : Int32) (s0 : qS) : Option qO :=
  qlet (qu s0 9 0 2 w1) (fun s1 =>
  qlet (qu s1 9 0 1 (qmax ((s1 9 0 1) - (1 : Int32)) (0 : Int32))) (fun s2 =>
  qbind (f_X2_stateAt (s2 9 0 2) s2) (qvN 1 11 (fun s3 =>
  (some (.inl none, s3))) (fun jr1 s3 =>
  qbind (f_X5_copyFrom j1 jr1 s3) (qvV (fun s4 =>
  (some (.inl none, s4)))) qE0)) qE0))
def f_X2_takeInto (j1 : Nat) (s0 : qS) : Option qO :=
  (if (s0 9 0 2) ≤ 0 then j_X2_takeInto_19 j1 (7 : Int32) s0 else
  j_X2_takeInto_19 j1 ((s0 9 0 2) - (1 : Int32)) s0)
def f_X2_clear  (s0 : qS) : Option qO :=
  qlet (qu s0 9 0 1 (0 : Int32)) (fun s1 =>
  (some (.inl none, s1)))
def f_X4_slackOf (a1 : Int32) (s0 : qS) : Option qO :=
  qbind (f_X7_at 16 0 a1 s0) (qvI (fun r1 s1 =>
  qbind (f_X7_at 14 0 a1 s1) (qvI (fun r2 s2 =>
  (some (.inl (some (qI (r1 - r2))), s2)))) qE0)) qE0
def f_X4_usedOn (a1 : Int32) (a2 : Int32) (s0 : qS) : Option qO :=
  (if (138 : Int32) ≤ a2 then (some (.inl (some (qI (0 : Int32))), s0)) else
  qbind (f_X7_at 18 0 ((a1 * (138 : Int32)) + a2) s0) (qvI (fun r1 s1 =>
  (some (.inl (some (qI r1)), s1)))) qE0)
def b_X4_workOnAllDays_4 (rk4 : Int32 → Int32 → Int32 → qS → Option qO) (v1 : Int32) (v2 : Int32) (v3 : Int32) (s0 : qS) : Option qO :=
  (if (138 : Int32) ≤ v3 then (some (.inl (some (qI v2)), s0)) else
  qbind (f_X4_usedOn v1 v3 s0) (qvI (fun r1 s1 =>
  rk4 v1 (v2 + r1) (v3 + (1 : Int32)) s1)) qE0)
def l_X4_workOnAllDays_4 : Nat → Int32 → Int32 → Int32 → qS → Option qO
  | 0, _, _, _, _ => none
  | n + 1, v1, v2, v3, s0 => b_X4_workOnAllDays_4  (l_X4_workOnAllDays_4  n) v1 v2 v3 s0
def f_X4_workOnAllDays (a1 : Int32) (s0 : qS) : Option qO :=
  l_X4_workOnAllDays_4  qFU a1 (0 : Int32) (0 : Int32) s0
def b_X4_findOrder_15 (j1 : Nat) (rk4 : Int32 → Int32 → qS → Option qO) (rk15 : Int32 → Int32 → Int32 → qS → Option qO) (v2 : Int32) (v3 : Int32) (v4 : Int32) (s0 : qS) : Option qO :=
  (if (s0 1 j1 7) ≤ v4 then qbind (f_X7_put 12 0 v3 v4 s0) (qvV (fun s1 =>
  rk4 (v2 ||| ((1 : Int32) <<< (v4 &&& 31))) (v3 + (1 : Int32)) s1)) qE0 else
  qbind (f_X5_isReady j1 v4 v2 s0) (qvI (fun r1 s2 =>
  (if r1 = 0 then rk15 v2 v3 (v4 + (1 : Int32)) s2 else
  qbind (f_X7_put 12 0 v3 v4 s2) (qvV (fun s3 =>
  rk4 (v2 ||| ((1 : Int32) <<< (v4 &&& 31))) (v3 + (1 : Int32)) s3)) qE0))) qE0)
def l_X4_findOrder_15 (j1 : Nat) (rk4 : Int32 → Int32 → qS → Option qO) : Nat → Int32 → Int32 → Int32 → qS → Option qO
  | 0, _, _, _, _ => none
  | n + 1, v2, v3, v4, s0 => b_X4_findOrder_15 j1 rk4 (l_X4_findOrder_15 j1 rk4 n) v2 v3 v4 s0
def b_X4_findOrder_4 (j1 : Nat) (rk4 : Int32 → Int32 → qS → Option qO) (v2 : Int32) (v3 : Int32) (s0 : qS) : Option qO :=
  (if (s0 1 j1 7) ≤ v3 then (some (.inl none, s0)) else
  l_X4_findOrder_15 j1 rk4 qFU v2 v3 (0 : Int32) s0)
def l_X4_findOrder_4 (j1 : Nat) : Nat → Int32 → Int32 → qS → Option qO
  | 0, _, _, _ => none
  | n + 1, v2, v3, s0 => b_X4_findOrder_4 j1 (l_X4_findOrder_4 j1 n) v2 v3 s0
def f_X4_findOrder (j1 : Nat) (s0 : qS) : Option qO :=
  l_X4_findOrder_4 j1 qFU (0 : Int32) (0 : Int32) s0
def b_X4_findClosure_23 (j1 : Nat) (rk13 : Int32 → qS → Option qO) (rk23 : Int32 → Int32 → qS → Option qO) (v2 : Int32) (v3 : Int32) (s0 : qS) : Option qO :=
  (if (s0 1 j1 7) ≤ v3 then rk13 (v2 + (1 : Int32)) s0 else
  qbind (f_X7_at 13 0 v3 s0) (qvI (fun r1 s2 =>
  qbind (f_X7_hasBit r1 v2 s2) (qvI (fun r2 s3 =>
  (if r2 = 0 then rk23 v2 (v3 + (1 : Int32)) s3 else
  qbind (f_X7_at 13 0 v3 s3) (qvI (fun r3 s4 =>
  qbind (f_X7_at 13 0 v2 s4) (qvI (fun r4 s5 =>
  qbind (f_X7_put 13 0 v3 (r3 ||| r4) s5) (qvV (fun s6 =>
  rk23 v2 (v3 + (1 : Int32)) s6)) qE0)) qE0)) qE0))) qE0)) qE0)
def l_X4_findClosure_23 (j1 : Nat) (rk13 : Int32 → qS → Option qO) : Nat → Int32 → Int32 → qS → Option qO
  | 0, _, _, _ => none
  | n + 1, v2, v3, s0 => b_X4_findClosure_23 j1 rk13 (l_X4_findClosure_23 j1 rk13 n) v2 v3 s0
def b_X4_findClosure_13 (j1 : Nat) (rk13 : Int32 → qS → Option qO) (v2 : Int32) (s0 : qS) : Option qO :=
  (if (s0 1 j1 7) ≤ v2 then (some (.inl none, s0)) else
  l_X4_findClosure_23 j1 rk13 qFU v2 (0 : Int32) s0)
def l_X4_findClosure_13 (j1 : Nat) : Nat → Int32 → qS → Option qO
  | 0, _, _ => none
  | n + 1, v2, s0 => b_X4_findClosure_13 j1 (l_X4_findClosure_13 j1 n) v2 s0
def f_X4_findClosure (j1 : Nat) (s0 : qS) : Option qO :=
  qbind (f_X7_copyRow 6 j1 13 0 s0) (qvV (fun s1 =>
  l_X4_findClosure_13 j1 qFU (0 : Int32) s1)) qE0
def b_X4_earliestOf_45 (rf : Nat → Nat → Nat → Int32 → Int32 → qS → Option qO) (j1 : Nat) (k2 : Nat) (j2 : Nat) (rk45 : Int32 → Int32 → Int32 → Int32 → Int32 → qS → Option qO) (v2 : Int32) (v3 : Int32) (v4 : Int32) (v5 : Int32) (v6 : Int32) (s0 : qS) : Option qO :=
  (if (s0 1 j1 7) ≤ v6 then qbind (f_X7_put k2 j2 v2 v4 s0) (qvV (fun s4 =>
  (some (.inl (some (qI v4)), s4)))) qE0 else
  qbind (f_X7_hasBit v5 v6 s0) (qvI (fun r4 s5 =>
  (if r4 = 0 then rk45 v2 v3 v4 v5 (v6 + (1 : Int32)) s5 else
  qbind (rf j1 k2 j2 v6 (v3 + (1 : Int32)) s5) (qvI (fun r5 s6 =>
  qbind (f_X7_at 2 j1 v6 s6) (qvI (fun r6 s7 =>
  rk45 v2 v3 (qmax v4 (r5 + r6)) v5 (v6 + (1 : Int32)) s7)) qE0)) qE0))) qE0)
def l_X4_earliestOf_45 (rf : Nat → Nat → Nat → Int32 → Int32 → qS → Option qO) (j1 : Nat) (k2 : Nat) (j2 : Nat) : Nat → Int32 → Int32 → Int32 → Int32 → Int32 → qS → Option qO
  | 0, _, _, _, _, _, _ => none
  | n + 1, v2, v3, v4, v5, v6, s0 => b_X4_earliestOf_45 rf j1 k2 j2 (l_X4_earliestOf_45 rf j1 k2 j2 n) v2 v3 v4 v5 v6 s0
def fb_X4_earliestOf (rf : Nat → Nat → Nat → Int32 → Int32 → qS → Option qO) (j1 : Nat) (k2 j2 : Nat) (a3 : Int32) (a4 : Int32) (s0 : qS) : Option qO :=
  qbind (f_X7_at k2 j2 a3 s0) (qvI (fun r1 s1 =>
  (if r1 = (-1 : Int32) then (if a4 ≤ (12 : Int32) then qbind (f_X7_at 5 j1 a3 s1) (qvI (fun r2 s2 =>
  qbind (f_X7_at 6 j1 a3 s2) (qvI (fun r3 s3 =>
  l_X4_earliestOf_45 rf j1 k2 j2 qFU a3 a4 r2 r3 (0 : Int32) s3)) qE0)) qE0 else
  (some (.inl (some (qI r1)), s1))) else
  (some (.inl (some (qI r1)), s1))))) qE0
def fn_X4_earliestOf : Nat → Nat → Nat → Nat → Int32 → Int32 → qS → Option qO
  | 0, _, _, _, _, _, _ => none
  | n + 1, j1, k2, j2, a3, a4, s0 => fb_X4_earliestOf (fn_X4_earliestOf n) j1 k2 j2 a3 a4 s0
def f_X4_earliestOf (j1 : Nat) (k2 j2 : Nat) (a3 : Int32) (a4 : Int32) (s0 : qS) : Option qO := fn_X4_earliestOf 16 j1 k2 j2 a3 a4 s0
def b_X4_findEarliest_15 (j1 : Nat) (rk15 : Int32 → qS → Option qO) (v2 : Int32) (s0 : qS) : Option qO :=
  (if (s0 1 j1 7) ≤ v2 then (some (.inl none, s0)) else
  qbind (f_X4_earliestOf j1 14 0 v2 (0 : Int32) s0) (qvI (fun r1 s3 =>
  qbind (f_X7_at 2 j1 v2 s3) (qvI (fun r2 s4 =>
  qlet (qu s4 11 0 7 (qmax (s3 11 0 7) (r1 + r2))) (fun s5 =>
  rk15 (v2 + (1 : Int32)) s5))) qE0)) qE0)
def l_X4_findEarliest_15 (j1 : Nat) : Nat → Int32 → qS → Option qO
  | 0, _, _ => none
  | n + 1, v2, s0 => b_X4_findEarliest_15 j1 (l_X4_findEarliest_15 j1 n) v2 s0
def f_X4_findEarliest (j1 : Nat) (s0 : qS) : Option qO :=
  qbind (f_X7_fillRow 14 0 (-1 : Int32) s0) (qvV (fun s1 =>
  qlet (qu s1 11 0 7 (0 : Int32)) (fun s2 =>
  l_X4_findEarliest_15 j1 qFU (0 : Int32) s2))) qE0
def b_X4_soonestStart_22 (j1 : Nat) (k3 : Nat) (j3 : Nat) (rk22 : Int32 → Int32 → Int32 → qS → Option qO) (v3 : Int32) (v4 : Int32) (v5 : Int32) (s0 : qS) : Option qO :=
  (if (s0 1 j1 7) ≤ v5 then (some (.inl (some (qI v3)), s0)) else
  qbind (f_X7_hasBit v4 v5 s0) (qvI (fun r3 s3 =>
  (if r3 = 0 then rk22 v3 v4 (v5 + (1 : Int32)) s3 else
  qbind (f_X7_at k3 j3 v5 s3) (qvI (fun r4 s4 =>
  qbind (f_X7_at 2 j1 v5 s4) (qvI (fun r5 s5 =>
  rk22 (qmax v3 (r4 + r5)) v4 (v5 + (1 : Int32)) s5)) qE0)) qE0))) qE0)
def l_X4_soonestStart_22 (j1 : Nat) (k3 : Nat) (j3 : Nat) : Nat → Int32 → Int32 → Int32 → qS → Option qO
  | 0, _, _, _, _ => none
  | n + 1, v3, v4, v5, s0 => b_X4_soonestStart_22 j1 k3 j3 (l_X4_soonestStart_22 j1 k3 j3 n) v3 v4 v5 s0
def f_X4_soonestStart (j1 : Nat) (a2 : Int32) (k3 j3 : Nat) (s0 : qS) : Option qO :=
  qbind (f_X7_at 5 j1 a2 s0) (qvI (fun r1 s1 =>
  qbind (f_X7_at 6 j1 a2 s1) (qvI (fun r2 s2 =>
  l_X4_soonestStart_22 j1 k3 j3 qFU r1 r2 (0 : Int32) s2)) qE0)) qE0
def b_X4_improve_4 (j1 : Nat) (rk4 : Int32 → Int32 → qS → Option qO) (v2 : Int32) (v3 : Int32) (s0 : qS) : Option qO :=
  (if (s0 1 j1 7) ≤ v3 then (if qbo v2 then some (.inl (some (qI v2)), s0) else none) else
  qbind (f_X4_soonestStart j1 v3 15 0 s0) (qvI (fun r1 s1 =>
  qbind (f_X7_at 15 0 v3 s1) (qvI (fun r2 s2 =>
  (if r1 ≤ r2 then rk4 v2 (v3 + (1 : Int32)) s2 else
  qbind (f_X7_put 15 0 v3 r1 s2) (qvV (fun s3 =>
  rk4 (1 : Int32) (v3 + (1 : Int32)) s3)) qE0))) qE0)) qE0)
def l_X4_improve_4 (j1 : Nat) : Nat → Int32 → Int32 → qS → Option qO
  | 0, _, _, _ => none
  | n + 1, v2, v3, s0 => b_X4_improve_4 j1 (l_X4_improve_4 j1 n) v2 v3 s0
def f_X4_improve (j1 : Nat) (s0 : qS) : Option qO :=
  l_X4_improve_4 j1 qFU (0 : Int32) (0 : Int32) s0
def b_X4_findImproved_15 (j1 : Nat) (rk15 : Int32 → Int32 → qS → Option qO) (v2 : Int32) (v3 : Int32) (s0 : qS) : Option qO :=
  (if v2 = 0 then (some (.inl none, s0)) else
  (if (12 : Int32) ≤ v3 then (some (.inl none, s0)) else
  qbind (f_X4_improve j1 s0) (qvI (fun r1 s2 =>
  rk15 r1 (v3 + (1 : Int32)) s2)) qE0))
def l_X4_findImproved_15 (j1 : Nat) : Nat → Int32 → Int32 → qS → Option qO
  | 0, _, _, _ => none
  | n + 1, v2, v3, s0 => b_X4_findImproved_15 j1 (l_X4_findImproved_15 j1 n) v2 v3 s0
def f_X4_findImproved (j1 : Nat) (s0 : qS) : Option qO :=
  qbind (f_X7_copyRow 5 j1 15 0 s0) (qvV (fun s1 =>
  l_X4_findImproved_15 j1 qFU (1 : Int32) (0 : Int32) s1)) qE0
def b_X4_findLatest_29 (j1 : Nat) (rk7 : Int32 → qS → Option qO) (rk29 : Int32 → Int32 → Int32 → Int32 → qS → Option qO) (v2 : Int32) (v3 : Int32) (v4 : Int32) (v5 : Int32) (s0 : qS) : Option qO :=
  (if (s0 1 j1 7) ≤ v5 then qbind (f_X7_at 2 j1 v3 s0) (qvI (fun r2 s2 =>
  qbind (f_X7_put 16 0 v3 (v4 - r2) s2) (qvV (fun s3 =>
  rk7 (v2 + (-1 : Int32)) s3)) qE0)) qE0 else
  qbind (f_X5_isLinked j1 v5 v3 s0) (qvI (fun r3 s4 =>
  (if r3 = 0 then rk29 v2 v3 v4 (v5 + (1 : Int32)) s4 else
  qbind (f_X7_at 16 0 v5 s4) (qvI (fun r4 s5 =>
  rk29 v2 v3 (qmin v4 r4) (v5 + (1 : Int32)) s5)) qE0))) qE0)
def l_X4_findLatest_29 (j1 : Nat) (rk7 : Int32 → qS → Option qO) : Nat → Int32 → Int32 → Int32 → Int32 → qS → Option qO
  | 0, _, _, _, _, _ => none
  | n + 1, v2, v3, v4, v5, s0 => b_X4_findLatest_29 j1 rk7 (l_X4_findLatest_29 j1 rk7 n) v2 v3 v4 v5 s0
def b_X4_findLatest_7 (j1 : Nat) (rk7 : Int32 → qS → Option qO) (v2 : Int32) (s0 : qS) : Option qO :=
  (if v2 < 0 then (some (.inl none, s0)) else
  qbind (f_X7_at 12 0 v2 s0) (qvI (fun r1 s1 =>
  l_X4_findLatest_29 j1 rk7 qFU v2 r1 (s1 11 0 7) (0 : Int32) s1)) qE0)
def l_X4_findLatest_7 (j1 : Nat) : Nat → Int32 → qS → Option qO
  | 0, _, _ => none
  | n + 1, v2, s0 => b_X4_findLatest_7 j1 (l_X4_findLatest_7 j1 n) v2 s0
def f_X4_findLatest (j1 : Nat) (s0 : qS) : Option qO :=
  l_X4_findLatest_7 j1 qFU ((s0 1 j1 7) - (1 : Int32)) s0
def b_X4_mostUrgent_5 (j1 : Nat) (rk5 : Int32 → Int32 → Int32 → qS → Option qO) (v2 : Int32) (v3 : Int32) (v4 : Int32) (s0 : qS) : Option qO :=
  (if (s0 1 j1 7) ≤ v4 then (some (.inl (some (qI v3)), s0)) else
  qbind (f_X5_isReady j1 v4 v2 s0) (qvI (fun r1 s1 =>
  (if r1 = 0 then rk5 v2 v3 (v4 + (1 : Int32)) s1 else
  (if v3 = (-1 : Int32) then rk5 v2 v4 (v4 + (1 : Int32)) s1 else
  qbind (f_X7_at 16 0 v4 s1) (qvI (fun r2 s2 =>
  qbind (f_X7_at 16 0 v3 s2) (qvI (fun r3 s3 =>
  (if r3 ≤ r2 then rk5 v2 v3 (v4 + (1 : Int32)) s3 else
  rk5 v2 v4 (v4 + (1 : Int32)) s3))) qE0)) qE0)))) qE0)
def l_X4_mostUrgent_5 (j1 : Nat) : Nat → Int32 → Int32 → Int32 → qS → Option qO
  | 0, _, _, _, _ => none
  | n + 1, v2, v3, v4, s0 => b_X4_mostUrgent_5 j1 (l_X4_mostUrgent_5 j1 n) v2 v3 v4 s0
def f_X4_mostUrgent (j1 : Nat) (a2 : Int32) (s0 : qS) : Option qO :=
  l_X4_mostUrgent_5 j1 qFU a2 (-1 : Int32) (0 : Int32) s0
def b_X4_fits_53 (j1 : Nat) (rk53 : Int32 → Int32 → Int32 → Int32 → qS → Option qO) (v5 : Int32) (v6 : Int32) (v7 : Int32) (v8 : Int32) (s0 : qS) : Option qO :=
  (if v7 ≤ v8 then (some (.inl (some (qI (1 : Int32))), s0)) else
  qbind (f_X7_at 18 0 (v5 + v8) s0) (qvI (fun r5 s5 =>
  (if r5 ≤ v6 then rk53 v5 v6 v7 (v8 + (1 : Int32)) s5 else
  (some (.inl (some (qI (0 : Int32))), s5))))) qE0)
def l_X4_fits_53 (j1 : Nat) : Nat → Int32 → Int32 → Int32 → Int32 → qS → Option qO
  | 0, _, _, _, _, _ => none
  | n + 1, v5, v6, v7, v8, s0 => b_X4_fits_53 j1 (l_X4_fits_53 j1 n) v5 v6 v7 v8 s0
def f_X4_fits (j1 : Nat) (a2 : Int32) (a3 : Int32) (s0 : qS) : Option qO :=
  qbind (f_X7_at 3 j1 a2 s0) (qvI (fun r1 s1 =>
  qbind (f_X7_at 8 j1 r1 s1) (qvI (fun r2 s2 =>
  qbind (f_X7_at 4 j1 a2 s2) (qvI (fun r3 s3 =>
  qbind (f_X7_at 2 j1 a2 s3) (qvI (fun r4 s4 =>
  l_X4_fits_53 j1 qFU (r1 * (138 : Int32)) (r2 - r3) (a3 + r4) a3 s4)) qE0)) qE0)) qE0)) qE0
def b_X4_lowestFit_10 (j1 : Nat) (rk10 : Int32 → Int32 → qS → Option qO) (v2 : Int32) (v3 : Int32) (s0 : qS) : Option qO :=
  (if (138 : Int32) ≤ v3 then (some (.inl (some (qI v3)), s0)) else
  qbind (f_X4_fits j1 v2 v3 s0) (qvI (fun r2 s2 =>
  (if r2 = 0 then rk10 v2 (v3 + (1 : Int32)) s2 else
  (some (.inl (some (qI v3)), s2))))) qE0)
def l_X4_lowestFit_10 (j1 : Nat) : Nat → Int32 → Int32 → qS → Option qO
  | 0, _, _, _ => none
  | n + 1, v2, v3, s0 => b_X4_lowestFit_10 j1 (l_X4_lowestFit_10 j1 n) v2 v3 s0
def f_X4_lowestFit (j1 : Nat) (a2 : Int32) (s0 : qS) : Option qO :=
  qbind (f_X4_soonestStart j1 a2 17 0 s0) (qvI (fun r1 s1 =>
  l_X4_lowestFit_10 j1 qFU a2 r1 s1)) qE0
def b_X4_place_38 (j1 : Nat) (rk38 : Int32 → Int32 → Int32 → Int32 → qS → Option qO) (v2 : Int32) (v4 : Int32) (v5 : Int32) (v6 : Int32) (s0 : qS) : Option qO :=
  (if v5 ≤ v6 then qlet (qu s0 11 0 8 (qmax (s0 11 0 8) v5)) (fun s4 =>
  (some (.inl none, s4))) else
  qbind (f_X7_at 18 0 (v4 + v6) s0) (qvI (fun r3 s5 =>
  qbind (f_X7_at 4 j1 v2 s5) (qvI (fun r4 s6 =>
  qbind (f_X7_put 18 0 (v4 + v6) (r3 + r4) s6) (qvV (fun s7 =>
  rk38 v2 v4 v5 (v6 + (1 : Int32)) s7)) qE0)) qE0)) qE0)
def l_X4_place_38 (j1 : Nat) : Nat → Int32 → Int32 → Int32 → Int32 → qS → Option qO
  | 0, _, _, _, _, _ => none
  | n + 1, v2, v4, v5, v6, s0 => b_X4_place_38 j1 (l_X4_place_38 j1 n) v2 v4 v5 v6 s0
def f_X4_place (j1 : Nat) (a2 : Int32) (a3 : Int32) (s0 : qS) : Option qO :=
  qbind (f_X7_put 17 0 a2 a3 s0) (qvV (fun s1 =>
  qbind (f_X7_at 3 j1 a2 s1) (qvI (fun r1 s2 =>
  qbind (f_X7_at 2 j1 a2 s2) (qvI (fun r2 s3 =>
  l_X4_place_38 j1 qFU a2 (r1 * (138 : Int32)) (a3 + r2) a3 s3)) qE0)) qE0)) qE0
def b_X4_findLevelled_17 (j1 : Nat) (rk17 : Int32 → Int32 → qS → Option qO) (v2 : Int32) (v3 : Int32) (s0 : qS) : Option qO :=
  (if (s0 1 j1 7) ≤ v3 then (some (.inl none, s0)) else
  qbind (f_X4_mostUrgent j1 v2 s0) (qvI (fun r1 s3 =>
  qbind (f_X4_lowestFit j1 r1 s3) (qvI (fun r2 s4 =>
  qbind (f_X4_place j1 r1 r2 s4) (qvV (fun s5 =>
  rk17 (v2 ||| ((1 : Int32) <<< (r1 &&& 31))) (v3 + (1 : Int32)) s5)) qE0)) qE0)) qE0)
def l_X4_findLevelled_17 (j1 : Nat) : Nat → Int32 → Int32 → qS → Option qO
  | 0, _, _, _ => none
  | n + 1, v2, v3, s0 => b_X4_findLevelled_17 j1 (l_X4_findLevelled_17 j1 n) v2 v3 s0
def f_X4_findLevelled (j1 : Nat) (s0 : qS) : Option qO :=
  qbind (f_X7_fillRow 18 0 (0 : Int32) s0) (qvV (fun s1 =>
  qlet (qu s1 11 0 8 (0 : Int32)) (fun s2 =>
  l_X4_findLevelled_17 j1 qFU (0 : Int32) (0 : Int32) s2))) qE0
def f_X4_make (j1 : Nat) (s0 : qS) : Option qO :=
  qbind (f_X4_findOrder j1 s0) (qvV (fun s1 =>
  qbind (f_X4_findClosure j1 s1) (qvV (fun s2 =>
  qbind (f_X4_findEarliest j1 s2) (qvV (fun s3 =>
  qbind (f_X4_findImproved j1 s3) (qvV (fun s4 =>
  qbind (f_X4_findLatest j1 s4) (qvV (fun s5 =>
  qbind (f_X4_findLevelled j1 s5) (qvV (fun s6 =>
  (some (.inl none, s6)))) qE0)) qE0)) qE0)) qE0)) qE0)) qE0
def f_X6_append (a1 : Int32) (s0 : qS) : Option qO :=
  (if (s0 19 0 3) < 0 then (some (.inl none, s0)) else
  (if (Int32.ofNat 60) ≤ (s0 19 0 3) then (some (.inl none, s0)) else
  (if qin (s0 19 0 3) 60 ∧ qch a1 then qlet (qu s0 20 0 ((s0 19 0 3)).toNatClampNeg a1) (fun s1 =>
  qlet (qu s1 19 0 3 ((s1 19 0 3) + (1 : Int32))) (fun s2 =>
  (some (.inl none, s2)))) else none)))
def f_X6_clear  (s0 : qS) : Option qO :=
  qlet (qu s0 19 0 3 (0 : Int32)) (fun s1 =>
  (some (.inl none, s1)))
def f_X6_commandAt (a1 : Int32) (s0 : qS) : Option qO :=
  (if a1 < 0 then (some (.inl (some (.inl .null)), s0)) else
  (if (Int32.ofNat 60) ≤ a1 then (some (.inl (some (.inl .null)), s0)) else
  (if qin a1 60 then (some (.inl (some (qcm (s0 21 0 (a1).toNatClampNeg))), s0)) else none)))
def f_X6_numberAt (a1 : Int32) (a2 : Int32) (s0 : qS) : Option qO :=
  qbind (f_X7_at 22 0 ((a1 * (4 : Int32)) + a2) s0) (qvI (fun r1 s1 =>
  (some (.inl (some (qI r1)), s1)))) qE0
def f_X6_isDigitAt (a1 : Int32) (s0 : qS) : Option qO :=
  (if (s0 19 0 3) ≤ a1 then (some (.inl (some (qI (0 : Int32))), s0)) else
  qbind (f_X7_charAt 20 0 a1 s0) (qvI (fun r1 s1 =>
  qbind (f_X7_isWithin r1 (48 : Int32) (57 : Int32) s1) (qvI (fun r2 s2 =>
  (if r2 = 0 then (some (.inl (some (qI (0 : Int32))), s2)) else
  (some (.inl (some (qI (1 : Int32))), s2))))) qE0)) qE0)
def j_X6_readNumber_58 (v1 : Int32) (v3 : Int32) (v4 : Int32) (s0 : qS) : Option qO :=
  qbind (f_X7_put 22 0 (((s0 19 0 4) * (4 : Int32)) + v1) v3 s0) (qvV (fun s1 =>
  (if v4 ≤ 0 then (some (.inl (some (qI (0 : Int32))), s1)) else
  (some (.inl (some (qI (1 : Int32))), s1))))) qE0
def b_X6_readNumber_5 (rk5 : Int32 → Int32 → Int32 → Int32 → qS → Option qO) (v1 : Int32) (v2 : Int32) (v3 : Int32) (v4 : Int32) (s0 : qS) : Option qO :=
  (if v2 ≤ v4 then j_X6_readNumber_58  v1 v3 v4 s0 else
  qbind (f_X6_isDigitAt (s0 19 0 5) s0) (qvI (fun r1 s2 =>
  (if r1 = 0 then j_X6_readNumber_58  v1 v3 v4 s2 else
  qbind (f_X7_charAt 20 0 (s2 19 0 5) s2) (qvI (fun r2 s3 =>
  qlet (qu s3 19 0 5 ((s3 19 0 5) + (1 : Int32))) (fun s4 =>
  rk5 v1 v2 ((((10 : Int32) * v3) + r2) - (48 : Int32)) (v4 + (1 : Int32)) s4))) qE0))) qE0)
def l_X6_readNumber_5 : Nat → Int32 → Int32 → Int32 → Int32 → qS → Option qO
  | 0, _, _, _, _, _ => none
  | n + 1, v1, v2, v3, v4, s0 => b_X6_readNumber_5  (l_X6_readNumber_5  n) v1 v2 v3 v4 s0
def f_X6_readNumber (a1 : Int32) (a2 : Int32) (s0 : qS) : Option qO :=
  l_X6_readNumber_5  qFU a1 a2 (0 : Int32) (0 : Int32) s0
def j_X6_follows_33 (j1 : Nat) (rk4 : Int32 → Int32 → qS → Option qO) (v2 : Int32) (v3 : Int32) (v4 : Int32) (s0 : qS) : Option qO :=
  (if v4 = (37 : Int32) then qbind (f_X6_readNumber v2 (2 : Int32) s0) (qvI (fun r3 s3 =>
  (if r3 = 0 then (some (.inl (some (qI (0 : Int32))), s3)) else
  rk4 (v2 + (1 : Int32)) (v3 + (1 : Int32)) s3))) qE0 else
  qbind (f_X6_readNumber v2 (1 : Int32) s0) (qvI (fun r4 s4 =>
  (if r4 = 0 then (some (.inl (some (qI (0 : Int32))), s4)) else
  rk4 (v2 + (1 : Int32)) (v3 + (1 : Int32)) s4))) qE0)
def b_X6_follows_4 (j1 : Nat) (rk4 : Int32 → Int32 → qS → Option qO) (v2 : Int32) (v3 : Int32) (s0 : qS) : Option qO :=
  qbind (f_J0_length_8abf5 j1 s0) (qvI (fun r1 s1 =>
  (if r1 ≤ v3 then (some (.inl (some (qI (1 : Int32))), s1)) else
  qbind (f_J0_charAt_5068e j1 v3 s1) (qvI (fun r2 s2 =>
  (if r2 = (35 : Int32) then j_X6_follows_33 j1 rk4 v2 v3 r2 s2 else
  (if r2 = (37 : Int32) then j_X6_follows_33 j1 rk4 v2 v3 r2 s2 else
  (if (s2 19 0 3) ≤ (s2 19 0 5) then (some (.inl (some (qI (0 : Int32))), s2)) else
  qbind (f_X7_charAt 20 0 (s2 19 0 5) s2) (qvI (fun r5 s5 =>
  (if r5 = r2 then qlet (qu s5 19 0 5 ((s5 19 0 5) + (1 : Int32))) (fun s6 =>
  rk4 v2 (v3 + (1 : Int32)) s6) else
  (some (.inl (some (qI (0 : Int32))), s5))))) qE0))))) qE0))) qE0
def l_X6_follows_4 (j1 : Nat) : Nat → Int32 → Int32 → qS → Option qO
  | 0, _, _, _ => none
  | n + 1, v2, v3, s0 => b_X6_follows_4 j1 (l_X6_follows_4 j1 n) v2 v3 s0
def f_X6_follows (j1 : Nat) (s0 : qS) : Option qO :=
  l_X6_follows_4 j1 qFU (0 : Int32) (0 : Int32) s0
def b_X6_readCommand_18 (rk18 : Int32 → Int32 → Int32 → Int32 → qS → Option qO) (v1 : Int32) (v2 : Int32) (v4 : Int32) (v5 : Int32) (s0 : qS) : Option qO :=
  (if v4 ≤ v5 then qlet (qu s0 19 0 5 v2) (fun s1 =>
  (some (.inl (some (qI (0 : Int32))), s1))) else
  (if qin v5 8 then qlet (qu s0 19 0 5 v1) (fun s2 =>
  qbind (f_X6_follows ((v5).toNatClampNeg) s2) (qvI (fun r1 s3 =>
  (if r1 = 0 then rk18 v1 (qmax v2 (s3 19 0 5)) v4 (v5 + (1 : Int32)) s3 else
  (if (s3 19 0 4) < 0 then (some (.inl (some (qI (1 : Int32))), s3)) else
  (if (Int32.ofNat 60) ≤ (s3 19 0 4) then (some (.inl (some (qI (1 : Int32))), s3)) else
  (if qin (s3 19 0 4) 60 then qlet (qu s3 21 0 ((s3 19 0 4)).toNatClampNeg (nI ((v5).toNatClampNeg + 1))) (fun s4 =>
  qlet (qu s4 19 0 4 ((s4 19 0 4) + (1 : Int32))) (fun s5 =>
  (some (.inl (some (qI (1 : Int32))), s5)))) else none)))))) qE0) else none))
def l_X6_readCommand_18 : Nat → Int32 → Int32 → Int32 → Int32 → qS → Option qO
  | 0, _, _, _, _, _ => none
  | n + 1, v1, v2, v4, v5, s0 => b_X6_readCommand_18  (l_X6_readCommand_18  n) v1 v2 v4 v5 s0
def f_X6_readCommand  (s0 : qS) : Option qO :=
  l_X6_readCommand_18  qFU (s0 19 0 5) (s0 19 0 5) (8 : Int32) (0 : Int32) s0
def j_X6_read_68 (rk14 : Int32 → Int32 → qS → Option qO) (v2 : Int32) (w0 : Int32) (s0 : qS) : Option qO :=
  (if w0 = 0 then rk14 w0 (v2 + (1 : Int32)) s0 else
  qlet (qu s0 19 0 5 ((s0 19 0 5) + (1 : Int32))) (fun s4 =>
  rk14 w0 (v2 + (1 : Int32)) s4))
def b_X6_read_14 (rk14 : Int32 → Int32 → qS → Option qO) (v1 : Int32) (v2 : Int32) (s0 : qS) : Option qO :=
  (if v1 = 0 then (if v1 = 0 then (if (s0 19 0 5) = (s0 19 0 3) then (some (.inl (some (qI (1 : Int32))), s0)) else
  (some (.inl (some (qI (0 : Int32))), s0))) else
  (some (.inl (some (qI (0 : Int32))), s0))) else
  (if (Int32.ofNat 60) ≤ v2 then (if v1 = 0 then (if (s0 19 0 5) = (s0 19 0 3) then (some (.inl (some (qI (1 : Int32))), s0)) else
  (some (.inl (some (qI (0 : Int32))), s0))) else
  (some (.inl (some (qI (0 : Int32))), s0))) else
  qbind (f_X6_readCommand  s0) (qvI (fun r1 s3 =>
  (if r1 = 0 then (some (.inl (some (qI (0 : Int32))), s3)) else
  (if (s3 19 0 3) ≤ (s3 19 0 5) then j_X6_read_68  rk14 v2 (0 : Int32) s3 else
  qbind (f_X7_charAt 20 0 (s3 19 0 5) s3) (qvI (fun r2 s5 =>
  (if r2 = (59 : Int32) then j_X6_read_68  rk14 v2 (1 : Int32) s5 else
  j_X6_read_68  rk14 v2 (0 : Int32) s5))) qE0)))) qE0))
def l_X6_read_14 : Nat → Int32 → Int32 → qS → Option qO
  | 0, _, _, _ => none
  | n + 1, v1, v2, s0 => b_X6_read_14  (l_X6_read_14  n) v1 v2 s0
def f_X6_read  (s0 : qS) : Option qO :=
  qlet (qu s0 19 0 5 (0 : Int32)) (fun s1 =>
  qlet (qu s1 19 0 4 (0 : Int32)) (fun s2 =>
  l_X6_read_14  qFU (1 : Int32) (0 : Int32) s2))
def f_X7_taskCount  (s0 : qS) : Option qO :=
  (some (.inl (some (qI (s0 1 0 7))), s0))
def f_X7_hasBaseline  (s0 : qS) : Option qO :=
  (if qbo (s0 1 0 8) then some (.inl (some (qI (s0 1 0 8))), s0) else none)
def f_X7_outputAt (a1 : Int32) (s0 : qS) : Option qO :=
  qbind (f_X7_isWithin a1 (0 : Int32) ((s0 23 0 1) - (1 : Int32)) s0) (qvI (fun r1 s1 =>
  (if r1 = 0 then (some (.inr qIOE, s1)) else
  qbind (f_X7_charAt 24 0 a1 s1) (qvI (fun r2 s2 =>
  (if qch r2 then some (.inl (some (qI r2)), s2) else none))) qE0))) qE0
def f_X7_type (a1 : Int32) (s0 : qS) : Option qO :=
  qbind (f_X7_isWithin a1 (32 : Int32) (126 : Int32) s0) (qvI (fun r1 s1 =>
  (if r1 = 0 then (some (.inr qIAE, s1)) else
  (if (s1 19 0 3) < (60 : Int32) then qbind (f_X6_append a1 s1) (qvV (fun s2 =>
  (some (.inl (some (qI (s2 19 0 3))), s2)))) qE0 else
  (some (.inr qISE, s1)))))) qE0
def f_X7_errorPosition  (s0 : qS) : Option qO :=
  (if (s0 0 0 10) = (-1 : Int32) then (some (.inr qNSE, s0)) else
  (some (.inl (some (qI (s0 0 0 10))), s0)))
def f_X7_undo  (s0 : qS) : Option qO :=
  (if (s0 9 0 1) = 0 then (some (.inr qISE, s0)) else
  qbind (f_X2_takeInto 0 s0) (qvV (fun s1 =>
  qlet (qu s1 0 0 8 (0 : Int32)) (fun s2 =>
  (some (.inl (some (qI (s2 9 0 1))), s2))))) qE0)
def f_X7_save  (s0 : qS) : Option qO :=
  qbind (f_X5_copyFrom 2 0 s0) (qvV (fun s1 =>
  qlet (qu s1 0 0 9 (1 : Int32)) (fun s2 =>
  (some (.inl (some (qI (s2 1 0 7))), s2))))) qE0
def f_X7_restore  (s0 : qS) : Option qO :=
  (if (s0 0 0 9) = 0 then (some (.inr qISE, s0)) else
  qbind (f_X5_copyFrom 0 2 s0) (qvV (fun s1 =>
  qlet (qu s1 0 0 8 (0 : Int32)) (fun s2 =>
  qbind (f_X2_clear  s2) (qvV (fun s3 =>
  (some (.inl (some (qI (s3 1 0 7))), s3)))) qE0))) qE0)
def f_X7_beginChange  (s0 : qS) : Option qO :=
  qbind (f_X2_keep 0 s0) (qvV (fun s1 =>
  qlet (qu s1 0 0 8 (0 : Int32)) (fun s2 =>
  (some (.inl none, s2))))) qE0
def f_X7_currentPlan  (s0 : qS) : Option qO :=
  (if (s0 0 0 8) = 0 then qbind (f_X4_make 0 s0) (qvV (fun s1 =>
  qlet (qu s1 0 0 8 (1 : Int32)) (fun s2 =>
  (some (.inl (some (qR 11 0)), s2))))) qE0 else
  (some (.inl (some (qR 11 0)), s0)))
def f_X7_runAdding (a1 : Int32) (a2 : Int32) (a3 : Int32) (a4 : Int32) (s0 : qS) : Option qO :=
  qbind (f_X5_faultOfAdding 1 a1 a2 a3 a4 s0) (qvI (fun r1 s1 =>
  (if r1 = (46 : Int32) then qbind (f_X5_append 1 a1 a2 a3 a4 s1) (qvI (fun r2 s2 =>
  (if qch r1 then some (.inl (some (qI r1)), s2) else none))) qE0 else
  (if qch r1 then some (.inl (some (qI r1)), s1) else none)))) qE0
def f_X7_runSetting (a1 : Int32) (k2 j2 : Nat) (a3 : Int32) (a4 : Int32) (s0 : qS) : Option qO :=
  (if a1 = (46 : Int32) then qbind (f_X7_put k2 j2 a3 a4 s0) (qvV (fun s1 =>
  (if qch a1 then some (.inl (some (qI a1)), s1) else none))) qE0 else
  (if qch a1 then some (.inl (some (qI a1)), s0) else none))
def f_X7_markTrial  (s0 : qS) : Option qO :=
  qbind (f_X4_make 1 s0) (qvV (fun s1 =>
  qlet (qu s1 0 0 8 (0 : Int32)) (fun s2 =>
  qbind (f_X5_takeStarts 1 17 0 s2) (qvV (fun s3 =>
  (some (.inl none, s3)))) qE0))) qE0
def f_X7_isWorkedOn (a1 : Int32) (a2 : Int32) (s0 : qS) : Option qO :=
  qbind (f_X7_currentPlan  s0) (qvS 11 (fun s1 =>
  qbind (f_X7_at 17 0 a1 s1) (qvI (fun r1 s2 =>
  (if a2 < r1 then (some (.inl (some (qI (0 : Int32))), s2)) else
  qbind (f_X7_at 2 0 a1 s2) (qvI (fun r2 s3 =>
  (if (r1 + r2) ≤ a2 then (some (.inl (some (qI (0 : Int32))), s3)) else
  (some (.inl (some (qI (1 : Int32))), s3))))) qE0))) qE0)) qE0
def f_X7_driftOf (a1 : Int32) (s0 : qS) : Option qO :=
  qbind (f_X7_currentPlan  s0) (qvS 11 (fun s1 =>
  qbind (f_X7_at 17 0 a1 s1) (qvI (fun r1 s2 =>
  qbind (f_X7_at 7 0 a1 s2) (qvI (fun r2 s3 =>
  (some (.inl (some (qI (r1 - r2))), s3)))) qE0)) qE0)) qE0
def b_X7_countBefore_14 (rk14 : Int32 → Int32 → Int32 → Int32 → qS → Option qO) (v1 : Int32) (v2 : Int32) (v3 : Int32) (v4 : Int32) (s0 : qS) : Option qO :=
  (if (s0 1 0 7) ≤ v4 then (some (.inl (some (qI v3)), s0)) else
  qbind (f_X7_at 25 0 v4 s0) (qvI (fun r2 s2 =>
  (if r2 < v2 then rk14 v1 v2 (v3 + (1 : Int32)) (v4 + (1 : Int32)) s2 else
  (if r2 = v2 then (if v1 ≤ v4 then rk14 v1 v2 v3 (v4 + (1 : Int32)) s2 else
  rk14 v1 v2 (v3 + (1 : Int32)) (v4 + (1 : Int32)) s2) else
  rk14 v1 v2 v3 (v4 + (1 : Int32)) s2)))) qE0)
def l_X7_countBefore_14 : Nat → Int32 → Int32 → Int32 → Int32 → qS → Option qO
  | 0, _, _, _, _, _ => none
  | n + 1, v1, v2, v3, v4, s0 => b_X7_countBefore_14  (l_X7_countBefore_14  n) v1 v2 v3 v4 s0
def f_X7_countBefore (a1 : Int32) (s0 : qS) : Option qO :=
  qbind (f_X7_at 25 0 a1 s0) (qvI (fun r1 s1 =>
  l_X7_countBefore_14  qFU a1 r1 (0 : Int32) (0 : Int32) s1)) qE0
def b_X7_startsAgree_7 (rk7 : Int32 → qS → Option qO) (v2 : Int32) (s0 : qS) : Option qO :=
  (if (s0 1 0 7) ≤ v2 then (some (.inl (some (qI (1 : Int32))), s0)) else
  qbind (f_X7_at 14 0 v2 s0) (qvI (fun r1 s2 =>
  qbind (f_X7_at 15 0 v2 s2) (qvI (fun r2 s3 =>
  (if r1 = r2 then qbind (f_X7_at 17 0 v2 s3) (qvI (fun r3 s4 =>
  (if r1 ≤ r3 then rk7 (v2 + (1 : Int32)) s4 else
  (some (.inl (some (qI (0 : Int32))), s4))))) qE0 else
  (some (.inl (some (qI (0 : Int32))), s3))))) qE0)) qE0)
def l_X7_startsAgree_7 : Nat → Int32 → qS → Option qO
  | 0, _, _ => none
  | n + 1, v2, s0 => b_X7_startsAgree_7  (l_X7_startsAgree_7  n) v2 s0
def f_X7_startsAgree  (s0 : qS) : Option qO :=
  qbind (f_X7_currentPlan  s0) (qvS 11 (fun s1 =>
  l_X7_startsAgree_7  qFU (0 : Int32) s1)) qE0
def b_X7_dependenciesAgree_30 (rk7 : Int32 → qS → Option qO) (rk30 : Int32 → Int32 → Int32 → qS → Option qO) (v2 : Int32) (v3 : Int32) (v4 : Int32) (s0 : qS) : Option qO :=
  (if (s0 1 0 7) ≤ v4 then rk7 (v2 + (1 : Int32)) s0 else
  qbind (f_X7_hasBit v3 v4 s0) (qvI (fun r2 s3 =>
  qbind (f_X5_reaches 0 v2 v4 s3) (qvI (fun r3 s4 =>
  (if r2 = r3 then rk30 v2 v3 (v4 + (1 : Int32)) s4 else
  (some (.inl (some (qI (0 : Int32))), s4))))) qE0)) qE0)
def l_X7_dependenciesAgree_30 (rk7 : Int32 → qS → Option qO) : Nat → Int32 → Int32 → Int32 → qS → Option qO
  | 0, _, _, _, _ => none
  | n + 1, v2, v3, v4, s0 => b_X7_dependenciesAgree_30  rk7 (l_X7_dependenciesAgree_30  rk7 n) v2 v3 v4 s0
def b_X7_dependenciesAgree_7 (rk7 : Int32 → qS → Option qO) (v2 : Int32) (s0 : qS) : Option qO :=
  (if (s0 1 0 7) ≤ v2 then (some (.inl (some (qI (1 : Int32))), s0)) else
  qbind (f_X7_at 13 0 v2 s0) (qvI (fun r1 s2 =>
  l_X7_dependenciesAgree_30  rk7 qFU v2 r1 (0 : Int32) s2)) qE0)
def l_X7_dependenciesAgree_7 : Nat → Int32 → qS → Option qO
  | 0, _, _ => none
  | n + 1, v2, s0 => b_X7_dependenciesAgree_7  (l_X7_dependenciesAgree_7  n) v2 s0
def f_X7_dependenciesAgree  (s0 : qS) : Option qO :=
  qbind (f_X7_currentPlan  s0) (qvS 11 (fun s1 =>
  l_X7_dependenciesAgree_7  qFU (0 : Int32) s1)) qE0
def b_X7_workloadsAgree_7 (rk7 : Int32 → qS → Option qO) (v2 : Int32) (s0 : qS) : Option qO :=
  (if (3 : Int32) ≤ v2 then (some (.inl (some (qI (1 : Int32))), s0)) else
  qbind (f_X5_workOf 0 v2 s0) (qvI (fun r1 s2 =>
  qbind (f_X4_workOnAllDays v2 s2) (qvI (fun r2 s3 =>
  (if r1 = r2 then rk7 (v2 + (1 : Int32)) s3 else
  (some (.inl (some (qI (0 : Int32))), s3))))) qE0)) qE0)
def l_X7_workloadsAgree_7 : Nat → Int32 → qS → Option qO
  | 0, _, _ => none
  | n + 1, v2, s0 => b_X7_workloadsAgree_7  (l_X7_workloadsAgree_7  n) v2 s0
def f_X7_workloadsAgree  (s0 : qS) : Option qO :=
  qbind (f_X7_currentPlan  s0) (qvS 11 (fun s1 =>
  l_X7_workloadsAgree_7  qFU (0 : Int32) s1)) qE0
def f_X7_requireResource (a1 : Int32) (s0 : qS) : Option qO :=
  qbind (f_X7_isWithin a1 (0 : Int32) (2 : Int32) s0) (qvI (fun r1 s1 =>
  (if r1 = 0 then (some (.inr qIAE, s1)) else
  (some (.inl none, s1))))) qE0
def f_X7_requireDay (a1 : Int32) (s0 : qS) : Option qO :=
  (if 0 ≤ a1 then (some (.inl none, s0)) else
  (some (.inr qIAE, s0)))
def f_X7_requireBaselineStart (a1 : Int32) (s0 : qS) : Option qO :=
  qbind (f_X5_hasStart 0 a1 s0) (qvI (fun r1 s1 =>
  (if r1 = 0 then (some (.inr qNSE, s1)) else
  (some (.inl none, s1))))) qE0
def f_X7_requireFailure  (s0 : qS) : Option qO :=
  (if (s0 0 0 11) = (-1 : Int32) then (some (.inr qNSE, s0)) else
  (some (.inl none, s0)))
def f_X7_refuse (a1 : Int32) (s0 : qS) : Option qO :=
  (if a1 = (105 : Int32) then (some (.inr qIOE, s0)) else
  (if a1 = (97 : Int32) then (some (.inr qIAE, s0)) else
  (if a1 = (115 : Int32) then (some (.inr qISE, s0)) else
  (if a1 = (117 : Int32) then (some (.inr qUOE, s0)) else
  (some (.inl none, s0))))))
def f_X7_addTask (a1 : Int32) (a2 : Int32) (a3 : Int32) (a4 : Int32) (s0 : qS) : Option qO :=
  qbind (f_X5_faultOfAdding 0 a1 a2 a3 a4 s0) (qvI (fun r1 s1 =>
  qbind (f_X7_refuse r1 s1) (qvV (fun s2 =>
  qbind (f_X7_beginChange  s2) (qvV (fun s3 =>
  qbind (f_X5_append 0 a1 a2 a3 a4 s3) (qvI (fun r2 s4 =>
  (some (.inl (some (qI r2)), s4)))) qE0)) qE0)) qE1)) qE0
def f_X7_removeTask (a1 : Int32) (s0 : qS) : Option qO :=
  qbind (f_X5_faultOfTask 0 a1 s0) (qvI (fun r1 s1 =>
  qbind (f_X7_refuse r1 s1) (qvV (fun s2 =>
  qbind (f_X7_beginChange  s2) (qvV (fun s3 =>
  qbind (f_X5_drop 0 a1 s3) (qvV (fun s4 =>
  (some (.inl (some (qI (s4 1 0 7))), s4)))) qE0)) qE0)) qE1)) qE0
def f_X7_addDependency (a1 : Int32) (a2 : Int32) (s0 : qS) : Option qO :=
  qbind (f_X5_faultOfLinking 0 a1 a2 s0) (qvI (fun r1 s1 =>
  qbind (f_X7_refuse r1 s1) (qvV (fun s2 =>
  qbind (f_X7_beginChange  s2) (qvV (fun s3 =>
  qbind (f_X5_isLinked 0 a1 a2 s3) (qvI (fun r2 s4 =>
  (if r2 = 0 then qbind (f_X5_link 0 a1 a2 s4) (qvV (fun s5 =>
  (some (.inl (some (qI (1 : Int32))), s5)))) qE0 else
  qbind (f_X5_link 0 a1 a2 s4) (qvV (fun s6 =>
  (some (.inl (some (qI (0 : Int32))), s6)))) qE0))) qE0)) qE0)) qE1)) qE0
def f_X7_removeDependency (a1 : Int32) (a2 : Int32) (s0 : qS) : Option qO :=
  qbind (f_X5_faultOfPair 0 a1 a2 s0) (qvI (fun r1 s1 =>
  qbind (f_X7_refuse r1 s1) (qvV (fun s2 =>
  qbind (f_X7_beginChange  s2) (qvV (fun s3 =>
  qbind (f_X5_isLinked 0 a1 a2 s3) (qvI (fun r2 s4 =>
  qbind (f_X5_unlink 0 a1 a2 s4) (qvV (fun s5 =>
  (if qbo r2 then some (.inl (some (qI r2)), s5) else none))) qE0)) qE0)) qE0)) qE1)) qE0
def f_X7_setDuration (a1 : Int32) (a2 : Int32) (s0 : qS) : Option qO :=
  qbind (f_X5_faultOfDuration 0 a1 a2 s0) (qvI (fun r1 s1 =>
  qbind (f_X7_refuse r1 s1) (qvV (fun s2 =>
  qbind (f_X7_beginChange  s2) (qvV (fun s3 =>
  qbind (f_X7_at 2 0 a1 s3) (qvI (fun r2 s4 =>
  qbind (f_X7_put 2 0 a1 a2 s4) (qvV (fun s5 =>
  (some (.inl (some (qI r2)), s5)))) qE0)) qE0)) qE0)) qE1)) qE0
def f_X7_setRelease (a1 : Int32) (a2 : Int32) (s0 : qS) : Option qO :=
  qbind (f_X5_faultOfRelease 0 a1 a2 s0) (qvI (fun r1 s1 =>
  qbind (f_X7_refuse r1 s1) (qvV (fun s2 =>
  qbind (f_X7_beginChange  s2) (qvV (fun s3 =>
  qbind (f_X7_at 5 0 a1 s3) (qvI (fun r2 s4 =>
  qbind (f_X7_put 5 0 a1 a2 s4) (qvV (fun s5 =>
  (some (.inl (some (qI r2)), s5)))) qE0)) qE0)) qE0)) qE1)) qE0
def f_X7_setLimit (a1 : Int32) (a2 : Int32) (s0 : qS) : Option qO :=
  qbind (f_X5_faultOfLimit 0 a1 a2 s0) (qvI (fun r1 s1 =>
  qbind (f_X7_refuse r1 s1) (qvV (fun s2 =>
  qbind (f_X7_beginChange  s2) (qvV (fun s3 =>
  qbind (f_X7_at 8 0 a1 s3) (qvI (fun r2 s4 =>
  qbind (f_X7_put 8 0 a1 a2 s4) (qvV (fun s5 =>
  (some (.inl (some (qI r2)), s5)))) qE0)) qE0)) qE0)) qE1)) qE0
def f_X7_takeBaseline  (s0 : qS) : Option qO :=
  qbind (f_X7_beginChange  s0) (qvV (fun s1 =>
  qbind (f_X7_currentPlan  s1) (qvS 11 (fun s2 =>
  qbind (f_X5_takeStarts 0 17 0 s2) (qvV (fun s3 =>
  (some (.inl (some (qI (s3 11 0 8))), s3)))) qE0)) qE0)) qE0
def f_X7_limit (a1 : Int32) (s0 : qS) : Option qO :=
  qbind (f_X7_requireResource a1 s0) (qvV (fun s1 =>
  qbind (f_X7_at 8 0 a1 s1) (qvI (fun r1 s2 =>
  (some (.inl (some (qI r1)), s2)))) qE0)) qE1
def f_X7_taskInOrder (a1 : Int32) (s0 : qS) : Option qO :=
  qbind (f_X7_isWithin a1 (0 : Int32) ((s0 1 0 7) - (1 : Int32)) s0) (qvI (fun r1 s1 =>
  (if r1 = 0 then (some (.inr qNSE, s1)) else
  qbind (f_X7_currentPlan  s1) (qvS 11 (fun s2 =>
  qbind (f_X7_at 12 0 a1 s2) (qvI (fun r2 s3 =>
  (some (.inl (some (qI r2)), s3)))) qE0)) qE0))) qE0
def f_X7_projectLength  (s0 : qS) : Option qO :=
  qbind (f_X7_currentPlan  s0) (qvS 11 (fun s1 =>
  (some (.inl (some (qI (s1 11 0 7))), s1)))) qE0
def b_X7_criticalCount_9 (rk9 : Int32 → Int32 → qS → Option qO) (v2 : Int32) (v3 : Int32) (s0 : qS) : Option qO :=
  (if (s0 1 0 7) ≤ v3 then (some (.inl (some (qI v2)), s0)) else
  qbind (f_X4_slackOf v3 s0) (qvI (fun r1 s2 =>
  (if r1 = 0 then rk9 (v2 + (1 : Int32)) (v3 + (1 : Int32)) s2 else
  rk9 v2 (v3 + (1 : Int32)) s2))) qE0)
def l_X7_criticalCount_9 : Nat → Int32 → Int32 → qS → Option qO
  | 0, _, _, _ => none
  | n + 1, v2, v3, s0 => b_X7_criticalCount_9  (l_X7_criticalCount_9  n) v2 v3 s0
def f_X7_criticalCount  (s0 : qS) : Option qO :=
  qbind (f_X7_currentPlan  s0) (qvS 11 (fun s1 =>
  l_X7_criticalCount_9  qFU (0 : Int32) (0 : Int32) s1)) qE0
def b_X7_lastTask_7 (rk7 : Int32 → qS → Option qO) (v2 : Int32) (s0 : qS) : Option qO :=
  (if (s0 1 0 7) ≤ v2 then (some (.inr qNSE, s0)) else
  qbind (f_X7_at 14 0 v2 s0) (qvI (fun r1 s2 =>
  qbind (f_X7_at 2 0 v2 s2) (qvI (fun r2 s3 =>
  (if (r1 + r2) = (s3 11 0 7) then (some (.inl (some (qI v2)), s3)) else
  rk7 (v2 + (1 : Int32)) s3))) qE0)) qE0)
def l_X7_lastTask_7 : Nat → Int32 → qS → Option qO
  | 0, _, _ => none
  | n + 1, v2, s0 => b_X7_lastTask_7  (l_X7_lastTask_7  n) v2 s0
def f_X7_lastTask  (s0 : qS) : Option qO :=
  qbind (f_X7_currentPlan  s0) (qvS 11 (fun s1 =>
  l_X7_lastTask_7  qFU (0 : Int32) s1)) qE0
def f_X7_levelledLength  (s0 : qS) : Option qO :=
  qbind (f_X7_currentPlan  s0) (qvS 11 (fun s1 =>
  (some (.inl (some (qI (s1 11 0 8))), s1)))) qE0
def f_X7_usage (a1 : Int32) (a2 : Int32) (s0 : qS) : Option qO :=
  qbind (f_X7_requireResource a1 s0) (qvV (fun s1 =>
  qbind (f_X7_requireDay a2 s1) (qvV (fun s2 =>
  qbind (f_X7_currentPlan  s2) (qvS 11 (fun s3 =>
  qbind (f_X4_usedOn a1 a2 s3) (qvI (fun r1 s4 =>
  (some (.inl (some (qI r1)), s4)))) qE0)) qE0)) qE1)) qE1
def b_X7_usageByTasks_13 (rk13 : Int32 → Int32 → Int32 → Int32 → qS → Option qO) (v1 : Int32) (v2 : Int32) (v3 : Int32) (v4 : Int32) (s0 : qS) : Option qO :=
  (if (s0 1 0 7) ≤ v4 then (some (.inl (some (qI v3)), s0)) else
  qbind (f_X7_at 3 0 v4 s0) (qvI (fun r1 s3 =>
  (if r1 = v1 then qbind (f_X7_isWorkedOn v4 v2 s3) (qvI (fun r2 s4 =>
  (if r2 = 0 then rk13 v1 v2 v3 (v4 + (1 : Int32)) s4 else
  qbind (f_X7_at 4 0 v4 s4) (qvI (fun r3 s5 =>
  rk13 v1 v2 (v3 + r3) (v4 + (1 : Int32)) s5)) qE0))) qE0 else
  rk13 v1 v2 v3 (v4 + (1 : Int32)) s3))) qE0)
def l_X7_usageByTasks_13 : Nat → Int32 → Int32 → Int32 → Int32 → qS → Option qO
  | 0, _, _, _, _, _ => none
  | n + 1, v1, v2, v3, v4, s0 => b_X7_usageByTasks_13  (l_X7_usageByTasks_13  n) v1 v2 v3 v4 s0
def f_X7_usageByTasks (a1 : Int32) (a2 : Int32) (s0 : qS) : Option qO :=
  qbind (f_X7_requireResource a1 s0) (qvV (fun s1 =>
  qbind (f_X7_requireDay a2 s1) (qvV (fun s2 =>
  l_X7_usageByTasks_13  qFU a1 a2 (0 : Int32) (0 : Int32) s2)) qE1)) qE1
def b_X7_peakUsage_14 (rk14 : Int32 → Int32 → Int32 → qS → Option qO) (v1 : Int32) (v3 : Int32) (v4 : Int32) (s0 : qS) : Option qO :=
  (if (138 : Int32) ≤ v4 then (some (.inl (some (qI v3)), s0)) else
  qbind (f_X4_usedOn v1 v4 s0) (qvI (fun r1 s3 =>
  rk14 v1 (qmax v3 r1) (v4 + (1 : Int32)) s3)) qE0)
def l_X7_peakUsage_14 : Nat → Int32 → Int32 → Int32 → qS → Option qO
  | 0, _, _, _, _ => none
  | n + 1, v1, v3, v4, s0 => b_X7_peakUsage_14  (l_X7_peakUsage_14  n) v1 v3 v4 s0
def f_X7_peakUsage (a1 : Int32) (s0 : qS) : Option qO :=
  qbind (f_X7_requireResource a1 s0) (qvV (fun s1 =>
  qbind (f_X7_currentPlan  s1) (qvS 11 (fun s2 =>
  l_X7_peakUsage_14  qFU a1 (0 : Int32) (0 : Int32) s2)) qE0)) qE1
def b_X7_tasksOn_8 (rk8 : Int32 → Int32 → Int32 → qS → Option qO) (v1 : Int32) (v2 : Int32) (v3 : Int32) (s0 : qS) : Option qO :=
  (if (s0 1 0 7) ≤ v3 then (some (.inl (some (qI v2)), s0)) else
  qbind (f_X7_isWorkedOn v3 v1 s0) (qvI (fun r1 s2 =>
  (if r1 = 0 then rk8 v1 v2 (v3 + (1 : Int32)) s2 else
  rk8 v1 (v2 + (1 : Int32)) (v3 + (1 : Int32)) s2))) qE0)
def l_X7_tasksOn_8 : Nat → Int32 → Int32 → Int32 → qS → Option qO
  | 0, _, _, _, _ => none
  | n + 1, v1, v2, v3, s0 => b_X7_tasksOn_8  (l_X7_tasksOn_8  n) v1 v2 v3 s0
def f_X7_tasksOn (a1 : Int32) (s0 : qS) : Option qO :=
  qbind (f_X7_requireDay a1 s0) (qvV (fun s1 =>
  l_X7_tasksOn_8  qFU a1 (0 : Int32) (0 : Int32) s1)) qE1
def f_X7_workload (a1 : Int32) (s0 : qS) : Option qO :=
  qbind (f_X7_requireResource a1 s0) (qvV (fun s1 =>
  qbind (f_X5_workOf 0 a1 s1) (qvI (fun r1 s2 =>
  (some (.inl (some (qI r1)), s2)))) qE0)) qE1
def f_X7_workloadByDays (a1 : Int32) (s0 : qS) : Option qO :=
  qbind (f_X7_requireResource a1 s0) (qvV (fun s1 =>
  qbind (f_X7_currentPlan  s1) (qvS 11 (fun s2 =>
  qbind (f_X4_workOnAllDays a1 s2) (qvI (fun r1 s3 =>
  (some (.inl (some (qI r1)), s3)))) qE0)) qE0)) qE1
def b_X7_totalDrift_24 (rk24 : Int32 → Int32 → qS → Option qO) (v1 : Int32) (v2 : Int32) (s0 : qS) : Option qO :=
  (if (s0 1 0 7) ≤ v2 then (some (.inl (some (qI v1)), s0)) else
  qbind (f_X5_hasStart 0 v2 s0) (qvI (fun r1 s1 =>
  (if r1 = 0 then rk24 v1 (v2 + (1 : Int32)) s1 else
  qbind (f_X7_driftOf v2 s1) (qvI (fun r2 s2 =>
  rk24 (v1 + (qabs r2)) (v2 + (1 : Int32)) s2)) qE0))) qE0)
def l_X7_totalDrift_24 : Nat → Int32 → Int32 → qS → Option qO
  | 0, _, _, _ => none
  | n + 1, v1, v2, s0 => b_X7_totalDrift_24  (l_X7_totalDrift_24  n) v1 v2 s0
def f_X7_totalDrift  (s0 : qS) : Option qO :=
  (if (s0 1 0 8) = 0 then (some (.inr qNSE, s0)) else
  l_X7_totalDrift_24  qFU (0 : Int32) (0 : Int32) s0)
def b_X7_meanSlack_32 (rk32 : Int32 → Int32 → Int32 → qS → Option qO) (v1 : Int32) (v3 : Int32) (v4 : Int32) (s0 : qS) : Option qO :=
  (if v1 ≤ v4 then (if qn64 (FP.ddiv (FP.i2d v3) (FP.i2d v1)) then (some (.inl (some (.inl (.double (FP.ddiv (FP.i2d v3) (FP.i2d v1))))), s0)) else none) else
  qbind (f_X4_slackOf v4 s0) (qvI (fun r1 s2 =>
  rk32 v1 (v3 + r1) (v4 + (1 : Int32)) s2)) qE0)
def l_X7_meanSlack_32 : Nat → Int32 → Int32 → Int32 → qS → Option qO
  | 0, _, _, _, _ => none
  | n + 1, v1, v3, v4, s0 => b_X7_meanSlack_32  (l_X7_meanSlack_32  n) v1 v3 v4 s0
def f_X7_meanSlack  (s0 : qS) : Option qO :=
  (if (s0 1 0 7) = 0 then (some (.inr qARE, s0)) else
  qbind (f_X7_currentPlan  s0) (qvS 11 (fun s1 =>
  l_X7_meanSlack_32  qFU (s0 1 0 7) (0 : Int32) (0 : Int32) s1)) qE0)
def f_X7_utilization (a1 : Int32) (s0 : qS) : Option qO :=
  qbind (f_X7_requireResource a1 s0) (qvV (fun s1 =>
  qbind (f_X7_at 8 0 a1 s1) (qvI (fun r1 s2 =>
  qbind (f_X7_currentPlan  s2) (qvS 11 (fun s3 =>
  (if (r1 * (s3 11 0 8)) = 0 then (some (.inr qARE, s3)) else
  qbind (f_X5_workOf 0 a1 s3) (qvI (fun r2 s4 =>
  (if qn32 (FP.fdiv (FP.i2f r2) (FP.i2f (r1 * (s3 11 0 8)))) then (some (.inl (some (.inl (.float (FP.fdiv (FP.i2f r2) (FP.i2f (r1 * (s3 11 0 8))))))), s4)) else none))) qE0))) qE0)) qE0)) qE1
def f_X7_isConsistent  (s0 : qS) : Option qO :=
  qbind (f_X7_startsAgree  s0) (qvI (fun r1 s1 =>
  (if r1 = 0 then (some (.inl (some (qI (0 : Int32))), s1)) else
  qbind (f_X7_dependenciesAgree  s1) (qvI (fun r2 s2 =>
  (if r2 = 0 then (some (.inl (some (qI (0 : Int32))), s2)) else
  qbind (f_X7_workloadsAgree  s2) (qvI (fun r3 s3 =>
  (if r3 = 0 then (some (.inl (some (qI (0 : Int32))), s3)) else
  (some (.inl (some (qI (1 : Int32))), s3))))) qE0))) qE0))) qE0
def b_X7_renderUsage_18 (rk18 : Int32 → Int32 → qS → Option qO) (v1 : Int32) (v3 : Int32) (s0 : qS) : Option qO :=
  (if (s0 11 0 8) ≤ v3 then (some (.inl (some (qI (s0 23 0 1))), s0)) else
  (if v3 ≤ 0 then qbind (f_X4_usedOn v1 v3 s0) (qvI (fun r1 s4 =>
  qbind (f_X3_writeNumber r1 s4) (qvV (fun s5 =>
  rk18 v1 (v3 + (1 : Int32)) s5)) qE0)) qE0 else
  qbind (f_X3_write (44 : Int32) s0) (qvV (fun s6 =>
  qbind (f_X4_usedOn v1 v3 s6) (qvI (fun r2 s7 =>
  qbind (f_X3_writeNumber r2 s7) (qvV (fun s8 =>
  rk18 v1 (v3 + (1 : Int32)) s8)) qE0)) qE0)) qE0))
def l_X7_renderUsage_18 : Nat → Int32 → Int32 → qS → Option qO
  | 0, _, _, _ => none
  | n + 1, v1, v3, s0 => b_X7_renderUsage_18  (l_X7_renderUsage_18  n) v1 v3 s0
def f_X7_renderUsage (a1 : Int32) (s0 : qS) : Option qO :=
  qbind (f_X7_requireResource a1 s0) (qvV (fun s1 =>
  qbind (f_X7_currentPlan  s1) (qvS 11 (fun s2 =>
  qbind (f_X3_clear  s2) (qvV (fun s3 =>
  l_X7_renderUsage_18  qFU a1 (0 : Int32) s3)) qE0)) qE0)) qE1
def f_X7_failedCommand  (s0 : qS) : Option qO :=
  qbind (f_X7_requireFailure  s0) (qvV (fun s1 =>
  (some (.inl (some (qI (s1 0 0 11))), s1)))) qE1
def f_X7_failureReason  (s0 : qS) : Option qO :=
  qbind (f_X7_requireFailure  s0) (qvV (fun s1 =>
  (if qch (s1 0 0 12) then some (.inl (some (qI (s1 0 0 12))), s1) else none))) qE1
def f_X7_runCommand (a1 : Int32) (s0 : qS) : Option qO :=
  qbind (f_X6_commandAt a1 s0) (qvN 40 8 (fun s1 =>
  (some (.inl (some (qI (46 : Int32))), s1))) (fun jr1 s1 =>
  qbind (f_X6_numberAt a1 (0 : Int32) s1) (qvI (fun r1 s2 =>
  qbind (f_X6_numberAt a1 (1 : Int32) s2) (qvI (fun r2 s3 =>
  (if qin (nI jr1) 8 then (qsw (qkm ((nI jr1)).toNatClampNeg) 1 [qbind (f_X6_numberAt a1 (2 : Int32) s3) (qvI (fun r3 s4 =>
  qbind (f_X6_numberAt a1 (3 : Int32) s4) (qvI (fun r4 s5 =>
  qbind (f_X7_runAdding r1 r2 r3 r4 s5) (qvI (fun r5 s6 =>
  (if qch r5 then some (.inl (some (qI r5)), s6) else none))) qE0)) qE0)) qE0,
  qbind (f_X5_faultOfTask 1 r1 s3) (qvI (fun r6 s7 =>
  (if r6 = (46 : Int32) then qbind (f_X5_drop 1 r1 s7) (qvV (fun s8 =>
  (if qch r6 then some (.inl (some (qI r6)), s8) else none))) qE0 else
  (if qch r6 then some (.inl (some (qI r6)), s7) else none)))) qE0,
  qbind (f_X5_faultOfLinking 1 r1 r2 s3) (qvI (fun r7 s9 =>
  (if r7 = (46 : Int32) then qbind (f_X5_link 1 r1 r2 s9) (qvV (fun s10 =>
  (if qch r7 then some (.inl (some (qI r7)), s10) else none))) qE0 else
  (if qch r7 then some (.inl (some (qI r7)), s9) else none)))) qE0,
  qbind (f_X5_faultOfPair 1 r1 r2 s3) (qvI (fun r8 s11 =>
  (if r8 = (46 : Int32) then qbind (f_X5_unlink 1 r1 r2 s11) (qvV (fun s12 =>
  (if qch r8 then some (.inl (some (qI r8)), s12) else none))) qE0 else
  (if qch r8 then some (.inl (some (qI r8)), s11) else none)))) qE0,
  qbind (f_X5_faultOfLimit 1 r1 r2 s3) (qvI (fun r9 s13 =>
  qbind (f_X7_runSetting r9 8 1 r1 r2 s13) (qvI (fun r10 s14 =>
  (if qch r10 then some (.inl (some (qI r10)), s14) else none))) qE0)) qE0,
  qbind (f_X5_faultOfDuration 1 r1 r2 s3) (qvI (fun r11 s15 =>
  qbind (f_X7_runSetting r11 2 1 r1 r2 s15) (qvI (fun r12 s16 =>
  (if qch r12 then some (.inl (some (qI r12)), s16) else none))) qE0)) qE0,
  qbind (f_X5_faultOfRelease 1 r1 r2 s3) (qvI (fun r13 s17 =>
  qbind (f_X7_runSetting r13 5 1 r1 r2 s17) (qvI (fun r14 s18 =>
  (if qch r14 then some (.inl (some (qI r14)), s18) else none))) qE0)) qE0] (qbind (f_X7_markTrial  s3) (qvV (fun s19 =>
  (some (.inl (some (qI (46 : Int32))), s19)))) qE0)) else none))) qE0)) qE0)) qE0
def b_X7_taskAtRank_2 (rk2 : Int32 → Int32 → qS → Option qO) (v1 : Int32) (v2 : Int32) (s0 : qS) : Option qO :=
  (if (s0 1 0 7) ≤ v2 then (some (.inr qNSE, s0)) else
  qbind (f_X7_countBefore v2 s0) (qvI (fun r1 s1 =>
  (if r1 = v1 then (some (.inl (some (qI v2)), s1)) else
  rk2 v1 (v2 + (1 : Int32)) s1))) qE0)
def l_X7_taskAtRank_2 : Nat → Int32 → Int32 → qS → Option qO
  | 0, _, _, _ => none
  | n + 1, v1, v2, s0 => b_X7_taskAtRank_2  (l_X7_taskAtRank_2  n) v1 v2 s0
def f_X7_taskAtRank (a1 : Int32) (s0 : qS) : Option qO :=
  l_X7_taskAtRank_2  qFU a1 (0 : Int32) s0
def f_X7_requireTask (a1 : Int32) (s0 : qS) : Option qO :=
  qbind (f_X5_faultOfTask 0 a1 s0) (qvI (fun r1 s1 =>
  qbind (f_X7_refuse r1 s1) (qvV (fun s2 =>
  (some (.inl none, s2)))) qE1)) qE0
def f_X7_duration (a1 : Int32) (s0 : qS) : Option qO :=
  qbind (f_X7_requireTask a1 s0) (qvV (fun s1 =>
  qbind (f_X7_at 2 0 a1 s1) (qvI (fun r1 s2 =>
  (some (.inl (some (qI r1)), s2)))) qE0)) qE1
def f_X7_resource (a1 : Int32) (s0 : qS) : Option qO :=
  qbind (f_X7_requireTask a1 s0) (qvV (fun s1 =>
  qbind (f_X7_at 3 0 a1 s1) (qvI (fun r1 s2 =>
  (some (.inl (some (qI r1)), s2)))) qE0)) qE1
def f_X7_demand (a1 : Int32) (s0 : qS) : Option qO :=
  qbind (f_X7_requireTask a1 s0) (qvV (fun s1 =>
  qbind (f_X7_at 4 0 a1 s1) (qvI (fun r1 s2 =>
  (some (.inl (some (qI r1)), s2)))) qE0)) qE1
def f_X7_release (a1 : Int32) (s0 : qS) : Option qO :=
  qbind (f_X7_requireTask a1 s0) (qvV (fun s1 =>
  qbind (f_X7_at 5 0 a1 s1) (qvI (fun r1 s2 =>
  (some (.inl (some (qI r1)), s2)))) qE0)) qE1
def f_X7_dependsDirectly (a1 : Int32) (a2 : Int32) (s0 : qS) : Option qO :=
  qbind (f_X7_requireTask a1 s0) (qvV (fun s1 =>
  qbind (f_X7_requireTask a2 s1) (qvV (fun s2 =>
  qbind (f_X5_isLinked 0 a1 a2 s2) (qvI (fun r1 s3 =>
  (if qbo r1 then some (.inl (some (qI r1)), s3) else none))) qE0)) qE1)) qE1
def f_X7_depends (a1 : Int32) (a2 : Int32) (s0 : qS) : Option qO :=
  qbind (f_X7_requireTask a1 s0) (qvV (fun s1 =>
  qbind (f_X7_requireTask a2 s1) (qvV (fun s2 =>
  qbind (f_X5_reaches 0 a1 a2 s2) (qvI (fun r1 s3 =>
  (if qbo r1 then some (.inl (some (qI r1)), s3) else none))) qE0)) qE1)) qE1
def f_X7_dependsByClosure (a1 : Int32) (a2 : Int32) (s0 : qS) : Option qO :=
  qbind (f_X7_requireTask a1 s0) (qvV (fun s1 =>
  qbind (f_X7_requireTask a2 s1) (qvV (fun s2 =>
  qbind (f_X7_currentPlan  s2) (qvS 11 (fun s3 =>
  qbind (f_X7_at 13 0 a1 s3) (qvI (fun r1 s4 =>
  qbind (f_X7_hasBit r1 a2 s4) (qvI (fun r2 s5 =>
  (if qbo r2 then some (.inl (some (qI r2)), s5) else none))) qE0)) qE0)) qE0)) qE1)) qE1
def f_X7_neededCount (a1 : Int32) (s0 : qS) : Option qO :=
  qbind (f_X7_requireTask a1 s0) (qvV (fun s1 =>
  qbind (f_X7_at 6 0 a1 s1) (qvI (fun r1 s2 =>
  qbind (f_J6_bitCount_0f7a4 r1 s2) (qvI (fun r2 s3 =>
  (some (.inl (some (qI r2)), s3)))) qE0)) qE0)) qE1
def b_X7_dependentCount_9 (rk9 : Int32 → Int32 → Int32 → qS → Option qO) (v1 : Int32) (v2 : Int32) (v3 : Int32) (s0 : qS) : Option qO :=
  (if (s0 1 0 7) ≤ v3 then (some (.inl (some (qI v2)), s0)) else
  qbind (f_X5_isLinked 0 v3 v1 s0) (qvI (fun r1 s2 =>
  (if r1 = 0 then rk9 v1 v2 (v3 + (1 : Int32)) s2 else
  rk9 v1 (v2 + (1 : Int32)) (v3 + (1 : Int32)) s2))) qE0)
def l_X7_dependentCount_9 : Nat → Int32 → Int32 → Int32 → qS → Option qO
  | 0, _, _, _, _ => none
  | n + 1, v1, v2, v3, s0 => b_X7_dependentCount_9  (l_X7_dependentCount_9  n) v1 v2 v3 s0
def f_X7_dependentCount (a1 : Int32) (s0 : qS) : Option qO :=
  qbind (f_X7_requireTask a1 s0) (qvV (fun s1 =>
  l_X7_dependentCount_9  qFU a1 (0 : Int32) (0 : Int32) s1)) qE1
def f_X7_earliestStart (a1 : Int32) (s0 : qS) : Option qO :=
  qbind (f_X7_requireTask a1 s0) (qvV (fun s1 =>
  qbind (f_X7_currentPlan  s1) (qvS 11 (fun s2 =>
  qbind (f_X7_at 14 0 a1 s2) (qvI (fun r1 s3 =>
  (some (.inl (some (qI r1)), s3)))) qE0)) qE0)) qE1
def f_X7_earliestStartByRounds (a1 : Int32) (s0 : qS) : Option qO :=
  qbind (f_X7_requireTask a1 s0) (qvV (fun s1 =>
  qbind (f_X7_currentPlan  s1) (qvS 11 (fun s2 =>
  qbind (f_X7_at 15 0 a1 s2) (qvI (fun r1 s3 =>
  (some (.inl (some (qI r1)), s3)))) qE0)) qE0)) qE1
def f_X7_latestStart (a1 : Int32) (s0 : qS) : Option qO :=
  qbind (f_X7_requireTask a1 s0) (qvV (fun s1 =>
  qbind (f_X7_currentPlan  s1) (qvS 11 (fun s2 =>
  qbind (f_X7_at 16 0 a1 s2) (qvI (fun r1 s3 =>
  (some (.inl (some (qI r1)), s3)))) qE0)) qE0)) qE1
def f_X7_slack (a1 : Int32) (s0 : qS) : Option qO :=
  qbind (f_X7_requireTask a1 s0) (qvV (fun s1 =>
  qbind (f_X7_currentPlan  s1) (qvS 11 (fun s2 =>
  qbind (f_X4_slackOf a1 s2) (qvI (fun r1 s3 =>
  (some (.inl (some (qI r1)), s3)))) qE0)) qE0)) qE1
def f_X7_isCritical (a1 : Int32) (s0 : qS) : Option qO :=
  qbind (f_X7_requireTask a1 s0) (qvV (fun s1 =>
  qbind (f_X7_currentPlan  s1) (qvS 11 (fun s2 =>
  qbind (f_X4_slackOf a1 s2) (qvI (fun r1 s3 =>
  (if r1 = 0 then (some (.inl (some (qI (1 : Int32))), s3)) else
  (some (.inl (some (qI (0 : Int32))), s3))))) qE0)) qE0)) qE1
def f_X7_levelledStart (a1 : Int32) (s0 : qS) : Option qO :=
  qbind (f_X7_requireTask a1 s0) (qvV (fun s1 =>
  qbind (f_X7_currentPlan  s1) (qvS 11 (fun s2 =>
  qbind (f_X7_at 17 0 a1 s2) (qvI (fun r1 s3 =>
  (some (.inl (some (qI r1)), s3)))) qE0)) qE0)) qE1
def f_X7_baselineStart (a1 : Int32) (s0 : qS) : Option qO :=
  qbind (f_X7_requireTask a1 s0) (qvV (fun s1 =>
  qbind (f_X7_requireBaselineStart a1 s1) (qvV (fun s2 =>
  qbind (f_X7_at 7 0 a1 s2) (qvI (fun r1 s3 =>
  (some (.inl (some (qI r1)), s3)))) qE0)) qE1)) qE1
def f_X7_drift (a1 : Int32) (s0 : qS) : Option qO :=
  qbind (f_X7_requireTask a1 s0) (qvV (fun s1 =>
  qbind (f_X7_requireBaselineStart a1 s1) (qvV (fun s2 =>
  qbind (f_X7_driftOf a1 s2) (qvI (fun r1 s3 =>
  (some (.inl (some (qI r1)), s3)))) qE0)) qE1)) qE1
def b_X7_taskBySlack_7 (rk7 : Int32 → Int32 → qS → Option qO) (v1 : Int32) (v3 : Int32) (s0 : qS) : Option qO :=
  (if (s0 1 0 7) ≤ v3 then qbind (f_X7_taskAtRank v1 s0) (qvI (fun r1 s2 =>
  (some (.inl (some (qI r1)), s2)))) qE1 else
  qbind (f_X4_slackOf v3 s0) (qvI (fun r2 s3 =>
  qbind (f_X7_at 2 0 v3 s3) (qvI (fun r3 s4 =>
  qbind (f_X7_sortingKey r2 r3 s4) (qvI (fun r4 s5 =>
  qbind (f_X7_put 25 0 v3 r4 s5) (qvV (fun s6 =>
  rk7 v1 (v3 + (1 : Int32)) s6)) qE0)) qE0)) qE0)) qE0)
def l_X7_taskBySlack_7 : Nat → Int32 → Int32 → qS → Option qO
  | 0, _, _, _ => none
  | n + 1, v1, v3, s0 => b_X7_taskBySlack_7  (l_X7_taskBySlack_7  n) v1 v3 s0
def f_X7_taskBySlack (a1 : Int32) (s0 : qS) : Option qO :=
  qbind (f_X7_currentPlan  s0) (qvS 11 (fun s1 =>
  l_X7_taskBySlack_7  qFU a1 (0 : Int32) s1)) qE0
def b_X7_taskByStart_7 (rk7 : Int32 → Int32 → qS → Option qO) (v1 : Int32) (v3 : Int32) (s0 : qS) : Option qO :=
  (if (s0 1 0 7) ≤ v3 then qbind (f_X7_taskAtRank v1 s0) (qvI (fun r1 s2 =>
  (some (.inl (some (qI r1)), s2)))) qE1 else
  qbind (f_X7_at 17 0 v3 s0) (qvI (fun r2 s3 =>
  qbind (f_X7_at 4 0 v3 s3) (qvI (fun r3 s4 =>
  qbind (f_X7_sortingKey r2 r3 s4) (qvI (fun r4 s5 =>
  qbind (f_X7_put 25 0 v3 r4 s5) (qvV (fun s6 =>
  rk7 v1 (v3 + (1 : Int32)) s6)) qE0)) qE0)) qE0)) qE0)
def l_X7_taskByStart_7 : Nat → Int32 → Int32 → qS → Option qO
  | 0, _, _, _ => none
  | n + 1, v1, v3, s0 => b_X7_taskByStart_7  (l_X7_taskByStart_7  n) v1 v3 s0
def f_X7_taskByStart (a1 : Int32) (s0 : qS) : Option qO :=
  qbind (f_X7_currentPlan  s0) (qvS 11 (fun s1 =>
  l_X7_taskByStart_7  qFU a1 (0 : Int32) s1)) qE0
def b_X7_renderTask_149 (rk149 : Int32 → Int32 → qS → Option qO) (v1 : Int32) (v3 : Int32) (s0 : qS) : Option qO :=
  (if (s0 1 0 7) ≤ v3 then (some (.inl (some (qI (s0 23 0 1))), s0)) else
  qbind (f_X5_isLinked 0 v1 v3 s0) (qvI (fun r6 s19 =>
  (if r6 = 0 then rk149 v1 (v3 + (1 : Int32)) s19 else
  qbind (f_X3_write (60 : Int32) s19) (qvV (fun s20 =>
  qbind (f_X3_writeNumber v3 s20) (qvV (fun s21 =>
  rk149 v1 (v3 + (1 : Int32)) s21)) qE0)) qE0))) qE0)
def l_X7_renderTask_149 : Nat → Int32 → Int32 → qS → Option qO
  | 0, _, _, _ => none
  | n + 1, v1, v3, s0 => b_X7_renderTask_149  (l_X7_renderTask_149  n) v1 v3 s0
def f_X7_renderTask (a1 : Int32) (s0 : qS) : Option qO :=
  qbind (f_X7_requireTask a1 s0) (qvV (fun s1 =>
  qbind (f_X7_currentPlan  s1) (qvS 11 (fun s2 =>
  qbind (f_X3_clear  s2) (qvV (fun s3 =>
  qbind (f_X3_writeNumber a1 s3) (qvV (fun s4 =>
  qbind (f_X3_write (58 : Int32) s4) (qvV (fun s5 =>
  qbind (f_X7_at 2 0 a1 s5) (qvI (fun r1 s6 =>
  qbind (f_X3_writeNumber r1 s6) (qvV (fun s7 =>
  qbind (f_X3_write (120 : Int32) s7) (qvV (fun s8 =>
  qbind (f_X7_at 4 0 a1 s8) (qvI (fun r2 s9 =>
  qbind (f_X3_writeNumber r2 s9) (qvV (fun s10 =>
  qbind (f_X3_write (114 : Int32) s10) (qvV (fun s11 =>
  qbind (f_X7_at 3 0 a1 s11) (qvI (fun r3 s12 =>
  qbind (f_X3_writeNumber r3 s12) (qvV (fun s13 =>
  qbind (f_X3_write (64 : Int32) s13) (qvV (fun s14 =>
  qbind (f_X7_at 17 0 a1 s14) (qvI (fun r4 s15 =>
  qbind (f_X3_writeNumber r4 s15) (qvV (fun s16 =>
  qbind (f_X4_slackOf a1 s16) (qvI (fun r5 s17 =>
  (if r5 = 0 then qbind (f_X3_write (33 : Int32) s17) (qvV (fun s18 =>
  l_X7_renderTask_149  qFU a1 (0 : Int32) s18)) qE0 else
  l_X7_renderTask_149  qFU a1 (0 : Int32) s17))) qE0)) qE0)) qE0)) qE0)) qE0)) qE0)) qE0)) qE0)) qE0)) qE0)) qE0)) qE0)) qE0)) qE0)) qE0)) qE0)) qE1
def b_X7_runScript_54 (rk54 : Int32 → qS → Option qO) (v2 : Int32) (s0 : qS) : Option qO :=
  (if (s0 19 0 4) ≤ v2 then qbind (f_X7_beginChange  s0) (qvV (fun s5 =>
  qbind (f_X5_copyFrom 0 1 s5) (qvV (fun s6 =>
  (some (.inl (some (qI (s6 19 0 4))), s6)))) qE0)) qE0 else
  qbind (f_X7_runCommand v2 s0) (qvI (fun r2 s7 =>
  (if r2 = (46 : Int32) then rk54 (v2 + (1 : Int32)) s7 else
  qlet (qu s7 0 0 11 v2) (fun s8 =>
  (if qch r2 then qlet (qu s8 0 0 12 r2) (fun s9 =>
  (some (.inr qISE, s9))) else none))))) qE0)
def l_X7_runScript_54 : Nat → Int32 → qS → Option qO
  | 0, _, _ => none
  | n + 1, v2, s0 => b_X7_runScript_54  (l_X7_runScript_54  n) v2 s0
def f_X7_runScript  (s0 : qS) : Option qO :=
  qbind (f_X6_read  s0) (qvI (fun r1 s1 =>
  qbind (f_X6_clear  s1) (qvV (fun s2 =>
  (if r1 = 0 then qlet (qu s2 0 0 10 (s2 19 0 5)) (fun s3 =>
  (some (.inr qIAE, s3))) else
  qbind (f_X5_copyFrom 1 0 s2) (qvV (fun s4 =>
  l_X7_runScript_54  qFU (0 : Int32) s4)) qE0))) qE0)) qE0
def f_X8_thrown  (s0 : qS) : Option qO :=
  (some (.inl (some (qI (s0 26 0 17))), s0))
def f_X8_isIn (a1 : Int32) (a2 : Int32) (a3 : Int32) (s0 : qS) : Option qO :=
  (if a1 < a2 then (some (.inl (some (qI (0 : Int32))), s0)) else
  (if a3 < a1 then (some (.inl (some (qI (0 : Int32))), s0)) else
  (some (.inl (some (qI (1 : Int32))), s0))))
def b_X8_copies_3 (k1 : Nat) (j1 : Nat) (k3 : Nat) (j3 : Nat) (rk3 : Int32 → Int32 → Int32 → qS → Option qO) (v1 : Int32) (v3 : Int32) (v4 : Int32) (s0 : qS) : Option qO :=
  (if (77 : Int32) ≤ v4 then (some (.inl none, s0)) else
  (if qin (v1 + v4) (qlen k1) then (if qin (v3 + v4) (qlen k3) then qlet (qu s0 k3 j3 ((v3 + v4)).toNatClampNeg (s0 k1 j1 ((v1 + v4)).toNatClampNeg)) (fun s1 =>
  rk3 v1 v3 (v4 + (1 : Int32)) s1) else none) else none))
def l_X8_copies_3 (k1 : Nat) (j1 : Nat) (k3 : Nat) (j3 : Nat) : Nat → Int32 → Int32 → Int32 → qS → Option qO
  | 0, _, _, _, _ => none
  | n + 1, v1, v3, v4, s0 => b_X8_copies_3 k1 j1 k3 j3 (l_X8_copies_3 k1 j1 k3 j3 n) v1 v3 v4 s0
def f_X8_copies (k1 j1 : Nat) (a2 : Int32) (k3 j3 : Nat) (a4 : Int32) (s0 : qS) : Option qO :=
  l_X8_copies_3 k1 j1 k3 j3 qFU a2 a4 (0 : Int32) s0
def f_X8_holds (a1 : Int32) (a2 : Int32) (a3 : Int32) (s0 : qS) : Option qO :=
  (if a1 = 0 then qlet (qu s0 26 0 17 (1 : Int32)) (fun s1 =>
  (if (s1 26 0 17) = 0 then (some (.inl (some (qI (1 : Int32))), s1)) else
  (some (.inl (some (qI (0 : Int32))), s1)))) else
  (if a2 = 0 then qlet (qu s0 26 0 17 (2 : Int32)) (fun s2 =>
  (if (s2 26 0 17) = 0 then (some (.inl (some (qI (1 : Int32))), s2)) else
  (some (.inl (some (qI (0 : Int32))), s2)))) else
  (if a3 = 0 then qlet (qu s0 26 0 17 (3 : Int32)) (fun s3 =>
  (if (s3 26 0 17) = 0 then (some (.inl (some (qI (1 : Int32))), s3)) else
  (some (.inl (some (qI (0 : Int32))), s3)))) else
  qlet (qu s0 26 0 17 (0 : Int32)) (fun s4 =>
  (if (s4 26 0 17) = 0 then (some (.inl (some (qI (1 : Int32))), s4)) else
  (some (.inl (some (qI (0 : Int32))), s4)))))))
def f_X8_goes (a1 : Int32) (s0 : qS) : Option qO :=
  qbind (f_X8_holds a1 (1 : Int32) (1 : Int32) s0) (qvI (fun r1 s1 =>
  (if qbo r1 then some (.inl (some (qI r1)), s1) else none))) qE0
def f_X8_begins  (s0 : qS) : Option qO :=
  qbind (f_X8_copies 27 0 (0 : Int32) 28 0 (0 : Int32) s0) (qvV (fun s1 =>
  (some (.inl none, s1)))) qE0
def j_X8_remembers_49 (s0 : qS) : Option qO :=
  qbind (f_X8_copies 28 0 (0 : Int32) 30 0 ((s0 26 0 5) * (77 : Int32)) s0) (qvV (fun s2 =>
  qlet (qu s2 26 0 5 ((s2 26 0 5) + (1 : Int32))) (fun s3 =>
  (some (.inl none, s3))))) qE0
def b_X8_remembers_11 (rk11 : Int32 → qS → Option qO) (v1 : Int32) (s0 : qS) : Option qO :=
  (if (539 : Int32) ≤ v1 then qlet (qu s0 26 0 5 ((s0 26 0 5) - (1 : Int32))) (fun s1 =>
  j_X8_remembers_49   s1) else
  (if qin (v1 + (77 : Int32)) 616 then (if qin v1 616 then qlet (qu s0 30 0 (v1).toNatClampNeg (s0 30 0 ((v1 + (77 : Int32))).toNatClampNeg)) (fun s4 =>
  rk11 (v1 + (1 : Int32)) s4) else none) else none))
def l_X8_remembers_11 : Nat → Int32 → qS → Option qO
  | 0, _, _ => none
  | n + 1, v1, s0 => b_X8_remembers_11  (l_X8_remembers_11  n) v1 s0
def f_X8_remembers  (s0 : qS) : Option qO :=
  (if (s0 26 0 5) = (8 : Int32) then l_X8_remembers_11  qFU (0 : Int32) s0 else
  j_X8_remembers_49   s0)
def f_X8_ends (a1 : Int32) (s0 : qS) : Option qO :=
  (if (s0 26 0 17) = 0 then qbind (f_X8_remembers  s0) (qvV (fun s1 =>
  (some (.inl (some (qI a1)), s1)))) qE0 else
  qbind (f_X8_copies 28 0 (0 : Int32) 27 0 (0 : Int32) s0) (qvV (fun s2 =>
  (some (.inl (some (qI (0 : Int32))), s2)))) qE0)
def j_X8_undo_13 (w1 : Int32) (s0 : qS) : Option qO :=
  qbind (f_X8_goes w1 s0) (qvI (fun r1 s1 =>
  (if r1 = 0 then (some (.inl (some (qI (0 : Int32))), s1)) else
  qlet (qu s1 26 0 5 ((s1 26 0 5) - (1 : Int32))) (fun s2 =>
  qbind (f_X8_copies 30 0 ((s2 26 0 5) * (77 : Int32)) 27 0 (0 : Int32) s2) (qvV (fun s3 =>
  (some (.inl (some (qI (s3 26 0 5))), s3)))) qE0)))) qE0
def f_X8_undo  (s0 : qS) : Option qO :=
  (if (s0 26 0 5) ≤ 0 then j_X8_undo_13  (0 : Int32) s0 else
  j_X8_undo_13  (1 : Int32) s0)
def f_X8_save  (s0 : qS) : Option qO :=
  qlet (qu s0 26 0 17 (0 : Int32)) (fun s1 =>
  qbind (f_X8_copies 27 0 (0 : Int32) 29 0 (0 : Int32) s1) (qvV (fun s2 =>
  qlet (qu s2 26 0 4 (1 : Int32)) (fun s3 =>
  (some (.inl (some (qI (s3 27 0 0))), s3))))) qE0)
def f_X8_restore  (s0 : qS) : Option qO :=
  qbind (f_X8_goes (s0 26 0 4) s0) (qvI (fun r1 s1 =>
  (if r1 = 0 then (some (.inl (some (qI (0 : Int32))), s1)) else
  qbind (f_X8_copies 29 0 (0 : Int32) 27 0 (0 : Int32) s1) (qvV (fun s2 =>
  qlet (qu s2 26 0 5 (0 : Int32)) (fun s3 =>
  (some (.inl (some (qI (s3 27 0 0))), s3))))) qE0))) qE0
def f_X8_isTask (a1 : Int32) (s0 : qS) : Option qO :=
  qbind (f_X8_isIn a1 (0 : Int32) ((s0 27 0 0) - (1 : Int32)) s0) (qvI (fun r1 s1 =>
  (if qbo r1 then some (.inl (some (qI r1)), s1) else none))) qE0
def f_X8_isResource (a1 : Int32) (s0 : qS) : Option qO :=
  qbind (f_X8_isIn a1 (0 : Int32) (2 : Int32) s0) (qvI (fun r1 s1 =>
  (if qbo r1 then some (.inl (some (qI r1)), s1) else none))) qE0
def f_X8_taskAt (a1 : Int32) (s0 : qS) : Option qO :=
  (some (.inl (some (qI ((5 : Int32) + ((6 : Int32) * a1)))), s0))
def f_X8_of (a1 : Int32) (a2 : Int32) (s0 : qS) : Option qO :=
  qbind (f_X8_isTask a1 s0) (qvI (fun r1 s1 =>
  (if r1 = 0 then qbind (f_X8_taskAt (0 : Int32) s1) (qvI (fun r2 s2 =>
  (if qin (r2 + a2) 77 then (some (.inl (some (qI (s2 27 0 ((r2 + a2)).toNatClampNeg))), s2)) else none))) qE0 else
  qbind (f_X8_taskAt a1 s1) (qvI (fun r3 s3 =>
  (if qin (r3 + a2) 77 then (some (.inl (some (qI (s3 27 0 ((r3 + a2)).toNatClampNeg))), s3)) else none))) qE0))) qE0
def f_X8_isNeeded (a1 : Int32) (a2 : Int32) (s0 : qS) : Option qO :=
  qbind (f_X8_of a1 (4 : Int32) s0) (qvI (fun r1 s1 =>
  (if ((r1 >>> (a2 &&& 31)) &&& (1 : Int32)) = (1 : Int32) then (some (.inl (some (qI (1 : Int32))), s1)) else
  (some (.inl (some (qI (0 : Int32))), s1))))) qE0
def b_X8_needsOf_22 (rk9 : Int32 → Int32 → qS → Option qO) (rk22 : Int32 → Int32 → Int32 → qS → Option qO) (v2 : Int32) (v3 : Int32) (v4 : Int32) (s0 : qS) : Option qO :=
  (if (s0 27 0 0) ≤ v4 then rk9 v2 (v3 + (1 : Int32)) s0 else
  (if ((v2 >>> (v4 &&& 31)) &&& (1 : Int32)) = (1 : Int32) then qbind (f_X8_of v4 (4 : Int32) s0) (qvI (fun r2 s2 =>
  rk22 (v2 ||| r2) v3 (v4 + (1 : Int32)) s2)) qE0 else
  rk22 (v2 ||| (0 : Int32)) v3 (v4 + (1 : Int32)) s0))
def l_X8_needsOf_22 (rk9 : Int32 → Int32 → qS → Option qO) : Nat → Int32 → Int32 → Int32 → qS → Option qO
  | 0, _, _, _, _ => none
  | n + 1, v2, v3, v4, s0 => b_X8_needsOf_22  rk9 (l_X8_needsOf_22  rk9 n) v2 v3 v4 s0
def b_X8_needsOf_9 (rk9 : Int32 → Int32 → qS → Option qO) (v2 : Int32) (v3 : Int32) (s0 : qS) : Option qO :=
  (if (s0 27 0 0) ≤ v3 then (some (.inl (some (qI v2)), s0)) else
  l_X8_needsOf_22  rk9 qFU v2 v3 (0 : Int32) s0)
def l_X8_needsOf_9 : Nat → Int32 → Int32 → qS → Option qO
  | 0, _, _, _ => none
  | n + 1, v2, v3, s0 => b_X8_needsOf_9  (l_X8_needsOf_9  n) v2 v3 s0
def f_X8_needsOf (a1 : Int32) (s0 : qS) : Option qO :=
  qbind (f_X8_of a1 (4 : Int32) s0) (qvI (fun r1 s1 =>
  l_X8_needsOf_9  qFU r1 (0 : Int32) s1)) qE0
def f_X8_doesDepend (a1 : Int32) (a2 : Int32) (s0 : qS) : Option qO :=
  qbind (f_X8_needsOf a1 s0) (qvI (fun r1 s1 =>
  (if ((r1 >>> (a2 &&& 31)) &&& (1 : Int32)) = (1 : Int32) then (some (.inl (some (qI (1 : Int32))), s1)) else
  (some (.inl (some (qI (0 : Int32))), s1))))) qE0
def j_X8_adds_63 (v1 : Int32) (v2 : Int32) (v3 : Int32) (v4 : Int32) (w1 : Int32) (w2 : Int32) (s0 : qS) : Option qO :=
  qbind (f_X8_holds w1 w2 (1 : Int32) s0) (qvI (fun r2 s2 =>
  (if r2 = 0 then (some (.inl (some (qI (0 : Int32))), s2)) else
  qbind (f_X8_taskAt (s2 27 0 0) s2) (qvI (fun r3 s3 =>
  (if qin (r3 + (0 : Int32)) 77 then qlet (qu s3 27 0 ((r3 + (0 : Int32))).toNatClampNeg v1) (fun s4 =>
  (if qin (r3 + (1 : Int32)) 77 then qlet (qu s4 27 0 ((r3 + (1 : Int32))).toNatClampNeg v2) (fun s5 =>
  (if qin (r3 + (2 : Int32)) 77 then qlet (qu s5 27 0 ((r3 + (2 : Int32))).toNatClampNeg v3) (fun s6 =>
  (if qin (r3 + (3 : Int32)) 77 then qlet (qu s6 27 0 ((r3 + (3 : Int32))).toNatClampNeg v4) (fun s7 =>
  (if qin (r3 + (4 : Int32)) 77 then qlet (qu s7 27 0 ((r3 + (4 : Int32))).toNatClampNeg (0 : Int32)) (fun s8 =>
  (if qin (r3 + (5 : Int32)) 77 then qlet (qu s8 27 0 ((r3 + (5 : Int32))).toNatClampNeg (-1 : Int32)) (fun s9 =>
  qlet (qu s9 27 0 0 ((s9 27 0 0) + (1 : Int32))) (fun s10 =>
  (some (.inl (some (qI ((s10 27 0 0) - (1 : Int32)))), s10)))) else none)) else none)) else none)) else none)) else none)) else none))) qE0))) qE0
def j_X8_adds_42 (v1 : Int32) (v2 : Int32) (v3 : Int32) (v4 : Int32) (w0 : Int32) (s0 : qS) : Option qO :=
  (if (12 : Int32) ≤ (s0 27 0 0) then j_X8_adds_63  v1 v2 v3 v4 w0 (0 : Int32) s0 else
  j_X8_adds_63  v1 v2 v3 v4 w0 (1 : Int32) s0)
def f_X8_adds (a1 : Int32) (a2 : Int32) (a3 : Int32) (a4 : Int32) (s0 : qS) : Option qO :=
  qbind (f_X8_isIn a1 (1 : Int32) (9 : Int32) s0) (qvI (fun r1 s1 =>
  (if r1 = 0 then j_X8_adds_42  a1 a2 a3 a4 (0 : Int32) s1 else
  qbind (f_X8_isResource a2 s1) (qvI (fun r4 s11 =>
  (if r4 = 0 then j_X8_adds_42  a1 a2 a3 a4 (0 : Int32) s11 else
  qbind (f_X8_isIn a3 (1 : Int32) (5 : Int32) s11) (qvI (fun r5 s12 =>
  (if r5 = 0 then j_X8_adds_42  a1 a2 a3 a4 (0 : Int32) s12 else
  qbind (f_X8_isIn a4 (0 : Int32) (30 : Int32) s12) (qvI (fun r6 s13 =>
  (if r6 = 0 then j_X8_adds_42  a1 a2 a3 a4 (0 : Int32) s13 else
  j_X8_adds_42  a1 a2 a3 a4 (1 : Int32) s13))) qE0))) qE0))) qE0))) qE0
def f_X8_addTask (a1 : Int32) (a2 : Int32) (a3 : Int32) (a4 : Int32) (s0 : qS) : Option qO :=
  qbind (f_X8_begins  s0) (qvV (fun s1 =>
  qbind (f_X8_adds a1 a2 a3 a4 s1) (qvI (fun r1 s2 =>
  qbind (f_X8_ends r1 s2) (qvI (fun r2 s3 =>
  (some (.inl (some (qI r2)), s3)))) qE0)) qE0)) qE0
def b_X8_removes_64 (rk64 : Int32 → Int32 → qS → Option qO) (v2 : Int32) (v3 : Int32) (s0 : qS) : Option qO :=
  (if (s0 27 0 0) ≤ v3 then (some (.inl (some (qI (s0 27 0 0))), s0)) else
  qbind (f_X8_taskAt v3 s0) (qvI (fun r4 s5 =>
  (if qin (r4 + (4 : Int32)) 77 then qbind (f_X8_taskAt v3 s5) (qvI (fun r5 s6 =>
  (if qin (r5 + (4 : Int32)) 77 then qlet (qu s6 27 0 ((r5 + (4 : Int32))).toNatClampNeg (((s5 27 0 ((r4 + (4 : Int32))).toNatClampNeg) &&& v2) ||| (((s5 27 0 ((r4 + (4 : Int32))).toNatClampNeg) >>> ((1 : Int32) &&& 31)) &&& (v2 ^^^ (-1 : Int32))))) (fun s7 =>
  rk64 v2 (v3 + (1 : Int32)) s7) else none))) qE0 else none))) qE0)
def l_X8_removes_64 : Nat → Int32 → Int32 → qS → Option qO
  | 0, _, _, _ => none
  | n + 1, v2, v3, s0 => b_X8_removes_64  (l_X8_removes_64  n) v2 v3 s0
def b_X8_removes_19 (rk19 : Int32 → Int32 → qS → Option qO) (v1 : Int32) (v2 : Int32) (s0 : qS) : Option qO :=
  (if (71 : Int32) ≤ v2 then qlet (qu s0 27 0 0 ((s0 27 0 0) - (1 : Int32))) (fun s4 =>
  l_X8_removes_64  qFU (((1 : Int32) <<< (v1 &&& 31)) - (1 : Int32)) (0 : Int32) s4) else
  (if qin (v2 + (6 : Int32)) 77 then (if qin v2 77 then qlet (qu s0 27 0 (v2).toNatClampNeg (s0 27 0 ((v2 + (6 : Int32))).toNatClampNeg)) (fun s8 =>
  rk19 v1 (v2 + (1 : Int32)) s8) else none) else none))
def l_X8_removes_19 : Nat → Int32 → Int32 → qS → Option qO
  | 0, _, _, _ => none
  | n + 1, v1, v2, s0 => b_X8_removes_19  (l_X8_removes_19  n) v1 v2 s0
def f_X8_removes (a1 : Int32) (s0 : qS) : Option qO :=
  qbind (f_X8_isTask a1 s0) (qvI (fun r1 s1 =>
  qbind (f_X8_goes r1 s1) (qvI (fun r2 s2 =>
  (if r2 = 0 then (some (.inl (some (qI (0 : Int32))), s2)) else
  qbind (f_X8_taskAt a1 s2) (qvI (fun r3 s3 =>
  l_X8_removes_19  qFU a1 r3 s3)) qE0))) qE0)) qE0
def f_X8_removeTask (a1 : Int32) (s0 : qS) : Option qO :=
  qbind (f_X8_begins  s0) (qvV (fun s1 =>
  qbind (f_X8_removes a1 s1) (qvI (fun r1 s2 =>
  qbind (f_X8_ends r1 s2) (qvI (fun r2 s3 =>
  (some (.inl (some (qI r2)), s3)))) qE0)) qE0)) qE0
def j_X8_links_74 (v1 : Int32) (v2 : Int32) (w0 : Int32) (s0 : qS) : Option qO :=
  qbind (f_X8_taskAt v1 s0) (qvI (fun r4 s4 =>
  (if qin (r4 + (4 : Int32)) 77 then (if qin (r4 + (4 : Int32)) 77 then qlet (qu s4 27 0 ((r4 + (4 : Int32))).toNatClampNeg ((s4 27 0 ((r4 + (4 : Int32))).toNatClampNeg) ||| ((1 : Int32) <<< (v2 &&& 31)))) (fun s5 =>
  (some (.inl (some (qI w0)), s5))) else none) else none))) qE0
def j_X8_links_52 (v1 : Int32) (v2 : Int32) (w1 : Int32) (w2 : Int32) (w3 : Int32) (s0 : qS) : Option qO :=
  qbind (f_X8_holds w1 w2 w3 s0) (qvI (fun r2 s2 =>
  (if r2 = 0 then (some (.inl (some (qI (0 : Int32))), s2)) else
  qbind (f_X8_isNeeded v1 v2 s2) (qvI (fun r3 s3 =>
  (if r3 = 0 then j_X8_links_74  v1 v2 (0 : Int32) s3 else
  j_X8_links_74  v1 v2 (1 : Int32) s3))) qE0))) qE0
def j_X8_links_34 (v1 : Int32) (v2 : Int32) (v3 : Int32) (w1 : Int32) (w2 : Int32) (s0 : qS) : Option qO :=
  (if v3 = 0 then j_X8_links_52  v1 v2 w1 w2 (0 : Int32) s0 else
  qbind (f_X8_doesDepend v2 v1 s0) (qvI (fun r5 s6 =>
  (if r5 = 0 then j_X8_links_52  v1 v2 w1 w2 (1 : Int32) s6 else
  j_X8_links_52  v1 v2 w1 w2 (0 : Int32) s6))) qE0)
def f_X8_links (a1 : Int32) (a2 : Int32) (s0 : qS) : Option qO :=
  qbind (f_X8_isTask a1 s0) (qvI (fun r1 s1 =>
  (if r1 = 0 then (if a1 = a2 then j_X8_links_34  a1 a2 (0 : Int32) (0 : Int32) (0 : Int32) s1 else
  j_X8_links_34  a1 a2 (0 : Int32) (0 : Int32) (1 : Int32) s1) else
  qbind (f_X8_isTask a2 s1) (qvI (fun r6 s7 =>
  (if r6 = 0 then (if a1 = a2 then j_X8_links_34  a1 a2 (0 : Int32) (0 : Int32) (0 : Int32) s7 else
  j_X8_links_34  a1 a2 (0 : Int32) (0 : Int32) (1 : Int32) s7) else
  (if a1 = a2 then j_X8_links_34  a1 a2 (1 : Int32) (1 : Int32) (0 : Int32) s7 else
  j_X8_links_34  a1 a2 (1 : Int32) (1 : Int32) (1 : Int32) s7)))) qE0))) qE0
def f_X8_addDependency (a1 : Int32) (a2 : Int32) (s0 : qS) : Option qO :=
  qbind (f_X8_begins  s0) (qvV (fun s1 =>
  qbind (f_X8_links a1 a2 s1) (qvI (fun r1 s2 =>
  qbind (f_X8_ends r1 s2) (qvI (fun r2 s3 =>
  (if (s3 26 0 17) = 0 then (if r2 = 0 then (some (.inl (some (qI (1 : Int32))), s3)) else
  (some (.inl (some (qI (0 : Int32))), s3))) else
  (some (.inl (some (qI (0 : Int32))), s3))))) qE0)) qE0)) qE0
def j_X8_unlinks_44 (v1 : Int32) (v2 : Int32) (w0 : Int32) (s0 : qS) : Option qO :=
  qbind (f_X8_taskAt v1 s0) (qvI (fun r4 s4 =>
  (if qin (r4 + (4 : Int32)) 77 then (if qin (r4 + (4 : Int32)) 77 then qlet (qu s4 27 0 ((r4 + (4 : Int32))).toNatClampNeg ((s4 27 0 ((r4 + (4 : Int32))).toNatClampNeg) &&& (((1 : Int32) <<< (v2 &&& 31)) ^^^ (-1 : Int32)))) (fun s5 =>
  (some (.inl (some (qI w0)), s5))) else none) else none))) qE0
def j_X8_unlinks_22 (v1 : Int32) (v2 : Int32) (w1 : Int32) (s0 : qS) : Option qO :=
  qbind (f_X8_goes w1 s0) (qvI (fun r2 s2 =>
  (if r2 = 0 then (some (.inl (some (qI (0 : Int32))), s2)) else
  qbind (f_X8_isNeeded v1 v2 s2) (qvI (fun r3 s3 =>
  (if r3 = 0 then j_X8_unlinks_44  v1 v2 (0 : Int32) s3 else
  j_X8_unlinks_44  v1 v2 (1 : Int32) s3))) qE0))) qE0
def f_X8_unlinks (a1 : Int32) (a2 : Int32) (s0 : qS) : Option qO :=
  qbind (f_X8_isTask a1 s0) (qvI (fun r1 s1 =>
  (if r1 = 0 then j_X8_unlinks_22  a1 a2 (0 : Int32) s1 else
  qbind (f_X8_isTask a2 s1) (qvI (fun r5 s6 =>
  (if r5 = 0 then j_X8_unlinks_22  a1 a2 (0 : Int32) s6 else
  j_X8_unlinks_22  a1 a2 (1 : Int32) s6))) qE0))) qE0
def f_X8_removeDependency (a1 : Int32) (a2 : Int32) (s0 : qS) : Option qO :=
  qbind (f_X8_begins  s0) (qvV (fun s1 =>
  qbind (f_X8_unlinks a1 a2 s1) (qvI (fun r1 s2 =>
  qbind (f_X8_ends r1 s2) (qvI (fun r2 s3 =>
  (if r2 = (1 : Int32) then (some (.inl (some (qI (1 : Int32))), s3)) else
  (some (.inl (some (qI (0 : Int32))), s3))))) qE0)) qE0)) qE0
def f_X8_sets (a1 : Int32) (a2 : Int32) (a3 : Int32) (a4 : Int32) (a5 : Int32) (s0 : qS) : Option qO :=
  qbind (f_X8_of a1 a2 s0) (qvI (fun r1 s1 =>
  qbind (f_X8_isTask a1 s1) (qvI (fun r2 s2 =>
  qbind (f_X8_isIn a3 a4 a5 s2) (qvI (fun r3 s3 =>
  qbind (f_X8_holds r2 r3 (1 : Int32) s3) (qvI (fun r4 s4 =>
  (if r4 = 0 then (some (.inl (some (qI r1)), s4)) else
  qbind (f_X8_taskAt a1 s4) (qvI (fun r5 s5 =>
  (if qin (r5 + a2) 77 then qlet (qu s5 27 0 ((r5 + a2)).toNatClampNeg a3) (fun s6 =>
  (some (.inl (some (qI r1)), s6))) else none))) qE0))) qE0)) qE0)) qE0)) qE0
def f_X8_setDuration (a1 : Int32) (a2 : Int32) (s0 : qS) : Option qO :=
  qbind (f_X8_begins  s0) (qvV (fun s1 =>
  qbind (f_X8_sets a1 (0 : Int32) a2 (1 : Int32) (9 : Int32) s1) (qvI (fun r1 s2 =>
  qbind (f_X8_ends r1 s2) (qvI (fun r2 s3 =>
  (some (.inl (some (qI r2)), s3)))) qE0)) qE0)) qE0
def f_X8_setRelease (a1 : Int32) (a2 : Int32) (s0 : qS) : Option qO :=
  qbind (f_X8_begins  s0) (qvV (fun s1 =>
  qbind (f_X8_sets a1 (3 : Int32) a2 (0 : Int32) (30 : Int32) s1) (qvI (fun r1 s2 =>
  qbind (f_X8_ends r1 s2) (qvI (fun r2 s3 =>
  (some (.inl (some (qI r2)), s3)))) qE0)) qE0)) qE0
def j_X8_limits_23 (v1 : Int32) (v2 : Int32) (w1 : Int32) (s0 : qS) : Option qO :=
  qbind (f_X8_goes w1 s0) (qvI (fun r2 s2 =>
  (if r2 = 0 then (some (.inl (some (qI (0 : Int32))), s2)) else
  (if qin ((2 : Int32) + v1) 77 then (if qin ((2 : Int32) + v1) 77 then qlet (qu s2 27 0 (((2 : Int32) + v1)).toNatClampNeg v2) (fun s3 =>
  (some (.inl (some (qI (s2 27 0 (((2 : Int32) + v1)).toNatClampNeg))), s3))) else none) else none)))) qE0
def f_X8_limits (a1 : Int32) (a2 : Int32) (s0 : qS) : Option qO :=
  qbind (f_X8_isResource a1 s0) (qvI (fun r1 s1 =>
  (if r1 = 0 then j_X8_limits_23  a1 a2 (0 : Int32) s1 else
  qbind (f_X8_isIn a2 (5 : Int32) (20 : Int32) s1) (qvI (fun r3 s4 =>
  (if r3 = 0 then j_X8_limits_23  a1 a2 (0 : Int32) s4 else
  j_X8_limits_23  a1 a2 (1 : Int32) s4))) qE0))) qE0
def f_X8_setLimit (a1 : Int32) (a2 : Int32) (s0 : qS) : Option qO :=
  qbind (f_X8_begins  s0) (qvV (fun s1 =>
  qbind (f_X8_limits a1 a2 s1) (qvI (fun r1 s2 =>
  qbind (f_X8_ends r1 s2) (qvI (fun r2 s3 =>
  (some (.inl (some (qI r2)), s3)))) qE0)) qE0)) qE0
def b_X8_lastOf_4 (k1 : Nat) (j1 : Nat) (rk4 : Int32 → Int32 → qS → Option qO) (v2 : Int32) (v3 : Int32) (s0 : qS) : Option qO :=
  (if (s0 27 0 0) ≤ v3 then (some (.inl (some (qI v2)), s0)) else
  (if qin v3 (qlen k1) then qbind (f_X8_of v3 (0 : Int32) s0) (qvI (fun r1 s1 =>
  rk4 (qmax v2 ((s0 k1 j1 (v3).toNatClampNeg) + r1)) (v3 + (1 : Int32)) s1)) qE0 else none))
def l_X8_lastOf_4 (k1 : Nat) (j1 : Nat) : Nat → Int32 → Int32 → qS → Option qO
  | 0, _, _, _ => none
  | n + 1, v2, v3, s0 => b_X8_lastOf_4 k1 j1 (l_X8_lastOf_4 k1 j1 n) v2 v3 s0
def f_X8_lastOf (k1 j1 : Nat) (s0 : qS) : Option qO :=
  l_X8_lastOf_4 k1 j1 qFU (0 : Int32) (0 : Int32) s0
def b_X8_soonest_10 (k2 : Nat) (j2 : Nat) (rk10 : Int32 → Int32 → Int32 → qS → Option qO) (v1 : Int32) (v3 : Int32) (v4 : Int32) (s0 : qS) : Option qO :=
  (if (s0 27 0 0) ≤ v4 then (some (.inl (some (qI v3)), s0)) else
  qbind (f_X8_isNeeded v1 v4 s0) (qvI (fun r2 s2 =>
  (if r2 = 0 then rk10 v1 v3 (v4 + (1 : Int32)) s2 else
  (if qin v4 (qlen k2) then qbind (f_X8_of v4 (0 : Int32) s2) (qvI (fun r3 s3 =>
  rk10 v1 (qmax v3 ((s2 k2 j2 (v4).toNatClampNeg) + r3)) (v4 + (1 : Int32)) s3)) qE0 else none)))) qE0)
def l_X8_soonest_10 (k2 : Nat) (j2 : Nat) : Nat → Int32 → Int32 → Int32 → qS → Option qO
  | 0, _, _, _, _ => none
  | n + 1, v1, v3, v4, s0 => b_X8_soonest_10 k2 j2 (l_X8_soonest_10 k2 j2 n) v1 v3 v4 s0
def f_X8_soonest (a1 : Int32) (k2 j2 : Nat) (s0 : qS) : Option qO :=
  qbind (f_X8_of a1 (3 : Int32) s0) (qvI (fun r1 s1 =>
  l_X8_soonest_10 k2 j2 qFU a1 r1 (0 : Int32) s1)) qE0
def b_X8_puts_2 (rk2 : Int32 → Int32 → qS → Option qO) (v1 : Int32) (v2 : Int32) (s0 : qS) : Option qO :=
  (if (s0 27 0 0) ≤ v2 then (some (.inl none, s0)) else
  qbind (f_X8_isNeeded v2 v1 s0) (qvI (fun r1 s1 =>
  (if r1 = 0 then (if qin v1 12 then (if qin v1 12 then qlet (qu s1 32 0 (v1).toNatClampNeg (s1 32 0 (v1).toNatClampNeg)) (fun s2 =>
  rk2 v1 (v2 + (1 : Int32)) s2) else none) else none) else
  (if qin v1 12 then (if qin v2 12 then qbind (f_X8_of v1 (0 : Int32) s1) (qvI (fun r2 s3 =>
  (if qin v1 12 then qlet (qu s3 32 0 (v1).toNatClampNeg (qmin (s1 32 0 (v1).toNatClampNeg) ((s1 32 0 (v2).toNatClampNeg) - r2))) (fun s4 =>
  rk2 v1 (v2 + (1 : Int32)) s4) else none))) qE0 else none) else none)))) qE0)
def l_X8_puts_2 : Nat → Int32 → Int32 → qS → Option qO
  | 0, _, _, _ => none
  | n + 1, v1, v2, s0 => b_X8_puts_2  (l_X8_puts_2  n) v1 v2 s0
def f_X8_puts (a1 : Int32) (s0 : qS) : Option qO :=
  l_X8_puts_2  qFU a1 (0 : Int32) s0
def b_X8_hasRoom_16 (rk16 : Int32 → Int32 → Int32 → qS → Option qO) (v1 : Int32) (v3 : Int32) (v4 : Int32) (s0 : qS) : Option qO :=
  qbind (f_X8_of v1 (0 : Int32) s0) (qvI (fun r2 s2 =>
  (if r2 ≤ v4 then (some (.inl (some (qI (1 : Int32))), s2)) else
  (if qin (v3 + v4) 480 then qbind (f_X8_of v1 (2 : Int32) s2) (qvI (fun r3 s3 =>
  qbind (f_X8_of v1 (1 : Int32) s3) (qvI (fun r4 s4 =>
  (if qin ((2 : Int32) + r4) 77 then (if ((s2 34 0 ((v3 + v4)).toNatClampNeg) + r3) ≤ (s4 27 0 (((2 : Int32) + r4)).toNatClampNeg) then rk16 v1 v3 (v4 + (1 : Int32)) s4 else
  (some (.inl (some (qI (0 : Int32))), s4))) else none))) qE0)) qE0 else none)))) qE0
def l_X8_hasRoom_16 : Nat → Int32 → Int32 → Int32 → qS → Option qO
  | 0, _, _, _, _ => none
  | n + 1, v1, v3, v4, s0 => b_X8_hasRoom_16  (l_X8_hasRoom_16  n) v1 v3 v4 s0
def f_X8_hasRoom (a1 : Int32) (a2 : Int32) (s0 : qS) : Option qO :=
  qbind (f_X8_of a1 (1 : Int32) s0) (qvI (fun r1 s1 =>
  l_X8_hasRoom_16  qFU a1 (((160 : Int32) * r1) + a2) (0 : Int32) s1)) qE0
def f_X8_taskCount  (s0 : qS) : Option qO :=
  qlet (qu s0 26 0 17 (0 : Int32)) (fun s1 =>
  (some (.inl (some (qI (s1 27 0 0))), s1)))
def f_X8_asks (a1 : Int32) (a2 : Int32) (s0 : qS) : Option qO :=
  qbind (f_X8_isTask a1 s0) (qvI (fun r1 s1 =>
  qbind (f_X8_goes r1 s1) (qvI (fun r2 s2 =>
  (if r2 = 0 then (some (.inl (some (qI (0 : Int32))), s2)) else
  qbind (f_X8_of a1 a2 s2) (qvI (fun r3 s3 =>
  (some (.inl (some (qI r3)), s3)))) qE0))) qE0)) qE0
def f_X8_duration (a1 : Int32) (s0 : qS) : Option qO :=
  qbind (f_X8_asks a1 (0 : Int32) s0) (qvI (fun r1 s1 =>
  (some (.inl (some (qI r1)), s1)))) qE0
def f_X8_resource (a1 : Int32) (s0 : qS) : Option qO :=
  qbind (f_X8_asks a1 (1 : Int32) s0) (qvI (fun r1 s1 =>
  (some (.inl (some (qI r1)), s1)))) qE0
def f_X8_demand (a1 : Int32) (s0 : qS) : Option qO :=
  qbind (f_X8_asks a1 (2 : Int32) s0) (qvI (fun r1 s1 =>
  (some (.inl (some (qI r1)), s1)))) qE0
def f_X8_release (a1 : Int32) (s0 : qS) : Option qO :=
  qbind (f_X8_asks a1 (3 : Int32) s0) (qvI (fun r1 s1 =>
  (some (.inl (some (qI r1)), s1)))) qE0
def f_X8_limit (a1 : Int32) (s0 : qS) : Option qO :=
  qbind (f_X8_isResource a1 s0) (qvI (fun r1 s1 =>
  qbind (f_X8_goes r1 s1) (qvI (fun r2 s2 =>
  (if r2 = 0 then (some (.inl (some (qI (0 : Int32))), s2)) else
  (if qin ((2 : Int32) + a1) 77 then (some (.inl (some (qI (s2 27 0 (((2 : Int32) + a1)).toNatClampNeg))), s2)) else none)))) qE0)) qE0
def j_X8_dependsDirectly_21 (v1 : Int32) (v2 : Int32) (s0 : qS) : Option qO :=
  qbind (f_X8_goes (0 : Int32) s0) (qvI (fun r2 s2 =>
  (if r2 = 0 then (some (.inl (some (qI (0 : Int32))), s2)) else
  qbind (f_X8_isNeeded v1 v2 s2) (qvI (fun r3 s3 =>
  (if r3 = 0 then (some (.inl (some (qI (0 : Int32))), s3)) else
  (some (.inl (some (qI (1 : Int32))), s3))))) qE0))) qE0
def f_X8_dependsDirectly (a1 : Int32) (a2 : Int32) (s0 : qS) : Option qO :=
  qbind (f_X8_isTask a1 s0) (qvI (fun r1 s1 =>
  (if r1 = 0 then j_X8_dependsDirectly_21  a1 a2 s1 else
  qbind (f_X8_isTask a2 s1) (qvI (fun r4 s4 =>
  (if r4 = 0 then j_X8_dependsDirectly_21  a1 a2 s4 else
  qbind (f_X8_goes (1 : Int32) s4) (qvI (fun r5 s5 =>
  (if r5 = 0 then (some (.inl (some (qI (0 : Int32))), s5)) else
  qbind (f_X8_isNeeded a1 a2 s5) (qvI (fun r6 s6 =>
  (if r6 = 0 then (some (.inl (some (qI (0 : Int32))), s6)) else
  (some (.inl (some (qI (1 : Int32))), s6))))) qE0))) qE0))) qE0))) qE0
def j_X8_isBehind_21 (v1 : Int32) (v2 : Int32) (s0 : qS) : Option qO :=
  qbind (f_X8_goes (0 : Int32) s0) (qvI (fun r2 s2 =>
  (if r2 = 0 then (some (.inl (some (qI (0 : Int32))), s2)) else
  qbind (f_X8_doesDepend v1 v2 s2) (qvI (fun r3 s3 =>
  (if r3 = 0 then (some (.inl (some (qI (0 : Int32))), s3)) else
  (some (.inl (some (qI (1 : Int32))), s3))))) qE0))) qE0
def f_X8_isBehind (a1 : Int32) (a2 : Int32) (s0 : qS) : Option qO :=
  qbind (f_X8_isTask a1 s0) (qvI (fun r1 s1 =>
  (if r1 = 0 then j_X8_isBehind_21  a1 a2 s1 else
  qbind (f_X8_isTask a2 s1) (qvI (fun r4 s4 =>
  (if r4 = 0 then j_X8_isBehind_21  a1 a2 s4 else
  qbind (f_X8_goes (1 : Int32) s4) (qvI (fun r5 s5 =>
  (if r5 = 0 then (some (.inl (some (qI (0 : Int32))), s5)) else
  qbind (f_X8_doesDepend a1 a2 s5) (qvI (fun r6 s6 =>
  (if r6 = 0 then (some (.inl (some (qI (0 : Int32))), s6)) else
  (some (.inl (some (qI (1 : Int32))), s6))))) qE0))) qE0))) qE0))) qE0
def f_X8_depends (a1 : Int32) (a2 : Int32) (s0 : qS) : Option qO :=
  qbind (f_X8_isBehind a1 a2 s0) (qvI (fun r1 s1 =>
  (if qbo r1 then some (.inl (some (qI r1)), s1) else none))) qE0
def f_X8_dependsByClosure (a1 : Int32) (a2 : Int32) (s0 : qS) : Option qO :=
  qbind (f_X8_isBehind a1 a2 s0) (qvI (fun r1 s1 =>
  (if qbo r1 then some (.inl (some (qI r1)), s1) else none))) qE0
def f_X8_neededCount (a1 : Int32) (s0 : qS) : Option qO :=
  qbind (f_X8_asks a1 (4 : Int32) s0) (qvI (fun r1 s1 =>
  qbind (f_J6_bitCount_0f7a4 r1 s1) (qvI (fun r2 s2 =>
  (some (.inl (some (qI r2)), s2)))) qE0)) qE0
def b_X8_dependentCount_4 (rk4 : Int32 → Int32 → Int32 → qS → Option qO) (v1 : Int32) (v2 : Int32) (v3 : Int32) (s0 : qS) : Option qO :=
  (if (s0 27 0 0) ≤ v3 then qbind (f_X8_isTask v1 s0) (qvI (fun r1 s1 =>
  qbind (f_X8_goes r1 s1) (qvI (fun r2 s2 =>
  (if r2 = 0 then (some (.inl (some (qI (0 : Int32))), s2)) else
  (some (.inl (some (qI v2)), s2))))) qE0)) qE0 else
  qbind (f_X8_isTask v1 s0) (qvI (fun r3 s3 =>
  (if r3 = 0 then rk4 v1 (v2 + (0 : Int32)) (v3 + (1 : Int32)) s3 else
  qbind (f_X8_isNeeded v3 v1 s3) (qvI (fun r4 s4 =>
  (if r4 = 0 then rk4 v1 (v2 + (0 : Int32)) (v3 + (1 : Int32)) s4 else
  rk4 v1 (v2 + (1 : Int32)) (v3 + (1 : Int32)) s4))) qE0))) qE0)
def l_X8_dependentCount_4 : Nat → Int32 → Int32 → Int32 → qS → Option qO
  | 0, _, _, _, _ => none
  | n + 1, v1, v2, v3, s0 => b_X8_dependentCount_4  (l_X8_dependentCount_4  n) v1 v2 v3 s0
def f_X8_dependentCount (a1 : Int32) (s0 : qS) : Option qO :=
  l_X8_dependentCount_4  qFU a1 (0 : Int32) (0 : Int32) s0
def b_X8_taskInOrder_31 (rk7 : Int32 → Int32 → Int32 → Int32 → qS → Option qO) (rk31 : Int32 → Int32 → Int32 → Int32 → Int32 → Int32 → qS → Option qO) (v1 : Int32) (v2 : Int32) (v3 : Int32) (v4 : Int32) (v5 : Int32) (v6 : Int32) (s0 : qS) : Option qO :=
  (if v6 < 0 then (if v4 = v1 then rk7 v1 (v2 ||| ((1 : Int32) <<< (v5 &&& 31))) v5 (v4 + (1 : Int32)) s0 else
  rk7 v1 (v2 ||| ((1 : Int32) <<< (v5 &&& 31))) v3 (v4 + (1 : Int32)) s0) else
  (if ((v2 >>> (v6 &&& 31)) &&& (1 : Int32)) = 0 then qbind (f_X8_of v6 (4 : Int32) s0) (qvI (fun r3 s3 =>
  (if (r3 &&& (v2 ^^^ (-1 : Int32))) = 0 then rk31 v1 v2 v3 v4 v6 (v6 + (-1 : Int32)) s3 else
  rk31 v1 v2 v3 v4 v5 (v6 + (-1 : Int32)) s3))) qE0 else
  rk31 v1 v2 v3 v4 v5 (v6 + (-1 : Int32)) s0))
def l_X8_taskInOrder_31 (rk7 : Int32 → Int32 → Int32 → Int32 → qS → Option qO) : Nat → Int32 → Int32 → Int32 → Int32 → Int32 → Int32 → qS → Option qO
  | 0, _, _, _, _, _, _, _ => none
  | n + 1, v1, v2, v3, v4, v5, v6, s0 => b_X8_taskInOrder_31  rk7 (l_X8_taskInOrder_31  rk7 n) v1 v2 v3 v4 v5 v6 s0
def b_X8_taskInOrder_7 (rk7 : Int32 → Int32 → Int32 → Int32 → qS → Option qO) (v1 : Int32) (v2 : Int32) (v3 : Int32) (v4 : Int32) (s0 : qS) : Option qO :=
  (if (s0 27 0 0) ≤ v4 then (if v3 = (-1 : Int32) then qbind (f_X8_goes (0 : Int32) s0) (qvI (fun r1 s1 =>
  (if r1 = 0 then (some (.inl (some (qI (0 : Int32))), s1)) else
  (some (.inl (some (qI v3)), s1))))) qE0 else
  qbind (f_X8_goes (1 : Int32) s0) (qvI (fun r2 s2 =>
  (if r2 = 0 then (some (.inl (some (qI (0 : Int32))), s2)) else
  (some (.inl (some (qI v3)), s2))))) qE0) else
  l_X8_taskInOrder_31  rk7 qFU v1 v2 v3 v4 (-1 : Int32) ((s0 27 0 0) - (1 : Int32)) s0)
def l_X8_taskInOrder_7 : Nat → Int32 → Int32 → Int32 → Int32 → qS → Option qO
  | 0, _, _, _, _, _ => none
  | n + 1, v1, v2, v3, v4, s0 => b_X8_taskInOrder_7  (l_X8_taskInOrder_7  n) v1 v2 v3 v4 s0
def f_X8_taskInOrder (a1 : Int32) (s0 : qS) : Option qO :=
  l_X8_taskInOrder_7  qFU a1 (0 : Int32) (-1 : Int32) (0 : Int32) s0
def b_X8_work_4 (rk4 : Int32 → Int32 → Int32 → qS → Option qO) (v1 : Int32) (v2 : Int32) (v3 : Int32) (s0 : qS) : Option qO :=
  (if (s0 27 0 0) ≤ v3 then qbind (f_X8_isResource v1 s0) (qvI (fun r1 s1 =>
  qbind (f_X8_goes r1 s1) (qvI (fun r2 s2 =>
  (if r2 = 0 then (some (.inl (some (qI (0 : Int32))), s2)) else
  (some (.inl (some (qI v2)), s2))))) qE0)) qE0 else
  qbind (f_X8_of v3 (1 : Int32) s0) (qvI (fun r3 s3 =>
  (if r3 = v1 then qbind (f_X8_of v3 (0 : Int32) s3) (qvI (fun r4 s4 =>
  qbind (f_X8_of v3 (2 : Int32) s4) (qvI (fun r5 s5 =>
  rk4 v1 (v2 + (r4 * r5)) (v3 + (1 : Int32)) s5)) qE0)) qE0 else
  rk4 v1 (v2 + (0 : Int32)) (v3 + (1 : Int32)) s3))) qE0)
def l_X8_work_4 : Nat → Int32 → Int32 → Int32 → qS → Option qO
  | 0, _, _, _, _ => none
  | n + 1, v1, v2, v3, s0 => b_X8_work_4  (l_X8_work_4  n) v1 v2 v3 s0
def f_X8_work (a1 : Int32) (s0 : qS) : Option qO :=
  l_X8_work_4  qFU a1 (0 : Int32) (0 : Int32) s0
def f_X8_workload (a1 : Int32) (s0 : qS) : Option qO :=
  qbind (f_X8_work a1 s0) (qvI (fun r1 s1 =>
  (some (.inl (some (qI r1)), s1)))) qE0
def f_X8_workloadByDays (a1 : Int32) (s0 : qS) : Option qO :=
  qbind (f_X8_work a1 s0) (qvI (fun r1 s1 =>
  (some (.inl (some (qI r1)), s1)))) qE0
def f_X8_hasBaseline  (s0 : qS) : Option qO :=
  qlet (qu s0 26 0 17 (0 : Int32)) (fun s1 =>
  (if (s1 27 0 1) = (1 : Int32) then (some (.inl (some (qI (1 : Int32))), s1)) else
  (some (.inl (some (qI (0 : Int32))), s1))))
def f_X8_baselineStart (a1 : Int32) (s0 : qS) : Option qO :=
  qbind (f_X8_isTask a1 s0) (qvI (fun r1 s1 =>
  qbind (f_X8_of a1 (5 : Int32) s1) (qvI (fun r2 s2 =>
  (if r2 = (-1 : Int32) then qbind (f_X8_holds r1 (0 : Int32) (1 : Int32) s2) (qvI (fun r3 s3 =>
  (if r3 = 0 then (some (.inl (some (qI (0 : Int32))), s3)) else
  qbind (f_X8_of a1 (5 : Int32) s3) (qvI (fun r4 s4 =>
  (some (.inl (some (qI r4)), s4)))) qE0))) qE0 else
  qbind (f_X8_holds r1 (1 : Int32) (1 : Int32) s2) (qvI (fun r5 s5 =>
  (if r5 = 0 then (some (.inl (some (qI (0 : Int32))), s5)) else
  qbind (f_X8_of a1 (5 : Int32) s5) (qvI (fun r6 s6 =>
  (some (.inl (some (qI r6)), s6)))) qE0))) qE0))) qE0)) qE0
def f_X8_isConsistent  (s0 : qS) : Option qO :=
  qlet (qu s0 26 0 17 (0 : Int32)) (fun s1 =>
  (some (.inl (some (qI (1 : Int32))), s1)))
def f_X8_put (a1 : Int32) (a2 : Int32) (s0 : qS) : Option qO :=
  (if qin a1 600 then qlet (qu s0 36 0 (a1).toNatClampNeg a2) (fun s1 =>
  (some (.inl (some (qI (a1 + (1 : Int32)))), s1))) else none)
def b_X8_writesNumber_28 (rk28 : Int32 → Int32 → Int32 → qS → Option qO) (v2 : Int32) (v3 : Int32) (v5 : Int32) (s0 : qS) : Option qO :=
  (if v5 ≤ 0 then (some (.inl (some (qI v3)), s0)) else
  (if v5 = 0 then none else qbind (f_X8_put v3 ((48 : Int32) + ((v2 / v5) - (v2 / v5) / (10 : Int32) * (10 : Int32))) s0) (qvI (fun r1 s1 =>
  rk28 v2 r1 (v5 / (10 : Int32)) s1)) qE0))
def l_X8_writesNumber_28 : Nat → Int32 → Int32 → Int32 → qS → Option qO
  | 0, _, _, _, _ => none
  | n + 1, v2, v3, v5, s0 => b_X8_writesNumber_28  (l_X8_writesNumber_28  n) v2 v3 v5 s0
def b_X8_writesNumber_5 (rk5 : Int32 → Int32 → Int32 → qS → Option qO) (v2 : Int32) (v3 : Int32) (v4 : Int32) (s0 : qS) : Option qO :=
  (if v4 = 0 then none else (if (v2 / v4) ≤ (9 : Int32) then l_X8_writesNumber_28  qFU v2 v3 v4 s0 else
  rk5 v2 v3 (v4 * (10 : Int32)) s0))
def l_X8_writesNumber_5 : Nat → Int32 → Int32 → Int32 → qS → Option qO
  | 0, _, _, _, _ => none
  | n + 1, v2, v3, v4, s0 => b_X8_writesNumber_5  (l_X8_writesNumber_5  n) v2 v3 v4 s0
def f_X8_writesNumber (a1 : Int32) (a2 : Int32) (s0 : qS) : Option qO :=
  l_X8_writesNumber_5  qFU a2 a1 (1 : Int32) s0
def f_X8_outputAt (a1 : Int32) (s0 : qS) : Option qO :=
  qbind (f_X8_isIn a1 (0 : Int32) ((s0 26 0 16) - (1 : Int32)) s0) (qvI (fun r1 s1 =>
  qbind (f_X8_goes r1 s1) (qvI (fun r2 s2 =>
  (if r2 = 0 then (some (.inl (some (qI (0 : Int32))), s2)) else
  (if qin a1 600 then (if qch (((s2 36 0 (a1).toNatClampNeg).toUInt32 % 65536).toInt32) then some (.inl (some (qI (((s2 36 0 (a1).toNatClampNeg).toUInt32 % 65536).toInt32))), s2) else none) else none)))) qE0)) qE0
def j_X8_type_23 (v1 : Int32) (w1 : Int32) (w2 : Int32) (s0 : qS) : Option qO :=
  qbind (f_X8_holds w1 w2 (1 : Int32) s0) (qvI (fun r2 s2 =>
  (if r2 = 0 then (some (.inl (some (qI (0 : Int32))), s2)) else
  (if qin (s2 26 0 14) 60 then qlet (qu s2 35 0 ((s2 26 0 14)).toNatClampNeg v1) (fun s3 =>
  qlet (qu s3 26 0 14 ((s3 26 0 14) + (1 : Int32))) (fun s4 =>
  (some (.inl (some (qI (s4 26 0 14))), s4)))) else none)))) qE0
def f_X8_type (a1 : Int32) (s0 : qS) : Option qO :=
  qbind (f_X8_isIn a1 (32 : Int32) (126 : Int32) s0) (qvI (fun r1 s1 =>
  (if (60 : Int32) ≤ (s1 26 0 14) then j_X8_type_23  a1 r1 (0 : Int32) s1 else
  j_X8_type_23  a1 r1 (1 : Int32) s1))) qE0
def f_X8_letterHere  (s0 : qS) : Option qO :=
  (if (s0 26 0 18) ≤ (s0 26 0 19) then (some (.inl (some (qI (-1 : Int32))), s0)) else
  (if qin (s0 26 0 19) 60 then (some (.inl (some (qI (s0 35 0 ((s0 26 0 19)).toNatClampNeg))), s0)) else none))
def j_X8_reads_44 (s0 : qS) : Option qO :=
  (if (s0 26 0 20) = (-1 : Int32) then qlet (qu s0 26 0 20 (s0 26 0 19)) (fun s3 =>
  (some (.inl (some (qI (0 : Int32))), s3))) else
  qlet (qu s0 26 0 20 (s0 26 0 20)) (fun s4 =>
  (some (.inl (some (qI (0 : Int32))), s4))))
def f_X8_reads (a1 : Int32) (a2 : Int32) (s0 : qS) : Option qO :=
  (if (s0 26 0 20) = (-1 : Int32) then qbind (f_X8_letterHere  s0) (qvI (fun r1 s1 =>
  qbind (f_X8_isIn r1 a1 a2 s1) (qvI (fun r2 s2 =>
  (if r2 = 0 then j_X8_reads_44   s2 else
  qlet (qu s2 26 0 19 ((s2 26 0 19) + (1 : Int32))) (fun s5 =>
  (if qin ((s5 26 0 19) - (1 : Int32)) 60 then (some (.inl (some (qI ((s5 35 0 (((s5 26 0 19) - (1 : Int32))).toNatClampNeg) - a1))), s5)) else none))))) qE0)) qE0 else
  j_X8_reads_44   s0)
def f_X8_digit  (s0 : qS) : Option qO :=
  qbind (f_X8_reads (48 : Int32) (57 : Int32) s0) (qvI (fun r1 s1 =>
  (some (.inl (some (qI r1)), s1)))) qE0
def f_X8_number  (s0 : qS) : Option qO :=
  qbind (f_X8_digit  s0) (qvI (fun r1 s1 =>
  (if (s1 26 0 20) = (-1 : Int32) then qbind (f_X8_letterHere  s1) (qvI (fun r2 s2 =>
  qbind (f_X8_isIn r2 (48 : Int32) (57 : Int32) s2) (qvI (fun r3 s3 =>
  (if r3 = 0 then (some (.inl (some (qI r1)), s3)) else
  qbind (f_X8_digit  s3) (qvI (fun r4 s4 =>
  (some (.inl (some (qI (((10 : Int32) * r1) + r4))), s4)))) qE0))) qE0)) qE0 else
  (some (.inl (some (qI r1)), s1))))) qE0
def f_X8_sign (a1 : Int32) (s0 : qS) : Option qO :=
  qbind (f_X8_reads a1 a1 s0) (qvI (fun r1 s1 =>
  (some (.inl none, s1)))) qE0
def f_X8_startOf (a1 : Int32) (s0 : qS) : Option qO :=
  (qsw a1 0 [(some (.inl (some (qI ((5 : Int32) * a1))), s0)),
  (some (.inl (some (qI ((5 : Int32) * a1))), s0)),
  (some (.inl (some (qI ((5 : Int32) * a1))), s0)),
  (some (.inl (some (qI ((5 : Int32) * a1))), s0)),
  (some (.inl (some (qI (22 : Int32))), s0)),
  (some (.inl (some (qI (28 : Int32))), s0)),
  (some (.inl (some (qI (35 : Int32))), s0)),
  (some (.inl (some (qI (41 : Int32))), s0))] ((some (.inl (some (qI (45 : Int32))), s0))))
def j_X8_kindHere_135 (v2 : Int32) (w1 : Int32) (s0 : qS) : Option qO :=
  qlet (qu s0 26 0 20 w1) (fun s1 =>
  (if v2 = (-1 : Int32) then qlet (qu s1 26 0 19 ((s1 26 0 19) + (0 : Int32))) (fun s2 =>
  (some (.inl (some (qI v2)), s2))) else
  qbind (f_X8_startOf (v2 + (1 : Int32)) s1) (qvI (fun r1 s3 =>
  qbind (f_X8_startOf v2 s3) (qvI (fun r2 s4 =>
  qlet (qu s4 26 0 19 ((s1 26 0 19) + (r1 - r2))) (fun s5 =>
  (some (.inl (some (qI v2)), s5))))) qE0)) qE0))
def j_X8_kindHere_90 (rk9 : Int32 → Int32 → Int32 → qS → Option qO) (v1 : Int32) (v2 : Int32) (v3 : Int32) (v4 : Int32) (v5 : Int32) (s0 : qS) : Option qO :=
  (if v5 = v4 then rk9 (qmax v1 ((s0 26 0 19) + v5)) v3 (v3 + (1 : Int32)) s0 else
  rk9 (qmax v1 ((s0 26 0 19) + v5)) v2 (v3 + (1 : Int32)) s0)
def b_X8_kindHere_36 (rk9 : Int32 → Int32 → Int32 → qS → Option qO) (rk36 : Int32 → Int32 → Int32 → Int32 → Int32 → qS → Option qO) (v1 : Int32) (v2 : Int32) (v3 : Int32) (v4 : Int32) (v5 : Int32) (s0 : qS) : Option qO :=
  (if v4 ≤ v5 then j_X8_kindHere_90  rk9 v1 v2 v3 v4 v5 s0 else
  (if (s0 26 0 18) ≤ ((s0 26 0 19) + v5) then j_X8_kindHere_90  rk9 v1 v2 v3 v4 v5 s0 else
  (if qin ((s0 26 0 19) + v5) 60 then qbind (f_X8_startOf v3 s0) (qvI (fun r5 s8 =>
  qbind (f_J0_charAt_5068e 8 (r5 + v5) s8) (qvI (fun r6 s9 =>
  (if (s0 35 0 (((s0 26 0 19) + v5)).toNatClampNeg) = r6 then rk36 v1 v2 v3 v4 (v5 + (1 : Int32)) s9 else
  j_X8_kindHere_90  rk9 v1 v2 v3 v4 v5 s9))) qE0)) qE0 else none)))
def l_X8_kindHere_36 (rk9 : Int32 → Int32 → Int32 → qS → Option qO) : Nat → Int32 → Int32 → Int32 → Int32 → Int32 → qS → Option qO
  | 0, _, _, _, _, _, _ => none
  | n + 1, v1, v2, v3, v4, v5, s0 => b_X8_kindHere_36  rk9 (l_X8_kindHere_36  rk9 n) v1 v2 v3 v4 v5 s0
def b_X8_kindHere_9 (rk9 : Int32 → Int32 → Int32 → qS → Option qO) (v1 : Int32) (v2 : Int32) (v3 : Int32) (s0 : qS) : Option qO :=
  (if (8 : Int32) ≤ v3 then (if v2 = (-1 : Int32) then j_X8_kindHere_135  v2 v1 s0 else
  j_X8_kindHere_135  v2 (s0 26 0 20) s0) else
  (if v2 = (-1 : Int32) then qbind (f_X8_startOf (v3 + (1 : Int32)) s0) (qvI (fun r3 s6 =>
  qbind (f_X8_startOf v3 s6) (qvI (fun r4 s7 =>
  l_X8_kindHere_36  rk9 qFU v1 v2 v3 (r3 - r4) (0 : Int32) s7)) qE0)) qE0 else
  (if v2 = (-1 : Int32) then j_X8_kindHere_135  v2 v1 s0 else
  j_X8_kindHere_135  v2 (s0 26 0 20) s0)))
def l_X8_kindHere_9 : Nat → Int32 → Int32 → Int32 → qS → Option qO
  | 0, _, _, _, _ => none
  | n + 1, v1, v2, v3, s0 => b_X8_kindHere_9  (l_X8_kindHere_9  n) v1 v2 v3 s0
def f_X8_kindHere  (s0 : qS) : Option qO :=
  l_X8_kindHere_9  qFU (s0 26 0 19) (-1 : Int32) (0 : Int32) s0
def b_X8_readsTask_2 (rk2 : Int32 → Int32 → qS → Option qO) (v1 : Int32) (v2 : Int32) (s0 : qS) : Option qO :=
  (if (4 : Int32) ≤ v2 then qbind (f_X8_number  s0) (qvI (fun r1 s1 =>
  (if qin (v1 + (4 : Int32)) 150 then qlet (qu s1 37 0 ((v1 + (4 : Int32))).toNatClampNeg r1) (fun s2 =>
  (some (.inl none, s2))) else none))) qE0 else
  qbind (f_X8_digit  s0) (qvI (fun r2 s3 =>
  (if qin (v1 + v2) 150 then qlet (qu s3 37 0 ((v1 + v2)).toNatClampNeg r2) (fun s4 =>
  qbind (f_X8_sign (32 : Int32) s4) (qvV (fun s5 =>
  rk2 v1 (v2 + (1 : Int32)) s5)) qE0) else none))) qE0)
def l_X8_readsTask_2 : Nat → Int32 → Int32 → qS → Option qO
  | 0, _, _, _ => none
  | n + 1, v1, v2, s0 => b_X8_readsTask_2  (l_X8_readsTask_2  n) v1 v2 s0
def f_X8_readsTask (a1 : Int32) (s0 : qS) : Option qO :=
  l_X8_readsTask_2  qFU a1 (1 : Int32) s0
def j_X8_readsCommand_96 (v1 : Int32) (v2 : Int32) (w1 : Int32) (s0 : qS) : Option qO :=
  qbind (f_X8_sign w1 s0) (qvV (fun s7 =>
  (if v2 = (5 : Int32) then qbind (f_X8_digit  s7) (qvI (fun r3 s8 =>
  (if qin (v1 + (2 : Int32)) 150 then qlet (qu s8 37 0 ((v1 + (2 : Int32))).toNatClampNeg r3) (fun s9 =>
  (some (.inl none, s9))) else none))) qE0 else
  qbind (f_X8_number  s7) (qvI (fun r4 s10 =>
  (if qin (v1 + (2 : Int32)) 150 then qlet (qu s10 37 0 ((v1 + (2 : Int32))).toNatClampNeg r4) (fun s11 =>
  (some (.inl none, s11))) else none))) qE0))) qE0
def j_X8_readsCommand_77 (v1 : Int32) (v2 : Int32) (w1 : Int32) (w2 : Int32) (s0 : qS) : Option qO :=
  (if qin w1 150 then qlet (qu s0 37 0 (w1).toNatClampNeg w2) (fun s6 =>
  (if v2 ≤ (1 : Int32) then (some (.inl none, s6)) else
  (if (4 : Int32) ≤ v2 then j_X8_readsCommand_96  v1 v2 (32 : Int32) s6 else
  j_X8_readsCommand_96  v1 v2 (62 : Int32) s6))) else none)
def f_X8_readsCommand  (s0 : qS) : Option qO :=
  qbind (f_X8_kindHere  s0) (qvI (fun r1 s1 =>
  (if qin ((5 : Int32) * (s0 26 0 21)) 150 then qlet (qu s1 37 0 (((5 : Int32) * (s0 26 0 21))).toNatClampNeg r1) (fun s2 =>
  qlet (qu s2 26 0 21 ((s2 26 0 21) + (1 : Int32))) (fun s3 =>
  (if (s3 26 0 20) = (-1 : Int32) then (if r1 = (7 : Int32) then (some (.inl none, s3)) else
  (if r1 = 0 then qbind (f_X8_readsTask ((5 : Int32) * (s0 26 0 21)) s3) (qvV (fun s4 =>
  (some (.inl none, s4)))) qE0 else
  (if r1 = (4 : Int32) then qbind (f_X8_digit  s3) (qvI (fun r2 s5 =>
  j_X8_readsCommand_77  ((5 : Int32) * (s0 26 0 21)) r1 (((5 : Int32) * (s0 26 0 21)) + (1 : Int32)) r2 s5)) qE0 else
  qbind (f_X8_number  s3) (qvI (fun r5 s12 =>
  j_X8_readsCommand_77  ((5 : Int32) * (s0 26 0 21)) r1 (((5 : Int32) * (s0 26 0 21)) + (1 : Int32)) r5 s12)) qE0))) else
  (some (.inl none, s3))))) else none))) qE0
def b_X8_readsAll_32 (rk32 : qS → Option qO) (s0 : qS) : Option qO :=
  (if (s0 26 0 20) = (-1 : Int32) then (if (s0 26 0 18) ≤ (s0 26 0 19) then (some (.inl none, s0)) else
  qbind (f_X8_sign (59 : Int32) s0) (qvV (fun s7 =>
  (if (s7 26 0 20) = (-1 : Int32) then qbind (f_X8_readsCommand  s7) (qvV (fun s8 =>
  rk32  s8)) qE0 else
  rk32  s7))) qE0) else
  (some (.inl none, s0)))
def l_X8_readsAll_32 : Nat → qS → Option qO
  | 0, _ => none
  | n + 1, s0 => b_X8_readsAll_32  (l_X8_readsAll_32  n) s0
def f_X8_readsAll  (s0 : qS) : Option qO :=
  qlet (qu s0 26 0 18 (s0 26 0 14)) (fun s1 =>
  qlet (qu s1 26 0 14 (0 : Int32)) (fun s2 =>
  qlet (qu s2 26 0 19 (0 : Int32)) (fun s3 =>
  qlet (qu s3 26 0 20 (-1 : Int32)) (fun s4 =>
  qlet (qu s4 26 0 21 (0 : Int32)) (fun s5 =>
  qbind (f_X8_readsCommand  s5) (qvV (fun s6 =>
  l_X8_readsAll_32  qFU  s6)) qE0)))))
def f_X8_letterFor (a1 : Int32) (s0 : qS) : Option qO :=
  (if a1 = 0 then (if (s0 26 0 17) = (1 : Int32) then (some (.inl (some (qI (97 : Int32))), s0)) else
  (some (.inl (some (qI (115 : Int32))), s0))) else
  (if a1 = (4 : Int32) then (some (.inl (some (qI (97 : Int32))), s0)) else
  (if (s0 26 0 17) = (1 : Int32) then (some (.inl (some (qI (105 : Int32))), s0)) else
  (if (s0 26 0 17) = (2 : Int32) then (some (.inl (some (qI (97 : Int32))), s0)) else
  (some (.inl (some (qI (117 : Int32))), s0))))))
def f_X8_errorPosition  (s0 : qS) : Option qO :=
  (if (s0 26 0 6) = (-1 : Int32) then qbind (f_X8_goes (0 : Int32) s0) (qvI (fun r1 s1 =>
  (if r1 = 0 then (some (.inl (some (qI (0 : Int32))), s1)) else
  (some (.inl (some (qI (s1 26 0 6))), s1))))) qE0 else
  qbind (f_X8_goes (1 : Int32) s0) (qvI (fun r2 s2 =>
  (if r2 = 0 then (some (.inl (some (qI (0 : Int32))), s2)) else
  (some (.inl (some (qI (s2 26 0 6))), s2))))) qE0)
def f_X8_failedCommand  (s0 : qS) : Option qO :=
  (if (s0 26 0 7) = (-1 : Int32) then qbind (f_X8_goes (0 : Int32) s0) (qvI (fun r1 s1 =>
  (if r1 = 0 then (some (.inl (some (qI (0 : Int32))), s1)) else
  (some (.inl (some (qI (s1 26 0 7))), s1))))) qE0 else
  qbind (f_X8_goes (1 : Int32) s0) (qvI (fun r2 s2 =>
  (if r2 = 0 then (some (.inl (some (qI (0 : Int32))), s2)) else
  (some (.inl (some (qI (s2 26 0 7))), s2))))) qE0)
def f_X8_failureReason  (s0 : qS) : Option qO :=
  (if (s0 26 0 7) = (-1 : Int32) then qbind (f_X8_goes (0 : Int32) s0) (qvI (fun r1 s1 =>
  (if r1 = 0 then (some (.inl (some (qI (0 : Int32))), s1)) else
  (if qch (((s1 26 0 8).toUInt32 % 65536).toInt32) then some (.inl (some (qI (((s1 26 0 8).toUInt32 % 65536).toInt32))), s1) else none)))) qE0 else
  qbind (f_X8_goes (1 : Int32) s0) (qvI (fun r2 s2 =>
  (if r2 = 0 then (some (.inl (some (qI (0 : Int32))), s2)) else
  (if qch (((s2 26 0 8).toUInt32 % 65536).toInt32) then some (.inl (some (qI (((s2 26 0 8).toUInt32 % 65536).toInt32))), s2) else none)))) qE0)
def b_X8_starts_131 (rk119 : Int32 → qS → Option qO) (rk131 : Int32 → Int32 → qS → Option qO) (v2 : Int32) (v3 : Int32) (s0 : qS) : Option qO :=
  (if (s0 27 0 0) ≤ v3 then rk119 (v2 + (1 : Int32)) s0 else
  qbind (f_X8_puts v3 s0) (qvV (fun s2 =>
  rk131 v2 (v3 + (1 : Int32)) s2)) qE0)
def l_X8_starts_131 (rk119 : Int32 → qS → Option qO) : Nat → Int32 → Int32 → qS → Option qO
  | 0, _, _, _ => none
  | n + 1, v2, v3, s0 => b_X8_starts_131  rk119 (l_X8_starts_131  rk119 n) v2 v3 s0
def b_X8_starts_119 (rk119 : Int32 → qS → Option qO) (v2 : Int32) (s0 : qS) : Option qO :=
  (if (s0 27 0 0) ≤ v2 then (some (.inl none, s0)) else
  l_X8_starts_131  rk119 qFU v2 (0 : Int32) s0)
def l_X8_starts_119 : Nat → Int32 → qS → Option qO
  | 0, _, _ => none
  | n + 1, v2, s0 => b_X8_starts_119  (l_X8_starts_119  n) v2 s0
def b_X8_starts_87 (rk87 : Int32 → Int32 → qS → Option qO) (v1 : Int32) (v2 : Int32) (s0 : qS) : Option qO :=
  (if (s0 27 0 0) ≤ v2 then l_X8_starts_119  qFU (0 : Int32) s0 else
  qbind (f_X8_of v2 (0 : Int32) s0) (qvI (fun r2 s3 =>
  (if qin v2 12 then qlet (qu s3 32 0 (v2).toNatClampNeg (v1 - r2)) (fun s4 =>
  rk87 v1 (v2 + (1 : Int32)) s4) else none))) qE0)
def l_X8_starts_87 : Nat → Int32 → Int32 → qS → Option qO
  | 0, _, _, _ => none
  | n + 1, v1, v2, s0 => b_X8_starts_87  (l_X8_starts_87  n) v1 v2 s0
def b_X8_starts_39 (rk27 : Int32 → qS → Option qO) (rk39 : Int32 → Int32 → qS → Option qO) (v1 : Int32) (v2 : Int32) (s0 : qS) : Option qO :=
  (if (s0 27 0 0) ≤ v2 then rk27 (v1 + (1 : Int32)) s0 else
  qbind (f_X8_soonest v2 31 0 s0) (qvI (fun r3 s5 =>
  (if qin v2 12 then qlet (qu s5 31 0 (v2).toNatClampNeg r3) (fun s6 =>
  rk39 v1 (v2 + (1 : Int32)) s6) else none))) qE0)
def l_X8_starts_39 (rk27 : Int32 → qS → Option qO) : Nat → Int32 → Int32 → qS → Option qO
  | 0, _, _, _ => none
  | n + 1, v1, v2, s0 => b_X8_starts_39  rk27 (l_X8_starts_39  rk27 n) v1 v2 s0
def b_X8_starts_27 (rk27 : Int32 → qS → Option qO) (v1 : Int32) (s0 : qS) : Option qO :=
  (if (s0 27 0 0) ≤ v1 then qbind (f_X8_lastOf 31 0 s0) (qvI (fun r1 s1 =>
  l_X8_starts_87  qFU r1 (0 : Int32) s1)) qE0 else
  l_X8_starts_39  rk27 qFU v1 (0 : Int32) s0)
def l_X8_starts_27 : Nat → Int32 → qS → Option qO
  | 0, _, _ => none
  | n + 1, v1, s0 => b_X8_starts_27  (l_X8_starts_27  n) v1 s0
def b_X8_starts_2 (rk2 : Int32 → qS → Option qO) (v1 : Int32) (s0 : qS) : Option qO :=
  (if (s0 27 0 0) ≤ v1 then l_X8_starts_27  qFU (0 : Int32) s0 else
  (if qin v1 12 then qlet (qu s0 31 0 (v1).toNatClampNeg (0 : Int32)) (fun s7 =>
  rk2 (v1 + (1 : Int32)) s7) else none))
def l_X8_starts_2 : Nat → Int32 → qS → Option qO
  | 0, _, _ => none
  | n + 1, v1, s0 => b_X8_starts_2  (l_X8_starts_2  n) v1 s0
def f_X8_starts  (s0 : qS) : Option qO :=
  l_X8_starts_2  qFU (0 : Int32) s0
def b_X8_levels_169 (rk30 : Int32 → Int32 → qS → Option qO) (rk169 : Int32 → Int32 → Int32 → Int32 → Int32 → qS → Option qO) (v1 : Int32) (v2 : Int32) (v3 : Int32) (v4 : Int32) (v5 : Int32) (s0 : qS) : Option qO :=
  qbind (f_X8_of v3 (0 : Int32) s0) (qvI (fun r3 s5 =>
  (if r3 ≤ v5 then rk30 v1 (v2 + (1 : Int32)) s5 else
  qbind (f_X8_of v3 (1 : Int32) s5) (qvI (fun r4 s6 =>
  (if qin ((((160 : Int32) * r4) + v4) + v5) 480 then qbind (f_X8_of v3 (2 : Int32) s6) (qvI (fun r5 s7 =>
  (if qin ((((160 : Int32) * r4) + v4) + v5) 480 then qlet (qu s7 34 0 (((((160 : Int32) * r4) + v4) + v5)).toNatClampNeg ((s6 34 0 (((((160 : Int32) * r4) + v4) + v5)).toNatClampNeg) + r5)) (fun s8 =>
  rk169 v1 v2 v3 v4 (v5 + (1 : Int32)) s8) else none))) qE0 else none))) qE0))) qE0
def l_X8_levels_169 (rk30 : Int32 → Int32 → qS → Option qO) : Nat → Int32 → Int32 → Int32 → Int32 → Int32 → qS → Option qO
  | 0, _, _, _, _, _, _ => none
  | n + 1, v1, v2, v3, v4, v5, s0 => b_X8_levels_169  rk30 (l_X8_levels_169  rk30 n) v1 v2 v3 v4 v5 s0
def b_X8_levels_136 (rk30 : Int32 → Int32 → qS → Option qO) (rk136 : Int32 → Int32 → Int32 → Int32 → qS → Option qO) (v1 : Int32) (v2 : Int32) (v3 : Int32) (v4 : Int32) (s0 : qS) : Option qO :=
  qbind (f_X8_hasRoom v3 v4 s0) (qvI (fun r2 s3 =>
  (if r2 = 0 then rk136 v1 v2 v3 (v4 + (1 : Int32)) s3 else
  (if qin v3 12 then qlet (qu s3 33 0 (v3).toNatClampNeg v4) (fun s4 =>
  l_X8_levels_169  rk30 qFU (v1 ||| ((1 : Int32) <<< (v3 &&& 31))) v2 v3 v4 (0 : Int32) s4) else none)))) qE0
def l_X8_levels_136 (rk30 : Int32 → Int32 → qS → Option qO) : Nat → Int32 → Int32 → Int32 → Int32 → qS → Option qO
  | 0, _, _, _, _, _ => none
  | n + 1, v1, v2, v3, v4, s0 => b_X8_levels_136  rk30 (l_X8_levels_136  rk30 n) v1 v2 v3 v4 s0
def j_X8_levels_84 (rk30 : Int32 → Int32 → qS → Option qO) (rk45 : Int32 → Int32 → Int32 → Int32 → qS → Option qO) (v1 : Int32) (v2 : Int32) (v3 : Int32) (v4 : Int32) (w0 : Int32) (s0 : qS) : Option qO :=
  (if w0 = 0 then rk45 v1 v2 v3 (v4 + (1 : Int32)) s0 else
  (if v3 = (-1 : Int32) then rk45 v1 v2 v4 (v4 + (1 : Int32)) s0 else
  (if qin v4 12 then (if qin v3 12 then (if (s0 32 0 (v3).toNatClampNeg) ≤ (s0 32 0 (v4).toNatClampNeg) then rk45 v1 v2 v3 (v4 + (1 : Int32)) s0 else
  rk45 v1 v2 v4 (v4 + (1 : Int32)) s0) else none) else none)))
def b_X8_levels_45 (rk30 : Int32 → Int32 → qS → Option qO) (rk45 : Int32 → Int32 → Int32 → Int32 → qS → Option qO) (v1 : Int32) (v2 : Int32) (v3 : Int32) (v4 : Int32) (s0 : qS) : Option qO :=
  (if (s0 27 0 0) ≤ v4 then qbind (f_X8_soonest v3 33 0 s0) (qvI (fun r1 s2 =>
  l_X8_levels_136  rk30 qFU v1 v2 v3 r1 s2)) qE0 else
  (if ((v1 >>> (v4 &&& 31)) &&& (1 : Int32)) = 0 then qbind (f_X8_of v4 (4 : Int32) s0) (qvI (fun r6 s9 =>
  (if (r6 &&& (v1 ^^^ (-1 : Int32))) = 0 then j_X8_levels_84  rk30 rk45 v1 v2 v3 v4 (1 : Int32) s9 else
  j_X8_levels_84  rk30 rk45 v1 v2 v3 v4 (0 : Int32) s9))) qE0 else
  j_X8_levels_84  rk30 rk45 v1 v2 v3 v4 (0 : Int32) s0))
def l_X8_levels_45 (rk30 : Int32 → Int32 → qS → Option qO) : Nat → Int32 → Int32 → Int32 → Int32 → qS → Option qO
  | 0, _, _, _, _, _ => none
  | n + 1, v1, v2, v3, v4, s0 => b_X8_levels_45  rk30 (l_X8_levels_45  rk30 n) v1 v2 v3 v4 s0
def b_X8_levels_30 (rk30 : Int32 → Int32 → qS → Option qO) (v1 : Int32) (v2 : Int32) (s0 : qS) : Option qO :=
  (if (s0 27 0 0) ≤ v2 then (some (.inl none, s0)) else
  l_X8_levels_45  rk30 qFU v1 v2 (-1 : Int32) (0 : Int32) s0)
def l_X8_levels_30 : Nat → Int32 → Int32 → qS → Option qO
  | 0, _, _, _ => none
  | n + 1, v1, v2, s0 => b_X8_levels_30  (l_X8_levels_30  n) v1 v2 s0
def b_X8_levels_6 (rk6 : Int32 → qS → Option qO) (v1 : Int32) (s0 : qS) : Option qO :=
  (if (480 : Int32) ≤ v1 then l_X8_levels_30  qFU (0 : Int32) (0 : Int32) s0 else
  (if qin v1 480 then qlet (qu s0 34 0 (v1).toNatClampNeg (0 : Int32)) (fun s10 =>
  rk6 (v1 + (1 : Int32)) s10) else none))
def l_X8_levels_6 : Nat → Int32 → qS → Option qO
  | 0, _, _ => none
  | n + 1, v1, s0 => b_X8_levels_6  (l_X8_levels_6  n) v1 s0
def f_X8_levels  (s0 : qS) : Option qO :=
  qbind (f_X8_starts  s0) (qvV (fun s1 =>
  l_X8_levels_6  qFU (0 : Int32) s1)) qE0
def f_X8_early (a1 : Int32) (s0 : qS) : Option qO :=
  qbind (f_X8_starts  s0) (qvV (fun s1 =>
  qbind (f_X8_isTask a1 s1) (qvI (fun r1 s2 =>
  qbind (f_X8_goes r1 s2) (qvI (fun r2 s3 =>
  (if r2 = 0 then (some (.inl (some (qI (0 : Int32))), s3)) else
  (if qin a1 12 then (some (.inl (some (qI (s3 31 0 (a1).toNatClampNeg))), s3)) else none)))) qE0)) qE0)) qE0
def f_X8_earliestStart (a1 : Int32) (s0 : qS) : Option qO :=
  qbind (f_X8_early a1 s0) (qvI (fun r1 s1 =>
  (some (.inl (some (qI r1)), s1)))) qE0
def f_X8_earliestStartByRounds (a1 : Int32) (s0 : qS) : Option qO :=
  qbind (f_X8_early a1 s0) (qvI (fun r1 s1 =>
  (some (.inl (some (qI r1)), s1)))) qE0
def f_X8_latestStart (a1 : Int32) (s0 : qS) : Option qO :=
  qbind (f_X8_starts  s0) (qvV (fun s1 =>
  qbind (f_X8_isTask a1 s1) (qvI (fun r1 s2 =>
  qbind (f_X8_goes r1 s2) (qvI (fun r2 s3 =>
  (if r2 = 0 then (some (.inl (some (qI (0 : Int32))), s3)) else
  (if qin a1 12 then (some (.inl (some (qI (s3 32 0 (a1).toNatClampNeg))), s3)) else none)))) qE0)) qE0)) qE0
def f_X8_slack (a1 : Int32) (s0 : qS) : Option qO :=
  qbind (f_X8_starts  s0) (qvV (fun s1 =>
  qbind (f_X8_isTask a1 s1) (qvI (fun r1 s2 =>
  qbind (f_X8_goes r1 s2) (qvI (fun r2 s3 =>
  (if r2 = 0 then (some (.inl (some (qI (0 : Int32))), s3)) else
  (if qin a1 12 then (if qin a1 12 then (some (.inl (some (qI ((s3 32 0 (a1).toNatClampNeg) - (s3 31 0 (a1).toNatClampNeg)))), s3)) else none) else none)))) qE0)) qE0)) qE0
def f_X8_isCritical (a1 : Int32) (s0 : qS) : Option qO :=
  qbind (f_X8_starts  s0) (qvV (fun s1 =>
  qbind (f_X8_isTask a1 s1) (qvI (fun r1 s2 =>
  qbind (f_X8_goes r1 s2) (qvI (fun r2 s3 =>
  (if r2 = 0 then (some (.inl (some (qI (0 : Int32))), s3)) else
  (if qin a1 12 then (if qin a1 12 then (if (s3 32 0 (a1).toNatClampNeg) = (s3 31 0 (a1).toNatClampNeg) then (some (.inl (some (qI (1 : Int32))), s3)) else
  (some (.inl (some (qI (0 : Int32))), s3))) else none) else none)))) qE0)) qE0)) qE0
def f_X8_projectLength  (s0 : qS) : Option qO :=
  qlet (qu s0 26 0 17 (0 : Int32)) (fun s1 =>
  qbind (f_X8_starts  s1) (qvV (fun s2 =>
  qbind (f_X8_lastOf 31 0 s2) (qvI (fun r1 s3 =>
  (some (.inl (some (qI r1)), s3)))) qE0)) qE0)
def b_X8_criticalCount_13 (rk13 : Int32 → Int32 → qS → Option qO) (v1 : Int32) (v2 : Int32) (s0 : qS) : Option qO :=
  (if (s0 27 0 0) ≤ v2 then (some (.inl (some (qI v1)), s0)) else
  (if qin v2 12 then (if qin v2 12 then (if (s0 32 0 (v2).toNatClampNeg) = (s0 31 0 (v2).toNatClampNeg) then rk13 (v1 + (1 : Int32)) (v2 + (1 : Int32)) s0 else
  rk13 (v1 + (0 : Int32)) (v2 + (1 : Int32)) s0) else none) else none))
def l_X8_criticalCount_13 : Nat → Int32 → Int32 → qS → Option qO
  | 0, _, _, _ => none
  | n + 1, v1, v2, s0 => b_X8_criticalCount_13  (l_X8_criticalCount_13  n) v1 v2 s0
def f_X8_criticalCount  (s0 : qS) : Option qO :=
  qlet (qu s0 26 0 17 (0 : Int32)) (fun s1 =>
  qbind (f_X8_starts  s1) (qvV (fun s2 =>
  l_X8_criticalCount_13  qFU (0 : Int32) (0 : Int32) s2)) qE0)
def b_X8_lastTask_24 (rk24 : Int32 → Int32 → Int32 → qS → Option qO) (v1 : Int32) (v2 : Int32) (v3 : Int32) (s0 : qS) : Option qO :=
  (if v3 < 0 then (if v2 = (-1 : Int32) then qbind (f_X8_goes (0 : Int32) s0) (qvI (fun r2 s3 =>
  (if r2 = 0 then (some (.inl (some (qI (0 : Int32))), s3)) else
  (some (.inl (some (qI v2)), s3))))) qE0 else
  qbind (f_X8_goes (1 : Int32) s0) (qvI (fun r3 s4 =>
  (if r3 = 0 then (some (.inl (some (qI (0 : Int32))), s4)) else
  (some (.inl (some (qI v2)), s4))))) qE0) else
  (if qin v3 12 then qbind (f_X8_of v3 (0 : Int32) s0) (qvI (fun r4 s5 =>
  (if ((s0 31 0 (v3).toNatClampNeg) + r4) = v1 then rk24 v1 v3 (v3 + (-1 : Int32)) s5 else
  rk24 v1 v2 (v3 + (-1 : Int32)) s5))) qE0 else none))
def l_X8_lastTask_24 : Nat → Int32 → Int32 → Int32 → qS → Option qO
  | 0, _, _, _, _ => none
  | n + 1, v1, v2, v3, s0 => b_X8_lastTask_24  (l_X8_lastTask_24  n) v1 v2 v3 s0
def f_X8_lastTask  (s0 : qS) : Option qO :=
  qbind (f_X8_starts  s0) (qvV (fun s1 =>
  qbind (f_X8_lastOf 31 0 s1) (qvI (fun r1 s2 =>
  l_X8_lastTask_24  qFU r1 (-1 : Int32) ((s2 27 0 0) - (1 : Int32)) s2)) qE0)) qE0
def f_X8_levelledStart (a1 : Int32) (s0 : qS) : Option qO :=
  qbind (f_X8_levels  s0) (qvV (fun s1 =>
  qbind (f_X8_isTask a1 s1) (qvI (fun r1 s2 =>
  qbind (f_X8_goes r1 s2) (qvI (fun r2 s3 =>
  (if r2 = 0 then (some (.inl (some (qI (0 : Int32))), s3)) else
  (if qin a1 12 then (some (.inl (some (qI (s3 33 0 (a1).toNatClampNeg))), s3)) else none)))) qE0)) qE0)) qE0
def f_X8_levelledLength  (s0 : qS) : Option qO :=
  qlet (qu s0 26 0 17 (0 : Int32)) (fun s1 =>
  qbind (f_X8_levels  s1) (qvV (fun s2 =>
  qbind (f_X8_lastOf 33 0 s2) (qvI (fun r1 s3 =>
  (some (.inl (some (qI r1)), s3)))) qE0)) qE0)
def j_X8_usageOn_21 (v1 : Int32) (v2 : Int32) (w1 : Int32) (s0 : qS) : Option qO :=
  qbind (f_X8_goes w1 s0) (qvI (fun r2 s3 =>
  (if r2 = 0 then (some (.inl (some (qI (0 : Int32))), s3)) else
  (if (160 : Int32) ≤ v2 then (some (.inl (some (qI (0 : Int32))), s3)) else
  (if qin (((160 : Int32) * v1) + v2) 480 then (some (.inl (some (qI (s3 34 0 ((((160 : Int32) * v1) + v2)).toNatClampNeg))), s3)) else none))))) qE0
def f_X8_usageOn (a1 : Int32) (a2 : Int32) (s0 : qS) : Option qO :=
  qbind (f_X8_levels  s0) (qvV (fun s1 =>
  qbind (f_X8_isResource a1 s1) (qvI (fun r1 s2 =>
  (if r1 = 0 then j_X8_usageOn_21  a1 a2 (0 : Int32) s2 else
  (if a2 < 0 then j_X8_usageOn_21  a1 a2 (0 : Int32) s2 else
  j_X8_usageOn_21  a1 a2 (1 : Int32) s2)))) qE0)) qE0
def f_X8_usage (a1 : Int32) (a2 : Int32) (s0 : qS) : Option qO :=
  qbind (f_X8_usageOn a1 a2 s0) (qvI (fun r1 s1 =>
  (some (.inl (some (qI r1)), s1)))) qE0
def f_X8_usageByTasks (a1 : Int32) (a2 : Int32) (s0 : qS) : Option qO :=
  qbind (f_X8_usageOn a1 a2 s0) (qvI (fun r1 s1 =>
  (some (.inl (some (qI r1)), s1)))) qE0
def b_X8_peakUsage_21 (rk21 : Int32 → Int32 → Int32 → qS → Option qO) (v1 : Int32) (v2 : Int32) (v3 : Int32) (s0 : qS) : Option qO :=
  (if (160 : Int32) ≤ v3 then (some (.inl (some (qI v2)), s0)) else
  (if qin (((160 : Int32) * v1) + v3) 480 then rk21 v1 (qmax v2 (s0 34 0 ((((160 : Int32) * v1) + v3)).toNatClampNeg)) (v3 + (1 : Int32)) s0 else none))
def l_X8_peakUsage_21 : Nat → Int32 → Int32 → Int32 → qS → Option qO
  | 0, _, _, _, _ => none
  | n + 1, v1, v2, v3, s0 => b_X8_peakUsage_21  (l_X8_peakUsage_21  n) v1 v2 v3 s0
def f_X8_peakUsage (a1 : Int32) (s0 : qS) : Option qO :=
  qbind (f_X8_isResource a1 s0) (qvI (fun r1 s1 =>
  qbind (f_X8_goes r1 s1) (qvI (fun r2 s2 =>
  (if r2 = 0 then (some (.inl (some (qI (0 : Int32))), s2)) else
  qbind (f_X8_levels  s2) (qvV (fun s3 =>
  l_X8_peakUsage_21  qFU a1 (0 : Int32) (0 : Int32) s3)) qE0))) qE0)) qE0
def b_X8_tasksOn_26 (rk26 : Int32 → Int32 → Int32 → qS → Option qO) (v1 : Int32) (v2 : Int32) (v3 : Int32) (s0 : qS) : Option qO :=
  (if (s0 27 0 0) ≤ v3 then (some (.inl (some (qI v2)), s0)) else
  (if qin v3 12 then (if qin v3 12 then qbind (f_X8_of v3 (0 : Int32) s0) (qvI (fun r2 s3 =>
  qbind (f_X8_isIn v1 (s0 33 0 (v3).toNatClampNeg) (((s0 33 0 (v3).toNatClampNeg) + r2) - (1 : Int32)) s3) (qvI (fun r3 s4 =>
  (if r3 = 0 then rk26 v1 (v2 + (0 : Int32)) (v3 + (1 : Int32)) s4 else
  rk26 v1 (v2 + (1 : Int32)) (v3 + (1 : Int32)) s4))) qE0)) qE0 else none) else none))
def l_X8_tasksOn_26 : Nat → Int32 → Int32 → Int32 → qS → Option qO
  | 0, _, _, _, _ => none
  | n + 1, v1, v2, v3, s0 => b_X8_tasksOn_26  (l_X8_tasksOn_26  n) v1 v2 v3 s0
def f_X8_tasksOn (a1 : Int32) (s0 : qS) : Option qO :=
  (if a1 < 0 then qbind (f_X8_goes (0 : Int32) s0) (qvI (fun r1 s1 =>
  (if r1 = 0 then (some (.inl (some (qI (0 : Int32))), s1)) else
  qbind (f_X8_levels  s1) (qvV (fun s2 =>
  l_X8_tasksOn_26  qFU a1 (0 : Int32) (0 : Int32) s2)) qE0))) qE0 else
  qbind (f_X8_goes (1 : Int32) s0) (qvI (fun r4 s5 =>
  (if r4 = 0 then (some (.inl (some (qI (0 : Int32))), s5)) else
  qbind (f_X8_levels  s5) (qvV (fun s6 =>
  l_X8_tasksOn_26  qFU a1 (0 : Int32) (0 : Int32) s6)) qE0))) qE0)
def j_X8_drift_25 (v1 : Int32) (w1 : Int32) (w2 : Int32) (s0 : qS) : Option qO :=
  qbind (f_X8_holds w1 w2 (1 : Int32) s0) (qvI (fun r3 s4 =>
  (if r3 = 0 then (some (.inl (some (qI (0 : Int32))), s4)) else
  (if qin v1 12 then qbind (f_X8_of v1 (5 : Int32) s4) (qvI (fun r4 s5 =>
  (some (.inl (some (qI ((s4 33 0 (v1).toNatClampNeg) - r4))), s5)))) qE0 else none)))) qE0
def f_X8_drift (a1 : Int32) (s0 : qS) : Option qO :=
  qbind (f_X8_levels  s0) (qvV (fun s1 =>
  qbind (f_X8_isTask a1 s1) (qvI (fun r1 s2 =>
  qbind (f_X8_of a1 (5 : Int32) s2) (qvI (fun r2 s3 =>
  (if r2 = (-1 : Int32) then j_X8_drift_25  a1 r1 (0 : Int32) s3 else
  j_X8_drift_25  a1 r1 (1 : Int32) s3))) qE0)) qE0)) qE0
def b_X8_totalDrift_8 (rk8 : Int32 → Int32 → qS → Option qO) (v1 : Int32) (v2 : Int32) (s0 : qS) : Option qO :=
  (if (s0 27 0 0) ≤ v2 then (if (s0 27 0 1) = (1 : Int32) then qbind (f_X8_goes (1 : Int32) s0) (qvI (fun r1 s2 =>
  (if r1 = 0 then (some (.inl (some (qI (0 : Int32))), s2)) else
  (some (.inl (some (qI v1)), s2))))) qE0 else
  qbind (f_X8_goes (0 : Int32) s0) (qvI (fun r2 s3 =>
  (if r2 = 0 then (some (.inl (some (qI (0 : Int32))), s3)) else
  (some (.inl (some (qI v1)), s3))))) qE0) else
  qbind (f_X8_of v2 (5 : Int32) s0) (qvI (fun r3 s4 =>
  (if r3 = (-1 : Int32) then rk8 (v1 + (0 : Int32)) (v2 + (1 : Int32)) s4 else
  (if qin v2 12 then qbind (f_X8_of v2 (5 : Int32) s4) (qvI (fun r4 s5 =>
  rk8 (v1 + (qabs ((s4 33 0 (v2).toNatClampNeg) - r4))) (v2 + (1 : Int32)) s5)) qE0 else none)))) qE0)
def l_X8_totalDrift_8 : Nat → Int32 → Int32 → qS → Option qO
  | 0, _, _, _ => none
  | n + 1, v1, v2, s0 => b_X8_totalDrift_8  (l_X8_totalDrift_8  n) v1 v2 s0
def f_X8_totalDrift  (s0 : qS) : Option qO :=
  qbind (f_X8_levels  s0) (qvV (fun s1 =>
  l_X8_totalDrift_8  qFU (0 : Int32) (0 : Int32) s1)) qE0
def b_X8_taskBySlack_24 (rk8 : Int32 → Int32 → Int32 → qS → Option qO) (rk24 : Int32 → Int32 → Int32 → Int32 → Int32 → qS → Option qO) (v1 : Int32) (v2 : Int32) (v3 : Int32) (v4 : Int32) (v5 : Int32) (s0 : qS) : Option qO :=
  (if (s0 27 0 0) ≤ v5 then (if v4 = v1 then rk8 v1 v3 (v3 + (1 : Int32)) s0 else
  rk8 v1 v2 (v3 + (1 : Int32)) s0) else
  (if qin v3 12 then (if qin v3 12 then (if qin v5 12 then (if qin v5 12 then qbind (f_X8_of v5 (0 : Int32) s0) (qvI (fun r3 s4 =>
  qbind (f_X8_of v3 (0 : Int32) s4) (qvI (fun r4 s5 =>
  (if 0 < ((((s0 32 0 (v3).toNatClampNeg) - (s0 31 0 (v3).toNatClampNeg)) - (s0 32 0 (v5).toNatClampNeg)) + (s0 31 0 (v5).toNatClampNeg)) then rk24 v1 v2 v3 (v4 + (1 : Int32)) (v5 + (1 : Int32)) s5 else
  (if ((((s0 32 0 (v3).toNatClampNeg) - (s0 31 0 (v3).toNatClampNeg)) - (s0 32 0 (v5).toNatClampNeg)) + (s0 31 0 (v5).toNatClampNeg)) = 0 then (if 0 < (r3 - r4) then rk24 v1 v2 v3 (v4 + (1 : Int32)) (v5 + (1 : Int32)) s5 else
  (if (r3 - r4) = 0 then (if v3 ≤ v5 then rk24 v1 v2 v3 (v4 + (0 : Int32)) (v5 + (1 : Int32)) s5 else
  rk24 v1 v2 v3 (v4 + (1 : Int32)) (v5 + (1 : Int32)) s5) else
  rk24 v1 v2 v3 (v4 + (0 : Int32)) (v5 + (1 : Int32)) s5)) else
  rk24 v1 v2 v3 (v4 + (0 : Int32)) (v5 + (1 : Int32)) s5)))) qE0)) qE0 else none) else none) else none) else none))
def l_X8_taskBySlack_24 (rk8 : Int32 → Int32 → Int32 → qS → Option qO) : Nat → Int32 → Int32 → Int32 → Int32 → Int32 → qS → Option qO
  | 0, _, _, _, _, _, _ => none
  | n + 1, v1, v2, v3, v4, v5, s0 => b_X8_taskBySlack_24  rk8 (l_X8_taskBySlack_24  rk8 n) v1 v2 v3 v4 v5 s0
def b_X8_taskBySlack_8 (rk8 : Int32 → Int32 → Int32 → qS → Option qO) (v1 : Int32) (v2 : Int32) (v3 : Int32) (s0 : qS) : Option qO :=
  (if (s0 27 0 0) ≤ v3 then (if v2 = (-1 : Int32) then qbind (f_X8_goes (0 : Int32) s0) (qvI (fun r1 s2 =>
  (if r1 = 0 then (some (.inl (some (qI (0 : Int32))), s2)) else
  (some (.inl (some (qI v2)), s2))))) qE0 else
  qbind (f_X8_goes (1 : Int32) s0) (qvI (fun r2 s3 =>
  (if r2 = 0 then (some (.inl (some (qI (0 : Int32))), s3)) else
  (some (.inl (some (qI v2)), s3))))) qE0) else
  l_X8_taskBySlack_24  rk8 qFU v1 v2 v3 (0 : Int32) (0 : Int32) s0)
def l_X8_taskBySlack_8 : Nat → Int32 → Int32 → Int32 → qS → Option qO
  | 0, _, _, _, _ => none
  | n + 1, v1, v2, v3, s0 => b_X8_taskBySlack_8  (l_X8_taskBySlack_8  n) v1 v2 v3 s0
def f_X8_taskBySlack (a1 : Int32) (s0 : qS) : Option qO :=
  qbind (f_X8_starts  s0) (qvV (fun s1 =>
  l_X8_taskBySlack_8  qFU a1 (-1 : Int32) (0 : Int32) s1)) qE0
def b_X8_taskByStart_24 (rk8 : Int32 → Int32 → Int32 → qS → Option qO) (rk24 : Int32 → Int32 → Int32 → Int32 → Int32 → qS → Option qO) (v1 : Int32) (v2 : Int32) (v3 : Int32) (v4 : Int32) (v5 : Int32) (s0 : qS) : Option qO :=
  (if (s0 27 0 0) ≤ v5 then (if v4 = v1 then rk8 v1 v3 (v3 + (1 : Int32)) s0 else
  rk8 v1 v2 (v3 + (1 : Int32)) s0) else
  (if qin v3 12 then (if qin v5 12 then qbind (f_X8_of v5 (2 : Int32) s0) (qvI (fun r3 s4 =>
  qbind (f_X8_of v3 (2 : Int32) s4) (qvI (fun r4 s5 =>
  (if 0 < ((s0 33 0 (v3).toNatClampNeg) - (s0 33 0 (v5).toNatClampNeg)) then rk24 v1 v2 v3 (v4 + (1 : Int32)) (v5 + (1 : Int32)) s5 else
  (if ((s0 33 0 (v3).toNatClampNeg) - (s0 33 0 (v5).toNatClampNeg)) = 0 then (if 0 < (r3 - r4) then rk24 v1 v2 v3 (v4 + (1 : Int32)) (v5 + (1 : Int32)) s5 else
  (if (r3 - r4) = 0 then (if v3 ≤ v5 then rk24 v1 v2 v3 (v4 + (0 : Int32)) (v5 + (1 : Int32)) s5 else
  rk24 v1 v2 v3 (v4 + (1 : Int32)) (v5 + (1 : Int32)) s5) else
  rk24 v1 v2 v3 (v4 + (0 : Int32)) (v5 + (1 : Int32)) s5)) else
  rk24 v1 v2 v3 (v4 + (0 : Int32)) (v5 + (1 : Int32)) s5)))) qE0)) qE0 else none) else none))
def l_X8_taskByStart_24 (rk8 : Int32 → Int32 → Int32 → qS → Option qO) : Nat → Int32 → Int32 → Int32 → Int32 → Int32 → qS → Option qO
  | 0, _, _, _, _, _, _ => none
  | n + 1, v1, v2, v3, v4, v5, s0 => b_X8_taskByStart_24  rk8 (l_X8_taskByStart_24  rk8 n) v1 v2 v3 v4 v5 s0
def b_X8_taskByStart_8 (rk8 : Int32 → Int32 → Int32 → qS → Option qO) (v1 : Int32) (v2 : Int32) (v3 : Int32) (s0 : qS) : Option qO :=
  (if (s0 27 0 0) ≤ v3 then (if v2 = (-1 : Int32) then qbind (f_X8_goes (0 : Int32) s0) (qvI (fun r1 s2 =>
  (if r1 = 0 then (some (.inl (some (qI (0 : Int32))), s2)) else
  (some (.inl (some (qI v2)), s2))))) qE0 else
  qbind (f_X8_goes (1 : Int32) s0) (qvI (fun r2 s3 =>
  (if r2 = 0 then (some (.inl (some (qI (0 : Int32))), s3)) else
  (some (.inl (some (qI v2)), s3))))) qE0) else
  l_X8_taskByStart_24  rk8 qFU v1 v2 v3 (0 : Int32) (0 : Int32) s0)
def l_X8_taskByStart_8 : Nat → Int32 → Int32 → Int32 → qS → Option qO
  | 0, _, _, _, _ => none
  | n + 1, v1, v2, v3, s0 => b_X8_taskByStart_8  (l_X8_taskByStart_8  n) v1 v2 v3 s0
def f_X8_taskByStart (a1 : Int32) (s0 : qS) : Option qO :=
  qbind (f_X8_levels  s0) (qvV (fun s1 =>
  l_X8_taskByStart_8  qFU a1 (-1 : Int32) (0 : Int32) s1)) qE0
def b_X8_meanSlack_8 (rk8 : Int32 → Int32 → qS → Option qO) (v1 : Int32) (v2 : Int32) (s0 : qS) : Option qO :=
  (if (s0 27 0 0) ≤ v2 then (if (s0 27 0 0) ≤ 0 then qbind (f_X8_goes (0 : Int32) s0) (qvI (fun r1 s2 =>
  (if r1 = 0 then (some (.inl (some (.inl (.double 0))), s2)) else
  (if qn64 (FP.ddiv (FP.i2d v1) (FP.i2d (s2 27 0 0))) then (some (.inl (some (.inl (.double (FP.ddiv (FP.i2d v1) (FP.i2d (s2 27 0 0)))))), s2)) else none)))) qE0 else
  qbind (f_X8_goes (1 : Int32) s0) (qvI (fun r2 s3 =>
  (if r2 = 0 then (some (.inl (some (.inl (.double 0))), s3)) else
  (if qn64 (FP.ddiv (FP.i2d v1) (FP.i2d (s3 27 0 0))) then (some (.inl (some (.inl (.double (FP.ddiv (FP.i2d v1) (FP.i2d (s3 27 0 0)))))), s3)) else none)))) qE0) else
  (if qin v2 12 then (if qin v2 12 then rk8 (v1 + ((s0 32 0 (v2).toNatClampNeg) - (s0 31 0 (v2).toNatClampNeg))) (v2 + (1 : Int32)) s0 else none) else none))
def l_X8_meanSlack_8 : Nat → Int32 → Int32 → qS → Option qO
  | 0, _, _, _ => none
  | n + 1, v1, v2, s0 => b_X8_meanSlack_8  (l_X8_meanSlack_8  n) v1 v2 s0
def f_X8_meanSlack  (s0 : qS) : Option qO :=
  qbind (f_X8_starts  s0) (qvV (fun s1 =>
  l_X8_meanSlack_8  qFU (0 : Int32) (0 : Int32) s1)) qE0
def j_X8_utilization_29 (v1 : Int32) (v2 : Int32) (w1 : Int32) (w2 : Int32) (s0 : qS) : Option qO :=
  qbind (f_X8_holds w1 w2 (1 : Int32) s0) (qvI (fun r3 s4 =>
  (if r3 = 0 then (some (.inl (some (.inl (.float 0))), s4)) else
  (if qin ((2 : Int32) + v1) 77 then qbind (f_X8_lastOf 33 0 s4) (qvI (fun r4 s5 =>
  (if qn32 (FP.fdiv (FP.i2f v2) (FP.i2f ((s4 27 0 (((2 : Int32) + v1)).toNatClampNeg) * r4))) then (some (.inl (some (.inl (.float (FP.fdiv (FP.i2f v2) (FP.i2f ((s4 27 0 (((2 : Int32) + v1)).toNatClampNeg) * r4)))))), s5)) else none))) qE0 else none)))) qE0
def f_X8_utilization (a1 : Int32) (s0 : qS) : Option qO :=
  qbind (f_X8_work a1 s0) (qvI (fun r1 s1 =>
  qbind (f_X8_levels  s1) (qvV (fun s2 =>
  qbind (f_X8_isResource a1 s2) (qvI (fun r2 s3 =>
  (if (s3 27 0 0) ≤ 0 then j_X8_utilization_29  a1 r1 r2 (0 : Int32) s3 else
  j_X8_utilization_29  a1 r1 r2 (1 : Int32) s3))) qE0)) qE0)) qE0
def b_X8_renderTask_126 (rk126 : Int32 → Int32 → Int32 → qS → Option qO) (v1 : Int32) (v2 : Int32) (v3 : Int32) (s0 : qS) : Option qO :=
  (if (s0 27 0 0) ≤ v3 then qlet (qu s0 26 0 16 v2) (fun s17 =>
  (some (.inl (some (qI v2)), s17))) else
  qbind (f_X8_isNeeded v1 v3 s0) (qvI (fun r16 s18 =>
  (if r16 = 0 then rk126 v1 v2 (v3 + (1 : Int32)) s18 else
  qbind (f_X8_put v2 (60 : Int32) s18) (qvI (fun r17 s19 =>
  qbind (f_X8_writesNumber r17 v3 s19) (qvI (fun r18 s20 =>
  rk126 v1 r18 (v3 + (1 : Int32)) s20)) qE0)) qE0))) qE0)
def l_X8_renderTask_126 : Nat → Int32 → Int32 → Int32 → qS → Option qO
  | 0, _, _, _, _ => none
  | n + 1, v1, v2, v3, s0 => b_X8_renderTask_126  (l_X8_renderTask_126  n) v1 v2 v3 s0
def f_X8_renderTask (a1 : Int32) (s0 : qS) : Option qO :=
  qbind (f_X8_isTask a1 s0) (qvI (fun r1 s1 =>
  qbind (f_X8_goes r1 s1) (qvI (fun r2 s2 =>
  (if r2 = 0 then (some (.inl (some (qI (0 : Int32))), s2)) else
  qbind (f_X8_levels  s2) (qvV (fun s3 =>
  qbind (f_X8_writesNumber (0 : Int32) a1 s3) (qvI (fun r3 s4 =>
  qbind (f_X8_put r3 (58 : Int32) s4) (qvI (fun r4 s5 =>
  qbind (f_X8_of a1 (0 : Int32) s5) (qvI (fun r5 s6 =>
  qbind (f_X8_writesNumber r4 r5 s6) (qvI (fun r6 s7 =>
  qbind (f_X8_put r6 (120 : Int32) s7) (qvI (fun r7 s8 =>
  qbind (f_X8_of a1 (2 : Int32) s8) (qvI (fun r8 s9 =>
  qbind (f_X8_writesNumber r7 r8 s9) (qvI (fun r9 s10 =>
  qbind (f_X8_put r9 (114 : Int32) s10) (qvI (fun r10 s11 =>
  qbind (f_X8_of a1 (1 : Int32) s11) (qvI (fun r11 s12 =>
  qbind (f_X8_writesNumber r10 r11 s12) (qvI (fun r12 s13 =>
  qbind (f_X8_put r12 (64 : Int32) s13) (qvI (fun r13 s14 =>
  (if qin a1 12 then qbind (f_X8_writesNumber r13 (s14 33 0 (a1).toNatClampNeg) s14) (qvI (fun r14 s15 =>
  (if qin a1 12 then (if qin a1 12 then (if (s15 32 0 (a1).toNatClampNeg) = (s15 31 0 (a1).toNatClampNeg) then qbind (f_X8_put r14 (33 : Int32) s15) (qvI (fun r15 s16 =>
  l_X8_renderTask_126  qFU a1 r15 (0 : Int32) s16)) qE0 else
  l_X8_renderTask_126  qFU a1 r14 (0 : Int32) s15) else none) else none))) qE0 else none))) qE0)) qE0)) qE0)) qE0)) qE0)) qE0)) qE0)) qE0)) qE0)) qE0)) qE0)) qE0))) qE0)) qE0
def b_X8_renderUsage_21 (rk21 : Int32 → Int32 → Int32 → qS → Option qO) (v1 : Int32) (v2 : Int32) (v3 : Int32) (s0 : qS) : Option qO :=
  qbind (f_X8_lastOf 33 0 s0) (qvI (fun r3 s4 =>
  (if r3 ≤ v3 then qlet (qu s4 26 0 16 v2) (fun s5 =>
  (some (.inl (some (qI v2)), s5))) else
  (if v3 = 0 then (if qin (((160 : Int32) * v1) + v3) 480 then qbind (f_X8_writesNumber v2 (s4 34 0 ((((160 : Int32) * v1) + v3)).toNatClampNeg) s4) (qvI (fun r4 s6 =>
  rk21 v1 r4 (v3 + (1 : Int32)) s6)) qE0 else none) else
  qbind (f_X8_put v2 (44 : Int32) s4) (qvI (fun r5 s7 =>
  (if qin (((160 : Int32) * v1) + v3) 480 then qbind (f_X8_writesNumber r5 (s7 34 0 ((((160 : Int32) * v1) + v3)).toNatClampNeg) s7) (qvI (fun r6 s8 =>
  rk21 v1 r6 (v3 + (1 : Int32)) s8)) qE0 else none))) qE0)))) qE0
def l_X8_renderUsage_21 : Nat → Int32 → Int32 → Int32 → qS → Option qO
  | 0, _, _, _, _ => none
  | n + 1, v1, v2, v3, s0 => b_X8_renderUsage_21  (l_X8_renderUsage_21  n) v1 v2 v3 s0
def f_X8_renderUsage (a1 : Int32) (s0 : qS) : Option qO :=
  qbind (f_X8_isResource a1 s0) (qvI (fun r1 s1 =>
  qbind (f_X8_goes r1 s1) (qvI (fun r2 s2 =>
  (if r2 = 0 then (some (.inl (some (qI (0 : Int32))), s2)) else
  qbind (f_X8_levels  s2) (qvV (fun s3 =>
  l_X8_renderUsage_21  qFU a1 (0 : Int32) (0 : Int32) s3)) qE0))) qE0)) qE0
def b_X8_marks_11 (rk11 : Int32 → qS → Option qO) (v1 : Int32) (s0 : qS) : Option qO :=
  (if (s0 27 0 0) ≤ v1 then qlet (qu s0 27 0 1 (1 : Int32)) (fun s3 =>
  qbind (f_X8_lastOf 33 0 s3) (qvI (fun r1 s4 =>
  (some (.inl (some (qI r1)), s4)))) qE0) else
  qbind (f_X8_taskAt v1 s0) (qvI (fun r2 s5 =>
  (if qin v1 12 then (if qin (r2 + (5 : Int32)) 77 then qlet (qu s5 27 0 ((r2 + (5 : Int32))).toNatClampNeg (s5 33 0 (v1).toNatClampNeg)) (fun s6 =>
  rk11 (v1 + (1 : Int32)) s6) else none) else none))) qE0)
def l_X8_marks_11 : Nat → Int32 → qS → Option qO
  | 0, _, _ => none
  | n + 1, v1, s0 => b_X8_marks_11  (l_X8_marks_11  n) v1 s0
def f_X8_marks  (s0 : qS) : Option qO :=
  qlet (qu s0 26 0 17 (0 : Int32)) (fun s1 =>
  qbind (f_X8_levels  s1) (qvV (fun s2 =>
  l_X8_marks_11  qFU (0 : Int32) s2)) qE0)
def f_X8_takeBaseline  (s0 : qS) : Option qO :=
  qbind (f_X8_begins  s0) (qvV (fun s1 =>
  qbind (f_X8_marks  s1) (qvI (fun r1 s2 =>
  qbind (f_X8_ends r1 s2) (qvI (fun r2 s3 =>
  (some (.inl (some (qI r2)), s3)))) qE0)) qE0)) qE0
def f_X8_does (a1 : Int32) (s0 : qS) : Option qO :=
  (if qin (a1 + (1 : Int32)) 150 then (if qin (a1 + (2 : Int32)) 150 then (if qin a1 150 then (qsw (s0 37 0 (a1).toNatClampNeg) 0 [(if qin (a1 + (3 : Int32)) 150 then (if qin (a1 + (4 : Int32)) 150 then qbind (f_X8_adds (s0 37 0 ((a1 + (1 : Int32))).toNatClampNeg) (s0 37 0 ((a1 + (2 : Int32))).toNatClampNeg) (s0 37 0 ((a1 + (3 : Int32))).toNatClampNeg) (s0 37 0 ((a1 + (4 : Int32))).toNatClampNeg) s0) (qvI (fun r1 s1 =>
  (some (.inl (some (qI r1)), s1)))) qE0 else none) else none),
  qbind (f_X8_removes (s0 37 0 ((a1 + (1 : Int32))).toNatClampNeg) s0) (qvI (fun r2 s2 =>
  (some (.inl (some (qI r2)), s2)))) qE0,
  qbind (f_X8_links (s0 37 0 ((a1 + (1 : Int32))).toNatClampNeg) (s0 37 0 ((a1 + (2 : Int32))).toNatClampNeg) s0) (qvI (fun r3 s3 =>
  (some (.inl (some (qI r3)), s3)))) qE0,
  qbind (f_X8_unlinks (s0 37 0 ((a1 + (1 : Int32))).toNatClampNeg) (s0 37 0 ((a1 + (2 : Int32))).toNatClampNeg) s0) (qvI (fun r4 s4 =>
  (some (.inl (some (qI r4)), s4)))) qE0,
  qbind (f_X8_limits (s0 37 0 ((a1 + (1 : Int32))).toNatClampNeg) (s0 37 0 ((a1 + (2 : Int32))).toNatClampNeg) s0) (qvI (fun r5 s5 =>
  (some (.inl (some (qI r5)), s5)))) qE0,
  qbind (f_X8_sets (s0 37 0 ((a1 + (1 : Int32))).toNatClampNeg) (0 : Int32) (s0 37 0 ((a1 + (2 : Int32))).toNatClampNeg) (1 : Int32) (9 : Int32) s0) (qvI (fun r6 s6 =>
  (some (.inl (some (qI r6)), s6)))) qE0,
  qbind (f_X8_sets (s0 37 0 ((a1 + (1 : Int32))).toNatClampNeg) (3 : Int32) (s0 37 0 ((a1 + (2 : Int32))).toNatClampNeg) (0 : Int32) (30 : Int32) s0) (qvI (fun r7 s7 =>
  (some (.inl (some (qI r7)), s7)))) qE0] (qbind (f_X8_marks  s0) (qvI (fun r8 s8 =>
  (some (.inl (some (qI r8)), s8)))) qE0)) else none) else none) else none)
def b_X8_runScript_38 (rk38 : Int32 → qS → Option qO) (v1 : Int32) (s0 : qS) : Option qO :=
  (if (s0 26 0 21) ≤ v1 then qbind (f_X8_ends (s0 26 0 21) s0) (qvI (fun r1 s4 =>
  (some (.inl (some (qI r1)), s4)))) qE0 else
  qbind (f_X8_does ((5 : Int32) * v1) s0) (qvI (fun r2 s5 =>
  (if (s5 26 0 17) = 0 then rk38 (v1 + (1 : Int32)) s5 else
  qlet (qu s5 26 0 7 v1) (fun s6 =>
  (if qin ((5 : Int32) * v1) 150 then qbind (f_X8_letterFor (s6 37 0 (((5 : Int32) * v1)).toNatClampNeg) s6) (qvI (fun r3 s7 =>
  qlet (qu s7 26 0 8 r3) (fun s8 =>
  qlet (qu s8 26 0 17 (2 : Int32)) (fun s9 =>
  qbind (f_X8_copies 28 0 (0 : Int32) 27 0 (0 : Int32) s9) (qvV (fun s10 =>
  (some (.inl (some (qI (0 : Int32))), s10)))) qE0)))) qE0 else none))))) qE0)
def l_X8_runScript_38 : Nat → Int32 → qS → Option qO
  | 0, _, _ => none
  | n + 1, v1, s0 => b_X8_runScript_38  (l_X8_runScript_38  n) v1 s0
def f_X8_runScript  (s0 : qS) : Option qO :=
  qbind (f_X8_readsAll  s0) (qvV (fun s1 =>
  (if (s1 26 0 20) = (-1 : Int32) then qbind (f_X8_begins  s1) (qvV (fun s2 =>
  qlet (qu s2 26 0 17 (0 : Int32)) (fun s3 =>
  l_X8_runScript_38  qFU (0 : Int32) s3))) qE0 else
  qlet (qu s1 26 0 6 (s1 26 0 20)) (fun s11 =>
  qlet (qu s11 26 0 17 (1 : Int32)) (fun s12 =>
  (some (.inl (some (qI (0 : Int32))), s12))))))) qE0
def f_L_addTask (a2 : Int32) (a3 : Int32) (a4 : Int32) (a5 : Int32) (s0 : qS) : Option qO :=
  qbind (f_X7_addTask a2 a3 a4 a5 s0) (qvI (fun r1 s1 =>
  qlet (qu s1 38 0 0 r1) (fun s2 =>
  (some (.inl (some (qI (0 : Int32))), s2))))) (fun E s1 => (if E = qIAE then (some (.inl (some (qI (1 : Int32))), s1)) else
  (if E = qISE then (some (.inl (some (qI (2 : Int32))), s1)) else
  none)))
def f_L_removeTask (a2 : Int32) (s0 : qS) : Option qO :=
  qbind (f_X7_removeTask a2 s0) (qvI (fun r1 s1 =>
  qlet (qu s1 38 0 0 r1) (fun s2 =>
  (some (.inl (some (qI (0 : Int32))), s2))))) (fun E s1 => (if E = qIOE then (some (.inl (some (qI (1 : Int32))), s1)) else
  none))
def f_L_addDependency (a2 : Int32) (a3 : Int32) (s0 : qS) : Option qO :=
  qbind (f_X7_addDependency a2 a3 s0) (qvI (fun r1 s1 =>
  (if r1 = 0 then qlet (qu s1 38 0 0 (0 : Int32)) (fun s2 =>
  (some (.inl (some (qI (0 : Int32))), s2))) else
  qlet (qu s1 38 0 0 (1 : Int32)) (fun s3 =>
  (some (.inl (some (qI (0 : Int32))), s3)))))) (fun E s1 => (if E = qIOE then (some (.inl (some (qI (1 : Int32))), s1)) else
  (if E = qIAE then (some (.inl (some (qI (2 : Int32))), s1)) else
  (if E = qUOE then (some (.inl (some (qI (3 : Int32))), s1)) else
  none))))
def f_L_removeDependency (a2 : Int32) (a3 : Int32) (s0 : qS) : Option qO :=
  qbind (f_X7_removeDependency a2 a3 s0) (qvI (fun r1 s1 =>
  (if r1 = 0 then qlet (qu s1 38 0 0 (0 : Int32)) (fun s2 =>
  (some (.inl (some (qI (0 : Int32))), s2))) else
  qlet (qu s1 38 0 0 (1 : Int32)) (fun s3 =>
  (some (.inl (some (qI (0 : Int32))), s3)))))) (fun E s1 => (if E = qIOE then (some (.inl (some (qI (1 : Int32))), s1)) else
  none))
def f_L_setDuration (a2 : Int32) (a3 : Int32) (s0 : qS) : Option qO :=
  qbind (f_X7_setDuration a2 a3 s0) (qvI (fun r1 s1 =>
  qlet (qu s1 38 0 0 r1) (fun s2 =>
  (some (.inl (some (qI (0 : Int32))), s2))))) (fun E s1 => (if E = qIOE then (some (.inl (some (qI (1 : Int32))), s1)) else
  (if E = qIAE then (some (.inl (some (qI (2 : Int32))), s1)) else
  none)))
def f_L_setRelease (a2 : Int32) (a3 : Int32) (s0 : qS) : Option qO :=
  qbind (f_X7_setRelease a2 a3 s0) (qvI (fun r1 s1 =>
  qlet (qu s1 38 0 0 r1) (fun s2 =>
  (some (.inl (some (qI (0 : Int32))), s2))))) (fun E s1 => (if E = qIOE then (some (.inl (some (qI (1 : Int32))), s1)) else
  (if E = qIAE then (some (.inl (some (qI (2 : Int32))), s1)) else
  none)))
def f_L_setLimit (a2 : Int32) (a3 : Int32) (s0 : qS) : Option qO :=
  qbind (f_X7_setLimit a2 a3 s0) (qvI (fun r1 s1 =>
  qlet (qu s1 38 0 0 r1) (fun s2 =>
  (some (.inl (some (qI (0 : Int32))), s2))))) (fun E s1 => (if E = qIAE then (some (.inl (some (qI (1 : Int32))), s1)) else
  none))
def f_L_duration (a2 : Int32) (s0 : qS) : Option qO :=
  qbind (f_X7_duration a2 s0) (qvI (fun r1 s1 =>
  qlet (qu s1 38 0 0 r1) (fun s2 =>
  (some (.inl (some (qI (0 : Int32))), s2))))) (fun E s1 => (if E = qIOE then (some (.inl (some (qI (1 : Int32))), s1)) else
  none))
def f_L_resource (a2 : Int32) (s0 : qS) : Option qO :=
  qbind (f_X7_resource a2 s0) (qvI (fun r1 s1 =>
  qlet (qu s1 38 0 0 r1) (fun s2 =>
  (some (.inl (some (qI (0 : Int32))), s2))))) (fun E s1 => (if E = qIOE then (some (.inl (some (qI (1 : Int32))), s1)) else
  none))
def f_L_demand (a2 : Int32) (s0 : qS) : Option qO :=
  qbind (f_X7_demand a2 s0) (qvI (fun r1 s1 =>
  qlet (qu s1 38 0 0 r1) (fun s2 =>
  (some (.inl (some (qI (0 : Int32))), s2))))) (fun E s1 => (if E = qIOE then (some (.inl (some (qI (1 : Int32))), s1)) else
  none))
def f_L_release (a2 : Int32) (s0 : qS) : Option qO :=
  qbind (f_X7_release a2 s0) (qvI (fun r1 s1 =>
  qlet (qu s1 38 0 0 r1) (fun s2 =>
  (some (.inl (some (qI (0 : Int32))), s2))))) (fun E s1 => (if E = qIOE then (some (.inl (some (qI (1 : Int32))), s1)) else
  none))
def f_L_limit (a2 : Int32) (s0 : qS) : Option qO :=
  qbind (f_X7_limit a2 s0) (qvI (fun r1 s1 =>
  qlet (qu s1 38 0 0 r1) (fun s2 =>
  (some (.inl (some (qI (0 : Int32))), s2))))) (fun E s1 => (if E = qIAE then (some (.inl (some (qI (1 : Int32))), s1)) else
  none))
def f_L_dependsDirectly (a2 : Int32) (a3 : Int32) (s0 : qS) : Option qO :=
  qbind (f_X7_dependsDirectly a2 a3 s0) (qvI (fun r1 s1 =>
  (if r1 = 0 then qlet (qu s1 38 0 0 (0 : Int32)) (fun s2 =>
  (some (.inl (some (qI (0 : Int32))), s2))) else
  qlet (qu s1 38 0 0 (1 : Int32)) (fun s3 =>
  (some (.inl (some (qI (0 : Int32))), s3)))))) (fun E s1 => (if E = qIOE then (some (.inl (some (qI (1 : Int32))), s1)) else
  none))
def f_L_depends (a2 : Int32) (a3 : Int32) (s0 : qS) : Option qO :=
  qbind (f_X7_depends a2 a3 s0) (qvI (fun r1 s1 =>
  (if r1 = 0 then qlet (qu s1 38 0 0 (0 : Int32)) (fun s2 =>
  (some (.inl (some (qI (0 : Int32))), s2))) else
  qlet (qu s1 38 0 0 (1 : Int32)) (fun s3 =>
  (some (.inl (some (qI (0 : Int32))), s3)))))) (fun E s1 => (if E = qIOE then (some (.inl (some (qI (1 : Int32))), s1)) else
  none))
def f_L_dependsByClosure (a2 : Int32) (a3 : Int32) (s0 : qS) : Option qO :=
  qbind (f_X7_dependsByClosure a2 a3 s0) (qvI (fun r1 s1 =>
  (if r1 = 0 then qlet (qu s1 38 0 0 (0 : Int32)) (fun s2 =>
  (some (.inl (some (qI (0 : Int32))), s2))) else
  qlet (qu s1 38 0 0 (1 : Int32)) (fun s3 =>
  (some (.inl (some (qI (0 : Int32))), s3)))))) (fun E s1 => (if E = qIOE then (some (.inl (some (qI (1 : Int32))), s1)) else
  none))
def f_L_neededCount (a2 : Int32) (s0 : qS) : Option qO :=
  qbind (f_X7_neededCount a2 s0) (qvI (fun r1 s1 =>
  qlet (qu s1 38 0 0 r1) (fun s2 =>
  (some (.inl (some (qI (0 : Int32))), s2))))) (fun E s1 => (if E = qIOE then (some (.inl (some (qI (1 : Int32))), s1)) else
  none))
def f_L_dependentCount (a2 : Int32) (s0 : qS) : Option qO :=
  qbind (f_X7_dependentCount a2 s0) (qvI (fun r1 s1 =>
  qlet (qu s1 38 0 0 r1) (fun s2 =>
  (some (.inl (some (qI (0 : Int32))), s2))))) (fun E s1 => (if E = qIOE then (some (.inl (some (qI (1 : Int32))), s1)) else
  none))
def f_L_taskInOrder (a2 : Int32) (s0 : qS) : Option qO :=
  qbind (f_X7_taskInOrder a2 s0) (qvI (fun r1 s1 =>
  qlet (qu s1 38 0 0 r1) (fun s2 =>
  (some (.inl (some (qI (0 : Int32))), s2))))) (fun E s1 => (if E = qNSE then (some (.inl (some (qI (1 : Int32))), s1)) else
  none))
def f_L_earliestStart (a2 : Int32) (s0 : qS) : Option qO :=
  qbind (f_X7_earliestStart a2 s0) (qvI (fun r1 s1 =>
  qlet (qu s1 38 0 0 r1) (fun s2 =>
  (some (.inl (some (qI (0 : Int32))), s2))))) (fun E s1 => (if E = qIOE then (some (.inl (some (qI (1 : Int32))), s1)) else
  none))
def f_L_earliestStartByRounds (a2 : Int32) (s0 : qS) : Option qO :=
  qbind (f_X7_earliestStartByRounds a2 s0) (qvI (fun r1 s1 =>
  qlet (qu s1 38 0 0 r1) (fun s2 =>
  (some (.inl (some (qI (0 : Int32))), s2))))) (fun E s1 => (if E = qIOE then (some (.inl (some (qI (1 : Int32))), s1)) else
  none))
def f_L_latestStart (a2 : Int32) (s0 : qS) : Option qO :=
  qbind (f_X7_latestStart a2 s0) (qvI (fun r1 s1 =>
  qlet (qu s1 38 0 0 r1) (fun s2 =>
  (some (.inl (some (qI (0 : Int32))), s2))))) (fun E s1 => (if E = qIOE then (some (.inl (some (qI (1 : Int32))), s1)) else
  none))
def f_L_slack (a2 : Int32) (s0 : qS) : Option qO :=
  qbind (f_X7_slack a2 s0) (qvI (fun r1 s1 =>
  qlet (qu s1 38 0 0 r1) (fun s2 =>
  (some (.inl (some (qI (0 : Int32))), s2))))) (fun E s1 => (if E = qIOE then (some (.inl (some (qI (1 : Int32))), s1)) else
  none))
def f_L_isCritical (a2 : Int32) (s0 : qS) : Option qO :=
  qbind (f_X7_isCritical a2 s0) (qvI (fun r1 s1 =>
  (if r1 = 0 then qlet (qu s1 38 0 0 (0 : Int32)) (fun s2 =>
  (some (.inl (some (qI (0 : Int32))), s2))) else
  qlet (qu s1 38 0 0 (1 : Int32)) (fun s3 =>
  (some (.inl (some (qI (0 : Int32))), s3)))))) (fun E s1 => (if E = qIOE then (some (.inl (some (qI (1 : Int32))), s1)) else
  none))
def f_L_lastTask  (s0 : qS) : Option qO :=
  qbind (f_X7_lastTask  s0) (qvI (fun r1 s1 =>
  qlet (qu s1 38 0 0 r1) (fun s2 =>
  (some (.inl (some (qI (0 : Int32))), s2))))) (fun E s1 => (if E = qNSE then (some (.inl (some (qI (1 : Int32))), s1)) else
  none))
def f_L_levelledStart (a2 : Int32) (s0 : qS) : Option qO :=
  qbind (f_X7_levelledStart a2 s0) (qvI (fun r1 s1 =>
  qlet (qu s1 38 0 0 r1) (fun s2 =>
  (some (.inl (some (qI (0 : Int32))), s2))))) (fun E s1 => (if E = qIOE then (some (.inl (some (qI (1 : Int32))), s1)) else
  none))
def f_L_usage (a2 : Int32) (a3 : Int32) (s0 : qS) : Option qO :=
  qbind (f_X7_usage a2 a3 s0) (qvI (fun r1 s1 =>
  qlet (qu s1 38 0 0 r1) (fun s2 =>
  (some (.inl (some (qI (0 : Int32))), s2))))) (fun E s1 => (if E = qIAE then (some (.inl (some (qI (1 : Int32))), s1)) else
  none))
def f_L_usageByTasks (a2 : Int32) (a3 : Int32) (s0 : qS) : Option qO :=
  qbind (f_X7_usageByTasks a2 a3 s0) (qvI (fun r1 s1 =>
  qlet (qu s1 38 0 0 r1) (fun s2 =>
  (some (.inl (some (qI (0 : Int32))), s2))))) (fun E s1 => (if E = qIAE then (some (.inl (some (qI (1 : Int32))), s1)) else
  none))
def f_L_peakUsage (a2 : Int32) (s0 : qS) : Option qO :=
  qbind (f_X7_peakUsage a2 s0) (qvI (fun r1 s1 =>
  qlet (qu s1 38 0 0 r1) (fun s2 =>
  (some (.inl (some (qI (0 : Int32))), s2))))) (fun E s1 => (if E = qIAE then (some (.inl (some (qI (1 : Int32))), s1)) else
  none))
def f_L_tasksOn (a2 : Int32) (s0 : qS) : Option qO :=
  qbind (f_X7_tasksOn a2 s0) (qvI (fun r1 s1 =>
  qlet (qu s1 38 0 0 r1) (fun s2 =>
  (some (.inl (some (qI (0 : Int32))), s2))))) (fun E s1 => (if E = qIAE then (some (.inl (some (qI (1 : Int32))), s1)) else
  none))
def f_L_workload (a2 : Int32) (s0 : qS) : Option qO :=
  qbind (f_X7_workload a2 s0) (qvI (fun r1 s1 =>
  qlet (qu s1 38 0 0 r1) (fun s2 =>
  (some (.inl (some (qI (0 : Int32))), s2))))) (fun E s1 => (if E = qIAE then (some (.inl (some (qI (1 : Int32))), s1)) else
  none))
def f_L_workloadByDays (a2 : Int32) (s0 : qS) : Option qO :=
  qbind (f_X7_workloadByDays a2 s0) (qvI (fun r1 s1 =>
  qlet (qu s1 38 0 0 r1) (fun s2 =>
  (some (.inl (some (qI (0 : Int32))), s2))))) (fun E s1 => (if E = qIAE then (some (.inl (some (qI (1 : Int32))), s1)) else
  none))
def f_L_baselineStart (a2 : Int32) (s0 : qS) : Option qO :=
  qbind (f_X7_baselineStart a2 s0) (qvI (fun r1 s1 =>
  qlet (qu s1 38 0 0 r1) (fun s2 =>
  (some (.inl (some (qI (0 : Int32))), s2))))) (fun E s1 => (if E = qIOE then (some (.inl (some (qI (1 : Int32))), s1)) else
  (if E = qNSE then (some (.inl (some (qI (2 : Int32))), s1)) else
  none)))
def f_L_drift (a2 : Int32) (s0 : qS) : Option qO :=
  qbind (f_X7_drift a2 s0) (qvI (fun r1 s1 =>
  qlet (qu s1 38 0 0 r1) (fun s2 =>
  (some (.inl (some (qI (0 : Int32))), s2))))) (fun E s1 => (if E = qIOE then (some (.inl (some (qI (1 : Int32))), s1)) else
  (if E = qNSE then (some (.inl (some (qI (2 : Int32))), s1)) else
  none)))
def f_L_totalDrift  (s0 : qS) : Option qO :=
  qbind (f_X7_totalDrift  s0) (qvI (fun r1 s1 =>
  qlet (qu s1 38 0 0 r1) (fun s2 =>
  (some (.inl (some (qI (0 : Int32))), s2))))) (fun E s1 => (if E = qNSE then (some (.inl (some (qI (1 : Int32))), s1)) else
  none))
def f_L_taskBySlack (a2 : Int32) (s0 : qS) : Option qO :=
  qbind (f_X7_taskBySlack a2 s0) (qvI (fun r1 s1 =>
  qlet (qu s1 38 0 0 r1) (fun s2 =>
  (some (.inl (some (qI (0 : Int32))), s2))))) (fun E s1 => (if E = qNSE then (some (.inl (some (qI (1 : Int32))), s1)) else
  none))
def f_L_taskByStart (a2 : Int32) (s0 : qS) : Option qO :=
  qbind (f_X7_taskByStart a2 s0) (qvI (fun r1 s1 =>
  qlet (qu s1 38 0 0 r1) (fun s2 =>
  (some (.inl (some (qI (0 : Int32))), s2))))) (fun E s1 => (if E = qNSE then (some (.inl (some (qI (1 : Int32))), s1)) else
  none))
def f_L_meanSlack  (s0 : qS) : Option qO :=
  qbind (f_X7_meanSlack  s0) (qvD (fun r1 s1 =>
  qlet (qsd s1 r1) (fun s2 =>
  (some (.inl (some (qI (0 : Int32))), s2))))) (fun E s1 => (if E = qARE then (some (.inl (some (qI (1 : Int32))), s1)) else
  none))
def f_L_utilization (a2 : Int32) (s0 : qS) : Option qO :=
  qbind (f_X7_utilization a2 s0) (qvF (fun r1 s1 =>
  (if qn64 (FP.f2d r1) then qlet (qsd s1 (FP.f2d r1)) (fun s2 =>
  (some (.inl (some (qI (0 : Int32))), s2))) else none))) (fun E s1 => (if E = qIAE then (some (.inl (some (qI (1 : Int32))), s1)) else
  (if E = qARE then (some (.inl (some (qI (2 : Int32))), s1)) else
  none)))
def f_L_renderTask (a2 : Int32) (s0 : qS) : Option qO :=
  qbind (f_X7_renderTask a2 s0) (qvI (fun r1 s1 =>
  qlet (qu s1 38 0 0 r1) (fun s2 =>
  (some (.inl (some (qI (0 : Int32))), s2))))) (fun E s1 => (if E = qIOE then (some (.inl (some (qI (1 : Int32))), s1)) else
  none))
def f_L_renderUsage (a2 : Int32) (s0 : qS) : Option qO :=
  qbind (f_X7_renderUsage a2 s0) (qvI (fun r1 s1 =>
  qlet (qu s1 38 0 0 r1) (fun s2 =>
  (some (.inl (some (qI (0 : Int32))), s2))))) (fun E s1 => (if E = qIAE then (some (.inl (some (qI (1 : Int32))), s1)) else
  none))
def f_L_outputAt (a2 : Int32) (s0 : qS) : Option qO :=
  qbind (f_X7_outputAt a2 s0) (qvI (fun r1 s1 =>
  qlet (qu s1 38 0 0 r1) (fun s2 =>
  (some (.inl (some (qI (0 : Int32))), s2))))) (fun E s1 => (if E = qIOE then (some (.inl (some (qI (1 : Int32))), s1)) else
  none))
def f_L_type (a2 : Int32) (s0 : qS) : Option qO :=
  qbind (f_X7_type a2 s0) (qvI (fun r1 s1 =>
  qlet (qu s1 38 0 0 r1) (fun s2 =>
  (some (.inl (some (qI (0 : Int32))), s2))))) (fun E s1 => (if E = qIAE then (some (.inl (some (qI (1 : Int32))), s1)) else
  (if E = qISE then (some (.inl (some (qI (2 : Int32))), s1)) else
  none)))
def f_L_runScript  (s0 : qS) : Option qO :=
  qbind (f_X7_runScript  s0) (qvI (fun r1 s1 =>
  qlet (qu s1 38 0 0 r1) (fun s2 =>
  (some (.inl (some (qI (0 : Int32))), s2))))) (fun E s1 => (if E = qIAE then (some (.inl (some (qI (1 : Int32))), s1)) else
  (if E = qISE then (some (.inl (some (qI (2 : Int32))), s1)) else
  none)))
def f_L_errorPosition  (s0 : qS) : Option qO :=
  qbind (f_X7_errorPosition  s0) (qvI (fun r1 s1 =>
  qlet (qu s1 38 0 0 r1) (fun s2 =>
  (some (.inl (some (qI (0 : Int32))), s2))))) (fun E s1 => (if E = qNSE then (some (.inl (some (qI (1 : Int32))), s1)) else
  none))
def f_L_failedCommand  (s0 : qS) : Option qO :=
  qbind (f_X7_failedCommand  s0) (qvI (fun r1 s1 =>
  qlet (qu s1 38 0 0 r1) (fun s2 =>
  (some (.inl (some (qI (0 : Int32))), s2))))) (fun E s1 => (if E = qNSE then (some (.inl (some (qI (1 : Int32))), s1)) else
  none))
def f_L_failureReason  (s0 : qS) : Option qO :=
  qbind (f_X7_failureReason  s0) (qvI (fun r1 s1 =>
  qlet (qu s1 38 0 0 r1) (fun s2 =>
  (some (.inl (some (qI (0 : Int32))), s2))))) (fun E s1 => (if E = qNSE then (some (.inl (some (qI (1 : Int32))), s1)) else
  none))
def f_L_undo  (s0 : qS) : Option qO :=
  qbind (f_X7_undo  s0) (qvI (fun r1 s1 =>
  qlet (qu s1 38 0 0 r1) (fun s2 =>
  (some (.inl (some (qI (0 : Int32))), s2))))) (fun E s1 => (if E = qISE then (some (.inl (some (qI (1 : Int32))), s1)) else
  none))
def f_L_restore  (s0 : qS) : Option qO :=
  qbind (f_X7_restore  s0) (qvI (fun r1 s1 =>
  qlet (qu s1 38 0 0 r1) (fun s2 =>
  (some (.inl (some (qI (0 : Int32))), s2))))) (fun E s1 => (if E = qISE then (some (.inl (some (qI (1 : Int32))), s1)) else
  none))
def j_L_law_284 (LL : Nat) (xs : Nat → Int32) (rk28 : Int32 → qS → Option qO) (v5 : Int32) (s0 : qS) : Option qO :=
  (if qin (v5 + (1 : Int32)) LL then (if qin (v5 + (2 : Int32)) LL then (if qin (v5 + (3 : Int32)) LL then (if qin (v5 + (4 : Int32)) LL then qbind (f_L_addTask (xs ((v5 + (1 : Int32))).toNatClampNeg) (xs ((v5 + (2 : Int32))).toNatClampNeg) (xs ((v5 + (3 : Int32))).toNatClampNeg) (xs ((v5 + (4 : Int32))).toNatClampNeg) s0) (qvI (fun r1 s1 =>
  (if qin (v5 + (1 : Int32)) LL then (if qin (v5 + (2 : Int32)) LL then (if qin (v5 + (3 : Int32)) LL then (if qin (v5 + (4 : Int32)) LL then qbind (f_X8_addTask (xs ((v5 + (1 : Int32))).toNatClampNeg) (xs ((v5 + (2 : Int32))).toNatClampNeg) (xs ((v5 + (3 : Int32))).toNatClampNeg) (xs ((v5 + (4 : Int32))).toNatClampNeg) s1) (qvI (fun r2 s2 =>
  qbind (f_X8_thrown  s2) (qvI (fun r3 s3 =>
  (if r3 = r1 then (if r1 = 0 then (if (lg_cmp (((s3 38 0 0)).toInt64) ((r2).toInt64)) = 0 then rk28 (v5 + (5 : Int32)) s3 else
  (some (.inl (some (qI (0 : Int32))), s3))) else
  rk28 (v5 + (5 : Int32)) s3) else
  (some (.inl (some (qI (0 : Int32))), s3))))) qE0)) qE0 else none) else none) else none) else none))) qE0 else none) else none) else none) else none)
def j_L_law_376 (LL : Nat) (xs : Nat → Int32) (rk28 : Int32 → qS → Option qO) (v5 : Int32) (s0 : qS) : Option qO :=
  (if qin (v5 + (1 : Int32)) LL then qbind (f_L_removeTask (xs ((v5 + (1 : Int32))).toNatClampNeg) s0) (qvI (fun r4 s4 =>
  (if qin (v5 + (1 : Int32)) LL then qbind (f_X8_removeTask (xs ((v5 + (1 : Int32))).toNatClampNeg) s4) (qvI (fun r5 s5 =>
  qbind (f_X8_thrown  s5) (qvI (fun r6 s6 =>
  (if r6 = r4 then (if r4 = 0 then (if (lg_cmp (((s6 38 0 0)).toInt64) ((r5).toInt64)) = 0 then rk28 (v5 + (5 : Int32)) s6 else
  (some (.inl (some (qI (0 : Int32))), s6))) else
  rk28 (v5 + (5 : Int32)) s6) else
  (some (.inl (some (qI (0 : Int32))), s6))))) qE0)) qE0 else none))) qE0 else none)
def j_L_law_432 (LL : Nat) (xs : Nat → Int32) (rk28 : Int32 → qS → Option qO) (v5 : Int32) (s0 : qS) : Option qO :=
  (if qin (v5 + (1 : Int32)) LL then (if qin (v5 + (2 : Int32)) LL then qbind (f_L_addDependency (xs ((v5 + (1 : Int32))).toNatClampNeg) (xs ((v5 + (2 : Int32))).toNatClampNeg) s0) (qvI (fun r7 s7 =>
  (if qin (v5 + (1 : Int32)) LL then (if qin (v5 + (2 : Int32)) LL then qbind (f_X8_addDependency (xs ((v5 + (1 : Int32))).toNatClampNeg) (xs ((v5 + (2 : Int32))).toNatClampNeg) s7) (qvI (fun r8 s8 =>
  qbind (f_X8_thrown  s8) (qvI (fun r9 s9 =>
  (if r9 = r7 then (if r7 = 0 then (if r8 = 0 then (if (lg_cmp (((s9 38 0 0)).toInt64) ((0 : Int64))) = 0 then rk28 (v5 + (5 : Int32)) s9 else
  (some (.inl (some (qI (0 : Int32))), s9))) else
  (if (lg_cmp (((s9 38 0 0)).toInt64) ((1 : Int64))) = 0 then rk28 (v5 + (5 : Int32)) s9 else
  (some (.inl (some (qI (0 : Int32))), s9)))) else
  rk28 (v5 + (5 : Int32)) s9) else
  (some (.inl (some (qI (0 : Int32))), s9))))) qE0)) qE0 else none) else none))) qE0 else none) else none)
def j_L_law_507 (LL : Nat) (xs : Nat → Int32) (rk28 : Int32 → qS → Option qO) (v5 : Int32) (s0 : qS) : Option qO :=
  (if qin (v5 + (1 : Int32)) LL then (if qin (v5 + (2 : Int32)) LL then qbind (f_L_removeDependency (xs ((v5 + (1 : Int32))).toNatClampNeg) (xs ((v5 + (2 : Int32))).toNatClampNeg) s0) (qvI (fun r10 s10 =>
  (if qin (v5 + (1 : Int32)) LL then (if qin (v5 + (2 : Int32)) LL then qbind (f_X8_removeDependency (xs ((v5 + (1 : Int32))).toNatClampNeg) (xs ((v5 + (2 : Int32))).toNatClampNeg) s10) (qvI (fun r11 s11 =>
  qbind (f_X8_thrown  s11) (qvI (fun r12 s12 =>
  (if r12 = r10 then (if r10 = 0 then (if r11 = 0 then (if (lg_cmp (((s12 38 0 0)).toInt64) ((0 : Int64))) = 0 then rk28 (v5 + (5 : Int32)) s12 else
  (some (.inl (some (qI (0 : Int32))), s12))) else
  (if (lg_cmp (((s12 38 0 0)).toInt64) ((1 : Int64))) = 0 then rk28 (v5 + (5 : Int32)) s12 else
  (some (.inl (some (qI (0 : Int32))), s12)))) else
  rk28 (v5 + (5 : Int32)) s12) else
  (some (.inl (some (qI (0 : Int32))), s12))))) qE0)) qE0 else none) else none))) qE0 else none) else none)
def j_L_law_582 (LL : Nat) (xs : Nat → Int32) (rk28 : Int32 → qS → Option qO) (v5 : Int32) (s0 : qS) : Option qO :=
  (if qin (v5 + (1 : Int32)) LL then (if qin (v5 + (2 : Int32)) LL then qbind (f_L_setDuration (xs ((v5 + (1 : Int32))).toNatClampNeg) (xs ((v5 + (2 : Int32))).toNatClampNeg) s0) (qvI (fun r13 s13 =>
  (if qin (v5 + (1 : Int32)) LL then (if qin (v5 + (2 : Int32)) LL then qbind (f_X8_setDuration (xs ((v5 + (1 : Int32))).toNatClampNeg) (xs ((v5 + (2 : Int32))).toNatClampNeg) s13) (qvI (fun r14 s14 =>
  qbind (f_X8_thrown  s14) (qvI (fun r15 s15 =>
  (if r15 = r13 then (if r13 = 0 then (if (lg_cmp (((s15 38 0 0)).toInt64) ((r14).toInt64)) = 0 then rk28 (v5 + (5 : Int32)) s15 else
  (some (.inl (some (qI (0 : Int32))), s15))) else
  rk28 (v5 + (5 : Int32)) s15) else
  (some (.inl (some (qI (0 : Int32))), s15))))) qE0)) qE0 else none) else none))) qE0 else none) else none)
def j_L_law_650 (LL : Nat) (xs : Nat → Int32) (rk28 : Int32 → qS → Option qO) (v5 : Int32) (s0 : qS) : Option qO :=
  (if qin (v5 + (1 : Int32)) LL then (if qin (v5 + (2 : Int32)) LL then qbind (f_L_setRelease (xs ((v5 + (1 : Int32))).toNatClampNeg) (xs ((v5 + (2 : Int32))).toNatClampNeg) s0) (qvI (fun r16 s16 =>
  (if qin (v5 + (1 : Int32)) LL then (if qin (v5 + (2 : Int32)) LL then qbind (f_X8_setRelease (xs ((v5 + (1 : Int32))).toNatClampNeg) (xs ((v5 + (2 : Int32))).toNatClampNeg) s16) (qvI (fun r17 s17 =>
  qbind (f_X8_thrown  s17) (qvI (fun r18 s18 =>
  (if r18 = r16 then (if r16 = 0 then (if (lg_cmp (((s18 38 0 0)).toInt64) ((r17).toInt64)) = 0 then rk28 (v5 + (5 : Int32)) s18 else
  (some (.inl (some (qI (0 : Int32))), s18))) else
  rk28 (v5 + (5 : Int32)) s18) else
  (some (.inl (some (qI (0 : Int32))), s18))))) qE0)) qE0 else none) else none))) qE0 else none) else none)
def j_L_law_718 (LL : Nat) (xs : Nat → Int32) (rk28 : Int32 → qS → Option qO) (v5 : Int32) (s0 : qS) : Option qO :=
  (if qin (v5 + (1 : Int32)) LL then (if qin (v5 + (2 : Int32)) LL then qbind (f_L_setLimit (xs ((v5 + (1 : Int32))).toNatClampNeg) (xs ((v5 + (2 : Int32))).toNatClampNeg) s0) (qvI (fun r19 s19 =>
  (if qin (v5 + (1 : Int32)) LL then (if qin (v5 + (2 : Int32)) LL then qbind (f_X8_setLimit (xs ((v5 + (1 : Int32))).toNatClampNeg) (xs ((v5 + (2 : Int32))).toNatClampNeg) s19) (qvI (fun r20 s20 =>
  qbind (f_X8_thrown  s20) (qvI (fun r21 s21 =>
  (if r21 = r19 then (if r19 = 0 then (if (lg_cmp (((s21 38 0 0)).toInt64) ((r20).toInt64)) = 0 then rk28 (v5 + (5 : Int32)) s21 else
  (some (.inl (some (qI (0 : Int32))), s21))) else
  rk28 (v5 + (5 : Int32)) s21) else
  (some (.inl (some (qI (0 : Int32))), s21))))) qE0)) qE0 else none) else none))) qE0 else none) else none)
def j_L_law_786 (LL : Nat) (xs : Nat → Int32) (rk28 : Int32 → qS → Option qO) (v5 : Int32) (s0 : qS) : Option qO :=
  qbind (f_X7_takeBaseline  s0) (qvI (fun r22 s22 =>
  qbind (f_X8_takeBaseline  s22) (qvI (fun r23 s23 =>
  (if r22 = r23 then rk28 (v5 + (5 : Int32)) s23 else
  (some (.inl (some (qI (0 : Int32))), s23))))) qE0)) qE0
def j_L_law_799 (LL : Nat) (xs : Nat → Int32) (rk28 : Int32 → qS → Option qO) (v5 : Int32) (s0 : qS) : Option qO :=
  qbind (f_X7_taskCount  s0) (qvI (fun r24 s24 =>
  qbind (f_X8_taskCount  s24) (qvI (fun r25 s25 =>
  (if r24 = r25 then rk28 (v5 + (5 : Int32)) s25 else
  (some (.inl (some (qI (0 : Int32))), s25))))) qE0)) qE0
def j_L_law_812 (LL : Nat) (xs : Nat → Int32) (rk28 : Int32 → qS → Option qO) (v5 : Int32) (s0 : qS) : Option qO :=
  (if qin (v5 + (1 : Int32)) LL then qbind (f_L_duration (xs ((v5 + (1 : Int32))).toNatClampNeg) s0) (qvI (fun r26 s26 =>
  (if qin (v5 + (1 : Int32)) LL then qbind (f_X8_duration (xs ((v5 + (1 : Int32))).toNatClampNeg) s26) (qvI (fun r27 s27 =>
  qbind (f_X8_thrown  s27) (qvI (fun r28 s28 =>
  (if r28 = r26 then (if r26 = 0 then (if (lg_cmp (((s28 38 0 0)).toInt64) ((r27).toInt64)) = 0 then rk28 (v5 + (5 : Int32)) s28 else
  (some (.inl (some (qI (0 : Int32))), s28))) else
  rk28 (v5 + (5 : Int32)) s28) else
  (some (.inl (some (qI (0 : Int32))), s28))))) qE0)) qE0 else none))) qE0 else none)
def j_L_law_868 (LL : Nat) (xs : Nat → Int32) (rk28 : Int32 → qS → Option qO) (v5 : Int32) (s0 : qS) : Option qO :=
  (if qin (v5 + (1 : Int32)) LL then qbind (f_L_resource (xs ((v5 + (1 : Int32))).toNatClampNeg) s0) (qvI (fun r29 s29 =>
  (if qin (v5 + (1 : Int32)) LL then qbind (f_X8_resource (xs ((v5 + (1 : Int32))).toNatClampNeg) s29) (qvI (fun r30 s30 =>
  qbind (f_X8_thrown  s30) (qvI (fun r31 s31 =>
  (if r31 = r29 then (if r29 = 0 then (if (lg_cmp (((s31 38 0 0)).toInt64) ((r30).toInt64)) = 0 then rk28 (v5 + (5 : Int32)) s31 else
  (some (.inl (some (qI (0 : Int32))), s31))) else
  rk28 (v5 + (5 : Int32)) s31) else
  (some (.inl (some (qI (0 : Int32))), s31))))) qE0)) qE0 else none))) qE0 else none)
def j_L_law_924 (LL : Nat) (xs : Nat → Int32) (rk28 : Int32 → qS → Option qO) (v5 : Int32) (s0 : qS) : Option qO :=
  (if qin (v5 + (1 : Int32)) LL then qbind (f_L_demand (xs ((v5 + (1 : Int32))).toNatClampNeg) s0) (qvI (fun r32 s32 =>
  (if qin (v5 + (1 : Int32)) LL then qbind (f_X8_demand (xs ((v5 + (1 : Int32))).toNatClampNeg) s32) (qvI (fun r33 s33 =>
  qbind (f_X8_thrown  s33) (qvI (fun r34 s34 =>
  (if r34 = r32 then (if r32 = 0 then (if (lg_cmp (((s34 38 0 0)).toInt64) ((r33).toInt64)) = 0 then rk28 (v5 + (5 : Int32)) s34 else
  (some (.inl (some (qI (0 : Int32))), s34))) else
  rk28 (v5 + (5 : Int32)) s34) else
  (some (.inl (some (qI (0 : Int32))), s34))))) qE0)) qE0 else none))) qE0 else none)
def j_L_law_980 (LL : Nat) (xs : Nat → Int32) (rk28 : Int32 → qS → Option qO) (v5 : Int32) (s0 : qS) : Option qO :=
  (if qin (v5 + (1 : Int32)) LL then qbind (f_L_release (xs ((v5 + (1 : Int32))).toNatClampNeg) s0) (qvI (fun r35 s35 =>
  (if qin (v5 + (1 : Int32)) LL then qbind (f_X8_release (xs ((v5 + (1 : Int32))).toNatClampNeg) s35) (qvI (fun r36 s36 =>
  qbind (f_X8_thrown  s36) (qvI (fun r37 s37 =>
  (if r37 = r35 then (if r35 = 0 then (if (lg_cmp (((s37 38 0 0)).toInt64) ((r36).toInt64)) = 0 then rk28 (v5 + (5 : Int32)) s37 else
  (some (.inl (some (qI (0 : Int32))), s37))) else
  rk28 (v5 + (5 : Int32)) s37) else
  (some (.inl (some (qI (0 : Int32))), s37))))) qE0)) qE0 else none))) qE0 else none)
def j_L_law_1036 (LL : Nat) (xs : Nat → Int32) (rk28 : Int32 → qS → Option qO) (v5 : Int32) (s0 : qS) : Option qO :=
  (if qin (v5 + (1 : Int32)) LL then qbind (f_L_limit (xs ((v5 + (1 : Int32))).toNatClampNeg) s0) (qvI (fun r38 s38 =>
  (if qin (v5 + (1 : Int32)) LL then qbind (f_X8_limit (xs ((v5 + (1 : Int32))).toNatClampNeg) s38) (qvI (fun r39 s39 =>
  qbind (f_X8_thrown  s39) (qvI (fun r40 s40 =>
  (if r40 = r38 then (if r38 = 0 then (if (lg_cmp (((s40 38 0 0)).toInt64) ((r39).toInt64)) = 0 then rk28 (v5 + (5 : Int32)) s40 else
  (some (.inl (some (qI (0 : Int32))), s40))) else
  rk28 (v5 + (5 : Int32)) s40) else
  (some (.inl (some (qI (0 : Int32))), s40))))) qE0)) qE0 else none))) qE0 else none)
def j_L_law_1092 (LL : Nat) (xs : Nat → Int32) (rk28 : Int32 → qS → Option qO) (v5 : Int32) (s0 : qS) : Option qO :=
  (if qin (v5 + (1 : Int32)) LL then (if qin (v5 + (2 : Int32)) LL then qbind (f_L_dependsDirectly (xs ((v5 + (1 : Int32))).toNatClampNeg) (xs ((v5 + (2 : Int32))).toNatClampNeg) s0) (qvI (fun r41 s41 =>
  (if qin (v5 + (1 : Int32)) LL then (if qin (v5 + (2 : Int32)) LL then qbind (f_X8_dependsDirectly (xs ((v5 + (1 : Int32))).toNatClampNeg) (xs ((v5 + (2 : Int32))).toNatClampNeg) s41) (qvI (fun r42 s42 =>
  qbind (f_X8_thrown  s42) (qvI (fun r43 s43 =>
  (if r43 = r41 then (if r41 = 0 then (if r42 = 0 then (if (lg_cmp (((s43 38 0 0)).toInt64) ((0 : Int64))) = 0 then rk28 (v5 + (5 : Int32)) s43 else
  (some (.inl (some (qI (0 : Int32))), s43))) else
  (if (lg_cmp (((s43 38 0 0)).toInt64) ((1 : Int64))) = 0 then rk28 (v5 + (5 : Int32)) s43 else
  (some (.inl (some (qI (0 : Int32))), s43)))) else
  rk28 (v5 + (5 : Int32)) s43) else
  (some (.inl (some (qI (0 : Int32))), s43))))) qE0)) qE0 else none) else none))) qE0 else none) else none)
def j_L_law_1167 (LL : Nat) (xs : Nat → Int32) (rk28 : Int32 → qS → Option qO) (v5 : Int32) (s0 : qS) : Option qO :=
  (if qin (v5 + (1 : Int32)) LL then (if qin (v5 + (2 : Int32)) LL then qbind (f_L_depends (xs ((v5 + (1 : Int32))).toNatClampNeg) (xs ((v5 + (2 : Int32))).toNatClampNeg) s0) (qvI (fun r44 s44 =>
  (if qin (v5 + (1 : Int32)) LL then (if qin (v5 + (2 : Int32)) LL then qbind (f_X8_depends (xs ((v5 + (1 : Int32))).toNatClampNeg) (xs ((v5 + (2 : Int32))).toNatClampNeg) s44) (qvI (fun r45 s45 =>
  qbind (f_X8_thrown  s45) (qvI (fun r46 s46 =>
  (if r46 = r44 then (if r44 = 0 then (if r45 = 0 then (if (lg_cmp (((s46 38 0 0)).toInt64) ((0 : Int64))) = 0 then rk28 (v5 + (5 : Int32)) s46 else
  (some (.inl (some (qI (0 : Int32))), s46))) else
  (if (lg_cmp (((s46 38 0 0)).toInt64) ((1 : Int64))) = 0 then rk28 (v5 + (5 : Int32)) s46 else
  (some (.inl (some (qI (0 : Int32))), s46)))) else
  rk28 (v5 + (5 : Int32)) s46) else
  (some (.inl (some (qI (0 : Int32))), s46))))) qE0)) qE0 else none) else none))) qE0 else none) else none)
def j_L_law_1242 (LL : Nat) (xs : Nat → Int32) (rk28 : Int32 → qS → Option qO) (v5 : Int32) (s0 : qS) : Option qO :=
  (if qin (v5 + (1 : Int32)) LL then (if qin (v5 + (2 : Int32)) LL then qbind (f_L_dependsByClosure (xs ((v5 + (1 : Int32))).toNatClampNeg) (xs ((v5 + (2 : Int32))).toNatClampNeg) s0) (qvI (fun r47 s47 =>
  (if qin (v5 + (1 : Int32)) LL then (if qin (v5 + (2 : Int32)) LL then qbind (f_X8_dependsByClosure (xs ((v5 + (1 : Int32))).toNatClampNeg) (xs ((v5 + (2 : Int32))).toNatClampNeg) s47) (qvI (fun r48 s48 =>
  qbind (f_X8_thrown  s48) (qvI (fun r49 s49 =>
  (if r49 = r47 then (if r47 = 0 then (if r48 = 0 then (if (lg_cmp (((s49 38 0 0)).toInt64) ((0 : Int64))) = 0 then rk28 (v5 + (5 : Int32)) s49 else
  (some (.inl (some (qI (0 : Int32))), s49))) else
  (if (lg_cmp (((s49 38 0 0)).toInt64) ((1 : Int64))) = 0 then rk28 (v5 + (5 : Int32)) s49 else
  (some (.inl (some (qI (0 : Int32))), s49)))) else
  rk28 (v5 + (5 : Int32)) s49) else
  (some (.inl (some (qI (0 : Int32))), s49))))) qE0)) qE0 else none) else none))) qE0 else none) else none)
def j_L_law_1317 (LL : Nat) (xs : Nat → Int32) (rk28 : Int32 → qS → Option qO) (v5 : Int32) (s0 : qS) : Option qO :=
  (if qin (v5 + (1 : Int32)) LL then qbind (f_L_neededCount (xs ((v5 + (1 : Int32))).toNatClampNeg) s0) (qvI (fun r50 s50 =>
  (if qin (v5 + (1 : Int32)) LL then qbind (f_X8_neededCount (xs ((v5 + (1 : Int32))).toNatClampNeg) s50) (qvI (fun r51 s51 =>
  qbind (f_X8_thrown  s51) (qvI (fun r52 s52 =>
  (if r52 = r50 then (if r50 = 0 then (if (lg_cmp (((s52 38 0 0)).toInt64) ((r51).toInt64)) = 0 then rk28 (v5 + (5 : Int32)) s52 else
  (some (.inl (some (qI (0 : Int32))), s52))) else
  rk28 (v5 + (5 : Int32)) s52) else
  (some (.inl (some (qI (0 : Int32))), s52))))) qE0)) qE0 else none))) qE0 else none)
def j_L_law_1373 (LL : Nat) (xs : Nat → Int32) (rk28 : Int32 → qS → Option qO) (v5 : Int32) (s0 : qS) : Option qO :=
  (if qin (v5 + (1 : Int32)) LL then qbind (f_L_dependentCount (xs ((v5 + (1 : Int32))).toNatClampNeg) s0) (qvI (fun r53 s53 =>
  (if qin (v5 + (1 : Int32)) LL then qbind (f_X8_dependentCount (xs ((v5 + (1 : Int32))).toNatClampNeg) s53) (qvI (fun r54 s54 =>
  qbind (f_X8_thrown  s54) (qvI (fun r55 s55 =>
  (if r55 = r53 then (if r53 = 0 then (if (lg_cmp (((s55 38 0 0)).toInt64) ((r54).toInt64)) = 0 then rk28 (v5 + (5 : Int32)) s55 else
  (some (.inl (some (qI (0 : Int32))), s55))) else
  rk28 (v5 + (5 : Int32)) s55) else
  (some (.inl (some (qI (0 : Int32))), s55))))) qE0)) qE0 else none))) qE0 else none)
def j_L_law_1429 (LL : Nat) (xs : Nat → Int32) (rk28 : Int32 → qS → Option qO) (v5 : Int32) (s0 : qS) : Option qO :=
  (if qin (v5 + (1 : Int32)) LL then qbind (f_L_taskInOrder (xs ((v5 + (1 : Int32))).toNatClampNeg) s0) (qvI (fun r56 s56 =>
  (if qin (v5 + (1 : Int32)) LL then qbind (f_X8_taskInOrder (xs ((v5 + (1 : Int32))).toNatClampNeg) s56) (qvI (fun r57 s57 =>
  qbind (f_X8_thrown  s57) (qvI (fun r58 s58 =>
  (if r58 = r56 then (if r56 = 0 then (if (lg_cmp (((s58 38 0 0)).toInt64) ((r57).toInt64)) = 0 then rk28 (v5 + (5 : Int32)) s58 else
  (some (.inl (some (qI (0 : Int32))), s58))) else
  rk28 (v5 + (5 : Int32)) s58) else
  (some (.inl (some (qI (0 : Int32))), s58))))) qE0)) qE0 else none))) qE0 else none)
def j_L_law_1485 (LL : Nat) (xs : Nat → Int32) (rk28 : Int32 → qS → Option qO) (v5 : Int32) (s0 : qS) : Option qO :=
  (if qin (v5 + (1 : Int32)) LL then qbind (f_L_earliestStart (xs ((v5 + (1 : Int32))).toNatClampNeg) s0) (qvI (fun r59 s59 =>
  (if qin (v5 + (1 : Int32)) LL then qbind (f_X8_earliestStart (xs ((v5 + (1 : Int32))).toNatClampNeg) s59) (qvI (fun r60 s60 =>
  qbind (f_X8_thrown  s60) (qvI (fun r61 s61 =>
  (if r61 = r59 then (if r59 = 0 then (if (lg_cmp (((s61 38 0 0)).toInt64) ((r60).toInt64)) = 0 then rk28 (v5 + (5 : Int32)) s61 else
  (some (.inl (some (qI (0 : Int32))), s61))) else
  rk28 (v5 + (5 : Int32)) s61) else
  (some (.inl (some (qI (0 : Int32))), s61))))) qE0)) qE0 else none))) qE0 else none)
def j_L_law_1541 (LL : Nat) (xs : Nat → Int32) (rk28 : Int32 → qS → Option qO) (v5 : Int32) (s0 : qS) : Option qO :=
  (if qin (v5 + (1 : Int32)) LL then qbind (f_L_earliestStartByRounds (xs ((v5 + (1 : Int32))).toNatClampNeg) s0) (qvI (fun r62 s62 =>
  (if qin (v5 + (1 : Int32)) LL then qbind (f_X8_earliestStartByRounds (xs ((v5 + (1 : Int32))).toNatClampNeg) s62) (qvI (fun r63 s63 =>
  qbind (f_X8_thrown  s63) (qvI (fun r64 s64 =>
  (if r64 = r62 then (if r62 = 0 then (if (lg_cmp (((s64 38 0 0)).toInt64) ((r63).toInt64)) = 0 then rk28 (v5 + (5 : Int32)) s64 else
  (some (.inl (some (qI (0 : Int32))), s64))) else
  rk28 (v5 + (5 : Int32)) s64) else
  (some (.inl (some (qI (0 : Int32))), s64))))) qE0)) qE0 else none))) qE0 else none)
def j_L_law_1597 (LL : Nat) (xs : Nat → Int32) (rk28 : Int32 → qS → Option qO) (v5 : Int32) (s0 : qS) : Option qO :=
  (if qin (v5 + (1 : Int32)) LL then qbind (f_L_latestStart (xs ((v5 + (1 : Int32))).toNatClampNeg) s0) (qvI (fun r65 s65 =>
  (if qin (v5 + (1 : Int32)) LL then qbind (f_X8_latestStart (xs ((v5 + (1 : Int32))).toNatClampNeg) s65) (qvI (fun r66 s66 =>
  qbind (f_X8_thrown  s66) (qvI (fun r67 s67 =>
  (if r67 = r65 then (if r65 = 0 then (if (lg_cmp (((s67 38 0 0)).toInt64) ((r66).toInt64)) = 0 then rk28 (v5 + (5 : Int32)) s67 else
  (some (.inl (some (qI (0 : Int32))), s67))) else
  rk28 (v5 + (5 : Int32)) s67) else
  (some (.inl (some (qI (0 : Int32))), s67))))) qE0)) qE0 else none))) qE0 else none)
def j_L_law_1653 (LL : Nat) (xs : Nat → Int32) (rk28 : Int32 → qS → Option qO) (v5 : Int32) (s0 : qS) : Option qO :=
  (if qin (v5 + (1 : Int32)) LL then qbind (f_L_slack (xs ((v5 + (1 : Int32))).toNatClampNeg) s0) (qvI (fun r68 s68 =>
  (if qin (v5 + (1 : Int32)) LL then qbind (f_X8_slack (xs ((v5 + (1 : Int32))).toNatClampNeg) s68) (qvI (fun r69 s69 =>
  qbind (f_X8_thrown  s69) (qvI (fun r70 s70 =>
  (if r70 = r68 then (if r68 = 0 then (if (lg_cmp (((s70 38 0 0)).toInt64) ((r69).toInt64)) = 0 then rk28 (v5 + (5 : Int32)) s70 else
  (some (.inl (some (qI (0 : Int32))), s70))) else
  rk28 (v5 + (5 : Int32)) s70) else
  (some (.inl (some (qI (0 : Int32))), s70))))) qE0)) qE0 else none))) qE0 else none)
def j_L_law_1709 (LL : Nat) (xs : Nat → Int32) (rk28 : Int32 → qS → Option qO) (v5 : Int32) (s0 : qS) : Option qO :=
  (if qin (v5 + (1 : Int32)) LL then qbind (f_L_isCritical (xs ((v5 + (1 : Int32))).toNatClampNeg) s0) (qvI (fun r71 s71 =>
  (if qin (v5 + (1 : Int32)) LL then qbind (f_X8_isCritical (xs ((v5 + (1 : Int32))).toNatClampNeg) s71) (qvI (fun r72 s72 =>
  qbind (f_X8_thrown  s72) (qvI (fun r73 s73 =>
  (if r73 = r71 then (if r71 = 0 then (if r72 = 0 then (if (lg_cmp (((s73 38 0 0)).toInt64) ((0 : Int64))) = 0 then rk28 (v5 + (5 : Int32)) s73 else
  (some (.inl (some (qI (0 : Int32))), s73))) else
  (if (lg_cmp (((s73 38 0 0)).toInt64) ((1 : Int64))) = 0 then rk28 (v5 + (5 : Int32)) s73 else
  (some (.inl (some (qI (0 : Int32))), s73)))) else
  rk28 (v5 + (5 : Int32)) s73) else
  (some (.inl (some (qI (0 : Int32))), s73))))) qE0)) qE0 else none))) qE0 else none)
def j_L_law_1772 (LL : Nat) (xs : Nat → Int32) (rk28 : Int32 → qS → Option qO) (v5 : Int32) (s0 : qS) : Option qO :=
  qbind (f_X7_projectLength  s0) (qvI (fun r74 s74 =>
  qbind (f_X8_projectLength  s74) (qvI (fun r75 s75 =>
  (if r74 = r75 then rk28 (v5 + (5 : Int32)) s75 else
  (some (.inl (some (qI (0 : Int32))), s75))))) qE0)) qE0
def j_L_law_1785 (LL : Nat) (xs : Nat → Int32) (rk28 : Int32 → qS → Option qO) (v5 : Int32) (s0 : qS) : Option qO :=
  qbind (f_X7_criticalCount  s0) (qvI (fun r76 s76 =>
  qbind (f_X8_criticalCount  s76) (qvI (fun r77 s77 =>
  (if r76 = r77 then rk28 (v5 + (5 : Int32)) s77 else
  (some (.inl (some (qI (0 : Int32))), s77))))) qE0)) qE0
def j_L_law_1798 (LL : Nat) (xs : Nat → Int32) (rk28 : Int32 → qS → Option qO) (v5 : Int32) (s0 : qS) : Option qO :=
  qbind (f_L_lastTask  s0) (qvI (fun r78 s78 =>
  qbind (f_X8_lastTask  s78) (qvI (fun r79 s79 =>
  qbind (f_X8_thrown  s79) (qvI (fun r80 s80 =>
  (if r80 = r78 then (if r78 = 0 then (if (lg_cmp (((s80 38 0 0)).toInt64) ((r79).toInt64)) = 0 then rk28 (v5 + (5 : Int32)) s80 else
  (some (.inl (some (qI (0 : Int32))), s80))) else
  rk28 (v5 + (5 : Int32)) s80) else
  (some (.inl (some (qI (0 : Int32))), s80))))) qE0)) qE0)) qE0
def j_L_law_1842 (LL : Nat) (xs : Nat → Int32) (rk28 : Int32 → qS → Option qO) (v5 : Int32) (s0 : qS) : Option qO :=
  (if qin (v5 + (1 : Int32)) LL then qbind (f_L_levelledStart (xs ((v5 + (1 : Int32))).toNatClampNeg) s0) (qvI (fun r81 s81 =>
  (if qin (v5 + (1 : Int32)) LL then qbind (f_X8_levelledStart (xs ((v5 + (1 : Int32))).toNatClampNeg) s81) (qvI (fun r82 s82 =>
  qbind (f_X8_thrown  s82) (qvI (fun r83 s83 =>
  (if r83 = r81 then (if r81 = 0 then (if (lg_cmp (((s83 38 0 0)).toInt64) ((r82).toInt64)) = 0 then rk28 (v5 + (5 : Int32)) s83 else
  (some (.inl (some (qI (0 : Int32))), s83))) else
  rk28 (v5 + (5 : Int32)) s83) else
  (some (.inl (some (qI (0 : Int32))), s83))))) qE0)) qE0 else none))) qE0 else none)
def j_L_law_1898 (LL : Nat) (xs : Nat → Int32) (rk28 : Int32 → qS → Option qO) (v5 : Int32) (s0 : qS) : Option qO :=
  qbind (f_X7_levelledLength  s0) (qvI (fun r84 s84 =>
  qbind (f_X8_levelledLength  s84) (qvI (fun r85 s85 =>
  (if r84 = r85 then rk28 (v5 + (5 : Int32)) s85 else
  (some (.inl (some (qI (0 : Int32))), s85))))) qE0)) qE0
def j_L_law_1911 (LL : Nat) (xs : Nat → Int32) (rk28 : Int32 → qS → Option qO) (v5 : Int32) (s0 : qS) : Option qO :=
  (if qin (v5 + (1 : Int32)) LL then (if qin (v5 + (2 : Int32)) LL then qbind (f_L_usage (xs ((v5 + (1 : Int32))).toNatClampNeg) (xs ((v5 + (2 : Int32))).toNatClampNeg) s0) (qvI (fun r86 s86 =>
  (if qin (v5 + (1 : Int32)) LL then (if qin (v5 + (2 : Int32)) LL then qbind (f_X8_usage (xs ((v5 + (1 : Int32))).toNatClampNeg) (xs ((v5 + (2 : Int32))).toNatClampNeg) s86) (qvI (fun r87 s87 =>
  qbind (f_X8_thrown  s87) (qvI (fun r88 s88 =>
  (if r88 = r86 then (if r86 = 0 then (if (lg_cmp (((s88 38 0 0)).toInt64) ((r87).toInt64)) = 0 then rk28 (v5 + (5 : Int32)) s88 else
  (some (.inl (some (qI (0 : Int32))), s88))) else
  rk28 (v5 + (5 : Int32)) s88) else
  (some (.inl (some (qI (0 : Int32))), s88))))) qE0)) qE0 else none) else none))) qE0 else none) else none)
def j_L_law_1979 (LL : Nat) (xs : Nat → Int32) (rk28 : Int32 → qS → Option qO) (v5 : Int32) (s0 : qS) : Option qO :=
  (if qin (v5 + (1 : Int32)) LL then (if qin (v5 + (2 : Int32)) LL then qbind (f_L_usageByTasks (xs ((v5 + (1 : Int32))).toNatClampNeg) (xs ((v5 + (2 : Int32))).toNatClampNeg) s0) (qvI (fun r89 s89 =>
  (if qin (v5 + (1 : Int32)) LL then (if qin (v5 + (2 : Int32)) LL then qbind (f_X8_usageByTasks (xs ((v5 + (1 : Int32))).toNatClampNeg) (xs ((v5 + (2 : Int32))).toNatClampNeg) s89) (qvI (fun r90 s90 =>
  qbind (f_X8_thrown  s90) (qvI (fun r91 s91 =>
  (if r91 = r89 then (if r89 = 0 then (if (lg_cmp (((s91 38 0 0)).toInt64) ((r90).toInt64)) = 0 then rk28 (v5 + (5 : Int32)) s91 else
  (some (.inl (some (qI (0 : Int32))), s91))) else
  rk28 (v5 + (5 : Int32)) s91) else
  (some (.inl (some (qI (0 : Int32))), s91))))) qE0)) qE0 else none) else none))) qE0 else none) else none)
def j_L_law_2047 (LL : Nat) (xs : Nat → Int32) (rk28 : Int32 → qS → Option qO) (v5 : Int32) (s0 : qS) : Option qO :=
  (if qin (v5 + (1 : Int32)) LL then qbind (f_L_peakUsage (xs ((v5 + (1 : Int32))).toNatClampNeg) s0) (qvI (fun r92 s92 =>
  (if qin (v5 + (1 : Int32)) LL then qbind (f_X8_peakUsage (xs ((v5 + (1 : Int32))).toNatClampNeg) s92) (qvI (fun r93 s93 =>
  qbind (f_X8_thrown  s93) (qvI (fun r94 s94 =>
  (if r94 = r92 then (if r92 = 0 then (if (lg_cmp (((s94 38 0 0)).toInt64) ((r93).toInt64)) = 0 then rk28 (v5 + (5 : Int32)) s94 else
  (some (.inl (some (qI (0 : Int32))), s94))) else
  rk28 (v5 + (5 : Int32)) s94) else
  (some (.inl (some (qI (0 : Int32))), s94))))) qE0)) qE0 else none))) qE0 else none)
def j_L_law_2103 (LL : Nat) (xs : Nat → Int32) (rk28 : Int32 → qS → Option qO) (v5 : Int32) (s0 : qS) : Option qO :=
  (if qin (v5 + (1 : Int32)) LL then qbind (f_L_tasksOn (xs ((v5 + (1 : Int32))).toNatClampNeg) s0) (qvI (fun r95 s95 =>
  (if qin (v5 + (1 : Int32)) LL then qbind (f_X8_tasksOn (xs ((v5 + (1 : Int32))).toNatClampNeg) s95) (qvI (fun r96 s96 =>
  qbind (f_X8_thrown  s96) (qvI (fun r97 s97 =>
  (if r97 = r95 then (if r95 = 0 then (if (lg_cmp (((s97 38 0 0)).toInt64) ((r96).toInt64)) = 0 then rk28 (v5 + (5 : Int32)) s97 else
  (some (.inl (some (qI (0 : Int32))), s97))) else
  rk28 (v5 + (5 : Int32)) s97) else
  (some (.inl (some (qI (0 : Int32))), s97))))) qE0)) qE0 else none))) qE0 else none)
def j_L_law_2159 (LL : Nat) (xs : Nat → Int32) (rk28 : Int32 → qS → Option qO) (v5 : Int32) (s0 : qS) : Option qO :=
  (if qin (v5 + (1 : Int32)) LL then qbind (f_L_workload (xs ((v5 + (1 : Int32))).toNatClampNeg) s0) (qvI (fun r98 s98 =>
  (if qin (v5 + (1 : Int32)) LL then qbind (f_X8_workload (xs ((v5 + (1 : Int32))).toNatClampNeg) s98) (qvI (fun r99 s99 =>
  qbind (f_X8_thrown  s99) (qvI (fun r100 s100 =>
  (if r100 = r98 then (if r98 = 0 then (if (lg_cmp (((s100 38 0 0)).toInt64) ((r99).toInt64)) = 0 then rk28 (v5 + (5 : Int32)) s100 else
  (some (.inl (some (qI (0 : Int32))), s100))) else
  rk28 (v5 + (5 : Int32)) s100) else
  (some (.inl (some (qI (0 : Int32))), s100))))) qE0)) qE0 else none))) qE0 else none)
def j_L_law_2215 (LL : Nat) (xs : Nat → Int32) (rk28 : Int32 → qS → Option qO) (v5 : Int32) (s0 : qS) : Option qO :=
  (if qin (v5 + (1 : Int32)) LL then qbind (f_L_workloadByDays (xs ((v5 + (1 : Int32))).toNatClampNeg) s0) (qvI (fun r101 s101 =>
  (if qin (v5 + (1 : Int32)) LL then qbind (f_X8_workloadByDays (xs ((v5 + (1 : Int32))).toNatClampNeg) s101) (qvI (fun r102 s102 =>
  qbind (f_X8_thrown  s102) (qvI (fun r103 s103 =>
  (if r103 = r101 then (if r101 = 0 then (if (lg_cmp (((s103 38 0 0)).toInt64) ((r102).toInt64)) = 0 then rk28 (v5 + (5 : Int32)) s103 else
  (some (.inl (some (qI (0 : Int32))), s103))) else
  rk28 (v5 + (5 : Int32)) s103) else
  (some (.inl (some (qI (0 : Int32))), s103))))) qE0)) qE0 else none))) qE0 else none)
def j_L_law_2271 (LL : Nat) (xs : Nat → Int32) (rk28 : Int32 → qS → Option qO) (v5 : Int32) (s0 : qS) : Option qO :=
  qbind (f_X7_hasBaseline  s0) (qvI (fun r104 s104 =>
  qbind (f_X8_hasBaseline  s104) (qvI (fun r105 s105 =>
  (if r104 = r105 then rk28 (v5 + (5 : Int32)) s105 else
  (some (.inl (some (qI (0 : Int32))), s105))))) qE0)) qE0
def j_L_law_2284 (LL : Nat) (xs : Nat → Int32) (rk28 : Int32 → qS → Option qO) (v5 : Int32) (s0 : qS) : Option qO :=
  (if qin (v5 + (1 : Int32)) LL then qbind (f_L_baselineStart (xs ((v5 + (1 : Int32))).toNatClampNeg) s0) (qvI (fun r106 s106 =>
  (if qin (v5 + (1 : Int32)) LL then qbind (f_X8_baselineStart (xs ((v5 + (1 : Int32))).toNatClampNeg) s106) (qvI (fun r107 s107 =>
  qbind (f_X8_thrown  s107) (qvI (fun r108 s108 =>
  (if r108 = r106 then (if r106 = 0 then (if (lg_cmp (((s108 38 0 0)).toInt64) ((r107).toInt64)) = 0 then rk28 (v5 + (5 : Int32)) s108 else
  (some (.inl (some (qI (0 : Int32))), s108))) else
  rk28 (v5 + (5 : Int32)) s108) else
  (some (.inl (some (qI (0 : Int32))), s108))))) qE0)) qE0 else none))) qE0 else none)
def j_L_law_2340 (LL : Nat) (xs : Nat → Int32) (rk28 : Int32 → qS → Option qO) (v5 : Int32) (s0 : qS) : Option qO :=
  (if qin (v5 + (1 : Int32)) LL then qbind (f_L_drift (xs ((v5 + (1 : Int32))).toNatClampNeg) s0) (qvI (fun r109 s109 =>
  (if qin (v5 + (1 : Int32)) LL then qbind (f_X8_drift (xs ((v5 + (1 : Int32))).toNatClampNeg) s109) (qvI (fun r110 s110 =>
  qbind (f_X8_thrown  s110) (qvI (fun r111 s111 =>
  (if r111 = r109 then (if r109 = 0 then (if (lg_cmp (((s111 38 0 0)).toInt64) ((r110).toInt64)) = 0 then rk28 (v5 + (5 : Int32)) s111 else
  (some (.inl (some (qI (0 : Int32))), s111))) else
  rk28 (v5 + (5 : Int32)) s111) else
  (some (.inl (some (qI (0 : Int32))), s111))))) qE0)) qE0 else none))) qE0 else none)
def j_L_law_2396 (LL : Nat) (xs : Nat → Int32) (rk28 : Int32 → qS → Option qO) (v5 : Int32) (s0 : qS) : Option qO :=
  qbind (f_L_totalDrift  s0) (qvI (fun r112 s112 =>
  qbind (f_X8_totalDrift  s112) (qvI (fun r113 s113 =>
  qbind (f_X8_thrown  s113) (qvI (fun r114 s114 =>
  (if r114 = r112 then (if r112 = 0 then (if (lg_cmp (((s114 38 0 0)).toInt64) ((r113).toInt64)) = 0 then rk28 (v5 + (5 : Int32)) s114 else
  (some (.inl (some (qI (0 : Int32))), s114))) else
  rk28 (v5 + (5 : Int32)) s114) else
  (some (.inl (some (qI (0 : Int32))), s114))))) qE0)) qE0)) qE0
def j_L_law_2440 (LL : Nat) (xs : Nat → Int32) (rk28 : Int32 → qS → Option qO) (v5 : Int32) (s0 : qS) : Option qO :=
  (if qin (v5 + (1 : Int32)) LL then qbind (f_L_taskBySlack (xs ((v5 + (1 : Int32))).toNatClampNeg) s0) (qvI (fun r115 s115 =>
  (if qin (v5 + (1 : Int32)) LL then qbind (f_X8_taskBySlack (xs ((v5 + (1 : Int32))).toNatClampNeg) s115) (qvI (fun r116 s116 =>
  qbind (f_X8_thrown  s116) (qvI (fun r117 s117 =>
  (if r117 = r115 then (if r115 = 0 then (if (lg_cmp (((s117 38 0 0)).toInt64) ((r116).toInt64)) = 0 then rk28 (v5 + (5 : Int32)) s117 else
  (some (.inl (some (qI (0 : Int32))), s117))) else
  rk28 (v5 + (5 : Int32)) s117) else
  (some (.inl (some (qI (0 : Int32))), s117))))) qE0)) qE0 else none))) qE0 else none)
def j_L_law_2496 (LL : Nat) (xs : Nat → Int32) (rk28 : Int32 → qS → Option qO) (v5 : Int32) (s0 : qS) : Option qO :=
  (if qin (v5 + (1 : Int32)) LL then qbind (f_L_taskByStart (xs ((v5 + (1 : Int32))).toNatClampNeg) s0) (qvI (fun r118 s118 =>
  (if qin (v5 + (1 : Int32)) LL then qbind (f_X8_taskByStart (xs ((v5 + (1 : Int32))).toNatClampNeg) s118) (qvI (fun r119 s119 =>
  qbind (f_X8_thrown  s119) (qvI (fun r120 s120 =>
  (if r120 = r118 then (if r118 = 0 then (if (lg_cmp (((s120 38 0 0)).toInt64) ((r119).toInt64)) = 0 then rk28 (v5 + (5 : Int32)) s120 else
  (some (.inl (some (qI (0 : Int32))), s120))) else
  rk28 (v5 + (5 : Int32)) s120) else
  (some (.inl (some (qI (0 : Int32))), s120))))) qE0)) qE0 else none))) qE0 else none)
def j_L_law_2552 (LL : Nat) (xs : Nat → Int32) (rk28 : Int32 → qS → Option qO) (v5 : Int32) (s0 : qS) : Option qO :=
  qbind (f_L_meanSlack  s0) (qvI (fun r121 s121 =>
  qbind (f_X8_meanSlack  s121) (qvD (fun r122 s122 =>
  qbind (f_X8_thrown  s122) (qvI (fun r123 s123 =>
  (if r123 = r121 then (if r121 = 0 then (if (Op.cmpValue (FP.dcmp (qdb (s123 39 0 0) (s123 39 0 1)) r122) .l) = 0 then rk28 (v5 + (5 : Int32)) s123 else
  (if (Op.cmpValue (FP.dcmp (qdb (s123 39 0 0) (s123 39 0 1)) (qdb (s123 39 0 0) (s123 39 0 1))) .l) = 0 then (some (.inl (some (qI (0 : Int32))), s123)) else
  (if (Op.cmpValue (FP.dcmp r122 r122) .l) = 0 then (some (.inl (some (qI (0 : Int32))), s123)) else
  rk28 (v5 + (5 : Int32)) s123))) else
  rk28 (v5 + (5 : Int32)) s123) else
  (some (.inl (some (qI (0 : Int32))), s123))))) qE0)) qE0)) qE0
def j_L_law_2617 (LL : Nat) (xs : Nat → Int32) (rk28 : Int32 → qS → Option qO) (v5 : Int32) (s0 : qS) : Option qO :=
  (if qin (v5 + (1 : Int32)) LL then qbind (f_L_utilization (xs ((v5 + (1 : Int32))).toNatClampNeg) s0) (qvI (fun r124 s124 =>
  (if qin (v5 + (1 : Int32)) LL then qbind (f_X8_utilization (xs ((v5 + (1 : Int32))).toNatClampNeg) s124) (qvF (fun r125 s125 =>
  qbind (f_X8_thrown  s125) (qvI (fun r126 s126 =>
  (if r126 = r124 then (if r124 = 0 then (if qn64 (FP.f2d r125) then (if (Op.cmpValue (FP.dcmp (qdb (s126 39 0 0) (s126 39 0 1)) (FP.f2d r125)) .l) = 0 then rk28 (v5 + (5 : Int32)) s126 else
  (if (Op.cmpValue (FP.dcmp (qdb (s126 39 0 0) (s126 39 0 1)) (qdb (s126 39 0 0) (s126 39 0 1))) .l) = 0 then (some (.inl (some (qI (0 : Int32))), s126)) else
  (if (Op.cmpValue (FP.fcmp r125 r125) .l) = 0 then (some (.inl (some (qI (0 : Int32))), s126)) else
  rk28 (v5 + (5 : Int32)) s126))) else none) else
  rk28 (v5 + (5 : Int32)) s126) else
  (some (.inl (some (qI (0 : Int32))), s126))))) qE0)) qE0 else none))) qE0 else none)
def j_L_law_2695 (LL : Nat) (xs : Nat → Int32) (rk28 : Int32 → qS → Option qO) (v5 : Int32) (s0 : qS) : Option qO :=
  qbind (f_X7_isConsistent  s0) (qvI (fun r127 s127 =>
  qbind (f_X8_isConsistent  s127) (qvI (fun r128 s128 =>
  (if r127 = r128 then rk28 (v5 + (5 : Int32)) s128 else
  (some (.inl (some (qI (0 : Int32))), s128))))) qE0)) qE0
def j_L_law_2708 (LL : Nat) (xs : Nat → Int32) (rk28 : Int32 → qS → Option qO) (v5 : Int32) (s0 : qS) : Option qO :=
  (if qin (v5 + (1 : Int32)) LL then qbind (f_L_renderTask (xs ((v5 + (1 : Int32))).toNatClampNeg) s0) (qvI (fun r129 s129 =>
  (if qin (v5 + (1 : Int32)) LL then qbind (f_X8_renderTask (xs ((v5 + (1 : Int32))).toNatClampNeg) s129) (qvI (fun r130 s130 =>
  qbind (f_X8_thrown  s130) (qvI (fun r131 s131 =>
  (if r131 = r129 then (if r129 = 0 then (if (lg_cmp (((s131 38 0 0)).toInt64) ((r130).toInt64)) = 0 then rk28 (v5 + (5 : Int32)) s131 else
  (some (.inl (some (qI (0 : Int32))), s131))) else
  rk28 (v5 + (5 : Int32)) s131) else
  (some (.inl (some (qI (0 : Int32))), s131))))) qE0)) qE0 else none))) qE0 else none)
def j_L_law_2764 (LL : Nat) (xs : Nat → Int32) (rk28 : Int32 → qS → Option qO) (v5 : Int32) (s0 : qS) : Option qO :=
  (if qin (v5 + (1 : Int32)) LL then qbind (f_L_renderUsage (xs ((v5 + (1 : Int32))).toNatClampNeg) s0) (qvI (fun r132 s132 =>
  (if qin (v5 + (1 : Int32)) LL then qbind (f_X8_renderUsage (xs ((v5 + (1 : Int32))).toNatClampNeg) s132) (qvI (fun r133 s133 =>
  qbind (f_X8_thrown  s133) (qvI (fun r134 s134 =>
  (if r134 = r132 then (if r132 = 0 then (if (lg_cmp (((s134 38 0 0)).toInt64) ((r133).toInt64)) = 0 then rk28 (v5 + (5 : Int32)) s134 else
  (some (.inl (some (qI (0 : Int32))), s134))) else
  rk28 (v5 + (5 : Int32)) s134) else
  (some (.inl (some (qI (0 : Int32))), s134))))) qE0)) qE0 else none))) qE0 else none)
def j_L_law_2820 (LL : Nat) (xs : Nat → Int32) (rk28 : Int32 → qS → Option qO) (v5 : Int32) (s0 : qS) : Option qO :=
  (if qin (v5 + (1 : Int32)) LL then qbind (f_L_outputAt (xs ((v5 + (1 : Int32))).toNatClampNeg) s0) (qvI (fun r135 s135 =>
  (if qin (v5 + (1 : Int32)) LL then qbind (f_X8_outputAt (xs ((v5 + (1 : Int32))).toNatClampNeg) s135) (qvI (fun r136 s136 =>
  qbind (f_X8_thrown  s136) (qvI (fun r137 s137 =>
  (if r137 = r135 then (if r135 = 0 then (if (lg_cmp (((s137 38 0 0)).toInt64) ((r136).toInt64)) = 0 then rk28 (v5 + (5 : Int32)) s137 else
  (some (.inl (some (qI (0 : Int32))), s137))) else
  rk28 (v5 + (5 : Int32)) s137) else
  (some (.inl (some (qI (0 : Int32))), s137))))) qE0)) qE0 else none))) qE0 else none)
def j_L_law_2876 (LL : Nat) (xs : Nat → Int32) (rk28 : Int32 → qS → Option qO) (v5 : Int32) (s0 : qS) : Option qO :=
  (if qin (v5 + (1 : Int32)) LL then qbind (f_L_type (((xs ((v5 + (1 : Int32))).toNatClampNeg).toUInt32 % 65536).toInt32) s0) (qvI (fun r138 s138 =>
  (if qin (v5 + (1 : Int32)) LL then qbind (f_X8_type (((xs ((v5 + (1 : Int32))).toNatClampNeg).toUInt32 % 65536).toInt32) s138) (qvI (fun r139 s139 =>
  qbind (f_X8_thrown  s139) (qvI (fun r140 s140 =>
  (if r140 = r138 then (if r138 = 0 then (if (lg_cmp (((s140 38 0 0)).toInt64) ((r139).toInt64)) = 0 then rk28 (v5 + (5 : Int32)) s140 else
  (some (.inl (some (qI (0 : Int32))), s140))) else
  rk28 (v5 + (5 : Int32)) s140) else
  (some (.inl (some (qI (0 : Int32))), s140))))) qE0)) qE0 else none))) qE0 else none)
def j_L_law_2934 (LL : Nat) (xs : Nat → Int32) (rk28 : Int32 → qS → Option qO) (v5 : Int32) (s0 : qS) : Option qO :=
  qbind (f_L_runScript  s0) (qvI (fun r141 s141 =>
  qbind (f_X8_runScript  s141) (qvI (fun r142 s142 =>
  qbind (f_X8_thrown  s142) (qvI (fun r143 s143 =>
  (if r143 = r141 then (if r141 = 0 then (if (lg_cmp (((s143 38 0 0)).toInt64) ((r142).toInt64)) = 0 then rk28 (v5 + (5 : Int32)) s143 else
  (some (.inl (some (qI (0 : Int32))), s143))) else
  rk28 (v5 + (5 : Int32)) s143) else
  (some (.inl (some (qI (0 : Int32))), s143))))) qE0)) qE0)) qE0
def j_L_law_2978 (LL : Nat) (xs : Nat → Int32) (rk28 : Int32 → qS → Option qO) (v5 : Int32) (s0 : qS) : Option qO :=
  qbind (f_L_errorPosition  s0) (qvI (fun r144 s144 =>
  qbind (f_X8_errorPosition  s144) (qvI (fun r145 s145 =>
  qbind (f_X8_thrown  s145) (qvI (fun r146 s146 =>
  (if r146 = r144 then (if r144 = 0 then (if (lg_cmp (((s146 38 0 0)).toInt64) ((r145).toInt64)) = 0 then rk28 (v5 + (5 : Int32)) s146 else
  (some (.inl (some (qI (0 : Int32))), s146))) else
  rk28 (v5 + (5 : Int32)) s146) else
  (some (.inl (some (qI (0 : Int32))), s146))))) qE0)) qE0)) qE0
def j_L_law_3022 (LL : Nat) (xs : Nat → Int32) (rk28 : Int32 → qS → Option qO) (v5 : Int32) (s0 : qS) : Option qO :=
  qbind (f_L_failedCommand  s0) (qvI (fun r147 s147 =>
  qbind (f_X8_failedCommand  s147) (qvI (fun r148 s148 =>
  qbind (f_X8_thrown  s148) (qvI (fun r149 s149 =>
  (if r149 = r147 then (if r147 = 0 then (if (lg_cmp (((s149 38 0 0)).toInt64) ((r148).toInt64)) = 0 then rk28 (v5 + (5 : Int32)) s149 else
  (some (.inl (some (qI (0 : Int32))), s149))) else
  rk28 (v5 + (5 : Int32)) s149) else
  (some (.inl (some (qI (0 : Int32))), s149))))) qE0)) qE0)) qE0
def j_L_law_3066 (LL : Nat) (xs : Nat → Int32) (rk28 : Int32 → qS → Option qO) (v5 : Int32) (s0 : qS) : Option qO :=
  qbind (f_L_failureReason  s0) (qvI (fun r150 s150 =>
  qbind (f_X8_failureReason  s150) (qvI (fun r151 s151 =>
  qbind (f_X8_thrown  s151) (qvI (fun r152 s152 =>
  (if r152 = r150 then (if r150 = 0 then (if (lg_cmp (((s152 38 0 0)).toInt64) ((r151).toInt64)) = 0 then rk28 (v5 + (5 : Int32)) s152 else
  (some (.inl (some (qI (0 : Int32))), s152))) else
  rk28 (v5 + (5 : Int32)) s152) else
  (some (.inl (some (qI (0 : Int32))), s152))))) qE0)) qE0)) qE0
def j_L_law_3110 (LL : Nat) (xs : Nat → Int32) (rk28 : Int32 → qS → Option qO) (v5 : Int32) (s0 : qS) : Option qO :=
  qbind (f_L_undo  s0) (qvI (fun r153 s153 =>
  qbind (f_X8_undo  s153) (qvI (fun r154 s154 =>
  qbind (f_X8_thrown  s154) (qvI (fun r155 s155 =>
  (if r155 = r153 then (if r153 = 0 then (if (lg_cmp (((s155 38 0 0)).toInt64) ((r154).toInt64)) = 0 then rk28 (v5 + (5 : Int32)) s155 else
  (some (.inl (some (qI (0 : Int32))), s155))) else
  rk28 (v5 + (5 : Int32)) s155) else
  (some (.inl (some (qI (0 : Int32))), s155))))) qE0)) qE0)) qE0
def j_L_law_3154 (LL : Nat) (xs : Nat → Int32) (rk28 : Int32 → qS → Option qO) (v5 : Int32) (s0 : qS) : Option qO :=
  qbind (f_X7_save  s0) (qvI (fun r156 s156 =>
  qbind (f_X8_save  s156) (qvI (fun r157 s157 =>
  (if r156 = r157 then rk28 (v5 + (5 : Int32)) s157 else
  (some (.inl (some (qI (0 : Int32))), s157))))) qE0)) qE0
def j_L_law_3167 (LL : Nat) (xs : Nat → Int32) (rk28 : Int32 → qS → Option qO) (v5 : Int32) (s0 : qS) : Option qO :=
  qbind (f_L_restore  s0) (qvI (fun r158 s158 =>
  qbind (f_X8_restore  s158) (qvI (fun r159 s159 =>
  qbind (f_X8_thrown  s159) (qvI (fun r160 s160 =>
  (if r160 = r158 then (if r158 = 0 then (if (lg_cmp (((s160 38 0 0)).toInt64) ((r159).toInt64)) = 0 then rk28 (v5 + (5 : Int32)) s160 else
  (some (.inl (some (qI (0 : Int32))), s160))) else
  rk28 (v5 + (5 : Int32)) s160) else
  (some (.inl (some (qI (0 : Int32))), s160))))) qE0)) qE0)) qE0
def b_L_law_28 (LL : Nat) (xs : Nat → Int32) (rk28 : Int32 → qS → Option qO) (v5 : Int32) (s0 : qS) : Option qO :=
  (if ((Int32.ofNat LL) - (5 : Int32)) < v5 then (some (.inl (some (qI (1 : Int32))), s0)) else
  (if qin v5 LL then (qsw ((xs (v5).toNatClampNeg) &&& (63 : Int32)) 0 [j_L_law_284 LL xs  rk28 v5 s0,
  j_L_law_376 LL xs  rk28 v5 s0,
  j_L_law_432 LL xs  rk28 v5 s0,
  j_L_law_507 LL xs  rk28 v5 s0,
  j_L_law_582 LL xs  rk28 v5 s0,
  j_L_law_650 LL xs  rk28 v5 s0,
  j_L_law_718 LL xs  rk28 v5 s0,
  j_L_law_786 LL xs  rk28 v5 s0,
  j_L_law_799 LL xs  rk28 v5 s0,
  j_L_law_812 LL xs  rk28 v5 s0,
  j_L_law_868 LL xs  rk28 v5 s0,
  j_L_law_924 LL xs  rk28 v5 s0,
  j_L_law_980 LL xs  rk28 v5 s0,
  j_L_law_1036 LL xs  rk28 v5 s0,
  j_L_law_1092 LL xs  rk28 v5 s0,
  j_L_law_1167 LL xs  rk28 v5 s0,
  j_L_law_1242 LL xs  rk28 v5 s0,
  j_L_law_1317 LL xs  rk28 v5 s0,
  j_L_law_1373 LL xs  rk28 v5 s0,
  j_L_law_1429 LL xs  rk28 v5 s0,
  j_L_law_1485 LL xs  rk28 v5 s0,
  j_L_law_1541 LL xs  rk28 v5 s0,
  j_L_law_1597 LL xs  rk28 v5 s0,
  j_L_law_1653 LL xs  rk28 v5 s0,
  j_L_law_1709 LL xs  rk28 v5 s0,
  j_L_law_1772 LL xs  rk28 v5 s0,
  j_L_law_1785 LL xs  rk28 v5 s0,
  j_L_law_1798 LL xs  rk28 v5 s0,
  j_L_law_1842 LL xs  rk28 v5 s0,
  j_L_law_1898 LL xs  rk28 v5 s0,
  j_L_law_1911 LL xs  rk28 v5 s0,
  j_L_law_1979 LL xs  rk28 v5 s0,
  j_L_law_2047 LL xs  rk28 v5 s0,
  j_L_law_2103 LL xs  rk28 v5 s0,
  j_L_law_2159 LL xs  rk28 v5 s0,
  j_L_law_2215 LL xs  rk28 v5 s0,
  j_L_law_2271 LL xs  rk28 v5 s0,
  j_L_law_2284 LL xs  rk28 v5 s0,
  j_L_law_2340 LL xs  rk28 v5 s0,
  j_L_law_2396 LL xs  rk28 v5 s0,
  j_L_law_2440 LL xs  rk28 v5 s0,
  j_L_law_2496 LL xs  rk28 v5 s0,
  j_L_law_2552 LL xs  rk28 v5 s0,
  j_L_law_2617 LL xs  rk28 v5 s0,
  j_L_law_2695 LL xs  rk28 v5 s0,
  j_L_law_2708 LL xs  rk28 v5 s0,
  j_L_law_2764 LL xs  rk28 v5 s0,
  j_L_law_2820 LL xs  rk28 v5 s0,
  j_L_law_2876 LL xs  rk28 v5 s0,
  j_L_law_2934 LL xs  rk28 v5 s0,
  j_L_law_2978 LL xs  rk28 v5 s0,
  j_L_law_3022 LL xs  rk28 v5 s0,
  j_L_law_3066 LL xs  rk28 v5 s0,
  j_L_law_3110 LL xs  rk28 v5 s0,
  j_L_law_3154 LL xs  rk28 v5 s0,
  j_L_law_3167 LL xs  rk28 v5 s0] (rk28 (v5 + (5 : Int32)) s0)) else none))
def l_L_law_28 (LL : Nat) (xs : Nat → Int32) : Nat → Int32 → qS → Option qO
  | 0, _, _ => none
  | n + 1, v5, s0 => b_L_law_28 LL xs (l_L_law_28 LL xs n) v5 s0
end
section
/-! THE PURE SIDE. Base: answers, bits, rows -/
abbrev qan (x : Int32) (s : qS) : Option qO := some (.inl (some (qI x)), s)
abbrev qdo (s : qS) : Option qO := some (.inl none, s)
abbrev qth (E : String) (s : qS) : Option qO := some (.inr E, s)
theorem qb_I {x : Int32} {s : qS} {k : Int32 → qS → Option qO} {ke : String → qS → Option qO} : qbind (some (.inl (some (.inl (.int x))), s)) (qvI k) ke = k x s := rfl
theorem qb_V {s : qS} {k : qS → Option qO} {ke : String → qS → Option qO} : qbind (some (.inl none, s)) (qvV k) ke = k s := rfl
theorem qb_S {s : qS} {k : qS → Option qO} {ke : String → qS → Option qO} {i j : Nat} : qbind (some (.inl (some (.inr (i, j))), s)) (qvS i k) ke = if i = i ∧ j = 0 then k s else none := by
  simp [qbind, qvS]
theorem qb_E {E : String} {s : qS} {kv : Option qA → qS → Option qO} {ke : String → qS → Option qO} : qbind (some (.inr E, s)) kv ke = ke E s := rfl
theorem qlet_eq {α β : Type} (v : α) (k : α → β) : qlet v k = k v := rfl
def qb1 (b : Bool) : Int32 := if b then 1 else 0
theorem qb1_t : qb1 true = 1 := rfl
theorem qb1_f : qb1 false = 0 := rfl
theorem qb1_0 (b : Bool) : qb1 b = 0 ↔ b = false := by cases b <;> simp [qb1]
theorem qb1_1 (b : Bool) : qb1 b = 1 ↔ b = true := by cases b <;> simp [qb1]
theorem qb1_bo (b : Bool) : qbo (qb1 b) := by cases b <;> simp [qb1, qbo]
/-! numbers -/
theorem n_in {t n : Nat} (h : t < n) (hn : n < 2 ^ 31) : qin (nI t) n := by
  unfold qin
  rw [nI_toInt (by omega)]
  omega
theorem n_ge0 {t : Nat} (h : t < 2 ^ 31) : ¬ nI t < 0 := nI_pos h
theorem n_le {a b : Nat} (ha : a < 2 ^ 31) (hb : b < 2 ^ 31) : nI a ≤ nI b ↔ a ≤ b := nI_leI ha hb
theorem n_lt {a b : Nat} (ha : a < 2 ^ 31) (hb : b < 2 ^ 31) : nI a < nI b ↔ a < b := nI_ltI ha hb
theorem n_eq {a b : Nat} (ha : a < 2 ^ 31) (hb : b < 2 ^ 31) : nI a = nI b ↔ a = b := nI_eq ha hb
/-! bits -/
def qbit (x : Int32) (i : Nat) : Bool := x.toBitVec.getLsbD i
theorem qbit_or (x y : Int32) (i : Nat) : qbit (x ||| y) i = (qbit x i || qbit y i) := by simp [qbit]
theorem qbit_and (x y : Int32) (i : Nat) : qbit (x &&& y) i = (qbit x i && qbit y i) := by simp [qbit]
theorem qbit_0 (i : Nat) : qbit 0 i = false := by simp [qbit]
theorem qbit_ge {x : Int32} {i : Nat} (h : 32 ≤ i) : qbit x i = false := BitVec.getLsbD_of_ge _ _ h
theorem qbit_ext {x y : Int32} (h : ∀ i, i < 32 → qbit x i = qbit y i) : x = y := by
  exact Int32.toBitVec_inj.mp (BitVec.eq_of_getLsbD_eq (fun i hi => h i hi))
theorem qbit_not {x : Int32} {i : Nat} (h : i < 32) : qbit (x ^^^ (-1 : Int32)) i = !qbit x i := by
  have : (-1 : Int32).toBitVec = BitVec.allOnes 32 := by decide
  simp [qbit, this, h]
theorem n_and31 {i : Nat} (h : i < 32) : nI i &&& 31 = nI i := by
  revert i
  decide
theorem n_bv {i : Nat} (h : i < 32) : (nI i).toBitVec.toNat = i := by
  revert i
  decide
theorem qbit_shl {i j : Nat} (hi : i < 32) : qbit ((1 : Int32) <<< (nI i &&& 31)) j = decide (i = j) := by
  rcases Nat.lt_or_ge j 32 with hj | hj
  · have key : ∀ i : Fin 32, ∀ j : Fin 32, qbit ((1 : Int32) <<< (nI i &&& 31)) j = decide ((i : Nat) = j) := by decide +kernel
    exact key ⟨i, hi⟩ ⟨j, hj⟩
  · rw [qbit_ge hj]
    simp
    omega
theorem qbit_sr {x : Int32} {i j : Nat} (hi : i < 32) (hij : i + j < 32) : qbit (x >>> (nI i &&& 31)) j = qbit x (i + j) := by
  have key : ∀ i : Fin 32, ((nI i &&& 31).toBitVec.smod 32).toNat = i := by decide +kernel
  have k1 := key ⟨i, hi⟩
  unfold qbit
  rw [Int32.toBitVec_shiftRight, BitVec.sshiftRight_eq', k1, BitVec.getLsbD_sshiftRight]
  have h1 : j < 32 := by omega
  simp [h1, hij]
theorem qbit_has {x : Int32} {i : Nat} (hi : i < 32) : ((x >>> (nI i &&& 31)) &&& (1 : Int32)) = 1 ↔ qbit x i = true := by
  have e0 : qbit (x >>> (nI i &&& 31)) 0 = qbit x i := qbit_sr (j := 0) hi (by omega)
  have k1 : ∀ j : Fin 32, qbit 1 j = decide ((j : Nat) = 0) := by decide +kernel
  constructor
  · intro h
    have := congrArg (fun z => qbit z 0) h
    simp only [qbit_and, e0] at this
    have k2 := k1 0
    rw [show ((0 : Fin 32) : Nat) = 0 from rfl] at k2
    rw [k2] at this
    simpa using this
  · intro h
    apply qbit_ext
    intro j hj
    rw [qbit_and, k1 ⟨j, hj⟩]
    by_cases h0 : j = 0
    · subst h0
      rw [e0, h]
      rfl
    · simp [h0]
theorem qbit_shr {x : Int32} {i : Nat} (hi : i < 31) : qbit (x >>> ((1 : Int32) &&& 31)) i = qbit x (i + 1) := by
  rw [Nat.add_comm]
  exact qbit_sr (i := 1) (by omega) (by omega)
theorem qbit_low {i j : Nat} (hi : i < 31) : qbit (((1 : Int32) <<< (nI i &&& 31)) - 1) j = decide (j < i) := by
  rcases Nat.lt_or_ge j 32 with hj | hj
  · have key : ∀ i : Fin 31, ∀ j : Fin 32, qbit (((1 : Int32) <<< (nI i &&& 31)) - 1) j = decide ((j : Nat) < i) := by decide +kernel
    exact key ⟨i, hi⟩ ⟨j, hj⟩
  · rw [qbit_ge hj]
    simp
    omega
theorem qbit_zero {x : Int32} : x = 0 ↔ ∀ i, i < 32 → qbit x i = false := by
  constructor
  · rintro rfl i _
    exact qbit_0 i
  · intro h
    exact qbit_ext (fun i hi => by rw [h i hi, qbit_0])
theorem qbit_sub {x y : Int32} : x &&& (y ^^^ (-1 : Int32)) = 0 ↔ ∀ i, i < 32 → qbit x i = true → qbit y i = true := by
  rw [qbit_zero]
  constructor
  · intro h i hi hx
    have := h i hi
    rw [qbit_and, qbit_not hi, hx] at this
    simpa using this
  · intro h i hi
    rw [qbit_and, qbit_not hi]
    cases hx : qbit x i
    · rfl
    · rw [h i hi hx]; rfl
/-! leaves -/
theorem e_isWithin (a b c : Int32) (s : qS) : f_X7_isWithin a b c s = qan (qb1 (decide (b ≤ a ∧ a ≤ c))) s := by
  unfold f_X7_isWithin
  by_cases h1 : a < b
  · rw [if_pos h1]
    have : ¬ (b ≤ a ∧ a ≤ c) := fun h => absurd h.1 (Int32.not_le.mpr h1)
    simp [this, qb1]
  · rw [if_neg h1]
    by_cases h2 : c < a
    · rw [if_pos h2]
      have : ¬ (b ≤ a ∧ a ≤ c) := fun h => absurd h.2 (Int32.not_le.mpr h2)
      simp [this, qb1]
    · rw [if_neg h2]
      have : (b ≤ a ∧ a ≤ c) := ⟨Int32.not_lt.mp h1, Int32.not_lt.mp h2⟩
      simp [this, qb1]
theorem e_hasBit {a : Int32} {i : Nat} {s : qS} (h : i < 32) : f_X7_hasBit a (nI i) s = qan (qb1 (qbit a i)) s := by
  unfold f_X7_hasBit
  simp only [qbit_has h]
  cases qbit a i <;> rfl
theorem e_at {k j t : Nat} {s : qS} (h : t < qlen k) (hk : qlen k < 2 ^ 31) : f_X7_at k j (nI t) s = qan (s k j t) s := by
  unfold f_X7_at
  rw [if_neg (n_ge0 (by omega)), if_neg (by rw [show Int32.ofNat (qlen k) = nI (qlen k) from rfl, n_le hk (by omega)]; omega), if_pos (n_in h hk), nI_clamp (by omega)]
theorem e_put {k j t : Nat} {v : Int32} {s : qS} (h : t < qlen k) (hk : qlen k < 2 ^ 31) : f_X7_put k j (nI t) v s = qdo (qu s k j t v) := by
  unfold f_X7_put
  rw [if_neg (n_ge0 (by omega)), if_neg (by rw [show Int32.ofNat (qlen k) = nI (qlen k) from rfl, n_le hk (by omega)]; omega), if_pos (n_in h hk), nI_clamp (by omega)]
  rfl
end
section
/-! a project: how many tasks, the fields of each (0 duration, 1 resource, 2 demand, 3 release, 4 needs, 5 start in the baseline), the limits, whether there is a baseline -/
abbrev qP : Type := Nat × (Nat → Nat → Int32) × (Nat → Int32) × Int32
abbrev pn (P : qP) : Nat := P.1
abbrev pf (P : qP) (f t : Nat) : Int32 := P.2.1 f t
abbrev pl (P : qP) (r : Nat) : Int32 := P.2.2.1 r
abbrev ph (P : qP) : Int32 := P.2.2.2
abbrev ped (P : qP) (t u : Nat) : Bool := qbit (pf P 4 t) u
/-- where the class has it, where the reference -/
def Rep (σ : qS) (j : Nat) (P : qP) : Prop := σ 1 j 7 = nI (pn P) ∧ (∀ f t, f < 6 → t < pn P → σ (2 + f) j t = pf P f t) ∧ (∀ r, r < 3 → σ 8 j r = pl P r) ∧ σ 1 j 8 = ph P
def RepR (σ : qS) (k o : Nat) (P : qP) : Prop := σ k 0 o = nI (pn P) ∧ σ k 0 (o + 1) = ph P ∧ (∀ r, r < 3 → σ k 0 (o + 2 + r) = pl P r) ∧ ∀ f t, f < 6 → t < pn P → σ k 0 (o + 5 + 6 * t + f) = pf P f t
/-- it is as a project may be -/
def PW (P : qP) : Prop := pn P ≤ 12 ∧
  (∀ t, t < pn P → (1 ≤ (pf P 0 t).toInt ∧ (pf P 0 t).toInt ≤ 9) ∧ (0 ≤ (pf P 1 t).toInt ∧ (pf P 1 t).toInt ≤ 2) ∧ (1 ≤ (pf P 2 t).toInt ∧ (pf P 2 t).toInt ≤ 5) ∧ (0 ≤ (pf P 3 t).toInt ∧ (pf P 3 t).toInt ≤ 30) ∧ (∀ u, ped P t u = true → u < pn P) ∧ (-1 ≤ (pf P 5 t).toInt ∧ (pf P 5 t).toInt ≤ 1000)) ∧
  (∀ r, r < 3 → 5 ≤ (pl P r).toInt ∧ (pl P r).toInt ≤ 20) ∧ (∃ h : Nat → Nat, ∀ t u, t < pn P → ped P t u = true → h u < h t) ∧ (ph P = 0 ∨ ph P = 1) ∧ (ph P = 0 → ∀ t, t < pn P → pf P 5 t = -1)
theorem i_nI {x : Int32} {n : Nat} (h : x.toInt = (n : Int)) (hn : n < 2 ^ 31) : x = nI n := by
  apply Int32.toInt_inj.mp
  rw [h, nI_toInt hn]
/-! the class's leaves -/
section LC
variable {σ : qS} {j : Nat} {P : qP} {t : Nat}
theorem Rep.n (H : Rep σ j P) : σ 1 j 7 = nI (pn P) := H.1
theorem c_fld (H : Rep σ j P) (W : PW P) (h : t < pn P) {f : Nat} (hf : f < 6) : f_X7_at (2 + f) j (nI t) σ = qan (pf P f t) σ := by
  have hn := W.1
  have hq : qlen (2 + f) = 12 := by
    rcases (show f = 0 ∨ f = 1 ∨ f = 2 ∨ f = 3 ∨ f = 4 ∨ f = 5 by omega) with rfl | rfl | rfl | rfl | rfl | rfl <;> rfl
  rw [e_at (by rw [hq]; omega) (by rw [hq]; omega), H.2.1 f t hf h]
theorem c_dur (H : Rep σ j P) (W : PW P) (h : t < pn P) : f_X7_at 2 j (nI t) σ = qan (pf P 0 t) σ := c_fld (f := 0) H W h (by decide)
theorem c_res (H : Rep σ j P) (W : PW P) (h : t < pn P) : f_X7_at 3 j (nI t) σ = qan (pf P 1 t) σ := c_fld (f := 1) H W h (by decide)
theorem c_dem (H : Rep σ j P) (W : PW P) (h : t < pn P) : f_X7_at 4 j (nI t) σ = qan (pf P 2 t) σ := c_fld (f := 2) H W h (by decide)
theorem c_rel (H : Rep σ j P) (W : PW P) (h : t < pn P) : f_X7_at 5 j (nI t) σ = qan (pf P 3 t) σ := c_fld (f := 3) H W h (by decide)
theorem c_need (H : Rep σ j P) (W : PW P) (h : t < pn P) : f_X7_at 6 j (nI t) σ = qan (pf P 4 t) σ := c_fld (f := 4) H W h (by decide)
theorem c_base (H : Rep σ j P) (W : PW P) (h : t < pn P) : f_X7_at 7 j (nI t) σ = qan (pf P 5 t) σ := c_fld (f := 5) H W h (by decide)
theorem c_lim (H : Rep σ j P) {r : Nat} (h : r < 3) : f_X7_at 8 j (nI r) σ = qan (pl P r) σ := by
  rw [e_at (show r < qlen 8 from h) (by decide), H.2.2.1 r h]
theorem c_linked (H : Rep σ j P) (W : PW P) (h : t < pn P) {u : Nat} (hu : u < 32) : f_X5_isLinked j (nI t) (nI u) σ = qan (qb1 (ped P t u)) σ := by
  unfold f_X5_isLinked
  rw [c_need H W h, qb_I, e_hasBit hu, qb_I, if_pos (qb1_bo _)]
/-- a task that is not placed, all that it needs is -/
def pready (P : qP) (placed : Int32) (t : Nat) : Bool := !qbit placed t && decide (pf P 4 t &&& (placed ^^^ (-1 : Int32)) = 0)
theorem c_ready (H : Rep σ j P) (W : PW P) (h : t < pn P) {x : Int32} : f_X5_isReady j (nI t) x σ = qan (qb1 (pready P x t)) σ := by
  have hn := W.1
  unfold f_X5_isReady pready
  rw [e_hasBit (by omega), qb_I]
  cases hb : qbit x t
  · rw [if_pos (by rfl), c_need H W h, qb_I]
    by_cases h0 : pf P 4 t &&& (x ^^^ (-1 : Int32)) = 0
    · rw [if_pos h0, decide_eq_true h0]; rfl
    · rw [if_neg h0, decide_eq_false h0]; rfl
  · rw [if_neg (by decide)]
    rfl
end LC
/-! the reference's leaves -/
section LR
variable {σ : qS} {P : qP} {t : Nat}
theorem r_isIn (a b c : Int32) (s : qS) : f_X8_isIn a b c s = qan (qb1 (decide (b ≤ a ∧ a ≤ c))) s := e_isWithin a b c s
theorem i_in {x : Int32} {n : Nat} (hn : n < 2 ^ 31) : ((0 : Int32) ≤ x ∧ x ≤ nI n - 1) ↔ ∃ t, t < n ∧ x = nI t := by
  constructor
  · rintro ⟨h1, h2⟩
    have e : (nI n - 1).toInt = (n : Int) - 1 := by
      rcases n with _ | k
      · rfl
      · rw [nI_pred, nI_toInt (by omega)]; omega
    rw [Int32.le_iff_toInt_le] at h1 h2
    rw [e] at h2
    rw [show (0 : Int32).toInt = 0 from rfl] at h1
    exact ⟨x.toInt.toNat, by omega, i_nI (by omega) (by omega)⟩
  · rintro ⟨t, ht, rfl⟩
    rcases n with _ | k
    · omega
    · rw [nI_pred]
      exact ⟨nI_pos' (by omega), nI_le (by omega) (by omega)⟩
theorem e_task {n : Nat} (hn : n < 2 ^ 31) (x : Int32) : (decide ((0 : Int32) ≤ x ∧ x ≤ nI n - 1)) = true ↔ ∃ t, t < n ∧ x = nI t := by
  rw [decide_eq_true_iff]
  exact i_in hn
theorem r_isTask (H : RepR σ 27 0 P) (x : Int32) : f_X8_isTask x σ = qan (qb1 (decide ((0 : Int32) ≤ x ∧ x ≤ nI (pn P) - 1))) σ := by
  unfold f_X8_isTask
  rw [r_isIn, qb_I, if_pos (qb1_bo _), show σ 27 0 0 = nI (pn P) from H.1]
theorem r_isTask1 (H : RepR σ 27 0 P) (W : PW P) (h : t < pn P) : f_X8_isTask (nI t) σ = qan 1 σ := by
  have hn := W.1
  rw [r_isTask H, (e_task (by omega) _).mpr ⟨t, h, rfl⟩]
  rfl
theorem r_of (H : RepR σ 27 0 P) (W : PW P) (h : t < pn P) {f : Nat} (hf : f < 6) : f_X8_of (nI t) (nI f) σ = qan (pf P f t) σ := by
  have hn := W.1
  unfold f_X8_of
  rw [r_isTask1 H W h, qb_I, if_neg (by decide)]
  unfold f_X8_taskAt
  rw [qb_I]
  have e : (5 : Int32) + 6 * nI t + nI f = nI (5 + 6 * t + f) := by
    rw [show (6 : Int32) = nI 6 from rfl, show (5 : Int32) = nI 5 from rfl]
    rw [show nI 6 * nI t = nI (6 * t) by simp [nI, Int32.ofNat_mul], nI_add, nI_add]
  rw [e, if_pos (n_in (by omega) (by decide)), nI_clamp (by omega)]
  have := H.2.2.2 f t hf h
  rw [show 0 + 5 + 6 * t + f = 5 + 6 * t + f by omega] at this
  rw [this]
theorem r_dur (H : RepR σ 27 0 P) (W : PW P) (h : t < pn P) : f_X8_of (nI t) 0 σ = qan (pf P 0 t) σ := r_of (f := 0) H W h (by decide)
theorem r_res (H : RepR σ 27 0 P) (W : PW P) (h : t < pn P) : f_X8_of (nI t) 1 σ = qan (pf P 1 t) σ := r_of (f := 1) H W h (by decide)
theorem r_dem (H : RepR σ 27 0 P) (W : PW P) (h : t < pn P) : f_X8_of (nI t) 2 σ = qan (pf P 2 t) σ := r_of (f := 2) H W h (by decide)
theorem r_rel (H : RepR σ 27 0 P) (W : PW P) (h : t < pn P) : f_X8_of (nI t) 3 σ = qan (pf P 3 t) σ := r_of (f := 3) H W h (by decide)
theorem r_need (H : RepR σ 27 0 P) (W : PW P) (h : t < pn P) : f_X8_of (nI t) 4 σ = qan (pf P 4 t) σ := r_of (f := 4) H W h (by decide)
theorem r_base (H : RepR σ 27 0 P) (W : PW P) (h : t < pn P) : f_X8_of (nI t) 5 σ = qan (pf P 5 t) σ := r_of (f := 5) H W h (by decide)
theorem r_needed (H : RepR σ 27 0 P) (W : PW P) (h : t < pn P) {u : Nat} (hu : u < 32) : f_X8_isNeeded (nI t) (nI u) σ = qan (qb1 (ped P t u)) σ := by
  unfold f_X8_isNeeded
  rw [r_need H W h, qb_I]
  by_cases hb : qbit (pf P 4 t) u = true
  · rw [if_pos ((qbit_has hu).mpr hb)]
    simp [hb, qb1]
  · rw [if_neg (fun h => hb ((qbit_has hu).mp h))]
    simp [hb, qb1]
end LR
end
section
/-! ways in the graph of needs -/
def gw (ed : Nat → Nat → Bool) : Nat → Nat → Nat → Prop
  | 0, t, u => ed t u = true
  | k + 1, t, u => ∃ w, ed t w = true ∧ gw ed k w u
def gr (ed : Nat → Nat → Bool) (t u : Nat) : Prop := ∃ k, gw ed k t u
section G
variable {ed : Nat → Nat → Bool} {n : Nat} {h : Nat → Nat}
theorem gr_one {t u : Nat} (e : ed t u = true) : gr ed t u := ⟨0, e⟩
theorem gr_cons {t w u : Nat} (e : ed t w = true) (g : gr ed w u) : gr ed t u := by
  obtain ⟨k, g⟩ := g
  exact ⟨k + 1, w, e, g⟩
theorem gr_trans {t w u : Nat} (g : gr ed t w) (g2 : gr ed w u) : gr ed t u := by
  obtain ⟨k, g⟩ := g
  revert t
  induction k with
  | zero => intro t g; exact gr_cons g g2
  | succ k ih => intro t g; obtain ⟨x, e, g⟩ := g; exact gr_cons e (ih g)
theorem gr_last {t u : Nat} (g : gr ed t u) : ed t u = true ∨ ∃ w, gr ed t w ∧ ed w u = true := by
  obtain ⟨k, g⟩ := g
  revert t
  induction k with
  | zero => intro t g; exact Or.inl g
  | succ k ih =>
    intro t g
    obtain ⟨x, e, g⟩ := g
    rcases ih g with h1 | ⟨w, h1, h2⟩
    · exact Or.inr ⟨x, gr_one e, h1⟩
    · exact Or.inr ⟨w, gr_cons e h1, h2⟩
theorem gr_first {t u : Nat} (g : gr ed t u) : ed t u = true ∨ ∃ w, ed t w = true ∧ gr ed w u := by
  obtain ⟨k, g⟩ := g
  cases k with
  | zero => exact Or.inl g
  | succ k => obtain ⟨x, e, g⟩ := g; exact Or.inr ⟨x, e, k, g⟩
/-- what is reached lies among the tasks, lower -/
theorem gr_low (hc : ∀ t u, t < n → ed t u = true → u < n) (hh : ∀ t u, t < n → ed t u = true → h u < h t) {t u : Nat} (ht : t < n) (g : gr ed t u) : u < n ∧ h u < h t := by
  obtain ⟨k, g⟩ := g
  revert t
  induction k with
  | zero => intro t ht g; exact ⟨hc t u ht g, hh t u ht g⟩
  | succ k ih =>
    intro t ht g
    obtain ⟨x, e, g⟩ := g
    have h1 := ih (hc t x ht e) g
    have h2 := hh t x ht e
    exact ⟨h1.1, by omega⟩
/-- how many below k have p -/
def gcnt (p : Nat → Bool) : Nat → Nat
  | 0 => 0
  | k + 1 => gcnt p k + (if p k then 1 else 0)
theorem gcnt_le (p : Nat → Bool) : ∀ k, gcnt p k ≤ k
  | 0 => Nat.le_refl _
  | k + 1 => by have := gcnt_le p k; unfold gcnt; split <;> omega
theorem gcnt_mono {p q : Nat → Bool} (hpq : ∀ i, p i = true → q i = true) : ∀ k, gcnt p k ≤ gcnt q k
  | 0 => Nat.le_refl _
  | k + 1 => by
    have h1 := gcnt_mono hpq k
    unfold gcnt
    by_cases hp : p k = true
    · rw [if_pos hp, if_pos (hpq k hp)]; omega
    · rw [if_neg hp]; split <;> omega
theorem gcnt_lt {p q : Nat → Bool} (hpq : ∀ i, p i = true → q i = true) {x : Nat} (hx : p x = false) (hq : q x = true) : ∀ k, x < k → gcnt p k < gcnt q k
  | 0, hk => by omega
  | k + 1, hk => by
    unfold gcnt
    by_cases hxk : x = k
    · subst hxk
      have h1 := gcnt_mono hpq x
      rw [hx, hq]
      simp
      omega
    · have h1 := gcnt_lt hpq hx hq k (by omega)
      by_cases hp : p k = true
      · rw [if_pos hp, if_pos (hpq k hp)]; omega
      · rw [if_neg hp]; split <;> omega
/-- a rank below n -/
theorem g_rank (hc : ∀ t u, t < n → ed t u = true → u < n) (hh : ∃ h : Nat → Nat, ∀ t u, t < n → ed t u = true → h u < h t) : ∃ h : Nat → Nat, (∀ t u, t < n → ed t u = true → h u < h t) ∧ ∀ t, t < n → h t < n := by
  obtain ⟨h, hh⟩ := hh
  refine ⟨fun t => gcnt (fun u => decide (h u < h t)) n, fun t u ht e => ?_, fun t ht => ?_⟩
  · have h1 := hh t u ht e
    exact gcnt_lt (x := u) (fun i hi => by simp at hi ⊢; omega) (by simp) (by simpa using h1) n (hc t u ht e)
  · have h1 := gcnt_lt (p := fun u => decide (h u < h t)) (q := fun _ => true) (x := t) (fun _ _ => rfl) (by simp) rfl n ht
    have h2 := gcnt_le (fun _ => true) n
    show gcnt (fun u => decide (h u < h t)) n < n
    omega
end G
end
section
/-! what a task depends on: the class's search, its closure, the reference's rounds -/
def gsub (S R : Int32) : Prop := ∀ u, qbit S u = true → qbit R u = true
def gun (S : Int32) (N : Nat) : Nat := gcnt (fun u => !qbit S u) N
theorem gun_mono {S R : Int32} (h : gsub S R) (N : Nat) : gun R N ≤ gun S N := gcnt_mono (fun i hi => by
  cases hs : qbit S i
  · rfl
  · rw [h i hs] at hi; cases hi) N
theorem qbit_put {S : Int32} {i u : Nat} (hi : i < 32) : qbit (S ||| ((1 : Int32) <<< (nI i &&& 31))) u = (qbit S u || decide (i = u)) := by
  rw [qbit_or, qbit_shl hi]
theorem gun_set {S : Int32} {i N : Nat} (hi : i < 32) (hN : i < N) (h : qbit S i = false) : gun (S ||| ((1 : Int32) <<< (nI i &&& 31))) N < gun S N := by
  refine gcnt_lt (x := i) (fun u hu => ?_) ?_ ?_ N hN
  · rw [qbit_put hi] at hu
    cases hs : qbit S u
    · rfl
    · rw [hs] at hu; cases hu
  · rw [qbit_put hi]; simp
  · rw [h]; rfl
theorem gun_le (S : Int32) (N : Nat) : gun S N ≤ N := gcnt_le _ N
def SRes (P : qP) (t : Nat) (S R : Int32) : Prop := gsub S R ∧ (∀ u, qbit R u = true → qbit S u = true ∨ gr (ped P) t u) ∧ (∀ u, ped P t u = true → qbit R u = true) ∧ (∀ v, qbit R v = true → qbit S v = false → ∀ u, ped P v u = true → qbit R u = true) ∧ ∀ u, qbit R u = true → u < pn P
def SInv (P : qP) (t : Nat) (S : Int32) (i : Nat) (R : Int32) : Prop := gsub S R ∧ (∀ u, qbit R u = true → qbit S u = true ∨ gr (ped P) t u) ∧ (∀ u, u < i → ped P t u = true → qbit R u = true) ∧ (∀ v, qbit R v = true → qbit S v = false → ∀ u, ped P v u = true → qbit R u = true) ∧ ∀ u, qbit R u = true → u < pn P
section SE
variable {σ : qS} {j : Nat} {P : qP}
theorem PW.ed_lt (W : PW P) {t u : Nat} (ht : t < pn P) (e : ped P t u = true) : u < pn P := (W.2.1 t ht).2.2.2.2.1 u e
theorem c_search_loop (H : Rep σ j P) (W : PW P) {t d : Nat} (ht : t < pn P) {S : Int32} (hun : gun S (pn P) + d ≤ 12) {rf : Nat → Nat → Int32 → Int32 → Int32 → qS → Option qO}
    (hrf : ∀ (i : Nat) (S' : Int32), i < pn P → (∀ u, qbit S' u = true → u < pn P) → gun S' (pn P) + (d + 1) ≤ 12 → ∃ R, rf 6 j (nI i) S' (nI (d + 1)) σ = qan R σ ∧ SRes P i S' R) :
    ∀ (k i m : Nat) (S' : Int32), i + k = 12 → k < m → SInv P t S i S' → ∃ R, l_X5_search_22 rf 6 j m (nI d) S' (pf P 4 t) (nI i) σ = qan R σ ∧ SInv P t S 12 R := by
  intro k
  induction k with
  | zero =>
    intro i m S' hi hm hI
    obtain ⟨m, rfl⟩ : ∃ m', m = m' + 1 := ⟨m - 1, by omega⟩
    have hi : i = 12 := by omega
    subst hi
    refine ⟨S', ?_, hI⟩
    simp only [l_X5_search_22, b_X5_search_22]
    rw [if_pos (by decide)]
  | succ k ih =>
    intro i m S' hi hm hI
    obtain ⟨m, rfl⟩ : ∃ m', m = m' + 1 := ⟨m - 1, by omega⟩
    have hi32 : i < 32 := by omega
    have hni : ¬ (12 : Int32) ≤ nI i := by rw [show (12 : Int32) = nI 12 from rfl, n_le (by decide) (by omega)]; omega
    simp only [l_X5_search_22, b_X5_search_22]
    rw [if_neg hni, e_hasBit hi32, qb_I]
    have next : ∀ S2 : Int32, SInv P t S (i + 1) S2 → ∃ R, l_X5_search_22 rf 6 j m (nI d) S2 (pf P 4 t) (nI i + 1) σ = qan R σ ∧ SInv P t S 12 R := by
      intro S2 h2
      rw [nI_1]
      exact ih (i + 1) m S2 (by omega) (by omega) h2
    by_cases he : ped P t i = true
    · rw [show qbit (pf P 4 t) i = true from he, if_neg (by decide), e_hasBit hi32, qb_I]
      have hin := W.ed_lt ht he
      by_cases hs : qbit S' i = true
      · rw [hs, if_neg (by decide)]
        refine next S' ⟨hI.1, hI.2.1, fun u hu e => ?_, hI.2.2.2⟩
        by_cases hui : u = i
        · rw [hui]; exact hs
        · exact hI.2.2.1 u (by omega) e
      · have hs : qbit S' i = false := by simpa using hs
        rw [hs, if_pos (by rfl), nI_1]
        have hb : ∀ u, qbit (S' ||| ((1 : Int32) <<< (nI i &&& 31))) u = true → u < pn P := by
          intro u hu
          rw [qbit_put hi32] at hu
          simp only [Bool.or_eq_true, decide_eq_true_eq] at hu
          rcases hu with hu | hu
          · exact hI.2.2.2.2 u hu
          · omega
        have h1 := gun_set hi32 hin hs
        have h2 := gun_mono hI.1 (pn P)
        obtain ⟨R, e1, r1, r2, r3, r4, r5⟩ := hrf i (S' ||| ((1 : Int32) <<< (nI i &&& 31))) hin hb (by omega)
        rw [e1, qb_I]
        have hsR : ∀ u, qbit S' u = true → qbit R u = true := fun u hu => r1 u (by rw [qbit_put hi32, hu]; rfl)
        have hiR : qbit R i = true := r1 i (by rw [qbit_put hi32]; simp)
        refine next R ⟨fun u hu => hsR u (hI.1 u hu), fun u hu => ?_, fun u hu e => ?_, fun v hv hS u e => ?_, r5⟩
        · rcases r2 u hu with h3 | h3
          · rw [qbit_put hi32] at h3
            simp only [Bool.or_eq_true, decide_eq_true_eq] at h3
            rcases h3 with h3 | h3
            · exact hI.2.1 u h3
            · subst h3; exact Or.inr (gr_one he)
          · exact Or.inr (gr_cons he h3)
        · by_cases hui : u = i
          · rw [hui]; exact hiR
          · exact hsR u (hI.2.2.1 u (by omega) e)
        · by_cases hvS : qbit S' v = true
          · exact hsR u (hI.2.2.2.1 v hvS hS u e)
          · by_cases hvi : v = i
            · subst hvi; exact r3 u e
            · exact r4 v hv (by rw [qbit_put hi32]; simp only [Bool.or_eq_false_iff, decide_eq_false_iff_not]; exact ⟨by simpa using hvS, fun h => hvi h.symm⟩) u e
    · have he : ped P t i = false := by simpa using he
      rw [show qbit (pf P 4 t) i = false from he, if_pos (by rfl)]
      refine next S' ⟨hI.1, hI.2.1, fun u hu e => ?_, hI.2.2.2⟩
      by_cases hui : u = i
      · subst hui; rw [he] at e; cases e
      · exact hI.2.2.1 u (by omega) e
theorem c_search_n (H : Rep σ j P) (W : PW P) : ∀ (m d t : Nat) (S : Int32), m + d = 16 → t < pn P → (∀ u, qbit S u = true → u < pn P) → gun S (pn P) + d ≤ 12 → ∃ R, fn_X5_search m 6 j (nI t) S (nI d) σ = qan R σ ∧ SRes P t S R := by
  intro m
  induction m with
  | zero => intro d t S h1 h2 h3 h4; omega
  | succ m ih =>
    intro d t S h1 ht hS hun
    have hn := W.1
    simp only [fn_X5_search, fb_X5_search]
    rw [if_pos (by rw [show (12 : Int32) = nI 12 from rfl, n_le (by omega) (by decide)]; omega), c_need H W ht, qb_I]
    obtain ⟨R, e1, hI⟩ := c_search_loop H W ht hun (rf := fn_X5_search m) (fun i S' hi hb hu => ih (d + 1) i S' (by omega) hi hb hu) 12 0 qFU S (by omega) (by decide) ⟨fun _ h => h, fun u h => Or.inl h, fun u hu => by omega, fun v h1 h2 => absurd (h1.symm.trans h2) (by decide), hS⟩
    refine ⟨R, e1, hI.1, hI.2.1, fun u e => hI.2.2.1 u ?_ e, hI.2.2.2⟩
    have := W.ed_lt ht e
    omega
/-- the class's own search: it finds what is reached -/
theorem c_search (H : Rep σ j P) (W : PW P) {t : Nat} (ht : t < pn P) : ∃ R, f_X5_search 6 j (nI t) 0 0 σ = qan R σ ∧ ∀ u, qbit R u = true ↔ gr (ped P) t u := by
  obtain ⟨R, e1, r1, r2, r3, r4, r5⟩ := c_search_n H W 16 0 t 0 rfl ht (fun u h => by rw [qbit_0] at h; cases h) (by have := gun_le 0 (pn P); have := W.1; omega)
  refine ⟨R, e1, fun u => ⟨fun h => ?_, fun h => ?_⟩⟩
  · rcases r2 u h with h | h
    · rw [qbit_0] at h; cases h
    · exact h
  · obtain ⟨k, g⟩ := h
    have key : ∀ k t', (∀ u, ped P t' u = true → qbit R u = true) → gw (ped P) k t' u → qbit R u = true := by
      intro k
      induction k with
      | zero => intro t' h1 g; exact h1 u g
      | succ k ih =>
        intro t' h1 g
        obtain ⟨w, e, g⟩ := g
        exact ih w (fun u' e' => r4 w (h1 w e) (qbit_0 w) u' e') g
    exact key k t r3 g
noncomputable def prea (P : qP) (t u : Nat) : Bool := @decide (gr (ped P) t u) (Classical.propDecidable _)
theorem prea_iff {t u : Nat} : prea P t u = true ↔ gr (ped P) t u := by
  unfold prea
  exact @decide_eq_true_iff _ (Classical.propDecidable _)
theorem prea_of {R : Int32} {t u : Nat} (h : ∀ u, qbit R u = true ↔ gr (ped P) t u) : qbit R u = prea P t u := by
  cases hr : qbit R u
  · cases hp : prea P t u
    · rfl
    · rw [(h u).mpr (prea_iff.mp hp)] at hr; cases hr
  · rw [prea_iff.mpr ((h u).mp hr)]
theorem c_reaches (H : Rep σ j P) (W : PW P) {t u : Nat} (ht : t < pn P) (hu : u < 32) : f_X5_reaches j (nI t) (nI u) σ = qan (qb1 (prea P t u)) σ := by
  obtain ⟨R, e1, e2⟩ := c_search H W ht
  unfold f_X5_reaches
  rw [e1, qb_I, e_hasBit hu, qb_I, if_pos (qb1_bo _), prea_of e2]
end SE
end
section
/-! states that agree but for some kinds; rows copied, filled; the reference's rounds; the closure -/
theorem qu_at (σ : qS) (k j i : Nat) (v : Int32) (a b x : Nat) : qu σ k j i v a b x = if a = k ∧ b = j ∧ x = i then v else σ a b x := by
  unfold qu
  by_cases h : a = k ∧ b = j
  · rw [if_pos h]
    unfold upd
    by_cases hx : x = i
    · rw [if_pos hx, if_pos ⟨h.1, h.2, hx⟩]
    · rw [if_neg hx, if_neg (fun h2 => hx h2.2.2)]
  · rw [if_neg h, if_neg (fun h2 => h ⟨h2.1, h2.2.1⟩)]
def qsm (ks : List Nat) (σ σ' : qS) : Prop := ∀ a b, a ∉ ks → σ' a b = σ a b
theorem qsm.refl (ks : List Nat) (σ : qS) : qsm ks σ σ := fun _ _ _ => rfl
theorem qsm.trans {ks : List Nat} {σ σ' σ'' : qS} (h : qsm ks σ σ') (h2 : qsm ks σ' σ'') : qsm ks σ σ'' := fun a b ha => (h2 a b ha).trans (h a b ha)
theorem qsm.mono {ks ks' : List Nat} {σ σ' : qS} (h : qsm ks σ σ') (hk : ∀ k ∈ ks, k ∈ ks') : qsm ks' σ σ' := fun a b ha => h a b (fun h2 => ha (hk a h2))
theorem qsm_qu (σ : qS) (k j i : Nat) (v : Int32) : qsm [k] σ (qu σ k j i v) := fun a b ha => qu_other σ (fun h => ha (by rw [h.1]; exact List.mem_singleton.mpr rfl))
theorem qsm.qu {ks : List Nat} {σ σ' : qS} (h : qsm ks σ σ') {k j i : Nat} {v : Int32} (hk : k ∈ ks) : qsm ks σ (qu σ' k j i v) := h.trans ((qsm_qu σ' k j i v).mono (fun _ h2 => by rw [List.mem_singleton.mp h2]; exact hk))
theorem Rep.same {ks : List Nat} {σ σ' : qS} {j : Nat} {P : qP} (H : Rep σ j P) (h : qsm ks σ σ') (hk : ∀ k ∈ ks, k = 0 ∨ 8 < k) : Rep σ' j P := by
  have e : ∀ a, 1 ≤ a → a ≤ 8 → ∀ b, σ' a b = σ a b := fun a h1 h2 b => h a b (fun h3 => by have := hk a h3; omega)
  refine ⟨by rw [e 1 (by omega) (by omega)]; exact H.1, fun f t hf ht => by rw [e (2 + f) (by omega) (by omega)]; exact H.2.1 f t hf ht, fun r hr => by rw [e 8 (by omega) (by omega)]; exact H.2.2.1 r hr, by rw [e 1 (by omega) (by omega)]; exact H.2.2.2⟩
theorem RepR.same {ks : List Nat} {σ σ' : qS} {k o : Nat} {P : qP} (H : RepR σ k o P) (h : qsm ks σ σ') (hk : k ∉ ks) : RepR σ' k o P := by
  have e : σ' k 0 = σ k 0 := h k 0 hk
  unfold RepR
  rw [e]
  exact H
/-- a row copied -/
theorem e_copyRow_loop {k1 j1 k2 j2 L : Nat} (h1 : qlen k1 = L) (h2 : qlen k2 = L) (hL : L < 1000) (hne : ¬ (k1 = k2 ∧ j1 = j2)) : ∀ (d i m : Nat) (s : qS), i + d = L → d < m → ∃ s', l_X7_copyRow_2 k1 j1 k2 j2 m (nI i) s = qdo s' ∧ (∀ a b, ¬ (a = k2 ∧ b = j2) → s' a b = s a b) ∧ (∀ x, s' k2 j2 x = if i ≤ x ∧ x < L then s k1 j1 x else s k2 j2 x) := by
  intro d
  induction d with
  | zero =>
    intro i m s hi hm
    obtain ⟨m, rfl⟩ : ∃ m', m = m' + 1 := ⟨m - 1, by omega⟩
    refine ⟨s, ?_, fun _ _ _ => rfl, fun x => by rw [if_neg (by omega)]⟩
    simp only [l_X7_copyRow_2, b_X7_copyRow_2]
    rw [if_pos (by rw [h1]; exact nI_le (by omega) (by omega))]
  | succ d ih =>
    intro i m s hi hm
    obtain ⟨m, rfl⟩ : ∃ m', m = m' + 1 := ⟨m - 1, by omega⟩
    simp only [l_X7_copyRow_2, b_X7_copyRow_2]
    rw [if_neg (by rw [h1]; exact nI_ge (by omega) (by omega)), if_neg (by rw [h2]; exact nI_ge (by omega) (by omega)), if_pos (by rw [h1]; exact n_in (by omega) (by omega)), if_pos (by rw [h2]; exact n_in (by omega) (by omega)), qlet_eq, nI_1, nI_clamp (by omega)]
    obtain ⟨s', e1, e2, e3⟩ := ih (i + 1) m (qu s k2 j2 i (s k1 j1 i)) (by omega) (by omega)
    refine ⟨s', e1, fun a b hab => by rw [e2 a b hab, qu_other s hab], fun x => ?_⟩
    rw [e3 x, qu_other s hne, qu_at]
    by_cases hx : x = i
    · subst hx
      rw [if_neg (by omega), if_pos ⟨rfl, rfl, rfl⟩, if_pos (by omega)]
    · rw [if_neg (show ¬ (k2 = k2 ∧ j2 = j2 ∧ x = i) from fun h => hx h.2.2)]
      by_cases h3 : i + 1 ≤ x ∧ x < L
      · rw [if_pos h3, if_pos (by omega)]
      · rw [if_neg h3, if_neg (by omega)]
theorem e_copyRow {k1 j1 k2 j2 L : Nat} (h1 : qlen k1 = L) (h2 : qlen k2 = L) (hL : L < 1000) (hne : ¬ (k1 = k2 ∧ j1 = j2)) (s : qS) : ∃ s', f_X7_copyRow k1 j1 k2 j2 s = qdo s' ∧ (∀ a b, ¬ (a = k2 ∧ b = j2) → s' a b = s a b) ∧ (∀ x, x < L → s' k2 j2 x = s k1 j1 x) := by
  obtain ⟨s', e1, e2, e3⟩ := e_copyRow_loop h1 h2 hL hne L 0 qFU s (by omega) (by unfold qFU; omega)
  exact ⟨s', e1, e2, fun x hx => by rw [e3 x, if_pos ⟨Nat.zero_le _, hx⟩]⟩
/-- a row filled -/
theorem e_fillRow_loop {k j L : Nat} (h1 : qlen k = L) (hL : L < 1000) (v : Int32) : ∀ (d i m : Nat) (s : qS), i + d = L → d < m → ∃ s', l_X7_fillRow_2 k j m v (nI i) s = qdo s' ∧ (∀ a b, ¬ (a = k ∧ b = j) → s' a b = s a b) ∧ (∀ x, s' k j x = if i ≤ x ∧ x < L then v else s k j x) := by
  intro d
  induction d with
  | zero =>
    intro i m s hi hm
    obtain ⟨m, rfl⟩ : ∃ m', m = m' + 1 := ⟨m - 1, by omega⟩
    refine ⟨s, ?_, fun _ _ _ => rfl, fun x => by rw [if_neg (by omega)]⟩
    simp only [l_X7_fillRow_2, b_X7_fillRow_2]
    rw [if_pos (by rw [h1]; exact nI_le (by omega) (by omega))]
  | succ d ih =>
    intro i m s hi hm
    obtain ⟨m, rfl⟩ : ∃ m', m = m' + 1 := ⟨m - 1, by omega⟩
    simp only [l_X7_fillRow_2, b_X7_fillRow_2]
    rw [if_neg (by rw [h1]; exact nI_ge (by omega) (by omega)), if_pos (by rw [h1]; exact n_in (by omega) (by omega)), qlet_eq, nI_1, nI_clamp (by omega)]
    obtain ⟨s', e1, e2, e3⟩ := ih (i + 1) m (qu s k j i v) (by omega) (by omega)
    refine ⟨s', e1, fun a b hab => by rw [e2 a b hab, qu_other s hab], fun x => ?_⟩
    rw [e3 x, qu_at]
    by_cases hx : x = i
    · subst hx
      rw [if_neg (by omega), if_pos ⟨rfl, rfl, rfl⟩, if_pos (by omega)]
    · rw [if_neg (show ¬ (k = k ∧ j = j ∧ x = i) from fun h => hx h.2.2)]
      by_cases h3 : i + 1 ≤ x ∧ x < L
      · rw [if_pos h3, if_pos (by omega)]
      · rw [if_neg h3, if_neg (by omega)]
theorem e_fillRow {k j L : Nat} (h1 : qlen k = L) (hL : L < 1000) (v : Int32) (s : qS) : ∃ s', f_X7_fillRow k j v s = qdo s' ∧ (∀ a b, ¬ (a = k ∧ b = j) → s' a b = s a b) ∧ (∀ x, x < L → s' k j x = v) := by
  obtain ⟨s', e1, e2, e3⟩ := e_fillRow_loop (j := j) h1 hL v L 0 qFU s (by omega) (by unfold qFU; omega)
  exact ⟨s', e1, e2, fun x hx => by rw [e3 x, if_pos ⟨Nat.zero_le _, hx⟩]⟩
/-! the reference's rounds -/
section NO
variable {σ : qS} {P : qP}
theorem r_needs_in (H : RepR σ 27 0 P) (W : PW P) {rk : Int32 → Int32 → qS → Option qO} {t : Nat} (ht : t < pn P) (r3 : Int32) : ∀ (d i m : Nat) (S : Int32), i + d = pn P → d < m → (∀ u, qbit S u = true → gr (ped P) t u) →
    ∃ R, l_X8_needsOf_22 rk m S r3 (nI i) σ = rk R (r3 + 1) σ ∧ gsub S R ∧ (∀ u, qbit R u = true → gr (ped P) t u) ∧ ∀ v, i ≤ v → v < pn P → qbit S v = true → ∀ u, ped P v u = true → qbit R u = true := by
  have hn := W.1
  obtain ⟨h, hh⟩ := W.2.2.2.1
  have hc : ∀ t u, t < pn P → ped P t u = true → u < pn P := fun t u h1 h2 => W.ed_lt h1 h2
  intro d
  induction d with
  | zero =>
    intro i m S hi hm hs
    obtain ⟨m, rfl⟩ : ∃ m', m = m' + 1 := ⟨m - 1, by omega⟩
    refine ⟨S, ?_, fun _ h => h, hs, fun v h1 h2 => by omega⟩
    simp only [l_X8_needsOf_22, b_X8_needsOf_22]
    rw [if_pos (by rw [H.1]; exact nI_le (by omega) (by omega))]
  | succ d ih =>
    intro i m S hi hm hs
    obtain ⟨m, rfl⟩ : ∃ m', m = m' + 1 := ⟨m - 1, by omega⟩
    simp only [l_X8_needsOf_22, b_X8_needsOf_22]
    rw [if_neg (by rw [H.1]; exact nI_ge (by omega) (by omega))]
    by_cases hb : qbit S i = true
    · rw [if_pos ((qbit_has (by omega)).mpr hb), r_need H W (by omega), qb_I, nI_1]
      have hs2 : ∀ u, qbit (S ||| pf P 4 i) u = true → gr (ped P) t u := by
        intro u hu
        rw [qbit_or] at hu
        simp only [Bool.or_eq_true] at hu
        rcases hu with hu | hu
        · exact hs u hu
        · exact gr_trans (hs i hb) (gr_one hu)
      obtain ⟨R, e1, e2, e3, e4⟩ := ih (i + 1) m (S ||| pf P 4 i) (by omega) (by omega) hs2
      refine ⟨R, e1, fun u hu => e2 u (by rw [qbit_or, hu]; rfl), e3, fun v h1 h2 h3 u e => ?_⟩
      by_cases hv : v = i
      · subst hv
        exact e2 u (by rw [qbit_or, show qbit (pf P 4 v) u = true from e, Bool.or_true])
      · exact e4 v (by omega) h2 (by rw [qbit_or, h3]; rfl) u e
    · rw [if_neg (fun h => hb ((qbit_has (by omega)).mp h)), nI_1]
      have hS0 : S ||| 0 = S := by apply qbit_ext; intro q _; rw [qbit_or, qbit_0, Bool.or_false]
      rw [hS0]
      obtain ⟨R, e1, e2, e3, e4⟩ := ih (i + 1) m S (by omega) (by omega) hs
      refine ⟨R, e1, e2, e3, fun v h1 h2 h3 u e => ?_⟩
      by_cases hv : v = i
      · subst hv; exact absurd h3 hb
      · exact e4 v (by omega) h2 h3 u e
theorem r_needs_out (H : RepR σ 27 0 P) (W : PW P) {h : Nat → Nat} (hh : ∀ t u, t < pn P → ped P t u = true → h u < h t) {t : Nat} (ht : t < pn P) : ∀ (d r m : Nat) (S : Int32), r + d = pn P → d < m → (∀ u, qbit S u = true → gr (ped P) t u) → (∀ v, ped P t v = true → qbit S v = true) → (∀ v, gr (ped P) t v → h t ≤ h v + r + 1 → qbit S v = true) →
    ∃ R, l_X8_needsOf_9 m S (nI r) σ = qan R σ ∧ (∀ u, qbit R u = true → gr (ped P) t u) ∧ ∀ v, gr (ped P) t v → h t ≤ h v + pn P + 1 → qbit R v = true := by
  have hn := W.1
  have hc : ∀ t u, t < pn P → ped P t u = true → u < pn P := fun t u h1 h2 => W.ed_lt h1 h2
  intro d
  induction d with
  | zero =>
    intro r m S hr hm hs hd hk
    obtain ⟨m, rfl⟩ : ∃ m', m = m' + 1 := ⟨m - 1, by omega⟩
    have hr : r = pn P := by omega
    subst hr
    refine ⟨S, ?_, hs, hk⟩
    simp only [l_X8_needsOf_9, b_X8_needsOf_9]
    rw [if_pos (by rw [H.1]; exact nI_le (by omega) (by omega))]
  | succ d ih =>
    intro r m S hr hm hs hd hk
    obtain ⟨m, rfl⟩ : ∃ m', m = m' + 1 := ⟨m - 1, by omega⟩
    simp only [l_X8_needsOf_9, b_X8_needsOf_9]
    rw [if_neg (by rw [H.1]; exact nI_ge (by omega) (by omega))]
    obtain ⟨R1, e1, e2, e3, e4⟩ := r_needs_in H W (rk := l_X8_needsOf_9 m) ht (nI r) (pn P) 0 qFU S (by omega) (by unfold qFU; omega) hs
    rw [show (0 : Int32) = nI 0 from rfl, e1, nI_1]
    refine ih (r + 1) m R1 (by omega) (by omega) e3 (fun v e => e2 v (hd v e)) (fun v g hv => ?_)
    rcases gr_last g with e | ⟨w, g2, e⟩
    · exact e2 v (hd v e)
    · have hw := gr_low hc hh ht g2
      have h2 := hh w v hw.1 e
      exact e4 w (Nat.zero_le _) hw.1 (hk w g2 (by omega)) v e
theorem r_needsOf (H : RepR σ 27 0 P) (W : PW P) {t : Nat} (ht : t < pn P) : ∃ R, f_X8_needsOf (nI t) σ = qan R σ ∧ ∀ u, qbit R u = true ↔ gr (ped P) t u := by
  have hn := W.1
  have hc : ∀ t u, t < pn P → ped P t u = true → u < pn P := fun t u h1 h2 => W.ed_lt h1 h2
  obtain ⟨h, hh, hb⟩ := g_rank hc W.2.2.2.1
  obtain ⟨R, e1, e2, e3⟩ := r_needs_out H W hh ht (pn P) 0 qFU (pf P 4 t) (by omega) (by unfold qFU; omega) (fun u hu => gr_one hu) (fun v hv => hv) (fun v g hv => by
    have h1 := gr_low hc hh ht g
    rcases gr_first g with e | ⟨w, e, g2⟩
    · exact e
    · have h2 := gr_low hc hh (hc t w ht e) g2
      have h3 := hh t w ht e
      omega)
  refine ⟨R, ?_, fun u => ⟨e2 u, fun g => e3 u g ?_⟩⟩
  · unfold f_X8_needsOf
    rw [r_need H W ht, qb_I]
    exact e1
  · have := hb t ht
    omega
theorem r_doesDepend (H : RepR σ 27 0 P) (W : PW P) {t u : Nat} (ht : t < pn P) (hu : u < 32) : f_X8_doesDepend (nI t) (nI u) σ = qan (qb1 (prea P t u)) σ := by
  obtain ⟨R, e1, e2⟩ := r_needsOf H W ht
  unfold f_X8_doesDepend
  rw [e1, qb_I, ← prea_of e2]
  by_cases hb : qbit R u = true
  · rw [if_pos ((qbit_has hu).mpr hb), hb]; rfl
  · rw [if_neg (fun h => hb ((qbit_has hu).mp h)), show qbit R u = false by simpa using hb]; rfl
end NO
/-! the class's closure -/
section CL
variable {P : qP} {j : Nat}
/-- between via and the end of its round: M before it -/
theorem c_clos_in (W : PW P) {rk : Int32 → qS → Option qO} {via : Nat} (hv : via < pn P) {σ0 : qS} : ∀ (d i m : Nat) (σ : qS), i + d = pn P → d < m → Rep σ j P → qsm [13] σ0 σ → (∀ x, i ≤ x → σ 13 0 x = σ0 13 0 x) → (σ 13 0 via = σ0 13 0 via) →
    (∀ x, x < i → ∀ u, qbit (σ 13 0 x) u = true ↔ (qbit (σ0 13 0 x) u = true ∨ (qbit (σ0 13 0 x) via = true ∧ qbit (σ0 13 0 via) u = true))) →
    ∃ σ', l_X4_findClosure_23 j rk m (nI via) (nI i) σ = rk (nI via + 1) σ' ∧ qsm [13] σ0 σ' ∧ ∀ x, x < pn P → ∀ u, qbit (σ' 13 0 x) u = true ↔ (qbit (σ0 13 0 x) u = true ∨ (qbit (σ0 13 0 x) via = true ∧ qbit (σ0 13 0 via) u = true)) := by
  have hn := W.1
  intro d
  induction d with
  | zero =>
    intro i m σ hi hm H hq h1 h2 h3
    obtain ⟨m, rfl⟩ : ∃ m', m = m' + 1 := ⟨m - 1, by omega⟩
    refine ⟨σ, ?_, hq, fun x hx => h3 x (by omega)⟩
    simp only [l_X4_findClosure_23, b_X4_findClosure_23]
    rw [if_pos (by rw [H.1]; exact nI_le (by omega) (by omega))]
  | succ d ih =>
    intro i m σ hi hm H hq h1 h2 h3
    obtain ⟨m, rfl⟩ : ∃ m', m = m' + 1 := ⟨m - 1, by omega⟩
    simp only [l_X4_findClosure_23, b_X4_findClosure_23]
    have at13 : ∀ x, x < pn P → f_X7_at 13 0 (nI x) σ = qan (σ 13 0 x) σ := fun x hx => e_at (show x < 12 by omega) (by decide)
    rw [if_neg (by rw [H.1]; exact nI_ge (by omega) (by omega)), at13 i (by omega), qb_I, e_hasBit (by omega), qb_I]
    by_cases hb : qbit (σ 13 0 i) via = true
    · rw [hb, if_neg (by decide), at13 i (by omega), qb_I, at13 via hv, qb_I, e_put (show i < 12 by omega) (by decide), qb_V, nI_1]
      have hb0 : qbit (σ0 13 0 i) via = true := by rw [← h1 i (Nat.le_refl _)]; exact hb
      have hne : ∀ x, x ≠ i → qu σ 13 0 i (σ 13 0 i ||| σ 13 0 via) 13 0 x = σ 13 0 x := fun x hx => by rw [qu_at, if_neg (fun h => hx h.2.2)]
      have hee : qu σ 13 0 i (σ 13 0 i ||| σ 13 0 via) 13 0 i = σ 13 0 i ||| σ 13 0 via := by rw [qu_at, if_pos ⟨rfl, rfl, rfl⟩]
      refine ih (i + 1) m _ (by omega) (by omega) (H.same (qsm_qu σ 13 0 i _) (by simp)) (hq.qu (by simp)) (fun x hx => by rw [hne x (by omega)]; exact h1 x (by omega)) ?_ (fun x hx u => ?_)
      · by_cases hvi : via = i
        · subst hvi
          rw [hee, h2]
          apply qbit_ext
          intro q _
          rw [qbit_or, Bool.or_self]
        · rw [hne via hvi, h2]
      · by_cases hxi : x = i
        · subst hxi
          rw [hee, qbit_or, Bool.or_eq_true, h1 x (Nat.le_refl _), h2]
          constructor
          · rintro (h | h)
            · exact Or.inl h
            · exact Or.inr ⟨hb0, h⟩
          · rintro (h | h)
            · exact Or.inl h
            · exact Or.inr h.2
        · rw [hne x hxi]
          exact h3 x (by omega) u
    · have hb : qbit (σ 13 0 i) via = false := by simpa using hb
      rw [hb, if_pos (by rfl), nI_1]
      refine ih (i + 1) m σ (by omega) (by omega) H hq (fun x hx => h1 x (by omega)) h2 (fun x hx u => ?_)
      by_cases hxi : x = i
      · subst hxi
        rw [h1 x (Nat.le_refl _)] at hb ⊢
        rw [hb]
        simp
      · exact h3 x (by omega) u
/-- the rounds: sound, above the needs, closed for what came -/
theorem c_clos_out (W : PW P) : ∀ (d i m : Nat) (σ : qS), i + d = pn P → d < m → Rep σ j P → (∀ x, x < pn P → ∀ u, qbit (σ 13 0 x) u = true → gr (ped P) x u) → (∀ x, x < pn P → ∀ u, ped P x u = true → qbit (σ 13 0 x) u = true) →
    (∀ v, v < i → ∀ x, x < pn P → qbit (σ 13 0 x) v = true → ∀ u, qbit (σ 13 0 v) u = true → qbit (σ 13 0 x) u = true) →
    ∃ σ', l_X4_findClosure_13 j m (nI i) σ = qdo σ' ∧ qsm [13] σ σ' ∧ (∀ x, x < pn P → ∀ u, qbit (σ' 13 0 x) u = true → gr (ped P) x u) ∧ (∀ x, x < pn P → ∀ u, ped P x u = true → qbit (σ' 13 0 x) u = true) ∧
      ∀ v, v < pn P → ∀ x, x < pn P → qbit (σ' 13 0 x) v = true → ∀ u, qbit (σ' 13 0 v) u = true → qbit (σ' 13 0 x) u = true := by
  have hn := W.1
  intro d
  induction d with
  | zero =>
    intro i m σ hi hm H h1 h2 h3
    obtain ⟨m, rfl⟩ : ∃ m', m = m' + 1 := ⟨m - 1, by omega⟩
    refine ⟨σ, ?_, qsm.refl _ _, h1, h2, fun v hv => h3 v (by omega)⟩
    simp only [l_X4_findClosure_13, b_X4_findClosure_13]
    rw [if_pos (by rw [H.1]; exact nI_le (by omega) (by omega))]
  | succ d ih =>
    intro i m σ hi hm H h1 h2 h3
    obtain ⟨m, rfl⟩ : ∃ m', m = m' + 1 := ⟨m - 1, by omega⟩
    simp only [l_X4_findClosure_13, b_X4_findClosure_13]
    rw [if_neg (by rw [H.1]; exact nI_ge (by omega) (by omega)), show (0 : Int32) = nI 0 from rfl]
    obtain ⟨σ1, e1, q1, r1⟩ := c_clos_in W (rk := l_X4_findClosure_13 j m) (via := i) (by omega) (pn P) 0 qFU σ (by omega) (by unfold qFU; omega) H (qsm.refl _ _) (fun _ _ => rfl) rfl (fun x hx => by omega)
    rw [e1, nI_1]
    have hi' : i < pn P := by omega
    have k1 : ∀ x, x < pn P → ∀ u, qbit (σ1 13 0 x) u = true → gr (ped P) x u := by
      intro x hx u hu
      rcases (r1 x hx u).mp hu with h | ⟨h, h'⟩
      · exact h1 x hx u h
      · exact gr_trans (h1 x hx i h) (h1 i hi' u h')
    have k3 : ∀ v, v < i + 1 → ∀ x, x < pn P → qbit (σ1 13 0 x) v = true → ∀ u, qbit (σ1 13 0 v) u = true → qbit (σ1 13 0 x) u = true := by
      intro v hv x hx hxv u hvu
      have hvn : v < pn P := by omega
      rw [r1 x hx u]
      rcases (r1 x hx v).mp hxv with a | ⟨a, a'⟩
      · rcases (r1 v hvn u).mp hvu with b | ⟨b, b'⟩
        · by_cases hvi : v = i
          · subst hvi; exact Or.inr ⟨a, b⟩
          · exact Or.inl (h3 v (by omega) x hx a u b)
        · by_cases hvi : v = i
          · subst hvi; exact Or.inr ⟨a, b'⟩
          · exact Or.inr ⟨h3 v (by omega) x hx a i b, b'⟩
      · rcases (r1 v hvn u).mp hvu with b | ⟨b, b'⟩
        · by_cases hvi : v = i
          · subst hvi; exact Or.inr ⟨a, b⟩
          · exact Or.inr ⟨a, h3 v (by omega) i hi' a' u b⟩
        · exact Or.inr ⟨a, b'⟩
    obtain ⟨σ2, e2, q2, r2⟩ := ih (i + 1) m σ1 (by omega) (by omega) (H.same q1 (by simp)) k1 (fun x hx u hu => (r1 x hx u).mpr (Or.inl (h2 x hx u hu))) k3
    exact ⟨σ2, e2, q1.trans q2, r2⟩
theorem c_findClosure (W : PW P) {σ : qS} (H : Rep σ j P) : ∃ σ', f_X4_findClosure j σ = qdo σ' ∧ qsm [13] σ σ' ∧ ∀ x, x < pn P → ∀ u, qbit (σ' 13 0 x) u = prea P x u := by
  have hn := W.1
  obtain ⟨σ1, e1, e2, e3⟩ := e_copyRow (k1 := 6) (j1 := j) (k2 := 13) (j2 := 0) (L := 12) rfl rfl (by decide) (fun h => by cases h.1) σ
  have q1 : qsm [13] σ σ1 := fun a b ha => e2 a b (fun h => ha (by rw [h.1]; exact List.mem_singleton.mpr rfl))
  have hrow : ∀ x, x < pn P → σ1 13 0 x = pf P 4 x := fun x hx => by rw [e3 x (by omega)]; exact H.2.1 4 x (by decide) hx
  obtain ⟨σ2, e4, q2, r1, r2, r3⟩ := c_clos_out (j := j) W (pn P) 0 qFU σ1 (by omega) (by unfold qFU; omega) (H.same q1 (by simp)) (fun x hx u hu => by rw [hrow x hx] at hu; exact gr_one hu) (fun x hx u hu => by rw [hrow x hx]; exact hu) (fun v hv => by omega)
  refine ⟨σ2, ?_, q1.trans q2, fun x hx u => prea_of (fun u => ⟨r1 x hx u, fun g => ?_⟩)⟩
  · unfold f_X4_findClosure
    rw [e1, qb_V]
    exact e4
  · obtain ⟨k, g⟩ := g
    revert x
    induction k with
    | zero => intro x hx g; exact r2 x hx u g
    | succ k ih =>
      intro x hx g
      obtain ⟨w, e, g⟩ := g
      have hw := W.ed_lt hx e
      exact r3 w hw x hx (r2 x hx w e) u (ih w hw g)
end CL
end
section
/-! the order: always the first task that is ready -/
def pfs (P : qP) (x : Int32) : Nat → Nat → Nat
  | 0, i => i
  | d + 1, i => if pready P x i = true then i else pfs P x d (i + 1)
def pmask (P : qP) : Nat → Int32
  | 0 => 0
  | i + 1 => pmask P i ||| ((1 : Int32) <<< (nI (pfs P (pmask P i) (pn P) 0) &&& 31))
def pord (P : qP) (i : Nat) : Nat := pfs P (pmask P i) (pn P) 0
theorem qbit_has0 {x : Int32} {i : Nat} (hi : i < 32) : ((x >>> (nI i &&& 31)) &&& (1 : Int32)) = 0 ↔ qbit x i = false := by
  have e0 : qbit (x >>> (nI i &&& 31)) 0 = qbit x i := qbit_sr (j := 0) hi (by omega)
  have k1 : ∀ j : Fin 32, qbit 1 j = decide ((j : Nat) = 0) := by decide +kernel
  rw [qbit_zero]
  constructor
  · intro h
    have := h 0 (by decide)
    rw [qbit_and, e0, show qbit 1 0 = true from k1 0, Bool.and_true] at this
    exact this
  · intro h j hj
    rw [qbit_and, k1 ⟨j, hj⟩]
    by_cases h0 : j = 0
    · subst h0; rw [e0, h]; rfl
    · simp [h0]
theorem pready_iff {P : qP} {x : Int32} {t : Nat} : pready P x t = true ↔ qbit x t = false ∧ ∀ u, u < 32 → ped P t u = true → qbit x u = true := by
  unfold pready
  rw [Bool.and_eq_true, decide_eq_true_iff, qbit_sub, Bool.not_eq_true']
theorem pfs_spec (P : qP) (x : Int32) : ∀ (d i : Nat), i ≤ pfs P x d i ∧ pfs P x d i ≤ i + d ∧ (∀ k, i ≤ k → k < pfs P x d i → pready P x k = false) ∧ (pfs P x d i < i + d → pready P x (pfs P x d i) = true)
  | 0, i => ⟨Nat.le_refl _, Nat.le_refl _, fun k h1 h2 => by unfold pfs at h2; omega, fun h => by unfold pfs at h; omega⟩
  | d + 1, i => by
    by_cases h : pready P x i = true
    · have e : pfs P x (d + 1) i = i := by unfold pfs; rw [if_pos h]
      rw [e]
      exact ⟨Nat.le_refl _, by omega, fun k h1 h2 => by omega, fun _ => h⟩
    · have e : pfs P x (d + 1) i = pfs P x d (i + 1) := by rw [pfs, if_neg h]
      obtain ⟨h1, h2, h3, h4⟩ := pfs_spec P x d (i + 1)
      rw [e]
      refine ⟨by omega, by omega, fun k hk1 hk2 => ?_, fun hl => h4 (by omega)⟩
      by_cases hki : k = i
      · subst hki; simpa using h
      · exact h3 k (by omega) hk2
section OR
variable {P : qP}
theorem g_ready (W : PW P) {x : Int32} {t : Nat} (ht : t < pn P) (hx : qbit x t = false) : ∃ r, r < pn P ∧ pready P x r = true := by
  obtain ⟨h, hh⟩ := W.2.2.2.1
  have key : ∀ k t, t < pn P → h t ≤ k → qbit x t = false → ∃ r, r < pn P ∧ pready P x r = true := by
    intro k
    induction k with
    | zero =>
      intro t ht h0 hx
      refine ⟨t, ht, pready_iff.mpr ⟨hx, fun u hu e => ?_⟩⟩
      have := hh t u ht e
      omega
    | succ k ih =>
      intro t ht h0 hx
      by_cases hall : ∀ u, u < 32 → ped P t u = true → qbit x u = true
      · exact ⟨t, ht, pready_iff.mpr ⟨hx, hall⟩⟩
      · obtain ⟨u, hall⟩ := Classical.not_forall.mp hall
        obtain ⟨hu, hall⟩ := Classical.not_imp.mp hall
        obtain ⟨e, hxu⟩ := Classical.not_imp.mp hall
        exact ih u (W.ed_lt ht e) (by have := hh t u ht e; omega) (by simpa using hxu)
  exact key (h t) t ht (Nat.le_refl _) hx
theorem gcnt_all {p : Nat → Bool} : ∀ k, (∀ i, i < k → p i = true) → gcnt p k = k
  | 0, _ => rfl
  | k + 1, h => by
    unfold gcnt
    rw [gcnt_all k (fun i hi => h i (by omega)), h k (by omega)]
    rfl
theorem gcnt_none {p : Nat → Bool} (h : ∀ i, p i = false) : ∀ k, gcnt p k = 0
  | 0 => rfl
  | k + 1 => by
    unfold gcnt
    rw [gcnt_none h k, h k]
    rfl
theorem gcnt_some {p : Nat → Bool} {k : Nat} (h : gcnt p k < k) : ∃ i, i < k ∧ p i = false := by
  by_cases hall : ∀ i, i < k → p i = true
  · rw [gcnt_all k hall] at h; omega
  · obtain ⟨i, hall⟩ := Classical.not_forall.mp hall
    obtain ⟨hi, hp⟩ := Classical.not_imp.mp hall
    exact ⟨i, hi, by simpa using hp⟩
theorem gcnt_put {p q : Nat → Bool} {x : Nat} (hx : p x = false) (hq : q x = true) (hpq : ∀ i, i ≠ x → q i = p i) : ∀ k, gcnt q k = gcnt p k + (if x < k then 1 else 0)
  | 0 => by simp [gcnt]
  | k + 1 => by
    have ih := gcnt_put hx hq hpq k
    unfold gcnt
    rw [ih]
    by_cases hk : k = x
    · subst hk
      rw [hx, hq]
      simp
    · rw [hpq k hk]
      by_cases hlt : x < k
      · rw [if_pos hlt, if_pos (show x < k + 1 by omega)]; omega
      · rw [if_neg hlt, if_neg (show ¬ x < k + 1 by omega)]
        omega
/-- the masks: i tasks are placed at i, and there is a next one -/
theorem pord_spec (W : PW P) : ∀ i, i ≤ pn P → (∀ u, qbit (pmask P i) u = true ↔ ∃ k, k < i ∧ pord P k = u) ∧ gcnt (fun u => qbit (pmask P i) u) (pn P) = i ∧ ∀ k, k < i → pord P k < pn P ∧ pready P (pmask P k) (pord P k) = true := by
  have hn := W.1
  intro i
  induction i with
  | zero =>
    intro _
    refine ⟨fun u => ?_, ?_, fun k hk => by omega⟩
    · rw [pmask, qbit_0]
      exact ⟨fun h => absurd h (by decide), fun ⟨k, hk, _⟩ => by omega⟩
    · exact gcnt_none (fun u => qbit_0 u) _
  | succ i ih =>
    intro hi
    obtain ⟨h1, h2, h3⟩ := ih (by omega)
    obtain ⟨t, ht, hx⟩ := gcnt_some (p := fun u => qbit (pmask P i) u) (k := pn P) (by omega)
    obtain ⟨r, hr, hrr⟩ := g_ready W ht hx
    obtain ⟨s1, s2, s3, s4⟩ := pfs_spec P (pmask P i) (pn P) 0
    have ho : pord P i < pn P := by
      unfold pord
      by_cases hc : pfs P (pmask P i) (pn P) 0 < pn P
      · exact hc
      · have := s3 r (Nat.zero_le _) (by omega)
        rw [hrr] at this; cases this
    have hor : pready P (pmask P i) (pord P i) = true := s4 (by rw [Nat.zero_add]; exact ho)
    have hbit : ∀ u, qbit (pmask P (i + 1)) u = (qbit (pmask P i) u || decide (pord P i = u)) := fun u => by
      rw [pmask]
      exact qbit_put (by show pord P i < 32; omega)
    refine ⟨fun u => ?_, ?_, fun k hk => ?_⟩
    · rw [hbit, Bool.or_eq_true, h1, decide_eq_true_iff]
      constructor
      · rintro (⟨k, hk, e⟩ | e)
        · exact ⟨k, by omega, e⟩
        · exact ⟨i, by omega, e⟩
      · rintro ⟨k, hk, e⟩
        by_cases hki : k = i
        · subst hki; exact Or.inr e
        · exact Or.inl ⟨k, by omega, e⟩
    · rw [gcnt_put (p := fun u => qbit (pmask P i) u) (x := pord P i) (pready_iff.mp hor).1 (by show qbit (pmask P (i + 1)) (pord P i) = true; rw [hbit]; simp) (fun u hu => by show qbit (pmask P (i + 1)) u = qbit (pmask P i) u; rw [hbit]; simp [Ne.symm hu]), h2, if_pos ho]
    · by_cases hki : k = i
      · subst hki; exact ⟨ho, hor⟩
      · exact h3 k (by omega)
/-- the class's order -/
theorem c_order_in {j : Nat} (W : PW P) {rk : Int32 → Int32 → qS → Option qO} {x v3 : Int32} {σ : qS} (H : Rep σ j P) : ∀ (d i m : Nat), i + d = pn P → d < m →
    l_X4_findOrder_15 j rk m x v3 (nI i) σ = qbind (f_X7_put 12 0 v3 (nI (pfs P x d i)) σ) (qvV (fun s1 => rk (x ||| ((1 : Int32) <<< (nI (pfs P x d i) &&& 31))) (v3 + (1 : Int32)) s1)) qE0 := by
  have hn := W.1
  intro d
  induction d with
  | zero =>
    intro i m hi hm
    obtain ⟨m, rfl⟩ : ∃ m', m = m' + 1 := ⟨m - 1, by omega⟩
    simp only [l_X4_findOrder_15, b_X4_findOrder_15, pfs]
    rw [if_pos (by rw [H.1]; exact nI_le (by omega) (by omega))]
  | succ d ih =>
    intro i m hi hm
    obtain ⟨m, rfl⟩ : ∃ m', m = m' + 1 := ⟨m - 1, by omega⟩
    simp only [l_X4_findOrder_15, b_X4_findOrder_15, pfs]
    rw [if_neg (by rw [H.1]; exact nI_ge (by omega) (by omega)), c_ready H W (by omega), qb_I]
    by_cases hr : pready P x i = true
    · rw [hr, if_neg (by decide), if_pos rfl]
    · rw [show pready P x i = false by simpa using hr, if_pos (by rfl), nI_1, ih (i + 1) m (by omega) (by omega), if_neg (by decide)]
theorem c_order_out {j : Nat} (W : PW P) : ∀ (d i m : Nat) (σ : qS), i + d = pn P → d < m → Rep σ j P → (∀ k, k < i → σ 12 0 k = nI (pord P k)) →
    ∃ σ', l_X4_findOrder_4 j m (pmask P i) (nI i) σ = qdo σ' ∧ qsm [12] σ σ' ∧ ∀ k, k < pn P → σ' 12 0 k = nI (pord P k) := by
  have hn := W.1
  intro d
  induction d with
  | zero =>
    intro i m σ hi hm H h1
    obtain ⟨m, rfl⟩ : ∃ m', m = m' + 1 := ⟨m - 1, by omega⟩
    refine ⟨σ, ?_, qsm.refl _ _, fun k hk => h1 k (by omega)⟩
    simp only [l_X4_findOrder_4, b_X4_findOrder_4]
    rw [if_pos (by rw [H.1]; exact nI_le (by omega) (by omega))]
  | succ d ih =>
    intro i m σ hi hm H h1
    obtain ⟨m, rfl⟩ : ∃ m', m = m' + 1 := ⟨m - 1, by omega⟩
    simp only [l_X4_findOrder_4, b_X4_findOrder_4]
    rw [if_neg (by rw [H.1]; exact nI_ge (by omega) (by omega)), show (0 : Int32) = nI 0 from rfl, c_order_in W H (pn P) 0 qFU (by omega) (by unfold qFU; omega), e_put (show i < 12 by omega) (by decide), qb_V, nI_1]
    obtain ⟨σ2, e2, q2, r2⟩ := ih (i + 1) m (qu σ 12 0 i (nI (pfs P (pmask P i) (pn P) 0))) (by omega) (by omega) (H.same (qsm_qu σ 12 0 i _) (by simp)) (fun k hk => by
      rw [qu_at]
      by_cases hki : k = i
      · subst hki; rw [if_pos ⟨rfl, rfl, rfl⟩]; rfl
      · rw [if_neg (fun h => hki h.2.2)]; exact h1 k (by omega))
    exact ⟨σ2, e2, ((qsm_qu σ 12 0 i _).mono (fun _ h => h)).trans q2, r2⟩
theorem c_findOrder {j : Nat} (W : PW P) {σ : qS} (H : Rep σ j P) : ∃ σ', f_X4_findOrder j σ = qdo σ' ∧ qsm [12] σ σ' ∧ ∀ k, k < pn P → σ' 12 0 k = nI (pord P k) := by
  have hn := W.1
  exact c_order_out W (pn P) 0 qFU σ (by omega) (by unfold qFU; omega) H (fun k hk => by omega)
end OR
end
section
/-! the earliest starts -/
def fo (g : Nat → Int32 → Int32) : Nat → Nat → Int32 → Int32
  | 0, _, a => a
  | d + 1, i, a => fo g d (i + 1) (g i a)
theorem fo_congr {g g' : Nat → Int32 → Int32} : ∀ (d i : Nat) (a : Int32), (∀ u, i ≤ u → u < i + d → ∀ a, g u a = g' u a) → fo g d i a = fo g' d i a
  | 0, _, _, _ => rfl
  | d + 1, i, a, h => by
    unfold fo
    rw [h i (Nat.le_refl _) (by omega)]
    exact fo_congr d (i + 1) _ (fun u h1 h2 => h u (by omega) (by omega))
theorem fo_inv {g : Nat → Int32 → Int32} {Q : Int32 → Prop} : ∀ (d i : Nat) (a : Int32), Q a → (∀ u a, i ≤ u → u < i + d → Q a → Q (g u a)) → Q (fo g d i a)
  | 0, _, _, h, _ => h
  | d + 1, i, a, h, hg => by
    unfold fo
    exact fo_inv d (i + 1) _ (hg i a (Nat.le_refl _) (by omega) h) (fun u a h1 h2 => hg u a (by omega) (by omega))
theorem fo_last {g : Nat → Int32 → Int32} : ∀ (d i : Nat) (a : Int32), fo g (d + 1) i a = g (i + d) (fo g d i a)
  | 0, i, a => rfl
  | d + 1, i, a => by
    rw [fo, fo_last d (i + 1) (g i a), fo]
    congr 1
    omega
def psoon (P : qP) (f : Nat → Int32) (t : Nat) : Int32 := fo (fun u a => if ped P t u = true then qmax a (f u + pf P 0 u) else a) (pn P) 0 (pf P 3 t)
def plast (P : qP) (f : Nat → Int32) : Int32 := fo (fun t a => qmax a (f t + pf P 0 t)) (pn P) 0 0
theorem psoon_congr {P : qP} {f f' : Nat → Int32} {t : Nat} (h : ∀ u, u < pn P → ped P t u = true → f u = f' u) : psoon P f t = psoon P f' t := by
  refine fo_congr _ _ _ (fun u _ h2 a => ?_)
  by_cases e : ped P t u = true
  · rw [if_pos e, if_pos e, h u (by omega) e]
  · rw [if_neg e, if_neg e]
theorem plast_congr {P : qP} {f f' : Nat → Int32} (h : ∀ u, u < pn P → f u = f' u) : plast P f = plast P f' :=
  fo_congr _ _ _ (fun u _ h2 a => by rw [h u (by omega)])
theorem qmax_l (a b : Int32) : a ≤ qmax a b := by
  unfold qmax
  split
  · exact Int32.le_of_lt ‹a < b›
  · exact Int32.le_refl a
theorem psoon_ge (P : qP) (f : Nat → Int32) (t : Nat) : pf P 3 t ≤ psoon P f t := by
  refine fo_inv (Q := fun x => pf P 3 t ≤ x) _ _ _ (Int32.le_refl _) (fun u a _ _ h => ?_)
  split
  · exact Int32.le_trans h (qmax_l _ _)
  · exact h
def IsE (P : qP) (E : Nat → Int32) : Prop := ∀ t, t < pn P → E t = psoon P E t
section EA
variable {P : qP}
theorem IsE.ge (W : PW P) {E : Nat → Int32} (hE : IsE P E) {t : Nat} (ht : t < pn P) : 0 ≤ E t := by
  rw [hE t ht]
  refine Int32.le_trans ?_ (psoon_ge P E t)
  rw [Int32.le_iff_toInt_le]
  exact (W.2.1 t ht).2.2.2.1.1
theorem IsE.ne (W : PW P) {E : Nat → Int32} (hE : IsE P E) {t : Nat} (ht : t < pn P) : ¬ E t = -1 := by
  intro h
  have := hE.ge W ht
  rw [h] at this
  exact absurd this (by decide)
theorem IsE.uniq (W : PW P) {E E' : Nat → Int32} (h1 : IsE P E) (h2 : IsE P E') : ∀ t, t < pn P → E t = E' t := by
  obtain ⟨h, hh⟩ := W.2.2.2.1
  have key : ∀ k t, t < pn P → h t ≤ k → E t = E' t := by
    intro k
    induction k with
    | zero =>
      intro t ht h0
      rw [h1 t ht, h2 t ht]
      exact psoon_congr (fun u hu e => by have := hh t u ht e; omega)
    | succ k ih =>
      intro t ht h0
      rw [h1 t ht, h2 t ht]
      exact psoon_congr (fun u hu e => ih u hu (by have := hh t u ht e; omega))
  exact fun t ht => key (h t) t ht (Nat.le_refl _)
def pEi (P : qP) : Nat → Nat → Int32
  | 0 => fun _ => 0
  | k + 1 => fun t => psoon P (pEi P k) t
def pE (P : qP) : Nat → Int32 := pEi P (pn P)
theorem pEi_eq (W : PW P) {h : Nat → Nat} (hh : ∀ t u, t < pn P → ped P t u = true → h u < h t) : ∀ k t, t < pn P → h t < k → ∀ k', h t < k' → pEi P k t = pEi P k' t := by
  intro k
  induction k with
  | zero => intro t ht h1; omega
  | succ k ih =>
    intro t ht h1 k' h2
    obtain ⟨k', rfl⟩ : ∃ z, k' = z + 1 := ⟨k' - 1, by omega⟩
    exact psoon_congr (fun u hu e => ih u hu (by have := hh t u ht e; omega) k' (by have := hh t u ht e; omega))
theorem pE_is (W : PW P) : IsE P (pE P) := by
  have hc : ∀ t u, t < pn P → ped P t u = true → u < pn P := fun t u h1 h2 => W.ed_lt h1 h2
  obtain ⟨h, hh, hb⟩ := g_rank hc W.2.2.2.1
  intro t ht
  have h1 := hb t ht
  show pEi P (pn P) t = psoon P (pEi P (pn P)) t
  rw [pEi_eq W hh (pn P) t ht h1 (pn P + 1) (by omega)]
  rfl
/-! the class's soonest start; its memory -/
theorem c_soonest_loop {j k3 j3 : Nat} {σ : qS} (W : PW P) (H : Rep σ j P) (hk : qlen k3 = 12) {t : Nat} (ht : t < pn P) : ∀ (d i m : Nat) (a : Int32), i + d = pn P → d < m →
    l_X4_soonestStart_22 j k3 j3 m a (pf P 4 t) (nI i) σ = qan (fo (fun u a => if ped P t u = true then qmax a (σ k3 j3 u + pf P 0 u) else a) d i a) σ := by
  have hn := W.1
  intro d
  induction d with
  | zero =>
    intro i m a hi hm
    obtain ⟨m, rfl⟩ : ∃ m', m = m' + 1 := ⟨m - 1, by omega⟩
    simp only [l_X4_soonestStart_22, b_X4_soonestStart_22, fo]
    rw [if_pos (by rw [H.1]; exact nI_le (by omega) (by omega))]
  | succ d ih =>
    intro i m a hi hm
    obtain ⟨m, rfl⟩ : ∃ m', m = m' + 1 := ⟨m - 1, by omega⟩
    simp only [l_X4_soonestStart_22, b_X4_soonestStart_22]
    rw [if_neg (by rw [H.1]; exact nI_ge (by omega) (by omega)), e_hasBit (by omega), qb_I, fo]
    by_cases e : ped P t i = true
    · rw [show qbit (pf P 4 t) i = true from e, if_neg (by decide), e_at (by rw [hk]; omega) (by rw [hk]; decide), qb_I, c_dur H W (by omega), qb_I, nI_1, ih (i + 1) m _ (by omega) (by omega), if_pos e]
    · rw [show qbit (pf P 4 t) i = false by simpa using e, if_pos (by rfl), nI_1, ih (i + 1) m _ (by omega) (by omega), if_neg e]
theorem c_soonest {j k3 j3 : Nat} {σ : qS} (W : PW P) (H : Rep σ j P) (hk : qlen k3 = 12) {t : Nat} (ht : t < pn P) : f_X4_soonestStart j (nI t) k3 j3 σ = qan (psoon P (σ k3 j3) t) σ := by
  have hn := W.1
  unfold f_X4_soonestStart
  rw [c_rel H W ht, qb_I, c_need H W ht, qb_I]
  exact c_soonest_loop W H hk ht (pn P) 0 qFU _ (by omega) (by unfold qFU; omega)
/-- what is known of the earliest starts -/
def EKn (P : qP) (σ : qS) : Prop := ∀ t, t < pn P → σ 14 0 t = -1 ∨ σ 14 0 t = pE P t
def EMo (P : qP) (σ σ' : qS) : Prop := ∀ t, t < pn P → σ 14 0 t = pE P t → σ' 14 0 t = pE P t
theorem EMo.trans {σ σ' σ'' : qS} (h : EMo P σ σ') (h2 : EMo P σ' σ'') : EMo P σ σ'' := fun t ht e => h2 t ht (h t ht e)
theorem EMo.put (σ : qS) (t : Nat) : EMo P σ (qu σ 14 0 t (pE P t)) := fun x hx e => by
  rw [qu_at]
  by_cases e2 : x = t
  · subst e2; rw [if_pos ⟨rfl, rfl, rfl⟩]
  · rw [if_neg (fun h => e2 h.2.2)]; exact e
theorem EKn.put {σ : qS} (h : EKn P σ) (t : Nat) : EKn P (qu σ 14 0 t (pE P t)) := fun x hx => by
  rw [qu_at]
  by_cases e : x = t
  · subst e; rw [if_pos ⟨rfl, rfl, rfl⟩]; exact Or.inr rfl
  · rw [if_neg (fun h => e h.2.2)]; exact h x hx
theorem c_earliest_loop {j : Nat} (W : PW P) {rf : Nat → Nat → Nat → Int32 → Int32 → qS → Option qO} {dp t : Nat} (ht : t < pn P)
    (hrf : ∀ (u : Nat) (σ : qS), u < pn P → ped P t u = true → Rep σ j P → EKn P σ → ∃ σ', rf j 14 0 (nI u) (nI (dp + 1)) σ = qan (pE P u) σ' ∧ qsm [14] σ σ' ∧ EKn P σ' ∧ EMo P σ σ') :
    ∀ (d i m : Nat) (a : Int32) (σ : qS), i + d = pn P → d < m → Rep σ j P → EKn P σ → fo (fun u a => if ped P t u = true then qmax a (pE P u + pf P 0 u) else a) d i a = pE P t →
    ∃ σ', l_X4_earliestOf_45 rf j 14 0 m (nI t) (nI dp) a (pf P 4 t) (nI i) σ = qan (pE P t) σ' ∧ qsm [14] σ σ' ∧ EKn P σ' ∧ EMo P σ σ' ∧ σ' 14 0 t = pE P t := by
  have hn := W.1
  intro d
  induction d with
  | zero =>
    intro i m a σ hi hm H hK ha
    obtain ⟨m, rfl⟩ : ∃ m', m = m' + 1 := ⟨m - 1, by omega⟩
    simp only [fo] at ha
    subst ha
    simp only [l_X4_earliestOf_45, b_X4_earliestOf_45]
    rw [if_pos (by rw [H.1]; exact nI_le (by omega) (by omega)), e_put (show t < 12 by omega) (by decide), qb_V]
    exact ⟨_, rfl, qsm_qu σ 14 0 t _, hK.put t, EMo.put σ t, by rw [qu_at, if_pos ⟨rfl, rfl, rfl⟩]⟩
  | succ d ih =>
    intro i m a σ hi hm H hK ha
    obtain ⟨m, rfl⟩ : ∃ m', m = m' + 1 := ⟨m - 1, by omega⟩
    simp only [l_X4_earliestOf_45, b_X4_earliestOf_45]
    rw [if_neg (by rw [H.1]; exact nI_ge (by omega) (by omega)), e_hasBit (by omega), qb_I]
    rw [fo] at ha
    by_cases e : ped P t i = true
    · rw [if_pos e] at ha
      obtain ⟨σ1, e1, q1, K1, M1⟩ := hrf i σ (by omega) e H hK
      have H1 := H.same q1 (by simp)
      rw [show qbit (pf P 4 t) i = true from e, if_neg (by decide), nI_1, e1, qb_I, c_dur H1 W (by omega), qb_I, nI_1]
      obtain ⟨σ2, e2, q2, K2, M2, r2⟩ := ih (i + 1) m _ σ1 (by omega) (by omega) H1 K1 ha
      exact ⟨σ2, e2, q1.trans q2, K2, M1.trans M2, r2⟩
    · rw [if_neg e] at ha
      rw [show qbit (pf P 4 t) i = false by simpa using e, if_pos (by rfl), nI_1]
      exact ih (i + 1) m _ σ (by omega) (by omega) H hK ha
theorem c_earliestOf_n {j : Nat} (W : PW P) {h : Nat → Nat} (hh : ∀ t u, t < pn P → ped P t u = true → h u < h t) : ∀ (m dp t : Nat) (σ : qS), m + dp = 16 → t < pn P → h t + dp ≤ 11 → Rep σ j P → EKn P σ → ∃ σ', fn_X4_earliestOf m j 14 0 (nI t) (nI dp) σ = qan (pE P t) σ' ∧ qsm [14] σ σ' ∧ EKn P σ' ∧ EMo P σ σ' ∧ σ' 14 0 t = pE P t := by
  have hn := W.1
  intro m
  induction m with
  | zero => intro dp t σ h1 h2 h3; omega
  | succ m ih =>
    intro dp t σ h1 ht h3 H hK
    simp only [fn_X4_earliestOf, fb_X4_earliestOf]
    rw [e_at (show t < 12 by omega) (by decide), qb_I]
    by_cases e0 : σ 14 0 t = -1
    · rw [if_pos e0, if_pos (by rw [show (12 : Int32) = nI 12 from rfl, n_le (by omega) (by decide)]; omega), c_rel H W ht, qb_I, c_need H W ht, qb_I]
      exact c_earliest_loop W ht (rf := fn_X4_earliestOf m) (fun u σ2 hu e H2 K2 => by
        obtain ⟨σ3, a1, a2, a3, a4, _⟩ := ih (dp + 1) u σ2 (by omega) hu (by have := hh t u ht e; omega) H2 K2
        exact ⟨σ3, a1, a2, a3, a4⟩) (pn P) 0 qFU _ σ (by omega) (by unfold qFU; omega) H hK (pE_is W t ht).symm
    · rcases hK t ht with e1 | e1
      · exact absurd e1 e0
      · rw [if_neg e0, e1]
        exact ⟨σ, rfl, qsm.refl _ _, hK, fun _ _ e => e, e1⟩
theorem c_findEarliest_loop {j : Nat} (W : PW P) : ∀ (d i m : Nat) (σ : qS), i + d = pn P → d < m → Rep σ j P → EKn P σ → (∀ t, t < i → σ 14 0 t = pE P t) →
    ∃ σ', l_X4_findEarliest_15 j m (nI i) σ = qdo σ' ∧ qsm [14, 11] σ σ' ∧ (∀ t, t < pn P → σ' 14 0 t = pE P t) ∧ σ' 11 0 7 = fo (fun t a => qmax a (pE P t + pf P 0 t)) d i (σ 11 0 7) ∧ (∀ x, ¬ x = 7 → σ' 11 0 x = σ 11 0 x) := by
  have hn := W.1
  have hc : ∀ t u, t < pn P → ped P t u = true → u < pn P := fun t u h1 h2 => W.ed_lt h1 h2
  obtain ⟨h, hh, hb⟩ := g_rank hc W.2.2.2.1
  intro d
  induction d with
  | zero =>
    intro i m σ hi hm H hK h1
    obtain ⟨m, rfl⟩ : ∃ m', m = m' + 1 := ⟨m - 1, by omega⟩
    refine ⟨σ, ?_, qsm.refl _ _, fun t ht => h1 t (by omega), rfl, fun _ _ => rfl⟩
    simp only [l_X4_findEarliest_15, b_X4_findEarliest_15]
    rw [if_pos (by rw [H.1]; exact nI_le (by omega) (by omega))]
  | succ d ih =>
    intro i m σ hi hm H hK h1
    obtain ⟨m, rfl⟩ : ∃ m', m = m' + 1 := ⟨m - 1, by omega⟩
    simp only [l_X4_findEarliest_15, b_X4_findEarliest_15]
    obtain ⟨σ1, e1, q1, K1, M1, r1⟩ := c_earliestOf_n W hh 16 0 i σ rfl (by omega) (by have := hb i (by omega); omega) H hK
    have H1 := H.same q1 (by simp)
    have e1' : f_X4_earliestOf j 14 0 (nI i) 0 σ = qan (pE P i) σ1 := e1
    have ea : ∀ a b, a ≠ 14 → σ1 a b = σ a b := fun a b ha => q1 a b (by simpa using ha)
    rw [if_neg (by rw [H.1]; exact nI_ge (by omega) (by omega)), e1', qb_I, c_dur H1 W (by omega), qb_I, qlet_eq, nI_1, ea 11 0 (by decide)]
    have q2 : qsm [14, 11] σ (qu σ1 11 0 7 (qmax (σ 11 0 7) (pE P i + pf P 0 i))) := (q1.mono (by simp)).qu (by simp)
    have hne : ∀ t, qu σ1 11 0 7 (qmax (σ 11 0 7) (pE P i + pf P 0 i)) 14 0 t = σ1 14 0 t := fun t => by rw [qu_at, if_neg (by simp)]
    obtain ⟨σ2, e2, q3, r2, r3, r4⟩ := ih (i + 1) m (qu σ1 11 0 7 (qmax (σ 11 0 7) (pE P i + pf P 0 i))) (by omega) (by omega) (H.same q2 (by simp)) (fun t ht => by rw [hne]; exact K1 t ht) (fun t ht => by
      rw [hne]
      by_cases hti : t = i
      · subst hti; exact r1
      · exact M1 t (by omega) (h1 t (by omega)))
    refine ⟨σ2, e2, q2.trans q3, r2, ?_, fun x hx => ?_⟩
    · rw [r3, qu_at, if_pos ⟨rfl, rfl, rfl⟩, fo]
    · rw [r4 x hx, qu_at, if_neg (fun h => hx h.2.2), ea 11 0 (by decide)]
theorem c_findEarliest {j : Nat} (W : PW P) {σ : qS} (H : Rep σ j P) : ∃ σ', f_X4_findEarliest j σ = qdo σ' ∧ qsm [14, 11] σ σ' ∧ (∀ t, t < pn P → σ' 14 0 t = pE P t) ∧ σ' 11 0 7 = plast P (pE P) ∧ (∀ x, ¬ x = 7 → σ' 11 0 x = σ 11 0 x) := by
  have hn := W.1
  obtain ⟨σ1, e1, e2, e3⟩ := e_fillRow (k := 14) (j := 0) (L := 12) rfl (by decide) (-1 : Int32) σ
  have q1 : qsm [14, 11] σ (qu σ1 11 0 7 0) := (show qsm [14, 11] σ σ1 from fun a b ha => e2 a b (fun h => ha (by rw [h.1]; simp))).qu (by simp)
  have hne : ∀ t, qu σ1 11 0 7 0 14 0 t = σ1 14 0 t := fun t => by rw [qu_at, if_neg (by simp)]
  obtain ⟨σ2, a1, a2, a3, a4, a5⟩ := c_findEarliest_loop (j := j) W (pn P) 0 qFU (qu σ1 11 0 7 0) (by omega) (by unfold qFU; omega) (H.same q1 (by simp)) (fun t ht => by rw [hne, e3 t (by omega)]; exact Or.inl rfl) (fun t ht => by omega)
  refine ⟨σ2, ?_, q1.trans a2, a3, ?_, fun x hx => ?_⟩
  · unfold f_X4_findEarliest
    rw [e1, qb_V, qlet_eq]
    exact a1
  · rw [a4, qu_at, if_pos ⟨rfl, rfl, rfl⟩]
    rfl
  · rw [a5 x hx, qu_at, if_neg (fun h => hx h.2.2), e2 11 0 (by simp)]
end EA
end
section
/-! numbers that don't run over; the starts by rounds -/
theorem i_add {a b : Int32} (h1 : -100000 ≤ a.toInt) (h2 : a.toInt ≤ 100000) (h3 : -100000 ≤ b.toInt) (h4 : b.toInt ≤ 100000) : (a + b).toInt = a.toInt + b.toInt := by
  rw [Int32.toInt_add]
  exact Int.bmod_eq_of_le (by omega) (by omega)
theorem i_sub {a b : Int32} (h1 : -100000 ≤ a.toInt) (h2 : a.toInt ≤ 100000) (h3 : -100000 ≤ b.toInt) (h4 : b.toInt ≤ 100000) : (a - b).toInt = a.toInt - b.toInt := by
  rw [Int32.toInt_sub]
  exact Int.bmod_eq_of_le (by omega) (by omega)
theorem i_mul {a b : Int32} (h1 : -10000 ≤ a.toInt) (h2 : a.toInt ≤ 10000) (h3 : 0 ≤ b.toInt) (h4 : b.toInt ≤ 200) : (a * b).toInt = a.toInt * b.toInt := by
  rw [Int32.toInt_mul]
  have k1 : a.toInt * b.toInt ≤ 10000 * b.toInt := Int.mul_le_mul_of_nonneg_right h2 h3
  have k2 : -10000 * b.toInt ≤ a.toInt * b.toInt := Int.mul_le_mul_of_nonneg_right h1 h3
  exact Int.bmod_eq_of_le (by omega) (by omega)
theorem i_max (a b : Int32) : (qmax a b).toInt = max a.toInt b.toInt := by
  unfold qmax
  split
  · rename_i h; rw [Int32.lt_iff_toInt_lt] at h; omega
  · rename_i h; rw [Int32.lt_iff_toInt_lt] at h; omega
theorem i_min (a b : Int32) : (qmin a b).toInt = min a.toInt b.toInt := by
  unfold qmin
  split
  · rename_i h; rw [Int32.lt_iff_toInt_lt] at h; omega
  · rename_i h; rw [Int32.lt_iff_toInt_lt] at h; omega
theorem i_le {a b : Int32} : a ≤ b ↔ a.toInt ≤ b.toInt := Int32.le_iff_toInt_le
theorem i_lt {a b : Int32} : a < b ↔ a.toInt < b.toInt := Int32.lt_iff_toInt_lt
theorem i_eq {a b : Int32} (h : a.toInt = b.toInt) : a = b := Int32.toInt_inj.mp h
/-- the greatest of some, the least of some -/
theorem fo_max {c : Nat → Bool} {v : Nat → Int32} (x : Int) : ∀ (d i : Nat) (a : Int32), (fo (fun u a => if c u = true then qmax a (v u) else a) d i a).toInt ≤ x ↔ a.toInt ≤ x ∧ ∀ u, i ≤ u → u < i + d → c u = true → (v u).toInt ≤ x
  | 0, i, a => by
    simp only [fo]
    exact ⟨fun h => ⟨h, fun u h1 h2 => by omega⟩, fun h => h.1⟩
  | d + 1, i, a => by
    simp only [fo]
    rw [fo_max x d (i + 1)]
    constructor
    · rintro ⟨h1, h2⟩
      by_cases e : c i = true
      · rw [if_pos e, i_max] at h1
        refine ⟨by omega, fun u hu hu2 eu => ?_⟩
        by_cases hui : u = i
        · subst hui; omega
        · exact h2 u (by omega) (by omega) eu
      · rw [if_neg e] at h1
        refine ⟨h1, fun u hu hu2 eu => ?_⟩
        by_cases hui : u = i
        · subst hui; exact absurd eu e
        · exact h2 u (by omega) (by omega) eu
    · rintro ⟨h1, h2⟩
      refine ⟨?_, fun u hu hu2 eu => h2 u (by omega) (by omega) eu⟩
      by_cases e : c i = true
      · rw [if_pos e, i_max]
        have := h2 i (Nat.le_refl _) (by omega) e
        omega
      · rw [if_neg e]; exact h1
theorem fo_min {c : Nat → Bool} {v : Nat → Int32} (x : Int) : ∀ (d i : Nat) (a : Int32), x ≤ (fo (fun u a => if c u = true then qmin a (v u) else a) d i a).toInt ↔ x ≤ a.toInt ∧ ∀ u, i ≤ u → u < i + d → c u = true → x ≤ (v u).toInt
  | 0, i, a => by
    simp only [fo]
    exact ⟨fun h => ⟨h, fun u h1 h2 => by omega⟩, fun h => h.1⟩
  | d + 1, i, a => by
    simp only [fo]
    rw [fo_min x d (i + 1)]
    constructor
    · rintro ⟨h1, h2⟩
      by_cases e : c i = true
      · rw [if_pos e, i_min] at h1
        refine ⟨by omega, fun u hu hu2 eu => ?_⟩
        by_cases hui : u = i
        · subst hui; omega
        · exact h2 u (by omega) (by omega) eu
      · rw [if_neg e] at h1
        refine ⟨h1, fun u hu hu2 eu => ?_⟩
        by_cases hui : u = i
        · subst hui; exact absurd eu e
        · exact h2 u (by omega) (by omega) eu
    · rintro ⟨h1, h2⟩
      refine ⟨?_, fun u hu hu2 eu => h2 u (by omega) (by omega) eu⟩
      by_cases e : c i = true
      · rw [if_pos e, i_min]
        have := h2 i (Nat.le_refl _) (by omega) e
        omega
      · rw [if_neg e]; exact h1
section IM
variable {P : qP}
theorem psoon_le {f : Nat → Int32} {t : Nat} {x : Int} : (psoon P f t).toInt ≤ x ↔ (pf P 3 t).toInt ≤ x ∧ ∀ u, u < pn P → ped P t u = true → (f u + pf P 0 u).toInt ≤ x := by
  unfold psoon
  rw [fo_max (c := fun u => ped P t u) (v := fun u => f u + pf P 0 u)]
  exact ⟨fun h => ⟨h.1, fun u hu e => h.2 u (Nat.zero_le _) (by omega) e⟩, fun h => ⟨h.1, fun u _ hu e => h.2 u (by omega) e⟩⟩
/-- the earliest starts are small -/
theorem pE_bd (W : PW P) : ∃ h : Nat → Nat, (∀ t u, t < pn P → ped P t u = true → h u < h t) ∧ (∀ t, t < pn P → h t < pn P) ∧ ∀ t, t < pn P → 0 ≤ (pE P t).toInt ∧ (pE P t).toInt ≤ 30 + 9 * (h t : Int) := by
  have hc : ∀ t u, t < pn P → ped P t u = true → u < pn P := fun t u h1 h2 => W.ed_lt h1 h2
  have hn := W.1
  obtain ⟨h, hh, hb⟩ := g_rank hc W.2.2.2.1
  have hE := pE_is W
  refine ⟨h, hh, hb, ?_⟩
  have key : ∀ k t, t < pn P → h t ≤ k → 0 ≤ (pE P t).toInt ∧ (pE P t).toInt ≤ 30 + 9 * (h t : Int) := by
    intro k
    induction k with
    | zero =>
      intro t ht h0
      have h1 := hE.ge W ht
      rw [i_le] at h1
      refine ⟨h1, ?_⟩
      rw [hE t ht, psoon_le]
      refine ⟨?_, fun u hu e => ?_⟩
      · have := (W.2.1 t ht).2.2.2.1; omega
      · have := hh t u ht e; omega
    | succ k ih =>
      intro t ht h0
      have h1 := hE.ge W ht
      rw [i_le] at h1
      refine ⟨h1, ?_⟩
      rw [hE t ht, psoon_le]
      refine ⟨?_, fun u hu e => ?_⟩
      · have := (W.2.1 t ht).2.2.2.1; omega
      · have h2 := hh t u ht e
        have h3 := ih u hu (by omega)
        have h4 := (W.2.1 u hu).1
        have h5 := hb u hu
        rw [i_add (by omega) (by omega) (by omega) (by omega)]
        omega
  exact fun t ht => key (h t) t ht (Nat.le_refl _)
theorem pE_small (W : PW P) {t : Nat} (ht : t < pn P) : 0 ≤ (pE P t).toInt ∧ (pE P t).toInt ≤ 129 := by
  obtain ⟨h, -, hb, hE⟩ := pE_bd W
  have := hb t ht
  have := hE t ht
  have := W.1
  omega
/-- starts between the releases and the earliest -/
def IBt (P : qP) (f : Nat → Int32) : Prop := ∀ t, t < pn P → 0 ≤ (f t).toInt ∧ (f t).toInt ≤ (pE P t).toInt
theorem psoon_below (W : PW P) {f : Nat → Int32} (hf : IBt P f) {t : Nat} (ht : t < pn P) : (psoon P f t).toInt ≤ (pE P t).toInt := by
  rw [psoon_le]
  have h1 : (psoon P (pE P) t).toInt ≤ (pE P t).toInt := by rw [← pE_is W t ht]; exact Int.le_refl _
  rw [psoon_le] at h1
  refine ⟨h1.1, fun u hu e => ?_⟩
  have h2 := h1.2 u hu e
  have h3 := hf u hu
  have h4 := (W.2.1 u hu).1
  have h5 := pE_small W hu
  rw [i_add (by omega) (by omega) (by omega) (by omega)] at h2 ⊢
  omega
theorem c_improve_loop {j : Nat} (W : PW P) {f0 : Nat → Int32} (h0 : IBt P f0) : ∀ (d i m : Nat) (fl : Bool) (σ : qS), i + d = pn P → d < m → Rep σ j P → IBt P (σ 15 0) → (∀ t, t < pn P → (f0 t).toInt ≤ (σ 15 0 t).toInt) →
    (∀ t, t < i → (∀ u, u < pn P → ped P t u = true → f0 u = pE P u) → σ 15 0 t = pE P t) → (fl = false → (∀ t, t < pn P → σ 15 0 t = f0 t) ∧ ∀ t, t < i → (psoon P f0 t).toInt ≤ (f0 t).toInt) →
    ∃ (σ' : qS) (fl' : Bool), l_X4_improve_4 j m (qb1 fl) (nI i) σ = qan (qb1 fl') σ' ∧ qsm [15] σ σ' ∧ IBt P (σ' 15 0) ∧ (∀ t, t < pn P → (∀ u, u < pn P → ped P t u = true → f0 u = pE P u) → σ' 15 0 t = pE P t) ∧ (fl' = false → (∀ t, t < pn P → σ' 15 0 t = f0 t) ∧ ∀ t, t < pn P → (psoon P f0 t).toInt ≤ (f0 t).toInt) := by
  have hn := W.1
  intro d
  induction d with
  | zero =>
    intro i m fl σ hi hm H hB hge h1 h2
    obtain ⟨m, rfl⟩ : ∃ m', m = m' + 1 := ⟨m - 1, by omega⟩
    have hi : i = pn P := by omega
    subst hi
    refine ⟨σ, fl, ?_, qsm.refl _ _, hB, h1, h2⟩
    simp only [l_X4_improve_4, b_X4_improve_4]
    rw [if_pos (by rw [H.1]; exact Int32.le_refl _), if_pos (qb1_bo _)]
  | succ d ih =>
    intro i m fl σ hi hm H hB hge h1 h2
    obtain ⟨m, rfl⟩ : ∃ m', m = m' + 1 := ⟨m - 1, by omega⟩
    have hin : i < pn P := by omega
    simp only [l_X4_improve_4, b_X4_improve_4]
    rw [if_neg (by rw [H.1]; exact nI_ge (by omega) (by omega)), c_soonest W H rfl hin, qb_I, e_at (show i < 12 by omega) (by decide), qb_I]
    have hlow := psoon_below W hB hin
    have hfull : (∀ u, u < pn P → ped P i u = true → f0 u = pE P u) → psoon P (σ 15 0) i = pE P i := by
      intro hu
      rw [pE_is W i hin]
      refine psoon_congr (fun u hu2 e => i_eq ?_)
      have a1 := hge u hu2
      have a2 := hB u hu2
      rw [hu u hu2 e] at a1
      omega
    by_cases hle : psoon P (σ 15 0) i ≤ σ 15 0 i
    · rw [if_pos hle, nI_1]
      rw [i_le] at hle
      refine ih (i + 1) m fl σ (by omega) (by omega) H hB hge (fun t ht hu => ?_) (fun hf => ?_)
      · by_cases hti : t = i
        · subst hti
          have a1 := hfull hu
          have a2 := hB t hin
          rw [a1] at hle
          exact i_eq (by omega)
        · exact h1 t (by omega) hu
      · obtain ⟨k1, k2⟩ := h2 hf
        refine ⟨k1, fun t ht => ?_⟩
        by_cases hti : t = i
        · subst hti
          rw [← k1 t hin]
          rw [psoon_congr (f := f0) (f' := σ 15 0) (fun u hu _ => (k1 u hu).symm)]
          exact hle
        · exact k2 t (by omega)
    · rw [if_neg hle, e_put (show i < 12 by omega) (by decide), qb_V, nI_1]
      rw [i_le] at hle
      have q1 := qsm_qu σ 15 0 i (psoon P (σ 15 0) i)
      have hee : qu σ 15 0 i (psoon P (σ 15 0) i) 15 0 i = psoon P (σ 15 0) i := by rw [qu_at, if_pos ⟨rfl, rfl, rfl⟩]
      have hne : ∀ t, t ≠ i → qu σ 15 0 i (psoon P (σ 15 0) i) 15 0 t = σ 15 0 t := fun t ht => by rw [qu_at, if_neg (fun h => ht h.2.2)]
      have hB' : IBt P (qu σ 15 0 i (psoon P (σ 15 0) i) 15 0) := by
        intro t ht
        by_cases hti : t = i
        · subst hti
          rw [hee]
          have := hB t hin
          omega
        · rw [hne t hti]; exact hB t ht
      obtain ⟨σ2, fl2, e2, q2, b2, r2, r3⟩ := ih (i + 1) m true (qu σ 15 0 i (psoon P (σ 15 0) i)) (by omega) (by omega) (H.same q1 (by simp)) hB' (fun t ht => by
        by_cases hti : t = i
        · subst hti; rw [hee]; have := hge t hin; omega
        · rw [hne t hti]; exact hge t ht) (fun t ht hu => by
        by_cases hti : t = i
        · subst hti; rw [hee]; exact hfull hu
        · rw [hne t hti]; exact h1 t (by omega) hu) (fun hf => by cases hf)
      exact ⟨σ2, fl2, e2, q1.trans q2, b2, r2, r3⟩
theorem c_improve {j : Nat} (W : PW P) {σ : qS} (H : Rep σ j P) (hB : IBt P (σ 15 0)) : ∃ (σ' : qS) (fl' : Bool), f_X4_improve j σ = qan (qb1 fl') σ' ∧ qsm [15] σ σ' ∧ IBt P (σ' 15 0) ∧ (∀ t, t < pn P → (∀ u, u < pn P → ped P t u = true → σ 15 0 u = pE P u) → σ' 15 0 t = pE P t) ∧ (fl' = false → (∀ t, t < pn P → σ' 15 0 t = σ 15 0 t) ∧ ∀ t, t < pn P → (psoon P (σ 15 0) t).toInt ≤ (σ 15 0 t).toInt) := by
  have hn := W.1
  exact c_improve_loop W hB (pn P) 0 qFU false σ (by omega) (by unfold qFU; omega) H hB (fun _ _ => Int.le_refl _) (fun t ht => by omega) (fun _ => ⟨fun _ _ => rfl, fun t ht => by omega⟩)
/-- nothing moves any more: these are the earliest -/
theorem pE_still (W : PW P) {f : Nat → Int32} (hB : IBt P f) (hs : ∀ t, t < pn P → (psoon P f t).toInt ≤ (f t).toInt) : ∀ t, t < pn P → f t = pE P t := by
  obtain ⟨h, hh⟩ := W.2.2.2.1
  have key : ∀ k t, t < pn P → h t ≤ k → f t = pE P t := by
    intro k
    induction k with
    | zero =>
      intro t ht h0
      have a1 : psoon P f t = pE P t := by rw [pE_is W t ht]; exact psoon_congr (fun u hu e => by have := hh t u ht e; omega)
      have a2 := hs t ht
      have a3 := hB t ht
      rw [a1] at a2
      exact i_eq (by omega)
    | succ k ih =>
      intro t ht h0
      have a1 : psoon P f t = pE P t := by rw [pE_is W t ht]; exact psoon_congr (fun u hu e => ih u hu (by have := hh t u ht e; omega))
      have a2 := hs t ht
      have a3 := hB t ht
      rw [a1] at a2
      exact i_eq (by omega)
  exact fun t ht => key (h t) t ht (Nat.le_refl _)
theorem c_findImproved_loop {j : Nat} (W : PW P) {h : Nat → Nat} (hh : ∀ t u, t < pn P → ped P t u = true → h u < h t) (hb : ∀ t, t < pn P → h t < pn P) : ∀ (d r m : Nat) (fl : Bool) (σ : qS), r + d = 12 → d < m → Rep σ j P → IBt P (σ 15 0) → (∀ t, t < pn P → h t < r → σ 15 0 t = pE P t) → (fl = false → ∀ t, t < pn P → σ 15 0 t = pE P t) →
    ∃ σ', l_X4_findImproved_15 j m (qb1 fl) (nI r) σ = qdo σ' ∧ qsm [15] σ σ' ∧ ∀ t, t < pn P → σ' 15 0 t = pE P t := by
  have hn := W.1
  intro d
  induction d with
  | zero =>
    intro r m fl σ hr hm H hB h1 h2
    obtain ⟨m, rfl⟩ : ∃ m', m = m' + 1 := ⟨m - 1, by omega⟩
    simp only [l_X4_findImproved_15, b_X4_findImproved_15]
    refine ⟨σ, ?_, qsm.refl _ _, fun t ht => h1 t ht (by have := hb t ht; omega)⟩
    by_cases hf : qb1 fl = 0
    · rw [if_pos hf]
    · rw [if_neg hf, if_pos (by rw [show (12 : Int32) = nI 12 from rfl]; exact nI_le (by omega) (by omega))]
  | succ d ih =>
    intro r m fl σ hr hm H hB h1 h2
    obtain ⟨m, rfl⟩ : ∃ m', m = m' + 1 := ⟨m - 1, by omega⟩
    simp only [l_X4_findImproved_15, b_X4_findImproved_15]
    by_cases hf : qb1 fl = 0
    · rw [if_pos hf]
      exact ⟨σ, rfl, qsm.refl _ _, h2 ((qb1_0 fl).mp hf)⟩
    · obtain ⟨σ1, fl1, e1, q1, b1, r1, r2⟩ := c_improve W H hB
      rw [if_neg hf, if_neg (by rw [show (12 : Int32) = nI 12 from rfl]; exact nI_ge (by omega) (by omega)), e1, qb_I, nI_1]
      obtain ⟨σ2, e2, q2, r3⟩ := ih (r + 1) m fl1 σ1 (by omega) (by omega) (H.same q1 (by simp)) b1 (fun t ht ht2 => r1 t ht (fun u hu e => h1 u hu (by have := hh t u ht e; omega))) (fun hf1 => by
        obtain ⟨k1, k2⟩ := r2 hf1
        intro t ht
        rw [k1 t ht]
        exact pE_still W hB k2 t ht)
      exact ⟨σ2, e2, q1.trans q2, r3⟩
theorem c_findImproved {j : Nat} (W : PW P) {σ : qS} (H : Rep σ j P) : ∃ σ', f_X4_findImproved j σ = qdo σ' ∧ qsm [15] σ σ' ∧ ∀ t, t < pn P → σ' 15 0 t = pE P t := by
  have hn := W.1
  have hc : ∀ t u, t < pn P → ped P t u = true → u < pn P := fun t u h1 h2 => W.ed_lt h1 h2
  obtain ⟨h, hh, hb⟩ := g_rank hc W.2.2.2.1
  obtain ⟨σ1, e1, e2, e3⟩ := e_copyRow (k1 := 5) (j1 := j) (k2 := 15) (j2 := 0) (L := 12) rfl rfl (by decide) (fun h => by cases h.1) σ
  have q1 : qsm [15] σ σ1 := fun a b ha => e2 a b (fun h => ha (by rw [h.1]; exact List.mem_singleton.mpr rfl))
  have hrow : ∀ t, t < pn P → σ1 15 0 t = pf P 3 t := fun t ht => by rw [e3 t (by omega)]; exact H.2.1 3 t (by decide) ht
  obtain ⟨σ2, a1, a2, a3⟩ := c_findImproved_loop (j := j) W hh hb 12 0 qFU true σ1 (by omega) (by unfold qFU; omega) (H.same q1 (by simp)) (fun t ht => by
    rw [hrow t ht]
    have := psoon_ge P (pE P) t
    rw [← pE_is W t ht, i_le] at this
    exact ⟨(W.2.1 t ht).2.2.2.1.1, this⟩) (fun t ht h0 => by omega) (fun hf => by cases hf)
  refine ⟨σ2, ?_, q1.trans a2, a3⟩
  unfold f_X4_findImproved
  rw [e1, qb_V]
  exact a1
end IM
end
section
/-! the latest starts -/
section LA
variable {P : qP}
theorem plast_le {f : Nat → Int32} {x : Int} : (plast P f).toInt ≤ x ↔ 0 ≤ x ∧ ∀ u, u < pn P → (f u + pf P 0 u).toInt ≤ x := by
  have e : plast P f = fo (fun u a => if (fun _ : Nat => true) u = true then qmax a ((fun u => f u + pf P 0 u) u) else a) (pn P) 0 0 := fo_congr _ _ _ (fun u _ _ a => by rw [if_pos rfl])
  rw [e, fo_max]
  exact ⟨fun h => ⟨h.1, fun u hu => h.2 u (Nat.zero_le _) (by omega) rfl⟩, fun h => ⟨h.1, fun u _ hu _ => h.2 u (by omega)⟩⟩
theorem plast_bd (W : PW P) : 0 ≤ (plast P (pE P)).toInt ∧ (plast P (pE P)).toInt ≤ 138 := by
  have h1 : (plast P (pE P)).toInt ≤ (plast P (pE P)).toInt := Int.le_refl _
  rw [plast_le] at h1
  refine ⟨h1.1, ?_⟩
  rw [plast_le]
  refine ⟨by decide, fun u hu => ?_⟩
  have a1 := pE_small W hu
  have a2 := (W.2.1 u hu).1
  rw [i_add (by omega) (by omega) (by omega) (by omega)]
  omega
def plat (P : qP) (f : Nat → Int32) (t : Nat) : Int32 := fo (fun o a => if ped P o t = true then qmin a (f o) else a) (pn P) 0 (plast P (pE P))
theorem plat_congr {f f' : Nat → Int32} {t : Nat} (h : ∀ o, o < pn P → ped P o t = true → f o = f' o) : plat P f t = plat P f' t := by
  refine fo_congr _ _ _ (fun u _ h2 a => ?_)
  by_cases e : ped P u t = true
  · rw [if_pos e, if_pos e, h u (by omega) e]
  · rw [if_neg e, if_neg e]
theorem plat_ge {f : Nat → Int32} {t : Nat} {x : Int} : x ≤ (plat P f t).toInt ↔ x ≤ (plast P (pE P)).toInt ∧ ∀ o, o < pn P → ped P o t = true → x ≤ (f o).toInt := by
  unfold plat
  rw [fo_min (c := fun o => ped P o t) (v := f)]
  exact ⟨fun h => ⟨h.1, fun u hu e => h.2 u (Nat.zero_le _) (by omega) e⟩, fun h => ⟨h.1, fun u _ hu e => h.2 u (by omega) e⟩⟩
def IsL (P : qP) (L : Nat → Int32) : Prop := ∀ t, t < pn P → L t = plat P L t - pf P 0 t
def pLi (P : qP) : Nat → Nat → Int32
  | 0 => fun _ => 0
  | k + 1 => fun t => plat P (pLi P k) t - pf P 0 t
def pL (P : qP) : Nat → Int32 := pLi P (pn P + 1)
theorem pLi_eq (W : PW P) {h : Nat → Nat} (hh : ∀ t u, t < pn P → ped P t u = true → h u < h t) (hb : ∀ t, t < pn P → h t < pn P) : ∀ k t, t < pn P → pn P - h t < k → ∀ k', pn P - h t < k' → pLi P k t = pLi P k' t := by
  intro k
  induction k with
  | zero => intro t ht h1; omega
  | succ k ih =>
    intro t ht h1 k' h2
    obtain ⟨k', rfl⟩ : ∃ z, k' = z + 1 := ⟨k' - 1, by omega⟩
    show plat P (pLi P k) t - pf P 0 t = plat P (pLi P k') t - pf P 0 t
    rw [plat_congr (fun o ho e => ih o ho (by have := hh o t ho e; have := hb o ho; omega) k' (by have := hh o t ho e; have := hb o ho; omega))]
theorem pL_is (W : PW P) : IsL P (pL P) := by
  have hc : ∀ t u, t < pn P → ped P t u = true → u < pn P := fun t u h1 h2 => W.ed_lt h1 h2
  obtain ⟨h, hh, hb⟩ := g_rank hc W.2.2.2.1
  intro t ht
  show pLi P (pn P + 1) t = plat P (pLi P (pn P + 1)) t - pf P 0 t
  rw [pLi_eq W hh hb (pn P + 1) t ht (by omega) (pn P + 1 + 1) (by omega)]
  rfl
theorem pL_bd (W : PW P) {t : Nat} (ht : t < pn P) : -108 ≤ (pL P t).toInt ∧ (pL P t).toInt ≤ 138 := by
  have hn := W.1
  have hc : ∀ t u, t < pn P → ped P t u = true → u < pn P := fun t u h1 h2 => W.ed_lt h1 h2
  obtain ⟨h, hh, hb⟩ := g_rank hc W.2.2.2.1
  have hL := pL_is W
  have hl := plast_bd W
  have key : ∀ k t, t < pn P → pn P - h t ≤ k → -9 * ((pn P : Int) - h t) ≤ (pL P t).toInt ∧ (pL P t).toInt ≤ 138 := by
    intro k
    induction k with
    | zero => intro t ht h0; have := hb t ht; omega
    | succ k ih =>
      intro t ht h0
      have a1 := (W.2.1 t ht).1
      have a2 := hb t ht
      have a3 : -9 * ((pn P : Int) - h t) + 9 ≤ (plat P (pL P) t).toInt := by
        rw [plat_ge]
        refine ⟨by omega, fun o ho e => ?_⟩
        have b1 := hh o t ho e
        have b2 := hb o ho
        have b3 := ih o ho (by omega)
        omega
      have a4 : (plat P (pL P) t).toInt ≤ (plat P (pL P) t).toInt := Int.le_refl _
      rw [plat_ge] at a4
      rw [hL t ht, i_sub (by omega) (by omega) (by omega) (by omega)]
      omega
  have := key (pn P - h t) t ht (Nat.le_refl _)
  have := hb t ht
  omega
theorem gcnt_full {p : Nat → Bool} {k : Nat} (h : gcnt p k = k) : ∀ i, i < k → p i = true := by
  intro i hi
  cases hp : p i
  · have := gcnt_lt (q := fun _ => true) (fun _ _ => rfl) hp rfl k hi
    have := gcnt_le (fun _ => true) k
    omega
  · rfl
/-- every task has its place in the order, behind those that it needs -/
theorem pord_all (W : PW P) {t : Nat} (ht : t < pn P) : ∃ k, k < pn P ∧ pord P k = t := by
  obtain ⟨h1, h2, -⟩ := pord_spec W (pn P) (Nat.le_refl _)
  exact (h1 t).mp (gcnt_full h2 t ht)
theorem pord_lt (W : PW P) {k : Nat} (hk : k < pn P) : pord P k < pn P := ((pord_spec W (pn P) (Nat.le_refl _)).2.2 k hk).1
theorem pord_inj (W : PW P) {k k' : Nat} (h : k < k') (hk : k' < pn P) : pord P k ≠ pord P k' := by
  intro e
  have h1 := ((pord_spec W (pn P) (Nat.le_refl _)).2.2 k' hk).2
  have h2 := (pready_iff.mp h1).1
  rw [((pord_spec W k' (by omega)).1 _).mpr ⟨k, h, e⟩] at h2
  cases h2
theorem pord_need (W : PW P) {k : Nat} (hk : k < pn P) {u : Nat} (e : ped P (pord P k) u = true) : ∃ k', k' < k ∧ pord P k' = u := by
  have hn := W.1
  have h1 := ((pord_spec W (pn P) (Nat.le_refl _)).2.2 k hk).2
  have h2 := (pready_iff.mp h1).2 u (by have := W.ed_lt (pord_lt W hk) e; omega) e
  exact ((pord_spec W k (by omega)).1 u).mp h2
theorem n_dec (k : Nat) : nI k + (-1 : Int32) = nI k - 1 := by
  rw [Int32.sub_eq_add_neg]
theorem c_late_in {j : Nat} (W : PW P) {rk : Int32 → qS → Option qO} {v2 : Int32} {t : Nat} (ht : t < pn P) {σ : qS} (H : Rep σ j P) : ∀ (d i m : Nat) (a : Int32), i + d = pn P → d < m →
    l_X4_findLatest_29 j rk m v2 (nI t) a (nI i) σ = rk (v2 + (-1 : Int32)) (qu σ 16 0 t (fo (fun o a => if ped P o t = true then qmin a (σ 16 0 o) else a) d i a - pf P 0 t)) := by
  have hn := W.1
  intro d
  induction d with
  | zero =>
    intro i m a hi hm
    obtain ⟨m, rfl⟩ : ∃ m', m = m' + 1 := ⟨m - 1, by omega⟩
    simp only [l_X4_findLatest_29, b_X4_findLatest_29, fo]
    rw [if_pos (by rw [H.1]; exact nI_le (by omega) (by omega)), c_dur H W ht, qb_I, e_put (show t < 12 by omega) (by decide), qb_V]
  | succ d ih =>
    intro i m a hi hm
    obtain ⟨m, rfl⟩ : ∃ m', m = m' + 1 := ⟨m - 1, by omega⟩
    simp only [l_X4_findLatest_29, b_X4_findLatest_29]
    rw [if_neg (by rw [H.1]; exact nI_ge (by omega) (by omega)), c_linked H W (by omega) (by omega), qb_I, fo]
    by_cases e : ped P i t = true
    · rw [e, if_neg (by decide), e_at (show i < 12 by omega) (by decide), qb_I, nI_1, ih (i + 1) m _ (by omega) (by omega), if_pos rfl]
    · rw [show ped P i t = false by simpa using e, if_pos (by rfl), nI_1, ih (i + 1) m _ (by omega) (by omega), if_neg (by decide)]
theorem c_late_out {j : Nat} (W : PW P) : ∀ (i m : Nat) (σ : qS), i ≤ pn P → i < m → Rep σ j P → (∀ k, k < pn P → σ 12 0 k = nI (pord P k)) → σ 11 0 7 = plast P (pE P) → (∀ k, i ≤ k → k < pn P → σ 16 0 (pord P k) = pL P (pord P k)) →
    ∃ σ', l_X4_findLatest_7 j m (nI i - 1) σ = qdo σ' ∧ qsm [16] σ σ' ∧ ∀ t, t < pn P → σ' 16 0 t = pL P t := by
  have hn := W.1
  intro i
  induction i with
  | zero =>
    intro m σ hi hm H h12 h11 h1
    obtain ⟨m, rfl⟩ : ∃ m', m = m' + 1 := ⟨m - 1, by omega⟩
    refine ⟨σ, ?_, qsm.refl _ _, fun t ht => ?_⟩
    · simp only [l_X4_findLatest_7, b_X4_findLatest_7]
      rw [if_pos (by decide)]
    · obtain ⟨k, hk, rfl⟩ := pord_all W ht
      exact h1 k (Nat.zero_le _) hk
  | succ i ih =>
    intro m σ hi hm H h12 h11 h1
    obtain ⟨m, rfl⟩ : ∃ m', m = m' + 1 := ⟨m - 1, by omega⟩
    have hlt := pord_lt W (k := i) (by omega)
    simp only [l_X4_findLatest_7, b_X4_findLatest_7]
    rw [nI_pred, if_neg (n_ge0 (by omega)), e_at (show i < 12 by omega) (by decide), qb_I, h12 i (by omega), show (0 : Int32) = nI 0 from rfl, c_late_in W hlt H (pn P) 0 qFU _ (by omega) (by unfold qFU; omega), n_dec]
    have e1 : fo (fun o a => if ped P o (pord P i) = true then qmin a (σ 16 0 o) else a) (pn P) 0 (σ 11 0 7) - pf P 0 (pord P i) = pL P (pord P i) := by
      rw [pL_is W (pord P i) hlt, h11]
      congr 1
      refine plat_congr (f := σ 16 0) (fun o ho e => ?_)
      obtain ⟨q, hq, rfl⟩ := pord_all W ho
      obtain ⟨k', hk', ek⟩ := pord_need W hq e
      have : k' = i := by
        rcases Nat.lt_trichotomy k' i with h | h | h
        · exact absurd ek (pord_inj W h (by omega))
        · exact h
        · exact absurd ek.symm (pord_inj W h (by omega))
      exact h1 q (by omega) hq
    rw [e1]
    have q1 := qsm_qu σ 16 0 (pord P i) (pL P (pord P i))
    obtain ⟨σ2, a1, a2, a3⟩ := ih m (qu σ 16 0 (pord P i) (pL P (pord P i))) (by omega) (by omega) (H.same q1 (by simp)) (fun k hk => by rw [q1 12 0 (by simp)]; exact h12 k hk) (by rw [q1 11 0 (by simp)]; exact h11) (fun k hk1 hk2 => by
      rw [qu_at]
      by_cases e : pord P k = pord P i
      · rw [if_pos ⟨rfl, rfl, e⟩, e]
      · rw [if_neg (fun h => e h.2.2)]
        refine h1 k ?_ hk2
        rcases Nat.lt_or_ge i k with h | h
        · exact h
        · have : k = i := by omega
          rw [this] at e
          exact absurd rfl e)
    exact ⟨σ2, a1, q1.trans a2, a3⟩
theorem c_findLatest {j : Nat} (W : PW P) {σ : qS} (H : Rep σ j P) (h12 : ∀ k, k < pn P → σ 12 0 k = nI (pord P k)) (h11 : σ 11 0 7 = plast P (pE P)) : ∃ σ', f_X4_findLatest j σ = qdo σ' ∧ qsm [16] σ σ' ∧ ∀ t, t < pn P → σ' 16 0 t = pL P t := by
  have hn := W.1
  unfold f_X4_findLatest
  rw [H.1]
  exact c_late_out W (pn P) qFU σ (Nat.le_refl _) (by unfold qFU; omega) H h12 h11 (fun k h1 h2 => by omega)
end LA
end
section
/-! levelling: the plan itself, in numbers -/
def pdn (P : qP) (t : Nat) : Nat := (pf P 0 t).toInt.toNat
def prn (P : qP) (t : Nat) : Nat := (pf P 1 t).toInt.toNat
def pmn (P : qP) (t : Nat) : Nat := (pf P 2 t).toInt.toNat
def pln (P : qP) (r : Nat) : Nat := (pl P r).toInt.toNat
def gsum (f : Nat → Nat) : Nat → Nat
  | 0 => 0
  | k + 1 => gsum f k + f k
theorem gsum_congr {f g : Nat → Nat} : ∀ k, (∀ i, i < k → f i = g i) → gsum f k = gsum g k
  | 0, _ => rfl
  | k + 1, h => by unfold gsum; rw [gsum_congr k (fun i hi => h i (by omega)), h k (by omega)]
theorem gsum_put {f g : Nat → Nat} {x v : Nat} (hx : g x = f x + v) (ho : ∀ i, i ≠ x → g i = f i) : ∀ k, gsum g k = gsum f k + (if x < k then v else 0)
  | 0 => by simp [gsum]
  | k + 1 => by
    unfold gsum
    rw [gsum_put hx ho k]
    by_cases hk : k = x
    · subst hk
      rw [hx, if_neg (Nat.lt_irrefl _), if_pos (Nat.lt_succ_self _)]
      omega
    · rw [ho k hk]
      by_cases hlt : x < k
      · rw [if_pos hlt, if_pos (show x < k + 1 by omega)]; omega
      · rw [if_neg hlt, if_neg (show ¬ x < k + 1 by omega)]
        omega
theorem gsum_zero {f : Nat → Nat} : ∀ k, (∀ i, i < k → f i = 0) → gsum f k = 0
  | 0, _ => rfl
  | k + 1, h => by unfold gsum; rw [gsum_zero k (fun i hi => h i (by omega)), h k (by omega)]
theorem gsum_le {f : Nat → Nat} {b : Nat} : ∀ k, (∀ i, i < k → f i ≤ b) → gsum f k ≤ b * k
  | 0, _ => Nat.le_refl _
  | k + 1, h => by
    unfold gsum
    have := gsum_le k (fun i hi => h i (by omega))
    have := h k (by omega)
    rw [Nat.mul_succ]
    omega
/-- units used on a day -/
def pU (P : qP) (x : Int32) (lev : Nat → Nat) (r d : Nat) : Nat := gsum (fun t => if qbit x t = true ∧ prn P t = r ∧ lev t ≤ d ∧ d < lev t + pdn P t then pmn P t else 0) (pn P)
def pfd (P : qP) (x : Int32) (lev : Nat → Nat) (t : Nat) : Nat → Nat → Bool
  | 0, _ => true
  | k + 1, d => decide (pU P x lev (prn P t) d + pmn P t ≤ pln P (prn P t)) && pfd P x lev t k (d + 1)
def pfit (P : qP) (x : Int32) (lev : Nat → Nat) (t s : Nat) : Bool := pfd P x lev t (pdn P t) s
def plow (P : qP) (x : Int32) (lev : Nat → Nat) (t : Nat) : Nat → Nat → Nat
  | 0, s => s
  | k + 1, s => if pfit P x lev t s = true then s else plow P x lev t k (s + 1)
def pug (P : qP) (x : Int32) : Nat → Nat → Nat → Nat
  | 0, _, a => a
  | d + 1, i, a => pug P x d (i + 1) (if pready P x i = true then (if a = pn P then i else if pL P i < pL P a then i else a) else a)
def pur (P : qP) (x : Int32) : Nat := pug P x (pn P) 0 (pn P)
def ps0 (P : qP) (lev : Nat → Nat) (t : Nat) : Nat := (psoon P (fun u => nI (lev u)) t).toInt.toNat
def pst (P : qP) : Nat → Int32 × (Nat → Nat)
  | 0 => (0, fun _ => 0)
  | i + 1 => ((pst P i).1 ||| ((1 : Int32) <<< (nI (pur P (pst P i).1) &&& 31)), fun u => if u = pur P (pst P i).1 then plow P (pst P i).1 (pst P i).2 (pur P (pst P i).1) 200 (ps0 P (pst P i).2 (pur P (pst P i).1)) else (pst P i).2 u)
section LV
variable {P : qP}
theorem PW.dn (W : PW P) {t : Nat} (ht : t < pn P) : pf P 0 t = nI (pdn P t) ∧ 1 ≤ pdn P t ∧ pdn P t ≤ 9 := by
  have := (W.2.1 t ht).1
  unfold pdn
  exact ⟨i_nI (by omega) (by omega), by omega, by omega⟩
theorem PW.rn (W : PW P) {t : Nat} (ht : t < pn P) : pf P 1 t = nI (prn P t) ∧ prn P t < 3 := by
  have := (W.2.1 t ht).2.1
  unfold prn
  exact ⟨i_nI (by omega) (by omega), by omega⟩
theorem PW.mn (W : PW P) {t : Nat} (ht : t < pn P) : pf P 2 t = nI (pmn P t) ∧ 1 ≤ pmn P t ∧ pmn P t ≤ 5 := by
  have := (W.2.1 t ht).2.2.1
  unfold pmn
  exact ⟨i_nI (by omega) (by omega), by omega, by omega⟩
theorem PW.ln (W : PW P) {r : Nat} (hr : r < 3) : pl P r = nI (pln P r) ∧ 5 ≤ pln P r ∧ pln P r ≤ 20 := by
  have := W.2.2.1 r hr
  unfold pln
  exact ⟨i_nI (by omega) (by omega), by omega, by omega⟩
theorem pU_le (W : PW P) {x : Int32} {lev : Nat → Nat} {r d : Nat} : pU P x lev r d ≤ 60 := by
  have hn := W.1
  have h1 := gsum_le (f := fun t => if qbit x t = true ∧ prn P t = r ∧ lev t ≤ d ∧ d < lev t + pdn P t then pmn P t else 0) (b := 5) (pn P) (fun i hi => by
    split
    · exact (W.mn hi).2.2
    · omega)
  unfold pU
  omega
theorem pfd_iff {x : Int32} {lev : Nat → Nat} {t : Nat} : ∀ {k s : Nat}, pfd P x lev t k s = true ↔ ∀ d, s ≤ d → d < s + k → pU P x lev (prn P t) d + pmn P t ≤ pln P (prn P t)
  | 0, s => ⟨fun _ d h1 h2 => by omega, fun _ => rfl⟩
  | k + 1, s => by
    unfold pfd
    rw [Bool.and_eq_true, decide_eq_true_iff, pfd_iff]
    constructor
    · rintro ⟨h1, h2⟩ d hd1 hd2
      by_cases hds : d = s
      · subst hds; exact h1
      · exact h2 d (by omega) (by omega)
    · intro h
      exact ⟨h s (Nat.le_refl _) (by omega), fun d h1 h2 => h d (by omega) (by omega)⟩
theorem plow_spec {x : Int32} {lev : Nat → Nat} {t : Nat} : ∀ (k s D : Nat), s ≤ D → D < s + k → pfit P x lev t D = true → s ≤ plow P x lev t k s ∧ plow P x lev t k s ≤ D ∧ pfit P x lev t (plow P x lev t k s) = true
  | 0, s, D, h1, h2, _ => by omega
  | k + 1, s, D, h1, h2, h3 => by
    unfold plow
    by_cases h : pfit P x lev t s = true
    · rw [if_pos h]; exact ⟨Nat.le_refl _, h1, h⟩
    · rw [if_neg h]
      have hsD : s ≠ D := fun e => h (e ▸ h3)
      obtain ⟨a1, a2, a3⟩ := plow_spec k (s + 1) D (by omega) (by omega) h3
      exact ⟨by omega, a2, a3⟩
/-- the most urgent: ready, when one is -/
theorem pug_spec {x : Int32} : ∀ (d i a : Nat), i + d = pn P → a ≤ pn P → (a < pn P → pready P x a = true) → (pug P x d i a ≤ pn P) ∧ (pug P x d i a < pn P → pready P x (pug P x d i a) = true) ∧ (a < pn P ∨ (∃ r, i ≤ r ∧ r < pn P ∧ pready P x r = true) → pug P x d i a < pn P)
  | 0, i, a, hi, ha, hr => by
    unfold pug
    exact ⟨ha, hr, fun h => by rcases h with h | ⟨r, h1, h2, _⟩ <;> omega⟩
  | d + 1, i, a, hi, ha, hr => by
    unfold pug
    by_cases h : pready P x i = true
    · rw [if_pos h]
      have key : ∀ b, b = i ∨ b = a → b < pn P → pready P x b = true := fun b hb hb2 => by
        rcases hb with rfl | rfl
        · exact h
        · exact hr hb2
      by_cases h1 : a = pn P
      · rw [if_pos h1]
        obtain ⟨c1, c2, c3⟩ := pug_spec (x := x) d (i + 1) i (by omega) (by omega) (fun _ => h)
        exact ⟨c1, c2, fun _ => c3 (Or.inl (by omega))⟩
      · rw [if_neg h1]
        by_cases h2 : pL P i < pL P a
        · rw [if_pos h2]
          obtain ⟨c1, c2, c3⟩ := pug_spec (x := x) d (i + 1) i (by omega) (by omega) (fun _ => h)
          exact ⟨c1, c2, fun _ => c3 (Or.inl (by omega))⟩
        · rw [if_neg h2]
          obtain ⟨c1, c2, c3⟩ := pug_spec (x := x) d (i + 1) a (by omega) ha hr
          exact ⟨c1, c2, fun _ => c3 (Or.inl (by omega))⟩
    · rw [if_neg h]
      obtain ⟨c1, c2, c3⟩ := pug_spec (x := x) d (i + 1) a (by omega) ha hr
      refine ⟨c1, c2, fun hh => c3 ?_⟩
      rcases hh with hh | ⟨r, h1, h2, h3⟩
      · exact Or.inl hh
      · refine Or.inr ⟨r, ?_, h2, h3⟩
        rcases Nat.lt_or_ge i r with h4 | h4
        · exact h4
        · have : r = i := by omega
          rw [this] at h3
          exact absurd h3 h
theorem pur_spec (W : PW P) {x : Int32} {t : Nat} (ht : t < pn P) (hx : qbit x t = false) : pur P x < pn P ∧ pready P x (pur P x) = true := by
  obtain ⟨r, hr, hrr⟩ := g_ready W ht hx
  obtain ⟨c1, c2, c3⟩ := pug_spec (P := P) (x := x) (pn P) 0 (pn P) (by omega) (Nat.le_refl _) (fun h => by omega)
  have := c3 (Or.inr ⟨r, Nat.zero_le _, hr, hrr⟩)
  exact ⟨this, c2 this⟩
theorem ps0_spec (W : PW P) {lev : Nat → Nat} {t B : Nat} (ht : t < pn P) (hB : B ≤ 1000) (h30 : 30 ≤ B) (hl : ∀ u, u < pn P → ped P t u = true → lev u + pdn P u ≤ B) : psoon P (fun u => nI (lev u)) t = nI (ps0 P lev t) ∧ ps0 P lev t ≤ B := by
  have h1 := psoon_ge P (fun u => nI (lev u)) t
  rw [i_le] at h1
  have h2 := (W.2.1 t ht).2.2.2.1
  have h3 : (psoon P (fun u => nI (lev u)) t).toInt ≤ (B : Int) := by
    rw [psoon_le]
    refine ⟨by omega, fun u hu e => ?_⟩
    have h4 := hl u hu e
    rw [(W.dn hu).1, nI_add, nI_toInt (by omega)]
    omega
  unfold ps0
  exact ⟨i_nI (by omega) (by omega), by omega⟩
theorem pU_none {x : Int32} {lev : Nat → Nat} {r d B : Nat} (h : ∀ u, qbit x u = true → lev u + pdn P u ≤ B) (hd : B ≤ d) : pU P x lev r d = 0 := by
  refine gsum_zero _ (fun i _ => if_neg (fun hh => ?_))
  have := h i hh.1
  omega
/-- a task finds its day by B, when all that is placed ends by B -/
theorem plow_ok (W : PW P) {x : Int32} {lev : Nat → Nat} {t B : Nat} (ht : t < pn P) (hB : B ≤ 130) (h30 : 30 ≤ B) (h : ∀ u, qbit x u = true → lev u + pdn P u ≤ B) (hr : ∀ u, ped P t u = true → qbit x u = true) :
    psoon P (fun u => nI (lev u)) t = nI (ps0 P lev t) ∧ ps0 P lev t ≤ plow P x lev t 200 (ps0 P lev t) ∧ plow P x lev t 200 (ps0 P lev t) ≤ B ∧ pfit P x lev t (plow P x lev t 200 (ps0 P lev t)) = true := by
  obtain ⟨a1, a2⟩ := ps0_spec W (lev := lev) ht (by omega) h30 (fun u hu e => h u (hr u e))
  have hf : pfit P x lev t B = true := by
    refine pfd_iff.mpr (fun d h1 h2 => ?_)
    rw [pU_none h h1]
    have b1 := (W.mn ht).2.2
    have b2 := (W.ln (W.rn ht).2).2.1
    omega
  obtain ⟨b1, b2, b3⟩ := plow_spec (P := P) (x := x) (lev := lev) (t := t) 200 (ps0 P lev t) B a2 (by omega) hf
  exact ⟨a1, b1, b2, b3⟩
/-- the stages: i tasks are placed, they end by 30 + 9 i -/
theorem pst_spec (W : PW P) : ∀ i, i ≤ pn P → gcnt (fun u => qbit (pst P i).1 u) (pn P) = i ∧ (∀ u, qbit (pst P i).1 u = true → u < pn P ∧ (pst P i).2 u + pdn P u ≤ 30 + 9 * i ∧ ∀ v, ped P u v = true → qbit (pst P i).1 v = true) := by
  have hn := W.1
  intro i
  induction i with
  | zero =>
    intro _
    exact ⟨gcnt_none (fun u => qbit_0 u) _, fun u hu => by rw [pst, qbit_0] at hu; cases hu⟩
  | succ i ih =>
    intro hi
    obtain ⟨h1, h2⟩ := ih (by omega)
    obtain ⟨t, ht, hx⟩ := gcnt_some (p := fun u => qbit (pst P i).1 u) (k := pn P) (by omega)
    obtain ⟨u1, u2⟩ := pur_spec W ht hx
    obtain ⟨u3, u4⟩ := pready_iff.mp u2
    have hbit : ∀ u, qbit (pst P (i + 1)).1 u = (qbit (pst P i).1 u || decide (pur P (pst P i).1 = u)) := fun u => qbit_put (by omega)
    refine ⟨?_, fun u hu => ?_⟩
    · rw [gcnt_put (p := fun u => qbit (pst P i).1 u) (x := pur P (pst P i).1) u3 (by show qbit (pst P (i + 1)).1 _ = true; rw [hbit]; simp) (fun u hu => by show qbit (pst P (i + 1)).1 u = qbit (pst P i).1 u; rw [hbit]; simp [Ne.symm hu]), h1, if_pos u1]
    · obtain ⟨p1, p2, p3, p4⟩ := plow_ok W (x := (pst P i).1) (lev := (pst P i).2) (B := 30 + 9 * i) u1 (by omega) (by omega) (fun u hu => (h2 u hu).2.1) (fun v e => u4 v (by have := W.ed_lt u1 e; omega) e)
      have hl : ∀ u, (pst P (i + 1)).2 u = if u = pur P (pst P i).1 then plow P (pst P i).1 (pst P i).2 (pur P (pst P i).1) 200 (ps0 P (pst P i).2 (pur P (pst P i).1)) else (pst P i).2 u := fun u => rfl
      rw [hbit, Bool.or_eq_true, decide_eq_true_iff] at hu
      rw [hl]
      by_cases e : u = pur P (pst P i).1
      · rw [if_pos e]
        subst e
        refine ⟨u1, by have := (W.dn u1).2.2; omega, fun v e => ?_⟩
        rw [hbit, u4 v (by have := W.ed_lt u1 e; omega) e]
        rfl
      · rw [if_neg e]
        rcases hu with hu | hu
        · obtain ⟨c1, c2, c3⟩ := h2 u hu
          refine ⟨c1, by omega, fun v e => ?_⟩
          rw [hbit, c3 v e]
          rfl
        · exact absurd hu.symm e
/-- a stage: who is placed, where -/
theorem pst_step (W : PW P) {i : Nat} (hi : i < pn P) : pur P (pst P i).1 < pn P ∧ pready P (pst P i).1 (pur P (pst P i).1) = true ∧ psoon P (fun u => nI ((pst P i).2 u)) (pur P (pst P i).1) = nI (ps0 P (pst P i).2 (pur P (pst P i).1)) ∧
    ps0 P (pst P i).2 (pur P (pst P i).1) ≤ plow P (pst P i).1 (pst P i).2 (pur P (pst P i).1) 200 (ps0 P (pst P i).2 (pur P (pst P i).1)) ∧ plow P (pst P i).1 (pst P i).2 (pur P (pst P i).1) 200 (ps0 P (pst P i).2 (pur P (pst P i).1)) + pdn P (pur P (pst P i).1) ≤ 138 ∧
    pfit P (pst P i).1 (pst P i).2 (pur P (pst P i).1) (plow P (pst P i).1 (pst P i).2 (pur P (pst P i).1) 200 (ps0 P (pst P i).2 (pur P (pst P i).1))) = true := by
  have hn := W.1
  obtain ⟨h1, h2⟩ := pst_spec W i (by omega)
  obtain ⟨t, ht, hx⟩ := gcnt_some (p := fun u => qbit (pst P i).1 u) (k := pn P) (by omega)
  obtain ⟨u1, u2⟩ := pur_spec W ht hx
  obtain ⟨u3, u4⟩ := pready_iff.mp u2
  obtain ⟨p1, p2, p3, p4⟩ := plow_ok W (x := (pst P i).1) (lev := (pst P i).2) (B := 30 + 9 * i) u1 (by omega) (by omega) (fun u hu => (h2 u hu).2.1) (fun v e => u4 v (by have := W.ed_lt u1 e; omega) e)
  exact ⟨u1, u2, p1, p2, by have := (W.dn u1).2.2; omega, p4⟩
/-- placing one more -/
theorem pU_put {x : Int32} {lev : Nat → Nat} {t s : Nat} (ht : t < pn P) (h32 : t < 32) (hx : qbit x t = false) (r d : Nat) :
    pU P (x ||| ((1 : Int32) <<< (nI t &&& 31))) (fun u => if u = t then s else lev u) r d = pU P x lev r d + (if prn P t = r ∧ s ≤ d ∧ d < s + pdn P t then pmn P t else 0) := by
  unfold pU
  rw [gsum_put (f := fun t => if qbit x t = true ∧ prn P t = r ∧ lev t ≤ d ∧ d < lev t + pdn P t then pmn P t else 0) (x := t) (v := if prn P t = r ∧ s ≤ d ∧ d < s + pdn P t then pmn P t else 0) ?_ ?_ (pn P), if_pos ht]
  · dsimp only
    simp [qbit_put h32, hx]
  · intro i hi
    dsimp only
    simp [qbit_put h32, hi, Ne.symm hi]
end LV
end
section
/-! levelling in the class -/
def qno (P : qP) (a : Nat) : Int32 := if a = pn P then -1 else nI a
theorem n_ne (a : Nat) (h : a < 2 ^ 31) : ¬ nI a = (-1 : Int32) := by
  intro e
  have := congrArg Int32.toInt e
  rw [nI_toInt h] at this
  have h2 : (-1 : Int32).toInt = -1 := by decide
  omega
theorem qno_m (P : qP) : qno P (pn P) = -1 := if_pos rfl
theorem qno_n {P : qP} {a : Nat} (h : a ≠ pn P) : qno P a = nI a := if_neg h
theorem n_mul (a b : Nat) : nI a * nI b = nI (a * b) := by simp [nI, Int32.ofNat_mul]
theorem n_sub {a b : Nat} (h : b ≤ a) : nI a - nI b = nI (a - b) := by
  have e : nI a = nI (a - b) + nI b := by rw [nI_add]; congr 1; omega
  rw [e, Int32.add_sub_cancel]
def pend (P : qP) : Nat → Nat
  | 0 => 0
  | i + 1 => max (pend P i) (plow P (pst P i).1 (pst P i).2 (pur P (pst P i).1) 200 (ps0 P (pst P i).2 (pur P (pst P i).1)) + pdn P (pur P (pst P i).1))
theorem pend_s (P : qP) (i : Nat) : pend P (i + 1) = max (pend P i) (plow P (pst P i).1 (pst P i).2 (pur P (pst P i).1) 200 (ps0 P (pst P i).2 (pur P (pst P i).1)) + pdn P (pur P (pst P i).1)) := rfl
theorem pst0 (P : qP) (u : Nat) : qbit (pst P 0).1 u = false := qbit_0 u
section LC2
variable {P : qP} {j : Nat}
theorem c_urgent_loop (W : PW P) {x : Int32} {σ : qS} (H : Rep σ j P) (h16 : ∀ t, t < pn P → σ 16 0 t = pL P t) : ∀ (d i m a : Nat), i + d = pn P → d < m → a ≤ pn P → l_X4_mostUrgent_5 j m x (qno P a) (nI i) σ = qan (qno P (pug P x d i a)) σ := by
  have hn := W.1
  intro d
  induction d with
  | zero =>
    intro i m a hi hm ha
    obtain ⟨m, rfl⟩ : ∃ m', m = m' + 1 := ⟨m - 1, by omega⟩
    simp only [l_X4_mostUrgent_5, b_X4_mostUrgent_5, pug]
    rw [if_pos (by rw [H.1]; exact nI_le (by omega) (by omega))]
  | succ d ih =>
    intro i m a hi hm ha
    obtain ⟨m, rfl⟩ : ∃ m', m = m' + 1 := ⟨m - 1, by omega⟩
    have at16 : ∀ t, t < pn P → f_X7_at 16 0 (nI t) σ = qan (pL P t) σ := fun t ht => by rw [e_at (show t < 12 by omega) (by decide), h16 t ht]
    simp only [l_X4_mostUrgent_5, b_X4_mostUrgent_5, pug]
    rw [if_neg (by rw [H.1]; exact nI_ge (by omega) (by omega)), c_ready H W (by omega), qb_I, nI_1]
    have hii : nI i = qno P i := (qno_n (by omega)).symm
    by_cases hr : pready P x i = true
    · rw [hr, if_neg (by decide), if_pos rfl]
      by_cases ha0 : a = pn P
      · subst ha0
        rw [if_pos (qno_m P), if_pos rfl, hii, ih (i + 1) m i (by omega) (by omega) (by omega)]
      · rw [qno_n ha0, if_neg (n_ne a (by omega)), at16 i (by omega), qb_I, at16 a (by omega), qb_I, if_neg ha0]
        by_cases hl : pL P i < pL P a
        · rw [if_neg (Int32.not_le.mpr hl), if_pos hl, hii, ih (i + 1) m i (by omega) (by omega) (by omega)]
        · rw [if_pos (Int32.not_lt.mp hl), if_neg hl, ← qno_n (P := P) ha0, ih (i + 1) m a (by omega) (by omega) ha]
    · rw [show pready P x i = false by simpa using hr, if_pos (by rfl), if_neg (by decide), ih (i + 1) m a (by omega) (by omega) ha]
theorem c_urgent (W : PW P) {x : Int32} {σ : qS} (H : Rep σ j P) (h16 : ∀ t, t < pn P → σ 16 0 t = pL P t) (hu : pur P x < pn P) : f_X4_mostUrgent j x σ = qan (nI (pur P x)) σ := by
  have hn := W.1
  have := c_urgent_loop W (x := x) H h16 (pn P) 0 qFU (pn P) (by omega) (by unfold qFU; omega) (Nat.le_refl _)
  rw [qno_m, show pug P x (pn P) 0 (pn P) = pur P x from rfl, qno_n (by omega)] at this
  exact this
/-- what levelling has so far -/
def LvC (P : qP) (σ : qS) (x : Int32) (lev : Nat → Nat) : Prop := (∀ t, t < pn P → qbit x t = true → σ 17 0 t = nI (lev t)) ∧ ∀ r d, r < 3 → d < 138 → σ 18 0 (138 * r + d) = nI (pU P x lev r d)
theorem c_fits_loop (W : PW P) {x : Int32} {lev : Nat → Nat} {σ : qS} (HL : LvC P σ x lev) {t : Nat} (ht : t < pn P) : ∀ (k d m : Nat), d + k ≤ 138 → k < m →
    l_X4_fits_53 j m (nI (138 * prn P t)) (nI (pln P (prn P t) - pmn P t)) (nI (d + k)) (nI d) σ = qan (qb1 (pfd P x lev t k d)) σ := by
  have hr := (W.rn ht).2
  have h5 := (W.mn ht).2.2
  have h6 := (W.ln hr).2
  intro k
  induction k with
  | zero =>
    intro d m hd hm
    obtain ⟨m, rfl⟩ : ∃ m', m = m' + 1 := ⟨m - 1, by omega⟩
    simp only [l_X4_fits_53, b_X4_fits_53, pfd]
    rw [Nat.add_zero, if_pos (Int32.le_refl _)]
    rfl
  | succ k ih =>
    intro d m hd hm
    obtain ⟨m, rfl⟩ : ∃ m', m = m' + 1 := ⟨m - 1, by omega⟩
    have hu := pU_le W (x := x) (lev := lev) (r := prn P t) (d := d)
    simp only [l_X4_fits_53, b_X4_fits_53, pfd]
    rw [if_neg (nI_ge (by omega) (by omega)), nI_add, e_at (show 138 * prn P t + d < 414 by omega) (by decide), qb_I, HL.2 _ d hr (by omega)]
    by_cases hc : pU P x lev (prn P t) d + pmn P t ≤ pln P (prn P t)
    · rw [if_pos (nI_le (by omega) (by omega)), decide_eq_true hc, Bool.true_and, nI_1]
      have := ih (d + 1) m (by omega) (by omega)
      rw [show d + 1 + k = d + (k + 1) by omega] at this
      exact this
    · rw [if_neg (nI_ge (by omega) (by omega)), decide_eq_false hc]
      rfl
theorem c_fits (W : PW P) {x : Int32} {lev : Nat → Nat} {σ : qS} (H : Rep σ j P) (HL : LvC P σ x lev) {t s : Nat} (ht : t < pn P) (hs : s + pdn P t ≤ 138) : f_X4_fits j (nI t) (nI s) σ = qan (qb1 (pfit P x lev t s)) σ := by
  have hr := (W.rn ht).2
  have h5 := (W.mn ht).2.2
  have h6 := (W.ln hr).2
  have h7 := (W.dn ht).2
  unfold f_X4_fits
  rw [c_res H W ht, qb_I, (W.rn ht).1, c_lim H hr, qb_I, c_dem H W ht, qb_I, c_dur H W ht, qb_I, (W.ln hr).1, (W.mn ht).1, (W.dn ht).1, nI_add, n_sub (by omega), show (138 : Int32) = nI 138 from rfl, n_mul, Nat.mul_comm (prn P t) 138]
  exact c_fits_loop W HL ht (pdn P t) s qFU hs (by unfold qFU; omega)
theorem c_low_loop (W : PW P) {x : Int32} {lev : Nat → Nat} {σ : qS} (H : Rep σ j P) (HL : LvC P σ x lev) {t D : Nat} (ht : t < pn P) (hD : D + pdn P t ≤ 138) (hf : pfit P x lev t D = true) : ∀ (k s m : Nat), s ≤ D → D < s + k → k < m →
    l_X4_lowestFit_10 j m (nI t) (nI s) σ = qan (nI (plow P x lev t k s)) σ := by
  have h7 := (W.dn ht).2
  intro k
  induction k with
  | zero => intro s m h1 h2; omega
  | succ k ih =>
    intro s m h1 h2 hm
    obtain ⟨m, rfl⟩ : ∃ m', m = m' + 1 := ⟨m - 1, by omega⟩
    simp only [l_X4_lowestFit_10, b_X4_lowestFit_10, plow]
    rw [if_neg (by rw [show (138 : Int32) = nI 138 from rfl]; exact nI_ge (by omega) (by omega)), c_fits W H HL ht (by omega), qb_I]
    by_cases h : pfit P x lev t s = true
    · rw [h, if_neg (by decide), if_pos rfl]
    · have hsD : s ≠ D := fun e => h (e ▸ hf)
      rw [show pfit P x lev t s = false by simpa using h, if_pos (by rfl), if_neg (by decide), nI_1, ih (s + 1) m (by omega) (by omega) (by omega)]
theorem c_place_loop (W : PW P) {t : Nat} (ht : t < pn P) : ∀ (k d m : Nat) (σ : qS), d + k ≤ 138 → k < m → Rep σ j P →
    ∃ σ', l_X4_place_38 j m (nI t) (nI (138 * prn P t)) (nI (d + k)) (nI d) σ = qdo σ' ∧ qsm [18, 11] σ σ' ∧ (∀ y, σ' 18 0 y = if 138 * prn P t + d ≤ y ∧ y < 138 * prn P t + d + k then σ 18 0 y + nI (pmn P t) else σ 18 0 y) ∧ σ' 11 0 8 = qmax (σ 11 0 8) (nI (d + k)) ∧ (∀ y, ¬ y = 8 → σ' 11 0 y = σ 11 0 y) := by
  have hr := (W.rn ht).2
  intro k
  induction k with
  | zero =>
    intro d m σ hd hm H
    obtain ⟨m, rfl⟩ : ∃ m', m = m' + 1 := ⟨m - 1, by omega⟩
    simp only [l_X4_place_38, b_X4_place_38]
    simp only [Nat.add_zero]
    rw [if_pos (Int32.le_refl _), qlet_eq]
    refine ⟨_, rfl, (qsm_qu σ 11 0 8 _).mono (by simp), fun y => ?_, by rw [qu_at, if_pos ⟨rfl, rfl, rfl⟩], fun y hy => by rw [qu_at, if_neg (fun h => hy h.2.2)]⟩
    rw [if_neg (by omega), qu_at, if_neg (by simp)]
  | succ k ih =>
    intro d m σ hd hm H
    obtain ⟨m, rfl⟩ : ∃ m', m = m' + 1 := ⟨m - 1, by omega⟩
    simp only [l_X4_place_38, b_X4_place_38]
    have hy : 138 * prn P t + d < 414 := by omega
    rw [if_neg (nI_ge (by omega) (by omega)), nI_add, e_at (show 138 * prn P t + d < qlen 18 from hy) (by decide), qb_I, c_dem H W ht, qb_I, (W.mn ht).1, e_put (show 138 * prn P t + d < qlen 18 from hy) (by decide), qb_V, nI_1]
    have q1 := qsm_qu σ 18 0 (138 * prn P t + d) (σ 18 0 (138 * prn P t + d) + nI (pmn P t))
    obtain ⟨σ2, e2, q2, r1, r2, r3⟩ := ih (d + 1) m (qu σ 18 0 (138 * prn P t + d) (σ 18 0 (138 * prn P t + d) + nI (pmn P t))) (by omega) (by omega) (H.same q1 (by simp))
    rw [show d + 1 + k = d + (k + 1) by omega] at e2 r2
    refine ⟨σ2, e2, (q1.mono (by simp)).trans q2, fun y => ?_, by rw [r2, q1 11 0 (by simp)], fun y hy => by rw [r3 y hy, q1 11 0 (by simp)]⟩
    rw [r1 y, qu_at]
    by_cases e : y = 138 * prn P t + d
    · rw [if_neg (by omega), if_pos ⟨rfl, rfl, e⟩, if_pos (by omega), e]
    · rw [if_neg (show ¬ (18 = 18 ∧ 0 = 0 ∧ y = 138 * prn P t + d) from fun h => e h.2.2)]
      by_cases h : 138 * prn P t + (d + 1) ≤ y ∧ y < 138 * prn P t + (d + 1) + k
      · rw [if_pos h, if_pos (by omega)]
      · rw [if_neg h, if_neg (by omega)]
theorem c_place (W : PW P) {x : Int32} {lev : Nat → Nat} {σ : qS} (H : Rep σ j P) (HL : LvC P σ x lev) {t s : Nat} (ht : t < pn P) (hx : qbit x t = false) (hs : s + pdn P t ≤ 138) :
    ∃ σ', f_X4_place j (nI t) (nI s) σ = qdo σ' ∧ qsm [17, 18, 11] σ σ' ∧ LvC P σ' (x ||| ((1 : Int32) <<< (nI t &&& 31))) (fun u => if u = t then s else lev u) ∧ σ' 11 0 8 = qmax (σ 11 0 8) (nI (s + pdn P t)) ∧ (∀ y, ¬ y = 8 → σ' 11 0 y = σ 11 0 y) := by
  have hn := W.1
  have hr := (W.rn ht).2
  have q1 := qsm_qu σ 17 0 t (nI s)
  have H1 := H.same q1 (by simp)
  obtain ⟨σ2, e2, q2, r1, r2, r3⟩ := c_place_loop (j := j) W ht (pdn P t) s qFU (qu σ 17 0 t (nI s)) hs (by have := (W.dn ht).2; unfold qFU; omega) H1
  refine ⟨σ2, ?_, (q1.mono (by simp)).trans (q2.mono (by simp)), ⟨fun u hu hb => ?_, fun r d hr' hd => ?_⟩, by rw [r2, q1 11 0 (by simp)], fun y hy => by rw [r3 y hy, q1 11 0 (by simp)]⟩
  · unfold f_X4_place
    rw [e_put (show t < 12 by omega) (by decide), qb_V, c_res H1 W ht, qb_I, c_dur H1 W ht, qb_I, (W.rn ht).1, (W.dn ht).1, nI_add, show (138 : Int32) = nI 138 from rfl, n_mul, Nat.mul_comm (prn P t) 138]
    exact e2
  · show _ = nI (if u = t then s else lev u)
    rw [q2 17 0 (by simp), qu_at]
    by_cases e : u = t
    · rw [if_pos ⟨rfl, rfl, e⟩, if_pos e]
    · rw [if_neg (fun h => e h.2.2), if_neg e]
      rw [qbit_put (by omega)] at hb
      simp only [Bool.or_eq_true, decide_eq_true_eq] at hb
      exact HL.1 u hu (hb.elim (fun h => h) (fun h => absurd h.symm e))
  · rw [r1, q1 18 0 (by simp), HL.2 r d hr' hd, pU_put ht (by omega) hx]
    by_cases h : prn P t = r ∧ s ≤ d ∧ d < s + pdn P t
    · rw [if_pos h, if_pos (by obtain ⟨h1, h2, h3⟩ := h; subst h1; omega), nI_add]
    · rw [if_neg h, Nat.add_zero, if_neg (fun h2 => h ?_)]
      rcases Nat.lt_trichotomy (prn P t) r with h3 | h3 | h3
      · have : 138 * (prn P t + 1) ≤ 138 * r := Nat.mul_le_mul_left _ h3
        omega
      · subst h3; omega
      · have : 138 * (r + 1) ≤ 138 * prn P t := Nat.mul_le_mul_left _ h3
        omega
theorem LvC.same {ks : List Nat} {σ σ' : qS} {x : Int32} {lev : Nat → Nat} (HL : LvC P σ x lev) (h : qsm ks σ σ') (h17 : 17 ∉ ks) (h18 : 18 ∉ ks) : LvC P σ' x lev :=
  ⟨fun t ht hb => by rw [h 17 0 h17]; exact HL.1 t ht hb, fun r d hr hd => by rw [h 18 0 h18]; exact HL.2 r d hr hd⟩
theorem c_lev_loop (W : PW P) : ∀ (d i m : Nat) (σ : qS), i + d = pn P → d < m → Rep σ j P → (∀ t, t < pn P → σ 16 0 t = pL P t) → LvC P σ (pst P i).1 (pst P i).2 → σ 11 0 8 = nI (pend P i) → pend P i ≤ 138 →
    ∃ σ', l_X4_findLevelled_17 j m (pst P i).1 (nI i) σ = qdo σ' ∧ qsm [17, 18, 11] σ σ' ∧ LvC P σ' (pst P (pn P)).1 (pst P (pn P)).2 ∧ σ' 11 0 8 = nI (pend P (pn P)) ∧ (∀ y, ¬ y = 8 → σ' 11 0 y = σ 11 0 y) ∧ pend P (pn P) ≤ 138 := by
  have hn := W.1
  intro d
  induction d with
  | zero =>
    intro i m σ hi hm H h16 HL he hb
    obtain ⟨m, rfl⟩ : ∃ m', m = m' + 1 := ⟨m - 1, by omega⟩
    have hi : i = pn P := by omega
    subst hi
    refine ⟨σ, ?_, qsm.refl _ _, HL, he, fun _ _ => rfl, hb⟩
    simp only [l_X4_findLevelled_17, b_X4_findLevelled_17]
    rw [if_pos (by rw [H.1]; exact Int32.le_refl _)]
  | succ d ih =>
    intro i m σ hi hm H h16 HL he hb
    obtain ⟨m, rfl⟩ : ∃ m', m = m' + 1 := ⟨m - 1, by omega⟩
    obtain ⟨s1, s2, s3, s4, s5, s6⟩ := pst_step W (i := i) (by omega)
    have hps : psoon P (σ 17 0) (pur P (pst P i).1) = nI (ps0 P (pst P i).2 (pur P (pst P i).1)) := by
      rw [← s3]
      exact psoon_congr (fun u hu e => HL.1 u hu ((pready_iff.mp s2).2 u (by omega) e))
    have hlow : f_X4_lowestFit j (nI (pur P (pst P i).1)) σ = qan (nI (plow P (pst P i).1 (pst P i).2 (pur P (pst P i).1) 200 (ps0 P (pst P i).2 (pur P (pst P i).1)))) σ := by
      unfold f_X4_lowestFit
      rw [c_soonest W H rfl s1, qb_I, hps]
      exact c_low_loop W H HL s1 s5 s6 200 _ qFU s4 (by omega) (by unfold qFU; omega)
    simp only [l_X4_findLevelled_17, b_X4_findLevelled_17]
    rw [if_neg (by rw [H.1]; exact nI_ge (by omega) (by omega)), c_urgent W H h16 s1, qb_I, hlow, qb_I]
    obtain ⟨σ1, e1, q1, L1, r1, r2⟩ := c_place W H HL s1 (pready_iff.mp s2).1 s5
    rw [e1, qb_V, nI_1]
    have hd := (W.dn s1).2
    obtain ⟨σ2, e2, q2, L2, k1, k2, k3⟩ := ih (i + 1) m σ1 (by omega) (by omega) (H.same q1 (by simp)) (fun t ht => by rw [q1 16 0 (by simp)]; exact h16 t ht) L1 (by
      rw [r1, he]
      apply i_eq
      rw [pend_s, i_max, nI_toInt (by omega), nI_toInt (by omega), nI_toInt (by omega)]
      omega) (by rw [pend_s]; omega)
    exact ⟨σ2, e2, q1.trans q2, L2, k1, fun y hy => by rw [k2 y hy, r2 y hy], k3⟩
theorem c_findLevelled (W : PW P) {σ : qS} (H : Rep σ j P) (h16 : ∀ t, t < pn P → σ 16 0 t = pL P t) : ∃ σ', f_X4_findLevelled j σ = qdo σ' ∧ qsm [17, 18, 11] σ σ' ∧ LvC P σ' (pst P (pn P)).1 (pst P (pn P)).2 ∧ σ' 11 0 8 = nI (pend P (pn P)) ∧ (∀ y, ¬ y = 8 → σ' 11 0 y = σ 11 0 y) ∧ pend P (pn P) ≤ 138 := by
  have hn := W.1
  obtain ⟨σ1, e1, e2, e3⟩ := e_fillRow (k := 18) (j := 0) (L := 414) rfl (by decide) (0 : Int32) σ
  have q1 : qsm [17, 18, 11] σ (qu σ1 11 0 8 0) := (show qsm [17, 18, 11] σ σ1 from fun a b ha => e2 a b (fun h => ha (by rw [h.1]; simp))).qu (by simp)
  obtain ⟨σ2, a1, a2, a3, a4, a5, a6⟩ := c_lev_loop (j := j) W (pn P) 0 qFU (qu σ1 11 0 8 0) (by omega) (by unfold qFU; omega) (H.same q1 (by simp)) (fun t ht => by rw [q1 16 0 (by simp)]; exact h16 t ht)
    ⟨fun t ht hb => absurd (hb.symm.trans (pst0 P t)) (by decide), fun r d hr hd => by
      rw [qu_at, if_neg (by simp), e3 _ (by omega), pU_none (B := 0) (fun u hu => absurd (hu.symm.trans (pst0 P u)) (by decide)) (Nat.zero_le _)]
      rfl⟩ (by rw [qu_at, if_pos ⟨rfl, rfl, rfl⟩]; rfl) (Nat.zero_le _)
  refine ⟨σ2, ?_, q1.trans a2, a3, a4, fun y hy => by rw [a5 y hy, qu_at, if_neg (fun h => hy h.2.2), e2 11 0 (by simp)], a6⟩
  unfold f_X4_findLevelled
  rw [e1, qb_V, qlet_eq]
  exact a1
end LC2
end
section
/-! the whole plan of the class -/
def PlanOK (P : qP) (σ : qS) : Prop := (∀ k, k < pn P → σ 12 0 k = nI (pord P k)) ∧ (∀ x, x < pn P → ∀ u, qbit (σ 13 0 x) u = prea P x u) ∧ (∀ t, t < pn P → σ 14 0 t = pE P t) ∧ (∀ t, t < pn P → σ 15 0 t = pE P t) ∧ (∀ t, t < pn P → σ 16 0 t = pL P t) ∧
  LvC P σ (pst P (pn P)).1 (pst P (pn P)).2 ∧ σ 11 0 7 = plast P (pE P) ∧ σ 11 0 8 = nI (pend P (pn P))
abbrev qpk : List Nat := [11, 12, 13, 14, 15, 16, 17, 18]
section MK
variable {P : qP} {j : Nat}
theorem c_make (W : PW P) {σ : qS} (H : Rep σ j P) : ∃ σ', f_X4_make j σ = qdo σ' ∧ qsm qpk σ σ' ∧ PlanOK P σ' := by
  obtain ⟨σ1, e1, q1, a1⟩ := c_findOrder W H
  have H1 := H.same q1 (by simp)
  obtain ⟨σ2, e2, q2, a2⟩ := c_findClosure W H1
  have H2 := H1.same q2 (by simp)
  obtain ⟨σ3, e3, q3, a3, b3, -⟩ := c_findEarliest W H2
  have H3 := H2.same q3 (by simp)
  obtain ⟨σ4, e4, q4, a4⟩ := c_findImproved W H3
  have H4 := H3.same q4 (by simp)
  have o4 : ∀ k, k < pn P → σ4 12 0 k = nI (pord P k) := fun k hk => by rw [q4 12 0 (by simp), q3 12 0 (by simp), q2 12 0 (by simp)]; exact a1 k hk
  obtain ⟨σ5, e5, q5, a5⟩ := c_findLatest W H4 o4 (by rw [q4 11 0 (by simp)]; exact b3)
  have H5 := H4.same q5 (by simp)
  obtain ⟨σ6, e6, q6, a6, b6, c6, -⟩ := c_findLevelled W H5 a5
  refine ⟨σ6, ?_, ?_, ?_⟩
  · unfold f_X4_make
    rw [e1, qb_V, e2, qb_V, e3, qb_V, e4, qb_V, e5, qb_V, e6, qb_V]
  · exact (q1.mono (by simp)).trans ((q2.mono (by simp)).trans ((q3.mono (by simp)).trans ((q4.mono (by simp)).trans ((q5.mono (by simp)).trans (q6.mono (by simp))))))
  · refine ⟨fun k hk => ?_, fun x hx u => ?_, fun t ht => ?_, fun t ht => ?_, fun t ht => ?_, a6, ?_, b6⟩
    · rw [q6 12 0 (by simp), q5 12 0 (by simp)]; exact o4 k hk
    · rw [q6 13 0 (by simp), q5 13 0 (by simp), q4 13 0 (by simp), q3 13 0 (by simp)]; exact a2 x hx u
    · rw [q6 14 0 (by simp), q5 14 0 (by simp), q4 14 0 (by simp)]; exact a3 t ht
    · rw [q6 15 0 (by simp), q5 15 0 (by simp)]; exact a4 t ht
    · rw [q6 16 0 (by simp)]; exact a5 t ht
    · rw [c6 7 (by decide), q5 11 0 (by simp), q4 11 0 (by simp)]; exact b3
theorem PlanOK.same {ks : List Nat} {σ σ' : qS} (h : PlanOK P σ) (q : qsm ks σ σ') (hk : ∀ k ∈ ks, k < 11 ∨ 18 < k) : PlanOK P σ' := by
  have e : ∀ a, 11 ≤ a → a ≤ 18 → ∀ b, σ' a b = σ a b := fun a h1 h2 b => q a b (fun h3 => by have := hk a h3; omega)
  obtain ⟨h1, h2, h3, h4, h5, h6, h7, h8⟩ := h
  exact ⟨fun k hk => by rw [e 12 (by omega) (by omega)]; exact h1 k hk, fun x hx u => by rw [e 13 (by omega) (by omega)]; exact h2 x hx u, fun t ht => by rw [e 14 (by omega) (by omega)]; exact h3 t ht, fun t ht => by rw [e 15 (by omega) (by omega)]; exact h4 t ht, fun t ht => by rw [e 16 (by omega) (by omega)]; exact h5 t ht,
    h6.same q (fun h => by have := hk _ h; omega) (fun h => by have := hk _ h; omega), by rw [e 11 (by omega) (by omega)]; exact h7, by rw [e 11 (by omega) (by omega)]; exact h8⟩
end MK
/-! the reference's starts -/
section RS
variable {P : qP}
theorem r_last_loop {k1 j1 : Nat} (W : PW P) {σ : qS} (H : RepR σ 27 0 P) (hk : qlen k1 = 12) : ∀ (d i m : Nat) (a : Int32), i + d = pn P → d < m → l_X8_lastOf_4 k1 j1 m a (nI i) σ = qan (fo (fun t a => qmax a (σ k1 j1 t + pf P 0 t)) d i a) σ := by
  have hn := W.1
  intro d
  induction d with
  | zero =>
    intro i m a hi hm
    obtain ⟨m, rfl⟩ : ∃ m', m = m' + 1 := ⟨m - 1, by omega⟩
    simp only [l_X8_lastOf_4, b_X8_lastOf_4, fo]
    rw [if_pos (by rw [H.1]; exact nI_le (by omega) (by omega))]
  | succ d ih =>
    intro i m a hi hm
    obtain ⟨m, rfl⟩ : ∃ m', m = m' + 1 := ⟨m - 1, by omega⟩
    simp only [l_X8_lastOf_4, b_X8_lastOf_4, fo]
    rw [if_neg (by rw [H.1]; exact nI_ge (by omega) (by omega)), if_pos (by rw [hk]; exact n_in (by omega) (by decide)), r_dur H W (by omega), qb_I, nI_clamp (by omega), nI_1, ih (i + 1) m _ (by omega) (by omega)]
theorem r_lastOf {k1 j1 : Nat} (W : PW P) {σ : qS} (H : RepR σ 27 0 P) (hk : qlen k1 = 12) : f_X8_lastOf k1 j1 σ = qan (plast P (σ k1 j1)) σ := by
  have hn := W.1
  exact r_last_loop W H hk (pn P) 0 qFU _ (by omega) (by unfold qFU; omega)
theorem r_soonest_loop {k2 j2 : Nat} (W : PW P) {σ : qS} (H : RepR σ 27 0 P) (hk : qlen k2 = 12) {t : Nat} (ht : t < pn P) : ∀ (d i m : Nat) (a : Int32), i + d = pn P → d < m →
    l_X8_soonest_10 k2 j2 m (nI t) a (nI i) σ = qan (fo (fun u a => if ped P t u = true then qmax a (σ k2 j2 u + pf P 0 u) else a) d i a) σ := by
  have hn := W.1
  intro d
  induction d with
  | zero =>
    intro i m a hi hm
    obtain ⟨m, rfl⟩ : ∃ m', m = m' + 1 := ⟨m - 1, by omega⟩
    simp only [l_X8_soonest_10, b_X8_soonest_10, fo]
    rw [if_pos (by rw [H.1]; exact nI_le (by omega) (by omega))]
  | succ d ih =>
    intro i m a hi hm
    obtain ⟨m, rfl⟩ : ∃ m', m = m' + 1 := ⟨m - 1, by omega⟩
    simp only [l_X8_soonest_10, b_X8_soonest_10, fo]
    rw [if_neg (by rw [H.1]; exact nI_ge (by omega) (by omega)), r_needed H W ht (by omega), qb_I]
    by_cases e : ped P t i = true
    · rw [e, if_neg (by decide), if_pos (by rw [hk]; exact n_in (by omega) (by decide)), r_dur H W (by omega), qb_I, nI_clamp (by omega), nI_1, ih (i + 1) m _ (by omega) (by omega), if_pos rfl]
    · rw [show ped P t i = false by simpa using e, if_pos (by rfl), nI_1, ih (i + 1) m _ (by omega) (by omega), if_neg (by decide)]
theorem r_soonest {k2 j2 : Nat} (W : PW P) {σ : qS} (H : RepR σ 27 0 P) (hk : qlen k2 = 12) {t : Nat} (ht : t < pn P) : f_X8_soonest (nI t) k2 j2 σ = qan (psoon P (σ k2 j2) t) σ := by
  have hn := W.1
  unfold f_X8_soonest
  rw [r_rel H W ht, qb_I]
  exact r_soonest_loop W H hk ht (pn P) 0 qFU _ (by omega) (by unfold qFU; omega)
/-- one round of the early starts -/
theorem r_early_in (W : PW P) {rk : Int32 → qS → Option qO} {v1 : Int32} {h : Nat → Nat} (hh : ∀ t u, t < pn P → ped P t u = true → h u < h t) {r : Nat} : ∀ (d i m : Nat) (σ : qS), i + d = pn P → d < m → RepR σ 27 0 P → (∀ t, t < pn P → h t < r → σ 31 0 t = pE P t) → (∀ t, t < i → h t < r + 1 → σ 31 0 t = pE P t) →
    ∃ σ', l_X8_starts_39 rk m v1 (nI i) σ = rk (v1 + 1) σ' ∧ qsm [31] σ σ' ∧ ∀ t, t < pn P → h t < r + 1 → σ' 31 0 t = pE P t := by
  have hn := W.1
  intro d
  induction d with
  | zero =>
    intro i m σ hi hm H h1 h2
    obtain ⟨m, rfl⟩ : ∃ m', m = m' + 1 := ⟨m - 1, by omega⟩
    refine ⟨σ, ?_, qsm.refl _ _, fun t ht => h2 t (by omega)⟩
    simp only [l_X8_starts_39, b_X8_starts_39]
    rw [if_pos (by rw [H.1]; exact nI_le (by omega) (by omega))]
  | succ d ih =>
    intro i m σ hi hm H h1 h2
    obtain ⟨m, rfl⟩ : ∃ m', m = m' + 1 := ⟨m - 1, by omega⟩
    have hin : i < pn P := by omega
    simp only [l_X8_starts_39, b_X8_starts_39]
    rw [if_neg (by rw [H.1]; exact nI_ge (by omega) (by omega)), r_soonest W H rfl hin, qb_I, if_pos (n_in (by omega) (by decide)), nI_clamp (by omega), qlet_eq, nI_1]
    have q1 := qsm_qu σ 31 0 i (psoon P (σ 31 0) i)
    have hee : qu σ 31 0 i (psoon P (σ 31 0) i) 31 0 i = psoon P (σ 31 0) i := by rw [qu_at, if_pos ⟨rfl, rfl, rfl⟩]
    have hne : ∀ t, t ≠ i → qu σ 31 0 i (psoon P (σ 31 0) i) 31 0 t = σ 31 0 t := fun t ht => by rw [qu_at, if_neg (fun h => ht h.2.2)]
    have hi1 : h i < r + 1 → psoon P (σ 31 0) i = pE P i := fun hhi => by
      rw [pE_is W i hin]
      exact psoon_congr (fun u hu e => h1 u hu (by have := hh i u hin e; omega))
    obtain ⟨σ2, e2, q2, r2⟩ := ih (i + 1) m (qu σ 31 0 i (psoon P (σ 31 0) i)) (by omega) (by omega) (H.same q1 (by simp)) (fun t ht hr => by
      by_cases hti : t = i
      · subst hti; rw [hee]; exact hi1 (by omega)
      · rw [hne t hti]; exact h1 t ht hr) (fun t ht hr => by
      by_cases hti : t = i
      · subst hti; rw [hee]; exact hi1 hr
      · rw [hne t hti]; exact h2 t (by omega) hr)
    exact ⟨σ2, e2, q1.trans q2, r2⟩
/-- what the latest starts lie between -/
def LBt (P : qP) (f : Nat → Int32) : Prop := ∀ t, t < pn P → (pL P t).toInt ≤ (f t).toInt ∧ (f t).toInt ≤ (plast P (pE P)).toInt - (pf P 0 t).toInt
theorem pL_le (W : PW P) {t : Nat} (ht : t < pn P) : (pL P t).toInt ≤ (plast P (pE P)).toInt - (pf P 0 t).toInt ∧ ∀ o, o < pn P → ped P o t = true → (pL P t).toInt ≤ (pL P o).toInt - (pf P 0 t).toInt := by
  have hl := plast_bd W
  have a1 := (W.2.1 t ht).1
  have a4 : (plat P (pL P) t).toInt ≤ (plat P (pL P) t).toInt := Int.le_refl _
  rw [plat_ge] at a4
  have a5 : -1000 ≤ (plat P (pL P) t).toInt := by
    rw [plat_ge]
    exact ⟨by omega, fun o ho e => by have := pL_bd W ho; omega⟩
  rw [pL_is W t ht, i_sub (by omega) (by omega) (by omega) (by omega)]
  exact ⟨by omega, fun o ho e => by have := a4.2 o ho e; omega⟩
theorem pL_ge (W : PW P) {t : Nat} (ht : t < pn P) {x : Int} (h1 : x ≤ (plast P (pE P)).toInt - (pf P 0 t).toInt) (h2 : ∀ o, o < pn P → ped P o t = true → x ≤ (pL P o).toInt - (pf P 0 t).toInt) : x ≤ (pL P t).toInt := by
  have hl := plast_bd W
  have a1 := (W.2.1 t ht).1
  have a4 : (plat P (pL P) t).toInt ≤ (plat P (pL P) t).toInt := Int.le_refl _
  rw [plat_ge] at a4
  have a5 : -1000 ≤ (plat P (pL P) t).toInt := by
    rw [plat_ge]
    exact ⟨by omega, fun o ho e => by have := pL_bd W ho; omega⟩
  have a6 : x + (pf P 0 t).toInt ≤ (plat P (pL P) t).toInt := by
    rw [plat_ge]
    exact ⟨by omega, fun o ho e => by have := h2 o ho e; omega⟩
  rw [pL_is W t ht, i_sub (by omega) (by omega) (by omega) (by omega)]
  omega
theorem r_puts_loop (W : PW P) {t : Nat} (ht : t < pn P) : ∀ (d i m : Nat) (σ : qS), i + d = pn P → d < m → RepR σ 27 0 P → LBt P (σ 32 0) → (∀ o, o < i → ped P o t = true → σ 32 0 o = pL P o → (σ 32 0 t).toInt ≤ (pL P o).toInt - (pf P 0 t).toInt) →
    ∃ σ', l_X8_puts_2 m (nI t) (nI i) σ = qdo σ' ∧ qsm [32] σ σ' ∧ LBt P (σ' 32 0) ∧ (∀ u, ¬ u = t → σ' 32 0 u = σ 32 0 u) ∧ (∀ o, o < pn P → ped P o t = true → σ 32 0 o = pL P o → (σ' 32 0 t).toInt ≤ (pL P o).toInt - (pf P 0 t).toInt) ∧ (σ' 32 0 t).toInt ≤ (σ 32 0 t).toInt := by
  have hn := W.1
  have hl := plast_bd W
  have a1 := (W.2.1 t ht).1
  intro d
  induction d with
  | zero =>
    intro i m σ hi hm H hB h2
    obtain ⟨m, rfl⟩ : ∃ m', m = m' + 1 := ⟨m - 1, by omega⟩
    refine ⟨σ, ?_, qsm.refl _ _, hB, fun _ _ => rfl, fun o ho => h2 o (by omega), Int.le_refl _⟩
    simp only [l_X8_puts_2, b_X8_puts_2]
    rw [if_pos (by rw [H.1]; exact nI_le (by omega) (by omega))]
  | succ d ih =>
    intro i m σ hi hm H hB h2
    obtain ⟨m, rfl⟩ : ∃ m', m = m' + 1 := ⟨m - 1, by omega⟩
    have hin : i < pn P := by omega
    have t12 : qin (nI t) 12 := n_in (by omega) (by decide)
    have i12 : qin (nI i) 12 := n_in (by omega) (by decide)
    simp only [l_X8_puts_2, b_X8_puts_2]
    rw [if_neg (by rw [H.1]; exact nI_ge (by omega) (by omega)), r_needed H W hin (by omega), qb_I]
    by_cases e : ped P i t = true
    · have hit : i ≠ t := by
        intro hh
        subst hh
        obtain ⟨h, hr⟩ := W.2.2.2.1
        have := hr i i hin e
        omega
      rw [e, if_neg (by decide), if_pos t12, if_pos i12, r_dur H W ht, qb_I, if_pos t12, nI_clamp (by omega), nI_clamp (by omega), qlet_eq, nI_1]
      have q1 := qsm_qu σ 32 0 t (qmin (σ 32 0 t) (σ 32 0 i - pf P 0 t))
      have hee : qu σ 32 0 t (qmin (σ 32 0 t) (σ 32 0 i - pf P 0 t)) 32 0 t = qmin (σ 32 0 t) (σ 32 0 i - pf P 0 t) := by rw [qu_at, if_pos ⟨rfl, rfl, rfl⟩]
      have hne : ∀ u, u ≠ t → qu σ 32 0 t (qmin (σ 32 0 t) (σ 32 0 i - pf P 0 t)) 32 0 u = σ 32 0 u := fun u hu => by rw [qu_at, if_neg (fun h => hu h.2.2)]
      have b1 := hB i hin
      have b2 := pL_bd W hin
      have b3 := (W.2.1 i hin).1
      have b4 := hB t ht
      have b5 := (pL_le W ht).2 i hin e
      have hmin : (qmin (σ 32 0 t) (σ 32 0 i - pf P 0 t)).toInt = min (σ 32 0 t).toInt ((σ 32 0 i).toInt - (pf P 0 t).toInt) := by
        rw [i_min, i_sub (by omega) (by omega) (by omega) (by omega)]
      obtain ⟨σ2, e2, q2, b6, r1, r2, r3⟩ := ih (i + 1) m (qu σ 32 0 t (qmin (σ 32 0 t) (σ 32 0 i - pf P 0 t))) (by omega) (by omega) (H.same q1 (by simp)) (fun u hu => by
        by_cases hut : u = t
        · subst hut; rw [hee, hmin]; omega
        · rw [hne u hut]; exact hB u hu) (fun o ho eo h3 => by
        have hot : o ≠ t := by
          intro hh
          subst hh
          obtain ⟨h, hr⟩ := W.2.2.2.1
          have := hr o o ht eo
          omega
        rw [hne o hot] at h3
        rw [hee, hmin]
        by_cases hoi : o = i
        · subst hoi; rw [h3]; omega
        · have := h2 o (by omega) eo h3; omega)
      refine ⟨σ2, e2, q1.trans q2, b6, fun u hu => by rw [r1 u hu, hne u hu], fun o ho eo h3 => r2 o ho eo ?_, ?_⟩
      · have hot : o ≠ t := by
          intro hh
          subst hh
          obtain ⟨h, hr⟩ := W.2.2.2.1
          have := hr o o ht eo
          omega
        rw [hne o hot]; exact h3
      · rw [hee, hmin] at r3; omega
    · rw [show ped P i t = false by simpa using e, if_pos (by rfl), if_pos t12, if_pos t12, nI_clamp (by omega), qlet_eq, nI_1]
      have hid : qu σ 32 0 t (σ 32 0 t) = σ := by
        funext a b x
        rw [qu_at]
        by_cases h : a = 32 ∧ b = 0 ∧ x = t
        · obtain ⟨rfl, rfl, rfl⟩ := h
          rw [if_pos ⟨rfl, rfl, rfl⟩]
        · rw [if_neg h]
      rw [hid]
      exact ih (i + 1) m σ (by omega) (by omega) H hB (fun o ho eo h3 => by
        by_cases hoi : o = i
        · subst hoi; exact absurd eo e
        · exact h2 o (by omega) eo h3)
end RS
end
section
/-! the reference's starts: all its rounds -/
section RT
variable {P : qP}
theorem r_late_in (W : PW P) {rk : Int32 → qS → Option qO} {v2 : Int32} {h : Nat → Nat} (hh : ∀ t u, t < pn P → ped P t u = true → h u < h t) (hb : ∀ t, t < pn P → h t < pn P) {r : Nat} : ∀ (d i m : Nat) (σ : qS), i + d = pn P → d < m → RepR σ 27 0 P → LBt P (σ 32 0) → (∀ t, t < pn P → pn P - h t ≤ r → σ 32 0 t = pL P t) → (∀ t, t < i → pn P - h t ≤ r + 1 → σ 32 0 t = pL P t) →
    ∃ σ', l_X8_starts_131 rk m v2 (nI i) σ = rk (v2 + 1) σ' ∧ qsm [32] σ σ' ∧ LBt P (σ' 32 0) ∧ ∀ t, t < pn P → pn P - h t ≤ r + 1 → σ' 32 0 t = pL P t := by
  have hn := W.1
  intro d
  induction d with
  | zero =>
    intro i m σ hi hm H hB h1 h2
    obtain ⟨m, rfl⟩ : ∃ m', m = m' + 1 := ⟨m - 1, by omega⟩
    refine ⟨σ, ?_, qsm.refl _ _, hB, fun t ht => h2 t (by omega)⟩
    simp only [l_X8_starts_131, b_X8_starts_131]
    rw [if_pos (by rw [H.1]; exact nI_le (by omega) (by omega))]
  | succ d ih =>
    intro i m σ hi hm H hB h1 h2
    obtain ⟨m, rfl⟩ : ∃ m', m = m' + 1 := ⟨m - 1, by omega⟩
    have hin : i < pn P := by omega
    obtain ⟨σ1, e1, q1, b1, r1, r2, r3⟩ := r_puts_loop W hin (pn P) 0 qFU σ (by omega) (by unfold qFU; omega) H hB (fun o ho => by omega)
    have e1' : f_X8_puts (nI i) σ = qdo σ1 := e1
    simp only [l_X8_starts_131, b_X8_starts_131]
    rw [if_neg (by rw [H.1]; exact nI_ge (by omega) (by omega)), e1', qb_V, nI_1]
    have hi1 : pn P - h i ≤ r + 1 → σ1 32 0 i = pL P i := fun hhi => by
      apply i_eq
      have c1 := b1 i hin
      have c2 := pL_ge W hin (x := (σ1 32 0 i).toInt) c1.2 (fun o ho e => r2 o ho e (h1 o ho (by have := hh o i ho e; have := hb o ho; omega)))
      omega
    obtain ⟨σ2, e2, q2, b2, k2⟩ := ih (i + 1) m σ1 (by omega) (by omega) (H.same q1 (by simp)) b1 (fun t ht hr => by
      by_cases hti : t = i
      · subst hti; exact hi1 (by omega)
      · rw [r1 t hti]; exact h1 t ht hr) (fun t ht hr => by
      by_cases hti : t = i
      · subst hti; exact hi1 hr
      · rw [r1 t hti]; exact h2 t (by omega) hr)
    exact ⟨σ2, e2, q1.trans q2, b2, k2⟩
theorem r_late_out (W : PW P) {h : Nat → Nat} (hh : ∀ t u, t < pn P → ped P t u = true → h u < h t) (hb : ∀ t, t < pn P → h t < pn P) : ∀ (d r m : Nat) (σ : qS), r + d = pn P → d < m → RepR σ 27 0 P → LBt P (σ 32 0) → (∀ t, t < pn P → pn P - h t ≤ r → σ 32 0 t = pL P t) →
    ∃ σ', l_X8_starts_119 m (nI r) σ = qdo σ' ∧ qsm [32] σ σ' ∧ ∀ t, t < pn P → σ' 32 0 t = pL P t := by
  have hn := W.1
  intro d
  induction d with
  | zero =>
    intro r m σ hr hm H hB h1
    obtain ⟨m, rfl⟩ : ∃ m', m = m' + 1 := ⟨m - 1, by omega⟩
    refine ⟨σ, ?_, qsm.refl _ _, fun t ht => h1 t ht (by omega)⟩
    simp only [l_X8_starts_119, b_X8_starts_119]
    rw [if_pos (by rw [H.1]; exact nI_le (by omega) (by omega))]
  | succ d ih =>
    intro r m σ hr hm H hB h1
    obtain ⟨m, rfl⟩ : ∃ m', m = m' + 1 := ⟨m - 1, by omega⟩
    obtain ⟨σ1, e1, q1, b1, r1⟩ := r_late_in W (rk := l_X8_starts_119 m) (v2 := nI r) hh hb (r := r) (pn P) 0 qFU σ (by omega) (by unfold qFU; omega) H hB h1 (fun t ht => by omega)
    simp only [l_X8_starts_119, b_X8_starts_119]
    rw [if_neg (by rw [H.1]; exact nI_ge (by omega) (by omega)), show (0 : Int32) = nI 0 from rfl, e1, nI_1]
    obtain ⟨σ2, e2, q2, r2⟩ := ih (r + 1) m σ1 (by omega) (by omega) (H.same q1 (by simp)) b1 r1
    exact ⟨σ2, e2, q1.trans q2, r2⟩
theorem r_late_init (W : PW P) : ∀ (d i m : Nat) (σ : qS), i + d = pn P → d < m → RepR σ 27 0 P → (∀ t, t < i → σ 32 0 t = plast P (pE P) - pf P 0 t) →
    ∃ σ', l_X8_starts_87 m (plast P (pE P)) (nI i) σ = qdo σ' ∧ qsm [32] σ σ' ∧ ∀ t, t < pn P → σ' 32 0 t = pL P t := by
  have hn := W.1
  have hc : ∀ t u, t < pn P → ped P t u = true → u < pn P := fun t u h1 h2 => W.ed_lt h1 h2
  obtain ⟨h, hh, hb⟩ := g_rank hc W.2.2.2.1
  have hl := plast_bd W
  intro d
  induction d with
  | zero =>
    intro i m σ hi hm H h1
    obtain ⟨m, rfl⟩ : ∃ m', m = m' + 1 := ⟨m - 1, by omega⟩
    simp only [l_X8_starts_87, b_X8_starts_87]
    rw [if_pos (by rw [H.1]; exact nI_le (by omega) (by omega))]
    refine r_late_out W hh hb (pn P) 0 qFU σ (by omega) (by unfold qFU; omega) H (fun t ht => ?_) (fun t ht h0 => by have := hb t ht; omega)
    have a1 := (W.2.1 t ht).1
    rw [h1 t (by omega), i_sub (by omega) (by omega) (by omega) (by omega)]
    exact ⟨(pL_le W ht).1, Int.le_refl _⟩
  | succ d ih =>
    intro i m σ hi hm H h1
    obtain ⟨m, rfl⟩ : ∃ m', m = m' + 1 := ⟨m - 1, by omega⟩
    simp only [l_X8_starts_87, b_X8_starts_87]
    rw [if_neg (by rw [H.1]; exact nI_ge (by omega) (by omega)), r_dur H W (by omega), qb_I, if_pos (n_in (by omega) (by decide)), nI_clamp (by omega), qlet_eq, nI_1]
    have q1 := qsm_qu σ 32 0 i (plast P (pE P) - pf P 0 i)
    obtain ⟨σ2, e2, q2, r2⟩ := ih (i + 1) m _ (by omega) (by omega) (H.same q1 (by simp)) (fun t ht => by
      rw [qu_at]
      by_cases hti : t = i
      · subst hti; rw [if_pos ⟨rfl, rfl, rfl⟩]
      · rw [if_neg (fun h => hti h.2.2)]; exact h1 t (by omega))
    exact ⟨σ2, e2, q1.trans q2, r2⟩
theorem r_early_out (W : PW P) {h : Nat → Nat} (hh : ∀ t u, t < pn P → ped P t u = true → h u < h t) (hb : ∀ t, t < pn P → h t < pn P) : ∀ (d r m : Nat) (σ : qS), r + d = pn P → d < m → RepR σ 27 0 P → (∀ t, t < pn P → h t < r → σ 31 0 t = pE P t) →
    ∃ σ', l_X8_starts_27 m (nI r) σ = qdo σ' ∧ qsm [31, 32] σ σ' ∧ (∀ t, t < pn P → σ' 31 0 t = pE P t) ∧ ∀ t, t < pn P → σ' 32 0 t = pL P t := by
  have hn := W.1
  intro d
  induction d with
  | zero =>
    intro r m σ hr hm H h1
    obtain ⟨m, rfl⟩ : ∃ m', m = m' + 1 := ⟨m - 1, by omega⟩
    have hE : ∀ t, t < pn P → σ 31 0 t = pE P t := fun t ht => h1 t ht (by have := hb t ht; omega)
    simp only [l_X8_starts_27, b_X8_starts_27]
    rw [if_pos (by rw [H.1]; exact nI_le (by omega) (by omega)), r_lastOf W H rfl, qb_I, plast_congr hE]
    obtain ⟨σ2, e2, q2, r2⟩ := r_late_init W (pn P) 0 qFU σ (by omega) (by unfold qFU; omega) H (fun t ht => by omega)
    exact ⟨σ2, e2, q2.mono (by simp), fun t ht => by rw [q2 31 0 (by simp)]; exact hE t ht, r2⟩
  | succ d ih =>
    intro r m σ hr hm H h1
    obtain ⟨m, rfl⟩ : ∃ m', m = m' + 1 := ⟨m - 1, by omega⟩
    obtain ⟨σ1, e1, q1, r1⟩ := r_early_in W (rk := l_X8_starts_27 m) (v1 := nI r) hh (r := r) (pn P) 0 qFU σ (by omega) (by unfold qFU; omega) H h1 (fun t ht => by omega)
    simp only [l_X8_starts_27, b_X8_starts_27]
    rw [if_neg (by rw [H.1]; exact nI_ge (by omega) (by omega)), show (0 : Int32) = nI 0 from rfl, e1, nI_1]
    obtain ⟨σ2, e2, q2, r2⟩ := ih (r + 1) m σ1 (by omega) (by omega) (H.same q1 (by simp)) r1
    exact ⟨σ2, e2, (q1.mono (by simp)).trans q2, r2⟩
theorem r_starts0 (W : PW P) : ∀ (d i m : Nat) (σ : qS), i + d = pn P → d < m → RepR σ 27 0 P →
    ∃ σ', l_X8_starts_2 m (nI i) σ = qdo σ' ∧ qsm [31, 32] σ σ' ∧ (∀ t, t < pn P → σ' 31 0 t = pE P t) ∧ ∀ t, t < pn P → σ' 32 0 t = pL P t := by
  have hn := W.1
  have hc : ∀ t u, t < pn P → ped P t u = true → u < pn P := fun t u h1 h2 => W.ed_lt h1 h2
  obtain ⟨h, hh, hb⟩ := g_rank hc W.2.2.2.1
  intro d
  induction d with
  | zero =>
    intro i m σ hi hm H
    obtain ⟨m, rfl⟩ : ∃ m', m = m' + 1 := ⟨m - 1, by omega⟩
    simp only [l_X8_starts_2, b_X8_starts_2]
    rw [if_pos (by rw [H.1]; exact nI_le (by omega) (by omega))]
    exact r_early_out W hh hb (pn P) 0 qFU σ (by omega) (by unfold qFU; omega) H (fun t ht h0 => by omega)
  | succ d ih =>
    intro i m σ hi hm H
    obtain ⟨m, rfl⟩ : ∃ m', m = m' + 1 := ⟨m - 1, by omega⟩
    simp only [l_X8_starts_2, b_X8_starts_2]
    rw [if_neg (by rw [H.1]; exact nI_ge (by omega) (by omega)), if_pos (n_in (by omega) (by decide)), nI_clamp (by omega), qlet_eq, nI_1]
    have q1 := qsm_qu σ 31 0 i 0
    obtain ⟨σ2, e2, q2, r2⟩ := ih (i + 1) m (qu σ 31 0 i 0) (by omega) (by omega) (H.same q1 (by simp))
    exact ⟨σ2, e2, (q1.mono (by simp)).trans q2, r2⟩
theorem r_starts (W : PW P) {σ : qS} (H : RepR σ 27 0 P) : ∃ σ', f_X8_starts σ = qdo σ' ∧ qsm [31, 32] σ σ' ∧ (∀ t, t < pn P → σ' 31 0 t = pE P t) ∧ ∀ t, t < pn P → σ' 32 0 t = pL P t := by
  have hn := W.1
  exact r_starts0 W (pn P) 0 qFU σ (by omega) (by unfold qFU; omega) H
end RT
end
section
/-! levelling in the reference -/
def LvR (P : qP) (σ : qS) (x : Int32) (lev : Nat → Nat) : Prop := (∀ t, t < pn P → qbit x t = true → σ 33 0 t = nI (lev t)) ∧ ∀ r d, r < 3 → d < 160 → σ 34 0 (160 * r + d) = nI (pU P x lev r d)
section RL
variable {P : qP}
theorem r_fit_loop (W : PW P) {x : Int32} {lev : Nat → Nat} {σ : qS} (H : RepR σ 27 0 P) (HL : LvR P σ x lev) {t s : Nat} (ht : t < pn P) (hs : s + pdn P t ≤ 160) : ∀ (k i m : Nat), i + k = pdn P t → k < m →
    l_X8_hasRoom_16 m (nI t) (nI (160 * prn P t + s)) (nI i) σ = qan (qb1 (pfd P x lev t k (s + i))) σ := by
  have hn := W.1
  have hr := (W.rn ht).2
  have h5 := (W.mn ht).2.2
  have h6 := (W.ln hr).2
  have h7 := (W.dn ht).2
  intro k
  induction k with
  | zero =>
    intro i m hi hm
    obtain ⟨m, rfl⟩ : ∃ m', m = m' + 1 := ⟨m - 1, by omega⟩
    simp only [l_X8_hasRoom_16, b_X8_hasRoom_16, pfd]
    rw [r_dur H W ht, qb_I, (W.dn ht).1, if_pos (nI_le (by omega) (by omega))]
    rfl
  | succ k ih =>
    intro i m hi hm
    obtain ⟨m, rfl⟩ : ∃ m', m = m' + 1 := ⟨m - 1, by omega⟩
    have hu := pU_le W (x := x) (lev := lev) (r := prn P t) (d := s + i)
    simp only [l_X8_hasRoom_16, b_X8_hasRoom_16, pfd]
    have hlim : σ 27 0 (2 + prn P t) = nI (pln P (prn P t)) := by
      have := H.2.2.1 (prn P t) hr
      rw [Nat.zero_add] at this
      rw [this, (W.ln hr).1]
    rw [r_dur H W ht, qb_I, (W.dn ht).1, if_neg (nI_ge (by omega) (by omega)), nI_add, if_pos (n_in (by omega) (by decide)), r_dem H W ht, qb_I, r_res H W ht, qb_I, (W.rn ht).1, show (2 : Int32) = nI 2 from rfl, nI_add, if_pos (n_in (by omega) (by decide)), nI_clamp (by omega), nI_clamp (by omega), hlim, show 160 * prn P t + s + i = 160 * prn P t + (s + i) by omega, HL.2 _ _ hr (by omega), (W.mn ht).1, nI_add]
    by_cases hc : pU P x lev (prn P t) (s + i) + pmn P t ≤ pln P (prn P t)
    · rw [if_pos (nI_le hc (by omega)), decide_eq_true hc, Bool.true_and, nI_1, ih (i + 1) m (by omega) (by omega)]
      rfl
    · rw [if_neg (nI_ge (by omega) (by omega)), decide_eq_false hc]
      rfl
theorem r_fit (W : PW P) {x : Int32} {lev : Nat → Nat} {σ : qS} (H : RepR σ 27 0 P) (HL : LvR P σ x lev) {t s : Nat} (ht : t < pn P) (hs : s + pdn P t ≤ 160) : f_X8_hasRoom (nI t) (nI s) σ = qan (qb1 (pfit P x lev t s)) σ := by
  have h7 := (W.dn ht).2
  unfold f_X8_hasRoom
  rw [r_res H W ht, qb_I, (W.rn ht).1, show (160 : Int32) = nI 160 from rfl, n_mul, nI_add]
  exact r_fit_loop W H HL ht hs (pdn P t) 0 qFU (by omega) (by unfold qFU; omega)
theorem r_add_loop (W : PW P) {rk : Int32 → Int32 → qS → Option qO} {v1 v2 : Int32} {t s : Nat} (ht : t < pn P) (hs : s + pdn P t ≤ 160) : ∀ (k i m : Nat) (σ : qS), i + k = pdn P t → k < m → RepR σ 27 0 P →
    ∃ σ', l_X8_levels_169 rk m v1 v2 (nI t) (nI s) (nI i) σ = rk v1 (v2 + 1) σ' ∧ qsm [34] σ σ' ∧ (∀ y, σ' 34 0 y = if 160 * prn P t + s + i ≤ y ∧ y < 160 * prn P t + s + i + k then σ 34 0 y + nI (pmn P t) else σ 34 0 y) := by
  have hn := W.1
  have hr := (W.rn ht).2
  have h7 := (W.dn ht).2
  intro k
  induction k with
  | zero =>
    intro i m σ hi hm H
    obtain ⟨m, rfl⟩ : ∃ m', m = m' + 1 := ⟨m - 1, by omega⟩
    refine ⟨σ, ?_, qsm.refl _ _, fun y => by rw [if_neg (by omega)]⟩
    simp only [l_X8_levels_169, b_X8_levels_169]
    rw [r_dur H W ht, qb_I, (W.dn ht).1, if_pos (nI_le (by omega) (by omega))]
  | succ k ih =>
    intro i m σ hi hm H
    obtain ⟨m, rfl⟩ : ∃ m', m = m' + 1 := ⟨m - 1, by omega⟩
    have hy : qin (nI (160 * prn P t + s + i)) 480 := n_in (by omega) (by decide)
    simp only [l_X8_levels_169, b_X8_levels_169]
    rw [r_dur H W ht, qb_I, (W.dn ht).1, if_neg (nI_ge (by omega) (by omega)), r_res H W ht, qb_I, (W.rn ht).1, show (160 : Int32) = nI 160 from rfl, n_mul, nI_add, nI_add, if_pos hy, r_dem H W ht, qb_I, if_pos hy, nI_clamp (by omega), qlet_eq, (W.mn ht).1, nI_1]
    have q1 := qsm_qu σ 34 0 (160 * prn P t + s + i) (σ 34 0 (160 * prn P t + s + i) + nI (pmn P t))
    obtain ⟨σ2, e2, q2, r1⟩ := ih (i + 1) m (qu σ 34 0 (160 * prn P t + s + i) (σ 34 0 (160 * prn P t + s + i) + nI (pmn P t))) (by omega) (by omega) (H.same q1 (by simp))
    refine ⟨σ2, e2, q1.trans q2, fun y => ?_⟩
    rw [r1 y, qu_at]
    by_cases e : y = 160 * prn P t + s + i
    · rw [if_neg (by omega), if_pos ⟨rfl, rfl, e⟩, if_pos (by omega), e]
    · rw [if_neg (show ¬ (34 = 34 ∧ 0 = 0 ∧ y = 160 * prn P t + s + i) from fun h => e h.2.2)]
      by_cases h : 160 * prn P t + s + (i + 1) ≤ y ∧ y < 160 * prn P t + s + (i + 1) + k
      · rw [if_pos h, if_pos (by omega)]
      · rw [if_neg h, if_neg (by omega)]
/-- from a day on: the first that fits, and the task is put there -/
theorem r_day_loop (W : PW P) {rk : Int32 → Int32 → qS → Option qO} {x v2 : Int32} {lev : Nat → Nat} {σ : qS} (H : RepR σ 27 0 P) (HL : LvR P σ x lev) {t D : Nat} (ht : t < pn P) (hx : qbit x t = false) (hD : D + pdn P t ≤ 138) (hf : pfit P x lev t D = true) : ∀ (k s m : Nat), s ≤ D → D < s + k → k < m →
    ∃ σ', l_X8_levels_136 rk m x v2 (nI t) (nI s) σ = rk (x ||| ((1 : Int32) <<< (nI t &&& 31))) (v2 + 1) σ' ∧ qsm [33, 34] σ σ' ∧ LvR P σ' (x ||| ((1 : Int32) <<< (nI t &&& 31))) (fun u => if u = t then plow P x lev t k s else lev u) := by
  have hn := W.1
  have h7 := (W.dn ht).2
  have hr := (W.rn ht).2
  intro k
  induction k with
  | zero => intro s m h1 h2; omega
  | succ k ih =>
    intro s m h1 h2 hm
    obtain ⟨m, rfl⟩ : ∃ m', m = m' + 1 := ⟨m - 1, by omega⟩
    simp only [l_X8_levels_136, b_X8_levels_136, plow]
    rw [r_fit W H HL ht (by omega), qb_I]
    by_cases h : pfit P x lev t s = true
    · rw [h, if_neg (by decide), if_pos (n_in (by omega) (by decide)), nI_clamp (by omega), qlet_eq, if_pos rfl]
      have q1 := qsm_qu σ 33 0 t (nI s)
      obtain ⟨σ2, e2, q2, r1⟩ := r_add_loop W (rk := rk) (v1 := x ||| ((1 : Int32) <<< (nI t &&& 31))) (v2 := v2) (s := s) ht (by omega) (pdn P t) 0 qFU (qu σ 33 0 t (nI s)) (by omega) (by unfold qFU; omega) (H.same q1 (by simp))
      refine ⟨σ2, e2, (q1.mono (by simp)).trans (q2.mono (by simp)), fun u hu hb => ?_, fun r d hr' hd => ?_⟩
      · show _ = nI (if u = t then s else lev u)
        rw [q2 33 0 (by simp), qu_at]
        by_cases e : u = t
        · rw [if_pos ⟨rfl, rfl, e⟩, if_pos e]
        · rw [if_neg (fun h => e h.2.2), if_neg e]
          rw [qbit_put (by omega)] at hb
          simp only [Bool.or_eq_true, decide_eq_true_eq] at hb
          exact HL.1 u hu (hb.elim (fun h => h) (fun h => absurd h.symm e))
      · rw [r1, q1 34 0 (by simp), HL.2 r d hr' hd, pU_put ht (by omega) hx]
        by_cases h : prn P t = r ∧ s ≤ d ∧ d < s + pdn P t
        · rw [if_pos h, if_pos (by obtain ⟨h1, h2, h3⟩ := h; subst h1; omega), nI_add]
        · have hno : ¬ (160 * prn P t + s ≤ 160 * r + d ∧ 160 * r + d < 160 * prn P t + s + pdn P t) := by
            intro h9
            apply h
            rcases Nat.lt_trichotomy (prn P t) r with h3 | h3 | h3
            · have : 160 * (prn P t + 1) ≤ 160 * r := Nat.mul_le_mul_left _ h3
              omega
            · subst h3; omega
            · have : 160 * (r + 1) ≤ 160 * prn P t := Nat.mul_le_mul_left _ h3
              omega
          simp only [Nat.add_zero]
          rw [if_neg hno, if_neg h, Nat.add_zero]
    · have hsD : s ≠ D := fun e => h (e ▸ hf)
      rw [show pfit P x lev t s = false by simpa using h, if_pos (by rfl), if_neg (by decide), nI_1]
      exact ih (s + 1) m (by omega) (by omega) (by omega)
theorem r_pick_loop (W : PW P) {rk : Int32 → Int32 → qS → Option qO} {x v2 : Int32} {σ : qS} (H : RepR σ 27 0 P) (h32 : ∀ t, t < pn P → σ 32 0 t = pL P t) : ∀ (d i m a : Nat), i + d = pn P → d < m → a ≤ pn P →
    l_X8_levels_45 rk m x v2 (qno P a) (nI i) σ = qbind (f_X8_soonest (qno P (pug P x d i a)) 33 0 σ) (qvI (fun r1 s2 => l_X8_levels_136 rk qFU x v2 (qno P (pug P x d i a)) r1 s2)) qE0 := by
  have hn := W.1
  intro d
  induction d with
  | zero =>
    intro i m a hi hm ha
    obtain ⟨m, rfl⟩ : ∃ m', m = m' + 1 := ⟨m - 1, by omega⟩
    simp only [l_X8_levels_45, b_X8_levels_45, pug]
    rw [if_pos (by rw [H.1]; exact nI_le (by omega) (by omega))]
  | succ d ih =>
    intro i m a hi hm ha
    obtain ⟨m, rfl⟩ : ∃ m', m = m' + 1 := ⟨m - 1, by omega⟩
    have hin : i < pn P := by omega
    have hii : nI i = qno P i := (qno_n (by omega)).symm
    have no : pready P x i = false → l_X8_levels_45 rk m x v2 (qno P a) (nI i + 1) σ = qbind (f_X8_soonest (qno P (pug P x (d + 1) i a)) 33 0 σ) (qvI (fun r1 s2 => l_X8_levels_136 rk qFU x v2 (qno P (pug P x (d + 1) i a)) r1 s2)) qE0 := by
      intro hr
      rw [nI_1, ih (i + 1) m a (by omega) (by omega) ha, pug, hr, if_neg (by decide)]
    simp only [l_X8_levels_45, b_X8_levels_45]
    rw [if_neg (by rw [H.1]; exact nI_ge (by omega) (by omega))]
    by_cases hb : qbit x i = true
    · have hr : pready P x i = false := by unfold pready; rw [hb]; rfl
      rw [if_neg (fun h => by rw [(qbit_has0 (by omega)).mp h] at hb; cases hb)]
      unfold j_X8_levels_84
      rw [if_pos rfl]
      exact no hr
    · have hb : qbit x i = false := by simpa using hb
      rw [if_pos ((qbit_has0 (by omega)).mpr hb), r_need H W hin, qb_I]
      by_cases hz : pf P 4 i &&& (x ^^^ (-1 : Int32)) = 0
      · have hr : pready P x i = true := by unfold pready; rw [hb, decide_eq_true hz]; rfl
        rw [if_pos hz]
        unfold j_X8_levels_84
        rw [if_neg (by decide), pug, if_pos hr]
        by_cases ha0 : a = pn P
        · subst ha0
          rw [if_pos (qno_m P), if_pos rfl, nI_1, hii, ih (i + 1) m i (by omega) (by omega) (by omega)]
        · rw [qno_n ha0, if_neg (n_ne a (by omega)), if_pos (n_in (by omega) (by decide)), if_pos (n_in (by omega) (by decide)), nI_clamp (by omega), nI_clamp (by omega), h32 a (by omega), h32 i hin, if_neg ha0, nI_1]
          by_cases hl : pL P i < pL P a
          · rw [if_neg (Int32.not_le.mpr hl), if_pos hl, hii, ih (i + 1) m i (by omega) (by omega) (by omega)]
          · rw [if_pos (Int32.not_lt.mp hl), if_neg hl, ← qno_n (P := P) ha0, ih (i + 1) m a (by omega) (by omega) ha]
      · have hr : pready P x i = false := by unfold pready; rw [decide_eq_false hz, Bool.and_false]
        rw [if_neg hz]
        unfold j_X8_levels_84
        rw [if_pos rfl]
        exact no hr
theorem r_lev_loop (W : PW P) : ∀ (d i m : Nat) (σ : qS), i + d = pn P → d < m → RepR σ 27 0 P → (∀ t, t < pn P → σ 32 0 t = pL P t) → LvR P σ (pst P i).1 (pst P i).2 →
    ∃ σ', l_X8_levels_30 m (pst P i).1 (nI i) σ = qdo σ' ∧ qsm [33, 34] σ σ' ∧ LvR P σ' (pst P (pn P)).1 (pst P (pn P)).2 := by
  have hn := W.1
  intro d
  induction d with
  | zero =>
    intro i m σ hi hm H h32 HL
    obtain ⟨m, rfl⟩ : ∃ m', m = m' + 1 := ⟨m - 1, by omega⟩
    have hi : i = pn P := by omega
    subst hi
    refine ⟨σ, ?_, qsm.refl _ _, HL⟩
    simp only [l_X8_levels_30, b_X8_levels_30]
    rw [if_pos (by rw [H.1]; exact Int32.le_refl _)]
  | succ d ih =>
    intro i m σ hi hm H h32 HL
    obtain ⟨m, rfl⟩ : ∃ m', m = m' + 1 := ⟨m - 1, by omega⟩
    obtain ⟨s1, s2, s3, s4, s5, s6⟩ := pst_step W (i := i) (by omega)
    have hps : psoon P (σ 33 0) (pur P (pst P i).1) = nI (ps0 P (pst P i).2 (pur P (pst P i).1)) := by
      rw [← s3]
      exact psoon_congr (fun u hu e => HL.1 u hu ((pready_iff.mp s2).2 u (by omega) e))
    obtain ⟨σ1, e1, q1, L1⟩ := r_day_loop W (rk := l_X8_levels_30 m) (v2 := nI i) H HL s1 (pready_iff.mp s2).1 s5 s6 200 _ qFU s4 (by omega) (by unfold qFU; omega)
    simp only [l_X8_levels_30, b_X8_levels_30]
    have hp := r_pick_loop W (rk := l_X8_levels_30 m) (x := (pst P i).1) (v2 := nI i) H h32 (pn P) 0 qFU (pn P) (by omega) (by unfold qFU; omega) (Nat.le_refl _)
    rw [show pug P (pst P i).1 (pn P) 0 (pn P) = pur P (pst P i).1 from rfl, qno_m, qno_n (show pur P (pst P i).1 ≠ pn P by omega)] at hp
    rw [if_neg (by rw [H.1]; exact nI_ge (by omega) (by omega)), show (0 : Int32) = nI 0 from rfl, hp, r_soonest W H rfl s1, qb_I, hps, e1, nI_1]
    obtain ⟨σ2, e2, q2, L2⟩ := ih (i + 1) m σ1 (by omega) (by omega) (H.same q1 (by simp)) (fun t ht => by rw [q1 32 0 (by simp)]; exact h32 t ht) L1
    exact ⟨σ2, e2, q1.trans q2, L2⟩
theorem r_zero_loop : ∀ (d i m : Nat) (σ : qS), i + d = 480 → d < m → (∀ y, y < i → σ 34 0 y = 0) → ∃ σ', l_X8_levels_6 m (nI i) σ = l_X8_levels_30 qFU 0 0 σ' ∧ qsm [34] σ σ' ∧ ∀ y, y < 480 → σ' 34 0 y = 0 := by
  intro d
  induction d with
  | zero =>
    intro i m σ hi hm h
    obtain ⟨m, rfl⟩ : ∃ m', m = m' + 1 := ⟨m - 1, by omega⟩
    refine ⟨σ, ?_, qsm.refl _ _, fun y hy => h y (by omega)⟩
    simp only [l_X8_levels_6, b_X8_levels_6]
    rw [if_pos (by rw [show (480 : Int32) = nI 480 from rfl]; exact nI_le (by omega) (by omega))]
  | succ d ih =>
    intro i m σ hi hm h
    obtain ⟨m, rfl⟩ : ∃ m', m = m' + 1 := ⟨m - 1, by omega⟩
    simp only [l_X8_levels_6, b_X8_levels_6]
    rw [if_neg (by rw [show (480 : Int32) = nI 480 from rfl]; exact nI_ge (by omega) (by omega)), if_pos (n_in (by omega) (by decide)), nI_clamp (by omega), qlet_eq, nI_1]
    obtain ⟨σ2, e2, q2, r2⟩ := ih (i + 1) m (qu σ 34 0 i 0) (by omega) (by omega) (fun y hy => by
      rw [qu_at]
      by_cases e : y = i
      · rw [if_pos ⟨rfl, rfl, e⟩]
      · rw [if_neg (fun h => e h.2.2)]; exact h y (by omega))
    exact ⟨σ2, e2, (qsm_qu σ 34 0 i 0).trans q2, r2⟩
theorem r_levels (W : PW P) {σ : qS} (H : RepR σ 27 0 P) : ∃ σ', f_X8_levels σ = qdo σ' ∧ qsm [31, 32, 33, 34] σ σ' ∧ (∀ t, t < pn P → σ' 31 0 t = pE P t) ∧ (∀ t, t < pn P → σ' 32 0 t = pL P t) ∧ LvR P σ' (pst P (pn P)).1 (pst P (pn P)).2 := by
  have hn := W.1
  obtain ⟨σ1, e1, q1, a1, b1⟩ := r_starts W H
  obtain ⟨σ2, e2, q2, r2⟩ := r_zero_loop 480 0 qFU σ1 (by omega) (by decide) (fun y hy => by omega)
  have H2 := (H.same q1 (by simp)).same q2 (by simp)
  have b2 : ∀ t, t < pn P → σ2 32 0 t = pL P t := fun t ht => by rw [q2 32 0 (by simp)]; exact b1 t ht
  obtain ⟨σ3, e3, q3, L3⟩ := r_lev_loop W (pn P) 0 qFU σ2 (by omega) (by unfold qFU; omega) H2 b2
    ⟨fun t ht hb => absurd (hb.symm.trans (pst0 P t)) (by decide), fun r d hr hd => by
      rw [r2 _ (by omega), pU_none (B := 0) (fun u hu => absurd (hu.symm.trans (pst0 P u)) (by decide)) (Nat.zero_le _)]
      rfl⟩
  refine ⟨σ3, ?_, (q1.mono (by simp)).trans ((q2.mono (by simp)).trans (q3.mono (by simp))), fun t ht => by rw [q3 31 0 (by simp), q2 31 0 (by simp)]; exact a1 t ht, fun t ht => by rw [q3 32 0 (by simp)]; exact b2 t ht, L3⟩
  unfold f_X8_levels
  rw [e1, qb_V]
  exact e2.trans e3
/-- the greatest finish -/
theorem pend_le (W : PW P) : ∀ i, i ≤ pn P → ∀ x, pend P i ≤ x ↔ ∀ u, qbit (pst P i).1 u = true → (pst P i).2 u + pdn P u ≤ x := by
  have hn := W.1
  intro i
  induction i with
  | zero => intro _ x; exact ⟨fun _ u hu => absurd (hu.symm.trans (pst0 P u)) (by decide), fun _ => Nat.zero_le _⟩
  | succ i ih =>
    intro hi x
    obtain ⟨s1, s2, -, -, -, -⟩ := pst_step W (i := i) (by omega)
    have hbit : ∀ u, qbit (pst P (i + 1)).1 u = (qbit (pst P i).1 u || decide (pur P (pst P i).1 = u)) := fun u => qbit_put (by omega)
    have hl : ∀ u, (pst P (i + 1)).2 u = if u = pur P (pst P i).1 then plow P (pst P i).1 (pst P i).2 (pur P (pst P i).1) 200 (ps0 P (pst P i).2 (pur P (pst P i).1)) else (pst P i).2 u := fun u => rfl
    have hnb := (pready_iff.mp s2).1
    rw [pend_s, Nat.max_le, ih (by omega)]
    constructor
    · rintro ⟨h1, h2⟩ u hu
      rw [hbit, Bool.or_eq_true, decide_eq_true_iff] at hu
      rw [hl]
      by_cases e : u = pur P (pst P i).1
      · rw [if_pos e, e]; exact h2
      · rw [if_neg e]
        exact hu.elim (h1 u) (fun h => absurd h.symm e)
    · intro h
      refine ⟨fun u hu => ?_, ?_⟩
      · have := h u (by rw [hbit, hu]; rfl)
        rw [hl, if_neg (fun e => by rw [e, hnb] at hu; cases hu)] at this
        exact this
      · have := h (pur P (pst P i).1) (by rw [hbit]; simp)
        rw [hl, if_pos rfl] at this
        exact this
theorem pst_full (W : PW P) {t : Nat} (ht : t < pn P) : qbit (pst P (pn P)).1 t = true := gcnt_full (pst_spec W (pn P) (Nat.le_refl _)).1 t ht
def pV (P : qP) (t : Nat) : Nat := (pst P (pn P)).2 t
theorem pend_last (W : PW P) (hb : pend P (pn P) ≤ 138) : plast P (fun t => nI (pV P t)) = nI (pend P (pn P)) := by
  have hV : ∀ t, t < pn P → pV P t + pdn P t ≤ pend P (pn P) := fun t ht => (pend_le W (pn P) (Nat.le_refl _) _).mp (Nat.le_refl _) t (pst_full W ht)
  apply i_eq
  rw [nI_toInt (by omega)]
  apply Int.le_antisymm
  · rw [plast_le]
    refine ⟨by omega, fun u hu => ?_⟩
    have := hV u hu
    rw [(W.dn hu).1, nI_add, nI_toInt (by omega)]
    omega
  · have h1 : (plast P (fun t => nI (pV P t))).toInt ≤ (plast P (fun t => nI (pV P t))).toInt := Int.le_refl _
    rw [plast_le] at h1
    have h2 : pend P (pn P) ≤ (plast P (fun t => nI (pV P t))).toInt.toNat := by
      rw [pend_le W (pn P) (Nat.le_refl _)]
      intro u hu
      have hu' := ((pst_spec W (pn P) (Nat.le_refl _)).2 u hu).1
      have h3 := h1.2 u hu'
      have h4 := hV u hu'
      rw [(W.dn hu').1, nI_add, nI_toInt (by omega)] at h3
      have : pV P u = (pst P (pn P)).2 u := rfl
      omega
    omega
end RL
end
section
/-! THE INVARIANT of a run of calls: class and reference hold the same -/
def HistOK (σ : qS) (hs : List qP) : Prop := hs.length ≤ 8 ∧ σ 9 0 1 = nI hs.length ∧ σ 26 0 5 = nI hs.length ∧ (∀ i Q, hs[i]? = some Q → PW Q ∧ RepR σ 30 (77 * i) Q) ∧ ∃ nx, nx < 8 ∧ σ 9 0 2 = nI nx ∧ ∀ i Q, hs[i]? = some Q → Rep σ (3 + (nx + 8 - hs.length + i) % 8) Q
def SaveOK (σ : qS) (sv : qP) : Prop := σ 0 0 9 = σ 26 0 4 ∧ (σ 0 0 9 = 0 ∨ (σ 0 0 9 = 1 ∧ PW sv ∧ Rep σ 2 sv ∧ RepR σ 29 0 sv))
def TextOK (σ : qS) (n : Nat) : Prop := n ≤ 60 ∧ σ 19 0 3 = nI n ∧ σ 26 0 14 = nI n ∧ ∀ i, i < n → σ 20 0 i = σ 35 0 i ∧ 32 ≤ (σ 20 0 i).toInt ∧ (σ 20 0 i).toInt ≤ 126
def ErrOK (σ : qS) : Prop := σ 0 0 10 = σ 26 0 6 ∧ σ 0 0 11 = σ 26 0 7 ∧ (¬ σ 0 0 11 = -1 → σ 0 0 12 = σ 26 0 8 ∧ 0 ≤ (σ 0 0 12).toInt ∧ (σ 0 0 12).toInt ≤ 126)
def OutOK (σ : qS) (n : Nat) : Prop := n ≤ 414 ∧ σ 23 0 1 = nI n ∧ σ 26 0 16 = nI n ∧ ∀ i, i < n → σ 24 0 i = σ 36 0 i ∧ 0 ≤ (σ 24 0 i).toInt ∧ (σ 24 0 i).toInt ≤ 126
def InvB (σ : qS) (P : qP) (hs : List qP) (sv : qP) : Prop := PW P ∧ Rep σ 0 P ∧ RepR σ 27 0 P ∧ HistOK σ hs ∧ SaveOK σ sv ∧ (∃ n, TextOK σ n) ∧ ErrOK σ ∧ ∃ n, OutOK σ n
def PlanSt (P : qP) (σ : qS) : Prop := σ 0 0 8 = 0 ∨ (σ 0 0 8 = 1 ∧ PlanOK P σ)
def Inv (σ : qS) : Prop := ∃ P hs sv, InvB σ P hs sv ∧ PlanSt P σ
/-- what a question may move -/
def Qt (σ σ' : qS) : Prop := (∀ a b, a ∉ [0, 11, 12, 13, 14, 15, 16, 17, 18, 25, 26, 28, 31, 32, 33, 34, 37, 38, 39] → σ' a b = σ a b) ∧ (∀ x, ¬ x = 8 → σ' 0 0 x = σ 0 0 x) ∧ ∀ x, ¬ x = 17 → σ' 26 0 x = σ 26 0 x
theorem Qt.refl (σ : qS) : Qt σ σ := ⟨fun _ _ _ => rfl, fun _ _ => rfl, fun _ _ => rfl⟩
theorem Qt.trans {σ σ' σ'' : qS} (h : Qt σ σ') (h2 : Qt σ' σ'') : Qt σ σ'' := ⟨fun a b ha => (h2.1 a b ha).trans (h.1 a b ha), fun x hx => (h2.2.1 x hx).trans (h.2.1 x hx), fun x hx => (h2.2.2 x hx).trans (h.2.2 x hx)⟩
theorem Qt.of {ks : List Nat} {σ σ' : qS} (h : qsm ks σ σ') (hk : ∀ k ∈ ks, k ∈ [11, 12, 13, 14, 15, 16, 17, 18, 25, 28, 31, 32, 33, 34, 37, 38, 39]) : Qt σ σ' := by
  have e : ∀ a, a ∉ [11, 12, 13, 14, 15, 16, 17, 18, 25, 28, 31, 32, 33, 34, 37, 38, 39] → ∀ b, σ' a b = σ a b := fun a ha b => h a b (fun h2 => ha (hk a h2))
  refine ⟨fun a b ha => e a (fun h2 => ha ?_) b, fun x _ => by rw [e 0 (by simp)], fun x _ => by rw [e 26 (by simp)]⟩
  simp only [List.mem_cons, List.not_mem_nil, or_false] at h2 ⊢
  omega
theorem Qt.thr (σ : qS) (v : Int32) : Qt σ (qu σ 26 0 17 v) := by
  refine ⟨fun a b ha => qu_other σ (fun h => ha (by rw [h.1]; simp)), fun x _ => by rw [qu_at, if_neg (by simp)], fun x hx => by rw [qu_at, if_neg (fun h => hx h.2.2)]⟩
theorem Qt.fits (σ : qS) (v : Int32) : Qt σ (qu σ 0 0 8 v) := by
  refine ⟨fun a b ha => qu_other σ (fun h => ha (by rw [h.1]; simp)), fun x hx => by rw [qu_at, if_neg (fun h => hx h.2.2)], fun x hx => by rw [qu_at, if_neg (by simp)]⟩
theorem Qt.k {σ σ' : qS} (h : Qt σ σ') (a b : Nat) (ha : a ∉ [0, 11, 12, 13, 14, 15, 16, 17, 18, 25, 26, 28, 31, 32, 33, 34, 37, 38, 39]) : σ' a b = σ a b := h.1 a b ha
theorem Rep.qt {σ σ' : qS} (h : Qt σ σ') {j : Nat} {P : qP} (H : Rep σ j P) : Rep σ' j P := by
  have e : ∀ a, 1 ≤ a → a ≤ 8 → ∀ b, σ' a b = σ a b := fun a h1 h2 b => h.1 a b (by simp only [List.mem_cons, List.not_mem_nil, or_false]; omega)
  refine ⟨by rw [e 1 (by omega) (by omega)]; exact H.1, fun f t hf ht => by rw [e (2 + f) (by omega) (by omega)]; exact H.2.1 f t hf ht, fun r hr => by rw [e 8 (by omega) (by omega)]; exact H.2.2.1 r hr, by rw [e 1 (by omega) (by omega)]; exact H.2.2.2⟩
theorem RepR.qt {σ σ' : qS} (h : Qt σ σ') {k o : Nat} {P : qP} (H : RepR σ k o P) (hk : k = 27 ∨ k = 29 ∨ k = 30) : RepR σ' k o P := by
  have e : σ' k 0 = σ k 0 := h.1 k 0 (by simp only [List.mem_cons, List.not_mem_nil, or_false]; omega)
  unfold RepR
  rw [e]
  exact H
theorem InvB.qt {σ σ' : qS} {P : qP} {hs : List qP} {sv : qP} (I : InvB σ P hs sv) (h : Qt σ σ') : InvB σ' P hs sv := by
  obtain ⟨h1, h2, h3, ⟨a1, a2, a3, a4, nx, a5, a6, a7⟩, ⟨b1, b2⟩, ⟨n, c1, c2, c3, c4⟩, ⟨d1, d2, d3⟩, m, e1, e2, e3, e4⟩ := I
  have k9 : σ' 9 0 = σ 9 0 := h.k 9 0 (by simp)
  have k19 : σ' 19 0 = σ 19 0 := h.k 19 0 (by simp)
  have k20 : σ' 20 0 = σ 20 0 := h.k 20 0 (by simp)
  have k23 : σ' 23 0 = σ 23 0 := h.k 23 0 (by simp)
  have k24 : σ' 24 0 = σ 24 0 := h.k 24 0 (by simp)
  have k35 : σ' 35 0 = σ 35 0 := h.k 35 0 (by simp)
  have k36 : σ' 36 0 = σ 36 0 := h.k 36 0 (by simp)
  have z : ∀ x, ¬ x = 8 → σ' 0 0 x = σ 0 0 x := h.2.1
  have y : ∀ x, ¬ x = 17 → σ' 26 0 x = σ 26 0 x := h.2.2
  refine ⟨h1, h2.qt h, h3.qt h (Or.inl rfl), ⟨a1, by rw [k9]; exact a2, by rw [y 5 (by decide)]; exact a3, fun i Q hQ => ⟨(a4 i Q hQ).1, (a4 i Q hQ).2.qt h (Or.inr (Or.inr rfl))⟩, nx, a5, by rw [k9]; exact a6, fun i Q hQ => (a7 i Q hQ).qt h⟩,
    ⟨by rw [z 9 (by decide), y 4 (by decide)]; exact b1, ?_⟩, ⟨n, c1, by rw [k19]; exact c2, by rw [y 14 (by decide)]; exact c3, fun i hi => by rw [k20, k35]; exact c4 i hi⟩, ⟨by rw [z 10 (by decide), y 6 (by decide)]; exact d1, by rw [z 11 (by decide), y 7 (by decide)]; exact d2, by rw [z 11 (by decide), z 12 (by decide), y 8 (by decide)]; exact d3⟩, m, e1, by rw [k23]; exact e2, by rw [y 16 (by decide)]; exact e3, fun i hi => by rw [k24, k36]; exact e4 i hi⟩
  rw [z 9 (by decide)]
  rcases b2 with b2 | ⟨b2, b3, b4, b5⟩
  · exact Or.inl b2
  · exact Or.inr ⟨b2, b3, b4.qt h, b5.qt h (Or.inr (Or.inl rfl))⟩
/-- what the reference's questions may move: nothing of the class -/
def Qr (σ σ' : qS) : Prop := (∀ a b, a ∉ [26, 28, 31, 32, 33, 34, 37] → σ' a b = σ a b) ∧ ∀ x, ¬ x = 17 → σ' 26 0 x = σ 26 0 x
theorem Qr.refl (σ : qS) : Qr σ σ := ⟨fun _ _ _ => rfl, fun _ _ => rfl⟩
theorem Qr.trans {σ σ' σ'' : qS} (h : Qr σ σ') (h2 : Qr σ' σ'') : Qr σ σ'' := ⟨fun a b ha => (h2.1 a b ha).trans (h.1 a b ha), fun x hx => (h2.2 x hx).trans (h.2 x hx)⟩
theorem Qr.qt {σ σ' : qS} (h : Qr σ σ') : Qt σ σ' := ⟨fun a b ha => h.1 a b (fun h2 => ha (by simp only [List.mem_cons, List.not_mem_nil, or_false] at h2 ⊢; omega)), fun x _ => by rw [h.1 0 0 (by simp)], h.2⟩
theorem Qr.thr (σ : qS) (v : Int32) : Qr σ (qu σ 26 0 17 v) := ⟨fun a b ha => qu_other σ (fun h => ha (by rw [h.1]; simp)), fun x hx => by rw [qu_at, if_neg (fun h => hx h.2.2)]⟩
theorem Qr.of {ks : List Nat} {σ σ' : qS} (h : qsm ks σ σ') (hk : ∀ k ∈ ks, k ∈ [28, 31, 32, 33, 34, 37]) : Qr σ σ' := by
  have e : ∀ a, a ∉ [28, 31, 32, 33, 34, 37] → ∀ b, σ' a b = σ a b := fun a ha b => h a b (fun h2 => ha (hk a h2))
  refine ⟨fun a b ha => e a (fun h2 => ha ?_) b, fun x _ => by rw [e 26 (by simp)]⟩
  simp only [List.mem_cons, List.not_mem_nil, or_false] at h2 ⊢
  omega
theorem PlanSt.qr {σ σ' : qS} {P : qP} (h : Qr σ σ') (I : PlanSt P σ) : PlanSt P σ' := by
  have e : ∀ a b, a ∉ [26, 28, 31, 32, 33, 34, 37] → σ' a b = σ a b := h.1
  have q : qsm [26, 28, 31, 32, 33, 34, 37] σ σ' := fun a b ha => e a b ha
  unfold PlanSt
  rw [e 0 0 (by simp)]
  rcases I with I | ⟨I1, I2⟩
  · exact Or.inl I
  · exact Or.inr ⟨I1, I2.same q (by simp)⟩
/-! the reference's conditions -/
def thrc (a b c : Bool) : Nat := if a = false then 1 else if b = false then 2 else if c = false then 3 else 0
theorem r_holds (a b c : Bool) (σ : qS) : f_X8_holds (qb1 a) (qb1 b) (qb1 c) σ = qan (qb1 (a && b && c)) (qu σ 26 0 17 (nI (thrc a b c))) := by
  have e : ∀ v : Int32, qu σ 26 0 17 v 26 0 17 = v := fun v => by rw [qu_at, if_pos ⟨rfl, rfl, rfl⟩]
  unfold f_X8_holds
  simp only [qlet_eq, e]
  cases a <;> cases b <;> cases c <;> rfl
theorem r_goes (a : Bool) (σ : qS) : f_X8_goes (qb1 a) σ = qan (qb1 a) (qu σ 26 0 17 (nI (thrc a true true))) := by
  unfold f_X8_goes
  have := r_holds a true true σ
  rw [show qb1 true = 1 from rfl] at this
  rw [this, qb_I, Bool.and_true, Bool.and_true, if_pos (qb1_bo _)]
/-! the class's -/
def isT (P : qP) (x : Int32) : Bool := decide ((0 : Int32) ≤ x ∧ x ≤ nI (pn P) - 1)
theorem isT_iff {P : qP} (W : PW P) {x : Int32} : isT P x = true ↔ ∃ t, t < pn P ∧ x = nI t := e_task (by have := W.1; omega) x
theorem isT_n {P : qP} (W : PW P) {t : Nat} (h : t < pn P) : isT P (nI t) = true := (isT_iff W).mpr ⟨t, h, rfl⟩
theorem c_faultT {σ : qS} {j : Nat} {P : qP} (H : Rep σ j P) (x : Int32) : f_X5_faultOfTask j x σ = qan (if isT P x = true then 46 else 105) σ := by
  unfold f_X5_faultOfTask isT
  rw [e_isWithin, qb_I, H.1]
  cases decide ((0 : Int32) ≤ x ∧ x ≤ nI (pn P) - 1) <;> rfl
theorem c_reqT {σ : qS} {P : qP} (H : Rep σ 0 P) (x : Int32) : f_X7_requireTask x σ = if isT P x = true then qdo σ else qth qIOE σ := by
  unfold f_X7_requireTask
  rw [c_faultT H, qb_I]
  unfold f_X7_refuse
  cases isT P x <;> rfl
theorem c_plan {σ : qS} {P : qP} {hs : List qP} {sv : qP} (I : InvB σ P hs sv) (S : PlanSt P σ) : ∃ σ', f_X7_currentPlan σ = some (.inl (some (qR 11 0)), σ') ∧ Qt σ σ' ∧ InvB σ' P hs sv ∧ σ' 0 0 8 = 1 ∧ PlanOK P σ' := by
  unfold f_X7_currentPlan
  rcases S with S | ⟨S, S2⟩
  · obtain ⟨σ1, e1, q1, p1⟩ := c_make I.1 I.2.1
    rw [if_pos S, e1, qb_V, qlet_eq]
    have q := (Qt.of q1 (by simp)).trans (Qt.fits σ1 1)
    exact ⟨_, rfl, q, I.qt q, by rw [qu_at, if_pos ⟨rfl, rfl, rfl⟩], p1.same (qsm_qu σ1 0 0 8 1) (by simp)⟩
  · rw [if_neg (by rw [S]; decide)]
    exact ⟨σ, rfl, Qt.refl σ, I, S, S2⟩
theorem lg_same (x : Int64) : lg_cmp x x = 0 := by
  unfold lg_cmp
  rw [if_neg (show ¬ x > x from Int64.lt_irrefl), if_pos rfl]
/-- a question's case: the code k, the answer v -/
def CaseL (w : qS → Option qO) (q : qS → Option qO) (σ : qS) : Prop := ∃ (k : Nat) (σ1 : qS) (b : Int32) (σ2 : qS), k < 9 ∧ w σ = qan (nI k) σ1 ∧ q σ1 = qan b σ2 ∧ σ2 26 0 17 = nI k ∧ (k = 0 → σ2 38 0 0 = b) ∧ Inv σ2
end
section
/-! questions of a task, a resource -/
section QU
variable {P : qP} {hs : List qP} {sv : qP} {σ : qS}
theorem InvB.out {σ1 : qS} (I : InvB σ1 P hs sv) (r : Int32) : InvB (qu σ1 38 0 0 r) P hs sv := I.qt (Qt.of (qsm_qu σ1 38 0 0 r) (by simp))
theorem PlanSt.out {σ1 : qS} (S : PlanSt P σ1) (r : Int32) : PlanSt P (qu σ1 38 0 0 r) := by
  unfold PlanSt
  rw [qu_at, if_neg (by simp)]
  exact S.elim Or.inl (fun h => Or.inr ⟨h.1, h.2.same (qsm_qu σ1 38 0 0 r) (by simp)⟩)
theorem case0 {w q : qS → Option qO} {σ1 σ2 : qS} {r : Int32} (hw : w σ = qan 0 (qu σ1 38 0 0 r)) (I : InvB σ1 P hs sv) (S : PlanSt P σ1) (hq : q (qu σ1 38 0 0 r) = qan r σ2) (ht : σ2 26 0 17 = 0) (hr : Qr (qu σ1 38 0 0 r) σ2) : CaseL w q σ :=
  ⟨0, _, r, σ2, by decide, hw, hq, ht, fun _ => by rw [hr.1 38 0 (by simp), qu_at, if_pos ⟨rfl, rfl, rfl⟩], P, hs, sv, (I.out r).qt hr.qt, (S.out r).qr hr⟩
theorem casek {w q : qS → Option qO} {σ1 σ2 : qS} {b : Int32} {k : Nat} (hk : k < 9) (hk0 : k ≠ 0) (hw : w σ = qan (nI k) σ1) (I : InvB σ1 P hs sv) (S : PlanSt P σ1) (hq : q σ1 = qan b σ2) (ht : σ2 26 0 17 = nI k) (hr : Qr σ1 σ2) : CaseL w q σ :=
  ⟨k, σ1, b, σ2, hk, hw, hq, ht, fun h => absurd h hk0, P, hs, sv, I.qt hr.qt, S.qr hr⟩
theorem thr_at (σ : qS) (v : Int32) : qu σ 26 0 17 v 26 0 17 = v := by rw [qu_at, if_pos ⟨rfl, rfl, rfl⟩]
theorem r_isT (H : RepR σ 27 0 P) (x : Int32) : f_X8_isTask x σ = qan (qb1 (isT P x)) σ := r_isTask H x
theorem r_asks (H : RepR σ 27 0 P) (W : PW P) {f t : Nat} (hf : f < 6) (ht : t < pn P) : f_X8_asks (nI t) (nI f) σ = qan (pf P f t) (qu σ 26 0 17 0) := by
  unfold f_X8_asks
  rw [r_isT H, isT_n W ht, qb_I, r_goes, qb_I, if_neg (by decide), r_of (H.qt (Qt.thr σ _) (Or.inl rfl)) W ht hf, qb_I]
  rfl
theorem r_asks0 (H : RepR σ 27 0 P) {f : Int32} {x : Int32} (hx : isT P x = false) : f_X8_asks x f σ = qan 0 (qu σ 26 0 17 1) := by
  unfold f_X8_asks
  rw [r_isT H, hx, qb_I, r_goes, qb_I, if_pos (by decide)]
  rfl
theorem k_duration (a : Int32) (h : Inv σ) : CaseL (f_L_duration a) (f_X8_duration a) σ := by
  obtain ⟨P, hs, sv, I, S⟩ := h
  have W := I.1
  have H := I.2.1
  cases hx : isT P a
  · exact casek (k := 1) (b := 0) (by decide) (by decide) (by unfold f_L_duration f_X7_duration; rw [c_reqT H, hx, if_neg (by decide)]; rfl) I S (by unfold f_X8_duration; rw [r_asks0 I.2.2.1 hx, qb_I]; try rfl) (thr_at _ _) (Qr.thr _ _)
  · obtain ⟨t, ht, rfl⟩ := (isT_iff W).mp hx
    exact case0 (r := pf P 0 t) (by unfold f_L_duration f_X7_duration; rw [c_reqT H, hx, if_pos rfl, qb_V, c_dur H W ht]; rfl) I S (by unfold f_X8_duration; rw [show (0 : Int32) = nI 0 from rfl, r_asks (I.out _).2.2.1 W (by decide) ht, qb_I]; try rfl) (thr_at _ _) (Qr.thr _ _)
theorem k_resource (a : Int32) (h : Inv σ) : CaseL (f_L_resource a) (f_X8_resource a) σ := by
  obtain ⟨P, hs, sv, I, S⟩ := h
  have W := I.1
  have H := I.2.1
  cases hx : isT P a
  · exact casek (k := 1) (b := 0) (by decide) (by decide) (by unfold f_L_resource f_X7_resource; rw [c_reqT H, hx, if_neg (by decide)]; rfl) I S (by unfold f_X8_resource; rw [r_asks0 I.2.2.1 hx, qb_I]; try rfl) (thr_at _ _) (Qr.thr _ _)
  · obtain ⟨t, ht, rfl⟩ := (isT_iff W).mp hx
    exact case0 (r := pf P 1 t) (by unfold f_L_resource f_X7_resource; rw [c_reqT H, hx, if_pos rfl, qb_V, c_res H W ht]; rfl) I S (by unfold f_X8_resource; rw [show (1 : Int32) = nI 1 from rfl, r_asks (I.out _).2.2.1 W (by decide) ht, qb_I]; try rfl) (thr_at _ _) (Qr.thr _ _)
theorem k_demand (a : Int32) (h : Inv σ) : CaseL (f_L_demand a) (f_X8_demand a) σ := by
  obtain ⟨P, hs, sv, I, S⟩ := h
  have W := I.1
  have H := I.2.1
  cases hx : isT P a
  · exact casek (k := 1) (b := 0) (by decide) (by decide) (by unfold f_L_demand f_X7_demand; rw [c_reqT H, hx, if_neg (by decide)]; rfl) I S (by unfold f_X8_demand; rw [r_asks0 I.2.2.1 hx, qb_I]; try rfl) (thr_at _ _) (Qr.thr _ _)
  · obtain ⟨t, ht, rfl⟩ := (isT_iff W).mp hx
    exact case0 (r := pf P 2 t) (by unfold f_L_demand f_X7_demand; rw [c_reqT H, hx, if_pos rfl, qb_V, c_dem H W ht]; rfl) I S (by unfold f_X8_demand; rw [show (2 : Int32) = nI 2 from rfl, r_asks (I.out _).2.2.1 W (by decide) ht, qb_I]; try rfl) (thr_at _ _) (Qr.thr _ _)
theorem k_release (a : Int32) (h : Inv σ) : CaseL (f_L_release a) (f_X8_release a) σ := by
  obtain ⟨P, hs, sv, I, S⟩ := h
  have W := I.1
  have H := I.2.1
  cases hx : isT P a
  · exact casek (k := 1) (b := 0) (by decide) (by decide) (by unfold f_L_release f_X7_release; rw [c_reqT H, hx, if_neg (by decide)]; rfl) I S (by unfold f_X8_release; rw [r_asks0 I.2.2.1 hx, qb_I]; try rfl) (thr_at _ _) (Qr.thr _ _)
  · obtain ⟨t, ht, rfl⟩ := (isT_iff W).mp hx
    exact case0 (r := pf P 3 t) (by unfold f_L_release f_X7_release; rw [c_reqT H, hx, if_pos rfl, qb_V, c_rel H W ht]; rfl) I S (by unfold f_X8_release; rw [show (3 : Int32) = nI 3 from rfl, r_asks (I.out _).2.2.1 W (by decide) ht, qb_I]; try rfl) (thr_at _ _) (Qr.thr _ _)
def isR (x : Int32) : Bool := decide ((0 : Int32) ≤ x ∧ x ≤ 2)
theorem isR_iff {x : Int32} : isR x = true ↔ ∃ r, r < 3 ∧ x = nI r := by
  have := e_task (n := 3) (by decide) x
  rw [show nI 3 - 1 = (2 : Int32) from by decide] at this
  exact this
theorem c_reqR (x : Int32) (σ : qS) : f_X7_requireResource x σ = if isR x = true then qdo σ else qth qIAE σ := by
  unfold f_X7_requireResource isR
  rw [e_isWithin, qb_I]
  cases decide ((0 : Int32) ≤ x ∧ x ≤ 2) <;> rfl
theorem r_isR (x : Int32) (σ : qS) : f_X8_isResource x σ = qan (qb1 (isR x)) σ := by
  unfold f_X8_isResource isR
  rw [r_isIn, qb_I, if_pos (qb1_bo _)]
theorem r_lim (H : RepR σ 27 0 P) {r : Nat} (hr : r < 3) : σ 27 0 (2 + r) = pl P r := by
  have := H.2.2.1 r hr
  rw [Nat.zero_add] at this
  exact this
theorem k_limit (a : Int32) (h : Inv σ) : CaseL (f_L_limit a) (f_X8_limit a) σ := by
  obtain ⟨P, hs, sv, I, S⟩ := h
  have W := I.1
  have H := I.2.1
  cases hx : isR a
  · exact casek (k := 1) (b := 0) (by decide) (by decide) (by unfold f_L_limit f_X7_limit; rw [c_reqR, hx, if_neg (by decide)]; rfl) I S (by unfold f_X8_limit; rw [r_isR, hx, qb_I, r_goes, qb_I, if_pos (by decide)]; try rfl) (thr_at _ _) (Qr.thr _ _)
  · obtain ⟨r, hr, rfl⟩ := isR_iff.mp hx
    exact case0 (r := pl P r) (by unfold f_L_limit f_X7_limit; rw [c_reqR, hx, if_pos rfl, qb_V, c_lim H hr]; rfl) I S (by unfold f_X8_limit; rw [r_isR, hx, qb_I, r_goes, qb_I, if_neg (by decide), show (2 : Int32) = nI 2 from rfl, nI_add, if_pos (n_in (by omega) (by decide)), nI_clamp (by omega), r_lim ((I.out _).2.2.1.qt (Qt.thr _ _) (Or.inl rfl)) hr]; try rfl) (thr_at _ _) (Qr.thr _ _)
/-! two tasks -/
theorem k_dependsDirectly (a b : Int32) (h : Inv σ) : CaseL (f_L_dependsDirectly a b) (f_X8_dependsDirectly a b) σ := by
  obtain ⟨P, hs, sv, I, S⟩ := h
  have W := I.1
  have H := I.2.1
  have hn := W.1
  have no : f_X7_dependsDirectly a b σ = qth qIOE σ → f_X8_dependsDirectly a b σ = j_X8_dependsDirectly_21 a b σ → CaseL (f_L_dependsDirectly a b) (f_X8_dependsDirectly a b) σ := fun h1 h2 =>
    casek (k := 1) (b := 0) (by decide) (by decide) (by unfold f_L_dependsDirectly; rw [h1]; rfl) I S (by rw [h2]; unfold j_X8_dependsDirectly_21; rw [show (0 : Int32) = qb1 false from rfl, r_goes, qb_I, if_pos (by decide)]; try rfl) (thr_at _ _) (Qr.thr _ _)
  cases hx : isT P a
  · exact no (by unfold f_X7_dependsDirectly; rw [c_reqT H, hx, if_neg (by decide)]; rfl) (by unfold f_X8_dependsDirectly; rw [r_isT I.2.2.1, hx, qb_I, if_pos (by decide)])
  · cases hy : isT P b
    · exact no (by unfold f_X7_dependsDirectly; rw [c_reqT H, hx, if_pos rfl, qb_V, c_reqT H, hy, if_neg (by decide)]; rfl) (by unfold f_X8_dependsDirectly; rw [r_isT I.2.2.1, hx, qb_I, if_neg (by decide), r_isT I.2.2.1, hy, qb_I, if_pos (by decide)])
    · obtain ⟨t, ht, rfl⟩ := (isT_iff W).mp hx
      obtain ⟨u, hu, rfl⟩ := (isT_iff W).mp hy
      have hc : f_X7_dependsDirectly (nI t) (nI u) σ = qan (qb1 (ped P t u)) σ := by
        unfold f_X7_dependsDirectly
        rw [c_reqT H, hx, if_pos rfl, qb_V, c_reqT H, hy, if_pos rfl, qb_V, c_linked H W ht (by omega), qb_I, if_pos (qb1_bo _)]
      refine case0 (r := qb1 (ped P t u)) ?_ I S ?_ (thr_at _ _) (Qr.thr _ 0)
      · unfold f_L_dependsDirectly
        rw [hc, qb_I]
        cases ped P t u <;> rfl
      · have R1 := (I.out (qb1 (ped P t u))).2.2.1
        have R2 : RepR (qu (qu σ 38 0 0 (qb1 (ped P t u))) 26 0 17 0) 27 0 P := R1.qt (Qt.thr _ _) (Or.inl rfl)
        unfold f_X8_dependsDirectly
        rw [r_isT R1, hx, qb_I, if_neg (by decide), r_isT R1, hy, qb_I, if_neg (by decide), show (1 : Int32) = qb1 true from rfl, r_goes, qb_I, if_neg (by decide)]
        show qbind (f_X8_isNeeded (nI t) (nI u) (qu (qu σ 38 0 0 (qb1 (ped P t u))) 26 0 17 0)) _ _ = _
        rw [r_needed R2 W ht (by omega), qb_I]
        cases ped P t u <;> rfl
end QU
end
section
/-! questions of the plan -/
section QP2
variable {P : qP} {hs : List qP} {sv : qP} {σ : qS}
theorem qb_P {s : qS} {k : qS → Option qO} {ke : String → qS → Option qO} : qbind (some (.inl (some (qR 11 0)), s)) (qvS 11 k) ke = k s := by
  simp [qbind, qvS]
theorem r_isBehind (H : RepR σ 27 0 P) (W : PW P) (a b : Int32) : (isT P a && isT P b) = false ∧ f_X8_isBehind a b σ = qan 0 (qu σ 26 0 17 1) ∨ ∃ t u, t < pn P ∧ u < pn P ∧ a = nI t ∧ b = nI u ∧ f_X8_isBehind a b σ = qan (qb1 (prea P t u)) (qu σ 26 0 17 0) := by
  have hn := W.1
  have no : j_X8_isBehind_21 a b σ = qan 0 (qu σ 26 0 17 1) := by
    unfold j_X8_isBehind_21
    rw [show (0 : Int32) = qb1 false from rfl, r_goes, qb_I, if_pos (by decide)]
    rfl
  unfold f_X8_isBehind
  rw [r_isT H, qb_I]
  cases hx : isT P a
  · exact Or.inl ⟨rfl, by rw [if_pos (by rfl)]; exact no⟩
  · rw [if_neg (by decide), r_isT H, qb_I]
    cases hy : isT P b
    · exact Or.inl ⟨rfl, by rw [if_pos (by rfl)]; exact no⟩
    · obtain ⟨t, ht, rfl⟩ := (isT_iff W).mp hx
      obtain ⟨u, hu, rfl⟩ := (isT_iff W).mp hy
      refine Or.inr ⟨t, u, ht, hu, rfl, rfl, ?_⟩
      rw [if_neg (by decide), show (1 : Int32) = qb1 true from rfl, r_goes, qb_I, if_neg (by decide)]
      rw [r_doesDepend (H.qt (Qt.thr _ _) (Or.inl rfl)) W ht (by omega), qb_I]
      cases prea P t u <;> rfl
theorem c_two {F : qS → Option qO} {a b : Int32} (H : Rep σ 0 P) : qbind (f_X7_requireTask a σ) (qvV (fun s1 => qbind (f_X7_requireTask b s1) (qvV F) qE1)) qE1 = if (isT P a && isT P b) = true then F σ else qth qIOE σ := by
  rw [c_reqT H]
  cases isT P a
  · rfl
  · rw [if_pos rfl, qb_V, c_reqT H]
    cases isT P b <;> rfl
theorem k_depends (a b : Int32) (h : Inv σ) : CaseL (f_L_depends a b) (f_X8_depends a b) σ := by
  obtain ⟨P, hs, sv, I, S⟩ := h
  have W := I.1
  have H := I.2.1
  have hn := W.1
  rcases r_isBehind I.2.2.1 W a b with ⟨hf, e⟩ | ⟨t, u, ht, hu, rfl, rfl, -⟩
  · exact casek (k := 1) (b := 0) (by decide) (by decide) (by unfold f_L_depends f_X7_depends; rw [c_two H, hf, if_neg (by decide)]; rfl) I S (by unfold f_X8_depends; rw [e, qb_I, if_pos (Or.inl rfl)]; try rfl) (thr_at _ _) (Qr.thr _ _)
  · have R1 := (I.out (qb1 (prea P t u))).2.2.1
    rcases r_isBehind R1 W (nI t) (nI u) with ⟨hf, e⟩ | ⟨t', u', ht', hu', e1, e2, e⟩
    · rw [isT_n W ht, isT_n W hu] at hf; cases hf
    · rw [n_eq (by omega) (by omega)] at e1 e2
      subst e1; subst e2
      refine case0 (r := qb1 (prea P t u)) ?_ I S (by unfold f_X8_depends; rw [e, qb_I, if_pos (qb1_bo _)]) (thr_at _ _) (Qr.thr _ _)
      unfold f_L_depends f_X7_depends
      rw [c_two H, isT_n W ht, isT_n W hu, if_pos (show (true && true) = true from rfl), c_reaches H W ht (by omega), qb_I, if_pos (qb1_bo _), qb_I]
      cases prea P t u <;> rfl
theorem k_dependsByClosure (a b : Int32) (h : Inv σ) : CaseL (f_L_dependsByClosure a b) (f_X8_dependsByClosure a b) σ := by
  obtain ⟨P, hs, sv, I, S⟩ := h
  have W := I.1
  have H := I.2.1
  have hn := W.1
  rcases r_isBehind I.2.2.1 W a b with ⟨hf, e⟩ | ⟨t, u, ht, hu, rfl, rfl, -⟩
  · exact casek (k := 1) (b := 0) (by decide) (by decide) (by unfold f_L_dependsByClosure f_X7_dependsByClosure; rw [c_two H, hf, if_neg (by decide)]; rfl) I S (by unfold f_X8_dependsByClosure; rw [e, qb_I, if_pos (Or.inl rfl)]; try rfl) (thr_at _ _) (Qr.thr _ _)
  · obtain ⟨σ1, c1, q1, I1, s8, p1⟩ := c_plan I S
    have R1 := (I1.out (qb1 (prea P t u))).2.2.1
    rcases r_isBehind R1 W (nI t) (nI u) with ⟨hf, e⟩ | ⟨t', u', ht', hu', e1, e2, e⟩
    · rw [isT_n W ht, isT_n W hu] at hf; cases hf
    · rw [n_eq (by omega) (by omega)] at e1 e2
      subst e1; subst e2
      refine case0 (r := qb1 (prea P t u)) ?_ I1 (Or.inr ⟨s8, p1⟩) (by unfold f_X8_dependsByClosure; rw [e, qb_I, if_pos (qb1_bo _)]) (thr_at _ _) (Qr.thr _ _)
      unfold f_L_dependsByClosure f_X7_dependsByClosure
      rw [c_two H, isT_n W ht, isT_n W hu, if_pos (show (true && true) = true from rfl), c1, qb_P, e_at (show t < 12 by omega) (by decide), qb_I, e_hasBit (by omega), qb_I, p1.2.1 t ht u, if_pos (qb1_bo _), qb_I]
      cases prea P t u <;> rfl
theorem e_bc (x : Int32) (s s' : qS) : ∃ r, f_J6_bitCount_0f7a4 x s = qan r s ∧ f_J6_bitCount_0f7a4 x s' = qan r s' := ⟨_, rfl, rfl⟩
theorem k_neededCount (a : Int32) (h : Inv σ) : CaseL (f_L_neededCount a) (f_X8_neededCount a) σ := by
  obtain ⟨P, hs, sv, I, S⟩ := h
  have W := I.1
  have H := I.2.1
  cases hx : isT P a
  · obtain ⟨r, e1, e2⟩ := e_bc 0 (qu σ 26 0 17 1) σ
    exact casek (k := 1) (b := r) (by decide) (by decide) (by unfold f_L_neededCount f_X7_neededCount; rw [c_reqT H, hx, if_neg (by decide)]; rfl) I S (by unfold f_X8_neededCount; rw [r_asks0 I.2.2.1 hx, qb_I, e1, qb_I]; try rfl) (thr_at _ _) (Qr.thr _ _)
  · obtain ⟨t, ht, rfl⟩ := (isT_iff W).mp hx
    obtain ⟨r, e1, -⟩ := e_bc (pf P 4 t) σ σ
    obtain ⟨r', e2, e3⟩ := e_bc (pf P 4 t) (qu (qu σ 38 0 0 r) 26 0 17 0) σ
    have : r' = r := by
      rw [e1] at e3
      injection e3 with e3; injection e3 with e3; injection e3 with e3; injection e3 with e3; injection e3 with e3; injection e3 with e3
      exact e3.symm
    subst this
    exact case0 (r := r') (by unfold f_L_neededCount f_X7_neededCount; rw [c_reqT H, hx, if_pos rfl, qb_V, c_need H W ht, qb_I, e1]; rfl) I S (by unfold f_X8_neededCount; rw [show (4 : Int32) = nI 4 from rfl, r_asks (I.out _).2.2.1 W (by decide) ht, qb_I, e2, qb_I]) (thr_at _ _) (Qr.thr _ _)
/-- the reference's ends of a question of a task after its starts or levels -/
theorem r_end {σ2 : qS} {x : Int32} (R : RepR σ2 27 0 P) {F : qS → Option qO} : qbind (f_X8_isTask x σ2) (qvI (fun r1 s2 => qbind (f_X8_goes r1 s2) (qvI (fun r2 s3 => if r2 = 0 then (some (.inl (some (qI (0 : Int32))), s3)) else F s3)) qE0)) qE0 = if isT P x = true then F (qu σ2 26 0 17 0) else qan 0 (qu σ2 26 0 17 1) := by
  rw [r_isT R, qb_I, r_goes, qb_I]
  cases isT P x <;> rfl
theorem k_earliestStart (a : Int32) (h : Inv σ) : CaseL (f_L_earliestStart a) (f_X8_earliestStart a) σ := by
  obtain ⟨P, hs, sv, I, S⟩ := h
  have W := I.1
  have H := I.2.1
  have hn := W.1
  cases hx : isT P a
  · have R1 := I.2.2.1
    obtain ⟨σ2, e2, q2, a2, b2⟩ := r_starts W R1
    have R2 := R1.same q2 (by simp)
    refine casek (k := 1) (b := 0) (σ1 := σ) (σ2 := qu σ2 26 0 17 1) (by decide) (by decide) (by unfold f_L_earliestStart f_X7_earliestStart; rw [c_reqT H, hx, if_neg (by decide)]; rfl) I S ?_ (thr_at _ _) ((Qr.of q2 (by simp)).trans (Qr.thr _ _))
    unfold f_X8_earliestStart f_X8_early
    rw [e2, qb_V, r_end R2, hx, if_neg (by decide)]; rfl
  · obtain ⟨t, ht, rfl⟩ := (isT_iff W).mp hx
    obtain ⟨σ1, c1, q1, I1, s8, p1⟩ := c_plan I S
    have R1 := (I1.out (pE P t)).2.2.1
    obtain ⟨σ2, e2, q2, a2, b2⟩ := r_starts W R1
    have R2 := R1.same q2 (by simp)
    refine case0 (r := (pE P t)) (σ1 := σ1) (σ2 := qu σ2 26 0 17 0) ?_ I1 (Or.inr ⟨s8, p1⟩) ?_ (thr_at _ _) ((Qr.of q2 (by simp)).trans (Qr.thr _ _))
    · unfold f_L_earliestStart f_X7_earliestStart
      rw [c_reqT H, hx, if_pos rfl, qb_V, c1, qb_P, e_at (show t < 12 by omega) (by decide), qb_I, p1.2.2.1 t ht]; rfl
    · unfold f_X8_earliestStart f_X8_early
      rw [e2, qb_V, r_end R2, hx, if_pos rfl, if_pos (n_in (by omega) (by decide)), nI_clamp (by omega), qu_at, if_neg (by simp), a2 t ht]; rfl
theorem k_earliestStartByRounds (a : Int32) (h : Inv σ) : CaseL (f_L_earliestStartByRounds a) (f_X8_earliestStartByRounds a) σ := by
  obtain ⟨P, hs, sv, I, S⟩ := h
  have W := I.1
  have H := I.2.1
  have hn := W.1
  cases hx : isT P a
  · have R1 := I.2.2.1
    obtain ⟨σ2, e2, q2, a2, b2⟩ := r_starts W R1
    have R2 := R1.same q2 (by simp)
    refine casek (k := 1) (b := 0) (σ1 := σ) (σ2 := qu σ2 26 0 17 1) (by decide) (by decide) (by unfold f_L_earliestStartByRounds f_X7_earliestStartByRounds; rw [c_reqT H, hx, if_neg (by decide)]; rfl) I S ?_ (thr_at _ _) ((Qr.of q2 (by simp)).trans (Qr.thr _ _))
    unfold f_X8_earliestStartByRounds f_X8_early
    rw [e2, qb_V, r_end R2, hx, if_neg (by decide)]; rfl
  · obtain ⟨t, ht, rfl⟩ := (isT_iff W).mp hx
    obtain ⟨σ1, c1, q1, I1, s8, p1⟩ := c_plan I S
    have R1 := (I1.out (pE P t)).2.2.1
    obtain ⟨σ2, e2, q2, a2, b2⟩ := r_starts W R1
    have R2 := R1.same q2 (by simp)
    refine case0 (r := (pE P t)) (σ1 := σ1) (σ2 := qu σ2 26 0 17 0) ?_ I1 (Or.inr ⟨s8, p1⟩) ?_ (thr_at _ _) ((Qr.of q2 (by simp)).trans (Qr.thr _ _))
    · unfold f_L_earliestStartByRounds f_X7_earliestStartByRounds
      rw [c_reqT H, hx, if_pos rfl, qb_V, c1, qb_P, e_at (show t < 12 by omega) (by decide), qb_I, p1.2.2.2.1 t ht]; rfl
    · unfold f_X8_earliestStartByRounds f_X8_early
      rw [e2, qb_V, r_end R2, hx, if_pos rfl, if_pos (n_in (by omega) (by decide)), nI_clamp (by omega), qu_at, if_neg (by simp), a2 t ht]; rfl
theorem k_latestStart (a : Int32) (h : Inv σ) : CaseL (f_L_latestStart a) (f_X8_latestStart a) σ := by
  obtain ⟨P, hs, sv, I, S⟩ := h
  have W := I.1
  have H := I.2.1
  have hn := W.1
  cases hx : isT P a
  · have R1 := I.2.2.1
    obtain ⟨σ2, e2, q2, a2, b2⟩ := r_starts W R1
    have R2 := R1.same q2 (by simp)
    refine casek (k := 1) (b := 0) (σ1 := σ) (σ2 := qu σ2 26 0 17 1) (by decide) (by decide) (by unfold f_L_latestStart f_X7_latestStart; rw [c_reqT H, hx, if_neg (by decide)]; rfl) I S ?_ (thr_at _ _) ((Qr.of q2 (by simp)).trans (Qr.thr _ _))
    unfold f_X8_latestStart
    rw [e2, qb_V, r_end R2, hx, if_neg (by decide)]
  · obtain ⟨t, ht, rfl⟩ := (isT_iff W).mp hx
    obtain ⟨σ1, c1, q1, I1, s8, p1⟩ := c_plan I S
    have R1 := (I1.out (pL P t)).2.2.1
    obtain ⟨σ2, e2, q2, a2, b2⟩ := r_starts W R1
    have R2 := R1.same q2 (by simp)
    refine case0 (r := (pL P t)) (σ1 := σ1) (σ2 := qu σ2 26 0 17 0) ?_ I1 (Or.inr ⟨s8, p1⟩) ?_ (thr_at _ _) ((Qr.of q2 (by simp)).trans (Qr.thr _ _))
    · unfold f_L_latestStart f_X7_latestStart
      rw [c_reqT H, hx, if_pos rfl, qb_V, c1, qb_P, e_at (show t < 12 by omega) (by decide), qb_I, p1.2.2.2.2.1 t ht]; rfl
    · unfold f_X8_latestStart
      rw [e2, qb_V, r_end R2, hx, if_pos rfl, if_pos (n_in (by omega) (by decide)), nI_clamp (by omega), qu_at, if_neg (by simp), b2 t ht]
theorem k_levelledStart (a : Int32) (h : Inv σ) : CaseL (f_L_levelledStart a) (f_X8_levelledStart a) σ := by
  obtain ⟨P, hs, sv, I, S⟩ := h
  have W := I.1
  have H := I.2.1
  have hn := W.1
  cases hx : isT P a
  · have R1 := I.2.2.1
    obtain ⟨σ2, e2, q2, a2, b2, l2⟩ := r_levels W R1
    have R2 := R1.same q2 (by simp)
    refine casek (k := 1) (b := 0) (σ1 := σ) (σ2 := qu σ2 26 0 17 1) (by decide) (by decide) (by unfold f_L_levelledStart f_X7_levelledStart; rw [c_reqT H, hx, if_neg (by decide)]; rfl) I S ?_ (thr_at _ _) ((Qr.of q2 (by simp)).trans (Qr.thr _ _))
    unfold f_X8_levelledStart
    rw [e2, qb_V, r_end R2, hx, if_neg (by decide)]
  · obtain ⟨t, ht, rfl⟩ := (isT_iff W).mp hx
    obtain ⟨σ1, c1, q1, I1, s8, p1⟩ := c_plan I S
    have R1 := (I1.out (nI (pV P t))).2.2.1
    obtain ⟨σ2, e2, q2, a2, b2, l2⟩ := r_levels W R1
    have R2 := R1.same q2 (by simp)
    refine case0 (r := (nI (pV P t))) (σ1 := σ1) (σ2 := qu σ2 26 0 17 0) ?_ I1 (Or.inr ⟨s8, p1⟩) ?_ (thr_at _ _) ((Qr.of q2 (by simp)).trans (Qr.thr _ _))
    · unfold f_L_levelledStart f_X7_levelledStart
      rw [c_reqT H, hx, if_pos rfl, qb_V, c1, qb_P, e_at (show t < 12 by omega) (by decide), qb_I, p1.2.2.2.2.2.1.1 t ht (pst_full W ht)]; rfl
    · unfold f_X8_levelledStart
      rw [e2, qb_V, r_end R2, hx, if_pos rfl, if_pos (n_in (by omega) (by decide)), nI_clamp (by omega), qu_at, if_neg (by simp), l2.1 t ht (pst_full W ht)]; rfl
theorem e_slack {σ1 : qS} (p1 : PlanOK P σ1) (W : PW P) {t : Nat} (ht : t < pn P) : f_X4_slackOf (nI t) σ1 = qan (pL P t - pE P t) σ1 := by
  have hn := W.1
  unfold f_X4_slackOf
  rw [e_at (show t < 12 by omega) (by decide), qb_I, e_at (show t < 12 by omega) (by decide), qb_I, p1.2.2.1 t ht, p1.2.2.2.2.1 t ht]
theorem i_sub0 {a b : Int32} : a - b = 0 ↔ a = b := by
  constructor
  · intro h
    have := congrArg (fun z => z + b) h
    simpa using this
  · rintro rfl
    exact Int32.sub_self a
theorem k_slack (a : Int32) (h : Inv σ) : CaseL (f_L_slack a) (f_X8_slack a) σ := by
  obtain ⟨P, hs, sv, I, S⟩ := h
  have W := I.1
  have H := I.2.1
  have hn := W.1
  cases hx : isT P a
  · have R1 := I.2.2.1
    obtain ⟨σ2, e2, q2, a2, b2⟩ := r_starts W R1
    have R2 := R1.same q2 (by simp)
    refine casek (k := 1) (b := 0) (σ1 := σ) (σ2 := qu σ2 26 0 17 1) (by decide) (by decide) (by unfold f_L_slack f_X7_slack; rw [c_reqT H, hx, if_neg (by decide)]; rfl) I S ?_ (thr_at _ _) ((Qr.of q2 (by simp)).trans (Qr.thr _ _))
    unfold f_X8_slack
    rw [e2, qb_V, r_end R2, hx, if_neg (by decide)]
  · obtain ⟨t, ht, rfl⟩ := (isT_iff W).mp hx
    obtain ⟨σ1, c1, q1, I1, s8, p1⟩ := c_plan I S
    have R1 := (I1.out (pL P t - pE P t)).2.2.1
    obtain ⟨σ2, e2, q2, a2, b2⟩ := r_starts W R1
    have R2 := R1.same q2 (by simp)
    refine case0 (r := (pL P t - pE P t)) (σ1 := σ1) (σ2 := qu σ2 26 0 17 0) ?_ I1 (Or.inr ⟨s8, p1⟩) ?_ (thr_at _ _) ((Qr.of q2 (by simp)).trans (Qr.thr _ _))
    · unfold f_L_slack f_X7_slack
      rw [c_reqT H, hx, if_pos rfl, qb_V, c1, qb_P, e_slack p1 W ht, qb_I]; rfl
    · unfold f_X8_slack
      rw [e2, qb_V, r_end R2, hx, if_pos rfl, if_pos (n_in (by omega) (by decide)), if_pos (n_in (by omega) (by decide)), nI_clamp (by omega), qu_at, if_neg (by simp), qu_at, if_neg (by simp), a2 t ht, b2 t ht]
theorem k_isCritical (a : Int32) (h : Inv σ) : CaseL (f_L_isCritical a) (f_X8_isCritical a) σ := by
  obtain ⟨P, hs, sv, I, S⟩ := h
  have W := I.1
  have H := I.2.1
  have hn := W.1
  cases hx : isT P a
  · have R1 := I.2.2.1
    obtain ⟨σ2, e2, q2, a2, b2⟩ := r_starts W R1
    have R2 := R1.same q2 (by simp)
    refine casek (k := 1) (b := 0) (σ1 := σ) (σ2 := qu σ2 26 0 17 1) (by decide) (by decide) (by unfold f_L_isCritical f_X7_isCritical; rw [c_reqT H, hx, if_neg (by decide)]; rfl) I S ?_ (thr_at _ _) ((Qr.of q2 (by simp)).trans (Qr.thr _ _))
    unfold f_X8_isCritical
    rw [e2, qb_V, r_end R2, hx, if_neg (by decide)]
  · obtain ⟨t, ht, rfl⟩ := (isT_iff W).mp hx
    obtain ⟨σ1, c1, q1, I1, s8, p1⟩ := c_plan I S
    have R1 := (I1.out (qb1 (decide (pL P t - pE P t = 0)))).2.2.1
    obtain ⟨σ2, e2, q2, a2, b2⟩ := r_starts W R1
    have R2 := R1.same q2 (by simp)
    refine case0 (r := (qb1 (decide (pL P t - pE P t = 0)))) (σ1 := σ1) (σ2 := qu σ2 26 0 17 0) ?_ I1 (Or.inr ⟨s8, p1⟩) ?_ (thr_at _ _) ((Qr.of q2 (by simp)).trans (Qr.thr _ _))
    · unfold f_L_isCritical f_X7_isCritical
      rw [c_reqT H, hx, if_pos rfl, qb_V, c1, qb_P, e_slack p1 W ht, qb_I]
      by_cases hz : pL P t - pE P t = 0
      · rw [if_pos hz, decide_eq_true hz]; rfl
      · rw [if_neg hz, decide_eq_false hz]; rfl
    · have z31 : qu σ2 26 0 17 0 31 0 t = pE P t := by rw [qu_at, if_neg (by simp), a2 t ht]
      have z32 : qu σ2 26 0 17 0 32 0 t = pL P t := by rw [qu_at, if_neg (by simp), b2 t ht]
      unfold f_X8_isCritical
      rw [e2, qb_V, r_end R2, hx, if_pos rfl, if_pos (n_in (by omega) (by decide)), if_pos (n_in (by omega) (by decide)), nI_clamp (by omega), z32, z31]
      by_cases hz : pL P t = pE P t
      · rw [if_pos hz, decide_eq_true (i_sub0.mpr hz)]; rfl
      · rw [if_neg hz, decide_eq_false (fun h => hz (i_sub0.mp h))]; rfl
end QP2
end
section
/-! counts, lengths -/
def CaseD (w : qS → Option qO) (q : qS → Option qO) (σ : qS) : Prop := ∃ (r : Int32) (σ1 σ2 : qS), w σ = qan r σ1 ∧ q σ1 = qan r σ2 ∧ Inv σ2
section QC
variable {P : qP} {hs : List qP} {sv : qP} {σ : qS}
theorem cased {w q : qS → Option qO} {σ1 σ2 : qS} {r : Int32} (hw : w σ = qan r σ1) (I : InvB σ1 P hs sv) (S : PlanSt P σ1) (hq : q σ1 = qan r σ2) (hr : Qr σ1 σ2) : CaseD w q σ :=
  ⟨r, σ1, σ2, hw, hq, P, hs, sv, I.qt hr.qt, S.qr hr⟩
theorem k_taskCount (h : Inv σ) : CaseD f_X7_taskCount f_X8_taskCount σ := by
  obtain ⟨P, hs, sv, I, S⟩ := h
  refine cased (r := nI (pn P)) (by unfold f_X7_taskCount; rw [I.2.1.1]) I S (by unfold f_X8_taskCount; rw [qlet_eq, qu_at, if_neg (by simp), I.2.2.1.1]) (Qr.thr _ _)
theorem k_hasBaseline (h : Inv σ) : CaseD f_X7_hasBaseline f_X8_hasBaseline σ := by
  obtain ⟨P, hs, sv, I, S⟩ := h
  have hp := I.1.2.2.2.2.1
  refine cased (r := ph P) (by unfold f_X7_hasBaseline; rw [I.2.1.2.2.2, if_pos hp]) I S (by
    unfold f_X8_hasBaseline
    rw [qlet_eq, qu_at, if_neg (show ¬ (27 = 26 ∧ 0 = 0 ∧ 1 = 17) by decide), show σ 27 0 1 = ph P from I.2.2.1.2.1]
    rcases hp with hp | hp
    · rw [hp, if_neg (by decide)]
    · rw [hp, if_pos rfl]) (Qr.thr _ 0)
theorem k_projectLength (h : Inv σ) : CaseD f_X7_projectLength f_X8_projectLength σ := by
  obtain ⟨P, hs, sv, I, S⟩ := h
  have W := I.1
  obtain ⟨σ1, c1, q1, I1, s8, p1⟩ := c_plan I S
  have R1 : RepR (qu σ1 26 0 17 0) 27 0 P := I1.2.2.1.qt (Qt.thr _ _) (Or.inl rfl)
  obtain ⟨σ2, e2, q2, a2, b2⟩ := r_starts W R1
  refine cased (r := plast P (pE P)) (σ1 := σ1) (σ2 := σ2) (by unfold f_X7_projectLength; rw [c1, qb_P, p1.2.2.2.2.2.2.1]) I1 (Or.inr ⟨s8, p1⟩) ?_ ((Qr.thr _ 0).trans (Qr.of q2 (by simp)))
  unfold f_X8_projectLength
  rw [qlet_eq, e2, qb_V, r_lastOf W (R1.same q2 (by simp)) rfl, qb_I, plast_congr a2]
theorem k_levelledLength (h : Inv σ) : CaseD f_X7_levelledLength f_X8_levelledLength σ := by
  obtain ⟨P, hs, sv, I, S⟩ := h
  have W := I.1
  have hn := W.1
  obtain ⟨σ1, c1, q1, I1, s8, p1⟩ := c_plan I S
  have R1 : RepR (qu σ1 26 0 17 0) 27 0 P := I1.2.2.1.qt (Qt.thr _ _) (Or.inl rfl)
  obtain ⟨σ2, e2, q2, a2, b2, l2⟩ := r_levels W R1
  have hb : pend P (pn P) ≤ 138 := by
    rw [pend_le W (pn P) (Nat.le_refl _)]
    intro u hu
    have := ((pst_spec W (pn P) (Nat.le_refl _)).2 u hu).2.1
    omega
  refine cased (r := nI (pend P (pn P))) (σ1 := σ1) (σ2 := σ2) (by unfold f_X7_levelledLength; rw [c1, qb_P, p1.2.2.2.2.2.2.2]) I1 (Or.inr ⟨s8, p1⟩) ?_ ((Qr.thr _ 0).trans (Qr.of q2 (by simp)))
  unfold f_X8_levelledLength
  rw [qlet_eq, e2, qb_V, r_lastOf W (R1.same q2 (by simp)) rfl, qb_I, plast_congr (f' := fun t => nI (pV P t)) (fun u hu => l2.1 u hu (pst_full W hu)), pend_last W hb]
/-! how many need a task -/
theorem c_depc_loop (W : PW P) (H : Rep σ 0 P) {t : Nat} (ht : t < pn P) : ∀ (d i m : Nat) (a : Int32), i + d = pn P → d < m → l_X7_dependentCount_9 m (nI t) a (nI i) σ = qan (fo (fun o a => if ped P o t = true then a + 1 else a) d i a) σ := by
  have hn := W.1
  intro d
  induction d with
  | zero =>
    intro i m a hi hm
    obtain ⟨m, rfl⟩ : ∃ m', m = m' + 1 := ⟨m - 1, by omega⟩
    simp only [l_X7_dependentCount_9, b_X7_dependentCount_9, fo]
    rw [if_pos (by rw [H.1]; exact nI_le (by omega) (by omega))]
  | succ d ih =>
    intro i m a hi hm
    obtain ⟨m, rfl⟩ : ∃ m', m = m' + 1 := ⟨m - 1, by omega⟩
    simp only [l_X7_dependentCount_9, b_X7_dependentCount_9, fo]
    rw [if_neg (by rw [H.1]; exact nI_ge (by omega) (by omega)), c_linked H W (by omega) (by omega), qb_I, nI_1]
    cases e : ped P i t
    · rw [if_pos (by rfl), ih (i + 1) m _ (by omega) (by omega), if_neg (by decide)]
    · rw [if_neg (by decide), ih (i + 1) m _ (by omega) (by omega), if_pos rfl]
theorem r_depc_loop (W : PW P) (H : RepR σ 27 0 P) {t : Nat} (ht : t < pn P) : ∀ (d i m : Nat) (a : Int32), i + d = pn P → d < m → l_X8_dependentCount_4 m (nI t) a (nI i) σ = qan (fo (fun o a => if ped P o t = true then a + 1 else a) d i a) (qu σ 26 0 17 0) := by
  have hn := W.1
  intro d
  induction d with
  | zero =>
    intro i m a hi hm
    obtain ⟨m, rfl⟩ : ∃ m', m = m' + 1 := ⟨m - 1, by omega⟩
    simp only [l_X8_dependentCount_4, b_X8_dependentCount_4, fo]
    rw [if_pos (by rw [H.1]; exact nI_le (by omega) (by omega)), r_isT H, isT_n W ht, qb_I, r_goes, qb_I, if_neg (by decide)]
    rfl
  | succ d ih =>
    intro i m a hi hm
    obtain ⟨m, rfl⟩ : ∃ m', m = m' + 1 := ⟨m - 1, by omega⟩
    simp only [l_X8_dependentCount_4, b_X8_dependentCount_4, fo]
    rw [if_neg (by rw [H.1]; exact nI_ge (by omega) (by omega)), r_isT H, isT_n W ht, qb_I, if_neg (by decide), r_needed H W (by omega) (by omega), qb_I, nI_1]
    cases e : ped P i t
    · rw [if_pos (by rfl), Int32.add_zero, ih (i + 1) m _ (by omega) (by omega), if_neg (by decide)]
    · rw [if_neg (by decide), ih (i + 1) m _ (by omega) (by omega), if_pos rfl]
theorem r_depc_no (W : PW P) (H : RepR σ 27 0 P) {x : Int32} (hx : isT P x = false) : ∀ (d i m : Nat) (a : Int32), i + d = pn P → d < m → l_X8_dependentCount_4 m x a (nI i) σ = qan 0 (qu σ 26 0 17 1) := by
  have hn := W.1
  intro d
  induction d with
  | zero =>
    intro i m a hi hm
    obtain ⟨m, rfl⟩ : ∃ m', m = m' + 1 := ⟨m - 1, by omega⟩
    simp only [l_X8_dependentCount_4, b_X8_dependentCount_4]
    rw [if_pos (by rw [H.1]; exact nI_le (by omega) (by omega)), r_isT H, hx, qb_I, r_goes, qb_I, if_pos (by decide)]
    rfl
  | succ d ih =>
    intro i m a hi hm
    obtain ⟨m, rfl⟩ : ∃ m', m = m' + 1 := ⟨m - 1, by omega⟩
    simp only [l_X8_dependentCount_4, b_X8_dependentCount_4]
    rw [if_neg (by rw [H.1]; exact nI_ge (by omega) (by omega)), r_isT H, hx, qb_I, if_pos (by decide), nI_1]
    exact ih (i + 1) m _ (by omega) (by omega)
theorem k_dependentCount (a : Int32) (h : Inv σ) : CaseL (f_L_dependentCount a) (f_X8_dependentCount a) σ := by
  obtain ⟨P, hs, sv, I, S⟩ := h
  have W := I.1
  have H := I.2.1
  have hn := W.1
  cases hx : isT P a
  · exact casek (k := 1) (b := 0) (by decide) (by decide) (by unfold f_L_dependentCount f_X7_dependentCount; rw [c_reqT H, hx, if_neg (by decide)]; rfl) I S (r_depc_no W I.2.2.1 hx (pn P) 0 qFU 0 (by omega) (by unfold qFU; omega)) (thr_at _ _) (Qr.thr _ _)
  · obtain ⟨t, ht, rfl⟩ := (isT_iff W).mp hx
    refine case0 (σ1 := σ) ?_ I S (r_depc_loop W (I.out _).2.2.1 ht (pn P) 0 qFU 0 (by omega) (by unfold qFU; omega)) (thr_at _ _) (Qr.thr _ _)
    unfold f_L_dependentCount f_X7_dependentCount
    rw [c_reqT H, hx, if_pos rfl, qb_V, show (0 : Int32) = nI 0 from rfl, c_depc_loop W H ht (pn P) 0 qFU _ (by omega) (by unfold qFU; omega)]
    rfl
/-! critical tasks -/
theorem c_crit_loop (W : PW P) (H : Rep σ 0 P) (p1 : PlanOK P σ) : ∀ (d i m : Nat) (a : Int32), i + d = pn P → d < m → l_X7_criticalCount_9 m a (nI i) σ = qan (fo (fun t a => if pL P t = pE P t then a + 1 else a) d i a) σ := by
  have hn := W.1
  intro d
  induction d with
  | zero =>
    intro i m a hi hm
    obtain ⟨m, rfl⟩ : ∃ m', m = m' + 1 := ⟨m - 1, by omega⟩
    simp only [l_X7_criticalCount_9, b_X7_criticalCount_9, fo]
    rw [if_pos (by rw [H.1]; exact nI_le (by omega) (by omega))]
  | succ d ih =>
    intro i m a hi hm
    obtain ⟨m, rfl⟩ : ∃ m', m = m' + 1 := ⟨m - 1, by omega⟩
    simp only [l_X7_criticalCount_9, b_X7_criticalCount_9, fo]
    rw [if_neg (by rw [H.1]; exact nI_ge (by omega) (by omega)), e_slack p1 W (by omega), qb_I, nI_1]
    by_cases e : pL P i = pE P i
    · rw [if_pos (i_sub0.mpr e), ih (i + 1) m _ (by omega) (by omega), if_pos e]
    · rw [if_neg (fun h => e (i_sub0.mp h)), ih (i + 1) m _ (by omega) (by omega), if_neg e]
theorem r_crit_loop (W : PW P) (H : RepR σ 27 0 P) (h31 : ∀ t, t < pn P → σ 31 0 t = pE P t) (h32 : ∀ t, t < pn P → σ 32 0 t = pL P t) : ∀ (d i m : Nat) (a : Int32), i + d = pn P → d < m → l_X8_criticalCount_13 m a (nI i) σ = qan (fo (fun t a => if pL P t = pE P t then a + 1 else a) d i a) σ := by
  have hn := W.1
  intro d
  induction d with
  | zero =>
    intro i m a hi hm
    obtain ⟨m, rfl⟩ : ∃ m', m = m' + 1 := ⟨m - 1, by omega⟩
    simp only [l_X8_criticalCount_13, b_X8_criticalCount_13, fo]
    rw [if_pos (by rw [H.1]; exact nI_le (by omega) (by omega))]
  | succ d ih =>
    intro i m a hi hm
    obtain ⟨m, rfl⟩ : ∃ m', m = m' + 1 := ⟨m - 1, by omega⟩
    have hq : qin (nI i) 12 := n_in (by omega) (by decide)
    simp only [l_X8_criticalCount_13, b_X8_criticalCount_13, fo]
    rw [if_neg (by rw [H.1]; exact nI_ge (by omega) (by omega)), if_pos hq, if_pos hq, nI_clamp (by omega), h31 i (by omega), h32 i (by omega), nI_1]
    by_cases e : pL P i = pE P i
    · rw [if_pos e, ih (i + 1) m _ (by omega) (by omega), if_pos e]
    · rw [if_neg e, Int32.add_zero, ih (i + 1) m _ (by omega) (by omega), if_neg e]
theorem k_criticalCount (h : Inv σ) : CaseD f_X7_criticalCount f_X8_criticalCount σ := by
  obtain ⟨P, hs, sv, I, S⟩ := h
  have W := I.1
  have hn := W.1
  obtain ⟨σ1, c1, q1, I1, s8, p1⟩ := c_plan I S
  have R1 : RepR (qu σ1 26 0 17 0) 27 0 P := I1.2.2.1.qt (Qt.thr _ _) (Or.inl rfl)
  obtain ⟨σ2, e2, q2, a2, b2⟩ := r_starts W R1
  refine cased (σ1 := σ1) (σ2 := σ2) (by unfold f_X7_criticalCount; rw [c1, qb_P]; exact c_crit_loop W I1.2.1 p1 (pn P) 0 qFU 0 (by omega) (by unfold qFU; omega)) I1 (Or.inr ⟨s8, p1⟩) ?_ ((Qr.thr _ 0).trans (Qr.of q2 (by simp)))
  unfold f_X8_criticalCount
  rw [qlet_eq, e2, qb_V]
  exact r_crit_loop W (R1.same q2 (by simp)) a2 b2 (pn P) 0 qFU 0 (by omega) (by unfold qFU; omega)
/-! the work of a resource -/
theorem c_work_loop {j : Nat} (W : PW P) (H : Rep σ j P) (x : Int32) : ∀ (d i m : Nat) (a : Int32), i + d = pn P → d < m → l_X5_workOf_4 j m x a (nI i) σ = qan (fo (fun t a => if pf P 1 t = x then a + pf P 0 t * pf P 2 t else a) d i a) σ := by
  have hn := W.1
  intro d
  induction d with
  | zero =>
    intro i m a hi hm
    obtain ⟨m, rfl⟩ : ∃ m', m = m' + 1 := ⟨m - 1, by omega⟩
    simp only [l_X5_workOf_4, b_X5_workOf_4, fo]
    rw [if_pos (by rw [H.1]; exact nI_le (by omega) (by omega))]
  | succ d ih =>
    intro i m a hi hm
    obtain ⟨m, rfl⟩ : ∃ m', m = m' + 1 := ⟨m - 1, by omega⟩
    simp only [l_X5_workOf_4, b_X5_workOf_4, fo]
    rw [if_neg (by rw [H.1]; exact nI_ge (by omega) (by omega)), c_res H W (by omega), qb_I, nI_1]
    by_cases e : pf P 1 i = x
    · rw [if_pos e, c_dur H W (by omega), qb_I, c_dem H W (by omega), qb_I, ih (i + 1) m _ (by omega) (by omega), if_pos e]
    · rw [if_neg e, ih (i + 1) m _ (by omega) (by omega), if_neg e]
def pwork (P : qP) (x : Int32) : Int32 := fo (fun t a => if pf P 1 t = x then a + pf P 0 t * pf P 2 t else a) (pn P) 0 0
theorem c_work {j : Nat} (W : PW P) (H : Rep σ j P) (x : Int32) : f_X5_workOf j x σ = qan (pwork P x) σ := by
  have hn := W.1
  exact c_work_loop W H x (pn P) 0 qFU 0 (by omega) (by unfold qFU; omega)
theorem r_work_loop (W : PW P) (H : RepR σ 27 0 P) (x : Int32) : ∀ (d i m : Nat) (a : Int32), i + d = pn P → d < m → l_X8_work_4 m x a (nI i) σ = qan (if isR x = true then fo (fun t a => if pf P 1 t = x then a + pf P 0 t * pf P 2 t else a) d i a else 0) (qu σ 26 0 17 (if isR x = true then 0 else 1)) := by
  have hn := W.1
  intro d
  induction d with
  | zero =>
    intro i m a hi hm
    obtain ⟨m, rfl⟩ : ∃ m', m = m' + 1 := ⟨m - 1, by omega⟩
    simp only [l_X8_work_4, b_X8_work_4, fo]
    rw [if_pos (by rw [H.1]; exact nI_le (by omega) (by omega)), r_isR, qb_I, r_goes, qb_I]
    cases isR x <;> rfl
  | succ d ih =>
    intro i m a hi hm
    obtain ⟨m, rfl⟩ : ∃ m', m = m' + 1 := ⟨m - 1, by omega⟩
    simp only [l_X8_work_4, b_X8_work_4, fo]
    rw [if_neg (by rw [H.1]; exact nI_ge (by omega) (by omega)), r_res H W (by omega), qb_I, nI_1]
    by_cases e : pf P 1 i = x
    · rw [if_pos e, r_dur H W (by omega), qb_I, r_dem H W (by omega), qb_I, ih (i + 1) m _ (by omega) (by omega), if_pos e]
    · rw [if_neg e, Int32.add_zero, ih (i + 1) m _ (by omega) (by omega), if_neg e]
theorem r_work (W : PW P) (H : RepR σ 27 0 P) (x : Int32) : f_X8_work x σ = qan (if isR x = true then pwork P x else 0) (qu σ 26 0 17 (if isR x = true then 0 else 1)) := by
  have hn := W.1
  exact r_work_loop W H x (pn P) 0 qFU 0 (by omega) (by unfold qFU; omega)
theorem k_workload (a : Int32) (h : Inv σ) : CaseL (f_L_workload a) (f_X8_workload a) σ := by
  obtain ⟨P, hs, sv, I, S⟩ := h
  have W := I.1
  have H := I.2.1
  cases hx : isR a
  · exact casek (k := 1) (b := 0) (by decide) (by decide) (by unfold f_L_workload f_X7_workload; rw [c_reqR, hx, if_neg (by decide)]; rfl) I S (by unfold f_X8_workload; rw [r_work W I.2.2.1, hx, qb_I]; rfl) (thr_at _ _) (Qr.thr _ _)
  · exact case0 (r := pwork P a) (by unfold f_L_workload f_X7_workload; rw [c_reqR, hx, if_pos rfl, qb_V, c_work W H]; rfl) I S (by unfold f_X8_workload; rw [r_work W (I.out _).2.2.1, hx, qb_I]; rfl) (thr_at _ _) (Qr.thr _ 0)
end QC
end
section
/-! the order's places, the last task; the use of the resources -/
section QS2
variable {P : qP} {hs : List qP} {sv : qP} {σ : qS}
/-- the reference's place in the order -/
theorem r_ord_in (W : PW P) (H : RepR σ 27 0 P) {rk : Int32 → Int32 → Int32 → Int32 → qS → Option qO} {v1 v3 v4 x : Int32} : ∀ (i m : Nat), i ≤ pn P → i < m →
    l_X8_taskInOrder_31 rk m v1 x v3 v4 (qno P (pfs P x (pn P - i) i)) (nI i - 1) σ = if v4 = v1 then rk v1 (x ||| ((1 : Int32) <<< (qno P (pfs P x (pn P) 0) &&& 31))) (qno P (pfs P x (pn P) 0)) (v4 + 1) σ else rk v1 (x ||| ((1 : Int32) <<< (qno P (pfs P x (pn P) 0) &&& 31))) v3 (v4 + 1) σ := by
  have hn := W.1
  intro i
  induction i with
  | zero =>
    intro m hi hm
    obtain ⟨m, rfl⟩ : ∃ m', m = m' + 1 := ⟨m - 1, by omega⟩
    simp only [l_X8_taskInOrder_31, b_X8_taskInOrder_31]
    rw [if_pos (by decide), Nat.sub_zero]
  | succ i ih =>
    intro m hi hm
    obtain ⟨m, rfl⟩ : ∃ m', m = m' + 1 := ⟨m - 1, by omega⟩
    have hp : pfs P x (pn P - i) i = if pready P x i = true then i else pfs P x (pn P - (i + 1)) (i + 1) := by
      obtain ⟨d, hd⟩ : ∃ d, pn P - i = d + 1 := ⟨pn P - i - 1, by omega⟩
      rw [hd, pfs, show pn P - (i + 1) = d by omega]
    simp only [l_X8_taskInOrder_31, b_X8_taskInOrder_31]
    rw [nI_pred, if_neg (n_ge0 (by omega)), n_dec]
    by_cases hb : qbit x i = true
    · have hr : pready P x i = false := by unfold pready; rw [hb]; rfl
      rw [if_neg (fun h => by rw [(qbit_has0 (by omega)).mp h] at hb; cases hb)]
      have := ih m (by omega) (by omega)
      rw [hp, hr, if_neg (by decide)] at this
      exact this
    · have hb : qbit x i = false := by simpa using hb
      rw [if_pos ((qbit_has0 (by omega)).mpr hb), r_need H W (by omega), qb_I]
      by_cases hz : pf P 4 i &&& (x ^^^ (-1 : Int32)) = 0
      · have hr : pready P x i = true := by unfold pready; rw [hb, decide_eq_true hz]; rfl
        rw [if_pos hz]
        have := ih m (by omega) (by omega)
        rw [hp, hr, if_pos rfl, qno_n (by omega)] at this
        exact this
      · have hr : pready P x i = false := by unfold pready; rw [decide_eq_false hz, Bool.and_false]
        rw [if_neg hz]
        have := ih m (by omega) (by omega)
        rw [hp, hr, if_neg (by decide)] at this
        exact this
def pfound (P : qP) (x : Int32) : Nat → Int32
  | 0 => -1
  | i + 1 => if nI i = x then nI (pord P i) else pfound P x i
theorem pfound_out {x : Int32} : ∀ i, (∀ q, q < i → x ≠ nI q) → pfound P x i = -1
  | 0, _ => rfl
  | i + 1, h => by rw [pfound, if_neg (fun e => h i (by omega) e.symm)]; exact pfound_out i (fun q hq => h q (by omega))
theorem pfound_in {q : Nat} : ∀ i, q < i → i < 2 ^ 31 → pfound P (nI q) i = nI (pord P q)
  | 0, h, _ => by omega
  | i + 1, h, hb => by
    rw [pfound]
    by_cases e : i = q
    · rw [if_pos (by rw [e]), e]
    · rw [if_neg (fun h2 => e ((n_eq (by omega) (by omega)).mp h2))]
      exact pfound_in i (by omega) (by omega)
theorem r_ord_out (W : PW P) (H : RepR σ 27 0 P) (x : Int32) : ∀ (d i m : Nat), i + d = pn P → d < m →
    l_X8_taskInOrder_7 m x (pmask P i) (pfound P x i) (nI i) σ = qan (if pfound P x (pn P) = -1 then 0 else pfound P x (pn P)) (qu σ 26 0 17 (if pfound P x (pn P) = -1 then 1 else 0)) := by
  have hn := W.1
  intro d
  induction d with
  | zero =>
    intro i m hi hm
    obtain ⟨m, rfl⟩ : ∃ m', m = m' + 1 := ⟨m - 1, by omega⟩
    have hi : i = pn P := by omega
    subst hi
    simp only [l_X8_taskInOrder_7, b_X8_taskInOrder_7]
    rw [if_pos (by rw [H.1]; exact Int32.le_refl _)]
    by_cases e : pfound P x (pn P) = -1
    · rw [if_pos e, if_pos e, if_pos e, show (0 : Int32) = qb1 false from rfl, r_goes, qb_I, if_pos (by decide)]
      rfl
    · rw [if_neg e, if_neg e, if_neg e, show (1 : Int32) = qb1 true from rfl, r_goes, qb_I, if_neg (by decide)]
      rfl
  | succ d ih =>
    intro i m hi hm
    obtain ⟨m, rfl⟩ : ∃ m', m = m' + 1 := ⟨m - 1, by omega⟩
    have hlt := pord_lt W (k := i) (by omega)
    simp only [l_X8_taskInOrder_7, b_X8_taskInOrder_7]
    have k1 := r_ord_in W H (rk := l_X8_taskInOrder_7 m) (v1 := x) (v3 := pfound P x i) (v4 := nI i) (x := pmask P i) (pn P) qFU (Nat.le_refl _) (by unfold qFU; omega)
    rw [Nat.sub_self, show pfs P (pmask P i) 0 (pn P) = pn P from rfl, qno_m, show pfs P (pmask P i) (pn P) 0 = pord P i from rfl, qno_n (show pord P i ≠ pn P by omega), nI_1] at k1
    rw [if_neg (by rw [H.1]; exact nI_ge (by omega) (by omega)), show σ 27 0 0 = nI (pn P) from H.1, k1]
    have k2 := ih (i + 1) m (by omega) (by omega)
    by_cases e : nI i = x
    · rw [if_pos e]
      rw [show pfound P x (i + 1) = nI (pord P i) by rw [pfound, if_pos e]] at k2
      exact k2
    · rw [if_neg e]
      rw [show pfound P x (i + 1) = pfound P x i by rw [pfound, if_neg e]] at k2
      exact k2
theorem k_taskInOrder (a : Int32) (h : Inv σ) : CaseL (f_L_taskInOrder a) (f_X8_taskInOrder a) σ := by
  obtain ⟨P, hs, sv, I, S⟩ := h
  have W := I.1
  have H := I.2.1
  have hn := W.1
  cases hx : isT P a
  · have ho : pfound P a (pn P) = -1 := pfound_out _ (fun q hq e => by
      rw [(isT_iff W).mpr ⟨q, hq, e⟩] at hx; cases hx)
    refine casek (k := 1) (b := 0) (σ1 := σ) (σ2 := qu σ 26 0 17 1) (by decide) (by decide) ?_ I S ?_ (thr_at _ _) (Qr.thr _ _)
    · unfold f_L_taskInOrder f_X7_taskInOrder
      rw [e_isWithin, qb_I, H.1, show decide ((0 : Int32) ≤ a ∧ a ≤ nI (pn P) - 1) = false from hx]
      rfl
    · have := r_ord_out W I.2.2.1 a (pn P) 0 qFU (by omega) (by unfold qFU; omega)
      rw [ho, if_pos rfl, if_pos rfl] at this
      exact this
  · obtain ⟨q, hq, rfl⟩ := (isT_iff W).mp hx
    obtain ⟨σ1, c1, q1, I1, s8, p1⟩ := c_plan I S
    have hi : pfound P (nI q) (pn P) = nI (pord P q) := pfound_in _ hq (by omega)
    have hlt := pord_lt W hq
    refine case0 (r := nI (pord P q)) (σ1 := σ1) (σ2 := qu (qu σ1 38 0 0 (nI (pord P q))) 26 0 17 0) ?_ I1 (Or.inr ⟨s8, p1⟩) ?_ (thr_at _ _) (Qr.thr _ _)
    · unfold f_L_taskInOrder f_X7_taskInOrder
      rw [e_isWithin, qb_I, H.1, show decide ((0 : Int32) ≤ nI q ∧ nI q ≤ nI (pn P) - 1) = true from hx, if_neg (by decide), c1, qb_P, e_at (show q < 12 by omega) (by decide), qb_I, p1.1 q hq]
      rfl
    · have := r_ord_out W (I1.out (nI (pord P q))).2.2.1 (nI q) (pn P) 0 qFU (by omega) (by unfold qFU; omega)
      rw [hi, if_neg (n_ne _ (by omega)), if_neg (n_ne _ (by omega))] at this
      exact this
/-! the first task with its finish at the end -/
def gfs (c : Nat → Bool) : Nat → Nat → Nat
  | 0, i => i
  | d + 1, i => if c i = true then i else gfs c d (i + 1)
theorem gfs_le (c : Nat → Bool) : ∀ d i, gfs c d i ≤ i + d
  | 0, _ => Nat.le_refl _
  | d + 1, i => by
    unfold gfs
    split
    · omega
    · exact Nat.le_trans (gfs_le c d (i + 1)) (by omega)
def plc (P : qP) (t : Nat) : Bool := decide (pE P t + pf P 0 t = plast P (pE P))
theorem c_last_loop (W : PW P) (H : Rep σ 0 P) (p1 : PlanOK P σ) : ∀ (d i m : Nat), i + d = pn P → d < m → l_X7_lastTask_7 m (nI i) σ = if gfs (plc P) d i = pn P then qth qNSE σ else qan (nI (gfs (plc P) d i)) σ := by
  have hn := W.1
  intro d
  induction d with
  | zero =>
    intro i m hi hm
    obtain ⟨m, rfl⟩ : ∃ m', m = m' + 1 := ⟨m - 1, by omega⟩
    simp only [l_X7_lastTask_7, b_X7_lastTask_7]
    rw [if_pos (by rw [H.1]; exact nI_le (by omega) (by omega)), show gfs (plc P) 0 i = i from rfl, if_pos (by omega)]
  | succ d ih =>
    intro i m hi hm
    obtain ⟨m, rfl⟩ : ∃ m', m = m' + 1 := ⟨m - 1, by omega⟩
    have hg : gfs (plc P) (d + 1) i = if plc P i = true then i else gfs (plc P) d (i + 1) := rfl
    simp only [l_X7_lastTask_7, b_X7_lastTask_7]
    rw [if_neg (by rw [H.1]; exact nI_ge (by omega) (by omega)), e_at (show i < 12 by omega) (by decide), qb_I, c_dur H W (by omega), qb_I, p1.2.2.1 i (by omega), p1.2.2.2.2.2.2.1, nI_1]
    by_cases e : pE P i + pf P 0 i = plast P (pE P)
    · rw [show plc P i = true from decide_eq_true e, if_pos rfl] at hg
      rw [if_pos e, hg, if_neg (by omega)]
    · rw [show plc P i = false from decide_eq_false e, if_neg (show ¬ false = true by decide)] at hg
      rw [if_neg e, hg]
      exact ih (i + 1) m (by omega) (by omega)
theorem r_last2_loop (W : PW P) (H : RepR σ 27 0 P) (h31 : ∀ t, t < pn P → σ 31 0 t = pE P t) : ∀ (i m : Nat), i ≤ pn P → i < m →
    l_X8_lastTask_24 m (plast P (pE P)) (qno P (gfs (plc P) (pn P - i) i)) (nI i - 1) σ = qan (if gfs (plc P) (pn P) 0 = pn P then 0 else nI (gfs (plc P) (pn P) 0)) (qu σ 26 0 17 (if gfs (plc P) (pn P) 0 = pn P then 1 else 0)) := by
  have hn := W.1
  intro i
  induction i with
  | zero =>
    intro m hi hm
    obtain ⟨m, rfl⟩ : ∃ m', m = m' + 1 := ⟨m - 1, by omega⟩
    simp only [l_X8_lastTask_24, b_X8_lastTask_24]
    have hle := gfs_le (plc P) (pn P) 0
    rw [if_pos (by decide), Nat.sub_zero]
    by_cases e : gfs (plc P) (pn P) 0 = pn P
    · rw [e, qno_m, if_pos rfl, if_pos rfl, if_pos rfl, show (0 : Int32) = qb1 false from rfl, r_goes, qb_I, if_pos (by decide)]
      rfl
    · rw [if_neg e, if_neg e, qno_n e, if_neg (n_ne _ (by omega)), show (1 : Int32) = qb1 true from rfl, r_goes, qb_I, if_neg (by decide)]
      rfl
  | succ i ih =>
    intro m hi hm
    obtain ⟨m, rfl⟩ : ∃ m', m = m' + 1 := ⟨m - 1, by omega⟩
    have hp : gfs (plc P) (pn P - i) i = if plc P i = true then i else gfs (plc P) (pn P - (i + 1)) (i + 1) := by
      obtain ⟨d, hd⟩ : ∃ d, pn P - i = d + 1 := ⟨pn P - i - 1, by omega⟩
      rw [hd, gfs, show pn P - (i + 1) = d by omega]
    simp only [l_X8_lastTask_24, b_X8_lastTask_24]
    rw [nI_pred, if_neg (n_ge0 (by omega)), if_pos (n_in (by omega) (by decide)), r_dur H W (by omega), qb_I, nI_clamp (by omega), h31 i (by omega), n_dec]
    have k := ih m (by omega) (by omega)
    by_cases e : pE P i + pf P 0 i = plast P (pE P)
    · rw [if_pos e]
      rw [hp, show plc P i = true from decide_eq_true e, if_pos rfl, qno_n (show i ≠ pn P by omega)] at k
      exact k
    · rw [if_neg e]
      rw [hp, show plc P i = false from decide_eq_false e, if_neg (show ¬ false = true by decide)] at k
      exact k
theorem k_lastTask (h : Inv σ) : CaseL f_L_lastTask f_X8_lastTask σ := by
  obtain ⟨P, hs, sv, I, S⟩ := h
  have W := I.1
  have hn := W.1
  obtain ⟨σ1, c1, q1, I1, s8, p1⟩ := c_plan I S
  have cl := c_last_loop W I1.2.1 p1 (pn P) 0 qFU (by omega) (by unfold qFU; omega)
  have ref : ∀ σ3 : qS, RepR σ3 27 0 P → ∃ σ2, Qr σ3 σ2 ∧ σ2 26 0 17 = (if gfs (plc P) (pn P) 0 = pn P then 1 else 0) ∧ f_X8_lastTask σ3 = qan (if gfs (plc P) (pn P) 0 = pn P then 0 else nI (gfs (plc P) (pn P) 0)) σ2 := by
    intro σ3 R1
    obtain ⟨σ2, e2, q2, a2, b2⟩ := r_starts W R1
    have R2 := R1.same q2 (by simp)
    refine ⟨_, (Qr.of q2 (by simp)).trans (Qr.thr _ _), thr_at _ _, ?_⟩
    unfold f_X8_lastTask
    rw [e2, qb_V, r_lastOf W R2 rfl, qb_I, plast_congr a2, show σ2 27 0 0 = nI (pn P) from R2.1]
    have := r_last2_loop W R2 a2 (pn P) qFU (Nat.le_refl _) (by unfold qFU; omega)
    rw [Nat.sub_self, show gfs (plc P) 0 (pn P) = pn P from rfl, qno_m] at this
    exact this
  by_cases e : gfs (plc P) (pn P) 0 = pn P
  · obtain ⟨σ2, r1, r2, r3⟩ := ref σ1 I1.2.2.1
    rw [if_pos e] at r2 r3 cl
    exact casek (k := 1) (b := 0) (by decide) (by decide) (by unfold f_L_lastTask f_X7_lastTask; rw [c1, qb_P, show (0 : Int32) = nI 0 from rfl, cl]; rfl) I1 (Or.inr ⟨s8, p1⟩) r3 r2 r1
  · rw [if_neg e] at cl
    obtain ⟨σ2, r1, r2, r3⟩ := ref _ (I1.out (nI (gfs (plc P) (pn P) 0))).2.2.1
    rw [if_neg e] at r2 r3
    exact case0 (by unfold f_L_lastTask f_X7_lastTask; rw [c1, qb_P, show (0 : Int32) = nI 0 from rfl, cl]; rfl) I1 (Or.inr ⟨s8, p1⟩) r3 r2 r1
end QS2
end
section
/-! the days: the use of a resource on a day, in both ways -/
section QD
variable {P : qP} {hs : List qP} {sv : qP} {σ : qS}
def pUf (P : qP) (r d : Nat) : Nat := pU P (pst P (pn P)).1 (pst P (pn P)).2 r d
theorem pV_le (W : PW P) {t : Nat} (ht : t < pn P) : pV P t + pdn P t ≤ 138 := by
  have := ((pst_spec W (pn P) (Nat.le_refl _)).2 t (pst_full W ht)).2.1
  have hn := W.1
  unfold pV
  omega
theorem pUf_none (W : PW P) {r d : Nat} (hd : 138 ≤ d) : pUf P r d = 0 := by
  refine pU_none (B := 138) (fun u hu => ?_) hd
  have := ((pst_spec W (pn P) (Nat.le_refl _)).2 u hu).2.1
  have hn := W.1
  omega
theorem pUf_le (W : PW P) {r d : Nat} : pUf P r d ≤ 60 := pU_le W
/-- whether a task is worked on on a day -/
def pwd (P : qP) (t d : Nat) : Bool := decide (pV P t ≤ d ∧ d < pV P t + pdn P t)
theorem pUf_eq (W : PW P) (r d : Nat) : pUf P r d = gsum (fun t => if prn P t = r ∧ pwd P t d = true then pmn P t else 0) (pn P) := by
  unfold pUf pU
  refine gsum_congr _ (fun t ht => ?_)
  have := pst_full W ht
  unfold pwd pV
  simp [this]
theorem c_usedOn (W : PW P) (p1 : PlanOK P σ) {r d : Nat} (hr : r < 3) (hd : d < 2 ^ 31) : f_X4_usedOn (nI r) (nI d) σ = qan (nI (pUf P r d)) σ := by
  unfold f_X4_usedOn
  by_cases h : 138 ≤ d
  · rw [if_pos (by rw [show (138 : Int32) = nI 138 from rfl]; exact nI_le h hd), pUf_none W h]
    rfl
  · rw [if_neg (by rw [show (138 : Int32) = nI 138 from rfl]; exact nI_ge (by omega) (by omega)), show (138 : Int32) = nI 138 from rfl, n_mul, nI_add, e_at (show r * 138 + d < qlen 18 by show r * 138 + d < 414; omega) (by decide), qb_I, Nat.mul_comm r 138, p1.2.2.2.2.2.1.2 r d hr (by omega)]
    rfl
def isD (x : Int32) : Bool := decide ((0 : Int32) ≤ x)
theorem isD_iff {x : Int32} : isD x = true ↔ ∃ d, d < 2 ^ 31 ∧ x = nI d := by
  unfold isD
  rw [decide_eq_true_iff]
  constructor
  · intro h
    rw [i_le] at h
    have h2 := Int32.toInt_lt x
    rw [show (0 : Int32).toInt = 0 from rfl] at h
    exact ⟨x.toInt.toNat, by omega, i_nI (by omega) (by omega)⟩
  · rintro ⟨d, hd, rfl⟩
    exact nI_pos' hd
theorem c_reqD (x : Int32) (σ : qS) : f_X7_requireDay x σ = if isD x = true then qdo σ else qth qIAE σ := by
  unfold f_X7_requireDay isD
  by_cases h : (0 : Int32) ≤ x
  · rw [if_pos h, if_pos (decide_eq_true h)]
  · rw [if_neg h, if_neg (by rw [decide_eq_false h]; decide)]
theorem c_rd {F : qS → Option qO} (a b : Int32) (σ : qS) : qbind (f_X7_requireResource a σ) (qvV (fun s1 => qbind (f_X7_requireDay b s1) (qvV F) qE1)) qE1 = if (isR a && isD b) = true then F σ else qth qIAE σ := by
  rw [c_reqR]
  cases isR a
  · rfl
  · rw [if_pos rfl, qb_V, c_reqD]
    cases isD b <;> rfl
/-- the reference's use -/
theorem r_usageOn (W : PW P) (H : RepR σ 27 0 P) (a b : Int32) : ∃ σ', qsm [31, 32, 33, 34] σ σ' ∧ (((isR a && isD b) = false ∧ f_X8_usageOn a b σ = qan 0 (qu σ' 26 0 17 1)) ∨ ∃ r d, r < 3 ∧ d < 2 ^ 31 ∧ a = nI r ∧ b = nI d ∧ f_X8_usageOn a b σ = qan (nI (pUf P r d)) (qu σ' 26 0 17 0)) := by
  obtain ⟨σ2, e2, q2, a2, b2, l2⟩ := r_levels W H
  refine ⟨σ2, q2, ?_⟩
  have no : j_X8_usageOn_21 a b 0 σ2 = qan 0 (qu σ2 26 0 17 1) := by
    unfold j_X8_usageOn_21
    rw [show (0 : Int32) = qb1 false from rfl, r_goes, qb_I, if_pos (by decide)]
    rfl
  unfold f_X8_usageOn
  rw [e2, qb_V, r_isR, qb_I]
  cases hx : isR a
  · exact Or.inl ⟨rfl, by rw [if_pos (by rfl)]; exact no⟩
  · rw [if_neg (by decide)]
    cases hy : isD b
    · refine Or.inl ⟨rfl, ?_⟩
      unfold isD at hy
      rw [decide_eq_false_iff_not] at hy
      rw [if_pos (Int32.not_le.mp hy)]
      exact no
    · obtain ⟨r, hr, rfl⟩ := isR_iff.mp hx
      obtain ⟨d, hd, rfl⟩ := isD_iff.mp hy
      refine Or.inr ⟨r, d, hr, hd, rfl, rfl, ?_⟩
      rw [if_neg (n_ge0 hd)]
      unfold j_X8_usageOn_21
      rw [show (1 : Int32) = qb1 true from rfl, r_goes, qb_I, if_neg (by decide)]
      by_cases h : 160 ≤ d
      · rw [if_pos (by rw [show (160 : Int32) = nI 160 from rfl]; exact nI_le h hd), pUf_none W (by omega)]
        rfl
      · rw [if_neg (by rw [show (160 : Int32) = nI 160 from rfl]; exact nI_ge (by omega) (by omega)), show (160 : Int32) = nI 160 from rfl, n_mul, nI_add, if_pos (n_in (by omega) (by decide)), nI_clamp (by omega), qu_at, if_neg (show ¬ (34 = 26 ∧ 0 = 0 ∧ 160 * r + d = 17) by omega), l2.2 r d hr (by omega)]
        rfl
theorem k_usage (a b : Int32) (h : Inv σ) : CaseL (f_L_usage a b) (f_X8_usage a b) σ := by
  obtain ⟨P, hs, sv, I, S⟩ := h
  have W := I.1
  obtain ⟨σ1, c1, q1, I1, s8, p1⟩ := c_plan I S
  obtain ⟨σ2, q2, ⟨hf, e⟩ | ⟨r, d, hr, hd, rfl, rfl, -⟩⟩ := r_usageOn W I.2.2.1 a b
  · exact casek (k := 1) (b := 0) (by decide) (by decide) (by unfold f_L_usage f_X7_usage; rw [c_rd, hf, if_neg (by decide)]; rfl) I S (by unfold f_X8_usage; rw [e, qb_I]; rfl) (thr_at _ _) ((Qr.of q2 (by simp)).trans (Qr.thr _ _))
  · obtain ⟨σ3, q3, ⟨hf, e⟩ | ⟨r', d', hr', hd', e1, e2, e⟩⟩ := r_usageOn W (I1.out (nI (pUf P r d))).2.2.1 (nI r) (nI d)
    · rw [isR_iff.mpr ⟨r, hr, rfl⟩, isD_iff.mpr ⟨d, hd, rfl⟩] at hf; cases hf
    · rw [n_eq (by omega) (by omega)] at e1 e2
      subst e1; subst e2
      refine case0 (r := nI (pUf P r d)) ?_ I1 (Or.inr ⟨s8, p1⟩) (by unfold f_X8_usage; rw [e, qb_I]) (thr_at _ _) ((Qr.of q3 (by simp)).trans (Qr.thr _ _))
      unfold f_L_usage f_X7_usage
      rw [c_rd, isR_iff.mpr ⟨r, hr, rfl⟩, isD_iff.mpr ⟨d, hd, rfl⟩, if_pos (by rfl), c1, qb_P, c_usedOn W p1 hr hd, qb_I]
      rfl
/-- work on a day -/
theorem c_worked (I : InvB σ P hs sv) (S : PlanSt P σ) {t d : Nat} (ht : t < pn P) (hd : d < 2 ^ 31) : ∃ σ', f_X7_isWorkedOn (nI t) (nI d) σ = qan (qb1 (pwd P t d)) σ' ∧ InvB σ' P hs sv ∧ PlanSt P σ' := by
  have W := I.1
  have hn := W.1
  obtain ⟨σ1, c1, q1, I1, s8, p1⟩ := c_plan I S
  have hv := pV_le W ht
  refine ⟨σ1, ?_, I1, Or.inr ⟨s8, p1⟩⟩
  unfold f_X7_isWorkedOn
  rw [c1, qb_P, e_at (show t < 12 by omega) (by decide), qb_I, p1.2.2.2.2.2.1.1 t ht (pst_full W ht), c_dur I1.2.1 W ht, qb_I, (W.dn ht).1, nI_add]
  unfold pwd pV at *
  by_cases h1 : d < (pst P (pn P)).2 t
  · rw [if_pos ((n_lt hd (by omega)).mpr h1), decide_eq_false (by omega)]; rfl
  · rw [if_neg (fun h => h1 ((n_lt hd (by omega)).mp h))]
    by_cases h2 : (pst P (pn P)).2 t + pdn P t ≤ d
    · rw [if_pos ((n_le (by omega) hd).mpr h2), decide_eq_false (by omega)]; rfl
    · rw [if_neg (fun h => h2 ((n_le (by omega) hd).mp h)), decide_eq_true (by omega)]; rfl
theorem gsum_last (f : Nat → Nat) (k : Nat) : gsum f (k + 1) = gsum f k + f k := rfl
theorem c_byTasks_loop {r d : Nat} (hr : r < 3) (hd : d < 2 ^ 31) : ∀ (e i m : Nat) (σ : qS), i + e = pn P → e < m → InvB σ P hs sv → PlanSt P σ → ∃ σ', l_X7_usageByTasks_13 m (nI r) (nI d) (nI (gsum (fun t => if prn P t = r ∧ pwd P t d = true then pmn P t else 0) i)) (nI i) σ = qan (nI (gsum (fun t => if prn P t = r ∧ pwd P t d = true then pmn P t else 0) (pn P))) σ' ∧ InvB σ' P hs sv ∧ PlanSt P σ' := by
  intro e
  induction e with
  | zero =>
    intro i m σ hi hm I S
    obtain ⟨m, rfl⟩ : ∃ m', m = m' + 1 := ⟨m - 1, by omega⟩
    have hn := I.1.1
    have hi : i = pn P := by omega
    subst hi
    refine ⟨σ, ?_, I, S⟩
    simp only [l_X7_usageByTasks_13, b_X7_usageByTasks_13]
    rw [if_pos (by rw [I.2.1.1]; exact Int32.le_refl _)]
  | succ e ih =>
    intro i m σ hi hm I S
    obtain ⟨m, rfl⟩ : ∃ m', m = m' + 1 := ⟨m - 1, by omega⟩
    have W := I.1
    have hn := W.1
    have hg := gsum_last (fun t => if prn P t = r ∧ pwd P t d = true then pmn P t else 0) i
    simp only [l_X7_usageByTasks_13, b_X7_usageByTasks_13]
    rw [if_neg (by rw [I.2.1.1]; exact nI_ge (by omega) (by omega)), c_res I.2.1 W (by omega), qb_I, (W.rn (show i < pn P by omega)).1, nI_1]
    by_cases hp : prn P i = r
    · obtain ⟨σ1, e1, I1, S1⟩ := c_worked I S (show i < pn P by omega) hd
      rw [if_pos (by rw [hp]), e1, qb_I]
      cases hw : pwd P i d
      · rw [if_pos (by rfl)]
        have := ih (i + 1) m σ1 (by omega) (by omega) I1 S1
        rw [hg, if_neg (show ¬ (prn P i = r ∧ pwd P i d = true) by rw [hw]; simp), Nat.add_zero] at this
        exact this
      · rw [if_neg (by decide), c_dem I1.2.1 W (by omega), qb_I, (W.mn (show i < pn P by omega)).1, nI_add]
        have := ih (i + 1) m σ1 (by omega) (by omega) I1 S1
        rw [hg, if_pos (show prn P i = r ∧ pwd P i d = true from ⟨hp, hw⟩)] at this
        exact this
    · rw [if_neg (fun h => hp ((n_eq (by have := (W.rn (show i < pn P by omega)).2; omega) (by omega)).mp h))]
      have := ih (i + 1) m σ (by omega) (by omega) I S
      rw [hg, if_neg (show ¬ (prn P i = r ∧ pwd P i d = true) from fun h => hp h.1), Nat.add_zero] at this
      exact this
theorem k_usageByTasks (a b : Int32) (h : Inv σ) : CaseL (f_L_usageByTasks a b) (f_X8_usageByTasks a b) σ := by
  obtain ⟨P, hs, sv, I, S⟩ := h
  have W := I.1
  obtain ⟨σ2, q2, ⟨hf, e⟩ | ⟨r, d, hr, hd, rfl, rfl, -⟩⟩ := r_usageOn W I.2.2.1 a b
  · exact casek (k := 1) (b := 0) (by decide) (by decide) (by unfold f_L_usageByTasks f_X7_usageByTasks; rw [c_rd, hf, if_neg (by decide)]; rfl) I S (by unfold f_X8_usageByTasks; rw [e, qb_I]; rfl) (thr_at _ _) ((Qr.of q2 (by simp)).trans (Qr.thr _ _))
  · have hn := W.1
    obtain ⟨σ1, c1, I1, S1⟩ := c_byTasks_loop (P := P) hr hd (pn P) 0 qFU σ (by omega) (by unfold qFU; omega) I S
    rw [← pUf_eq W, show nI (gsum (fun t => if prn P t = r ∧ pwd P t d = true then pmn P t else 0) 0) = (0 : Int32) from rfl] at c1
    obtain ⟨σ3, q3, ⟨hf, e⟩ | ⟨r', d', hr', hd', e1, e2, e⟩⟩ := r_usageOn W (I1.out (nI (pUf P r d))).2.2.1 (nI r) (nI d)
    · rw [isR_iff.mpr ⟨r, hr, rfl⟩, isD_iff.mpr ⟨d, hd, rfl⟩] at hf; cases hf
    · rw [n_eq (by omega) (by omega)] at e1 e2
      subst e1; subst e2
      refine case0 (r := nI (pUf P r d)) ?_ I1 S1 (by unfold f_X8_usageByTasks; rw [e, qb_I]) (thr_at _ _) ((Qr.of q3 (by simp)).trans (Qr.thr _ _))
      unfold f_L_usageByTasks f_X7_usageByTasks
      rw [c_rd, isR_iff.mpr ⟨r, hr, rfl⟩, isD_iff.mpr ⟨d, hd, rfl⟩, if_pos (by rfl), show (0 : Int32) = nI 0 from rfl, show nI 0 = (0 : Int32) from rfl]
      erw [c1]
      rfl
/-! tasks on a day -/
theorem c_tasksOn_loop {d : Nat} (hd : d < 2 ^ 31) : ∀ (e i m : Nat) (a : Int32) (σ : qS), i + e = pn P → e < m → InvB σ P hs sv → PlanSt P σ → ∃ σ', l_X7_tasksOn_8 m (nI d) a (nI i) σ = qan (fo (fun t a => if pwd P t d = true then a + 1 else a) e i a) σ' ∧ InvB σ' P hs sv ∧ PlanSt P σ' := by
  intro e
  induction e with
  | zero =>
    intro i m a σ hi hm I S
    obtain ⟨m, rfl⟩ : ∃ m', m = m' + 1 := ⟨m - 1, by omega⟩
    have hn := I.1.1
    refine ⟨σ, ?_, I, S⟩
    simp only [l_X7_tasksOn_8, b_X7_tasksOn_8]
    rw [if_pos (by rw [I.2.1.1]; exact nI_le (by omega) (by omega))]
    rfl
  | succ e ih =>
    intro i m a σ hi hm I S
    obtain ⟨m, rfl⟩ : ∃ m', m = m' + 1 := ⟨m - 1, by omega⟩
    have W := I.1
    have hn := W.1
    obtain ⟨σ1, e1, I1, S1⟩ := c_worked I S (show i < pn P by omega) hd
    simp only [l_X7_tasksOn_8, b_X7_tasksOn_8, fo]
    rw [if_neg (by rw [I.2.1.1]; exact nI_ge (by omega) (by omega)), e1, qb_I, nI_1]
    cases hw : pwd P i d
    · rw [if_pos (by rfl), if_neg (by decide)]
      exact ih (i + 1) m a σ1 (by omega) (by omega) I1 S1
    · rw [if_neg (by decide), if_pos rfl]
      exact ih (i + 1) m _ σ1 (by omega) (by omega) I1 S1
theorem r_tasksOn_loop (W : PW P) (H : RepR σ 27 0 P) (h33 : ∀ t, t < pn P → σ 33 0 t = nI (pV P t)) {d : Nat} (hd : d < 2 ^ 31) : ∀ (e i m : Nat) (a : Int32), i + e = pn P → e < m → l_X8_tasksOn_26 m (nI d) a (nI i) σ = qan (fo (fun t a => if pwd P t d = true then a + 1 else a) e i a) σ := by
  have hn := W.1
  intro e
  induction e with
  | zero =>
    intro i m a hi hm
    obtain ⟨m, rfl⟩ : ∃ m', m = m' + 1 := ⟨m - 1, by omega⟩
    simp only [l_X8_tasksOn_26, b_X8_tasksOn_26, fo]
    rw [if_pos (by rw [H.1]; exact nI_le (by omega) (by omega))]
  | succ e ih =>
    intro i m a hi hm
    obtain ⟨m, rfl⟩ : ∃ m', m = m' + 1 := ⟨m - 1, by omega⟩
    have hq : qin (nI i) 12 := n_in (by omega) (by decide)
    have hv := pV_le W (show i < pn P by omega)
    have hdn := (W.dn (show i < pn P by omega)).2.1
    obtain ⟨z, hz⟩ : ∃ z, pV P i + pdn P i = z + 1 := ⟨pV P i + pdn P i - 1, by omega⟩
    have hin : decide (nI (pV P i) ≤ nI d ∧ nI d ≤ nI z) = pwd P i d := by
      unfold pwd
      refine decide_eq_decide.mpr ?_
      rw [n_le (by omega) hd, n_le hd (by omega)]
      omega
    simp only [l_X8_tasksOn_26, b_X8_tasksOn_26, fo]
    rw [if_neg (by rw [H.1]; exact nI_ge (by omega) (by omega)), if_pos hq, if_pos hq, r_dur H W (by omega), qb_I, nI_clamp (by omega), h33 i (by omega), (W.dn (show i < pn P by omega)).1, nI_add, hz, nI_pred, r_isIn, qb_I, hin, nI_1]
    cases hw : pwd P i d
    · rw [if_pos (by rfl), if_neg (by decide), Int32.add_zero]
      exact ih (i + 1) m a (by omega) (by omega)
    · rw [if_neg (by decide), if_pos rfl]
      exact ih (i + 1) m _ (by omega) (by omega)
theorem k_tasksOn (b : Int32) (h : Inv σ) : CaseL (f_L_tasksOn b) (f_X8_tasksOn b) σ := by
  obtain ⟨P, hs, sv, I, S⟩ := h
  have W := I.1
  have hn := W.1
  cases hy : isD b
  · have hy2 := hy
    unfold isD at hy2
    rw [decide_eq_false_iff_not] at hy2
    exact casek (k := 1) (b := 0) (by decide) (by decide) (by unfold f_L_tasksOn f_X7_tasksOn; rw [c_reqD, hy, if_neg (by decide)]; rfl) I S (by unfold f_X8_tasksOn; rw [if_pos (Int32.not_le.mp hy2), show (0 : Int32) = qb1 false from rfl, r_goes, qb_I, if_pos (by decide)]; rfl) (thr_at _ _) (Qr.thr _ _)
  · obtain ⟨d, hd, rfl⟩ := isD_iff.mp hy
    obtain ⟨σ1, c1, I1, S1⟩ := c_tasksOn_loop (P := P) hd (pn P) 0 qFU 0 σ (by omega) (by unfold qFU; omega) I S
    obtain ⟨F, hF⟩ : ∃ F, F = fo (fun t a => if pwd P t d = true then a + 1 else a) (pn P) 0 0 := ⟨_, rfl⟩
    rw [← hF] at c1
    have R1 : RepR (qu (qu σ1 38 0 0 F) 26 0 17 0) 27 0 P := (I1.out _).2.2.1.qt (Qt.thr _ _) (Or.inl rfl)
    obtain ⟨σ2, e2, q2, a2, b2, l2⟩ := r_levels W R1
    have l3 := r_tasksOn_loop W (R1.same q2 (by simp)) (fun t ht => l2.1 t ht (pst_full W ht)) hd (pn P) 0 qFU 0 (by omega) (by unfold qFU; omega)
    rw [← hF] at l3
    refine case0 (r := F) (σ1 := σ1) (σ2 := σ2) ?_ I1 S1 ?_ (by rw [q2 26 0 (by simp)]; exact thr_at _ _) ((Qr.thr _ _).trans (Qr.of q2 (by simp)))
    · unfold f_L_tasksOn f_X7_tasksOn
      rw [c_reqD, hy, if_pos rfl, qb_V]
      erw [c1]
      rfl
    · unfold f_X8_tasksOn
      rw [if_neg (n_ge0 hd), show (1 : Int32) = qb1 true from rfl, r_goes, qb_I, if_neg (by decide)]
      show qbind (f_X8_levels (qu (qu σ1 38 0 0 F) 26 0 17 0)) _ _ = _
      rw [e2, qb_V]
      exact l3
end QD
end
section
/-! peaks, workloads, baselines -/
section QW
variable {P : qP} {hs : List qP} {sv : qP} {σ : qS}
theorem fo_app {g : Nat → Int32 → Int32} : ∀ (d e i : Nat) (a : Int32), fo g (d + e) i a = fo g e (i + d) (fo g d i a)
  | 0, e, i, a => by rw [Nat.zero_add]; rfl
  | d + 1, e, i, a => by
    rw [show d + 1 + e = (d + e) + 1 by omega, fo, fo_app d e (i + 1), fo, show i + 1 + d = i + (d + 1) by omega]
theorem fo_sum {f : Nat → Nat} {g : Nat → Int32 → Int32} : ∀ (d i : Nat), (∀ t, i ≤ t → t < i + d → ∀ a, g t (nI a) = nI (a + f t)) → fo g d i (nI (gsum f i)) = nI (gsum f (i + d))
  | 0, i, _ => rfl
  | d + 1, i, h => by
    rw [fo, h i (Nat.le_refl _) (by omega), ← gsum_last, fo_sum d (i + 1) (fun t h1 h2 => h t (by omega) (by omega)), show i + 1 + d = i + (d + 1) by omega]
/-- the peak -/
def ppk (P : qP) (r : Nat) : Int32 := fo (fun d a => qmax a (nI (pUf P r d))) 138 0 0
theorem ppk_eq (W : PW P) (r : Nat) : fo (fun d a => qmax a (nI (pUf P r d))) 160 0 0 = ppk P r := by
  have h0 : 0 ≤ (ppk P r).toInt := fo_inv (Q := fun a => 0 ≤ a.toInt) 138 0 0 (by decide) (fun u a _ _ h => by
    show 0 ≤ (qmax a _).toInt
    rw [i_max]
    exact Int.le_trans h (Int.le_max_left _ _))
  rw [show (160 : Nat) = 138 + 22 from rfl, fo_app]
  show fo _ 22 138 (ppk P r) = ppk P r
  exact fo_inv (Q := fun a => a = ppk P r) 22 138 _ rfl (fun u a h1 h2 h => by
    subst h
    rw [pUf_none W h1]
    refine i_eq ?_
    rw [i_max, show (nI 0).toInt = 0 from rfl]
    omega)
theorem c_peak_loop (W : PW P) (p1 : PlanOK P σ) {r : Nat} (hr : r < 3) : ∀ (e i m : Nat) (a : Int32), i + e = 138 → e < m → l_X7_peakUsage_14 m (nI r) a (nI i) σ = qan (fo (fun d a => qmax a (nI (pUf P r d))) e i a) σ := by
  intro e
  induction e with
  | zero =>
    intro i m a hi hm
    obtain ⟨m, rfl⟩ : ∃ m', m = m' + 1 := ⟨m - 1, by omega⟩
    simp only [l_X7_peakUsage_14, b_X7_peakUsage_14, fo]
    rw [if_pos (by rw [show (138 : Int32) = nI 138 from rfl]; exact nI_le (by omega) (by omega))]
  | succ e ih =>
    intro i m a hi hm
    obtain ⟨m, rfl⟩ : ∃ m', m = m' + 1 := ⟨m - 1, by omega⟩
    simp only [l_X7_peakUsage_14, b_X7_peakUsage_14, fo]
    rw [if_neg (by rw [show (138 : Int32) = nI 138 from rfl]; exact nI_ge (by omega) (by omega)), c_usedOn W p1 hr (by omega), qb_I, nI_1]
    exact ih (i + 1) m _ (by omega) (by omega)
theorem r_peak_loop {r : Nat} (hr : r < 3) (h34 : ∀ r d, r < 3 → d < 160 → σ 34 0 (160 * r + d) = nI (pUf P r d)) : ∀ (e i m : Nat) (a : Int32), i + e = 160 → e < m → l_X8_peakUsage_21 m (nI r) a (nI i) σ = qan (fo (fun d a => qmax a (nI (pUf P r d))) e i a) σ := by
  intro e
  induction e with
  | zero =>
    intro i m a hi hm
    obtain ⟨m, rfl⟩ : ∃ m', m = m' + 1 := ⟨m - 1, by omega⟩
    simp only [l_X8_peakUsage_21, b_X8_peakUsage_21, fo]
    rw [if_pos (by rw [show (160 : Int32) = nI 160 from rfl]; exact nI_le (by omega) (by omega))]
  | succ e ih =>
    intro i m a hi hm
    obtain ⟨m, rfl⟩ : ∃ m', m = m' + 1 := ⟨m - 1, by omega⟩
    simp only [l_X8_peakUsage_21, b_X8_peakUsage_21, fo]
    rw [if_neg (by rw [show (160 : Int32) = nI 160 from rfl]; exact nI_ge (by omega) (by omega)), show (160 : Int32) = nI 160 from rfl, n_mul, nI_add, if_pos (n_in (by omega) (by decide)), nI_clamp (by omega), h34 r i hr (by omega), nI_1]
    exact ih (i + 1) m _ (by omega) (by omega)
theorem k_peakUsage (a : Int32) (h : Inv σ) : CaseL (f_L_peakUsage a) (f_X8_peakUsage a) σ := by
  obtain ⟨P, hs, sv, I, S⟩ := h
  have W := I.1
  cases hx : isR a
  · exact casek (k := 1) (b := 0) (by decide) (by decide) (by unfold f_L_peakUsage f_X7_peakUsage; rw [c_reqR, hx, if_neg (by decide)]; rfl) I S (by unfold f_X8_peakUsage; rw [r_isR, hx, qb_I, r_goes, qb_I, if_pos (by decide)]; try rfl) (thr_at _ _) (Qr.thr _ _)
  · obtain ⟨r, hr, rfl⟩ := isR_iff.mp hx
    obtain ⟨σ1, c1, q1, I1, s8, p1⟩ := c_plan I S
    have R1 : RepR (qu (qu σ1 38 0 0 (ppk P r)) 26 0 17 0) 27 0 P := (I1.out _).2.2.1.qt (Qt.thr _ _) (Or.inl rfl)
    obtain ⟨σ2, e2, q2, a2, b2, l2⟩ := r_levels W R1
    refine case0 (r := ppk P r) (σ1 := σ1) (σ2 := σ2) ?_ I1 (Or.inr ⟨s8, p1⟩) ?_ (by rw [q2 26 0 (by simp)]; exact thr_at _ _) ((Qr.thr _ _).trans (Qr.of q2 (by simp)))
    · unfold f_L_peakUsage f_X7_peakUsage
      rw [c_reqR, hx, if_pos rfl, qb_V, c1, qb_P]
      erw [c_peak_loop W p1 hr 138 0 qFU 0 (by omega) (by unfold qFU; omega)]
      rfl
    · unfold f_X8_peakUsage
      rw [r_isR, hx, qb_I, r_goes, qb_I, if_neg (by decide)]
      show qbind (f_X8_levels (qu (qu σ1 38 0 0 (ppk P r)) 26 0 17 0)) _ _ = _
      rw [e2, qb_V]
      erw [r_peak_loop hr l2.2 160 0 qFU 0 (by omega) (by unfold qFU; omega)]
      rw [ppk_eq W]
/-! the work of all days -/
theorem gsum_add (f g : Nat → Nat) : ∀ k, gsum (fun i => f i + g i) k = gsum f k + gsum g k
  | 0 => rfl
  | k + 1 => by rw [gsum_last, gsum_last, gsum_last, gsum_add f g k]; omega
theorem gsum_swap (f : Nat → Nat → Nat) (n : Nat) : ∀ D, gsum (fun d => gsum (f d) n) D = gsum (fun t => gsum (fun d => f d t) D) n
  | 0 => (gsum_zero n (fun _ _ => rfl)).symm
  | D + 1 => by
    rw [gsum_last, gsum_swap f n D, ← gsum_add]
    rfl
theorem gsum_run (s k m : Nat) : ∀ D, gsum (fun d => if s ≤ d ∧ d < s + k then m else 0) D = m * (min D (s + k) - s)
  | 0 => by
    rw [show min 0 (s + k) - s = 0 by omega]
    rfl
  | D + 1 => by
    rw [gsum_last, gsum_run s k m D]
    by_cases h : s ≤ D ∧ D < s + k
    · rw [if_pos h, show min (D + 1) (s + k) - s = (min D (s + k) - s) + 1 by omega, Nat.mul_succ]
    · rw [if_neg h, show min (D + 1) (s + k) - s = min D (s + k) - s by omega, Nat.add_zero]
def pwk (P : qP) (r : Nat) : Nat := gsum (fun t => if prn P t = r then pdn P t * pmn P t else 0) (pn P)
theorem pdays (W : PW P) (r : Nat) : gsum (pUf P r) 138 = pwk P r := by
  rw [gsum_congr 138 (fun d _ => pUf_eq W r d), gsum_swap]
  refine gsum_congr _ (fun t ht => ?_)
  have hv := pV_le W ht
  by_cases h : prn P t = r
  · rw [if_pos h, ← gsum_congr 138 (f := fun d => if pV P t ≤ d ∧ d < pV P t + pdn P t then pmn P t else 0) (fun d _ => by
      unfold pwd
      simp [h]), gsum_run, show min 138 (pV P t + pdn P t) - pV P t = pdn P t by omega, Nat.mul_comm]
  · rw [if_neg h]
    exact gsum_zero _ (fun d _ => if_neg (fun hh => h hh.1))
theorem pwork_n (W : PW P) {r : Nat} (hr : r < 3) : pwork P (nI r) = nI (pwk P r) := by
  unfold pwork pwk
  have := fo_sum (f := fun t => if prn P t = r then pdn P t * pmn P t else 0) (g := fun t a => if pf P 1 t = nI r then a + pf P 0 t * pf P 2 t else a) (pn P) 0 (fun t _ ht a => by
    have ht : t < pn P := by omega
    by_cases h : prn P t = r
    · rw [if_pos (by rw [(W.rn ht).1, h]), if_pos h, (W.dn ht).1, (W.mn ht).1, n_mul, nI_add]
    · rw [if_neg (fun e => h (by rw [(W.rn ht).1] at e; exact (n_eq (by have := (W.rn ht).2; omega) (by omega)).mp e)), if_neg h, Nat.add_zero])
  rw [Nat.zero_add] at this
  exact this
theorem pwk_le (W : PW P) (r : Nat) : pwk P r ≤ 540 := by
  have hn := W.1
  have := gsum_le (f := fun t => if prn P t = r then (if t < pn P then pdn P t * pmn P t else 0) else 0) (b := 45) (pn P) (fun t ht => by
    have h1 := (W.dn ht).2.2
    have h2 := (W.mn ht).2.2
    split
    · exact Nat.le_trans (Nat.mul_le_mul h1 h2) (by decide)
    · omega)
  have e : pwk P r = gsum (fun t => if prn P t = r then (if t < pn P then pdn P t * pmn P t else 0) else 0) (pn P) := gsum_congr _ (fun t ht => by simp [ht])
  omega
theorem c_days_loop (W : PW P) (p1 : PlanOK P σ) {r : Nat} (hr : r < 3) : ∀ (e i m : Nat), i + e = 138 → e < m → l_X4_workOnAllDays_4 m (nI r) (nI (gsum (pUf P r) i)) (nI i) σ = qan (nI (gsum (pUf P r) 138)) σ := by
  intro e
  induction e with
  | zero =>
    intro i m hi hm
    obtain ⟨m, rfl⟩ : ∃ m', m = m' + 1 := ⟨m - 1, by omega⟩
    have hi : i = 138 := by omega
    subst hi
    simp only [l_X4_workOnAllDays_4, b_X4_workOnAllDays_4]
    rw [if_pos (by rw [show (138 : Int32) = nI 138 from rfl]; exact Int32.le_refl _)]
  | succ e ih =>
    intro i m hi hm
    obtain ⟨m, rfl⟩ : ∃ m', m = m' + 1 := ⟨m - 1, by omega⟩
    simp only [l_X4_workOnAllDays_4, b_X4_workOnAllDays_4]
    rw [if_neg (by rw [show (138 : Int32) = nI 138 from rfl]; exact nI_ge (by omega) (by omega)), c_usedOn W p1 hr (by omega), qb_I, nI_1, nI_add, ← gsum_last]
    exact ih (i + 1) m (by omega) (by omega)
theorem c_days (W : PW P) (p1 : PlanOK P σ) {r : Nat} (hr : r < 3) : f_X4_workOnAllDays (nI r) σ = qan (pwork P (nI r)) σ := by
  have := c_days_loop W p1 hr 138 0 qFU (by omega) (by unfold qFU; omega)
  rw [pdays W, ← pwork_n W hr] at this
  exact this
theorem k_workloadByDays (a : Int32) (h : Inv σ) : CaseL (f_L_workloadByDays a) (f_X8_workloadByDays a) σ := by
  obtain ⟨P, hs, sv, I, S⟩ := h
  have W := I.1
  have H := I.2.1
  cases hx : isR a
  · exact casek (k := 1) (b := 0) (by decide) (by decide) (by unfold f_L_workloadByDays f_X7_workloadByDays; rw [c_reqR, hx, if_neg (by decide)]; rfl) I S (by unfold f_X8_workloadByDays; rw [r_work W I.2.2.1, hx, qb_I]; rfl) (thr_at _ _) (Qr.thr _ _)
  · obtain ⟨r, hr, rfl⟩ := isR_iff.mp hx
    obtain ⟨σ1, c1, q1, I1, s8, p1⟩ := c_plan I S
    exact case0 (r := pwork P (nI r)) (σ1 := σ1) (by unfold f_L_workloadByDays f_X7_workloadByDays; rw [c_reqR, hx, if_pos rfl, qb_V, c1, qb_P, c_days W p1 hr]; rfl) I1 (Or.inr ⟨s8, p1⟩) (by unfold f_X8_workloadByDays; rw [r_work W (I1.out _).2.2.1, hx, qb_I]; rfl) (thr_at _ _) (Qr.thr _ 0)
/-! consistent -/
theorem pV_soon (W : PW P) : ∀ i, i ≤ pn P → ∀ u, qbit (pst P i).1 u = true → (psoon P (fun v => nI ((pst P i).2 v)) u).toInt ≤ ((pst P i).2 u : Int) := by
  have hn := W.1
  intro i
  induction i with
  | zero =>
    intro _ u hu
    rw [pst0] at hu
    cases hu
  | succ i ih =>
    intro hi u hu
    obtain ⟨u1, u2, u3, u4, u5, u6⟩ := pst_step W (show i < pn P by omega)
    obtain ⟨r1, r2⟩ := pready_iff.mp u2
    have hs := (pst_spec W i (by omega)).2
    have hbit : ∀ u, qbit (pst P (i + 1)).1 u = (qbit (pst P i).1 u || decide (pur P (pst P i).1 = u)) := fun u => qbit_put (by omega)
    have hl : ∀ u, (pst P (i + 1)).2 u = if u = pur P (pst P i).1 then plow P (pst P i).1 (pst P i).2 (pur P (pst P i).1) 200 (ps0 P (pst P i).2 (pur P (pst P i).1)) else (pst P i).2 u := fun u => rfl
    have hne : ∀ v, qbit (pst P i).1 v = true → (pst P (i + 1)).2 v = (pst P i).2 v := fun v hv => by
      rw [hl, if_neg (fun e => by rw [e, r1] at hv; cases hv)]
    rw [hbit, Bool.or_eq_true, decide_eq_true_iff] at hu
    by_cases e : u = pur P (pst P i).1
    · subst e
      rw [psoon_congr (f' := fun v => nI ((pst P i).2 v)) (fun v hv ev => by rw [hne v (r2 v (by have := W.ed_lt u1 ev; omega) ev)]), u3, hl, if_pos rfl]
      have h9 : ps0 P (pst P i).2 (pur P (pst P i).1) ≤ 138 := by omega
      rw [nI_toInt (by omega)]
      omega
    · rcases hu with hu | hu
      · rw [psoon_congr (f' := fun v => nI ((pst P i).2 v)) (fun v hv ev => by rw [hne v ((hs u hu).2.2 v ev)]), hne u hu]
        exact ih (by omega) u hu
      · exact absurd hu.symm e
theorem pE_pV (W : PW P) {t : Nat} (ht : t < pn P) : (pE P t).toInt ≤ (pV P t : Int) := by
  obtain ⟨h, hh⟩ := W.2.2.2.1
  have key : ∀ k t, t < pn P → h t < k → (pE P t).toInt ≤ (pV P t : Int) := by
    intro k
    induction k with
    | zero => intro t _ hk; omega
    | succ k ih =>
      intro t ht hk
      have h1 := pV_soon W (pn P) (Nat.le_refl _) t (pst_full W ht)
      rw [psoon_le] at h1
      rw [pE_is W t ht, psoon_le]
      refine ⟨h1.1, fun u hu e => ?_⟩
      have h2 := h1.2 u hu e
      have h3 := ih u hu (by have := hh t u ht e; omega)
      have hd := (W.2.1 u hu).1
      have hb := pV_le W hu
      have he := pE_small W hu
      have e1 : (pE P u + pf P 0 u).toInt = (pE P u).toInt + (pf P 0 u).toInt := i_add (by omega) (by omega) (by omega) (by omega)
      have hv : (nI (pV P u)).toInt = (pV P u : Int) := nI_toInt (by omega)
      have e2 : (nI (pV P u) + pf P 0 u).toInt = (nI (pV P u)).toInt + (pf P 0 u).toInt := i_add (by omega) (by omega) (by omega) (by omega)
      unfold pV at *
      rw [e2, hv] at h2
      rw [e1]
      omega
  exact key (h t + 1) t ht (Nat.lt_succ_self _)
theorem c_sa_loop (W : PW P) (H : Rep σ 0 P) (p1 : PlanOK P σ) : ∀ (d i m : Nat), i + d = pn P → d < m → l_X7_startsAgree_7 m (nI i) σ = qan 1 σ := by
  have hn := W.1
  intro d
  induction d with
  | zero =>
    intro i m hi hm
    obtain ⟨m, rfl⟩ : ∃ m', m = m' + 1 := ⟨m - 1, by omega⟩
    simp only [l_X7_startsAgree_7, b_X7_startsAgree_7]
    rw [if_pos (by rw [H.1]; exact nI_le (by omega) (by omega))]
  | succ d ih =>
    intro i m hi hm
    obtain ⟨m, rfl⟩ : ∃ m', m = m' + 1 := ⟨m - 1, by omega⟩
    have hi2 : i < pn P := by omega
    have hv := pV_le W hi2
    have h1 := pE_pV W hi2
    simp only [l_X7_startsAgree_7, b_X7_startsAgree_7]
    rw [if_neg (by rw [H.1]; exact nI_ge (by omega) (by omega)), e_at (show i < 12 by omega) (by decide), qb_I, e_at (show i < 12 by omega) (by decide), qb_I, p1.2.2.1 i hi2, p1.2.2.2.1 i hi2, if_pos rfl, e_at (show i < 12 by omega) (by decide), qb_I, p1.2.2.2.2.2.1.1 i hi2 (pst_full W hi2), nI_1]
    rw [if_pos (by rw [i_le, nI_toInt (by unfold pV at *; omega)]; exact h1)]
    exact ih (i + 1) m (by omega) (by omega)
theorem c_da_in (W : PW P) (H : Rep σ 0 P) {rk : Int32 → qS → Option qO} {t : Nat} (ht : t < pn P) {x : Int32} (hx : ∀ u, qbit x u = prea P t u) : ∀ (d i m : Nat), i + d = pn P → d < m → l_X7_dependenciesAgree_30 rk m (nI t) x (nI i) σ = rk (nI (t + 1)) σ := by
  have hn := W.1
  intro d
  induction d with
  | zero =>
    intro i m hi hm
    obtain ⟨m, rfl⟩ : ∃ m', m = m' + 1 := ⟨m - 1, by omega⟩
    simp only [l_X7_dependenciesAgree_30, b_X7_dependenciesAgree_30]
    rw [if_pos (by rw [H.1]; exact nI_le (by omega) (by omega)), nI_1]
  | succ d ih =>
    intro i m hi hm
    obtain ⟨m, rfl⟩ : ∃ m', m = m' + 1 := ⟨m - 1, by omega⟩
    simp only [l_X7_dependenciesAgree_30, b_X7_dependenciesAgree_30]
    rw [if_neg (by rw [H.1]; exact nI_ge (by omega) (by omega)), e_hasBit (by omega), qb_I, c_reaches H W ht (by omega), qb_I, hx i, if_pos rfl, nI_1]
    exact ih (i + 1) m (by omega) (by omega)
theorem c_da_out (W : PW P) (H : Rep σ 0 P) (p1 : PlanOK P σ) : ∀ (d i m : Nat), i + d = pn P → d < m → l_X7_dependenciesAgree_7 m (nI i) σ = qan 1 σ := by
  have hn := W.1
  intro d
  induction d with
  | zero =>
    intro i m hi hm
    obtain ⟨m, rfl⟩ : ∃ m', m = m' + 1 := ⟨m - 1, by omega⟩
    simp only [l_X7_dependenciesAgree_7, b_X7_dependenciesAgree_7]
    rw [if_pos (by rw [H.1]; exact nI_le (by omega) (by omega))]
  | succ d ih =>
    intro i m hi hm
    obtain ⟨m, rfl⟩ : ∃ m', m = m' + 1 := ⟨m - 1, by omega⟩
    simp only [l_X7_dependenciesAgree_7, b_X7_dependenciesAgree_7]
    rw [if_neg (by rw [H.1]; exact nI_ge (by omega) (by omega)), e_at (show i < 12 by omega) (by decide), qb_I]
    erw [c_da_in W H (show i < pn P by omega) (p1.2.1 i (by omega)) (pn P) 0 qFU (by omega) (by unfold qFU; omega)]
    exact ih (i + 1) m (by omega) (by omega)
theorem c_wa_loop (W : PW P) (H : Rep σ 0 P) (p1 : PlanOK P σ) : ∀ (d i m : Nat), i + d = 3 → d < m → l_X7_workloadsAgree_7 m (nI i) σ = qan 1 σ := by
  intro d
  induction d with
  | zero =>
    intro i m hi hm
    obtain ⟨m, rfl⟩ : ∃ m', m = m' + 1 := ⟨m - 1, by omega⟩
    simp only [l_X7_workloadsAgree_7, b_X7_workloadsAgree_7]
    rw [if_pos (by rw [show (3 : Int32) = nI 3 from rfl]; exact nI_le (by omega) (by omega))]
  | succ d ih =>
    intro i m hi hm
    obtain ⟨m, rfl⟩ : ∃ m', m = m' + 1 := ⟨m - 1, by omega⟩
    simp only [l_X7_workloadsAgree_7, b_X7_workloadsAgree_7]
    rw [if_neg (by rw [show (3 : Int32) = nI 3 from rfl]; exact nI_ge (by omega) (by omega)), c_work W H, qb_I, c_days W p1 (by omega), qb_I, if_pos rfl, nI_1]
    exact ih (i + 1) m (by omega) (by omega)
theorem k_isConsistent (h : Inv σ) : CaseD f_X7_isConsistent f_X8_isConsistent σ := by
  obtain ⟨P, hs, sv, I, S⟩ := h
  have W := I.1
  have hn := W.1
  obtain ⟨σ1, c1, q1, I1, s8, p1⟩ := c_plan I S
  obtain ⟨σ2, c2, q2, I2, s9, p2⟩ := c_plan I1 (Or.inr ⟨s8, p1⟩)
  obtain ⟨σ3, c3, q3, I3, s10, p3⟩ := c_plan I2 (Or.inr ⟨s9, p2⟩)
  refine cased (r := 1) (σ1 := σ3) (σ2 := qu σ3 26 0 17 0) ?_ I3 (Or.inr ⟨s10, p3⟩) rfl (Qr.thr _ _)
  unfold f_X7_isConsistent f_X7_startsAgree
  rw [c1, qb_P]
  erw [c_sa_loop W I1.2.1 p1 (pn P) 0 qFU (by omega) (by unfold qFU; omega)]
  rw [qb_I, if_neg (by decide)]
  unfold f_X7_dependenciesAgree
  rw [c2, qb_P]
  erw [c_da_out W I2.2.1 p2 (pn P) 0 qFU (by omega) (by unfold qFU; omega)]
  rw [qb_I, if_neg (by decide)]
  unfold f_X7_workloadsAgree
  rw [c3, qb_P]
  erw [c_wa_loop W I3.2.1 p3 3 0 qFU (by omega) (by unfold qFU; omega)]
  rw [qb_I, if_neg (by decide)]
end QW
end
section
/-! the baseline: starts, drifts -/
section QB
variable {P : qP} {hs : List qP} {sv : qP} {σ : qS}
def phs (P : qP) (t : Nat) : Bool := !decide (pf P 5 t = -1)
theorem c_hasStart {j : Nat} (W : PW P) (H : Rep σ j P) {t : Nat} (ht : t < pn P) : f_X5_hasStart j (nI t) σ = qan (qb1 (phs P t)) σ := by
  unfold f_X5_hasStart phs
  rw [H.2.2.2]
  by_cases h0 : ph P = 0
  · rw [if_pos h0, W.2.2.2.2.2 h0 t ht]
    rfl
  · rw [if_neg h0, c_base H W ht, qb_I]
    by_cases h1 : pf P 5 t = -1
    · rw [if_pos h1, decide_eq_true h1]; rfl
    · rw [if_neg h1, decide_eq_false h1]; rfl
theorem c_reqB (W : PW P) (H : Rep σ 0 P) {t : Nat} (ht : t < pn P) : f_X7_requireBaselineStart (nI t) σ = if phs P t = true then qdo σ else qth qNSE σ := by
  unfold f_X7_requireBaselineStart
  rw [c_hasStart W H ht, qb_I]
  cases phs P t <;> rfl
theorem r_of0 (H : RepR σ 27 0 P) {x : Int32} (hx : isT P x = false) : ∃ v, f_X8_of x 5 σ = qan v σ := by
  unfold f_X8_of
  rw [r_isT H, hx, qb_I, if_pos (by rfl)]
  unfold f_X8_taskAt
  rw [qb_I, if_pos (by decide)]
  exact ⟨_, rfl⟩
theorem k_baselineStart (a : Int32) (h : Inv σ) : CaseL (f_L_baselineStart a) (f_X8_baselineStart a) σ := by
  obtain ⟨P, hs, sv, I, S⟩ := h
  have W := I.1
  have H := I.2.1
  cases hx : isT P a
  · obtain ⟨v, hv⟩ := r_of0 I.2.2.1 hx
    refine casek (k := 1) (b := 0) (σ1 := σ) (σ2 := qu σ 26 0 17 1) (by decide) (by decide) (by unfold f_L_baselineStart f_X7_baselineStart; rw [c_reqT H, hx, if_neg (by decide)]; rfl) I S ?_ (thr_at _ _) (Qr.thr _ _)
    unfold f_X8_baselineStart
    rw [r_isT I.2.2.1, qb_I, hv, qb_I, hx]
    split
    · rw [show (0 : Int32) = qb1 false from rfl, show (1 : Int32) = qb1 true from rfl, r_holds, qb_I, if_pos (by decide)]; rfl
    · rw [show (0 : Int32) = qb1 false from rfl, show (1 : Int32) = qb1 true from rfl, r_holds, qb_I, if_pos (by decide)]; rfl
  · obtain ⟨t, ht, rfl⟩ := (isT_iff W).mp hx
    cases hb : phs P t
    · have hb2 : pf P 5 t = -1 := by unfold phs at hb; simpa using hb
      refine casek (k := 2) (b := 0) (σ1 := σ) (σ2 := qu σ 26 0 17 2) (by decide) (by decide) (by unfold f_L_baselineStart f_X7_baselineStart; rw [c_reqT H, hx, if_pos rfl, qb_V, c_reqB W H ht, hb, if_neg (by decide)]; rfl) I S ?_ (thr_at _ _) (Qr.thr _ _)
      unfold f_X8_baselineStart
      rw [r_isT I.2.2.1, qb_I, r_base I.2.2.1 W ht, qb_I, hx, if_pos hb2]
      show qbind (f_X8_holds (qb1 true) (qb1 false) (qb1 true) σ) _ _ = _
      rw [r_holds, qb_I, if_pos (by decide)]
      rfl
    · have hb2 : ¬ pf P 5 t = -1 := by unfold phs at hb; simpa using hb
      have R1 := (I.out (pf P 5 t)).2.2.1
      refine case0 (r := pf P 5 t) (σ2 := qu (qu σ 38 0 0 (pf P 5 t)) 26 0 17 0) (by unfold f_L_baselineStart f_X7_baselineStart; rw [c_reqT H, hx, if_pos rfl, qb_V, c_reqB W H ht, hb, if_pos rfl, qb_V, c_base H W ht]; rfl) I S ?_ (thr_at _ _) (Qr.thr _ _)
      unfold f_X8_baselineStart
      rw [r_isT R1, qb_I, r_base R1 W ht, qb_I, hx, if_neg hb2]
      show qbind (f_X8_holds (qb1 true) (qb1 true) (qb1 true) (qu σ 38 0 0 (pf P 5 t))) _ _ = _
      rw [r_holds, qb_I, if_neg (by decide)]
      show qbind (f_X8_of (nI t) 5 (qu (qu σ 38 0 0 (pf P 5 t)) 26 0 17 0)) _ _ = _
      rw [r_base (R1.qt (Qt.thr _ _) (Or.inl rfl)) W ht, qb_I]
def pdr (P : qP) (t : Nat) : Int32 := nI (pV P t) - pf P 5 t
theorem c_drift (I : InvB σ P hs sv) (S : PlanSt P σ) {t : Nat} (ht : t < pn P) : ∃ σ', f_X7_driftOf (nI t) σ = qan (pdr P t) σ' ∧ InvB σ' P hs sv ∧ PlanSt P σ' := by
  have W := I.1
  have hn := W.1
  obtain ⟨σ1, c1, q1, I1, s8, p1⟩ := c_plan I S
  refine ⟨σ1, ?_, I1, Or.inr ⟨s8, p1⟩⟩
  unfold f_X7_driftOf
  rw [c1, qb_P, e_at (show t < 12 by omega) (by decide), qb_I, p1.2.2.2.2.2.1.1 t ht (pst_full W ht), c_base I1.2.1 W ht, qb_I]
  rfl
theorem k_drift (a : Int32) (h : Inv σ) : CaseL (f_L_drift a) (f_X8_drift a) σ := by
  obtain ⟨P, hs, sv, I, S⟩ := h
  have W := I.1
  have H := I.2.1
  have hn := W.1
  cases hx : isT P a
  · obtain ⟨σ2, e2, q2, a2, b2, l2⟩ := r_levels W I.2.2.1
    have R2 := I.2.2.1.same q2 (by simp)
    obtain ⟨v, hv⟩ := r_of0 R2 hx
    refine casek (k := 1) (b := 0) (σ1 := σ) (σ2 := qu σ2 26 0 17 1) (by decide) (by decide) (by unfold f_L_drift f_X7_drift; rw [c_reqT H, hx, if_neg (by decide)]; rfl) I S ?_ (thr_at _ _) ((Qr.of q2 (by simp)).trans (Qr.thr _ _))
    unfold f_X8_drift
    rw [e2, qb_V, r_isT R2, qb_I, hv, qb_I, hx]
    unfold j_X8_drift_25
    split
    · rw [show (0 : Int32) = qb1 false from rfl, show (1 : Int32) = qb1 true from rfl, r_holds, qb_I, if_pos (by decide)]; rfl
    · rw [show (1 : Int32) = qb1 true from rfl, r_holds, qb_I, if_pos (by decide)]; rfl
  · obtain ⟨t, ht, rfl⟩ := (isT_iff W).mp hx
    cases hb : phs P t
    · have hb2 : pf P 5 t = -1 := by unfold phs at hb; simpa using hb
      obtain ⟨σ2, e2, q2, a2, b2, l2⟩ := r_levels W I.2.2.1
      have R2 := I.2.2.1.same q2 (by simp)
      refine casek (k := 2) (b := 0) (σ1 := σ) (σ2 := qu σ2 26 0 17 2) (by decide) (by decide) (by unfold f_L_drift f_X7_drift; rw [c_reqT H, hx, if_pos rfl, qb_V, c_reqB W H ht, hb, if_neg (by decide)]; rfl) I S ?_ (thr_at _ _) ((Qr.of q2 (by simp)).trans (Qr.thr _ _))
      unfold f_X8_drift
      rw [e2, qb_V, r_isT R2, qb_I, r_base R2 W ht, qb_I, hx, if_pos hb2]
      unfold j_X8_drift_25
      show qbind (f_X8_holds (qb1 true) (qb1 false) (qb1 true) σ2) _ _ = _
      rw [r_holds, qb_I, if_pos (by decide)]
      rfl
    · have hb2 : ¬ pf P 5 t = -1 := by unfold phs at hb; simpa using hb
      obtain ⟨σ1, c1, I1, S1⟩ := c_drift I S ht
      have R1 := (I1.out (pdr P t)).2.2.1
      obtain ⟨σ2, e2, q2, a2, b2, l2⟩ := r_levels W R1
      have R2 := R1.same q2 (by simp)
      refine case0 (r := pdr P t) (σ1 := σ1) (σ2 := qu σ2 26 0 17 0) (by unfold f_L_drift f_X7_drift; rw [c_reqT H, hx, if_pos rfl, qb_V, c_reqB W H ht, hb, if_pos rfl, qb_V, c1]; rfl) I1 S1 ?_ (thr_at _ _) ((Qr.of q2 (by simp)).trans (Qr.thr _ _))
      unfold f_X8_drift
      rw [e2, qb_V, r_isT R2, qb_I, r_base R2 W ht, qb_I, hx, if_neg hb2]
      unfold j_X8_drift_25
      show qbind (f_X8_holds (qb1 true) (qb1 true) (qb1 true) σ2) _ _ = _
      rw [r_holds, qb_I, if_neg (by decide)]
      show (if qin (nI t) 12 then qbind (f_X8_of (nI t) 5 (qu σ2 26 0 17 0)) _ _ else none) = _
      rw [if_pos (n_in (by omega) (by decide)), r_base (R2.qt (Qt.thr _ _) (Or.inl rfl)) W ht, qb_I, nI_clamp (by omega)]
      show qan (σ2 33 0 t - pf P 5 t) _ = _
      rw [l2.1 t ht (pst_full W ht)]
      rfl
/-! all drifts -/
theorem c_td_loop : ∀ (d i m : Nat) (a : Int32) (σ : qS), i + d = pn P → d < m → InvB σ P hs sv → PlanSt P σ → ∃ σ', l_X7_totalDrift_24 m a (nI i) σ = qan (fo (fun t a => if phs P t = true then a + qabs (pdr P t) else a) d i a) σ' ∧ InvB σ' P hs sv ∧ PlanSt P σ' := by
  intro d
  induction d with
  | zero =>
    intro i m a σ hi hm I S
    obtain ⟨m, rfl⟩ : ∃ m', m = m' + 1 := ⟨m - 1, by omega⟩
    have hn := I.1.1
    refine ⟨σ, ?_, I, S⟩
    simp only [l_X7_totalDrift_24, b_X7_totalDrift_24]
    rw [if_pos (by rw [I.2.1.1]; exact nI_le (by omega) (by omega))]
    rfl
  | succ d ih =>
    intro i m a σ hi hm I S
    obtain ⟨m, rfl⟩ : ∃ m', m = m' + 1 := ⟨m - 1, by omega⟩
    have W := I.1
    have hn := W.1
    have hf : fo (fun t a => if phs P t = true then a + qabs (pdr P t) else a) (d + 1) i a = fo (fun t a => if phs P t = true then a + qabs (pdr P t) else a) d (i + 1) (if phs P i = true then a + qabs (pdr P i) else a) := rfl
    simp only [l_X7_totalDrift_24, b_X7_totalDrift_24]
    rw [if_neg (by rw [I.2.1.1]; exact nI_ge (by omega) (by omega)), c_hasStart W I.2.1 (by omega), qb_I, nI_1, hf]
    cases hb : phs P i
    · rw [if_pos (by rfl), if_neg (by decide)]
      exact ih (i + 1) m a σ (by omega) (by omega) I S
    · obtain ⟨σ1, c1, I1, S1⟩ := c_drift I S (show i < pn P by omega)
      rw [if_neg (by decide), if_pos rfl, c1, qb_I]
      exact ih (i + 1) m _ σ1 (by omega) (by omega) I1 S1
theorem r_td_loop (W : PW P) (H : RepR σ 27 0 P) (h33 : ∀ t, t < pn P → σ 33 0 t = nI (pV P t)) : ∀ (d i m : Nat) (a : Int32), i + d = pn P → d < m → l_X8_totalDrift_8 m a (nI i) σ = qan (if ph P = 1 then fo (fun t a => if phs P t = true then a + qabs (pdr P t) else a) d i a else 0) (qu σ 26 0 17 (if ph P = 1 then 0 else 1)) := by
  have hn := W.1
  intro d
  induction d with
  | zero =>
    intro i m a hi hm
    obtain ⟨m, rfl⟩ : ∃ m', m = m' + 1 := ⟨m - 1, by omega⟩
    simp only [l_X8_totalDrift_8, b_X8_totalDrift_8]
    rw [if_pos (by rw [H.1]; exact nI_le (by omega) (by omega)), show σ 27 0 1 = ph P from H.2.1]
    by_cases h : ph P = 1
    · rw [if_pos h, if_pos h, if_pos h]
      show qbind (f_X8_goes (qb1 true) σ) _ _ = _
      rw [r_goes, qb_I, if_neg (by decide)]
      rfl
    · rw [if_neg h, if_neg h, if_neg h]
      show qbind (f_X8_goes (qb1 false) σ) _ _ = _
      rw [r_goes, qb_I, if_pos (by decide)]
      rfl
  | succ d ih =>
    intro i m a hi hm
    obtain ⟨m, rfl⟩ : ∃ m', m = m' + 1 := ⟨m - 1, by omega⟩
    have hf : fo (fun t a => if phs P t = true then a + qabs (pdr P t) else a) (d + 1) i a = fo (fun t a => if phs P t = true then a + qabs (pdr P t) else a) d (i + 1) (if phs P i = true then a + qabs (pdr P i) else a) := rfl
    simp only [l_X8_totalDrift_8, b_X8_totalDrift_8]
    rw [if_neg (by rw [H.1]; exact nI_ge (by omega) (by omega)), r_base H W (by omega), qb_I, nI_1, hf]
    by_cases hb : pf P 5 i = -1
    · rw [if_pos hb, Int32.add_zero, show phs P i = false by unfold phs; simp [hb], if_neg (show ¬ false = true by decide)]
      exact ih (i + 1) m a (by omega) (by omega)
    · rw [if_neg hb, show phs P i = true by unfold phs; simp [hb], if_pos rfl, if_pos (n_in (by omega) (by decide)), r_base H W (by omega), qb_I, nI_clamp (by omega), h33 i (by omega)]
      exact ih (i + 1) m _ (by omega) (by omega)
theorem k_totalDrift (h : Inv σ) : CaseL f_L_totalDrift f_X8_totalDrift σ := by
  obtain ⟨P, hs, sv, I, S⟩ := h
  have W := I.1
  have H := I.2.1
  have hn := W.1
  rcases W.2.2.2.2.1 with h0 | h1
  · obtain ⟨σ2, e2, q2, a2, b2, l2⟩ := r_levels W I.2.2.1
    have R2 := I.2.2.1.same q2 (by simp)
    have l3 := r_td_loop W R2 (fun t ht => l2.1 t ht (pst_full W ht)) (pn P) 0 qFU 0 (by omega) (by unfold qFU; omega)
    rw [if_neg (show ¬ ph P = 1 by rw [h0]; decide), if_neg (show ¬ ph P = 1 by rw [h0]; decide)] at l3
    exact casek (k := 1) (b := 0) (by decide) (by decide) (by unfold f_L_totalDrift f_X7_totalDrift; rw [H.2.2.2, if_pos h0]; rfl) I S (by unfold f_X8_totalDrift; rw [e2, qb_V]; exact l3) (thr_at _ _) ((Qr.of q2 (by simp)).trans (Qr.thr _ _))
  · obtain ⟨σ1, c1, I1, S1⟩ := c_td_loop (P := P) (pn P) 0 qFU 0 σ (by omega) (by unfold qFU; omega) I S
    obtain ⟨F, hF⟩ : ∃ F, F = fo (fun t a => if phs P t = true then a + qabs (pdr P t) else a) (pn P) 0 0 := ⟨_, rfl⟩
    rw [← hF] at c1
    have R1 := (I1.out F).2.2.1
    obtain ⟨σ2, e2, q2, a2, b2, l2⟩ := r_levels W R1
    have R2 := R1.same q2 (by simp)
    have l3 := r_td_loop W R2 (fun t ht => l2.1 t ht (pst_full W ht)) (pn P) 0 qFU 0 (by omega) (by unfold qFU; omega)
    rw [if_pos h1, if_pos h1, ← hF] at l3
    exact case0 (r := F) (by unfold f_L_totalDrift f_X7_totalDrift; rw [H.2.2.2, if_neg (by rw [h1]; decide)]; erw [c1]; rfl) I1 S1 (by unfold f_X8_totalDrift; rw [e2, qb_V]; exact l3) (thr_at _ _) ((Qr.of q2 (by simp)).trans (Qr.thr _ _))
end QB
end
section
/-! ranks -/
/-- a task comes before another -/
def rb (A B : Nat → Int) (w t : Nat) : Bool := decide (A w < A t ∨ (A w = A t ∧ (B t < B w ∨ (B w = B t ∧ w < t))))
def rkc (A B : Nat → Int) (n t : Nat) : Nat := gcnt (fun w => rb A B w t) n
theorem rkc_lt {A B : Nat → Int} {n t u : Nat} (ht : t < n) (h : rb A B t u = true) : rkc A B n t < rkc A B n u := by
  refine gcnt_lt (fun w hw => ?_) (x := t) ?_ h n ht
  · unfold rb at *
    rw [decide_eq_true_iff] at *
    omega
  · unfold rb
    rw [decide_eq_false_iff_not]
    omega
theorem rkc_inj {A B : Nat → Int} {n t u : Nat} (ht : t < n) (hu : u < n) (h : rkc A B n t = rkc A B n u) : t = u := by
  by_cases h1 : rb A B t u = true
  · have := rkc_lt ht h1
    omega
  · by_cases h2 : rb A B u t = true
    · have := rkc_lt hu h2
      omega
    · unfold rb at *
      rw [decide_eq_true_iff] at *
      omega
theorem rkc_le {A B : Nat → Int} {n t : Nat} : rkc A B n t ≤ n := gcnt_le _ n
/-- the last of a kind -/
def gla (c : Nat → Bool) (N : Nat) : Nat → Nat
  | 0 => N
  | i + 1 => if c i = true then i else gla c N i
theorem gla_spec (c : Nat → Bool) (N : Nat) : ∀ i, (gla c N i = N ∧ ∀ t, t < i → c t = false) ∨ (gla c N i < i ∧ c (gla c N i) = true)
  | 0 => Or.inl ⟨rfl, fun _ h => by omega⟩
  | i + 1 => by
    unfold gla
    by_cases h : c i = true
    · rw [if_pos h]; exact Or.inr ⟨by omega, h⟩
    · rw [if_neg h]
      rcases gla_spec c N i with ⟨h1, h2⟩ | ⟨h1, h2⟩
      · refine Or.inl ⟨h1, fun t ht => ?_⟩
        by_cases e : t = i
        · rw [e]; simpa using h
        · exact h2 t (by omega)
      · exact Or.inr ⟨by omega, h2⟩
theorem gfs_spec (c : Nat → Bool) : ∀ d i, (gfs c d i = i + d ∧ ∀ t, i ≤ t → t < i + d → c t = false) ∨ (i ≤ gfs c d i ∧ gfs c d i < i + d ∧ c (gfs c d i) = true)
  | 0, i => Or.inl ⟨rfl, fun _ _ h => by omega⟩
  | d + 1, i => by
    unfold gfs
    by_cases h : c i = true
    · rw [if_pos h]; exact Or.inr ⟨by omega, by omega, h⟩
    · rw [if_neg h]
      rcases gfs_spec c d (i + 1) with ⟨h1, h2⟩ | ⟨h1, h2, h3⟩
      · refine Or.inl ⟨by omega, fun t h3 h4 => ?_⟩
        by_cases e : t = i
        · rw [e]; simpa using h
        · exact h2 t (by omega) (by omega)
      · exact Or.inr ⟨by omega, by omega, h3⟩
theorem gla_gfs {c : Nat → Bool} {n : Nat} (hc : ∀ t u, t < n → u < n → c t = true → c u = true → t = u) : gla c n n = gfs c n 0 := by
  rcases gla_spec c n n with ⟨h1, h2⟩ | ⟨h1, h2⟩ <;> rcases gfs_spec c n 0 with ⟨k1, k2⟩ | ⟨k0, k1, k2⟩
  · omega
  · rw [h2 _ (by omega)] at k2; cases k2
  · rw [k2 _ (by omega) (by omega)] at h2; cases h2
  · exact hc _ _ h1 (by omega) h2 k2
section QK2
variable {P : qP} {hs : List qP} {sv : qP} {σ : qS} {A B : Nat → Int}
def rkq (P : qP) (A B : Nat → Int) (x : Int32) (t : Nat) : Bool := decide (nI (rkc A B (pn P) t) = x)
theorem rkq_inj (W : PW P) {x : Int32} : ∀ t u, t < pn P → u < pn P → rkq P A B x t = true → rkq P A B x u = true → t = u := by
  have hn := W.1
  intro t u ht hu h1 h2
  unfold rkq at h1 h2
  rw [decide_eq_true_iff] at h1 h2
  rw [← h2, n_eq (by have := @rkc_le A B (pn P) t; omega) (by have := @rkc_le A B (pn P) u; omega)] at h1
  exact rkc_inj ht hu h1
/-- the class: keys -/
def KeyOK (P : qP) (A B : Nat → Int) (σ : qS) : Prop := ∀ t, t < pn P → (σ 25 0 t).toInt = 10 * A t - B t
theorem c_cb_loop (W : PW P) (H : Rep σ 0 P) (K : KeyOK P A B σ) (hB : ∀ t, t < pn P → 0 ≤ B t ∧ B t ≤ 9) {t : Nat} (ht : t < pn P) : ∀ (d i m : Nat), i + d = pn P → d < m → l_X7_countBefore_14 m (nI t) (σ 25 0 t) (nI (gcnt (fun w => rb A B w t) i)) (nI i) σ = qan (nI (rkc A B (pn P) t)) σ := by
  have hn := W.1
  intro d
  induction d with
  | zero =>
    intro i m hi hm
    obtain ⟨m, rfl⟩ : ∃ m', m = m' + 1 := ⟨m - 1, by omega⟩
    have hi : i = pn P := by omega
    subst hi
    simp only [l_X7_countBefore_14, b_X7_countBefore_14]
    rw [if_pos (by rw [H.1]; exact Int32.le_refl _)]
    rfl
  | succ d ih =>
    intro i m hi hm
    obtain ⟨m, rfl⟩ : ∃ m', m = m' + 1 := ⟨m - 1, by omega⟩
    have hg : gcnt (fun w => rb A B w t) (i + 1) = gcnt (fun w => rb A B w t) i + (if rb A B i t = true then 1 else 0) := rfl
    have k1 := K i (by omega)
    have k2 := K t ht
    have b1 := hB i (by omega)
    have b2 := hB t ht
    have ih2 := ih (i + 1) m (by omega) (by omega)
    simp only [l_X7_countBefore_14, b_X7_countBefore_14]
    rw [if_neg (by rw [H.1]; exact nI_ge (by omega) (by omega)), e_at (show i < 12 by omega) (by decide), qb_I, nI_1, nI_1]
    have yes : rb A B i t = true → l_X7_countBefore_14 m (nI t) (σ 25 0 t) (nI (gcnt (fun w => rb A B w t) i + 1)) (nI (i + 1)) σ = qan (nI (rkc A B (pn P) t)) σ := fun h => by
      rw [hg, if_pos h] at ih2
      exact ih2
    have no : rb A B i t = false → l_X7_countBefore_14 m (nI t) (σ 25 0 t) (nI (gcnt (fun w => rb A B w t) i)) (nI (i + 1)) σ = qan (nI (rkc A B (pn P) t)) σ := fun h => by
      rw [hg, h, if_neg (by decide), Nat.add_zero] at ih2
      exact ih2
    by_cases h1 : σ 25 0 i < σ 25 0 t
    · rw [if_pos h1]
      rw [i_lt] at h1
      exact yes (by unfold rb; rw [decide_eq_true_iff]; omega)
    · rw [if_neg h1]
      rw [i_lt] at h1
      by_cases h2 : σ 25 0 i = σ 25 0 t
      · rw [if_pos h2]
        have h3 := congrArg Int32.toInt h2
        by_cases h4 : nI t ≤ nI i
        · rw [if_pos h4]
          rw [n_le (by omega) (by omega)] at h4
          exact no (by unfold rb; rw [decide_eq_false_iff_not]; omega)
        · rw [if_neg h4]
          rw [n_le (by omega) (by omega)] at h4
          exact yes (by unfold rb; rw [decide_eq_true_iff]; omega)
      · rw [if_neg h2]
        have h3 : ¬ (σ 25 0 i).toInt = (σ 25 0 t).toInt := fun e => h2 (i_eq e)
        exact no (by unfold rb; rw [decide_eq_false_iff_not]; omega)
theorem c_rank_loop (W : PW P) (H : Rep σ 0 P) (K : KeyOK P A B σ) (hB : ∀ t, t < pn P → 0 ≤ B t ∧ B t ≤ 9) (x : Int32) : ∀ (d i m : Nat), i + d = pn P → d < m → l_X7_taskAtRank_2 m x (nI i) σ = if gfs (rkq P A B x) d i = pn P then qth qNSE σ else qan (nI (gfs (rkq P A B x) d i)) σ := by
  have hn := W.1
  intro d
  induction d with
  | zero =>
    intro i m hi hm
    obtain ⟨m, rfl⟩ : ∃ m', m = m' + 1 := ⟨m - 1, by omega⟩
    simp only [l_X7_taskAtRank_2, b_X7_taskAtRank_2]
    rw [if_pos (by rw [H.1]; exact nI_le (by omega) (by omega)), show gfs (rkq P A B x) 0 i = i from rfl, if_pos (by omega)]
  | succ d ih =>
    intro i m hi hm
    obtain ⟨m, rfl⟩ : ∃ m', m = m' + 1 := ⟨m - 1, by omega⟩
    have hg : gfs (rkq P A B x) (d + 1) i = if rkq P A B x i = true then i else gfs (rkq P A B x) d (i + 1) := rfl
    simp only [l_X7_taskAtRank_2, b_X7_taskAtRank_2]
    unfold f_X7_countBefore
    rw [if_neg (by rw [H.1]; exact nI_ge (by omega) (by omega)), e_at (show i < 12 by omega) (by decide), qb_I]
    have cb := c_cb_loop W H K hB (show i < pn P by omega) (pn P) 0 qFU (by omega) (by unfold qFU; omega)
    rw [show nI (gcnt (fun w => rb A B w i) 0) = (0 : Int32) from rfl, show nI 0 = (0 : Int32) from rfl] at cb
    rw [cb, qb_I, nI_1]
    by_cases e : nI (rkc A B (pn P) i) = x
    · rw [show rkq P A B x i = true from decide_eq_true e, if_pos rfl] at hg
      rw [if_pos e, hg, if_neg (by omega)]
    · rw [show rkq P A B x i = false from decide_eq_false e, if_neg (show ¬ false = true by decide)] at hg
      rw [if_neg e, hg]
      exact ih (i + 1) m (by omega) (by omega)
theorem c_rank (W : PW P) (H : Rep σ 0 P) (K : KeyOK P A B σ) (hB : ∀ t, t < pn P → 0 ≤ B t ∧ B t ≤ 9) (x : Int32) : f_X7_taskAtRank x σ = if gfs (rkq P A B x) (pn P) 0 = pn P then qth qNSE σ else qan (nI (gfs (rkq P A B x) (pn P) 0)) σ := by
  have hn := W.1
  exact c_rank_loop W H K hB x (pn P) 0 qFU (by omega) (by unfold qFU; omega)
/-- the keys' loops -/
theorem i_key {a b : Int32} (h1 : -1000 ≤ a.toInt) (h2 : a.toInt ≤ 1000) (h3 : -1000 ≤ b.toInt) (h4 : b.toInt ≤ 1000) : ((10 : Int32) * a - b).toInt = 10 * a.toInt - b.toInt := by
  have e1 : ((10 : Int32) * a).toInt = 10 * a.toInt := by
    rw [show (10 : Int32) * a = a * 10 from Int32.mul_comm _ _, i_mul (by omega) (by omega) (by decide) (by decide), show (10 : Int32).toInt = 10 from rfl]
    omega
  rw [i_sub (by omega) (by omega) (by omega) (by omega), e1]
theorem c_bySlack_loop (W : PW P) (x : Int32) : ∀ (d i m : Nat) (σ : qS), i + d = pn P → d < m → Rep σ 0 P → PlanOK P σ → (∀ t, t < i → (σ 25 0 t).toInt = 10 * ((pL P t).toInt - (pE P t).toInt) - (pf P 0 t).toInt) → ∃ σ', qsm [25] σ σ' ∧ l_X7_taskBySlack_7 m x (nI i) σ = qbind (f_X7_taskAtRank x σ') (qvI (fun r1 s2 => (some (.inl (some (qI r1)), s2)))) qE1 ∧ KeyOK P (fun t => (pL P t).toInt - (pE P t).toInt) (fun t => (pf P 0 t).toInt) σ' ∧ Rep σ' 0 P ∧ PlanOK P σ' := by
  have hn := W.1
  intro d
  induction d with
  | zero =>
    intro i m σ hi hm H p1 K
    obtain ⟨m, rfl⟩ : ∃ m', m = m' + 1 := ⟨m - 1, by omega⟩
    refine ⟨σ, qsm.refl _ σ, ?_, fun t ht => K t (by omega), H, p1⟩
    simp only [l_X7_taskBySlack_7, b_X7_taskBySlack_7]
    rw [if_pos (by rw [H.1]; exact nI_le (by omega) (by omega))]
  | succ d ih =>
    intro i m σ hi hm H p1 K
    obtain ⟨m, rfl⟩ : ∃ m', m = m' + 1 := ⟨m - 1, by omega⟩
    have hi2 : i < pn P := by omega
    have l1 := pL_bd W hi2
    have l2 := pE_small W hi2
    have l3 := (W.2.1 i hi2).1
    have e1 : (pL P i - pE P i).toInt = (pL P i).toInt - (pE P i).toInt := i_sub (by omega) (by omega) (by omega) (by omega)
    have e2 := i_key (a := pL P i - pE P i) (b := pf P 0 i) (by omega) (by omega) (by omega) (by omega)
    obtain ⟨σ', q, e, r⟩ := ih (i + 1) m (qu σ 25 0 i ((10 : Int32) * (pL P i - pE P i) - pf P 0 i)) (by omega) (by omega) (H.same (qsm_qu σ 25 0 i _) (by simp)) (p1.same (qsm_qu σ 25 0 i _) (by simp)) (fun t ht => by
      rw [qu_at]
      by_cases h : t = i
      · rw [if_pos ⟨rfl, rfl, h⟩, e2, e1, h]
      · rw [if_neg (fun hh => h hh.2.2)]
        exact K t (by omega))
    refine ⟨σ', (qsm_qu σ 25 0 i _).trans q, ?_, r⟩
    simp only [l_X7_taskBySlack_7, b_X7_taskBySlack_7]
    rw [if_neg (by rw [H.1]; exact nI_ge (by omega) (by omega)), e_slack p1 W hi2, qb_I, c_dur H W hi2, qb_I]
    unfold f_X7_sortingKey
    rw [qb_I, e_put (show i < 12 by omega) (by decide), qb_V, nI_1]
    exact e
theorem c_byStart_loop (W : PW P) (x : Int32) : ∀ (d i m : Nat) (σ : qS), i + d = pn P → d < m → Rep σ 0 P → PlanOK P σ → (∀ t, t < i → (σ 25 0 t).toInt = 10 * (pV P t : Int) - (pf P 2 t).toInt) → ∃ σ', qsm [25] σ σ' ∧ l_X7_taskByStart_7 m x (nI i) σ = qbind (f_X7_taskAtRank x σ') (qvI (fun r1 s2 => (some (.inl (some (qI r1)), s2)))) qE1 ∧ KeyOK P (fun t => (pV P t : Int)) (fun t => (pf P 2 t).toInt) σ' ∧ Rep σ' 0 P ∧ PlanOK P σ' := by
  have hn := W.1
  intro d
  induction d with
  | zero =>
    intro i m σ hi hm H p1 K
    obtain ⟨m, rfl⟩ : ∃ m', m = m' + 1 := ⟨m - 1, by omega⟩
    refine ⟨σ, qsm.refl _ σ, ?_, fun t ht => K t (by omega), H, p1⟩
    simp only [l_X7_taskByStart_7, b_X7_taskByStart_7]
    rw [if_pos (by rw [H.1]; exact nI_le (by omega) (by omega))]
  | succ d ih =>
    intro i m σ hi hm H p1 K
    obtain ⟨m, rfl⟩ : ∃ m', m = m' + 1 := ⟨m - 1, by omega⟩
    have hi2 : i < pn P := by omega
    have l1 := pV_le W hi2
    have l3 := (W.2.1 i hi2).2.2.1
    have e1 : (nI (pV P i)).toInt = (pV P i : Int) := nI_toInt (by omega)
    have e2 := i_key (a := nI (pV P i)) (b := pf P 2 i) (by omega) (by omega) (by omega) (by omega)
    obtain ⟨σ', q, e, r⟩ := ih (i + 1) m (qu σ 25 0 i ((10 : Int32) * nI (pV P i) - pf P 2 i)) (by omega) (by omega) (H.same (qsm_qu σ 25 0 i _) (by simp)) (p1.same (qsm_qu σ 25 0 i _) (by simp)) (fun t ht => by
      rw [qu_at]
      by_cases h : t = i
      · rw [if_pos ⟨rfl, rfl, h⟩, e2, e1, h]
      · rw [if_neg (fun hh => h hh.2.2)]
        exact K t (by omega))
    refine ⟨σ', (qsm_qu σ 25 0 i _).trans q, ?_, r⟩
    simp only [l_X7_taskByStart_7, b_X7_taskByStart_7]
    rw [if_neg (by rw [H.1]; exact nI_ge (by omega) (by omega)), e_at (show i < 12 by omega) (by decide), qb_I, p1.2.2.2.2.2.1.1 i hi2 (pst_full W hi2), c_dem H W hi2, qb_I]
    unfold f_X7_sortingKey
    rw [qb_I, e_put (show i < 12 by omega) (by decide), qb_V, nI_1]
    exact e
end QK2
end
