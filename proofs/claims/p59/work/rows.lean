section
-- ===== PART A: goes FIRST, ahead of the names: the tables' words, and 'selects' of the private methods out of them =====
/-- a private method of a class that the tables say can be made, by its rows of tables_1 -/
def lw_okq (q : MethodName × Nat) : Prop := (q.1.cls ≠ "java/lang/invoke/MethodHandle" ∧ q.1.cls ≠ "java/lang/invoke/VarHandle") ∧ Cond.instantiable q.1.cls q.2 ∈ tables_1 ∧ Cond.privateMethod q.1 ∈ tables_1 ∧ Cond.instanceMethod q.1 ∈ tables_1
theorem lw_p0 : lw_okq (⟨"java/lang/Throwable", "fillInStackTrace", "(I)Ljava/lang/Throwable;"⟩, 6) := ⟨⟨by decide +kernel, by decide +kernel⟩, List.mem_of_getElem? (i := 286) (by decide +kernel), List.mem_of_getElem? (i := 284) (by decide +kernel), List.mem_of_getElem? (i := 285) (by decide +kernel)⟩
theorem lw_p1 : lw_okq (⟨"TaskLeveller$Project", "faultOfAdding", "(IIII)C"⟩, 9) := ⟨⟨by decide +kernel, by decide +kernel⟩, List.mem_of_getElem? (i := 39) (by decide +kernel), List.mem_of_getElem? (i := 342) (by decide +kernel), List.mem_of_getElem? (i := 343) (by decide +kernel)⟩
theorem lw_p2 : lw_okq (⟨"TaskLeveller", "beginChange", "()V"⟩, 13) := ⟨⟨by decide +kernel, by decide +kernel⟩, List.mem_of_getElem? (i := 31) (by decide +kernel), List.mem_of_getElem? (i := 413) (by decide +kernel), List.mem_of_getElem? (i := 414) (by decide +kernel)⟩
theorem lw_p3 : lw_okq (⟨"TaskLeveller$History", "keep", "(LTaskLeveller$Project;)V"⟩, 3) := ⟨⟨by decide +kernel, by decide +kernel⟩, List.mem_of_getElem? (i := 93) (by decide +kernel), List.mem_of_getElem? (i := 417) (by decide +kernel), List.mem_of_getElem? (i := 418) (by decide +kernel)⟩
theorem lw_p4 : lw_okq (⟨"TaskLeveller$History", "stateAt", "(I)LTaskLeveller$Project;"⟩, 3) := ⟨⟨by decide +kernel, by decide +kernel⟩, List.mem_of_getElem? (i := 93) (by decide +kernel), List.mem_of_getElem? (i := 421) (by decide +kernel), List.mem_of_getElem? (i := 422) (by decide +kernel)⟩
theorem lw_p5 : lw_okq (⟨"TaskLeveller$Project", "copyFrom", "(LTaskLeveller$Project;)V"⟩, 9) := ⟨⟨by decide +kernel, by decide +kernel⟩, List.mem_of_getElem? (i := 39) (by decide +kernel), List.mem_of_getElem? (i := 425) (by decide +kernel), List.mem_of_getElem? (i := 426) (by decide +kernel)⟩
theorem lw_p6 : lw_okq (⟨"TaskLeveller$Project", "append", "(IIII)I"⟩, 9) := ⟨⟨by decide +kernel, by decide +kernel⟩, List.mem_of_getElem? (i := 39) (by decide +kernel), List.mem_of_getElem? (i := 435) (by decide +kernel), List.mem_of_getElem? (i := 436) (by decide +kernel)⟩
theorem lw_p7 : lw_okq (⟨"TaskLeveller$Project", "faultOfTask", "(I)C"⟩, 9) := ⟨⟨by decide +kernel, by decide +kernel⟩, List.mem_of_getElem? (i := 39) (by decide +kernel), List.mem_of_getElem? (i := 446) (by decide +kernel), List.mem_of_getElem? (i := 447) (by decide +kernel)⟩
theorem lw_p8 : lw_okq (⟨"TaskLeveller$Project", "drop", "(I)V"⟩, 9) := ⟨⟨by decide +kernel, by decide +kernel⟩, List.mem_of_getElem? (i := 39) (by decide +kernel), List.mem_of_getElem? (i := 450) (by decide +kernel), List.mem_of_getElem? (i := 451) (by decide +kernel)⟩
theorem lw_p9 : lw_okq (⟨"TaskLeveller$Project", "faultOfLinking", "(II)C"⟩, 9) := ⟨⟨by decide +kernel, by decide +kernel⟩, List.mem_of_getElem? (i := 39) (by decide +kernel), List.mem_of_getElem? (i := 467) (by decide +kernel), List.mem_of_getElem? (i := 468) (by decide +kernel)⟩
theorem lw_p10 : lw_okq (⟨"TaskLeveller$Project", "faultOfPair", "(II)C"⟩, 9) := ⟨⟨by decide +kernel, by decide +kernel⟩, List.mem_of_getElem? (i := 39) (by decide +kernel), List.mem_of_getElem? (i := 471) (by decide +kernel), List.mem_of_getElem? (i := 472) (by decide +kernel)⟩
theorem lw_p11 : lw_okq (⟨"TaskLeveller$Project", "reaches", "(II)Z"⟩, 9) := ⟨⟨by decide +kernel, by decide +kernel⟩, List.mem_of_getElem? (i := 39) (by decide +kernel), List.mem_of_getElem? (i := 476) (by decide +kernel), List.mem_of_getElem? (i := 477) (by decide +kernel)⟩
theorem lw_p12 : lw_okq (⟨"TaskLeveller$Project", "isLinked", "(II)Z"⟩, 9) := ⟨⟨by decide +kernel, by decide +kernel⟩, List.mem_of_getElem? (i := 39) (by decide +kernel), List.mem_of_getElem? (i := 486) (by decide +kernel), List.mem_of_getElem? (i := 487) (by decide +kernel)⟩
theorem lw_p13 : lw_okq (⟨"TaskLeveller$Project", "link", "(II)V"⟩, 9) := ⟨⟨by decide +kernel, by decide +kernel⟩, List.mem_of_getElem? (i := 39) (by decide +kernel), List.mem_of_getElem? (i := 490) (by decide +kernel), List.mem_of_getElem? (i := 491) (by decide +kernel)⟩
theorem lw_p14 : lw_okq (⟨"TaskLeveller$Project", "unlink", "(II)V"⟩, 9) := ⟨⟨by decide +kernel, by decide +kernel⟩, List.mem_of_getElem? (i := 39) (by decide +kernel), List.mem_of_getElem? (i := 502) (by decide +kernel), List.mem_of_getElem? (i := 503) (by decide +kernel)⟩
theorem lw_p15 : lw_okq (⟨"TaskLeveller$Project", "faultOfDuration", "(II)C"⟩, 9) := ⟨⟨by decide +kernel, by decide +kernel⟩, List.mem_of_getElem? (i := 39) (by decide +kernel), List.mem_of_getElem? (i := 510) (by decide +kernel), List.mem_of_getElem? (i := 511) (by decide +kernel)⟩
def lw_privs_1 : List (MethodName × Nat) := [(⟨"java/lang/Throwable", "fillInStackTrace", "(I)Ljava/lang/Throwable;"⟩, 6), (⟨"TaskLeveller$Project", "faultOfAdding", "(IIII)C"⟩, 9), (⟨"TaskLeveller", "beginChange", "()V"⟩, 13), (⟨"TaskLeveller$History", "keep", "(LTaskLeveller$Project;)V"⟩, 3), (⟨"TaskLeveller$History", "stateAt", "(I)LTaskLeveller$Project;"⟩, 3), (⟨"TaskLeveller$Project", "copyFrom", "(LTaskLeveller$Project;)V"⟩, 9), (⟨"TaskLeveller$Project", "append", "(IIII)I"⟩, 9), (⟨"TaskLeveller$Project", "faultOfTask", "(I)C"⟩, 9), (⟨"TaskLeveller$Project", "drop", "(I)V"⟩, 9), (⟨"TaskLeveller$Project", "faultOfLinking", "(II)C"⟩, 9), (⟨"TaskLeveller$Project", "faultOfPair", "(II)C"⟩, 9), (⟨"TaskLeveller$Project", "reaches", "(II)Z"⟩, 9), (⟨"TaskLeveller$Project", "isLinked", "(II)Z"⟩, 9), (⟨"TaskLeveller$Project", "link", "(II)V"⟩, 9), (⟨"TaskLeveller$Project", "unlink", "(II)V"⟩, 9), (⟨"TaskLeveller$Project", "faultOfDuration", "(II)C"⟩, 9)]
theorem lw_r1 : ∀ q ∈ lw_privs_1, lw_okq q := List.forall_mem_cons.mpr ⟨lw_p0, List.forall_mem_cons.mpr ⟨lw_p1, List.forall_mem_cons.mpr ⟨lw_p2, List.forall_mem_cons.mpr ⟨lw_p3, List.forall_mem_cons.mpr ⟨lw_p4, List.forall_mem_cons.mpr ⟨lw_p5, List.forall_mem_cons.mpr ⟨lw_p6, List.forall_mem_cons.mpr ⟨lw_p7, List.forall_mem_cons.mpr ⟨lw_p8, List.forall_mem_cons.mpr ⟨lw_p9, List.forall_mem_cons.mpr ⟨lw_p10, List.forall_mem_cons.mpr ⟨lw_p11, List.forall_mem_cons.mpr ⟨lw_p12, List.forall_mem_cons.mpr ⟨lw_p13, List.forall_mem_cons.mpr ⟨lw_p14, List.forall_mem_cons.mpr ⟨lw_p15, fun _ h => absurd h List.not_mem_nil⟩⟩⟩⟩⟩⟩⟩⟩⟩⟩⟩⟩⟩⟩⟩⟩
theorem lw_p16 : lw_okq (⟨"TaskLeveller$Project", "faultOfRelease", "(II)C"⟩, 9) := ⟨⟨by decide +kernel, by decide +kernel⟩, List.mem_of_getElem? (i := 39) (by decide +kernel), List.mem_of_getElem? (i := 520) (by decide +kernel), List.mem_of_getElem? (i := 521) (by decide +kernel)⟩
theorem lw_p17 : lw_okq (⟨"TaskLeveller$Project", "faultOfLimit", "(II)C"⟩, 9) := ⟨⟨by decide +kernel, by decide +kernel⟩, List.mem_of_getElem? (i := 39) (by decide +kernel), List.mem_of_getElem? (i := 528) (by decide +kernel), List.mem_of_getElem? (i := 529) (by decide +kernel)⟩
theorem lw_p18 : lw_okq (⟨"TaskLeveller", "currentPlan", "()LTaskLeveller$Plan;"⟩, 13) := ⟨⟨by decide +kernel, by decide +kernel⟩, List.mem_of_getElem? (i := 31) (by decide +kernel), List.mem_of_getElem? (i := 536) (by decide +kernel), List.mem_of_getElem? (i := 537) (by decide +kernel)⟩
theorem lw_p19 : lw_okq (⟨"TaskLeveller$Plan", "make", "(LTaskLeveller$Project;)V"⟩, 9) := ⟨⟨by decide +kernel, by decide +kernel⟩, List.mem_of_getElem? (i := 112) (by decide +kernel), List.mem_of_getElem? (i := 540) (by decide +kernel), List.mem_of_getElem? (i := 541) (by decide +kernel)⟩
theorem lw_p20 : lw_okq (⟨"TaskLeveller$Plan", "findOrder", "(LTaskLeveller$Project;)V"⟩, 9) := ⟨⟨by decide +kernel, by decide +kernel⟩, List.mem_of_getElem? (i := 112) (by decide +kernel), List.mem_of_getElem? (i := 544) (by decide +kernel), List.mem_of_getElem? (i := 545) (by decide +kernel)⟩
theorem lw_p21 : lw_okq (⟨"TaskLeveller$Project", "isReady", "(II)Z"⟩, 9) := ⟨⟨by decide +kernel, by decide +kernel⟩, List.mem_of_getElem? (i := 39) (by decide +kernel), List.mem_of_getElem? (i := 548) (by decide +kernel), List.mem_of_getElem? (i := 549) (by decide +kernel)⟩
theorem lw_p22 : lw_okq (⟨"TaskLeveller$Plan", "findClosure", "(LTaskLeveller$Project;)V"⟩, 9) := ⟨⟨by decide +kernel, by decide +kernel⟩, List.mem_of_getElem? (i := 112) (by decide +kernel), List.mem_of_getElem? (i := 553) (by decide +kernel), List.mem_of_getElem? (i := 554) (by decide +kernel)⟩
theorem lw_p23 : lw_okq (⟨"TaskLeveller$Plan", "findEarliest", "(LTaskLeveller$Project;)V"⟩, 9) := ⟨⟨by decide +kernel, by decide +kernel⟩, List.mem_of_getElem? (i := 112) (by decide +kernel), List.mem_of_getElem? (i := 560) (by decide +kernel), List.mem_of_getElem? (i := 561) (by decide +kernel)⟩
theorem lw_p24 : lw_okq (⟨"TaskLeveller$Plan", "findImproved", "(LTaskLeveller$Project;)V"⟩, 9) := ⟨⟨by decide +kernel, by decide +kernel⟩, List.mem_of_getElem? (i := 112) (by decide +kernel), List.mem_of_getElem? (i := 569) (by decide +kernel), List.mem_of_getElem? (i := 570) (by decide +kernel)⟩
theorem lw_p25 : lw_okq (⟨"TaskLeveller$Plan", "improve", "(LTaskLeveller$Project;)Z"⟩, 9) := ⟨⟨by decide +kernel, by decide +kernel⟩, List.mem_of_getElem? (i := 112) (by decide +kernel), List.mem_of_getElem? (i := 573) (by decide +kernel), List.mem_of_getElem? (i := 574) (by decide +kernel)⟩
theorem lw_p26 : lw_okq (⟨"TaskLeveller$Plan", "findLatest", "(LTaskLeveller$Project;)V"⟩, 9) := ⟨⟨by decide +kernel, by decide +kernel⟩, List.mem_of_getElem? (i := 112) (by decide +kernel), List.mem_of_getElem? (i := 580) (by decide +kernel), List.mem_of_getElem? (i := 581) (by decide +kernel)⟩
theorem lw_p27 : lw_okq (⟨"TaskLeveller$Plan", "findLevelled", "(LTaskLeveller$Project;)V"⟩, 9) := ⟨⟨by decide +kernel, by decide +kernel⟩, List.mem_of_getElem? (i := 112) (by decide +kernel), List.mem_of_getElem? (i := 586) (by decide +kernel), List.mem_of_getElem? (i := 587) (by decide +kernel)⟩
theorem lw_p28 : lw_okq (⟨"TaskLeveller$Plan", "mostUrgent", "(LTaskLeveller$Project;I)I"⟩, 9) := ⟨⟨by decide +kernel, by decide +kernel⟩, List.mem_of_getElem? (i := 112) (by decide +kernel), List.mem_of_getElem? (i := 590) (by decide +kernel), List.mem_of_getElem? (i := 591) (by decide +kernel)⟩
theorem lw_p29 : lw_okq (⟨"TaskLeveller$Plan", "lowestFit", "(LTaskLeveller$Project;I)I"⟩, 9) := ⟨⟨by decide +kernel, by decide +kernel⟩, List.mem_of_getElem? (i := 112) (by decide +kernel), List.mem_of_getElem? (i := 594) (by decide +kernel), List.mem_of_getElem? (i := 595) (by decide +kernel)⟩
theorem lw_p30 : lw_okq (⟨"TaskLeveller$Plan", "fits", "(LTaskLeveller$Project;II)Z"⟩, 9) := ⟨⟨by decide +kernel, by decide +kernel⟩, List.mem_of_getElem? (i := 112) (by decide +kernel), List.mem_of_getElem? (i := 598) (by decide +kernel), List.mem_of_getElem? (i := 599) (by decide +kernel)⟩
theorem lw_p31 : lw_okq (⟨"TaskLeveller$Plan", "place", "(LTaskLeveller$Project;II)V"⟩, 9) := ⟨⟨by decide +kernel, by decide +kernel⟩, List.mem_of_getElem? (i := 112) (by decide +kernel), List.mem_of_getElem? (i := 602) (by decide +kernel), List.mem_of_getElem? (i := 603) (by decide +kernel)⟩
def lw_privs_2 : List (MethodName × Nat) := [(⟨"TaskLeveller$Project", "faultOfRelease", "(II)C"⟩, 9), (⟨"TaskLeveller$Project", "faultOfLimit", "(II)C"⟩, 9), (⟨"TaskLeveller", "currentPlan", "()LTaskLeveller$Plan;"⟩, 13), (⟨"TaskLeveller$Plan", "make", "(LTaskLeveller$Project;)V"⟩, 9), (⟨"TaskLeveller$Plan", "findOrder", "(LTaskLeveller$Project;)V"⟩, 9), (⟨"TaskLeveller$Project", "isReady", "(II)Z"⟩, 9), (⟨"TaskLeveller$Plan", "findClosure", "(LTaskLeveller$Project;)V"⟩, 9), (⟨"TaskLeveller$Plan", "findEarliest", "(LTaskLeveller$Project;)V"⟩, 9), (⟨"TaskLeveller$Plan", "findImproved", "(LTaskLeveller$Project;)V"⟩, 9), (⟨"TaskLeveller$Plan", "improve", "(LTaskLeveller$Project;)Z"⟩, 9), (⟨"TaskLeveller$Plan", "findLatest", "(LTaskLeveller$Project;)V"⟩, 9), (⟨"TaskLeveller$Plan", "findLevelled", "(LTaskLeveller$Project;)V"⟩, 9), (⟨"TaskLeveller$Plan", "mostUrgent", "(LTaskLeveller$Project;I)I"⟩, 9), (⟨"TaskLeveller$Plan", "lowestFit", "(LTaskLeveller$Project;I)I"⟩, 9), (⟨"TaskLeveller$Plan", "fits", "(LTaskLeveller$Project;II)Z"⟩, 9), (⟨"TaskLeveller$Plan", "place", "(LTaskLeveller$Project;II)V"⟩, 9)]
theorem lw_r2 : ∀ q ∈ lw_privs_2, lw_okq q := List.forall_mem_cons.mpr ⟨lw_p16, List.forall_mem_cons.mpr ⟨lw_p17, List.forall_mem_cons.mpr ⟨lw_p18, List.forall_mem_cons.mpr ⟨lw_p19, List.forall_mem_cons.mpr ⟨lw_p20, List.forall_mem_cons.mpr ⟨lw_p21, List.forall_mem_cons.mpr ⟨lw_p22, List.forall_mem_cons.mpr ⟨lw_p23, List.forall_mem_cons.mpr ⟨lw_p24, List.forall_mem_cons.mpr ⟨lw_p25, List.forall_mem_cons.mpr ⟨lw_p26, List.forall_mem_cons.mpr ⟨lw_p27, List.forall_mem_cons.mpr ⟨lw_p28, List.forall_mem_cons.mpr ⟨lw_p29, List.forall_mem_cons.mpr ⟨lw_p30, List.forall_mem_cons.mpr ⟨lw_p31, fun _ h => absurd h List.not_mem_nil⟩⟩⟩⟩⟩⟩⟩⟩⟩⟩⟩⟩⟩⟩⟩⟩
theorem lw_p32 : lw_okq (⟨"TaskLeveller$Project", "takeStarts", "([I)V"⟩, 9) := ⟨⟨by decide +kernel, by decide +kernel⟩, List.mem_of_getElem? (i := 39) (by decide +kernel), List.mem_of_getElem? (i := 606) (by decide +kernel), List.mem_of_getElem? (i := 607) (by decide +kernel)⟩
theorem lw_p33 : lw_okq (⟨"TaskLeveller$Script", "read", "()Z"⟩, 6) := ⟨⟨by decide +kernel, by decide +kernel⟩, List.mem_of_getElem? (i := 154) (by decide +kernel), List.mem_of_getElem? (i := 614) (by decide +kernel), List.mem_of_getElem? (i := 615) (by decide +kernel)⟩
theorem lw_p34 : lw_okq (⟨"TaskLeveller$Script", "readCommand", "()Z"⟩, 6) := ⟨⟨by decide +kernel, by decide +kernel⟩, List.mem_of_getElem? (i := 154) (by decide +kernel), List.mem_of_getElem? (i := 618) (by decide +kernel), List.mem_of_getElem? (i := 619) (by decide +kernel)⟩
theorem lw_p35 : lw_okq (⟨"TaskLeveller$Script", "follows", "(Ljava/lang/String;)Z"⟩, 6) := ⟨⟨by decide +kernel, by decide +kernel⟩, List.mem_of_getElem? (i := 154) (by decide +kernel), List.mem_of_getElem? (i := 624) (by decide +kernel), List.mem_of_getElem? (i := 625) (by decide +kernel)⟩
theorem lw_p36 : lw_okq (⟨"TaskLeveller$Script", "readNumber", "(II)Z"⟩, 6) := ⟨⟨by decide +kernel, by decide +kernel⟩, List.mem_of_getElem? (i := 154) (by decide +kernel), List.mem_of_getElem? (i := 676) (by decide +kernel), List.mem_of_getElem? (i := 677) (by decide +kernel)⟩
theorem lw_p37 : lw_okq (⟨"TaskLeveller$Script", "isDigitAt", "(I)Z"⟩, 6) := ⟨⟨by decide +kernel, by decide +kernel⟩, List.mem_of_getElem? (i := 154) (by decide +kernel), List.mem_of_getElem? (i := 680) (by decide +kernel), List.mem_of_getElem? (i := 681) (by decide +kernel)⟩
theorem lw_p38 : lw_okq (⟨"TaskLeveller$Script", "clear", "()V"⟩, 6) := ⟨⟨by decide +kernel, by decide +kernel⟩, List.mem_of_getElem? (i := 154) (by decide +kernel), List.mem_of_getElem? (i := 690) (by decide +kernel), List.mem_of_getElem? (i := 691) (by decide +kernel)⟩
theorem lw_p39 : lw_okq (⟨"TaskLeveller", "runCommand", "(I)C"⟩, 13) := ⟨⟨by decide +kernel, by decide +kernel⟩, List.mem_of_getElem? (i := 31) (by decide +kernel), List.mem_of_getElem? (i := 696) (by decide +kernel), List.mem_of_getElem? (i := 697) (by decide +kernel)⟩
theorem lw_p40 : lw_okq (⟨"TaskLeveller$Script", "commandAt", "(I)LTaskLeveller$Command;"⟩, 6) := ⟨⟨by decide +kernel, by decide +kernel⟩, List.mem_of_getElem? (i := 154) (by decide +kernel), List.mem_of_getElem? (i := 700) (by decide +kernel), List.mem_of_getElem? (i := 701) (by decide +kernel)⟩
theorem lw_p41 : lw_okq (⟨"TaskLeveller$Script", "numberAt", "(II)I"⟩, 6) := ⟨⟨by decide +kernel, by decide +kernel⟩, List.mem_of_getElem? (i := 154) (by decide +kernel), List.mem_of_getElem? (i := 704) (by decide +kernel), List.mem_of_getElem? (i := 705) (by decide +kernel)⟩
theorem lw_p42 : lw_okq (⟨"TaskLeveller", "runAdding", "(IIII)C"⟩, 13) := ⟨⟨by decide +kernel, by decide +kernel⟩, List.mem_of_getElem? (i := 31) (by decide +kernel), List.mem_of_getElem? (i := 717) (by decide +kernel), List.mem_of_getElem? (i := 718) (by decide +kernel)⟩
theorem lw_p43 : lw_okq (⟨"TaskLeveller", "markTrial", "()V"⟩, 13) := ⟨⟨by decide +kernel, by decide +kernel⟩, List.mem_of_getElem? (i := 31) (by decide +kernel), List.mem_of_getElem? (i := 724) (by decide +kernel), List.mem_of_getElem? (i := 725) (by decide +kernel)⟩
theorem lw_p44 : lw_okq (⟨"TaskLeveller", "requireTask", "(I)V"⟩, 13) := ⟨⟨by decide +kernel, by decide +kernel⟩, List.mem_of_getElem? (i := 31) (by decide +kernel), List.mem_of_getElem? (i := 744) (by decide +kernel), List.mem_of_getElem? (i := 745) (by decide +kernel)⟩
theorem lw_p45 : lw_okq (⟨"TaskLeveller$Plan", "usedOn", "(II)I"⟩, 9) := ⟨⟨by decide +kernel, by decide +kernel⟩, List.mem_of_getElem? (i := 112) (by decide +kernel), List.mem_of_getElem? (i := 820) (by decide +kernel), List.mem_of_getElem? (i := 821) (by decide +kernel)⟩
theorem lw_p46 : lw_okq (⟨"TaskLeveller", "requireBaselineStart", "(I)V"⟩, 13) := ⟨⟨by decide +kernel, by decide +kernel⟩, List.mem_of_getElem? (i := 31) (by decide +kernel), List.mem_of_getElem? (i := 828) (by decide +kernel), List.mem_of_getElem? (i := 829) (by decide +kernel)⟩
theorem lw_p47 : lw_okq (⟨"TaskLeveller$Project", "hasStart", "(I)Z"⟩, 9) := ⟨⟨by decide +kernel, by decide +kernel⟩, List.mem_of_getElem? (i := 39) (by decide +kernel), List.mem_of_getElem? (i := 832) (by decide +kernel), List.mem_of_getElem? (i := 833) (by decide +kernel)⟩
def lw_privs_3 : List (MethodName × Nat) := [(⟨"TaskLeveller$Project", "takeStarts", "([I)V"⟩, 9), (⟨"TaskLeveller$Script", "read", "()Z"⟩, 6), (⟨"TaskLeveller$Script", "readCommand", "()Z"⟩, 6), (⟨"TaskLeveller$Script", "follows", "(Ljava/lang/String;)Z"⟩, 6), (⟨"TaskLeveller$Script", "readNumber", "(II)Z"⟩, 6), (⟨"TaskLeveller$Script", "isDigitAt", "(I)Z"⟩, 6), (⟨"TaskLeveller$Script", "clear", "()V"⟩, 6), (⟨"TaskLeveller", "runCommand", "(I)C"⟩, 13), (⟨"TaskLeveller$Script", "commandAt", "(I)LTaskLeveller$Command;"⟩, 6), (⟨"TaskLeveller$Script", "numberAt", "(II)I"⟩, 6), (⟨"TaskLeveller", "runAdding", "(IIII)C"⟩, 13), (⟨"TaskLeveller", "markTrial", "()V"⟩, 13), (⟨"TaskLeveller", "requireTask", "(I)V"⟩, 13), (⟨"TaskLeveller$Plan", "usedOn", "(II)I"⟩, 9), (⟨"TaskLeveller", "requireBaselineStart", "(I)V"⟩, 13), (⟨"TaskLeveller$Project", "hasStart", "(I)Z"⟩, 9)]
theorem lw_r3 : ∀ q ∈ lw_privs_3, lw_okq q := List.forall_mem_cons.mpr ⟨lw_p32, List.forall_mem_cons.mpr ⟨lw_p33, List.forall_mem_cons.mpr ⟨lw_p34, List.forall_mem_cons.mpr ⟨lw_p35, List.forall_mem_cons.mpr ⟨lw_p36, List.forall_mem_cons.mpr ⟨lw_p37, List.forall_mem_cons.mpr ⟨lw_p38, List.forall_mem_cons.mpr ⟨lw_p39, List.forall_mem_cons.mpr ⟨lw_p40, List.forall_mem_cons.mpr ⟨lw_p41, List.forall_mem_cons.mpr ⟨lw_p42, List.forall_mem_cons.mpr ⟨lw_p43, List.forall_mem_cons.mpr ⟨lw_p44, List.forall_mem_cons.mpr ⟨lw_p45, List.forall_mem_cons.mpr ⟨lw_p46, List.forall_mem_cons.mpr ⟨lw_p47, fun _ h => absurd h List.not_mem_nil⟩⟩⟩⟩⟩⟩⟩⟩⟩⟩⟩⟩⟩⟩⟩⟩
theorem lw_p48 : lw_okq (⟨"TaskLeveller", "driftOf", "(I)I"⟩, 13) := ⟨⟨by decide +kernel, by decide +kernel⟩, List.mem_of_getElem? (i := 31) (by decide +kernel), List.mem_of_getElem? (i := 842) (by decide +kernel), List.mem_of_getElem? (i := 843) (by decide +kernel)⟩
theorem lw_p49 : lw_okq (⟨"TaskLeveller$Plan", "slackOf", "(I)I"⟩, 9) := ⟨⟨by decide +kernel, by decide +kernel⟩, List.mem_of_getElem? (i := 112) (by decide +kernel), List.mem_of_getElem? (i := 853) (by decide +kernel), List.mem_of_getElem? (i := 854) (by decide +kernel)⟩
theorem lw_p50 : lw_okq (⟨"TaskLeveller", "taskAtRank", "(I)I"⟩, 13) := ⟨⟨by decide +kernel, by decide +kernel⟩, List.mem_of_getElem? (i := 31) (by decide +kernel), List.mem_of_getElem? (i := 860) (by decide +kernel), List.mem_of_getElem? (i := 861) (by decide +kernel)⟩
theorem lw_p51 : lw_okq (⟨"TaskLeveller", "countBefore", "(I)I"⟩, 13) := ⟨⟨by decide +kernel, by decide +kernel⟩, List.mem_of_getElem? (i := 31) (by decide +kernel), List.mem_of_getElem? (i := 864) (by decide +kernel), List.mem_of_getElem? (i := 865) (by decide +kernel)⟩
theorem lw_p52 : lw_okq (⟨"TaskLeveller", "requireFailure", "()V"⟩, 13) := ⟨⟨by decide +kernel, by decide +kernel⟩, List.mem_of_getElem? (i := 31) (by decide +kernel), List.mem_of_getElem? (i := 882) (by decide +kernel), List.mem_of_getElem? (i := 883) (by decide +kernel)⟩
theorem lw_p53 : lw_okq (⟨"TaskLeveller", "isWorkedOn", "(II)Z"⟩, 13) := ⟨⟨by decide +kernel, by decide +kernel⟩, List.mem_of_getElem? (i := 31) (by decide +kernel), List.mem_of_getElem? (i := 899) (by decide +kernel), List.mem_of_getElem? (i := 900) (by decide +kernel)⟩
theorem lw_p54 : lw_okq (⟨"TaskLeveller$Project", "workOf", "(I)I"⟩, 9) := ⟨⟨by decide +kernel, by decide +kernel⟩, List.mem_of_getElem? (i := 39) (by decide +kernel), List.mem_of_getElem? (i := 1237) (by decide +kernel), List.mem_of_getElem? (i := 1238) (by decide +kernel)⟩
theorem lw_p55 : lw_okq (⟨"TaskLeveller$Plan", "workOnAllDays", "(I)I"⟩, 9) := ⟨⟨by decide +kernel, by decide +kernel⟩, List.mem_of_getElem? (i := 112) (by decide +kernel), List.mem_of_getElem? (i := 1245) (by decide +kernel), List.mem_of_getElem? (i := 1246) (by decide +kernel)⟩
theorem lw_p56 : lw_okq (⟨"TaskLeveller$Output", "clear", "()V"⟩, 2) := ⟨⟨by decide +kernel, by decide +kernel⟩, List.mem_of_getElem? (i := 184) (by decide +kernel), List.mem_of_getElem? (i := 1254) (by decide +kernel), List.mem_of_getElem? (i := 1255) (by decide +kernel)⟩
theorem lw_p57 : lw_okq (⟨"TaskLeveller$Output", "write", "(C)V"⟩, 2) := ⟨⟨by decide +kernel, by decide +kernel⟩, List.mem_of_getElem? (i := 184) (by decide +kernel), List.mem_of_getElem? (i := 1258) (by decide +kernel), List.mem_of_getElem? (i := 1259) (by decide +kernel)⟩
theorem lw_p58 : lw_okq (⟨"TaskLeveller$Output", "writeNumber", "(I)V"⟩, 2) := ⟨⟨by decide +kernel, by decide +kernel⟩, List.mem_of_getElem? (i := 184) (by decide +kernel), List.mem_of_getElem? (i := 1262) (by decide +kernel), List.mem_of_getElem? (i := 1263) (by decide +kernel)⟩
theorem lw_p59 : lw_okq (⟨"TaskLeveller", "startsAgree", "()Z"⟩, 13) := ⟨⟨by decide +kernel, by decide +kernel⟩, List.mem_of_getElem? (i := 31) (by decide +kernel), List.mem_of_getElem? (i := 1286) (by decide +kernel), List.mem_of_getElem? (i := 1287) (by decide +kernel)⟩
theorem lw_p60 : lw_okq (⟨"TaskLeveller", "dependenciesAgree", "()Z"⟩, 13) := ⟨⟨by decide +kernel, by decide +kernel⟩, List.mem_of_getElem? (i := 31) (by decide +kernel), List.mem_of_getElem? (i := 1290) (by decide +kernel), List.mem_of_getElem? (i := 1291) (by decide +kernel)⟩
theorem lw_p61 : lw_okq (⟨"TaskLeveller", "workloadsAgree", "()Z"⟩, 13) := ⟨⟨by decide +kernel, by decide +kernel⟩, List.mem_of_getElem? (i := 31) (by decide +kernel), List.mem_of_getElem? (i := 1294) (by decide +kernel), List.mem_of_getElem? (i := 1295) (by decide +kernel)⟩
def lw_privs_4 : List (MethodName × Nat) := [(⟨"TaskLeveller", "driftOf", "(I)I"⟩, 13), (⟨"TaskLeveller$Plan", "slackOf", "(I)I"⟩, 9), (⟨"TaskLeveller", "taskAtRank", "(I)I"⟩, 13), (⟨"TaskLeveller", "countBefore", "(I)I"⟩, 13), (⟨"TaskLeveller", "requireFailure", "()V"⟩, 13), (⟨"TaskLeveller", "isWorkedOn", "(II)Z"⟩, 13), (⟨"TaskLeveller$Project", "workOf", "(I)I"⟩, 9), (⟨"TaskLeveller$Plan", "workOnAllDays", "(I)I"⟩, 9), (⟨"TaskLeveller$Output", "clear", "()V"⟩, 2), (⟨"TaskLeveller$Output", "write", "(C)V"⟩, 2), (⟨"TaskLeveller$Output", "writeNumber", "(I)V"⟩, 2), (⟨"TaskLeveller", "startsAgree", "()Z"⟩, 13), (⟨"TaskLeveller", "dependenciesAgree", "()Z"⟩, 13), (⟨"TaskLeveller", "workloadsAgree", "()Z"⟩, 13)]
theorem lw_r4 : ∀ q ∈ lw_privs_4, lw_okq q := List.forall_mem_cons.mpr ⟨lw_p48, List.forall_mem_cons.mpr ⟨lw_p49, List.forall_mem_cons.mpr ⟨lw_p50, List.forall_mem_cons.mpr ⟨lw_p51, List.forall_mem_cons.mpr ⟨lw_p52, List.forall_mem_cons.mpr ⟨lw_p53, List.forall_mem_cons.mpr ⟨lw_p54, List.forall_mem_cons.mpr ⟨lw_p55, List.forall_mem_cons.mpr ⟨lw_p56, List.forall_mem_cons.mpr ⟨lw_p57, List.forall_mem_cons.mpr ⟨lw_p58, List.forall_mem_cons.mpr ⟨lw_p59, List.forall_mem_cons.mpr ⟨lw_p60, List.forall_mem_cons.mpr ⟨lw_p61, fun _ h => absurd h List.not_mem_nil⟩⟩⟩⟩⟩⟩⟩⟩⟩⟩⟩⟩⟩⟩
def lw_privs : List (MethodName × Nat) := lw_privs_1 ++ (lw_privs_2 ++ (lw_privs_3 ++ (lw_privs_4)))
/-- private methods of the builder's super class, called on a builder -/
def lw_asb : List (MethodName × Unit) := [(⟨"java/lang/AbstractStringBuilder", "ensureCapacityInternal", "(I)V"⟩, ()), (⟨"java/lang/AbstractStringBuilder", "newCapacity", "(I)I"⟩, ()), (⟨"java/lang/AbstractStringBuilder", "putStringAt", "(ILjava/lang/String;)V"⟩, ()), (⟨"java/lang/AbstractStringBuilder", "inflateIfNeededFor", "(Ljava/lang/String;)V"⟩, ())]
def lw_more : List Cond := lw_asb.map fun q => Cond.selects "java/lang/StringBuilder" q.1 q.1
theorem lw_asb_ok : ∀ q ∈ lw_asb, Cond.instantiable "java/lang/StringBuilder" 4 ∈ tables_1 ∧ Cond.privateMethod q.1 ∈ tables_1 ∧ Cond.instanceMethod q.1 ∈ tables_1 ∧ (q.1.cls ≠ "java/lang/invoke/MethodHandle" ∧ q.1.cls ≠ "java/lang/invoke/VarHandle") ∧ "java/lang/AbstractStringBuilder" = q.1.cls := by decide +kernel
theorem lw_lat1 : Cond.selects "java/lang/StringBuilder" ⟨"java/lang/AbstractStringBuilder", "isLatin1", "()Z"⟩ ⟨"java/lang/AbstractStringBuilder", "isLatin1", "()Z"⟩ ∈ tables_1 := by decide +kernel
theorem lw_sel_private {y x0 y0 : MethodName} {C : String} {s : State} {args : Array Value} {n : Nat} (hy : y.cls ≠ "java/lang/invoke/MethodHandle" ∧ y.cls ≠ "java/lang/invoke/VarHandle")
    (hins : (Cond.instantiable C n).before args s = true) (hpriv : (Cond.privateMethod y).before args s = true) (hinst : (Cond.instanceMethod y).before args s = true) (h0 : (Cond.selects C x0 y0).before args s = true) (h00 : y0.cls = y.cls) :
    (Cond.selects C y y).before args s = true := by
  obtain ⟨c, k, hc, hk, -, hniab, -, -⟩ := Cond.instantiable_spec hins
  obtain ⟨c2, r2, m2, q1, q2, q3, q4, kP, hkP, hkPi⟩ := Cond.selects_spec h0
  obtain ⟨mk, methM, hnamed, hmethM, -, -⟩ := Cond.instanceMethod_spec hinst
  have hfound : s.methodFound? y.cls y.name y.desc = some mk := State.methodFound?_of_named hnamed hy
  have hsel : selectMethod {} s.vm c mk = .method mk := selectMethod_private hmethM (Cond.privateMethod_at hpriv mk methM hnamed hmethM)
  have e1 := findClass_of_methodNamed hnamed
  have e2 := findClass_of_methodNamed q3
  rw [h00] at e2
  have e : mk.cls = m2.cls := Option.some.inj (e1.symm.trans e2)
  simp only [Cond.before, Cond.holds, Cond.value, hc, hfound, hnamed, hsel, e, hkP]
  simp; exact hkPi
def lw_tbl : List Cond := (k2_sels lw_privs ++ tables_1) ++ lw_more
theorem lw_tbl_hts {args : Array Value} {s : State} (h : ∀ w ∈ k2_sels lw_privs ++ tables_1, w.before args s = true) : ∀ w ∈ lw_tbl, w.before args s = true := by
  intro w hw
  rcases List.mem_append.mp hw with hw | hw
  · exact h w hw
  · obtain ⟨q, hq, rfl⟩ := List.mem_map.mp hw
    obtain ⟨h1, h2, h3, h4, h5⟩ := lw_asb_ok q hq
    exact lw_sel_private h4 (h _ (List.mem_append_right _ h1)) (h _ (List.mem_append_right _ h2)) (h _ (List.mem_append_right _ h3)) (h _ (List.mem_append_right _ lw_lat1)) h5
theorem lw_privs_ok : ∀ q ∈ lw_privs, lw_okq q := by
  show ∀ q ∈ lw_privs_1 ++ (lw_privs_2 ++ (lw_privs_3 ++ (lw_privs_4))), lw_okq q
  exact List.forall_mem_append.mpr ⟨lw_r1, List.forall_mem_append.mpr ⟨lw_r2, List.forall_mem_append.mpr ⟨lw_r3, lw_r4⟩⟩⟩
/-- the streams that the claim lets the run draw from -/
abbrev lw_cs : List Choice := [Jvm.Choice.named "NaN.bits"]
theorem lw_bits : nanBits ∈ lw_cs := by first | decide | exact List.mem_cons_self | simp [lw_cs, nanBits]
end
section
/-! ===== BEGIN words of one list among another's, by their places ===== -/
theorem goodIn_r {big : List Cond} (ws : List Cond) (ps : List Nat) (hp : ws = ps.filterMap (fun i => big[i]?)) (h : ws.all goodWord = true) : GoodIn big ws := by
  intro w hw
  have h1 := List.all_eq_true.mp h w hw
  rw [hp] at hw
  obtain ⟨i, -, hi⟩ := List.mem_filterMap.mp hw
  have hm : w ∈ big := by first | exact List.mem_of_getElem? hi | exact List.getElem?_mem hi
  exact ⟨hm, good_of_word h1⟩
theorem goodIn_app {big a b : List Cond} (ha : GoodIn big a) (hb : GoodIn big b) : GoodIn big (a ++ b) := fun w h => (List.mem_append.mp h).elim (ha w) (hb w)
theorem goodIn_ca {big a b : List Cond} {c : Cond} (ha : GoodIn big (c :: a)) (hb : GoodIn big b) : GoodIn big (c :: (a ++ b)) := fun w h => (List.mem_cons.mp h).elim (fun e => ha w (List.mem_cons.mpr (Or.inl e))) (fun h => (List.mem_append.mp h).elim (fun h => ha w (List.mem_cons.mpr (Or.inr h))) (hb w))
theorem goodIn_sub {big ws : List Cond} (hm : ∀ w ∈ ws, w ∈ big) (h : ws.all goodWord = true) : GoodIn big ws := fun w hw => ⟨hm w hw, good_of_word (List.all_eq_true.mp h w hw)⟩
/-! ===== END ===== -/
/-! ===== BEGIN exceptions that leave a method, and their catching by the caller (launches without stack traces) ===== -/
section VXA
/-! The laws vx_back, vx_callV, vx_callS, vx_callSW, vx_throw0, vx_throwS follow proofs of the library, with one case more: JvmDerived/Free/Laws.lean (Back.of_free), Shelf42/LK1.lean (callV, callS), Shelf/KitTraced.lean (throwNew0V, throwNewS). -/
/-- where a method has thrown q: the class by its name, the cell, what was written, the world -/
def vx_T (XC : String → State → State → Prop) (st : State) (q : Addr) (t : State) (mc ms : Nat) (free : Addr → Prop) : Prop :=
  ∃ (E : String) (ce : Cell) (L : List Loc), XC E st t ∧ t.heap[q]? = some ce ∧ ce.vm = .none ∧ st.vm.findClass E = some ce.cls ∧ st.WarmedH t.vm ∧ st.sameButNew ({ t with vm := st.vm } : State) L mc ms ∧ ∀ z ∈ L, free z.base
def vx_Q (Qc : Array Value → State → Outcome → State → Prop) (XC : String → State → State → Prop) (mc ms : Nat) (free : Addr → Prop) : Array Value → State → Outcome → State → Prop := fun a st o t =>
  (Qc a st o t ∧ ∃ L, FrameEnd st o t L mc ms ∧ ∀ q ∈ L, free q.base) ∨ ∃ q, o = .threw q ∧ vx_T XC st q t mc ms free
/-- a callee that returns or throws -/
def vx_Met (l : Launch) (y : MethodName) (ws : List Cond) (rm : Room) (Pc : Array Value → State → Prop) (Qc : Array Value → State → Outcome → State → Prop) (XC : String → State → State → Prop) (mc ms : Nat) (free : Addr → Prop) : Prop :=
  MetFree l y (headSpec ws rm) Pc (fun _ _ _ _ _ => True) (vx_Q Qc XC mc ms free)
def vx_Post (XC : String → State → State → Prop) (mc ms : Nat) (free : Addr → Prop) : Pt → Array Value → Addr → Pt → Prop := fun A a q B =>
  ∃ (g : JFrame) (mk : MethodId) (t : State) (L : List Loc) (E : String) (ce : Cell), B.U.heap = t.heap ∧ B.U.vm = t.vm ∧ XC E (A.U.calling g mk a) t ∧ t.heap[q]? = some ce ∧ ce.vm = .none ∧ A.U.vm.findClass E = some ce.cls ∧ B.locs = A.locs ++ L ∧ (∀ z ∈ L, free z.base) ∧ B.cells = A.cells + mc ∧ B.slots = A.slots + ms
def vx_Back (l : Launch) (R : Room) (p : Program) (e : Env) (below : List Frame) (s : State) (sargs : Array Value) (y : MethodName) (len W9 : Nat)
    (Pre : Pt → Array Value → Prop) (Post : Pt → Array Value → Option Value → Pt → Prop) (PostX : Pt → Array Value → Addr → Pt → Prop) : Prop :=
  ∀ (m : MethodId) (meth : Method) (c : Code) (A : Pt) (g : JFrame) (ig : Instr) (mk : MethodId) (a : Array Value),
    Stand p l e R s m sargs below meth c A.U A.locs A.cells A.slots → g.method = m → g.locals.size = c.maxLocals → decode c.code g.pc = .ok (ig, len) →
    2 * g.monitorRoom + (g.stack.map fun v => v.category).sum ≤ W9 → A.U.methodNamed? y = some mk → Pre A a →
    (∃ (v : Option Value) (B : Pt), Stand p l e R s m sargs below meth c B.U B.locs B.cells B.slots ∧ Post A a v B ∧
      Steps p.tables e below (doInvoke e (A.U.setTop g) [] mk a).1 (B.U.setTop { g with pc := g.pc + len, stack := v.toList ++ g.stack })) ∨
    (∃ (q : Addr) (B : Pt), Stand p l e R s m sargs below meth c B.U B.locs B.cells B.slots ∧ PostX A a q B ∧
      Steps p.tables e below (doInvoke e (A.U.setTop g) [] mk a).1 ((B.U.setTop g).pushFrame (.throwing q)))
section Payer
variable {l : Launch} {R : Room} {p : Program} {e : Env} {below : List Frame} {s : State} {sargs : Array Value} {y : MethodName} {len W9 : Nat}
theorem vx_back {ws : List Cond} {rm : Room} {Pc : Array Value → State → Prop} {Qc : Array Value → State → Outcome → State → Prop} {XC : String → State → State → Prop} {mc ms : Nat} {free : Addr → Prop} {bytes : ByteArray} {maxL : Nat} {ret : Option FieldType}
    (hM : vx_Met l y ws rm Pc Qc XC mc ms free) (hblind : FrameBlind Pc) (hrc : rm.cells = mc) (hrs : rm.slots = ms)
    (hframes : rm.frames + 1 ≤ R.frames) (hlocals : W9 + (maxL + 11) + rm.locals ≤ R.locals)
    (hws : ∀ w ∈ ws, ∀ a' U, s.WarmedH U.vm → w.before a' U = true) (hcode : Cond.code y bytes maxL ret ∈ ws) (hinit : ∀ a' U, s.WarmedH U.vm → (Cond.initialized y.cls).before a' U = true) :
    vx_Back l R p e below s sargs y len W9 (PreOf R mc ms Pc) (PostOf Qc mc ms free) (vx_Post XC mc ms free) := by
  intro m meth c A g ig mk a X hg hsize hdg hW hn hp
  have h1 : (headSpec ws rm).pre.before a A.U = true := atoms_intro fun w hw => hws w hw _ _ X.warmed
  have h2 : (Cond.code y bytes maxL ret).before a A.U = true := hws _ hcode _ _ X.warmed
  have h3 : (Cond.initialized y.cls).before a A.U = true := hinit _ _ X.warmed
  have h4 : A.cells + (headSpec ws rm).room.cells ≤ R.cells := by rw [show (headSpec ws rm).room.cells = mc from hrc]; exact hp.1
  have h5 : A.slots + (headSpec ws rm).room.slots ≤ R.slots := by rw [show (headSpec ws rm).room.slots = ms from hrs]; exact hp.2.1
  have hPc : Pc a (A.U.calling g mk a) := hblind _ _ _ _ hp.2.2
  obtain ⟨U, Ls, c0, s0⟩ := A
  dsimp only [Pt.U, Pt.locs, Pt.cells, Pt.slots] at h1 h2 h3 h4 h5 X hn hPc ⊢
  obtain ⟨methY, cY, hmY, hcY, -, hlY, -, -, -, -⟩ := Cond.code_spec hn h2
  obtain ⟨kY, hkY, -⟩ := className_of_methodNamed hn
  have hinitY : kY.init = .initialized := Cond.initialized_spec (findClass_of_methodNamed hn) hkY h3
  have h : At U g.method c below := by rw [hg]; exact X.here
  have hlocals9 : W9 + (maxL + 11) + (headSpec ws rm).room.locals ≤ R.locals := hlocals
  have happ : (headSpec ws rm).appliesLoose y e.platform (U.calling g mk a) = true :=
    Spec.appliesLoose_calling (g := g) h hdg hn hkY hinitY
      (X.room_calling (g := g) (R' := (headSpec ws rm).room) hsize hmY hcY hframes (by rw [hlY]; omega) h4 h5) h1
  obtain ⟨mid, hmid⟩ := h.above
  have hfr : (U.setTop g).frames = (.java g :: mid) ++ below := by rw [State.frames_setTop' g h.top, hmid]; rfl
  obtain ⟨o, s₂, hsteps, -, hend, hq⟩ := Steps.callFree hM p X.admits X.cas X.clock (acts := []) hfr happ hPc trivial
  have hq' : vx_Q Qc XC mc ms free a (U.calling g mk a) o s₂ := hq
  rw [State.frames_setTop' g h.top] at hend
  obtain ⟨g₀, hg0⟩ := Option.isSome_iff_exists.mp h.top
  obtain ⟨r, hr⟩ := State.topJava?_eq_some.mp hg0
  have hr' : (({ U with heap := s₂.heap, slotsUsed := s₂.slotsUsed } : State).setVm s₂.vm).frames = .java g₀ :: r := hr
  rcases hq' with ⟨hqc, L, hfe, hL⟩ | ⟨q, rfl, E, ce, L, hx, hce, hcv, hcl, hW₂, hsm, hL⟩
  · obtain ⟨⟨v, rfl⟩, hW₂, e2, q2, q3, q4, q5, q6⟩ := id hfe
    have e3 : s₂ = ({ (U.calling g mk a).setFrames s₂.frames with heap := s₂.heap, slotsUsed := s₂.slotsUsed } : State).setVm s₂.vm := by
      have : s₂ = ({ s₂ with vm := (U.calling g mk a).vm } : State).setVm s₂.vm := rfl
      rw [e2] at this
      exact this
    obtain ⟨c₂, i₂, len₂, hc₂, hd₂, hf₂⟩ := hend
    have hW' : U.WarmedH s₂.vm := hW₂
    have hcc : c₂ = c := by
      have h1 : s₂.code? g.method = U.code? g.method := by
        rw [State.code?_eq, State.code?_eq, hW'.alike.method?]
      exact Option.some.inj (hc₂.symm.trans (h1.trans h.code))
    subst hcc
    have hlen : len₂ = len := by rw [hdg] at hd₂; cases hd₂; rfl
    subst hlen
    have hs₂ : s₂ = (({ U with heap := s₂.heap, slotsUsed := s₂.slotsUsed } : State).setVm s₂.vm).setTop { g with pc := g.pc + len₂, stack := v.toList ++ g.stack } := by
      refine e3.trans ?_
      rw [hf₂, State.calling_eq h.top, State.setFrames_setFrames, State.setTop_of_frames _ hr', hr]
      rfl
    have hsame : U.sameButNew ({ U with heap := s₂.heap, slotsUsed := s₂.slotsUsed } : State) L mc ms := by
      refine ⟨?_, q2, q3, q4, q5, q6⟩
      obtain ⟨t, ht, -⟩ := State.frames_cons hr
      show ({ U with heap := s₂.heap, slotsUsed := s₂.slotsUsed } : State) = { U.setFrames U.frames with heap := s₂.heap, slotsUsed := s₂.slotsUsed }
      rw [State.setFrames_self ht]
    subst hg
    refine Or.inl ⟨v, ⟨(({ U with heap := s₂.heap, slotsUsed := s₂.slotsUsed } : State).setVm s₂.vm), Ls ++ L, c0 + mc, s0 + ms⟩,
      ⟨X.admits, X.cas, X.clock, X.frames, X.room, X.hears, X.method, X.code, (X.here.setHeapUsed s₂.heap s₂.slotsUsed).setVm hW'.alike, X.tail, State.WarmedH.trans X.warmed hW', X.limits, X.bytes, X.same.trans (hsame.setVm s.vm)⟩,
      ⟨g, mk, s₂, L, rfl, rfl, hqc, rfl, hL, rfl, rfl⟩, ?_⟩
    show Steps p.tables e below _ ((({ U with heap := s₂.heap, slotsUsed := s₂.slotsUsed } : State).setVm s₂.vm).setTop { g with pc := g.pc + len₂, stack := v.toList ++ g.stack })
    rw [← hs₂]
    exact hsteps
  · obtain ⟨e2, q2, q3, q4, q5, q6⟩ := id hsm
    have e3 : s₂ = ({ (U.calling g mk a).setFrames s₂.frames with heap := s₂.heap, slotsUsed := s₂.slotsUsed } : State).setVm s₂.vm := by
      have : s₂ = ({ s₂ with vm := (U.calling g mk a).vm } : State).setVm s₂.vm := rfl
      rw [e2] at this
      exact this
    have hf₂ : s₂.frames = .throwing q :: .java g :: U.frames.tail := hend
    have hW' : U.WarmedH s₂.vm := hW₂
    have hs₂ : s₂ = ((({ U with heap := s₂.heap, slotsUsed := s₂.slotsUsed } : State).setVm s₂.vm).setTop g).pushFrame (.throwing q) := by
      refine e3.trans ?_
      rw [hf₂, State.calling_eq h.top, State.setFrames_setFrames, State.pushFrame, State.frames_setTop _ hr', State.setTop_of_frames _ hr', State.setFrames_setFrames, hr]
      rfl
    have hsame : U.sameButNew ({ U with heap := s₂.heap, slotsUsed := s₂.slotsUsed } : State) L mc ms := by
      refine ⟨?_, q2, q3, q4, q5, q6⟩
      obtain ⟨t, ht, -⟩ := State.frames_cons hr
      show ({ U with heap := s₂.heap, slotsUsed := s₂.slotsUsed } : State) = { U.setFrames U.frames with heap := s₂.heap, slotsUsed := s₂.slotsUsed }
      rw [State.setFrames_self ht]
    subst hg
    refine Or.inr ⟨q, ⟨(({ U with heap := s₂.heap, slotsUsed := s₂.slotsUsed } : State).setVm s₂.vm), Ls ++ L, c0 + mc, s0 + ms⟩,
      ⟨X.admits, X.cas, X.clock, X.frames, X.room, X.hears, X.method, X.code, (X.here.setHeapUsed s₂.heap s₂.slotsUsed).setVm hW'.alike, X.tail, State.WarmedH.trans X.warmed hW', X.limits, X.bytes, X.same.trans (hsame.setVm s.vm)⟩,
      ⟨g, mk, s₂, L, E, ce, rfl, rfl, hx, hce, hcv, hcl, rfl, hL, rfl, rfl⟩, ?_⟩
    show Steps p.tables e below _ (((({ U with heap := s₂.heap, slotsUsed := s₂.slotsUsed } : State).setVm s₂.vm).setTop g).pushFrame (.throwing q))
    rw [← hs₂]
    exact hsteps
end Payer
section Calls
variable {p : Program} {l : Launch} {e : Env} {R : Room} {s : State} {m : MethodId} {args : Array Value} {below : List Frame} {meth : Method} {c : Code} {T : State} {locs : List Loc} {cells slots : Nat}
theorem vx_callV (X : Stand p l e R s m args below meth c T locs cells slots) (hexec : p.tables.exec = Jvm.exec) {own C : String} {index : Nat} {y : MethodName} {bytes : ByteArray} {maxL : Nat} {ret : Option FieldType}
    (hown : s.vm.findClass own = some m.cls) (hlink : (Cond.methodLink own index y).before args s = true) (hinst : (Cond.instanceMethod y).before args s = true) (hsel : (Cond.selects C y y).before args s = true)
    (hcode : (Cond.code y bytes maxL ret).before args s = true) (hy : y.cls ≠ "java/lang/invoke/MethodHandle" ∧ y.cls ≠ "java/lang/invoke/VarHandle")
    {W9 : Nat} {Pre : Pt → Array Value → Prop} {Post : Pt → Array Value → Option Value → Pt → Prop} {PostX : Pt → Array Value → Addr → Pt → Prop} (hK : vx_Back l R p e below s args y 3 W9 Pre Post PostX)
    {b : Addr} {cellB : Cell} (hcell : T.heap[b]? = some cellB) (hobj : cellB.vm.isStatics = false) (hcls : s.vm.findClass C = some cellB.cls)
    {g : JFrame} (hg : g.method = m) (hsize : g.locals.size = c.maxLocals) {argsL rest : List Value} (hlen : ∀ sig, parseMethodDescriptor y.desc = some sig → argsL.length = sig.parameters.length)
    (hstack : g.stack = argsL.reverse ++ .ref b :: rest) (hW : 2 * g.monitorRoom + (rest.map fun v => v.category).sum ≤ W9) (hdg : decode c.code g.pc = .ok (.invokevirtual index, 3))
    (hpre : ∀ vm₁, s.WarmedH vm₁ → Pre ⟨T.setVm vm₁, locs, cells, slots⟩ (Value.ref b :: argsL).toArray) :
    (∃ (v : Option Value) (vm₁ : Vm) (B : Pt), s.WarmedH vm₁ ∧ Stand p l e R s m args below meth c B.U B.locs B.cells B.slots ∧ Post ⟨T.setVm vm₁, locs, cells, slots⟩ (Value.ref b :: argsL).toArray v B ∧
      ∀ target, Steps p.tables e below (B.U.setTop { g with pc := g.pc + 3, stack := v.toList ++ rest }) target → Steps p.tables e below (T.setTop g) target) ∨
    (∃ (q : Addr) (vm₁ : Vm) (B : Pt), s.WarmedH vm₁ ∧ Stand p l e R s m args below meth c B.U B.locs B.cells B.slots ∧ PostX ⟨T.setVm vm₁, locs, cells, slots⟩ (Value.ref b :: argsL).toArray q B ∧
      Steps p.tables e below (T.setTop g) ((B.U.setTop { g with stack := rest }).pushFrame (.throwing q))) := by
  obtain ⟨mk, methM, hnamed, hmethM, hstM, habM⟩ := Cond.instanceMethod_spec hinst
  obtain ⟨methM', cM, hmethM', -, -, -, -, -, -, hsigM⟩ := Cond.code_spec hnamed hcode
  cases hmethM.symm.trans hmethM'
  obtain ⟨c2, r2, m2, q1, q2, q3, q4, kP, hkP, hkPi⟩ := Cond.selects_spec hsel
  cases hcls.symm.trans q1
  cases (State.methodFound?_of_named hnamed hy).symm.trans q2
  cases hnamed.symm.trans q3
  have hselP : selectMethod e.platform s.vm cellB.cls mk = .method mk := by rw [Launch.admits_selectMethod X.admits]; exact q4
  obtain ⟨vm₁, X₁, hstep₁⟩ := X.invokevirtual hexec hown hlink hnamed hmethM hstM hkP hkPi hy (a := b) (cell := cellB) hcell
    (fun z h => by rw [h] at hobj; cases hobj) hselP hmethM habM hkP hkPi (g := g) hg (argsL := argsL) (rest := rest) (hlen _ hsigM) hstack hdg
  rcases hK m meth c ⟨T.setVm vm₁, locs, cells, slots⟩ { g with stack := rest } (.invokevirtual index) mk (Value.ref b :: argsL).toArray X₁ hg hsize hdg hW (X₁.named hnamed) (hpre vm₁ X₁.warmed) with ⟨v, B, X', hpost, hsteps⟩ | ⟨q, B, X', hpost, hsteps⟩
  · exact Or.inl ⟨v, vm₁, B, X₁.warmed, X', hpost, fun target h => hstep₁ _ fun acts => by rw [doInvoke_state]; exact hsteps.trans h⟩
  · exact Or.inr ⟨q, vm₁, B, X₁.warmed, X', hpost, hstep₁ _ fun acts => by rw [doInvoke_state]; exact hsteps⟩
theorem vx_callS (X : Stand p l e R s m args below meth c T locs cells slots) (hexec : p.tables.exec = Jvm.exec) {own : String} {index : Nat} {y : MethodName} {bytes : ByteArray} {maxL : Nat} {ret : Option FieldType}
    (hown : s.vm.findClass own = some m.cls) (hlink : (Cond.methodLink own index y).before args s = true) (hstat : (Cond.static y).before args s = true) (hinit : (Cond.initialized y.cls).before args s = true)
    (hcode : (Cond.code y bytes maxL ret).before args s = true) (hy : y.cls ≠ "java/lang/invoke/MethodHandle" ∧ y.cls ≠ "java/lang/invoke/VarHandle")
    {W9 : Nat} {Pre : Pt → Array Value → Prop} {Post : Pt → Array Value → Option Value → Pt → Prop} {PostX : Pt → Array Value → Addr → Pt → Prop} (hK : vx_Back l R p e below s args y 3 W9 Pre Post PostX)
    {g : JFrame} (hg : g.method = m) (hsize : g.locals.size = c.maxLocals) {argsL rest : List Value} (hlen : ∀ sig, parseMethodDescriptor y.desc = some sig → argsL.length = sig.parameters.length)
    (hstack : g.stack = argsL.reverse ++ rest) (hW : 2 * g.monitorRoom + (rest.map fun v => v.category).sum ≤ W9) (hdg : decode c.code g.pc = .ok (.invokestatic index, 3))
    (hpre : ∀ vm₁, s.WarmedH vm₁ → Pre ⟨T.setVm vm₁, locs, cells, slots⟩ argsL.toArray) :
    (∃ (v : Option Value) (vm₁ : Vm) (B : Pt), s.WarmedH vm₁ ∧ Stand p l e R s m args below meth c B.U B.locs B.cells B.slots ∧ Post ⟨T.setVm vm₁, locs, cells, slots⟩ argsL.toArray v B ∧
      ∀ target, Steps p.tables e below (B.U.setTop { g with pc := g.pc + 3, stack := v.toList ++ rest }) target → Steps p.tables e below (T.setTop g) target) ∨
    (∃ (q : Addr) (vm₁ : Vm) (B : Pt), s.WarmedH vm₁ ∧ Stand p l e R s m args below meth c B.U B.locs B.cells B.slots ∧ PostX ⟨T.setVm vm₁, locs, cells, slots⟩ argsL.toArray q B ∧
      Steps p.tables e below (T.setTop g) ((B.U.setTop { g with stack := rest }).pushFrame (.throwing q))) := by
  obtain ⟨mk, hnamed⟩ := Cond.code_named hcode
  obtain ⟨methM, cM, hmethM, -, -, -, -, -, -, hsigM⟩ := Cond.code_spec hnamed hcode
  have hstatic : methM.isStatic = true := Cond.static_spec hnamed hmethM hstat
  obtain ⟨kP, hkP, -⟩ := className_of_methodNamed hnamed
  have hinitP : kP.init = .initialized := Cond.initialized_spec (findClass_of_methodNamed hnamed) hkP hinit
  obtain ⟨vm₁, X₁, hstep₁⟩ := X.invokestatic hexec hown hlink hnamed hmethM hstatic hkP hinitP hy (g := g) hg (argsL := argsL) (rest := rest) (hlen _ hsigM) hstack hdg
  rcases hK m meth c ⟨T.setVm vm₁, locs, cells, slots⟩ { g with stack := rest } (.invokestatic index) mk argsL.toArray X₁ hg hsize hdg hW (X₁.named hnamed) (hpre vm₁ X₁.warmed) with ⟨v, B, X', hpost, hsteps⟩ | ⟨q, B, X', hpost, hsteps⟩
  · exact Or.inl ⟨v, vm₁, B, X₁.warmed, X', hpost, fun target h => hstep₁ _ fun acts => by rw [doInvoke_state]; exact hsteps.trans h⟩
  · exact Or.inr ⟨q, vm₁, B, X₁.warmed, X', hpost, hstep₁ _ fun acts => by rw [doInvoke_state]; exact hsteps⟩
end Calls
theorem vx_cls {s : State} {T : State} {vm₁ : Vm} {E : String} {k : ClassId} (hW : s.WarmedH vm₁) (h : (T.setVm vm₁).vm.findClass E = some k) : s.vm.findClass E = some k := by
  have h1 : vm₁.findClass E = some k := h
  rw [hW.alike.findClass] at h1
  exact h1
/-- the method's frame g, with q thrown over it -/
def vx_W (p : Program) (l : Launch) (e : Env) (R : Room) (s : State) (m : MethodId) (args : Array Value) (below : List Frame) (meth : Method) (c : Code) (H : Heap) (locs : List Loc) (cells slots : Nat) (Q : State → Prop) (g : JFrame) (q : Addr) : Prop :=
  ∀ T : State, T.heap = H → Stand p l e R s m args below meth c T locs cells slots → ∃ t, Steps p.tables e below ((T.setTop g).pushFrame (.throwing q)) t ∧ Q t
def vx_Run (p : Program) (l : Launch) (e : Env) (R : Room) (s : State) (m : MethodId) (args : Array Value) (below : List Frame) (meth : Method) (c : Code) (H : Heap) (locs : List Loc) (cells slots mc ms : Nat) (g : JFrame) (rest : List Value) (Qa : State → Outcome → State → Prop) (XC : String → State → State → Prop) (free : Addr → Prop) : Prop :=
  ∀ T : State, T.heap = H → Stand p l e R s m args below meth c T locs cells slots →
    (∃ (v : Option Value) (st₀ t T' : State) (L : List Loc), st₀.heap = H ∧ Stand p l e R s m args below meth c T' (locs ++ L) (cells + mc) (slots + ms) ∧ (∀ q ∈ L, free q.base) ∧ T'.heap = t.heap ∧ T'.vm = t.vm ∧ Qa st₀ (.returned v) t ∧
      Goes p e below T g T' { g with pc := g.pc + 3, stack := v.toList ++ rest }) ∨
    (∃ (q : Addr) (st₀ t T' : State) (L : List Loc) (E : String) (ce : Cell), st₀.heap = H ∧ Stand p l e R s m args below meth c T' (locs ++ L) (cells + mc) (slots + ms) ∧ (∀ z ∈ L, free z.base) ∧ T'.heap = t.heap ∧ T'.vm = t.vm ∧ XC E st₀ t ∧ t.heap[q]? = some ce ∧ ce.vm = .none ∧ s.vm.findClass E = some ce.cls ∧
      Steps p.tables e below (T.setTop g) ((T'.setTop { g with stack := rest }).pushFrame (.throwing q)))
def vx_X {S : Type} (px : S → Prop) (B : String → S → State → Prop) (A : Nat → Prop) : String → State → State → Prop := fun E st t => ∃ u : S, px u ∧ B E u t ∧ va_F A st t
section Runs
variable {p : Program} {l : Launch} {e : Env} {R : Room} {s : State} {m : MethodId} {args : Array Value} {below : List Frame} {meth : Method} {c : Code} {H : Heap} {locs : List Loc} {cells slots : Nat}
variable {y : MethodName} {bytes cc : ByteArray} {maxL nL mc ms n index : Nat} {ret : Option FieldType} {ws : List Cond} {rm : Room} {Pc : Array Value → State → Prop} {Qc : Array Value → State → Outcome → State → Prop} {XC : String → State → State → Prop} {free : Addr → Prop} {Ts : List Cond} {own C : String} {b : Addr} {As rest : List Value} {g : JFrame}
theorem vx_callBack (cb : CallB R s args own index y bytes maxL ret ws rm mc ms n) (hM : vx_Met l y ws rm Pc Qc XC mc ms free) (hbl : FrameBlind Pc) : vx_Back l R p e below s args y 3 8 (PreOf R mc ms Pc) (PostOf Qc mc ms free) (vx_Post XC mc ms free) := by
  obtain ⟨hrc, hrs, hfr, hlo, hws, hcw, -, hini, -⟩ := cb
  exact vx_back (bytes := bytes) (maxL := maxL) (ret := ret) hM hbl hrc hrs hfr hlo hws hcw (fun a' U hW => word_at hW (Or.inl (by first | rfl | simp [Cond.onTables, Cond.keeps, Cond.steady])) hini)
theorem vx_runV (S : CallFix p m c cc nL s args Ts own) (hM : vx_Met l y ws rm Pc Qc XC mc ms free) (cw : CallW R s args own C index y bytes maxL ret ws rm mc ms n) (hp : PreV s H C b Pc As)
    (hg : g.method = m) (hn : As.length = n) (hsize : g.locals.size = nL) (hstack : g.stack = As.reverse ++ .ref b :: rest) (hW : 2 * g.monitorRoom + (rest.map fun v => v.category).sum ≤ 8) (hdg : decode cc g.pc = .ok (.invokevirtual index, 3)) (hf : cells + mc ≤ R.cells ∧ slots + ms ≤ R.slots) :
    vx_Run p l e R s m args below meth c H locs cells slots mc ms g rest (Qc (Value.ref b :: As).toArray) XC free := by
  have hK : vx_Back l R p e below s args y 3 8 (PreOf R mc ms Pc) (PostOf Qc mc ms free) (vx_Post XC mc ms free) := vx_callBack cw.1 hM hp.1
  obtain ⟨⟨-, -, -, -, -, -, hcode, -, hy, hlen, hl⟩, hin, hse⟩ := cw
  obtain ⟨hx, hb, hml, ho, -⟩ := S
  obtain ⟨-, ⟨cellB, hcB, hoB, hclB⟩, hPc⟩ := hp
  intro T hT X
  rcases vx_callV X hx (C := C) (bytes := bytes) (maxL := maxL) (ret := ret) ho hl hin hse hcode hy hK (by rw [hT]; exact hcB) hoB hclB hg (hsize.trans hml.symm) (argsL := As) (rest := rest) (fun sig h => hn.trans (hlen sig h)) hstack hW (by rw [hb]; exact hdg)
    (fun vm₁ hW₁ => ⟨hf.1, hf.2, hPc (T.setVm vm₁) hT hW₁⟩) with ⟨v, vm₁, ⟨U', l2, c2, s2⟩, hW₁, X', ⟨g', mk, t, L, e1, e2, hq, h1, hL, h2, h3⟩, st⟩ | ⟨q, vm₁, ⟨U', l2, c2, s2⟩, hW₁, X', ⟨g', mk, t, L, E, ce, e1, e2, hq, hce, hcv, hcl, h1, hL, h2, h3⟩, st⟩
  · dsimp only [Pt.U, Pt.locs, Pt.cells, Pt.slots] at X' e1 e2 h1 h2 h3 st
    subst h1; subst h2; subst h3
    exact Or.inl ⟨v, (T.setVm vm₁).calling g' mk (Value.ref b :: As).toArray, t, U', L, hT, X', hL, e1, e2, hq, st⟩
  · dsimp only [Pt.U, Pt.locs, Pt.cells, Pt.slots] at X' e1 e2 h1 h2 h3 st hcl
    subst h1; subst h2; subst h3
    exact Or.inr ⟨q, (T.setVm vm₁).calling g' mk (Value.ref b :: As).toArray, t, U', L, E, ce, hT, X', hL, e1, e2, hq, hce, hcv, vx_cls hW₁ hcl, st⟩
theorem vx_runS (S : CallFix p m c cc nL s args Ts own) (hM : vx_Met l y ws rm Pc Qc XC mc ms free) (cw : CallB R s args own index y bytes maxL ret ws rm mc ms n ∧ (Cond.static y).before args s = true) (hp : PreS s H Pc As)
    (hg : g.method = m) (hn : As.length = n) (hsize : g.locals.size = nL) (hstack : g.stack = As.reverse ++ rest) (hW : 2 * g.monitorRoom + (rest.map fun v => v.category).sum ≤ 8) (hdg : decode cc g.pc = .ok (.invokestatic index, 3)) (hf : cells + mc ≤ R.cells ∧ slots + ms ≤ R.slots) :
    vx_Run p l e R s m args below meth c H locs cells slots mc ms g rest (Qc As.toArray) XC free := by
  have hK : vx_Back l R p e below s args y 3 8 (PreOf R mc ms Pc) (PostOf Qc mc ms free) (vx_Post XC mc ms free) := vx_callBack cw.1 hM hp.1
  obtain ⟨⟨-, -, -, -, -, -, hcode, hini, hy, hlen, hl⟩, hstt⟩ := cw
  obtain ⟨hx, hb, hml, ho, -⟩ := S
  intro T hT X
  rcases vx_callS X hx (bytes := bytes) (maxL := maxL) (ret := ret) ho hl hstt hini hcode hy hK hg (hsize.trans hml.symm) (argsL := As) (rest := rest) (fun sig h => hn.trans (hlen sig h)) hstack hW (by rw [hb]; exact hdg)
    (fun vm₁ hW₁ => ⟨hf.1, hf.2, hp.2 (T.setVm vm₁) hT hW₁⟩) with ⟨v, vm₁, ⟨U', l2, c2, s2⟩, hW₁, X', ⟨g', mk, t, L, e1, e2, hq, h1, hL, h2, h3⟩, st⟩ | ⟨q, vm₁, ⟨U', l2, c2, s2⟩, hW₁, X', ⟨g', mk, t, L, E, ce, e1, e2, hq, hce, hcv, hcl, h1, hL, h2, h3⟩, st⟩
  · dsimp only [Pt.U, Pt.locs, Pt.cells, Pt.slots] at X' e1 e2 h1 h2 h3 st
    subst h1; subst h2; subst h3
    exact Or.inl ⟨v, (T.setVm vm₁).calling g' mk As.toArray, t, U', L, hT, X', hL, e1, e2, hq, st⟩
  · dsimp only [Pt.U, Pt.locs, Pt.cells, Pt.slots] at X' e1 e2 h1 h2 h3 st hcl
    subst h1; subst h2; subst h3
    exact Or.inr ⟨q, (T.setVm vm₁).calling g' mk As.toArray, t, U', L, E, ce, hT, X', hL, e1, e2, hq, hce, hcv, vx_cls hW₁ hcl, st⟩
end Runs
section Rows
variable {p : Program} {l : Launch} {e : Env} {R : Room} {s : State} {m : MethodId} {args : Array Value} {below : List Frame} {meth : Method} {c : Code} {H : Heap} {locs : List Loc} {cells slots : Nat} {Q : State → Prop}
variable {mc ms : Nat} {free : Addr → Prop} {A0 A1 : Nat → Prop} {H0 : Heap} {a : Array Value} {pc : Nat} {ls : Array Slot} {st0 rest : List Value}
theorem vx_keep {st₀ t T' : State} {L : List Loc} (h0 : st₀.heap = H) (e1 : T'.heap = t.heap) (hS : va_S A0 H0 H locs) (hA : ∀ q, q < H.size → A1 q → A0 q) (hf : ∀ q, free q → A0 q) (hL : ∀ q ∈ L, free q.base) (hF : va_F A1 st₀ t) :
    H.size ≤ T'.heap.size ∧ (∀ q : Nat, q < H.size → ¬ A1 q → T'.heap[q]? = H[q]?) ∧ va_S A0 H0 T'.heap (locs ++ L) := by
  obtain ⟨hz, hk⟩ := hF
  rw [h0] at hz hk
  exact ⟨by rw [e1]; exact hz, fun q h1 h2 => by rw [e1]; exact hk q h1 h2,
    ⟨Nat.le_trans hS.1 (by rw [e1]; exact hz), fun q h1 h2 => by rw [e1, hk q (Nat.lt_of_lt_of_le h1 hS.1) (fun z => h2 (hA q (Nat.lt_of_lt_of_le h1 hS.1) z))]; exact hS.2.1 q h1 h2, fun q hq => by
      rcases List.mem_append.mp hq with h | h
      · exact hS.2.2 q h
      · exact hf _ (hL q h)⟩⟩
theorem vx_calli {S SX : Type} {post : Int32 → S → Prop} {px : SX → Prop} {B : S → State → Prop} {BX : String → SX → State → Prop} {AX : Nat → Prop} (hr : vx_Run p l e R s m args below meth c H locs cells slots mc ms (F0 m pc ls st0) rest (va_Qi post B A1 a) (vx_X px BX AX) free) (hS : va_S A0 H0 H locs) (hA : ∀ q, q < H.size → A1 q → A0 q) (hf : ∀ q, free q → A0 q) (hAX : ∀ q, q < H.size → AX q → A0 q)
    (kx : ∀ (E : String) (ce : Cell) (q9 : Addr) (u : SX) (t : State) (H1 : Heap) (locs1 : List Loc), t.heap = H1 → s.vm.Alike t.vm → px u → BX E u t → H.size ≤ H1.size → (∀ q : Nat, q < H.size → ¬ AX q → H1[q]? = H[q]?) → va_S A0 H0 H1 locs1 → H1[q9]? = some ce → ce.vm = .none → s.vm.findClass E = some ce.cls → vx_W p l e R s m args below meth c H1 locs1 (cells + mc) (slots + ms) Q (F0 m pc ls rest) q9)
    (kk : ∀ (r : Int32) (u : S) (t : State) (H1 : Heap) (locs1 : List Loc), t.heap = H1 → s.vm.Alike t.vm → post r u → B u t → H.size ≤ H1.size → (∀ q : Nat, q < H.size → ¬ A1 q → H1[q]? = H[q]?) → va_S A0 H0 H1 locs1 → W p l e R s m args below meth c H1 locs1 (cells + mc) (slots + ms) Q (F0 m (pc + 3) ls (.int r :: rest))) : W p l e R s m args below meth c H locs cells slots Q (F0 m pc ls st0) := by
  intro T hT X
  rcases hr T hT X with ⟨v, st₀, t, T', L, h0, X', hL, e1, e2, ⟨⟨r, u, hv, hp, hb⟩, hF⟩, st⟩ | ⟨q, st₀, t, T', L, E, ce, h0, X', hL, e1, e2, ⟨u, hp, hb, hF⟩, hce, hcv, hcl, st⟩
  · cases hv
    obtain ⟨k1, k2, k3⟩ := vx_keep h0 e1 hS hA hf hL hF
    obtain ⟨t2, a1, b1⟩ := kk r u t T'.heap (locs ++ L) e1.symm (by rw [← e2]; exact X'.warmed.alike) hp hb k1 k2 k3 T' rfl X'
    exact ⟨t2, st t2 a1, b1⟩
  · obtain ⟨k1, k2, k3⟩ := vx_keep h0 e1 hS hAX hf hL hF
    obtain ⟨t2, a1, b1⟩ := kx E ce q u t T'.heap (locs ++ L) e1.symm (by rw [← e2]; exact X'.warmed.alike) hp hb k1 k2 k3 (by rw [e1]; exact hce) hcv hcl T' rfl X'
    exact ⟨t2, st.trans a1, b1⟩
theorem vx_calll {S SX : Type} {post : Int64 → S → Prop} {px : SX → Prop} {B : S → State → Prop} {BX : String → SX → State → Prop} {AX : Nat → Prop} (hr : vx_Run p l e R s m args below meth c H locs cells slots mc ms (F0 m pc ls st0) rest (va_Ql post B A1 a) (vx_X px BX AX) free) (hS : va_S A0 H0 H locs) (hA : ∀ q, q < H.size → A1 q → A0 q) (hf : ∀ q, free q → A0 q) (hAX : ∀ q, q < H.size → AX q → A0 q)
    (kx : ∀ (E : String) (ce : Cell) (q9 : Addr) (u : SX) (t : State) (H1 : Heap) (locs1 : List Loc), t.heap = H1 → s.vm.Alike t.vm → px u → BX E u t → H.size ≤ H1.size → (∀ q : Nat, q < H.size → ¬ AX q → H1[q]? = H[q]?) → va_S A0 H0 H1 locs1 → H1[q9]? = some ce → ce.vm = .none → s.vm.findClass E = some ce.cls → vx_W p l e R s m args below meth c H1 locs1 (cells + mc) (slots + ms) Q (F0 m pc ls rest) q9)
    (kk : ∀ (r : Int64) (u : S) (t : State) (H1 : Heap) (locs1 : List Loc), t.heap = H1 → s.vm.Alike t.vm → post r u → B u t → H.size ≤ H1.size → (∀ q : Nat, q < H.size → ¬ A1 q → H1[q]? = H[q]?) → va_S A0 H0 H1 locs1 → W p l e R s m args below meth c H1 locs1 (cells + mc) (slots + ms) Q (F0 m (pc + 3) ls (.long r :: rest))) : W p l e R s m args below meth c H locs cells slots Q (F0 m pc ls st0) := by
  intro T hT X
  rcases hr T hT X with ⟨v, st₀, t, T', L, h0, X', hL, e1, e2, ⟨⟨r, u, hv, hp, hb⟩, hF⟩, st⟩ | ⟨q, st₀, t, T', L, E, ce, h0, X', hL, e1, e2, ⟨u, hp, hb, hF⟩, hce, hcv, hcl, st⟩
  · cases hv
    obtain ⟨k1, k2, k3⟩ := vx_keep h0 e1 hS hA hf hL hF
    obtain ⟨t2, a1, b1⟩ := kk r u t T'.heap (locs ++ L) e1.symm (by rw [← e2]; exact X'.warmed.alike) hp hb k1 k2 k3 T' rfl X'
    exact ⟨t2, st t2 a1, b1⟩
  · obtain ⟨k1, k2, k3⟩ := vx_keep h0 e1 hS hAX hf hL hF
    obtain ⟨t2, a1, b1⟩ := kx E ce q u t T'.heap (locs ++ L) e1.symm (by rw [← e2]; exact X'.warmed.alike) hp hb k1 k2 k3 (by rw [e1]; exact hce) hcv hcl T' rfl X'
    exact ⟨t2, st.trans a1, b1⟩
theorem vx_callf {S SX : Type} {post : UInt32 → S → Prop} {px : SX → Prop} {B : S → State → Prop} {BX : String → SX → State → Prop} {AX : Nat → Prop} (hr : vx_Run p l e R s m args below meth c H locs cells slots mc ms (F0 m pc ls st0) rest (va_Qf post B A1 a) (vx_X px BX AX) free) (hS : va_S A0 H0 H locs) (hA : ∀ q, q < H.size → A1 q → A0 q) (hf : ∀ q, free q → A0 q) (hAX : ∀ q, q < H.size → AX q → A0 q)
    (kx : ∀ (E : String) (ce : Cell) (q9 : Addr) (u : SX) (t : State) (H1 : Heap) (locs1 : List Loc), t.heap = H1 → s.vm.Alike t.vm → px u → BX E u t → H.size ≤ H1.size → (∀ q : Nat, q < H.size → ¬ AX q → H1[q]? = H[q]?) → va_S A0 H0 H1 locs1 → H1[q9]? = some ce → ce.vm = .none → s.vm.findClass E = some ce.cls → vx_W p l e R s m args below meth c H1 locs1 (cells + mc) (slots + ms) Q (F0 m pc ls rest) q9)
    (kk : ∀ (r : UInt32) (u : S) (t : State) (H1 : Heap) (locs1 : List Loc), t.heap = H1 → s.vm.Alike t.vm → post r u → B u t → H.size ≤ H1.size → (∀ q : Nat, q < H.size → ¬ A1 q → H1[q]? = H[q]?) → va_S A0 H0 H1 locs1 → W p l e R s m args below meth c H1 locs1 (cells + mc) (slots + ms) Q (F0 m (pc + 3) ls (.float r :: rest))) : W p l e R s m args below meth c H locs cells slots Q (F0 m pc ls st0) := by
  intro T hT X
  rcases hr T hT X with ⟨v, st₀, t, T', L, h0, X', hL, e1, e2, ⟨⟨r, u, hv, hp, hb⟩, hF⟩, st⟩ | ⟨q, st₀, t, T', L, E, ce, h0, X', hL, e1, e2, ⟨u, hp, hb, hF⟩, hce, hcv, hcl, st⟩
  · cases hv
    obtain ⟨k1, k2, k3⟩ := vx_keep h0 e1 hS hA hf hL hF
    obtain ⟨t2, a1, b1⟩ := kk r u t T'.heap (locs ++ L) e1.symm (by rw [← e2]; exact X'.warmed.alike) hp hb k1 k2 k3 T' rfl X'
    exact ⟨t2, st t2 a1, b1⟩
  · obtain ⟨k1, k2, k3⟩ := vx_keep h0 e1 hS hAX hf hL hF
    obtain ⟨t2, a1, b1⟩ := kx E ce q u t T'.heap (locs ++ L) e1.symm (by rw [← e2]; exact X'.warmed.alike) hp hb k1 k2 k3 (by rw [e1]; exact hce) hcv hcl T' rfl X'
    exact ⟨t2, st.trans a1, b1⟩
theorem vx_calld {S SX : Type} {post : UInt64 → S → Prop} {px : SX → Prop} {B : S → State → Prop} {BX : String → SX → State → Prop} {AX : Nat → Prop} (hr : vx_Run p l e R s m args below meth c H locs cells slots mc ms (F0 m pc ls st0) rest (va_Qd post B A1 a) (vx_X px BX AX) free) (hS : va_S A0 H0 H locs) (hA : ∀ q, q < H.size → A1 q → A0 q) (hf : ∀ q, free q → A0 q) (hAX : ∀ q, q < H.size → AX q → A0 q)
    (kx : ∀ (E : String) (ce : Cell) (q9 : Addr) (u : SX) (t : State) (H1 : Heap) (locs1 : List Loc), t.heap = H1 → s.vm.Alike t.vm → px u → BX E u t → H.size ≤ H1.size → (∀ q : Nat, q < H.size → ¬ AX q → H1[q]? = H[q]?) → va_S A0 H0 H1 locs1 → H1[q9]? = some ce → ce.vm = .none → s.vm.findClass E = some ce.cls → vx_W p l e R s m args below meth c H1 locs1 (cells + mc) (slots + ms) Q (F0 m pc ls rest) q9)
    (kk : ∀ (r : UInt64) (u : S) (t : State) (H1 : Heap) (locs1 : List Loc), t.heap = H1 → s.vm.Alike t.vm → post r u → B u t → H.size ≤ H1.size → (∀ q : Nat, q < H.size → ¬ A1 q → H1[q]? = H[q]?) → va_S A0 H0 H1 locs1 → W p l e R s m args below meth c H1 locs1 (cells + mc) (slots + ms) Q (F0 m (pc + 3) ls (.double r :: rest))) : W p l e R s m args below meth c H locs cells slots Q (F0 m pc ls st0) := by
  intro T hT X
  rcases hr T hT X with ⟨v, st₀, t, T', L, h0, X', hL, e1, e2, ⟨⟨r, u, hv, hp, hb⟩, hF⟩, st⟩ | ⟨q, st₀, t, T', L, E, ce, h0, X', hL, e1, e2, ⟨u, hp, hb, hF⟩, hce, hcv, hcl, st⟩
  · cases hv
    obtain ⟨k1, k2, k3⟩ := vx_keep h0 e1 hS hA hf hL hF
    obtain ⟨t2, a1, b1⟩ := kk r u t T'.heap (locs ++ L) e1.symm (by rw [← e2]; exact X'.warmed.alike) hp hb k1 k2 k3 T' rfl X'
    exact ⟨t2, st t2 a1, b1⟩
  · obtain ⟨k1, k2, k3⟩ := vx_keep h0 e1 hS hAX hf hL hF
    obtain ⟨t2, a1, b1⟩ := kx E ce q u t T'.heap (locs ++ L) e1.symm (by rw [← e2]; exact X'.warmed.alike) hp hb k1 k2 k3 (by rw [e1]; exact hce) hcv hcl T' rfl X'
    exact ⟨t2, st.trans a1, b1⟩
theorem vx_callv {S SX : Type} {post : S → Prop} {px : SX → Prop} {B : S → State → Prop} {BX : String → SX → State → Prop} {AX : Nat → Prop} (hr : vx_Run p l e R s m args below meth c H locs cells slots mc ms (F0 m pc ls st0) rest (va_Qv post B A1 a) (vx_X px BX AX) free) (hS : va_S A0 H0 H locs) (hA : ∀ q, q < H.size → A1 q → A0 q) (hf : ∀ q, free q → A0 q) (hAX : ∀ q, q < H.size → AX q → A0 q)
    (kx : ∀ (E : String) (ce : Cell) (q9 : Addr) (u : SX) (t : State) (H1 : Heap) (locs1 : List Loc), t.heap = H1 → s.vm.Alike t.vm → px u → BX E u t → H.size ≤ H1.size → (∀ q : Nat, q < H.size → ¬ AX q → H1[q]? = H[q]?) → va_S A0 H0 H1 locs1 → H1[q9]? = some ce → ce.vm = .none → s.vm.findClass E = some ce.cls → vx_W p l e R s m args below meth c H1 locs1 (cells + mc) (slots + ms) Q (F0 m pc ls rest) q9)
    (kk : ∀ (u : S) (t : State) (H1 : Heap) (locs1 : List Loc), t.heap = H1 → s.vm.Alike t.vm → post u → B u t → H.size ≤ H1.size → (∀ q : Nat, q < H.size → ¬ A1 q → H1[q]? = H[q]?) → va_S A0 H0 H1 locs1 → W p l e R s m args below meth c H1 locs1 (cells + mc) (slots + ms) Q (F0 m (pc + 3) ls (rest))) : W p l e R s m args below meth c H locs cells slots Q (F0 m pc ls st0) := by
  intro T hT X
  rcases hr T hT X with ⟨v, st₀, t, T', L, h0, X', hL, e1, e2, ⟨⟨u, hv, hp, hb⟩, hF⟩, st⟩ | ⟨q, st₀, t, T', L, E, ce, h0, X', hL, e1, e2, ⟨u, hp, hb, hF⟩, hce, hcv, hcl, st⟩
  · cases hv
    obtain ⟨k1, k2, k3⟩ := vx_keep h0 e1 hS hA hf hL hF
    obtain ⟨t2, a1, b1⟩ := kk u t T'.heap (locs ++ L) e1.symm (by rw [← e2]; exact X'.warmed.alike) hp hb k1 k2 k3 T' rfl X'
    exact ⟨t2, st t2 a1, b1⟩
  · obtain ⟨k1, k2, k3⟩ := vx_keep h0 e1 hS hAX hf hL hF
    obtain ⟨t2, a1, b1⟩ := kx E ce q u t T'.heap (locs ++ L) e1.symm (by rw [← e2]; exact X'.warmed.alike) hp hb k1 k2 k3 (by rw [e1]; exact hce) hcv hcl T' rfl X'
    exact ⟨t2, st.trans a1, b1⟩
/-- caught by the row x of this method's table; the rows ahead don't take it -/
theorem vx_catch {own name : String} {E : String} {ce : Cell} {q : Addr} (hown : s.vm.findClass own = some m.cls) (pre : List ExceptionTableEntry) (x : ExceptionTableEntry) (suf : List ExceptionTableEntry) (hsplit : c.exceptionTable.toList = pre ++ x :: suf)
    (hpass : ∀ z ∈ pre, covers z pc = false ∨ (z.catchType ≠ 0 ∧ ∃ nm : String, (Cond.classLink own z.catchType nm).before args s = true ∧ va_Nc E nm s)) (hx : covers x pc = true) (h0 : x.catchType ≠ 0)
    (hlink : (Cond.classLink own x.catchType name).before args s = true) (hcast : (Cond.castable E name).before args s = true) (hcell : H[q]? = some ce) (hv : ce.vm = .none) (hcl : s.vm.findClass E = some ce.cls)
    (kk : W p l e R s m args below meth c H locs cells slots Q (F0 m x.handlerPc ls [.ref q])) : vx_W p l e R s m args below meth c H locs cells slots Q (F0 m pc ls rest) q := by
  intro T hT X
  have hpl : e.platform.magicAccessors = ({} : Platform).magicAccessors := by rw [X.admits.platform]
  obtain ⟨c3, c4, hc3, hc4, hasg⟩ := Cond.castable_spec hcast
  cases Option.some.inj (hc3.symm.trans hcl)
  obtain ⟨c5, hc5, hcl5⟩ := Cond.classLink_spec hown hlink e.platform hpl
  cases Option.some.inj (hc4.symm.trans hc5)
  obtain ⟨vm', X', st⟩ := X.thenCaughtThrough q (g := F0 m pc ls rest) rfl (Steps.refl _) (by rw [hT]; exact hcell) (by rw [hv]; rfl) (by obtain ⟨k9, h9, -⟩ := Vm.findClass_spec hcl; exact ⟨k9, h9⟩) pre x suf hsplit
    (fun z hz => by
      rcases hpass z hz with h | ⟨hz0, nm, hl1, hn1⟩
      · exact Or.inl h
      · obtain ⟨c6, hc6, hcl6⟩ := Cond.classLink_spec hown hl1 e.platform hpl
        obtain ⟨a8, b8, h1, h2, h3⟩ := hn1
        cases Option.some.inj (h1.symm.trans hcl)
        cases Option.some.inj (h2.symm.trans hc6)
        exact Or.inr ⟨hz0, _, hcl6, h3⟩) hx (Or.inr ⟨h0, c4, hcl5, hasg⟩)
  obtain ⟨t, a1, b1⟩ := kk (T.setVm vm') hT X'
  exact ⟨t, st.trans a1, b1⟩
end Rows
section Ends
variable {p : Program} {l : Launch} {e : Env} {R : Room} {s : State} {m : MethodId} {args : Array Value} {below : List Frame} {meth : Method} {c : Code} {H : Heap} {locs : List Loc} {cells slots : Nat} {Q : State → Prop}
variable {mc ms : Nat} {free : Addr → Prop} {A0 A1 : Nat → Prop} {H0 : Heap} {a : Array Value} {ls : Array Slot} {st0 rest : List Value}
variable {Qc : Array Value → State → Outcome → State → Prop} {XC : String → State → State → Prop}
/-- what a body that may throw owes at its end -/
def vx_MQ (below : List Frame) (Qc : Array Value → State → Outcome → State → Prop) (XC : String → State → State → Prop) (a : Array Value) (s : State) (mc ms : Nat) (free : Addr → Prop) : State → Prop := fun t =>
  ∃ o, t.status = .running ∧ Ended t below o ∧ vx_Q Qc XC mc ms free a s o t
theorem vx_ret {g : JFrame} {mc ms : Nat} (k : W p l e R s m args below meth c H locs cells slots (MQ below Qc args s mc ms free) g) : W p l e R s m args below meth c H locs cells slots (vx_MQ below Qc XC args s mc ms free) g := by
  intro T hT X
  obtain ⟨t, a1, o, b1, b2, b3, b4⟩ := k T hT X
  exact ⟨t, a1, o, b1, b2, Or.inl ⟨b3, b4⟩⟩
/-- not caught here: it goes on to the caller -/
theorem vx_widen {g : JFrame} {q : Addr} {k n : Nat} (h1 : cells ≤ k) (h2 : slots ≤ n) (kk : vx_W p l e R s m args below meth c H locs k n Q g q) : vx_W p l e R s m args below meth c H locs cells slots Q g q := fun T hT X => kk T hT (stand_widen X h1 h2)
theorem vx_out {pc : Nat} {E : String} {ce : Cell} {q : Addr} {mc ms : Nat} (hout : ∀ x ∈ c.exceptionTable.toList, covers x pc = false) (hlocks : meth.locks = false) (hcell : H[q]? = some ce) (hv : ce.vm = .none) (hcl : s.vm.findClass E = some ce.cls)
    (hx : ∀ t : State, t.heap = H → s.vm.Alike t.vm → XC E s t) (hf : ∀ z ∈ locs, free z.base) (hc : cells ≤ mc) (hs : slots ≤ ms) :
    vx_W p l e R s m args below meth c H locs cells slots (vx_MQ below Qc XC args s mc ms free) (F0 m pc ls rest) q := by
  intro T hT X
  obtain ⟨st1, hrun, hend, hW, hsm⟩ := X.leaveThrown q (g := F0 m pc ls rest) rfl rfl rfl hout hlocks
  have hcell9 : (T.setFrames (.throwing q :: below)).heap[q]? = some ce := by
    show T.heap[q]? = some ce
    rw [hT]; exact hcell
  exact ⟨_, st1, .threw q, hrun, hend, Or.inr ⟨q, rfl, E, ce, locs, hx _ hT hW.alike, hcell9, hv, hcl, hW, hsm.mono hc hs, hf⟩⟩
theorem vx_frame {U : State} {k n : Nat} (h : s.sameButNew ({ U with vm := s.vm } : State) locs k n) : s.heap.size ≤ U.heap.size ∧ ∀ q : Nat, q < s.heap.size → (∀ z ∈ locs, z.base ≠ q) → U.heap[q]? = s.heap[q]? := by
  obtain ⟨-, h2, -, -, -, h6⟩ := h
  refine ⟨h2, fun q hq hz => ?_⟩
  obtain ⟨c9, e1, e2, e3, e4⟩ := h6 q _ (Array.getElem?_eq_getElem hq)
  have hs : c9.slots = (s.heap[q]).slots := Array.ext_getElem? fun i => e4 i fun hm => hz _ hm rfl
  have h9 : c9 = s.heap[q] := by
    rw [hs] at e2
    exact e2
  have e5 : U.heap[q]? = some c9 := e1
  rw [e5, h9, Array.getElem?_eq_getElem hq]
/-- the words of a throw but the four that speak of the heap -/
def vx_no (w : Cond) : Bool := decide (w ≠ .isRef (.static Bundle.tN "UNASSIGNED_STACK" Bundle.steD)) && decide (w ≠ .isRef (.static Bundle.tN "SUPPRESSED_SENTINEL" Bundle.listD)) && decide (w ≠ .laysStatic Bundle.tN "UNASSIGNED_STACK" Bundle.steD) && decide (w ≠ .laysStatic Bundle.tN "SUPPRESSED_SENTINEL" Bundle.listD)
def vx_at0 (own : String) (ic : Nat) (X : String) (names : List String) : List Cond := (Bundle.ownAtoms0 own ic X names).filter vx_no
def vx_atS (own : String) (ic : Nat) (X : String) (names : List String) : List Cond := (Bundle.ownAtoms own ic X names).filter vx_no
/-- a word that the tables alone decide, or a good one -/
def vx_ot (w : Cond) : Bool := w.onTables || goodWord w
theorem vx_ot_at {args a' : Array Value} {s U : State} {w : Cond} (hW : s.WarmedH U.vm) (hvm : s.vm = U.vm) (hg : vx_ot w = true) (h : w.before args s = true) : w.before a' U = true := by
  simp only [vx_ot, Bool.or_eq_true] at hg
  rcases hg with hg | hg
  · exact va_tabs hg hvm h
  · exact word_at hW (good_of_word hg) h
/-- a list's words: the good ones out of the method's own list, the others by premises of their own -/
theorem vx_hat {args : Array Value} {s : State} {L B : List Cond} (h1 : ∀ w ∈ L.filter goodWord, w.before args s = true) (h2 : ∀ w ∈ L.filter (fun w => !goodWord w), w ∈ B) (h3 : ∀ w ∈ B, w.before args s = true) : ∀ w ∈ L, w.before args s = true := by
  intro w hw
  by_cases g : goodWord w = true
  · exact h1 w (List.mem_filter.mpr ⟨hw, g⟩)
  · refine h3 w (h2 w (List.mem_filter.mpr ⟨hw, ?_⟩))
    show (!goodWord w) = true
    cases hgw : goodWord w
    · rfl
    · exact absurd hgw g
theorem vx_c {args : Array Value} {s : State} {w : Cond} {B : List Cond} (h : w.before args s = true) (t : ∀ w ∈ B, w.before args s = true) : ∀ w' ∈ w :: B, w'.before args s = true := fun w' h' => (List.mem_cons.mp h').elim (fun e => by rw [e]; exact h) (t w')
theorem vx_n {args : Array Value} {s : State} : ∀ w ∈ ([] : List Cond), w.before args s = true := fun _ h => nomatch h
theorem vx_own {args : Array Value} {s : State} {L : List Cond} (h1 : ∀ w ∈ L.filter vx_no, w.before args s = true)
    (hU : (Cond.isRef (.static Bundle.tN "UNASSIGNED_STACK" Bundle.steD)).before args s = true) (hN : (Cond.isRef (.static Bundle.tN "SUPPRESSED_SENTINEL" Bundle.listD)).before args s = true)
    (lU : (Cond.laysStatic Bundle.tN "UNASSIGNED_STACK" Bundle.steD).before args s = true) (lN : (Cond.laysStatic Bundle.tN "SUPPRESSED_SENTINEL" Bundle.listD).before args s = true) : ∀ w ∈ L, w.before args s = true := by
  intro w hw
  by_cases e1 : w = .isRef (.static Bundle.tN "UNASSIGNED_STACK" Bundle.steD)
  · rw [e1]; exact hU
  · by_cases e2 : w = .isRef (.static Bundle.tN "SUPPRESSED_SENTINEL" Bundle.listD)
    · rw [e2]; exact hN
    · by_cases e3 : w = .laysStatic Bundle.tN "UNASSIGNED_STACK" Bundle.steD
      · rw [e3]; exact lU
      · by_cases e4 : w = .laysStatic Bundle.tN "SUPPRESSED_SENTINEL" Bundle.listD
        · rw [e4]; exact lN
        · exact h1 w (List.mem_filter.mpr ⟨hw, by unfold vx_no; rw [decide_eq_true e1, decide_eq_true e2, decide_eq_true e3, decide_eq_true e4]; rfl⟩)
/-- where a static field lies, its class's statics cell in H -/
def vx_L (C n d : String) (A : Nat → Prop) (U : State) (H : Heap) : Prop := ∃ (c : ClassId) (k : Class) (i : Nat) (f : Field) (a : Nat) (cell : Cell), U.vm.findClass C = some c ∧ U.fieldFound? C n d = some (c, k, i, f) ∧ f.isStatic = true ∧ k.statics = some a ∧ H[a]? = some cell ∧ cell.vm.isStatics = true ∧ cell.cls = c ∧ f.slot < cell.slots.size ∧ k.staticTypes[f.slot]? = some f.type ∧ ¬ A a
theorem vx_L.moved {C n d : String} {A : Nat → Prop} {u U : State} {H : Heap} (hvm : u.vm.Alike U.vm) (h : vx_L C n d A u H) : vx_L C n d A U H := by
  obtain ⟨c, k, i, f, a, cell, h1, h2, h3, h4, h5, h6, h7, h8, h9, h10⟩ := h
  obtain ⟨k', hi', he⟩ := State.fieldFound?_setVm hvm h2
  exact ⟨c, k', i, f, a, cell, by rw [hvm.findClass]; exact h1, hi', h3, by rw [he]; exact h4, h5, h6, h7, h8, by rw [he]; exact h9, h10⟩
theorem vx_L.kept {C n d : String} {A : Nat → Prop} {U : State} {H H1 : Heap} (h : vx_L C n d A U H) (hq : ∀ a : Nat, a < H.size → ¬ A a → H1[a]? = H[a]?) : vx_L C n d A U H1 := by
  obtain ⟨c, k, i, f, a, cell, h1, h2, h3, h4, h5, h6, h7, h8, h9, h10⟩ := h
  exact ⟨c, k, i, f, a, cell, h1, h2, h3, h4, by rw [hq a (Array.getElem?_eq_some_iff.mp h5).1 h10]; exact h5, h6, h7, h8, h9, h10⟩
theorem vx_L.narrow {C n d : String} {A B : Nat → Prop} {U : State} {H : Heap} (h : vx_L C n d A U H) (hAB : ∀ q, B q → A q) : vx_L C n d B U H := by
  obtain ⟨c, k, i, f, a, cell, h1, h2, h3, h4, h5, h6, h7, h8, h9, h10⟩ := h
  exact ⟨c, k, i, f, a, cell, h1, h2, h3, h4, h5, h6, h7, h8, h9, fun z => h10 (hAB _ z)⟩
theorem vx_L.word {C n d : String} {A : Nat → Prop} {s : State} {args : Array Value} (h : vx_L C n d A s s.heap) : (Cond.laysStatic C n d).before args s = true := by
  obtain ⟨c, k, i, f, a, cell, h1, h2, h3, h4, h5, h6, h7, h8, h9, -⟩ := h
  show (Cond.laysStatic C n d).holds args s none s [] = true
  exact Cond.laysStatic_of h1 h2 h3 h4 h5 h6 h7 h8 h9
/-- .. and what it holds: null or some reference -/
def vx_Zq (C n d : String) (A : Nat → Prop) (U : State) (H : Heap) : Prop := va_Zq C n d A U H ∧ vx_L C n d A U H
theorem vx_Zq.moved {C n d : String} {A : Nat → Prop} {u U : State} {H : Heap} (hvm : u.vm.Alike U.vm) (h : vx_Zq C n d A u H) : vx_Zq C n d A U H := ⟨va_Zq.moved hvm h.1, vx_L.moved hvm h.2⟩
theorem vx_Zq.kept {C n d : String} {A : Nat → Prop} {U : State} {H H1 : Heap} (h : vx_Zq C n d A U H) (hq : ∀ a : Nat, a < H.size → ¬ A a → H1[a]? = H[a]?) : vx_Zq C n d A U H1 := ⟨va_Zq.kept h.1 hq, vx_L.kept h.2 hq⟩
theorem vx_Zq.narrow {C n d : String} {A B : Nat → Prop} {U : State} {H : Heap} (h : vx_Zq C n d A U H) (hAB : ∀ q, B q → A q) : vx_Zq C n d B U H := ⟨va_Zq.narrow h.1 hAB, vx_L.narrow h.2 hAB⟩
theorem vx_Zqof {args : Array Value} {s : State} {C n d : String} {A : Nat → Prop} (hl : (Cond.laysStatic C n d).before args s = true) (hini : (Cond.initialized C).before args s = true) (h : (Cond.isRef (.static C n d)).before args s = true) (hA : ∀ a : Nat, a < s.heap.size → ¬ A a) : vx_Zq C n d A s s.heap := by
  refine ⟨va_Zqof hl hini h hA, ?_⟩
  obtain ⟨c, k, i, f, a, cell, h1, h2, h3, h4, h5, h6, h7, h8, h9⟩ := Cond.laysStatic_spec hl
  exact ⟨c, k, i, f, a, cell, h1, h2, h3, h4, h5, h6, h7, h8, h9, hA a (Array.getElem?_eq_some_iff.mp h5).1⟩
theorem vx_isRef {C n d : String} {v : Value} {A : Nat → Prop} {s : State} {args : Array Value} (h : va_Z C n d v A s s.heap) (hv : v.isRef = true) : (Cond.isRef (.static C n d)).before args s = true := by
  obtain ⟨cf, kf, fi, f, a, cell, h1, h2, h3, h4, h5, h6, h7, -⟩ := h
  have he : (Term.static C n d).eval args s none [] s = some v := by
    simp [Term.eval, State.fieldNamed?, h1, h2, h4, h5, h6, h7]
  simp only [Cond.before, Cond.holds, Cond.value, he]
  cases v <;> simp_all [Value.isRef]
theorem vx_isRefq {C n d : String} {A : Nat → Prop} {s : State} {args : Array Value} (h : va_Zq C n d A s s.heap) : (Cond.isRef (.static C n d)).before args s = true := by
  rcases h with h | ⟨t, h⟩
  · exact vx_isRef h rfl
  · exact vx_isRef h rfl
/-- the same frame, seen from here: as if the method were called anew in this heap -/
theorem vx_rebase {T : State} (X : Stand p l e R s m args below meth c T locs cells slots) {R' : Room} (hf : R'.frames ≤ R.frames) (hl : R'.locals ≤ R.locals) (hc : cells + R'.cells ≤ R.cells) (hs : slots + R'.slots ≤ R.slots) :
    Stand p l e R' ((T.setVm s.vm).setFrames (.invoking m args :: below)) m args below meth c T [] 0 0 := by
  have htop : (T.setVm s.vm).topJava?.isSome := X.here.top
  have hF : ((T.setVm s.vm).setFrames (.invoking m args :: below)).frames = .invoking m args :: below := State.frames_setFrames _ (State.cur_lt_of_top htop)
  obtain ⟨g₀, hg0⟩ := Option.isSome_iff_exists.mp htop
  obtain ⟨r, hr⟩ := State.topJava?_eq_some.mp hg0
  have hl9 : e.platform.stackLimits (T.setVm s.vm).me = e.platform.stackLimits s.me := X.limits
  have hb9 : (T.setVm s.vm).me.stackBytes = s.me.stackBytes := X.bytes
  refine ⟨X.admits, X.cas, X.clock, hF, ?_, X.hears, X.method, X.code, X.here, X.tail, X.warmed, ?_, ?_, ?_⟩
  · have h := X.room
    have hU : ((T.setVm s.vm).setFrames (.invoking m args :: below)).localsInUse = s.localsInUse := by
      rw [State.localsInUse_invoking hF (meth := meth) (c := c) X.method X.code, State.localsInUse_invoking X.frames X.method X.code]
    simp only [State.hasRoom, Bool.and_eq_true, decide_eq_true_eq] at h ⊢
    obtain ⟨⟨⟨⟨h1, h2, h3, h4, h5, h6⟩, h7⟩, h8⟩, h9⟩ := h
    rw [X.frames, List.length_cons] at h2 h3
    have q1 := X.heapSize
    have q2 := X.used
    simp only [hF, hU, List.length_cons, State.stackLimits_setFrames, State.stackBytes_setFrames, hl9, hb9]
    refine ⟨⟨⟨⟨by omega, by omega, by omega, by omega, by omega, h6⟩, ?_⟩, ?_⟩, X.book⟩
    · show T.heap.size + R'.cells ≤ e.platform.maxCells
      omega
    · show T.slotsUsed + R'.slots ≤ e.platform.maxSlots
      omega
  · rw [State.stackLimits_setFrames]; rfl
  · rw [State.stackBytes_setFrames]; rfl
  · refine ⟨?_, Nat.le_refl _, Nat.le_refl _, ?_, ?_, fun a c9 h9 => ⟨c9, h9, rfl, rfl, fun _ _ => rfl⟩⟩
    · obtain ⟨t, ht, -⟩ := State.frames_cons hr
      show T.setVm s.vm = { ((T.setVm s.vm).setFrames (.invoking m args :: below)).setFrames (T.setVm s.vm).frames with heap := T.heap, slotsUsed := T.slotsUsed }
      rw [State.setFrames_setFrames, State.setFrames_self ht]
      rfl
    · show T.slotsUsed = T.slotsUsed + ((T.heap.toList.drop T.heap.size).map (·.slots.size)).sum
      rw [List.drop_eq_nil_of_le (Nat.le_of_eq Array.length_toList)]
      rfl
    · show ((T.heap.toList.drop T.heap.size).map (·.slots.size)).sum ≤ 0
      rw [List.drop_eq_nil_of_le (Nat.le_of_eq Array.length_toList)]
      exact Nat.le_refl _
/-- 'throw new E()': new; dup; invokespecial; athrow -/
theorem vx_throw0 {cc : ByteArray} {pc : Nat} (hexec : p.tables.exec = Jvm.exec) (hb : c.code = cc) (hl : l.stackTraces = false) {own cls : String} {names : List String} {ik ic mc ms : Nat} {A : Nat → Prop}
    (hown : s.vm.findClass own = some m.cls) (hcls : Bundle.fit cls = true) (hnames : ∀ n ∈ names, Bundle.fit n = true)
    (hk : (Cond.classLink own ik cls).before args s = true) (hini : (Cond.initialized cls).before args s = true) (hat : ∀ w ∈ vx_at0 own ic cls names, w.before args s = true)
    (hgood : ∀ w ∈ Cond.classLink own ik cls :: Cond.initialized cls :: vx_at0 own ic cls names, vx_ot w = true)
    (hU : vx_Zq Bundle.tN "UNASSIGNED_STACK" Bundle.steD A s s.heap) (hN : vx_Zq Bundle.tN "SUPPRESSED_SENTINEL" Bundle.listD A s s.heap) (hS : va_S A s.heap H locs) (hsize : ls.size = c.maxLocals)
    (d0 : decode cc pc = .ok (.new ik, 3)) (d3 : decode cc (pc + 3) = .ok (.dup, 1)) (d4 : decode cc (pc + 4) = .ok (.invokespecial ic, 3)) (d7 : decode cc (pc + 7) = .ok (.athrow, 1))
    (hout : ∀ x ∈ c.exceptionTable.toList, covers x (pc + 7) = false)
    (hRframes : names.length + 3 < R.frames) (hRlocals : (rest.map fun v => v.category).sum + (13 * (names.length + 1) + 42) ≤ R.locals) (hRcells : cells + 1 ≤ R.cells) (hRslots : slots + 6 ≤ R.slots) (hlocks : meth.locks = false)
    (hx : ∀ t : State, s.vm.Alike t.vm → H.size ≤ t.heap.size → (∀ q : Nat, q < H.size → t.heap[q]? = H[q]?) → XC cls s t)
    (hf : ∀ z ∈ locs, free z.base) (hc : cells + 1 ≤ mc) (hs : slots + 6 ≤ ms) :
    W p l e R s m args below meth c H locs cells slots (vx_MQ below Qc XC args s mc ms free) (F0 m pc ls rest) := by
  intro T hT X
  have htr : e.platform.stackTraces = false := (show e.platform.stackTraces = l.stackTraces by rw [X.admits.platform]).trans hl
  have Y := vx_rebase X (R' := { frames := R.frames, locals := R.locals, cells := 1, slots := 6 }) (Nat.le_refl _) (Nat.le_refl _) hRcells hRslots
  obtain ⟨s', hA⟩ : ∃ z, z = (T.setVm s.vm).setFrames (.invoking m args :: below) := ⟨_, rfl⟩
  rw [← hA] at Y
  have hvm : s'.vm = s.vm := by rw [hA]; rfl
  have hhp : s'.heap = H := by rw [hA]; exact hT
  have hW0 : s.WarmedH s'.vm := by rw [hvm]; exact State.WarmedH.refl s
  have hat' : ∀ w ∈ vx_at0 own ic cls names, w.before args s' = true := fun w hw => vx_ot_at hW0 hvm.symm (hgood w (List.mem_cons_of_mem _ (List.mem_cons_of_mem _ hw))) (hat w hw)
  have hk' : (Cond.classLink own ik cls).before args s' = true := vx_ot_at hW0 hvm.symm (hgood _ List.mem_cons_self) hk
  have hini' : (Cond.initialized cls).before args s' = true := vx_ot_at hW0 hvm.symm (hgood _ (List.mem_cons_of_mem _ List.mem_cons_self)) hini
  have hU' : vx_Zq Bundle.tN "UNASSIGNED_STACK" Bundle.steD A s' s'.heap := by rw [hhp]; exact vx_Zq.moved hW0.alike (hU.kept hS.2.1)
  have hN' : vx_Zq Bundle.tN "SUPPRESSED_SENTINEL" Bundle.listD A s' s'.heap := by rw [hhp]; exact vx_Zq.moved hW0.alike (hN.kept hS.2.1)
  have h : ∀ w ∈ Bundle.ownAtoms0 own ic cls names, w.before args s' = true := vx_own hat' (vx_isRefq hU'.1) (vx_isRefq hN'.1) hU'.2.word hN'.2.word
  have hown' : s'.vm.findClass own = some m.cls := by rw [hvm]; exact hown
  have hins : (Cond.instantiable cls 6).before args s' = true := h _ (by simp [Bundle.ownAtoms0])
  obtain ⟨vm₁, cX, kX, hfX, hkX, -, -, X₁, st1⟩ := Y.newCold hexec (own := own) (C := cls) (index := ik) (n := 6) hown' hk' hins hini'
    (g := F0 m pc ls rest) rfl (by rw [hb]; exact d0) (Nat.le_refl _) (Nat.le_refl _)
  generalize hT1 : (T.setVm vm₁).pushCell { cls := cX, slots := kX.instanceTypes.map defaultValue, vm := .none } = T1 at X₁ st1
  have hcat : (Value.ref T.heap.size).category = 1 := rfl
  have hcellA : T1.heap[T.heap.size]? = some (freshCell cX kX) := by rw [← hT1]; exact State.heap_pushCell_size _ _
  have d3' : decode c.code (pc + 3) = .ok (.dup, 1) := by rw [hb]; exact d3
  obtain ⟨U, hsteps, hrun, hend, hW, hsame, ce, hce, hO⟩ := X₁.ctorThrow0 hexec htr (own := own) (cls := cls) (names := names) (ic := ic) hown' hcls hnames h (fun x hx => nomatch hx) hfX hkX hcellA (by rw [hhp, hT]; exact Nat.le_refl _)
    (g := { method := m, pc := pc + 4, locals := ls, stack := .ref T.heap.size :: .ref T.heap.size :: rest, locked := none }) rfl hsize rfl rfl (rest := rest) rfl
    (by rw [hb]; exact d4) (by rw [hb]; exact d7) hout hRframes (by simp only [List.map_cons, List.sum_cons, hcat]; omega) hlocks
  obtain ⟨f1, f2⟩ := vx_frame hsame
  rw [hhp] at f1 f2
  have hWs : s.WarmedH U.vm := State.WarmedH.trans hW0 hW
  have hcl : s.vm.findClass cls = some ce.cls := by
    have h9 := hO.cls
    rw [hvm] at h9
    exact h9
  have hall : s.sameButNew ({ U with vm := s.vm } : State) locs mc ms := by
    subst hA
    obtain ⟨e1, e2⟩ := hsame
    rw [State.setFrames_setFrames] at e1
    have h2 : (T.setVm s.vm).sameButNew ({ U with vm := s.vm } : State) [] (0 + 1) (0 + 6) := ⟨e1, e2⟩
    have h3 := X.same.trans h2
    rw [List.append_nil] at h3
    exact h3.mono hc hs
  refine ⟨U, ?_, .threw T.heap.size, hrun, hend, Or.inr ⟨T.heap.size, rfl, cls, ce, locs, hx U hWs.alike f1 (fun q hq => f2 q hq (fun z hz => nomatch hz)), hce, hO.vm, hcl, hWs, hall, hf⟩⟩
  refine st1 _ ?_
  show Steps p.tables e below (T1.setTop { method := m, pc := pc + 3, locals := ls, stack := .ref T.heap.size :: rest, locked := none }) _
  jvm_step X₁.here [X₁.here.top, hexec, d3', Value.category]
  exact hsteps
/-- 'throw new E("text")': new; dup; ldc; invokespecial; athrow -/
theorem vx_throwS {cc : ByteArray} {pc : Nat} (hexec : p.tables.exec = Jvm.exec) (hb : c.code = cc) (hl : l.stackTraces = false) {own cls text : String} {names : List String} {ik is ic mc ms sa : Nat} {A : Nat → Prop}
    (hown : s.vm.findClass own = some m.cls) (hcls : Bundle.fit cls = true) (hnames : ∀ n ∈ names, Bundle.fit n = true)
    (hk : (Cond.classLink own ik cls).before args s = true) (hini : (Cond.initialized cls).before args s = true) (hstr : vk_R own is text sa s) (hat : ∀ w ∈ vx_atS own ic cls names, w.before args s = true)
    (hgood : ∀ w ∈ Cond.classLink own ik cls :: Cond.initialized cls :: vx_atS own ic cls names, vx_ot w = true)
    (hU : vx_Zq Bundle.tN "UNASSIGNED_STACK" Bundle.steD A s s.heap) (hN : vx_Zq Bundle.tN "SUPPRESSED_SENTINEL" Bundle.listD A s s.heap) (hS : va_S A s.heap H locs) (hsize : ls.size = c.maxLocals)
    (d0 : decode cc pc = .ok (.new ik, 3)) (d3 : decode cc (pc + 3) = .ok (.dup, 1)) (d4 : decode cc (pc + 4) = .ok (.ldc is, 2)) (d6 : decode cc (pc + 6) = .ok (.invokespecial ic, 3)) (d9 : decode cc (pc + 9) = .ok (.athrow, 1))
    (hout : ∀ x ∈ c.exceptionTable.toList, covers x (pc + 9) = false)
    (hRframes : names.length + 3 < R.frames) (hRlocals : (rest.map fun v => v.category).sum + (13 * (names.length + 1) + 43) ≤ R.locals) (hRcells : cells + 1 ≤ R.cells) (hRslots : slots + 6 ≤ R.slots) (hlocks : meth.locks = false)
    (hx : ∀ t : State, s.vm.Alike t.vm → H.size ≤ t.heap.size → (∀ q : Nat, q < H.size → t.heap[q]? = H[q]?) → XC cls s t)
    (hf : ∀ z ∈ locs, free z.base) (hc : cells + 1 ≤ mc) (hs : slots + 6 ≤ ms) :
    W p l e R s m args below meth c H locs cells slots (vx_MQ below Qc XC args s mc ms free) (F0 m pc ls rest) := by
  intro T hT X
  have htr : e.platform.stackTraces = false := (show e.platform.stackTraces = l.stackTraces by rw [X.admits.platform]).trans hl
  have Y := vx_rebase X (R' := { frames := R.frames, locals := R.locals, cells := 1, slots := 6 }) (Nat.le_refl _) (Nat.le_refl _) hRcells hRslots
  obtain ⟨s', hA⟩ : ∃ z, z = (T.setVm s.vm).setFrames (.invoking m args :: below) := ⟨_, rfl⟩
  rw [← hA] at Y
  have hvm : s'.vm = s.vm := by rw [hA]; rfl
  have hhp : s'.heap = H := by rw [hA]; exact hT
  have hW0 : s.WarmedH s'.vm := by rw [hvm]; exact State.WarmedH.refl s
  have hat' : ∀ w ∈ vx_atS own ic cls names, w.before args s' = true := fun w hw => vx_ot_at hW0 hvm.symm (hgood w (List.mem_cons_of_mem _ (List.mem_cons_of_mem _ hw))) (hat w hw)
  have hk' : (Cond.classLink own ik cls).before args s' = true := vx_ot_at hW0 hvm.symm (hgood _ List.mem_cons_self) hk
  have hini' : (Cond.initialized cls).before args s' = true := vx_ot_at hW0 hvm.symm (hgood _ (List.mem_cons_of_mem _ List.mem_cons_self)) hini
  have hU' : vx_Zq Bundle.tN "UNASSIGNED_STACK" Bundle.steD A s' s'.heap := by rw [hhp]; exact vx_Zq.moved hW0.alike (hU.kept hS.2.1)
  have hN' : vx_Zq Bundle.tN "SUPPRESSED_SENTINEL" Bundle.listD A s' s'.heap := by rw [hhp]; exact vx_Zq.moved hW0.alike (hN.kept hS.2.1)
  have h : ∀ w ∈ Bundle.ownAtoms own ic cls names, w.before args s' = true := vx_own hat' (vx_isRefq hU'.1) (vx_isRefq hN'.1) hU'.2.word hN'.2.word
  have hown' : s'.vm.findClass own = some m.cls := by rw [hvm]; exact hown
  have hins : (Cond.instantiable cls 6).before args s' = true := h _ (by simp [Bundle.ownAtoms])
  obtain ⟨vm₁, cX, kX, hfX, hkX, -, -, X₁, st1⟩ := Y.newCold hexec (own := own) (C := cls) (index := ik) (n := 6) hown' hk' hins hini'
    (g := F0 m pc ls rest) rfl (by rw [hb]; exact d0) (Nat.le_refl _) (Nat.le_refl _)
  generalize hT1 : (T.setVm vm₁).pushCell { cls := cX, slots := kX.instanceTypes.map defaultValue, vm := .none } = T1 at X₁ st1
  have hcat : (Value.ref T.heap.size).category = 1 := rfl
  have hcellA : T1.heap[T.heap.size]? = some (freshCell cX kX) := by rw [← hT1]; exact State.heap_pushCell_size _ _
  have d3' : decode c.code (pc + 3) = .ok (.dup, 1) := by rw [hb]; exact d3
  have d4' : decode c.code (pc + 4) = .ok (.ldc is, 2) := by rw [hb]; exact d4
  have hstr' : vk_R own is text sa s' := vk_R.warm hW0 hstr
  obtain ⟨U, hsteps, hrun, hend, hW, hsame, ce, hce, hO⟩ := X₁.ctorThrowS hexec htr (own := own) (cls := cls) (names := names) (ic := ic) hown' hcls hnames h (fun x hx => nomatch hx) hfX hkX hcellA (by rw [hhp, hT]; exact Nat.le_refl _) (msg := .ref sa) rfl
    (g := { method := m, pc := pc + 6, locals := ls, stack := .ref sa :: .ref T.heap.size :: .ref T.heap.size :: rest, locked := none }) rfl hsize rfl rfl (rest := rest) rfl
    (by rw [hb]; exact d6) (by rw [hb]; exact d9) hout hRframes (by simp only [List.map_cons, List.sum_cons, hcat]; omega) hlocks
  obtain ⟨f1, f2⟩ := vx_frame hsame
  rw [hhp] at f1 f2
  have hWs : s.WarmedH U.vm := State.WarmedH.trans hW0 hW
  have hcl : s.vm.findClass cls = some ce.cls := by
    have h9 := hO.cls
    rw [hvm] at h9
    exact h9
  have hall : s.sameButNew ({ U with vm := s.vm } : State) locs mc ms := by
    subst hA
    obtain ⟨e1, e2⟩ := hsame
    rw [State.setFrames_setFrames] at e1
    have h2 : (T.setVm s.vm).sameButNew ({ U with vm := s.vm } : State) [] (0 + 1) (0 + 6) := ⟨e1, e2⟩
    have h3 := X.same.trans h2
    rw [List.append_nil] at h3
    exact h3.mono hc hs
  refine ⟨U, ?_, .threw T.heap.size, hrun, hend, Or.inr ⟨T.heap.size, rfl, cls, ce, locs, hx U hWs.alike f1 (fun q hq => f2 q hq (fun z hz => nomatch hz)), hce, hO.vm, hcl, hWs, hall, hf⟩⟩
  refine st1 _ ?_
  show Steps p.tables e below (T1.setTop { method := m, pc := pc + 3, locals := ls, stack := .ref T.heap.size :: rest, locked := none }) _
  jvm_step X₁.here [X₁.here.top, hexec, d3', Value.category]
  exact X₁.ldcString hexec (own := own) (text := text) (index := is) (a := sa) hown' hstr'.1 hstr'.2
    (g := { method := m, pc := pc + 4, locals := ls, stack := .ref T.heap.size :: .ref T.heap.size :: rest, locked := none }) rfl d4' _ hsteps
/-- 'throw new E("text")', the text by a wide index -/
theorem vx_throwSW {cc : ByteArray} {pc : Nat} (hexec : p.tables.exec = Jvm.exec) (hb : c.code = cc) (hl : l.stackTraces = false) {own cls text : String} {names : List String} {ik is ic mc ms sa : Nat} {A : Nat → Prop}
    (hown : s.vm.findClass own = some m.cls) (hcls : Bundle.fit cls = true) (hnames : ∀ n ∈ names, Bundle.fit n = true)
    (hk : (Cond.classLink own ik cls).before args s = true) (hini : (Cond.initialized cls).before args s = true) (hstr : vk_R own is text sa s) (hat : ∀ w ∈ vx_atS own ic cls names, w.before args s = true)
    (hgood : ∀ w ∈ Cond.classLink own ik cls :: Cond.initialized cls :: vx_atS own ic cls names, vx_ot w = true)
    (hU : vx_Zq Bundle.tN "UNASSIGNED_STACK" Bundle.steD A s s.heap) (hN : vx_Zq Bundle.tN "SUPPRESSED_SENTINEL" Bundle.listD A s s.heap) (hS : va_S A s.heap H locs) (hsize : ls.size = c.maxLocals)
    (d0 : decode cc pc = .ok (.new ik, 3)) (d3 : decode cc (pc + 3) = .ok (.dup, 1)) (d4 : decode cc (pc + 4) = .ok (.ldc_w is, 3)) (d7 : decode cc (pc + 7) = .ok (.invokespecial ic, 3)) (d10 : decode cc (pc + 10) = .ok (.athrow, 1))
    (hout : ∀ x ∈ c.exceptionTable.toList, covers x (pc + 10) = false)
    (hRframes : names.length + 3 < R.frames) (hRlocals : (rest.map fun v => v.category).sum + (13 * (names.length + 1) + 43) ≤ R.locals) (hRcells : cells + 1 ≤ R.cells) (hRslots : slots + 6 ≤ R.slots) (hlocks : meth.locks = false)
    (hx : ∀ t : State, s.vm.Alike t.vm → H.size ≤ t.heap.size → (∀ q : Nat, q < H.size → t.heap[q]? = H[q]?) → XC cls s t)
    (hf : ∀ z ∈ locs, free z.base) (hc : cells + 1 ≤ mc) (hs : slots + 6 ≤ ms) :
    W p l e R s m args below meth c H locs cells slots (vx_MQ below Qc XC args s mc ms free) (F0 m pc ls rest) := by
  intro T hT X
  have htr : e.platform.stackTraces = false := (show e.platform.stackTraces = l.stackTraces by rw [X.admits.platform]).trans hl
  have Y := vx_rebase X (R' := { frames := R.frames, locals := R.locals, cells := 1, slots := 6 }) (Nat.le_refl _) (Nat.le_refl _) hRcells hRslots
  obtain ⟨s', hA⟩ : ∃ z, z = (T.setVm s.vm).setFrames (.invoking m args :: below) := ⟨_, rfl⟩
  rw [← hA] at Y
  have hvm : s'.vm = s.vm := by rw [hA]; rfl
  have hhp : s'.heap = H := by rw [hA]; exact hT
  have hW0 : s.WarmedH s'.vm := by rw [hvm]; exact State.WarmedH.refl s
  have hat' : ∀ w ∈ vx_atS own ic cls names, w.before args s' = true := fun w hw => vx_ot_at hW0 hvm.symm (hgood w (List.mem_cons_of_mem _ (List.mem_cons_of_mem _ hw))) (hat w hw)
  have hk' : (Cond.classLink own ik cls).before args s' = true := vx_ot_at hW0 hvm.symm (hgood _ List.mem_cons_self) hk
  have hini' : (Cond.initialized cls).before args s' = true := vx_ot_at hW0 hvm.symm (hgood _ (List.mem_cons_of_mem _ List.mem_cons_self)) hini
  have hU' : vx_Zq Bundle.tN "UNASSIGNED_STACK" Bundle.steD A s' s'.heap := by rw [hhp]; exact vx_Zq.moved hW0.alike (hU.kept hS.2.1)
  have hN' : vx_Zq Bundle.tN "SUPPRESSED_SENTINEL" Bundle.listD A s' s'.heap := by rw [hhp]; exact vx_Zq.moved hW0.alike (hN.kept hS.2.1)
  have h : ∀ w ∈ Bundle.ownAtoms own ic cls names, w.before args s' = true := vx_own hat' (vx_isRefq hU'.1) (vx_isRefq hN'.1) hU'.2.word hN'.2.word
  have hown' : s'.vm.findClass own = some m.cls := by rw [hvm]; exact hown
  have hins : (Cond.instantiable cls 6).before args s' = true := h _ (by simp [Bundle.ownAtoms])
  obtain ⟨vm₁, cX, kX, hfX, hkX, -, -, X₁, st1⟩ := Y.newCold hexec (own := own) (C := cls) (index := ik) (n := 6) hown' hk' hins hini'
    (g := F0 m pc ls rest) rfl (by rw [hb]; exact d0) (Nat.le_refl _) (Nat.le_refl _)
  generalize hT1 : (T.setVm vm₁).pushCell { cls := cX, slots := kX.instanceTypes.map defaultValue, vm := .none } = T1 at X₁ st1
  have hcat : (Value.ref T.heap.size).category = 1 := rfl
  have hcellA : T1.heap[T.heap.size]? = some (freshCell cX kX) := by rw [← hT1]; exact State.heap_pushCell_size _ _
  have d3' : decode c.code (pc + 3) = .ok (.dup, 1) := by rw [hb]; exact d3
  have d4' : decode c.code (pc + 4) = .ok (.ldc_w is, 3) := by rw [hb]; exact d4
  have hstr' : vk_R own is text sa s' := vk_R.warm hW0 hstr
  obtain ⟨U, hsteps, hrun, hend, hW, hsame, ce, hce, hO⟩ := X₁.ctorThrowS hexec htr (own := own) (cls := cls) (names := names) (ic := ic) hown' hcls hnames h (fun x hx => nomatch hx) hfX hkX hcellA (by rw [hhp, hT]; exact Nat.le_refl _) (msg := .ref sa) rfl
    (g := { method := m, pc := pc + 7, locals := ls, stack := .ref sa :: .ref T.heap.size :: .ref T.heap.size :: rest, locked := none }) rfl hsize rfl rfl (rest := rest) rfl
    (by rw [hb]; exact d7) (by rw [hb]; exact d10) hout hRframes (by simp only [List.map_cons, List.sum_cons, hcat]; omega) hlocks
  obtain ⟨f1, f2⟩ := vx_frame hsame
  rw [hhp] at f1 f2
  have hWs : s.WarmedH U.vm := State.WarmedH.trans hW0 hW
  have hcl : s.vm.findClass cls = some ce.cls := by
    have h9 := hO.cls
    rw [hvm] at h9
    exact h9
  have hall : s.sameButNew ({ U with vm := s.vm } : State) locs mc ms := by
    subst hA
    obtain ⟨e1, e2⟩ := hsame
    rw [State.setFrames_setFrames] at e1
    have h2 : (T.setVm s.vm).sameButNew ({ U with vm := s.vm } : State) [] (0 + 1) (0 + 6) := ⟨e1, e2⟩
    have h3 := X.same.trans h2
    rw [List.append_nil] at h3
    exact h3.mono hc hs
  refine ⟨U, ?_, .threw T.heap.size, hrun, hend, Or.inr ⟨T.heap.size, rfl, cls, ce, locs, hx U hWs.alike f1 (fun q hq => f2 q hq (fun z hz => nomatch hz)), hce, hO.vm, hcl, hWs, hall, hf⟩⟩
  refine st1 _ ?_
  show Steps p.tables e below (T1.setTop { method := m, pc := pc + 3, locals := ls, stack := .ref T.heap.size :: rest, locked := none }) _
  jvm_step X₁.here [X₁.here.top, hexec, d3', Value.category]
  exact X₁.ldcStringW hexec (own := own) (text := text) (index := is) (a := sa) hown' hstr'.1 hstr'.2
    (g := { method := m, pc := pc + 4, locals := ls, stack := .ref T.heap.size :: .ref T.heap.size :: rest, locked := none }) rfl d4' _ hsteps
end Ends
section Bodies
variable {l : Launch}
theorem vx_ofW {y : MethodName} {ws ws' : List Cond} {rm : Room} {Pc : Array Value → State → Prop} {Qc : Array Value → State → Outcome → State → Prop} {XC : String → State → State → Prop} {mc ms : Nat} {free : Addr → Prop} {cc : ByteArray} {maxL : Nat} {ret : Option FieldType}
    (hy : plainName y.cls = true) (hw : ws = Cond.code y cc maxL ret :: ws')
    (body : ∀ p e s m args below meth c s₁, BodyLoose p l y (headSpec ws rm) cc maxL ret e s m args below meth c s₁ → c.maxLocals = maxL → (∀ x ∈ c.exceptionTable.toList, False) → Pc args s →
      W p l e (headSpec ws rm).room s m args below meth c s.heap [] 0 0 (vx_MQ below Qc XC args s mc ms free) (entryFrame m args maxL)) : vx_Met l y ws rm Pc Qc XC mc ms free := by
  refine MetFree.of_bodyS (code := cc) (maxLocals := maxL) (ret := ret) hy ?_ ?_
  · intro args s m h hn
    obtain ⟨meth, c, h1, h2, h3, h4, h5, h6, -, -⟩ := Cond.code_spec hn (atoms_spec (ws := ws) h _ (by rw [hw]; exact List.mem_cons_self))
    exact ⟨meth, c, h1, h2, h3, h4, h5, h6⟩
  · intro p e s m args below meth c s₁ B hml hP _
    have hh0 : s₁.heap = s.heap := by rw [B.state]; rfl
    have ht : ∀ x ∈ c.exceptionTable.toList, False := by
      obtain ⟨meth9, c9, h1, h2, -, -, -, -, h7, -⟩ := Cond.code_spec B.named (atoms_spec (ws := ws) B.pre _ (by rw [hw]; exact List.mem_cons_self))
      cases Option.some.inj (h1.symm.trans B.method)
      cases Option.some.inj (h2.symm.trans (Stand.of_body B).code)
      intro x hx
      rw [Array.isEmpty_iff.mp h7] at hx
      cases hx
    obtain ⟨t, a1, o, b1, b2, b3⟩ := body p e s m args below meth c s₁ B hml ht hP s₁ hh0 (Stand.of_body B)
    exact ⟨t, o, a1, b1, b2, b3⟩
/-- the table of a body with handlers -/
theorem vx_table {p : Program} {x y : MethodName} {S : Spec} {cc bytes : ByteArray} {maxL maxL' : Nat} {ret ret' : Option FieldType} {e : Env} {s s₁ : State} {m : MethodId} {args : Array Value} {below : List Frame} {meth : Method} {c : Code} {hh : List (Nat × Nat × Nat × Nat)}
    (B : BodyLoose p l y S cc maxL ret e s m args below meth c s₁) (h : (Cond.codeWith y bytes maxL' ret' hh).before args s = true) : c.exceptionTable.toList = tableOf hh := by
  obtain ⟨m9, meth9, c9, hn9, h1, h2, -, -, h6, -⟩ := Cond.codeWith_spec h
  cases Option.some.inj (hn9.symm.trans B.named)
  cases Option.some.inj (h1.symm.trans B.method)
  cases Option.some.inj (h2.symm.trans (Stand.of_body B).code)
  rw [← h6, table_eq]
end Bodies
end VXA
/-! ===== END ===== -/
/-! ===== BEGIN a static call of a method with an exception table ===== -/
section VXS
variable {p : Program} {l : Launch} {e : Env} {R : Room} {s : State} {m : MethodId} {args : Array Value} {below : List Frame} {meth : Method} {c : Code} {T : State} {H : Heap} {locs : List Loc} {cells slots : Nat}
abbrev vx_CSW (R : Room) (s : State) (args : Array Value) (own : String) (index : Nat) (y : MethodName) (bytes : ByteArray) (maxL : Nat) (ret : Option FieldType) (hh : List (Nat × Nat × Nat × Nat)) (ws : List Cond) (rm : Room) (mc ms n : Nat) : Prop :=
  (rm.cells = mc ∧ rm.slots = ms ∧ rm.frames + 1 ≤ R.frames ∧ 8 + (maxL + 11) + rm.locals ≤ R.locals ∧ (∀ w ∈ ws, ∀ (a' : Array Value) (U : State), s.WarmedH U.vm → w.before a' U = true) ∧ Cond.codeWith y bytes maxL ret hh ∈ ws) ∧
  (Cond.codeWith y bytes maxL ret hh).before args s = true ∧ (Cond.initialized y.cls).before args s = true ∧ (y.cls ≠ "java/lang/invoke/MethodHandle" ∧ y.cls ≠ "java/lang/invoke/VarHandle") ∧
  (∀ sig, parseMethodDescriptor y.desc = some sig → n = sig.parameters.length) ∧ (Cond.methodLink own index y).before args s = true ∧ (Cond.static y).before args s = true
theorem vx_cwSW {own : String} {index maxL mc ms : Nat} {y : MethodName} {bytes : ByteArray} {ret : Option FieldType} {hh : List (Nat × Nat × Nat × Nat)} {Ts ws ws' : List Cond} {rm : Room} (n : Nat) (ht : ∀ w ∈ Ts, w.before args s = true) (hT : GoodIn Ts (va_wsS own index y ws)) (hw : ws = Cond.codeWith y bytes maxL ret hh :: ws') (hrc : rm.cells = mc) (hrs : rm.slots = ms)
    (hd : y.cls ≠ "java/lang/invoke/MethodHandle" ∧ y.cls ≠ "java/lang/invoke/VarHandle" ∧ (parseMethodDescriptor y.desc).map (fun d => d.parameters.length) = some n) (hR : rm.frames + 1 ≤ R.frames ∧ 8 + (maxL + 11) + rm.locals ≤ R.locals) :
    vx_CSW R s args own index y bytes maxL ret hh ws rm mc ms n := by
  have ok : ∀ w ∈ va_wsS own index y ws, w.before args s = true := fun w h => ht w (hT w h).1
  have hG : GoodIn Ts ws := fun w h => hT w (by unfold va_wsS; exact List.mem_append_right _ h)
  have hc : Cond.codeWith y bytes maxL ret hh ∈ ws := by rw [hw]; exact List.mem_cons_self
  refine ⟨⟨hrc, hrs, hR.1, hR.2, pay_in ht hG, hc⟩, ht _ (hG _ hc).1, ok _ (by simp [va_wsS]), ⟨hd.1, hd.2.1⟩, fun sig h => ?_, ok _ (by simp [va_wsS]), ok _ (by simp [va_wsS])⟩
  have h2 := hd.2.2
  rw [h] at h2
  exact (Option.some.inj h2).symm
theorem vx_callSW (X : Stand p l e R s m args below meth c T locs cells slots) (hexec : p.tables.exec = Jvm.exec) {own : String} {index : Nat} {y : MethodName} {bytes : ByteArray} {maxL : Nat} {ret : Option FieldType} {hh : List (Nat × Nat × Nat × Nat)}
    (hown : s.vm.findClass own = some m.cls) (hlink : (Cond.methodLink own index y).before args s = true) (hstat : (Cond.static y).before args s = true) (hinit : (Cond.initialized y.cls).before args s = true)
    (hcode : (Cond.codeWith y bytes maxL ret hh).before args s = true) (hy : y.cls ≠ "java/lang/invoke/MethodHandle" ∧ y.cls ≠ "java/lang/invoke/VarHandle")
    {W9 : Nat} {Pre : Pt → Array Value → Prop} {Post : Pt → Array Value → Option Value → Pt → Prop} (hK : Back l R p e below s args y 3 W9 Pre Post)
    {g : JFrame} (hg : g.method = m) (hsize : g.locals.size = c.maxLocals) {argsL rest : List Value} (hlen : ∀ sig, parseMethodDescriptor y.desc = some sig → argsL.length = sig.parameters.length)
    (hstack : g.stack = argsL.reverse ++ rest) (hW : 2 * g.monitorRoom + (rest.map fun v => v.category).sum ≤ W9) (hdg : decode c.code g.pc = .ok (.invokestatic index, 3))
    (hpre : ∀ vm₁, s.WarmedH vm₁ → Pre ⟨T.setVm vm₁, locs, cells, slots⟩ argsL.toArray) :
    ∃ (v : Option Value) (vm₁ : Vm) (B : Pt), s.WarmedH vm₁ ∧ Stand p l e R s m args below meth c B.U B.locs B.cells B.slots ∧ Post ⟨T.setVm vm₁, locs, cells, slots⟩ argsL.toArray v B ∧
      ∀ target, Steps p.tables e below (B.U.setTop { g with pc := g.pc + 3, stack := v.toList ++ rest }) target → Steps p.tables e below (T.setTop g) target := by
  obtain ⟨mk, methM, cM, hnamed, hmethM, -, -, -, -, -, -, hsigM⟩ := Cond.codeWith_spec hcode
  have hstatic : methM.isStatic = true := Cond.static_spec hnamed hmethM hstat
  obtain ⟨kP, hkP, -⟩ := className_of_methodNamed hnamed
  have hinitP : kP.init = .initialized := Cond.initialized_spec (findClass_of_methodNamed hnamed) hkP hinit
  obtain ⟨vm₁, X₁, hstep₁⟩ := X.invokestatic hexec hown hlink hnamed hmethM hstatic hkP hinitP hy (g := g) hg (argsL := argsL) (rest := rest) (hlen _ hsigM) hstack hdg
  obtain ⟨v, B, X', hpost, hsteps⟩ := hK m meth c ⟨T.setVm vm₁, locs, cells, slots⟩ { g with stack := rest } (.invokestatic index) mk argsL.toArray X₁ hg hsize hdg hW (X₁.named hnamed) (hpre vm₁ X₁.warmed)
  exact ⟨v, vm₁, B, X₁.warmed, X', hpost, fun target h => hstep₁ _ fun acts => by rw [doInvoke_state]; exact hsteps.trans h⟩
theorem vx_runSW {y : MethodName} {bytes cc : ByteArray} {maxL nL mc ms n index : Nat} {ret : Option FieldType} {hh : List (Nat × Nat × Nat × Nat)} {ws : List Cond} {rm : Room} {Pc : Array Value → State → Prop} {Qc : Array Value → State → Outcome → State → Prop} {free : Addr → Prop} {Ts : List Cond} {own : String} {As rest : List Value} {g : JFrame}
    (S : CallFix p m c cc nL s args Ts own) (hM : Met l y ws rm Pc Qc mc ms free) (cw : vx_CSW R s args own index y bytes maxL ret hh ws rm mc ms n) (hp : PreS s H Pc As)
    (hg : g.method = m) (hn : As.length = n) (hsize : g.locals.size = nL) (hstack : g.stack = As.reverse ++ rest) (hW : 2 * g.monitorRoom + (rest.map fun v => v.category).sum ≤ 8) (hdg : decode cc g.pc = .ok (.invokestatic index, 3)) (hf : cells + mc ≤ R.cells ∧ slots + ms ≤ R.slots) :
    va_Run p l e R s m args below meth c H locs cells slots mc ms g rest (Qc As.toArray) (free) := by
  obtain ⟨⟨hrc, hrs, hfr, hlo, hws, hcw⟩, hcode, hini, hy, hlen, hl, hstt⟩ := cw
  have hK : Back l R p e below s args y 3 8 (PreOf R mc ms Pc) (PostOf Qc mc ms free) := va_backW (hh := hh) (bytes := bytes) (maxL := maxL) (ret := ret) hM hp.1 hrc hrs hfr hlo hws hcw (fun a' U hW => word_at hW (Or.inl (by first | rfl | simp [Cond.onTables, Cond.keeps, Cond.steady])) hini)
  obtain ⟨hx, hb, hml, ho, -⟩ := S
  intro T hT X
  obtain ⟨v, vm₁, ⟨U', l2, c2, s2⟩, hW₁, X', ⟨g', mk, t, L, e1, e2, hq, h1, hL, h2, h3⟩, st⟩ := vx_callSW X hx (hh := hh) (bytes := bytes) (maxL := maxL) (ret := ret) ho hl hstt hini hcode hy hK hg (hsize.trans hml.symm) (argsL := As) (rest := rest) (fun sig h => hn.trans (hlen sig h)) hstack hW (by rw [hb]; exact hdg)
    (fun vm₁ hW₁ => ⟨hf.1, hf.2, hp.2 (T.setVm vm₁) hT hW₁⟩)
  dsimp only [Pt.U, Pt.locs, Pt.cells, Pt.slots] at X' e1 e2 h1 h2 h3 st
  subst h1; subst h2; subst h3
  exact ⟨v, (T.setVm vm₁).calling g' mk As.toArray, t, U', L, hT, X', hL, e1, e2, hq, st⟩
/-- not caught here, past rows that name other classes: it goes on to the caller -/
theorem vx_outP {p : Program} {l : Launch} {e : Env} {R : Room} {s : State} {m : MethodId} {args : Array Value} {below : List Frame} {meth : Method} {c : Code} {H : Heap} {locs : List Loc} {cells slots : Nat} {free : Addr → Prop} {ls : Array Slot} {rest : List Value} {Qc : Array Value → State → Outcome → State → Prop} {XC : String → State → State → Prop}
    {pc : Nat} {own E : String} {ce : Cell} {q : Addr} {mc ms : Nat} (hown : s.vm.findClass own = some m.cls) (hlocks : meth.locks = false)
    (hpass : ∀ z ∈ c.exceptionTable.toList, covers z pc = false ∨ (z.catchType ≠ 0 ∧ ∃ nm : String, (Cond.classLink own z.catchType nm).before args s = true ∧ va_Nc E nm s)) (hcell : H[q]? = some ce) (hv : ce.vm = .none) (hcl : s.vm.findClass E = some ce.cls)
    (hx : ∀ t : State, t.heap = H → s.vm.Alike t.vm → XC E s t) (hf : ∀ z ∈ locs, free z.base) (hc : cells ≤ mc) (hs : slots ≤ ms) :
    vx_W p l e R s m args below meth c H locs cells slots (vx_MQ below Qc XC args s mc ms free) (F0 m pc ls rest) q := by
  intro T hT X
  have hpl : e.platform.magicAccessors = ({} : Platform).magicAccessors := by rw [X.admits.platform]
  obtain ⟨vm', hW', X', st⟩ := X.outThrough hlocks q (g := F0 m pc ls rest) rfl rfl rfl (cell := ce) (by rw [hT]; exact hcell) (by rw [hv]; rfl)
    (by obtain ⟨k9, h9, -⟩ := Vm.findClass_spec hcl; exact ⟨k9, h9⟩) (fun z hz => by
      rcases hpass z hz with h | ⟨hz0, nm, hl1, hn1⟩
      · exact Or.inl h
      · obtain ⟨c6, hc6, hcl6⟩ := Cond.classLink_spec hown hl1 e.platform hpl
        obtain ⟨a8, b8, h1, h2, h3⟩ := hn1
        cases Option.some.inj (h1.symm.trans hcl)
        cases Option.some.inj (h2.symm.trans hc6)
        exact Or.inr ⟨hz0, _, hcl6, h3⟩)
  obtain ⟨g₀, hfr⟩ := X'.frames_eq
  have hcell9 : ((T.setVm vm').setFrames (.throwing q :: below)).heap[q]? = some ce := by
    show T.heap[q]? = some ce
    rw [hT]; exact hcell
  have hend : Ended ((T.setVm vm').setFrames (.throwing q :: below)) below (.threw q) := State.frames_setFrames _ (State.cur_lt_of_frames hfr)
  refine ⟨(T.setVm vm').setFrames (.throwing q :: below), ?_, .threw q, X'.here.running, hend, Or.inr ⟨q, rfl, E, ce, locs, hx _ hT (X'.ends _).1.alike, hcell9, hv, hcl, (X'.ends _).1, (X'.ends _).2.mono hc hs, hf⟩⟩
  rw [X.pushThrowing_eq]
  exact st
/-- a thing of a world lies in the heap -/
theorem vx_lt {D : va_G} {cl : List vw_C} {ws : va_W} {H1 : Heap} (h : va_P D cl ws H1) {k : Nat} {q : Nat × va_E} (hk : ws[k]? = some q) : q.1 < H1.size := (h k q hk).lt
end VXS
/-! ===== END ===== -/
/-! ===== BEGIN methods with a table of their own: called by a name, returning or throwing ===== -/
section VXH
/-! vx_backW, vx_callVX, vx_callSX, vx_callVW, vx_runVW, vx_runVX, vx_runSX, vx_ofWH follow the same proofs as their sisters above (Free/Laws.lean, Shelf42/LK1.lean); vx_outP calls Shelf42/NT130.lean (outThrough). -/
section
variable {l : Launch} {R : Room} {p : Program} {e : Env} {below : List Frame} {s : State} {sargs : Array Value} {y : MethodName} {len W9 : Nat}
theorem vx_backW {ws : List Cond} {rm : Room} {Pc : Array Value → State → Prop} {Qc : Array Value → State → Outcome → State → Prop} {XC : String → State → State → Prop} {mc ms : Nat} {free : Addr → Prop} {bytes : ByteArray} {maxL : Nat} {ret : Option FieldType} {hh : List (Nat × Nat × Nat × Nat)}
    (hM : vx_Met l y ws rm Pc Qc XC mc ms free) (hblind : FrameBlind Pc) (hrc : rm.cells = mc) (hrs : rm.slots = ms)
    (hframes : rm.frames + 1 ≤ R.frames) (hlocals : W9 + (maxL + 11) + rm.locals ≤ R.locals)
    (hws : ∀ w ∈ ws, ∀ a' U, s.WarmedH U.vm → w.before a' U = true) (hcode : Cond.codeWith y bytes maxL ret hh ∈ ws) (hinit : ∀ a' U, s.WarmedH U.vm → (Cond.initialized y.cls).before a' U = true) :
    vx_Back l R p e below s sargs y len W9 (PreOf R mc ms Pc) (PostOf Qc mc ms free) (vx_Post XC mc ms free) := by
  intro m meth c A g ig mk a X hg hsize hdg hW hn hp
  have h1 : (headSpec ws rm).pre.before a A.U = true := atoms_intro fun w hw => hws w hw _ _ X.warmed
  have h2 : (Cond.codeWith y bytes maxL ret hh).before a A.U = true := hws _ hcode _ _ X.warmed
  have h3 : (Cond.initialized y.cls).before a A.U = true := hinit _ _ X.warmed
  have h4 : A.cells + (headSpec ws rm).room.cells ≤ R.cells := by rw [show (headSpec ws rm).room.cells = mc from hrc]; exact hp.1
  have h5 : A.slots + (headSpec ws rm).room.slots ≤ R.slots := by rw [show (headSpec ws rm).room.slots = ms from hrs]; exact hp.2.1
  have hPc : Pc a (A.U.calling g mk a) := hblind _ _ _ _ hp.2.2
  obtain ⟨U, Ls, c0, s0⟩ := A
  dsimp only [Pt.U, Pt.locs, Pt.cells, Pt.slots] at h1 h2 h3 h4 h5 X hn hPc ⊢
  obtain ⟨m9, methY, cY, hn9, hmY, hcY, -, hlY, -⟩ := Cond.codeWith_spec h2
  cases Option.some.inj (hn9.symm.trans hn)
  obtain ⟨kY, hkY, -⟩ := className_of_methodNamed hn
  have hinitY : kY.init = .initialized := Cond.initialized_spec (findClass_of_methodNamed hn) hkY h3
  have h : At U g.method c below := by rw [hg]; exact X.here
  have hlocals9 : W9 + (maxL + 11) + (headSpec ws rm).room.locals ≤ R.locals := hlocals
  have happ : (headSpec ws rm).appliesLoose y e.platform (U.calling g mk a) = true :=
    Spec.appliesLoose_calling (g := g) h hdg hn hkY hinitY
      (X.room_calling (g := g) (R' := (headSpec ws rm).room) hsize hmY hcY hframes (by rw [hlY]; omega) h4 h5) h1
  obtain ⟨mid, hmid⟩ := h.above
  have hfr : (U.setTop g).frames = (.java g :: mid) ++ below := by rw [State.frames_setTop' g h.top, hmid]; rfl
  obtain ⟨o, s₂, hsteps, -, hend, hq⟩ := Steps.callFree hM p X.admits X.cas X.clock (acts := []) hfr happ hPc trivial
  have hq' : vx_Q Qc XC mc ms free a (U.calling g mk a) o s₂ := hq
  rw [State.frames_setTop' g h.top] at hend
  obtain ⟨g₀, hg0⟩ := Option.isSome_iff_exists.mp h.top
  obtain ⟨r, hr⟩ := State.topJava?_eq_some.mp hg0
  have hr' : (({ U with heap := s₂.heap, slotsUsed := s₂.slotsUsed } : State).setVm s₂.vm).frames = .java g₀ :: r := hr
  rcases hq' with ⟨hqc, L, hfe, hL⟩ | ⟨q, rfl, E, ce, L, hx, hce, hcv, hcl, hW₂, hsm, hL⟩
  · obtain ⟨⟨v, rfl⟩, hW₂, e2, q2, q3, q4, q5, q6⟩ := id hfe
    have e3 : s₂ = ({ (U.calling g mk a).setFrames s₂.frames with heap := s₂.heap, slotsUsed := s₂.slotsUsed } : State).setVm s₂.vm := by
      have : s₂ = ({ s₂ with vm := (U.calling g mk a).vm } : State).setVm s₂.vm := rfl
      rw [e2] at this
      exact this
    obtain ⟨c₂, i₂, len₂, hc₂, hd₂, hf₂⟩ := hend
    have hW' : U.WarmedH s₂.vm := hW₂
    have hcc : c₂ = c := by
      have h1 : s₂.code? g.method = U.code? g.method := by
        rw [State.code?_eq, State.code?_eq, hW'.alike.method?]
      exact Option.some.inj (hc₂.symm.trans (h1.trans h.code))
    subst hcc
    have hlen : len₂ = len := by rw [hdg] at hd₂; cases hd₂; rfl
    subst hlen
    have hs₂ : s₂ = (({ U with heap := s₂.heap, slotsUsed := s₂.slotsUsed } : State).setVm s₂.vm).setTop { g with pc := g.pc + len₂, stack := v.toList ++ g.stack } := by
      refine e3.trans ?_
      rw [hf₂, State.calling_eq h.top, State.setFrames_setFrames, State.setTop_of_frames _ hr', hr]
      rfl
    have hsame : U.sameButNew ({ U with heap := s₂.heap, slotsUsed := s₂.slotsUsed } : State) L mc ms := by
      refine ⟨?_, q2, q3, q4, q5, q6⟩
      obtain ⟨t, ht, -⟩ := State.frames_cons hr
      show ({ U with heap := s₂.heap, slotsUsed := s₂.slotsUsed } : State) = { U.setFrames U.frames with heap := s₂.heap, slotsUsed := s₂.slotsUsed }
      rw [State.setFrames_self ht]
    subst hg
    refine Or.inl ⟨v, ⟨(({ U with heap := s₂.heap, slotsUsed := s₂.slotsUsed } : State).setVm s₂.vm), Ls ++ L, c0 + mc, s0 + ms⟩,
      ⟨X.admits, X.cas, X.clock, X.frames, X.room, X.hears, X.method, X.code, (X.here.setHeapUsed s₂.heap s₂.slotsUsed).setVm hW'.alike, X.tail, State.WarmedH.trans X.warmed hW', X.limits, X.bytes, X.same.trans (hsame.setVm s.vm)⟩,
      ⟨g, mk, s₂, L, rfl, rfl, hqc, rfl, hL, rfl, rfl⟩, ?_⟩
    show Steps p.tables e below _ ((({ U with heap := s₂.heap, slotsUsed := s₂.slotsUsed } : State).setVm s₂.vm).setTop { g with pc := g.pc + len₂, stack := v.toList ++ g.stack })
    rw [← hs₂]
    exact hsteps
  · obtain ⟨e2, q2, q3, q4, q5, q6⟩ := id hsm
    have e3 : s₂ = ({ (U.calling g mk a).setFrames s₂.frames with heap := s₂.heap, slotsUsed := s₂.slotsUsed } : State).setVm s₂.vm := by
      have : s₂ = ({ s₂ with vm := (U.calling g mk a).vm } : State).setVm s₂.vm := rfl
      rw [e2] at this
      exact this
    have hf₂ : s₂.frames = .throwing q :: .java g :: U.frames.tail := hend
    have hW' : U.WarmedH s₂.vm := hW₂
    have hs₂ : s₂ = ((({ U with heap := s₂.heap, slotsUsed := s₂.slotsUsed } : State).setVm s₂.vm).setTop g).pushFrame (.throwing q) := by
      refine e3.trans ?_
      rw [hf₂, State.calling_eq h.top, State.setFrames_setFrames, State.pushFrame, State.frames_setTop _ hr', State.setTop_of_frames _ hr', State.setFrames_setFrames, hr]
      rfl
    have hsame : U.sameButNew ({ U with heap := s₂.heap, slotsUsed := s₂.slotsUsed } : State) L mc ms := by
      refine ⟨?_, q2, q3, q4, q5, q6⟩
      obtain ⟨t, ht, -⟩ := State.frames_cons hr
      show ({ U with heap := s₂.heap, slotsUsed := s₂.slotsUsed } : State) = { U.setFrames U.frames with heap := s₂.heap, slotsUsed := s₂.slotsUsed }
      rw [State.setFrames_self ht]
    subst hg
    refine Or.inr ⟨q, ⟨(({ U with heap := s₂.heap, slotsUsed := s₂.slotsUsed } : State).setVm s₂.vm), Ls ++ L, c0 + mc, s0 + ms⟩,
      ⟨X.admits, X.cas, X.clock, X.frames, X.room, X.hears, X.method, X.code, (X.here.setHeapUsed s₂.heap s₂.slotsUsed).setVm hW'.alike, X.tail, State.WarmedH.trans X.warmed hW', X.limits, X.bytes, X.same.trans (hsame.setVm s.vm)⟩,
      ⟨g, mk, s₂, L, E, ce, rfl, rfl, hx, hce, hcv, hcl, rfl, hL, rfl, rfl⟩, ?_⟩
    show Steps p.tables e below _ (((({ U with heap := s₂.heap, slotsUsed := s₂.slotsUsed } : State).setVm s₂.vm).setTop g).pushFrame (.throwing q))
    rw [← hs₂]
    exact hsteps
end
variable {p : Program} {l : Launch} {e : Env} {R : Room} {s : State} {m : MethodId} {args : Array Value} {below : List Frame} {meth : Method} {c : Code} {T : State} {H : Heap} {locs : List Loc} {cells slots : Nat}
theorem vx_callVX (X : Stand p l e R s m args below meth c T locs cells slots) (hexec : p.tables.exec = Jvm.exec) {own C : String} {index : Nat} {y : MethodName} {bytes : ByteArray} {maxL : Nat} {ret : Option FieldType} {hh : List (Nat × Nat × Nat × Nat)}
    (hown : s.vm.findClass own = some m.cls) (hlink : (Cond.methodLink own index y).before args s = true) (hinst : (Cond.instanceMethod y).before args s = true) (hsel : (Cond.selects C y y).before args s = true)
    (hcode : (Cond.codeWith y bytes maxL ret hh).before args s = true) (hy : y.cls ≠ "java/lang/invoke/MethodHandle" ∧ y.cls ≠ "java/lang/invoke/VarHandle")
    {W9 : Nat} {Pre : Pt → Array Value → Prop} {Post : Pt → Array Value → Option Value → Pt → Prop} {PostX : Pt → Array Value → Addr → Pt → Prop} (hK : vx_Back l R p e below s args y 3 W9 Pre Post PostX)
    {b : Addr} {cellB : Cell} (hcell : T.heap[b]? = some cellB) (hobj : cellB.vm.isStatics = false) (hcls : s.vm.findClass C = some cellB.cls)
    {g : JFrame} (hg : g.method = m) (hsize : g.locals.size = c.maxLocals) {argsL rest : List Value} (hlen : ∀ sig, parseMethodDescriptor y.desc = some sig → argsL.length = sig.parameters.length)
    (hstack : g.stack = argsL.reverse ++ .ref b :: rest) (hW : 2 * g.monitorRoom + (rest.map fun v => v.category).sum ≤ W9) (hdg : decode c.code g.pc = .ok (.invokevirtual index, 3))
    (hpre : ∀ vm₁, s.WarmedH vm₁ → Pre ⟨T.setVm vm₁, locs, cells, slots⟩ (Value.ref b :: argsL).toArray) :
    (∃ (v : Option Value) (vm₁ : Vm) (B : Pt), s.WarmedH vm₁ ∧ Stand p l e R s m args below meth c B.U B.locs B.cells B.slots ∧ Post ⟨T.setVm vm₁, locs, cells, slots⟩ (Value.ref b :: argsL).toArray v B ∧
      ∀ target, Steps p.tables e below (B.U.setTop { g with pc := g.pc + 3, stack := v.toList ++ rest }) target → Steps p.tables e below (T.setTop g) target) ∨
    (∃ (q : Addr) (vm₁ : Vm) (B : Pt), s.WarmedH vm₁ ∧ Stand p l e R s m args below meth c B.U B.locs B.cells B.slots ∧ PostX ⟨T.setVm vm₁, locs, cells, slots⟩ (Value.ref b :: argsL).toArray q B ∧
      Steps p.tables e below (T.setTop g) ((B.U.setTop { g with stack := rest }).pushFrame (.throwing q))) := by
  obtain ⟨mk, methM, hnamed, hmethM, hstM, habM⟩ := Cond.instanceMethod_spec hinst
  obtain ⟨m8, methM', cM, hn8, hmethM', -, -, -, -, -, -, hsigM⟩ := Cond.codeWith_spec hcode
  cases Option.some.inj (hn8.symm.trans hnamed)
  cases hmethM.symm.trans hmethM'
  obtain ⟨c2, r2, m2, q1, q2, q3, q4, kP, hkP, hkPi⟩ := Cond.selects_spec hsel
  cases hcls.symm.trans q1
  cases (State.methodFound?_of_named hnamed hy).symm.trans q2
  cases hnamed.symm.trans q3
  have hselP : selectMethod e.platform s.vm cellB.cls mk = .method mk := by rw [Launch.admits_selectMethod X.admits]; exact q4
  obtain ⟨vm₁, X₁, hstep₁⟩ := X.invokevirtual hexec hown hlink hnamed hmethM hstM hkP hkPi hy (a := b) (cell := cellB) hcell
    (fun z h => by rw [h] at hobj; cases hobj) hselP hmethM habM hkP hkPi (g := g) hg (argsL := argsL) (rest := rest) (hlen _ hsigM) hstack hdg
  rcases hK m meth c ⟨T.setVm vm₁, locs, cells, slots⟩ { g with stack := rest } (.invokevirtual index) mk (Value.ref b :: argsL).toArray X₁ hg hsize hdg hW (X₁.named hnamed) (hpre vm₁ X₁.warmed) with ⟨v, B, X', hpost, hsteps⟩ | ⟨q, B, X', hpost, hsteps⟩
  · exact Or.inl ⟨v, vm₁, B, X₁.warmed, X', hpost, fun target h => hstep₁ _ fun acts => by rw [doInvoke_state]; exact hsteps.trans h⟩
  · exact Or.inr ⟨q, vm₁, B, X₁.warmed, X', hpost, hstep₁ _ fun acts => by rw [doInvoke_state]; exact hsteps⟩
theorem vx_callSX (X : Stand p l e R s m args below meth c T locs cells slots) (hexec : p.tables.exec = Jvm.exec) {own : String} {index : Nat} {y : MethodName} {bytes : ByteArray} {maxL : Nat} {ret : Option FieldType} {hh : List (Nat × Nat × Nat × Nat)}
    (hown : s.vm.findClass own = some m.cls) (hlink : (Cond.methodLink own index y).before args s = true) (hstat : (Cond.static y).before args s = true) (hinit : (Cond.initialized y.cls).before args s = true)
    (hcode : (Cond.codeWith y bytes maxL ret hh).before args s = true) (hy : y.cls ≠ "java/lang/invoke/MethodHandle" ∧ y.cls ≠ "java/lang/invoke/VarHandle")
    {W9 : Nat} {Pre : Pt → Array Value → Prop} {Post : Pt → Array Value → Option Value → Pt → Prop} {PostX : Pt → Array Value → Addr → Pt → Prop} (hK : vx_Back l R p e below s args y 3 W9 Pre Post PostX)
    {g : JFrame} (hg : g.method = m) (hsize : g.locals.size = c.maxLocals) {argsL rest : List Value} (hlen : ∀ sig, parseMethodDescriptor y.desc = some sig → argsL.length = sig.parameters.length)
    (hstack : g.stack = argsL.reverse ++ rest) (hW : 2 * g.monitorRoom + (rest.map fun v => v.category).sum ≤ W9) (hdg : decode c.code g.pc = .ok (.invokestatic index, 3))
    (hpre : ∀ vm₁, s.WarmedH vm₁ → Pre ⟨T.setVm vm₁, locs, cells, slots⟩ argsL.toArray) :
    (∃ (v : Option Value) (vm₁ : Vm) (B : Pt), s.WarmedH vm₁ ∧ Stand p l e R s m args below meth c B.U B.locs B.cells B.slots ∧ Post ⟨T.setVm vm₁, locs, cells, slots⟩ argsL.toArray v B ∧
      ∀ target, Steps p.tables e below (B.U.setTop { g with pc := g.pc + 3, stack := v.toList ++ rest }) target → Steps p.tables e below (T.setTop g) target) ∨
    (∃ (q : Addr) (vm₁ : Vm) (B : Pt), s.WarmedH vm₁ ∧ Stand p l e R s m args below meth c B.U B.locs B.cells B.slots ∧ PostX ⟨T.setVm vm₁, locs, cells, slots⟩ argsL.toArray q B ∧
      Steps p.tables e below (T.setTop g) ((B.U.setTop { g with stack := rest }).pushFrame (.throwing q))) := by
  obtain ⟨mk, methM, cM, hnamed, hmethM, -, -, -, -, -, -, hsigM⟩ := Cond.codeWith_spec hcode
  have hstatic : methM.isStatic = true := Cond.static_spec hnamed hmethM hstat
  obtain ⟨kP, hkP, -⟩ := className_of_methodNamed hnamed
  have hinitP : kP.init = .initialized := Cond.initialized_spec (findClass_of_methodNamed hnamed) hkP hinit
  obtain ⟨vm₁, X₁, hstep₁⟩ := X.invokestatic hexec hown hlink hnamed hmethM hstatic hkP hinitP hy (g := g) hg (argsL := argsL) (rest := rest) (hlen _ hsigM) hstack hdg
  rcases hK m meth c ⟨T.setVm vm₁, locs, cells, slots⟩ { g with stack := rest } (.invokestatic index) mk argsL.toArray X₁ hg hsize hdg hW (X₁.named hnamed) (hpre vm₁ X₁.warmed) with ⟨v, B, X', hpost, hsteps⟩ | ⟨q, B, X', hpost, hsteps⟩
  · exact Or.inl ⟨v, vm₁, B, X₁.warmed, X', hpost, fun target h => hstep₁ _ fun acts => by rw [doInvoke_state]; exact hsteps.trans h⟩
  · exact Or.inr ⟨q, vm₁, B, X₁.warmed, X', hpost, hstep₁ _ fun acts => by rw [doInvoke_state]; exact hsteps⟩
theorem vx_callVW (X : Stand p l e R s m args below meth c T locs cells slots) (hexec : p.tables.exec = Jvm.exec) {own C : String} {index : Nat} {y : MethodName} {bytes : ByteArray} {maxL : Nat} {ret : Option FieldType} {hh : List (Nat × Nat × Nat × Nat)}
    (hown : s.vm.findClass own = some m.cls) (hlink : (Cond.methodLink own index y).before args s = true) (hinst : (Cond.instanceMethod y).before args s = true) (hsel : (Cond.selects C y y).before args s = true)
    (hcode : (Cond.codeWith y bytes maxL ret hh).before args s = true) (hy : y.cls ≠ "java/lang/invoke/MethodHandle" ∧ y.cls ≠ "java/lang/invoke/VarHandle")
    {W9 : Nat} {Pre : Pt → Array Value → Prop} {Post : Pt → Array Value → Option Value → Pt → Prop} (hK : Back l R p e below s args y 3 W9 Pre Post)
    {b : Addr} {cellB : Cell} (hcell : T.heap[b]? = some cellB) (hobj : cellB.vm.isStatics = false) (hcls : s.vm.findClass C = some cellB.cls)
    {g : JFrame} (hg : g.method = m) (hsize : g.locals.size = c.maxLocals) {argsL rest : List Value} (hlen : ∀ sig, parseMethodDescriptor y.desc = some sig → argsL.length = sig.parameters.length)
    (hstack : g.stack = argsL.reverse ++ .ref b :: rest) (hW : 2 * g.monitorRoom + (rest.map fun v => v.category).sum ≤ W9) (hdg : decode c.code g.pc = .ok (.invokevirtual index, 3))
    (hpre : ∀ vm₁, s.WarmedH vm₁ → Pre ⟨T.setVm vm₁, locs, cells, slots⟩ (Value.ref b :: argsL).toArray) :
    ∃ (v : Option Value) (vm₁ : Vm) (B : Pt), s.WarmedH vm₁ ∧ Stand p l e R s m args below meth c B.U B.locs B.cells B.slots ∧ Post ⟨T.setVm vm₁, locs, cells, slots⟩ (Value.ref b :: argsL).toArray v B ∧
      ∀ target, Steps p.tables e below (B.U.setTop { g with pc := g.pc + 3, stack := v.toList ++ rest }) target → Steps p.tables e below (T.setTop g) target := by
  obtain ⟨mk, methM, hnamed, hmethM, hstM, habM⟩ := Cond.instanceMethod_spec hinst
  obtain ⟨m8, methM', cM, hn8, hmethM', -, -, -, -, -, -, hsigM⟩ := Cond.codeWith_spec hcode
  cases Option.some.inj (hn8.symm.trans hnamed)
  cases hmethM.symm.trans hmethM'
  obtain ⟨c2, r2, m2, q1, q2, q3, q4, kP, hkP, hkPi⟩ := Cond.selects_spec hsel
  cases hcls.symm.trans q1
  cases (State.methodFound?_of_named hnamed hy).symm.trans q2
  cases hnamed.symm.trans q3
  have hselP : selectMethod e.platform s.vm cellB.cls mk = .method mk := by rw [Launch.admits_selectMethod X.admits]; exact q4
  obtain ⟨vm₁, X₁, hstep₁⟩ := X.invokevirtual hexec hown hlink hnamed hmethM hstM hkP hkPi hy (a := b) (cell := cellB) hcell
    (fun z h => by rw [h] at hobj; cases hobj) hselP hmethM habM hkP hkPi (g := g) hg (argsL := argsL) (rest := rest) (hlen _ hsigM) hstack hdg
  obtain ⟨v, B, X', hpost, hsteps⟩ := hK m meth c ⟨T.setVm vm₁, locs, cells, slots⟩ { g with stack := rest } (.invokevirtual index) mk (Value.ref b :: argsL).toArray X₁ hg hsize hdg hW (X₁.named hnamed) (hpre vm₁ X₁.warmed)
  exact ⟨v, vm₁, B, X₁.warmed, X', hpost, fun target h => hstep₁ _ fun acts => by rw [doInvoke_state]; exact hsteps.trans h⟩
abbrev vx_CVW (R : Room) (s : State) (args : Array Value) (own C : String) (index : Nat) (y : MethodName) (bytes : ByteArray) (maxL : Nat) (ret : Option FieldType) (hh : List (Nat × Nat × Nat × Nat)) (ws : List Cond) (rm : Room) (mc ms n : Nat) : Prop :=
  (rm.cells = mc ∧ rm.slots = ms ∧ rm.frames + 1 ≤ R.frames ∧ 8 + (maxL + 11) + rm.locals ≤ R.locals ∧ (∀ w ∈ ws, ∀ (a' : Array Value) (U : State), s.WarmedH U.vm → w.before a' U = true) ∧ Cond.codeWith y bytes maxL ret hh ∈ ws) ∧
  (Cond.codeWith y bytes maxL ret hh).before args s = true ∧ (Cond.initialized y.cls).before args s = true ∧ (y.cls ≠ "java/lang/invoke/MethodHandle" ∧ y.cls ≠ "java/lang/invoke/VarHandle") ∧
  (∀ sig, parseMethodDescriptor y.desc = some sig → n = sig.parameters.length) ∧ (Cond.methodLink own index y).before args s = true ∧ (Cond.instanceMethod y).before args s = true ∧ (Cond.selects C y y).before args s = true
theorem vx_cwVW {own C : String} {index maxL mc ms : Nat} {y : MethodName} {bytes : ByteArray} {ret : Option FieldType} {hh : List (Nat × Nat × Nat × Nat)} {Ts ws ws' : List Cond} {rm : Room} (n : Nat) (ht : ∀ w ∈ Ts, w.before args s = true) (hT : GoodIn Ts (wsV own index C y ws)) (hw : ws = Cond.codeWith y bytes maxL ret hh :: ws') (hrc : rm.cells = mc) (hrs : rm.slots = ms)
    (hd : y.cls = C ∧ y.cls ≠ "java/lang/invoke/MethodHandle" ∧ y.cls ≠ "java/lang/invoke/VarHandle" ∧ (parseMethodDescriptor y.desc).map (fun d => d.parameters.length) = some n) (hR : rm.frames + 1 ≤ R.frames ∧ 8 + (maxL + 11) + rm.locals ≤ R.locals) :
    vx_CVW R s args own C index y bytes maxL ret hh ws rm mc ms n := by
  obtain ⟨hC, hd⟩ := hd
  subst hC
  have ok : ∀ w ∈ wsV own index y.cls y ws, w.before args s = true := fun w h => ht w (hT w h).1
  have hG : GoodIn Ts ws := fun w h => hT w (by unfold wsV; exact List.mem_append_right _ h)
  have hc : Cond.codeWith y bytes maxL ret hh ∈ ws := by rw [hw]; exact List.mem_cons_self
  refine ⟨⟨hrc, hrs, hR.1, hR.2, pay_in ht hG, hc⟩, ht _ (hG _ hc).1, ok _ (by simp [wsV]), ⟨hd.1, hd.2.1⟩, fun sig h => ?_, ok _ (by simp [wsV]), ok _ (by simp [wsV]), ok _ (by simp [wsV])⟩
  have h2 := hd.2.2
  rw [h] at h2
  exact (Option.some.inj h2).symm
theorem vx_runVW {y : MethodName} {bytes cc : ByteArray} {maxL nL mc ms n index : Nat} {ret : Option FieldType} {hh : List (Nat × Nat × Nat × Nat)} {ws : List Cond} {rm : Room} {Pc : Array Value → State → Prop} {Qc : Array Value → State → Outcome → State → Prop} {free : Addr → Prop} {Ts : List Cond} {own C : String} {b : Addr} {As rest : List Value} {g : JFrame}
    (S : CallFix p m c cc nL s args Ts own) (hM : Met l y ws rm Pc Qc mc ms free) (cw : vx_CVW R s args own C index y bytes maxL ret hh ws rm mc ms n) (hp : PreV s H C b Pc As)
    (hg : g.method = m) (hn : As.length = n) (hsize : g.locals.size = nL) (hstack : g.stack = As.reverse ++ .ref b :: rest) (hW : 2 * g.monitorRoom + (rest.map fun v => v.category).sum ≤ 8) (hdg : decode cc g.pc = .ok (.invokevirtual index, 3)) (hf : cells + mc ≤ R.cells ∧ slots + ms ≤ R.slots) :
    va_Run p l e R s m args below meth c H locs cells slots mc ms g rest (Qc (Value.ref b :: As).toArray) free := by
  obtain ⟨⟨hrc, hrs, hfr, hlo, hws, hcw⟩, hcode, hini, hy, hlen, hl, hin, hse⟩ := cw
  have hK : Back l R p e below s args y 3 8 (PreOf R mc ms Pc) (PostOf Qc mc ms free) := va_backW (hh := hh) (bytes := bytes) (maxL := maxL) (ret := ret) hM hp.1 hrc hrs hfr hlo hws hcw (fun a' U hW => word_at hW (Or.inl (by first | rfl | simp [Cond.onTables, Cond.keeps, Cond.steady])) hini)
  obtain ⟨hx, hb, hml, ho, -⟩ := S
  obtain ⟨-, ⟨cellB, hcB, hoB, hclB⟩, hPc⟩ := hp
  intro T hT X
  obtain ⟨v, vm₁, ⟨U', l2, c2, s2⟩, hW₁, X', ⟨g', mk, t, L, e1, e2, hq, h1, hL, h2, h3⟩, st⟩ := vx_callVW X hx (C := C) (hh := hh) (bytes := bytes) (maxL := maxL) (ret := ret) ho hl hin hse hcode hy hK (by rw [hT]; exact hcB) hoB hclB hg (hsize.trans hml.symm) (argsL := As) (rest := rest) (fun sig h => hn.trans (hlen sig h)) hstack hW (by rw [hb]; exact hdg)
    (fun vm₁ hW₁ => ⟨hf.1, hf.2, hPc (T.setVm vm₁) hT hW₁⟩)
  dsimp only [Pt.U, Pt.locs, Pt.cells, Pt.slots] at X' e1 e2 h1 h2 h3 st
  subst h1; subst h2; subst h3
  exact ⟨v, (T.setVm vm₁).calling g' mk (Value.ref b :: As).toArray, t, U', L, hT, X', hL, e1, e2, hq, st⟩
section
variable {y : MethodName} {bytes cc : ByteArray} {maxL nL mc ms n index : Nat} {ret : Option FieldType} {ws : List Cond} {rm : Room} {Pc : Array Value → State → Prop} {Qc : Array Value → State → Outcome → State → Prop} {XC : String → State → State → Prop} {free : Addr → Prop} {Ts : List Cond} {own C : String} {b : Addr} {As rest : List Value} {g : JFrame}
theorem vx_runVX {hh : List (Nat × Nat × Nat × Nat)} (S : CallFix p m c cc nL s args Ts own) (hM : vx_Met l y ws rm Pc Qc XC mc ms free) (cw : vx_CVW R s args own C index y bytes maxL ret hh ws rm mc ms n) (hp : PreV s H C b Pc As)
    (hg : g.method = m) (hn : As.length = n) (hsize : g.locals.size = nL) (hstack : g.stack = As.reverse ++ .ref b :: rest) (hW : 2 * g.monitorRoom + (rest.map fun v => v.category).sum ≤ 8) (hdg : decode cc g.pc = .ok (.invokevirtual index, 3)) (hf : cells + mc ≤ R.cells ∧ slots + ms ≤ R.slots) :
    vx_Run p l e R s m args below meth c H locs cells slots mc ms g rest (Qc (Value.ref b :: As).toArray) XC free := by
  obtain ⟨⟨hrc, hrs, hfr, hlo, hws, hcw⟩, hcode, hini, hy, hlen, hl, hin, hse⟩ := cw
  have hK : vx_Back l R p e below s args y 3 8 (PreOf R mc ms Pc) (PostOf Qc mc ms free) (vx_Post XC mc ms free) := vx_backW (hh := hh) (bytes := bytes) (maxL := maxL) (ret := ret) hM hp.1 hrc hrs hfr hlo hws hcw (fun a' U hW => word_at hW (Or.inl (by first | rfl | simp [Cond.onTables, Cond.keeps, Cond.steady])) hini)
  obtain ⟨hx, hb, hml, ho, -⟩ := S
  obtain ⟨-, ⟨cellB, hcB, hoB, hclB⟩, hPc⟩ := hp
  intro T hT X
  rcases vx_callVX X hx (C := C) (hh := hh) (bytes := bytes) (maxL := maxL) (ret := ret) ho hl hin hse hcode hy hK (by rw [hT]; exact hcB) hoB hclB hg (hsize.trans hml.symm) (argsL := As) (rest := rest) (fun sig h => hn.trans (hlen sig h)) hstack hW (by rw [hb]; exact hdg)
    (fun vm₁ hW₁ => ⟨hf.1, hf.2, hPc (T.setVm vm₁) hT hW₁⟩) with ⟨v, vm₁, ⟨U', l2, c2, s2⟩, hW₁, X', ⟨g', mk, t, L, e1, e2, hq, h1, hL, h2, h3⟩, st⟩ | ⟨q, vm₁, ⟨U', l2, c2, s2⟩, hW₁, X', ⟨g', mk, t, L, E, ce, e1, e2, hq, hce, hcv, hcl, h1, hL, h2, h3⟩, st⟩
  · dsimp only [Pt.U, Pt.locs, Pt.cells, Pt.slots] at X' e1 e2 h1 h2 h3 st
    subst h1; subst h2; subst h3
    exact Or.inl ⟨v, (T.setVm vm₁).calling g' mk (Value.ref b :: As).toArray, t, U', L, hT, X', hL, e1, e2, hq, st⟩
  · dsimp only [Pt.U, Pt.locs, Pt.cells, Pt.slots] at X' e1 e2 h1 h2 h3 st hcl
    subst h1; subst h2; subst h3
    exact Or.inr ⟨q, (T.setVm vm₁).calling g' mk (Value.ref b :: As).toArray, t, U', L, E, ce, hT, X', hL, e1, e2, hq, hce, hcv, vx_cls hW₁ hcl, st⟩
theorem vx_runSX {hh : List (Nat × Nat × Nat × Nat)} (S : CallFix p m c cc nL s args Ts own) (hM : vx_Met l y ws rm Pc Qc XC mc ms free) (cw : vx_CSW R s args own index y bytes maxL ret hh ws rm mc ms n) (hp : PreS s H Pc As)
    (hg : g.method = m) (hn : As.length = n) (hsize : g.locals.size = nL) (hstack : g.stack = As.reverse ++ rest) (hW : 2 * g.monitorRoom + (rest.map fun v => v.category).sum ≤ 8) (hdg : decode cc g.pc = .ok (.invokestatic index, 3)) (hf : cells + mc ≤ R.cells ∧ slots + ms ≤ R.slots) :
    vx_Run p l e R s m args below meth c H locs cells slots mc ms g rest (Qc As.toArray) XC free := by
  obtain ⟨⟨hrc, hrs, hfr, hlo, hws, hcw⟩, hcode, hini, hy, hlen, hl, hstt⟩ := cw
  have hK : vx_Back l R p e below s args y 3 8 (PreOf R mc ms Pc) (PostOf Qc mc ms free) (vx_Post XC mc ms free) := vx_backW (hh := hh) (bytes := bytes) (maxL := maxL) (ret := ret) hM hp.1 hrc hrs hfr hlo hws hcw (fun a' U hW => word_at hW (Or.inl (by first | rfl | simp [Cond.onTables, Cond.keeps, Cond.steady])) hini)
  obtain ⟨hx, hb, hml, ho, -⟩ := S
  intro T hT X
  rcases vx_callSX X hx (hh := hh) (bytes := bytes) (maxL := maxL) (ret := ret) ho hl hstt hini hcode hy hK hg (hsize.trans hml.symm) (argsL := As) (rest := rest) (fun sig h => hn.trans (hlen sig h)) hstack hW (by rw [hb]; exact hdg)
    (fun vm₁ hW₁ => ⟨hf.1, hf.2, hp.2 (T.setVm vm₁) hT hW₁⟩) with ⟨v, vm₁, ⟨U', l2, c2, s2⟩, hW₁, X', ⟨g', mk, t, L, e1, e2, hq, h1, hL, h2, h3⟩, st⟩ | ⟨q, vm₁, ⟨U', l2, c2, s2⟩, hW₁, X', ⟨g', mk, t, L, E, ce, e1, e2, hq, hce, hcv, hcl, h1, hL, h2, h3⟩, st⟩
  · dsimp only [Pt.U, Pt.locs, Pt.cells, Pt.slots] at X' e1 e2 h1 h2 h3 st
    subst h1; subst h2; subst h3
    exact Or.inl ⟨v, (T.setVm vm₁).calling g' mk As.toArray, t, U', L, hT, X', hL, e1, e2, hq, st⟩
  · dsimp only [Pt.U, Pt.locs, Pt.cells, Pt.slots] at X' e1 e2 h1 h2 h3 st hcl
    subst h1; subst h2; subst h3
    exact Or.inr ⟨q, (T.setVm vm₁).calling g' mk As.toArray, t, U', L, E, ce, hT, X', hL, e1, e2, hq, hce, hcv, vx_cls hW₁ hcl, st⟩
end
end VXH
theorem vx_ofWH {l : Launch} {y : MethodName} {ws ws' : List Cond} {rm : Room} {Pc : Array Value → State → Prop} {Qc : Array Value → State → Outcome → State → Prop} {XC : String → State → State → Prop} {mc ms : Nat} {free : Addr → Prop} {cc : ByteArray} {maxL : Nat} {ret : Option FieldType} {hh : List (Nat × Nat × Nat × Nat)}
    (hy : plainName y.cls = true) (hw : ws = Cond.codeWith y cc maxL ret hh :: ws')
    (body : ∀ p e s m args below meth c s₁, BodyLoose p l y (headSpec ws rm) cc maxL ret e s m args below meth c s₁ → c.maxLocals = maxL → Pc args s →
      W p l e (headSpec ws rm).room s m args below meth c s.heap [] 0 0 (vx_MQ below Qc XC args s mc ms free) (entryFrame m args maxL)) : vx_Met l y ws rm Pc Qc XC mc ms free := by
  refine MetFree.of_bodyS (code := cc) (maxLocals := maxL) (ret := ret) hy ?_ ?_
  · intro args s m h hn
    obtain ⟨m9, meth, c, hn9, h1, h2, h3, h4, -, h5, h6, -⟩ := Cond.codeWith_spec (atoms_spec (ws := ws) h _ (by rw [hw]; exact List.mem_cons_self))
    cases hn.symm.trans hn9
    exact ⟨meth, c, h1, h2, h3, h4, h5, h6⟩
  · intro p e s m args below meth c s₁ B hml hP _
    have hh0 : s₁.heap = s.heap := by rw [B.state]; rfl
    obtain ⟨t, a1, o, b1, b2, b3⟩ := body p e s m args below meth c s₁ B hml hP s₁ hh0 (Stand.of_body B)
    exact ⟨t, o, a1, b1, b2, b3⟩
/-! ===== END ===== -/
/-! ===== BEGIN what the machine throws by itself, no traces kept ===== -/
section VXM
set_option maxHeartbeats 1000000 in
/-- the machine throws cls with the message text, no traces kept: from its note over the frame g to 'throwing' over the same frame (follows the proofs of Stand.vmThrowsMessage, Shelf/KitTracedVmS.lean, and Stand.throwsMessageColdBareV, StandMessageColdV.lean, without the step out of the frame) -/
theorem vx_vmAt {p : Program} {l : Launch} {e : Env} {R : Room} {s : State} {m₀ : MethodId} {args : Array Value} {below : List Frame} {meth : Method} {c : Code} {W : State} {locs : List Loc} {cells slots : Nat}
    (X : Stand p l e R s m₀ args below meth c W locs cells slots) (hexec : p.tables.exec = Jvm.exec) (htr : e.platform.stackTraces = false) {cls : String} {names : List String} {text : String}
    (hcls : Bundle.fit cls = true) (hnames : ∀ n ∈ names, Bundle.fit n = true) (hsoe : (cls == "java/lang/StackOverflowError") = false) (hoom : (cls == "java/lang/OutOfMemoryError") = false)
    (h : ∀ a ∈ Bundle.messageArmAtoms cls names, a.before args s = true)
    (hlocs : ∀ x ∈ locs, ∀ cell, s.heap[x.base]? = some cell → cell.vm.isStatics = false)
    (htext : (text == notModelled) = false) (hlimit : ¬ (stringBytes (stringToUtf16 text)).size > e.platform.arrayLengthLimit) (hheap : ¬ (stringBytes (stringToUtf16 text)).size * componentBytes .byte > e.platform.maxHeapBytes)
    {g : JFrame} (hg : g.method = m₀) (hsize : g.locals.size = c.maxLocals)
    (hRframes : names.length + 4 < R.frames) (hRlocals : 2 * g.monitorRoom + (g.stack.map fun v => v.category).sum + 10240 ≤ R.locals) (hshort : 13 * names.length + 55 ≤ 10240)
    (hRcells : cells + 3 ≤ R.cells) (hRslots : slots + ((stringBytes (stringToUtf16 text)).size + 4 + 6) ≤ R.slots) (hlocks : meth.locks = false) :
    ∃ (S : State) (q : Addr) (ce : Cell), (∀ target, Steps p.tables e below ((S.setTop g).pushFrame (.throwing q)) target → Steps p.tables e below ((W.setTop g).pushFrame (.throwNew cls (some text) none)) target) ∧
      Stand p l e R s m₀ args below meth c S locs (cells + 3) (slots + ((stringBytes (stringToUtf16 text)).size + 4 + 6)) ∧ S.heap[q]? = some ce ∧ s.vm.findClass cls = some ce.cls ∧ ce.vm = .none := by
  have howns : e.platform.frameOwnsMonitors = true := by rw [X.admits.platform]
  have hfin : e.platform.finalization = false := by rw [X.admits.platform]
  have hpl : e.platform.magicAccessors = ({} : Platform).magicAccessors := by rw [X.admits.platform]
  have a : ∀ x, x ∈ Bundle.messageArmAtoms cls names → x.holds args s none s [] = true := fun x hx => h x hx
  obtain ⟨T, Z0, L, -, Y⟩ := ThrowableC.of_atoms (args := args) howns hfin hpl (fun x hx => h x (by simp [Bundle.messageArmAtoms, hx]))
  obtain ⟨Z, M, LZ, LM, hnZ⟩ := Init0T.ofS_atoms (args := args) hpl L Y (fun x hx => h x (by simp [Bundle.messageArmAtoms, hx]))
  obtain ⟨P1, Ps, hlen, L1, hL, hP1m, hlink1, hlink⟩ := Bundle.chainS (args := args) hpl hnZ names cls hcls hnames (fun x hx => h x (by simp [Bundle.messageArmAtoms, hx]))
  obtain ⟨Zs, LZs, hn4, hfitv, hfitc⟩ := StringT.of_atoms (args := args) (fun x hx => h x (by simp [Bundle.messageArmAtoms, hx]))
  have hfound : s.vm.findClass cls = some P1.m.cls := findClass_of_methodNamed hP1m
  obtain ⟨c1, kX, hc1, hk, hord, -, -, hn6⟩ := Cond.instantiable_spec (a (.instantiable cls 6) (by simp [Bundle.messageArmAtoms]))
  cases Option.some.inj (hc1.symm.trans hfound)
  have hinit := Cond.initialized_spec hfound hk (a (.initialized cls) (by simp [Bundle.messageArmAtoms]))
  have hctor : kX.findMethod "<init>" "(Ljava/lang/String;)V" = some P1.m.idx := findMethod_of_methodNamed hP1m hk
  have hsel0 : selectMethod e.platform s.vm P1.m.cls T.fill0 = .method T.fill0 := by
    obtain ⟨c2, r2, m2, q1, q2, q3, q4, -⟩ := Cond.selects_spec (a (.selects cls Bundle.tFill0 Bundle.tFill0) (by simp [Bundle.messageArmAtoms]))
    cases Option.some.inj (q1.symm.trans hfound)
    cases Option.some.inj (q2.symm.trans (State.methodFound?_of_named Y.fill0 (by decide)))
    cases Option.some.inj (q3.symm.trans Y.fill0)
    rw [Launch.admits_selectMethod X.admits]; exact q4
  have hselF : selectMethod e.platform s.vm P1.m.cls T.fill = .method T.fill := by
    obtain ⟨c2, r2, m2, q1, q2, q3, q4, -⟩ := Cond.selects_spec (a (.selects cls Bundle.tFill Bundle.tFill) (by simp [Bundle.messageArmAtoms]))
    cases Option.some.inj (q1.symm.trans hfound)
    cases Option.some.inj (q2.symm.trans (State.methodFound?_of_named Y.fill (by decide)))
    cases Option.some.inj (q3.symm.trans Y.fill)
    rw [Launch.admits_selectMethod X.admits]; exact q4
  obtain ⟨cellS0, hcS0, hiss⟩ := Y.statics
  obtain ⟨u0, hu0⟩ := Cond.staticRefV Y.unassigned L.unassignedStatic L.statics hcS0 hiss (a (.isRef (.static Bundle.tN "UNASSIGNED_STACK" Bundle.steD)) (by simp [Bundle.messageArmAtoms]))
  obtain ⟨sen, hsen⟩ := Cond.staticRefV Y.sentinel L.sentinelStatic L.statics hcS0 hiss (a (.isRef (.static Bundle.tN "SUPPRESSED_SENTINEL" Bundle.listD)) (by simp [Bundle.messageArmAtoms]))
  obtain ⟨ci198, i198, fB, hk198, hg198, ha198, hsB, -, hnB, htB, hffB⟩ := Cond.ownField (t := .object "java/lang/Object") Y.found L.cls (by decide +kernel) (a (.fieldLink Bundle.tN 198 Bundle.tN "backtrace" "Ljava/lang/Object;") (by simp [Bundle.messageArmAtoms])) (a (.lays Bundle.tN Bundle.tN "backtrace" "Ljava/lang/Object;") (by simp [Bundle.messageArmAtoms])) e.platform hpl
  obtain ⟨cellS, hcS', heS, -, hkeep⟩ := X.same.2.2.2.2.2 T.aS cellS0 hcS0
  have hcellS : W.heap[T.aS]? = some cellS := hcS'
  have hout' : ∀ i, (⟨T.aS, i⟩ : Loc) ∉ locs := fun i hmem => by
    have := hlocs _ hmem cellS0 hcS0
    rw [hiss] at this; cases this
  have hknownS : cellS.vm ≠ .unknown := by
    rw [heS]; intro hu
    rw [show cellS0.vm = .unknown from hu] at hiss
    cases hiss
  have hvU : cellS.slots[T.fUnassigned.slot]? = some u0.v := by rw [hkeep _ (hout' _)]; exact hu0
  have hvSen : cellS.slots[T.fSentinel.slot]? = some sen.v := by rw [hkeep _ (hout' _)]; exact hsen
  obtain ⟨iM, hffM⟩ := Y.msg
  obtain ⟨tyC, dC, hdC, hdnC⟩ := Cond.laysAt hfound hk Y.cause (a (.lays cls Bundle.tN "cause" "Ljava/lang/Throwable;") (by simp [Bundle.messageArmAtoms]))
  obtain ⟨tyS, dS, hdS, hdnS⟩ := Cond.laysAt hfound hk Y.stack (a (.lays cls Bundle.tN "stackTrace" Bundle.steD) (by simp [Bundle.messageArmAtoms]))
  obtain ⟨tyP, dP, hdP, hdnP⟩ := Cond.laysAt hfound hk Y.supp (a (.lays cls Bundle.tN "suppressedExceptions" Bundle.listD) (by simp [Bundle.messageArmAtoms]))
  obtain ⟨tyM, dM, hdM, hdnM⟩ := Cond.laysAt hfound hk hffM (a (.lays cls Bundle.tN "detailMessage" "Ljava/lang/String;") (by simp [Bundle.messageArmAtoms]))
  obtain ⟨tyB, dB, hdB, hdnB⟩ := Cond.laysAt hfound hk hffB (a (.lays cls Bundle.tN "backtrace" "Ljava/lang/Object;") (by simp [Bundle.messageArmAtoms]))
  have bC := Cond.laysApart hdB hdC hdnB hdnC (by rw [hnB, Y.causeName]; decide)
  have bS := Cond.laysApart hdB hdS hdnB hdnS (by rw [hnB, Y.stackName]; decide)
  have bP := Cond.laysApart hdB hdP hdnB hdnP (by rw [hnB, Y.suppName]; decide)
  have hbk : ((preparedCellV T.toThrowableT (freshCell P1.m.cls kX) (W.heap.size + 2) u0 sen).withEntry W.cur).slots[fB.slot]? = some .null := by
    have := fresh_default (c := P1.m.cls) tyB
    rw [htB] at this
    simpa [preparedCellV, Cell.setSlot, Cell.withEntry, Array.getElem?_setIfInBounds, bC, bS, bP, bC.symm, bS.symm, bP.symm, defaultValue] using this
  have tkC := Takes.of_laid (v := .ref (W.heap.size + 2)) hk hord tyC (by rw [Y.causeType]; rfl)
  have tkS := Takes.of_laid (v := u0.v) hk hord tyS (by rw [Y.stackType]; exact fits_refV_array _ u0)
  have tkP := Takes.of_laid (v := sen.v) hk hord tyP (by rw [Y.suppType]; exact fits_refV_object _ sen)
  have tkM := Takes.of_laid (v := .ref (W.heap.size + 1)) hk hord tyM (by rw [Y.msgType]; rfl)
  have hskip : SkipFacts T e.platform s (fun u => u) u0 ((preparedCellV T.toThrowableT (freshCell P1.m.cls kX) (W.heap.size + 2) u0 sen).withEntry W.cur) := ⟨{ ci198 := ci198, i198 := i198, fBack := fB }, ⟨hk198, hg198, ha198, hsB⟩, hbk, fun _ _ => rfl⟩
  have h0 : At W g.method c below := by rw [hg]; exact X.here
  obtain ⟨hbeyond, hfreeW⟩ := X.vmMayThrow hsize (.throwNew cls (some text) none) (fun f hf => by cases hf) rfl hRlocals
  have hfr' : W.frames.length + Ps.length + 4 < (e.platform.stackLimits W.me).1 := by have := X.framesAbove hRframes; omega
  have hwd' : (stackUse (.java g :: W.frames.tail)).2 + 13 * Ps.length + 55 ≤ (e.platform.stackLimits W.me).2 := by have := X.stackAbove hsize (K := 13 * Ps.length + 55) (by omega); omega
  have hslots : W.slotsUsed + (stringBytes (stringToUtf16 text)).size + Zs.kS.instanceTypes.size + kX.instanceTypes.size ≤ e.platform.maxSlots := by
    have := X.slotsAbove hRslots
    rw [hn4, hn6]
    omega
  obtain ⟨vm', hW', st⟩ := Steps.vmThrowsMessageColdByV p (s₀ := s) (S := W) (g := g) h0 hexec T L Z LZ M LM X.warmed (t := W.cur) rfl Zs LZs P1 L1 Ps hL hlink1 hlink hsoe hoom hfound hk hinit hord hctor
    (Launch.admits_hotImplicitExceptions X.admits) hbeyond hfreeW htext hlimit hheap (X.cellsAbove hRcells) hslots (hfitv _) (hfitc _)
    (Nn := fun u => u) heapOnly_id (fun _ _ => rfl) (fun _ => rfl) (fun u x y => setCell_twice _ _ _ _) (fun _ => Nat.le_refl _) (cN := ((preparedCellV T.toThrowableT (freshCell P1.m.cls kX) (W.heap.size + 2) u0 sen).withEntry W.cur))
    hsel0 hcellS hknownS hvU tkS (fun _ hu => hu) (fun _ hu => hu) rfl rfl rfl (by simp [preparedCellV, Cell.setSlot, Cell.withEntry]) hskip (fun _ _ hA hW _ hroom _ hrest => L.nativeOff p htr hA hW hroom hrest) hselF hvSen tkC tkP tkM Y.objLocals rfl hfr' hwd'
  rw [plainBareV_eq T.toThrowableT (W.heap.size + 2) u0 sen (.ref (W.heap.size + 1)) W.cur rfl rfl] at st
  obtain ⟨-, -, w3, w4, -, -, -⟩ := withThrown_facts e.platform W Zs text P1.m.cls kX
  have X3 := ((X.pushed (bytesOf Zs.cB (stringToUtf16 text))).pushed (stringAt Zs.cS Zs.kS Zs.fv Zs.fc (stringToUtf16 text) W.heap.size)).pushed (freshCell P1.m.cls kX)
  rw [← withString_eq] at X3
  have X4 := X3.noted hW'
  have ha : (W.heap.size + 2) < ((withThrown W Zs text P1.m.cls kX).setVm vm').heap.size := by show _ < (withThrown W Zs text P1.m.cls kX).heap.size; rw [w3]; omega
  have hcell : ((withThrown W Zs text P1.m.cls kX).setVm vm').heap[(W.heap.size + 2)]? = some (freshCell P1.m.cls kX) := w4
  have X5 := ((((X4.stored hcell T.fCause.slot (.ref (W.heap.size + 2))).storedAgain ha T.fStack.slot u0.v).storedAgain ha T.fSupp.slot sen.v).storedAgain ha T.fStack.slot u0.v).storedAgain ha T.fMsg.slot (.ref (W.heap.size + 1))
  obtain ⟨g₁, hfrM⟩ := X5.frames_eq
  have hU : ((((withThrown W Zs text P1.m.cls kX).setVm vm').setCell (W.heap.size + 2) (plainBareV T.toThrowableT (freshCell P1.m.cls kX) (W.heap.size + 2) u0 sen (.ref (W.heap.size + 1)))).setTop g).pushFrame (.throwing (W.heap.size + 2)) = (((withThrown W Zs text P1.m.cls kX).setVm vm').setCell (W.heap.size + 2) (plainBareV T.toThrowableT (freshCell P1.m.cls kX) (W.heap.size + 2) u0 sen (.ref (W.heap.size + 1)))).setFrames (.throwing (W.heap.size + 2) :: .java g :: below) := by
    rw [State.pushFrame, State.frames_setTop _ hfrM, State.setTop_of_frames _ hfrM, State.setFrames_setFrames]
  have b1 : (bytesOf Zs.cB (stringToUtf16 text)).slots.size = (stringBytes (stringToUtf16 text)).size := by
    rw [(Cell.writeAll_facts _ _).2.2]; simp [bytes0]
  have b2 : (stringAt Zs.cS Zs.kS Zs.fv Zs.fc (stringToUtf16 text) W.heap.size).slots.size = 4 := by simp [string0, Cell.setSlot, hn4]
  have b3 : (freshCell P1.m.cls kX).slots.size = 6 := by simp [hn6]
  rw [b1, b2, b3] at X5
  have e9 : slots + (stringBytes (stringToUtf16 text)).size + 4 + 6 = slots + ((stringBytes (stringToUtf16 text)).size + 4 + 6) := by omega
  rw [e9] at X5
  simp only [List.append_assoc, List.cons_append, List.nil_append] at X5
  refine ⟨((withThrown W Zs text P1.m.cls kX).setVm vm').setCell (W.heap.size + 2) (plainBareV T.toThrowableT (freshCell P1.m.cls kX) (W.heap.size + 2) u0 sen (.ref (W.heap.size + 1))), W.heap.size + 2, _, fun target ht => st _ (by rw [X.tail, ← hU]; exact ht),
    X5.forget (fun y hy => ?_), heapAt_setCell_self _ ha, hfound, rfl⟩
  simp only [List.mem_cons, List.not_mem_nil, or_false] at hy
  have hge : s.heap.size ≤ W.heap.size := X.same.2.1
  rcases hy with rfl | rfl | rfl | rfl | rfl <;> exact Nat.le_trans hge (Nat.le_add_right _ 2)
set_option maxHeartbeats 1000000 in
/-- the machine throws NullPointerException, no traces kept: from its note over the frame g to 'throwing' over the same frame (follows the proof of Stand.vmThrowsNpe, Shelf42/KT2.lean; throwsNpeColdBareVAt, Shelf42/NT91.lean, called) -/
theorem vx_npeAt {p : Program} {l : Launch} {e : Env} {R : Room} {s : State} {m₀ : MethodId} {args : Array Value} {below : List Frame} {meth : Method} {c : Code} {W : State} {locs : List Loc} {cells slots : Nat}
    (X : Stand p l e R s m₀ args below meth c W locs cells slots) (hexec : p.tables.exec = Jvm.exec) (htr : e.platform.stackTraces = false) {n : Nat}
    (h : ∀ a ∈ Bundle.npeArmAtoms n, a.before args s = true)
    (hlocs : ∀ x ∈ locs, ∀ cell, s.heap[x.base]? = some cell → cell.vm.isStatics = false)
    {g : JFrame} (hg : g.method = m₀) (hsize : g.locals.size = c.maxLocals)
    (hRframes : 7 < R.frames) (hRlocals : 2 * g.monitorRoom + (g.stack.map fun v => v.category).sum + 10240 ≤ R.locals)
    (hRcells : cells + 1 ≤ R.cells) (hRslots : slots + n ≤ R.slots) (hlocks : meth.locks = false) :
    ∃ (S : State) (q : Addr) (ce : Cell), (∀ target, Steps p.tables e below ((S.setTop g).pushFrame (.throwing q)) target → Steps p.tables e below ((W.setTop g).pushFrame (.throwNew "java/lang/NullPointerException" none none)) target) ∧
      Stand p l e R s m₀ args below meth c S locs (cells + 1) (slots + n) ∧ S.heap[q]? = some ce ∧ s.vm.findClass "java/lang/NullPointerException" = some ce.cls ∧ ce.vm = .none := by
  have howns : e.platform.frameOwnsMonitors = true := by rw [X.admits.platform]
  have hfin : e.platform.finalization = false := by rw [X.admits.platform]
  have hpl : e.platform.magicAccessors = ({} : Platform).magicAccessors := by rw [X.admits.platform]
  have hpl2 : e.platform.arrayCloneIsPublic = true := by rw [X.admits.platform]
  have a' : ∀ x, x ∈ Bundle.npeArmAtoms n → x.holds args s none s [] = true := fun x hx => h x hx
  obtain ⟨T, Z, L, LZ, Y⟩ := ThrowableC.of_atoms (args := args) howns hfin hpl (fun x hx => h x (by simp [Bundle.npeArmAtoms, hx]))
  obtain ⟨N, LN, hcN, hnNF, hordN, hffS⟩ := NpeC.of_atoms (args := args) hpl hpl2 L Y (fun x hx => h x (by simp [Bundle.npeArmAtoms, hx]))
  obtain ⟨P1, L1, hP1m, hP1s⟩ := PassC.of_atoms (args := args) (s := s) hpl (X := Bundle.nN) (Y := Bundle.rN) (by decide) (by decide) LibCode.NullPointerException.Init0.at_0 LibCode.NullPointerException.Init0.at_1 LibCode.NullPointerException.Init0.at_4 (fun x hx => h x (by simp [Bundle.npeArmAtoms, hx]))
  obtain ⟨PR, LR, hPRm, hPRs⟩ := PassC.of_atoms (args := args) (s := s) hpl (X := Bundle.rN) (Y := Bundle.eN) (by decide) (by decide) LibCode.RuntimeException.Init0.at_0 LibCode.RuntimeException.Init0.at_1 LibCode.RuntimeException.Init0.at_4 (fun x hx => h x (by simp [Bundle.npeArmAtoms, hx]))
  obtain ⟨PE, LEx, hPEm, hPEs⟩ := PassC.of_atoms (args := args) (s := s) hpl (X := Bundle.eN) (Y := Bundle.tN) (by decide) (by decide) LibCode.Exception.Init0.at_0 LibCode.Exception.Init0.at_1 LibCode.Exception.Init0.at_4 (fun x hx => h x (by simp [Bundle.npeArmAtoms, hx]))
  have hfound : s.vm.findClass Bundle.nN = some P1.m.cls := findClass_of_methodNamed hP1m
  have ecls : N.cN = P1.m.cls := Option.some.inj (hcN.symm.trans hfound)
  have hk : s.vm.classes[P1.m.cls]? = some N.kN := by rw [← ecls]; exact LN.cls
  have hinit := Cond.initialized_spec hfound hk (a' (.initialized Bundle.nN) (by simp [Bundle.npeArmAtoms]))
  have hctor : N.kN.findMethod "<init>" "()V" = some P1.m.idx := findMethod_of_methodNamed hP1m hk
  obtain ⟨c1, k1, hc1, hk1, -, -, -, hn⟩ := Cond.instantiable_spec (a' (.instantiable Bundle.nN n) (by simp [Bundle.npeArmAtoms]))
  cases Option.some.inj (hc1.symm.trans hfound)
  cases Option.some.inj (hk1.symm.trans hk)
  have hfsz : (freshCell P1.m.cls N.kN).slots.size = n := by simp [hn]
  have hlink1 : P1.sup = PR.m := Option.some.inj (hP1s.symm.trans hPRm)
  have hlinkR : PR.sup = PE.m := Option.some.inj (hPRs.symm.trans hPEm)
  have hlinkE : PE.sup = Z.m T.toThrowableT := Option.some.inj (hPEs.symm.trans Y.init0)
  have hLs : ∀ P, P ∈ [PR, PE] → P.Links0 e.platform s := fun P hP => by
    simp only [List.mem_cons, List.not_mem_nil, or_false] at hP
    rcases hP with rfl | rfl
    · exact LR
    · exact LEx
  have hsel0 : selectMethod e.platform s.vm P1.m.cls T.fill0 = .method T.fill0 := by
    obtain ⟨c2, r2, m2, q1, q2, q3, q4, -⟩ := Cond.selects_spec (a' (.selects Bundle.nN Bundle.tFill0 Bundle.tFill0) (by simp [Bundle.npeArmAtoms]))
    cases Option.some.inj (q1.symm.trans hfound)
    cases Option.some.inj (q2.symm.trans (State.methodFound?_of_named Y.fill0 (by decide)))
    cases Option.some.inj (q3.symm.trans Y.fill0)
    rw [Launch.admits_selectMethod X.admits]; exact q4
  have hselF : selectMethod e.platform s.vm P1.m.cls T.fill = .method N.fill := by
    obtain ⟨c2, r2, m2, q1, q2, q3, q4, -⟩ := Cond.selects_spec (a' (.selects Bundle.nN Bundle.tFill Bundle.nFill) (by simp [Bundle.npeArmAtoms]))
    cases Option.some.inj (q1.symm.trans hfound)
    cases Option.some.inj (q2.symm.trans (State.methodFound?_of_named Y.fill (by decide)))
    cases Option.some.inj (q3.symm.trans hnNF)
    rw [Launch.admits_selectMethod X.admits]; exact q4
  obtain ⟨cellS0, hcS0, hiss⟩ := Y.statics
  obtain ⟨u0, hu0⟩ := Cond.staticRefV Y.unassigned L.unassignedStatic L.statics hcS0 hiss (a' (.isRef (.static Bundle.tN "UNASSIGNED_STACK" Bundle.steD)) (by simp [Bundle.npeArmAtoms]))
  obtain ⟨sen, hsen⟩ := Cond.staticRefV Y.sentinel L.sentinelStatic L.statics hcS0 hiss (a' (.isRef (.static Bundle.tN "SUPPRESSED_SENTINEL" Bundle.listD)) (by simp [Bundle.npeArmAtoms]))
  obtain ⟨ci198, i198, fB, hk198, hg198, ha198, hsB, -, hnB, htB, hffB⟩ := Cond.ownField (t := .object "java/lang/Object") Y.found L.cls (by decide +kernel) (a' (.fieldLink Bundle.tN 198 Bundle.tN "backtrace" Bundle.objD) (by simp [Bundle.npeArmAtoms])) (a' (.lays Bundle.tN Bundle.tN "backtrace" Bundle.objD) (by simp [Bundle.npeArmAtoms])) e.platform hpl
  obtain ⟨cellS, hcS', heS, -, hkeep⟩ := X.same.2.2.2.2.2 T.aS cellS0 hcS0
  have hcellS : W.heap[T.aS]? = some cellS := hcS'
  have hout' : ∀ i, (⟨T.aS, i⟩ : Loc) ∉ locs := fun i hmem => by
    have := hlocs _ hmem cellS0 hcS0
    rw [hiss] at this; cases this
  have hknownS : cellS.vm ≠ .unknown := by
    rw [heS]; intro hu
    rw [show cellS0.vm = .unknown from hu] at hiss
    cases hiss
  have hvU : cellS.slots[T.fUnassigned.slot]? = some u0.v := by rw [hkeep _ (hout' _)]; exact hu0
  have hvSen : cellS.slots[T.fSentinel.slot]? = some sen.v := by rw [hkeep _ (hout' _)]; exact hsen
  obtain ⟨tyC, dC, hdC, hdnC⟩ := Cond.laysAt hfound hk Y.cause (a' (.lays Bundle.nN Bundle.tN "cause" "Ljava/lang/Throwable;") (by simp [Bundle.npeArmAtoms]))
  obtain ⟨tyS, dS, hdS, hdnS⟩ := Cond.laysAt hfound hk Y.stack (a' (.lays Bundle.nN Bundle.tN "stackTrace" Bundle.steD) (by simp [Bundle.npeArmAtoms]))
  obtain ⟨tyP, dP, hdP, hdnP⟩ := Cond.laysAt hfound hk Y.supp (a' (.lays Bundle.nN Bundle.tN "suppressedExceptions" Bundle.listD) (by simp [Bundle.npeArmAtoms]))
  obtain ⟨tyX, dX, hdX, hdnX⟩ := Cond.laysAt hfound hk hffS (a' (.lays Bundle.nN Bundle.nN "extendedMessageState" "I") (by simp [Bundle.npeArmAtoms, Bundle.npeAtoms]))
  obtain ⟨hnX, htX⟩ := State.fieldFound?_type hffS (t := .int) (by decide +kernel)
  have xC := Cond.laysApart hdC hdX hdnC hdnX (by rw [hnX, Y.causeName]; decide)
  have xS := Cond.laysApart hdS hdX hdnS hdnX (by rw [hnX, Y.stackName]; decide)
  have xP := Cond.laysApart hdP hdX hdnP hdnX (by rw [hnX, Y.suppName]; decide)
  have hv0 : (freshCell P1.m.cls N.kN).slots[N.fState.slot]? = some (.int 0) := by
    have := fresh_default (c := P1.m.cls) tyX
    rw [htX] at this; exact this
  obtain ⟨tyB, dB, hdB, hdnB⟩ := Cond.laysAt hfound hk hffB (a' (.lays Bundle.nN Bundle.tN "backtrace" Bundle.objD) (by simp [Bundle.npeArmAtoms]))
  have bC := Cond.laysApart hdB hdC hdnB hdnC (by rw [hnB, Y.causeName]; decide)
  have bS := Cond.laysApart hdB hdS hdnB hdnS (by rw [hnB, Y.stackName]; decide)
  have bP := Cond.laysApart hdB hdP hdnB hdnP (by rw [hnB, Y.suppName]; decide)
  have bX := Cond.laysApart hdB hdX hdnB hdnX (by rw [hnB, hnX]; decide)
  have hbk : ((npeCell N.toNpeT (preparedCellV T.toThrowableT (freshCell P1.m.cls N.kN) W.heap.size u0 sen) W.cur).withEntry W.cur).slots[fB.slot]? = some .null := by
    have := fresh_default (c := P1.m.cls) tyB
    rw [htB] at this
    simpa [npeCell, preparedCellV, Cell.setSlot, Cell.withEntry, Array.getElem?_setIfInBounds, bC, bS, bP, bX, bC.symm, bS.symm, bP.symm, bX.symm, defaultValue] using this
  have tkC := Takes.of_laid (v := .ref W.heap.size) hk hordN tyC (by rw [Y.causeType]; rfl)
  have tkS := Takes.of_laid (v := u0.v) hk hordN tyS (by rw [Y.stackType]; exact fits_refV_array _ u0)
  have tkP := Takes.of_laid (v := sen.v) hk hordN tyP (by rw [Y.suppType]; exact fits_refV_object _ sen)
  have tkX := Takes.of_laid (v := .int 1) hk hordN tyX (by rw [htX]; rfl)
  have hskip : SkipFacts T e.platform s (fun u => u) u0 ((npeCell N.toNpeT (preparedCellV T.toThrowableT (freshCell P1.m.cls N.kN) W.heap.size u0 sen) W.cur).withEntry W.cur) := ⟨{ ci198 := ci198, i198 := i198, fBack := fB }, ⟨hk198, hg198, ha198, hsB⟩, hbk, fun _ _ => rfl⟩
  obtain ⟨vm', X3, st, -⟩ := X.throwsNpeColdBareVAt hexec hg hsize T L Z LZ N LN P1 L1 [PR, PE] hLs hlink1 ⟨hlinkR, hlinkE, trivial⟩ hfound hk hinit hordN hctor hsel0 hselF hcellS hknownS hvU hvSen
    hv0 xC xS xP tkC tkS tkP tkX Y.objLocals hskip (fun _ _ hA hW _ hroom _ hrest => L.nativeOff p htr hA hW hroom hrest) (by simpa using hRframes) hRlocals (by simp) hRcells (by rw [hn]; exact hRslots)
  have hlt : W.heap.size < ((W.pushCell (freshCell P1.m.cls N.kN)).setVm vm').heap.size := by
    show W.heap.size < (W.pushCell (freshCell P1.m.cls N.kN)).heap.size
    rw [State.heap_size_pushCell]; omega
  rw [hfsz] at X3
  obtain ⟨g₁, hfrM⟩ := X3.frames_eq
  have hU : ((((W.pushCell (freshCell P1.m.cls N.kN)).setVm vm').setCell W.heap.size (npeBareV T.toThrowableT N.toNpeT (freshCell P1.m.cls N.kN) W.heap.size u0 sen)).setTop g).pushFrame (.throwing W.heap.size) = (((W.pushCell (freshCell P1.m.cls N.kN)).setVm vm').setCell W.heap.size (npeBareV T.toThrowableT N.toNpeT (freshCell P1.m.cls N.kN) W.heap.size u0 sen)).setFrames (.throwing W.heap.size :: .java g :: below) := by
    rw [State.pushFrame, State.frames_setTop _ hfrM, State.setTop_of_frames _ hfrM, State.setFrames_setFrames]
  refine ⟨_, W.heap.size, _, fun target ht => st.trans (by rw [← hU]; exact ht), X3.forget (fun y hy => ?_), heapAt_setCell_self _ hlt, hfound, rfl⟩
  simp only [List.mem_cons, List.not_mem_nil, or_false] at hy
  have hge : s.heap.size ≤ W.heap.size := X.same.2.1
  rcases hy with rfl | rfl | rfl | rfl | rfl <;> exact hge
/-- the words of a machine's NullPointerException, but the four that speak of the heap -/
def vx_atN (n : Nat) : List Cond := (Bundle.npeArmAtoms n).filter vx_no
/-- the words of a machine's throw with a message, but the four that speak of the heap -/
def vx_atM (X : String) (names : List String) : List Cond := (Bundle.messageArmAtoms X names).filter vx_no
section
variable {p : Program} {l : Launch} {e : Env} {R : Room} {s : State} {m : MethodId} {args : Array Value} {below : List Frame} {meth : Method} {c : Code} {H : Heap} {locs : List Loc} {cells slots : Nat}
/-- a frame seen from a rebased start, seen from the first start again -/
theorem vx_back9 {T S : State} {R' : Room} {k n : Nat} (X : Stand p l e R s m args below meth c T locs cells slots) (Y : Stand p l e R' ((T.setVm s.vm).setFrames (.invoking m args :: below)) m args below meth c T [] 0 0) (Z : Stand p l e R' ((T.setVm s.vm).setFrames (.invoking m args :: below)) m args below meth c S [] k n) :
    Stand p l e R s m args below meth c S locs (cells + k) (slots + n) := by
  have hW0 : s.WarmedH ((T.setVm s.vm).setFrames (.invoking m args :: below)).vm := State.WarmedH.refl s
  refine { admits := X.admits, cas := X.cas, clock := X.clock, frames := X.frames, room := X.room, hears := X.hears, method := X.method, code := X.code, here := Z.here, tail := Z.tail, warmed := State.WarmedH.trans hW0 Z.warmed, limits := Z.limits.trans (Y.limits.symm.trans X.limits), bytes := Z.bytes.trans (Y.bytes.symm.trans X.bytes), same := ?_ }
  obtain ⟨e1, e2⟩ := Z.same
  rw [State.setFrames_setFrames] at e1
  have h2 : (T.setVm s.vm).sameButNew (S.setVm s.vm) [] k n := ⟨e1, e2⟩
  have h3 := X.same.trans h2
  rw [List.append_nil] at h3
  exact h3
/-- from the machine's note that E is thrown here with this text -/
def vx_Note (p : Program) (l : Launch) (e : Env) (R : Room) (s : State) (m : MethodId) (args : Array Value) (below : List Frame) (meth : Method) (c : Code) (H : Heap) (locs : List Loc) (cells slots : Nat) (Q : State → Prop) (g : JFrame) (E text : String) : Prop :=
  ∀ T : State, T.heap = H → Stand p l e R s m args below meth c T locs cells slots → ∃ t, Steps p.tables e below ((T.setTop g).pushFrame (.throwNew E (some text) none)) t ∧ Q t
theorem vx_vm {pc : Nat} {ls : Array Slot} {rest : List Value} {Q : State → Prop} (hexec : p.tables.exec = Jvm.exec) (hl : l.stackTraces = false) {cls text : String} {names : List String} {nb : Nat} {A : Nat → Prop}
    (hcls : Bundle.fit cls = true) (hnames : ∀ n ∈ names, Bundle.fit n = true) (hsoe : (cls == "java/lang/StackOverflowError") = false) (hoom : (cls == "java/lang/OutOfMemoryError") = false)
    (hat : ∀ w ∈ vx_atM cls names, w.before args s = true) (hgood : ∀ w ∈ vx_atM cls names, vx_ot w = true)
    (hU : vx_Zq Bundle.tN "UNASSIGNED_STACK" Bundle.steD A s s.heap) (hN : vx_Zq Bundle.tN "SUPPRESSED_SENTINEL" Bundle.listD A s s.heap) (hS : va_S A s.heap H locs) (hsize : ls.size = c.maxLocals)
    (htext : (text == notModelled) = false) (hnb : (stringBytes (stringToUtf16 text)).size ≤ nb) (hnb1 : nb ≤ 1000)
    (hRframes : names.length + 4 < R.frames) (hRlocals : (rest.map fun v => v.category).sum + 10240 ≤ R.locals) (hshort : 13 * names.length + 55 ≤ 10240) (hRcells : cells + 3 ≤ R.cells) (hRslots : slots + (nb + 10) ≤ R.slots) (hlocks : meth.locks = false)
    (k : ∀ (H1 : Heap) (q9 : Addr) (ce : Cell), H.size ≤ H1.size → (∀ q : Nat, q < H.size → H1[q]? = H[q]?) → va_S A s.heap H1 locs → H1[q9]? = some ce → ce.vm = .none → s.vm.findClass cls = some ce.cls → vx_W p l e R s m args below meth c H1 locs (cells + 3) (slots + (nb + 10)) Q (F0 m pc ls rest) q9) :
    vx_Note p l e R s m args below meth c H locs cells slots Q (F0 m pc ls rest) cls text := by
  intro T hT X
  have htr : e.platform.stackTraces = false := (show e.platform.stackTraces = l.stackTraces by rw [X.admits.platform]).trans hl
  have Y := vx_rebase X (R' := { frames := R.frames, locals := R.locals, cells := 3, slots := nb + 10 }) (Nat.le_refl _) (Nat.le_refl _) hRcells hRslots
  have hhp : ((T.setVm s.vm).setFrames (.invoking m args :: below)).heap = H := hT
  have hW0 : s.WarmedH ((T.setVm s.vm).setFrames (.invoking m args :: below)).vm := State.WarmedH.refl s
  have hat' : ∀ w ∈ vx_atM cls names, w.before args ((T.setVm s.vm).setFrames (.invoking m args :: below)) = true := fun w hw => vx_ot_at hW0 rfl (hgood w hw) (hat w hw)
  have hU' : vx_Zq Bundle.tN "UNASSIGNED_STACK" Bundle.steD A ((T.setVm s.vm).setFrames (.invoking m args :: below)) ((T.setVm s.vm).setFrames (.invoking m args :: below)).heap := by rw [hhp]; exact vx_Zq.moved hW0.alike (hU.kept hS.2.1)
  have hN' : vx_Zq Bundle.tN "SUPPRESSED_SENTINEL" Bundle.listD A ((T.setVm s.vm).setFrames (.invoking m args :: below)) ((T.setVm s.vm).setFrames (.invoking m args :: below)).heap := by rw [hhp]; exact vx_Zq.moved hW0.alike (hN.kept hS.2.1)
  obtain ⟨S, q, ce, st, Z, hce, hcl', hv⟩ := vx_vmAt Y hexec htr (cls := cls) (names := names) (text := text) hcls hnames hsoe hoom (vx_own hat' (vx_isRefq hU'.1) (vx_isRefq hN'.1) hU'.2.word hN'.2.word) (fun x hx => nomatch hx) htext
    (by rw [Launch.admits_arrayLengthLimit X.admits]; omega) (by rw [Launch.admits_maxHeapBytes X.admits]; simp only [componentBytes]; omega)
    (g := F0 m pc ls rest) rfl hsize hRframes (by show 2 * 0 + (rest.map fun v => v.category).sum + 10240 ≤ R.locals; omega) hshort (by show 0 + 3 ≤ 3; omega) (by show 0 + (_ + 4 + 6) ≤ nb + 10; omega) hlocks
  obtain ⟨f1, f2⟩ := vx_frame Z.same
  have f1' : H.size ≤ S.heap.size := by rw [← hT]; exact f1
  have f2' : ∀ q : Nat, q < H.size → S.heap[q]? = H[q]? := fun q hq => by
    rw [← hT]
    exact f2 q (by rw [← hT] at hq; exact hq) (fun z hz => nomatch hz)
  have X5 := vx_back9 X Y Z
  have X6 : Stand p l e R s m args below meth c S locs (cells + 3) (slots + (nb + 10)) := { X5 with same := X5.same.mono (by omega) (by omega) }
  obtain ⟨t, a1, b1⟩ := k S.heap q ce f1' f2' ⟨Nat.le_trans hS.1 f1', fun q h1 h2 => (f2' q (Nat.lt_of_lt_of_le h1 hS.1)).trans (hS.2.1 q h1 h2), hS.2.2⟩ hce hv hcl' S rfl X6
  exact ⟨t, st t a1, b1⟩
/-- from the machine's note that NullPointerException is thrown here -/
def vx_NoteN (p : Program) (l : Launch) (e : Env) (R : Room) (s : State) (m : MethodId) (args : Array Value) (below : List Frame) (meth : Method) (c : Code) (H : Heap) (locs : List Loc) (cells slots : Nat) (Q : State → Prop) (g : JFrame) : Prop :=
  ∀ T : State, T.heap = H → Stand p l e R s m args below meth c T locs cells slots → ∃ t, Steps p.tables e below ((T.setTop g).pushFrame (.throwNew "java/lang/NullPointerException" none none)) t ∧ Q t
theorem vx_npe {pc : Nat} {ls : Array Slot} {rest : List Value} {Q : State → Prop} (hexec : p.tables.exec = Jvm.exec) (hl : l.stackTraces = false) {nb : Nat} {A : Nat → Prop}
    (hat : ∀ w ∈ vx_atN nb, w.before args s = true) (hgood : ∀ w ∈ vx_atN nb, vx_ot w = true)
    (hU : vx_Zq Bundle.tN "UNASSIGNED_STACK" Bundle.steD A s s.heap) (hN : vx_Zq Bundle.tN "SUPPRESSED_SENTINEL" Bundle.listD A s s.heap) (hS : va_S A s.heap H locs) (hsize : ls.size = c.maxLocals)
    (hRframes : 7 < R.frames) (hRlocals : (rest.map fun v => v.category).sum + 10240 ≤ R.locals) (hRcells : cells + 1 ≤ R.cells) (hRslots : slots + nb ≤ R.slots) (hlocks : meth.locks = false)
    (k : ∀ (H1 : Heap) (q9 : Addr) (ce : Cell), H.size ≤ H1.size → (∀ q : Nat, q < H.size → H1[q]? = H[q]?) → va_S A s.heap H1 locs → H1[q9]? = some ce → ce.vm = .none → s.vm.findClass "java/lang/NullPointerException" = some ce.cls → vx_W p l e R s m args below meth c H1 locs (cells + 1) (slots + nb) Q (F0 m pc ls rest) q9) :
    vx_NoteN p l e R s m args below meth c H locs cells slots Q (F0 m pc ls rest) := by
  intro T hT X
  have htr : e.platform.stackTraces = false := (show e.platform.stackTraces = l.stackTraces by rw [X.admits.platform]).trans hl
  have Y := vx_rebase X (R' := { frames := R.frames, locals := R.locals, cells := 1, slots := nb }) (Nat.le_refl _) (Nat.le_refl _) hRcells hRslots
  have hhp : ((T.setVm s.vm).setFrames (.invoking m args :: below)).heap = H := hT
  have hW0 : s.WarmedH ((T.setVm s.vm).setFrames (.invoking m args :: below)).vm := State.WarmedH.refl s
  have hat' : ∀ w ∈ vx_atN nb, w.before args ((T.setVm s.vm).setFrames (.invoking m args :: below)) = true := fun w hw => vx_ot_at hW0 rfl (hgood w hw) (hat w hw)
  have hU' : vx_Zq Bundle.tN "UNASSIGNED_STACK" Bundle.steD A ((T.setVm s.vm).setFrames (.invoking m args :: below)) ((T.setVm s.vm).setFrames (.invoking m args :: below)).heap := by rw [hhp]; exact vx_Zq.moved hW0.alike (hU.kept hS.2.1)
  have hN' : vx_Zq Bundle.tN "SUPPRESSED_SENTINEL" Bundle.listD A ((T.setVm s.vm).setFrames (.invoking m args :: below)) ((T.setVm s.vm).setFrames (.invoking m args :: below)).heap := by rw [hhp]; exact vx_Zq.moved hW0.alike (hN.kept hS.2.1)
  obtain ⟨S, q, ce, st, Z, hce, hcl', hv⟩ := vx_npeAt Y hexec htr (n := nb) (vx_own hat' (vx_isRefq hU'.1) (vx_isRefq hN'.1) hU'.2.word hN'.2.word) (fun x hx => nomatch hx)
    (g := F0 m pc ls rest) rfl hsize hRframes (by show 2 * 0 + (rest.map fun v => v.category).sum + 10240 ≤ R.locals; omega) (by show 0 + 1 ≤ 1; omega) (by show 0 + nb ≤ nb; omega) hlocks
  obtain ⟨f1, f2⟩ := vx_frame Z.same
  have f1' : H.size ≤ S.heap.size := by rw [← hT]; exact f1
  have f2' : ∀ q : Nat, q < H.size → S.heap[q]? = H[q]? := fun q hq => by
    rw [← hT]
    exact f2 q (by rw [← hT] at hq; exact hq) (fun z hz => nomatch hz)
  have X5 := vx_back9 X Y Z
  have X6 : Stand p l e R s m args below meth c S locs (cells + 1) (slots + nb) := { X5 with same := X5.same.mono (by omega) (by omega) }
  obtain ⟨t, a1, b1⟩ := k S.heap q ce f1' f2' ⟨Nat.le_trans hS.1 f1', fun q h1 h2 => (f2' q (Nat.lt_of_lt_of_le h1 hS.1)).trans (hS.2.1 q h1 h2), hS.2.2⟩ hce hv hcl' S rfl X6
  exact ⟨t, st t a1, b1⟩
variable {Q : State → Prop} {cc : ByteArray} {pc : Nat} {ls : Array Slot} {rest : List Value}
theorem vx_idivZ (hexec : p.tables.exec = Jvm.exec) (hb : c.code = cc) {a b : Int32} (h0 : b = 0) (d : decode cc pc = .ok (.idiv, 1)) (k : vx_Note p l e R s m args below meth c H locs cells slots Q (F0 m pc ls rest) "java/lang/ArithmeticException" "/ by zero") :
    W p l e R s m args below meth c H locs cells slots Q (F0 m pc ls (.int b :: .int a :: rest)) := by
  intro T hT X
  obtain ⟨t, st, q⟩ := k T hT X
  exact ⟨t, X.idivZero hexec (g := F0 m pc ls (.int b :: .int a :: rest)) rfl (a := a) (rest := rest) (by rw [h0]) (by rw [hb]; exact d) t st, q⟩
theorem vx_iremZ (hexec : p.tables.exec = Jvm.exec) (hb : c.code = cc) {a b : Int32} (h0 : b = 0) (d : decode cc pc = .ok (.irem, 1)) (k : vx_Note p l e R s m args below meth c H locs cells slots Q (F0 m pc ls rest) "java/lang/ArithmeticException" "/ by zero") :
    W p l e R s m args below meth c H locs cells slots Q (F0 m pc ls (.int b :: .int a :: rest)) := by
  intro T hT X
  obtain ⟨t, st, q⟩ := k T hT X
  exact ⟨t, X.iremZero hexec (g := F0 m pc ls (.int b :: .int a :: rest)) rfl (a := a) (rest := rest) (by rw [h0]) (by rw [hb]; exact d) t st, q⟩
theorem vx_ldivZ (hexec : p.tables.exec = Jvm.exec) (hb : c.code = cc) {a b : Int64} (h0 : b = 0) (d : decode cc pc = .ok (.ldiv, 1)) (k : vx_Note p l e R s m args below meth c H locs cells slots Q (F0 m pc ls rest) "java/lang/ArithmeticException" "/ by zero") :
    W p l e R s m args below meth c H locs cells slots Q (F0 m pc ls (.long b :: .long a :: rest)) := by
  intro T hT X
  obtain ⟨t, st, q⟩ := k T hT X
  exact ⟨t, X.ldivZero hexec (g := F0 m pc ls (.long b :: .long a :: rest)) rfl (a := a) (rest := rest) (by rw [h0]) (by rw [hb]; exact d) t st, q⟩
theorem vx_lremZ (hexec : p.tables.exec = Jvm.exec) (hb : c.code = cc) {a b : Int64} (h0 : b = 0) (d : decode cc pc = .ok (.lrem, 1)) (k : vx_Note p l e R s m args below meth c H locs cells slots Q (F0 m pc ls rest) "java/lang/ArithmeticException" "/ by zero") :
    W p l e R s m args below meth c H locs cells slots Q (F0 m pc ls (.long b :: .long a :: rest)) := by
  intro T hT X
  obtain ⟨t, st, q⟩ := k T hT X
  exact ⟨t, X.lremZero hexec (g := F0 m pc ls (.long b :: .long a :: rest)) rfl (a := a) (rest := rest) (by rw [h0]) (by rw [hb]; exact d) t st, q⟩
theorem vx_ialdZ {D : va_G} {cl : List vw_C} {ws : va_W} {tys : List (ClassId × FieldType)} {a : Nat} (hexec : p.tables.exec = Jvm.exec) (hb : c.code = cc) (hK : va_K D cl tys s) (hP : va_P D cl ws H) (q0 t0 : Nat) {cA : ClassId} {n : Nat} {f : Nat → Int32} (ha : ws[q0]? = some (a, .inl (cA, n, .inl f))) (ht : tys[t0]? = some (cA, .int)) {i : Int32} (hout : ¬ vp_in i n) (hdg : decode cc pc = .ok (.iaload, 1))
    (k : ∀ tx : String, tx = (toString "Index " ++ toString i ++ toString " out of bounds for length " ++ toString n : String) → vx_Note p l e R s m args below meth c H locs cells slots Q (F0 m pc ls rest) "java/lang/ArrayIndexOutOfBoundsException" tx) : W p l e R s m args below meth c H locs cells slots Q (F0 m pc ls (.int i :: .ref a :: rest)) := by
  intro T hT X
  obtain ⟨t, st, q⟩ := k _ rfl T hT X
  refine ⟨t, ?_, q⟩
  have h1 := X.ialoadOut hexec (by rw [hT]; exact hP q0 _ ha) ((hK.2 t0 _ ht).1 n (fun j => .int (f j))) (j := i) (by show (i < 0 ∨ (arrV _ _ _).slots.size ≤ _); rw [arrV_size]; exact Classical.byContradiction hout) (g := F0 m pc ls (.int i :: .ref a :: rest)) rfl (rest := rest) rfl (by rw [hb]; exact hdg) t
  simp only [arrV_size] at h1
  exact h1 st
theorem vx_iastZ {D : va_G} {cl : List vw_C} {ws : va_W} {tys : List (ClassId × FieldType)} {a : Nat} (hexec : p.tables.exec = Jvm.exec) (hb : c.code = cc) (hK : va_K D cl tys s) (hP : va_P D cl ws H) (q0 t0 : Nat) {cA : ClassId} {n : Nat} {f : Nat → Int32} (ha : ws[q0]? = some (a, .inl (cA, n, .inl f))) (ht : tys[t0]? = some (cA, .int)) {i : Int32} {x : Int32} (hout : ¬ vp_in i n) (hdg : decode cc pc = .ok (.iastore, 1))
    (k : ∀ tx : String, tx = (toString "Index " ++ toString i ++ toString " out of bounds for length " ++ toString n : String) → vx_Note p l e R s m args below meth c H locs cells slots Q (F0 m pc ls rest) "java/lang/ArrayIndexOutOfBoundsException" tx) : W p l e R s m args below meth c H locs cells slots Q (F0 m pc ls (.int x :: .int i :: .ref a :: rest)) := by
  intro T hT X
  obtain ⟨t, st, q⟩ := k _ rfl T hT X
  refine ⟨t, ?_, q⟩
  have h1 := X.iastoreOut hexec (by rw [hT]; exact hP q0 _ ha) ((hK.2 t0 _ ht).1 n (fun j => .int (f j))) (j := i) (by show (i < 0 ∨ (arrV _ _ _).slots.size ≤ _); rw [arrV_size]; exact Classical.byContradiction hout) (g := F0 m pc ls (.int x :: .int i :: .ref a :: rest)) rfl (rest := rest) rfl (by rw [hb]; exact hdg) t
  simp only [arrV_size] at h1
  exact h1 st
theorem vx_baldZ {D : va_G} {cl : List vw_C} {ws : va_W} {tys : List (ClassId × FieldType)} {a : Nat} (hexec : p.tables.exec = Jvm.exec) (hb : c.code = cc) (hK : va_K D cl tys s) (hP : va_P D cl ws H) (q0 t0 : Nat) {cA : ClassId} {n : Nat} {f : Nat → Int32} (ha : ws[q0]? = some (a, .inl (cA, n, .inl f))) (ht : tys[t0]? = some (cA, .byte)) {i : Int32} (hout : ¬ vp_in i n) (hdg : decode cc pc = .ok (.baload, 1))
    (k : ∀ tx : String, tx = (toString "Index " ++ toString i ++ toString " out of bounds for length " ++ toString n : String) → vx_Note p l e R s m args below meth c H locs cells slots Q (F0 m pc ls rest) "java/lang/ArrayIndexOutOfBoundsException" tx) : W p l e R s m args below meth c H locs cells slots Q (F0 m pc ls (.int i :: .ref a :: rest)) := by
  intro T hT X
  obtain ⟨t, st, q⟩ := k _ rfl T hT X
  refine ⟨t, ?_, q⟩
  have h1 := X.baloadOut hexec (by rw [hT]; exact hP q0 _ ha) ((hK.2 t0 _ ht).1 n (fun j => .int (f j))) (j := i) (by show (i < 0 ∨ (arrV _ _ _).slots.size ≤ _); rw [arrV_size]; exact Classical.byContradiction hout) (g := F0 m pc ls (.int i :: .ref a :: rest)) rfl (rest := rest) rfl (by rw [hb]; exact hdg) t
  simp only [arrV_size] at h1
  exact h1 st
theorem vx_bastZ {D : va_G} {cl : List vw_C} {ws : va_W} {tys : List (ClassId × FieldType)} {a : Nat} (hexec : p.tables.exec = Jvm.exec) (hb : c.code = cc) (hK : va_K D cl tys s) (hP : va_P D cl ws H) (q0 t0 : Nat) {cA : ClassId} {n : Nat} {f : Nat → Int32} (ha : ws[q0]? = some (a, .inl (cA, n, .inl f))) (ht : tys[t0]? = some (cA, .byte)) {i : Int32} {x : Int32} (hout : ¬ vp_in i n) (hdg : decode cc pc = .ok (.bastore, 1))
    (k : ∀ tx : String, tx = (toString "Index " ++ toString i ++ toString " out of bounds for length " ++ toString n : String) → vx_Note p l e R s m args below meth c H locs cells slots Q (F0 m pc ls rest) "java/lang/ArrayIndexOutOfBoundsException" tx) : W p l e R s m args below meth c H locs cells slots Q (F0 m pc ls (.int x :: .int i :: .ref a :: rest)) := by
  intro T hT X
  obtain ⟨t, st, q⟩ := k _ rfl T hT X
  refine ⟨t, ?_, q⟩
  have h1 := X.bastoreOut hexec (by rw [hT]; exact hP q0 _ ha) ((hK.2 t0 _ ht).1 n (fun j => .int (f j))) (j := i) (by show (i < 0 ∨ (arrV _ _ _).slots.size ≤ _); rw [arrV_size]; exact Classical.byContradiction hout) (g := F0 m pc ls (.int x :: .int i :: .ref a :: rest)) rfl (rest := rest) rfl (by rw [hb]; exact hdg) t
  simp only [arrV_size] at h1
  exact h1 st
theorem vx_zaldZ {D : va_G} {cl : List vw_C} {ws : va_W} {tys : List (ClassId × FieldType)} {a : Nat} (hexec : p.tables.exec = Jvm.exec) (hb : c.code = cc) (hK : va_K D cl tys s) (hP : va_P D cl ws H) (q0 t0 : Nat) {cA : ClassId} {n : Nat} {f : Nat → Int32} (ha : ws[q0]? = some (a, .inl (cA, n, .inl f))) (ht : tys[t0]? = some (cA, .boolean)) {i : Int32} (hout : ¬ vp_in i n) (hdg : decode cc pc = .ok (.baload, 1))
    (k : ∀ tx : String, tx = (toString "Index " ++ toString i ++ toString " out of bounds for length " ++ toString n : String) → vx_Note p l e R s m args below meth c H locs cells slots Q (F0 m pc ls rest) "java/lang/ArrayIndexOutOfBoundsException" tx) : W p l e R s m args below meth c H locs cells slots Q (F0 m pc ls (.int i :: .ref a :: rest)) := by
  intro T hT X
  obtain ⟨t, st, q⟩ := k _ rfl T hT X
  refine ⟨t, ?_, q⟩
  have h1 := X.baloadOut hexec (by rw [hT]; exact hP q0 _ ha) ((hK.2 t0 _ ht).1 n (fun j => .int (f j))) (j := i) (by show (i < 0 ∨ (arrV _ _ _).slots.size ≤ _); rw [arrV_size]; exact Classical.byContradiction hout) (g := F0 m pc ls (.int i :: .ref a :: rest)) rfl (rest := rest) rfl (by rw [hb]; exact hdg) t
  simp only [arrV_size] at h1
  exact h1 st
theorem vx_zastZ {D : va_G} {cl : List vw_C} {ws : va_W} {tys : List (ClassId × FieldType)} {a : Nat} (hexec : p.tables.exec = Jvm.exec) (hb : c.code = cc) (hK : va_K D cl tys s) (hP : va_P D cl ws H) (q0 t0 : Nat) {cA : ClassId} {n : Nat} {f : Nat → Int32} (ha : ws[q0]? = some (a, .inl (cA, n, .inl f))) (ht : tys[t0]? = some (cA, .boolean)) {i : Int32} {x : Int32} (hout : ¬ vp_in i n) (hdg : decode cc pc = .ok (.bastore, 1))
    (k : ∀ tx : String, tx = (toString "Index " ++ toString i ++ toString " out of bounds for length " ++ toString n : String) → vx_Note p l e R s m args below meth c H locs cells slots Q (F0 m pc ls rest) "java/lang/ArrayIndexOutOfBoundsException" tx) : W p l e R s m args below meth c H locs cells slots Q (F0 m pc ls (.int x :: .int i :: .ref a :: rest)) := by
  intro T hT X
  obtain ⟨t, st, q⟩ := k _ rfl T hT X
  refine ⟨t, ?_, q⟩
  have h1 := X.bastoreOut hexec (by rw [hT]; exact hP q0 _ ha) ((hK.2 t0 _ ht).1 n (fun j => .int (f j))) (j := i) (by show (i < 0 ∨ (arrV _ _ _).slots.size ≤ _); rw [arrV_size]; exact Classical.byContradiction hout) (g := F0 m pc ls (.int x :: .int i :: .ref a :: rest)) rfl (rest := rest) rfl (by rw [hb]; exact hdg) t
  simp only [arrV_size] at h1
  exact h1 st
theorem vx_caldZ {D : va_G} {cl : List vw_C} {ws : va_W} {tys : List (ClassId × FieldType)} {a : Nat} (hexec : p.tables.exec = Jvm.exec) (hb : c.code = cc) (hK : va_K D cl tys s) (hP : va_P D cl ws H) (q0 t0 : Nat) {cA : ClassId} {n : Nat} {f : Nat → Int32} (ha : ws[q0]? = some (a, .inl (cA, n, .inl f))) (ht : tys[t0]? = some (cA, .char)) {i : Int32} (hout : ¬ vp_in i n) (hdg : decode cc pc = .ok (.caload, 1))
    (k : ∀ tx : String, tx = (toString "Index " ++ toString i ++ toString " out of bounds for length " ++ toString n : String) → vx_Note p l e R s m args below meth c H locs cells slots Q (F0 m pc ls rest) "java/lang/ArrayIndexOutOfBoundsException" tx) : W p l e R s m args below meth c H locs cells slots Q (F0 m pc ls (.int i :: .ref a :: rest)) := by
  intro T hT X
  obtain ⟨t, st, q⟩ := k _ rfl T hT X
  refine ⟨t, ?_, q⟩
  have h1 := X.caloadOut hexec (by rw [hT]; exact hP q0 _ ha) ((hK.2 t0 _ ht).1 n (fun j => .int (f j))) (j := i) (by show (i < 0 ∨ (arrV _ _ _).slots.size ≤ _); rw [arrV_size]; exact Classical.byContradiction hout) (g := F0 m pc ls (.int i :: .ref a :: rest)) rfl (rest := rest) rfl (by rw [hb]; exact hdg) t
  simp only [arrV_size] at h1
  exact h1 st
theorem vx_castZ {D : va_G} {cl : List vw_C} {ws : va_W} {tys : List (ClassId × FieldType)} {a : Nat} (hexec : p.tables.exec = Jvm.exec) (hb : c.code = cc) (hK : va_K D cl tys s) (hP : va_P D cl ws H) (q0 t0 : Nat) {cA : ClassId} {n : Nat} {f : Nat → Int32} (ha : ws[q0]? = some (a, .inl (cA, n, .inl f))) (ht : tys[t0]? = some (cA, .char)) {i : Int32} {x : Int32} (hout : ¬ vp_in i n) (hdg : decode cc pc = .ok (.castore, 1))
    (k : ∀ tx : String, tx = (toString "Index " ++ toString i ++ toString " out of bounds for length " ++ toString n : String) → vx_Note p l e R s m args below meth c H locs cells slots Q (F0 m pc ls rest) "java/lang/ArrayIndexOutOfBoundsException" tx) : W p l e R s m args below meth c H locs cells slots Q (F0 m pc ls (.int x :: .int i :: .ref a :: rest)) := by
  intro T hT X
  obtain ⟨t, st, q⟩ := k _ rfl T hT X
  refine ⟨t, ?_, q⟩
  have h1 := X.castoreOut hexec (by rw [hT]; exact hP q0 _ ha) ((hK.2 t0 _ ht).1 n (fun j => .int (f j))) (j := i) (by show (i < 0 ∨ (arrV _ _ _).slots.size ≤ _); rw [arrV_size]; exact Classical.byContradiction hout) (g := F0 m pc ls (.int x :: .int i :: .ref a :: rest)) rfl (rest := rest) rfl (by rw [hb]; exact hdg) t
  simp only [arrV_size] at h1
  exact h1 st
theorem vx_saldZ {D : va_G} {cl : List vw_C} {ws : va_W} {tys : List (ClassId × FieldType)} {a : Nat} (hexec : p.tables.exec = Jvm.exec) (hb : c.code = cc) (hK : va_K D cl tys s) (hP : va_P D cl ws H) (q0 t0 : Nat) {cA : ClassId} {n : Nat} {f : Nat → Int32} (ha : ws[q0]? = some (a, .inl (cA, n, .inl f))) (ht : tys[t0]? = some (cA, .short)) {i : Int32} (hout : ¬ vp_in i n) (hdg : decode cc pc = .ok (.saload, 1))
    (k : ∀ tx : String, tx = (toString "Index " ++ toString i ++ toString " out of bounds for length " ++ toString n : String) → vx_Note p l e R s m args below meth c H locs cells slots Q (F0 m pc ls rest) "java/lang/ArrayIndexOutOfBoundsException" tx) : W p l e R s m args below meth c H locs cells slots Q (F0 m pc ls (.int i :: .ref a :: rest)) := by
  intro T hT X
  obtain ⟨t, st, q⟩ := k _ rfl T hT X
  refine ⟨t, ?_, q⟩
  have h1 := X.saloadOut hexec (by rw [hT]; exact hP q0 _ ha) ((hK.2 t0 _ ht).1 n (fun j => .int (f j))) (j := i) (by show (i < 0 ∨ (arrV _ _ _).slots.size ≤ _); rw [arrV_size]; exact Classical.byContradiction hout) (g := F0 m pc ls (.int i :: .ref a :: rest)) rfl (rest := rest) rfl (by rw [hb]; exact hdg) t
  simp only [arrV_size] at h1
  exact h1 st
theorem vx_sastZ {D : va_G} {cl : List vw_C} {ws : va_W} {tys : List (ClassId × FieldType)} {a : Nat} (hexec : p.tables.exec = Jvm.exec) (hb : c.code = cc) (hK : va_K D cl tys s) (hP : va_P D cl ws H) (q0 t0 : Nat) {cA : ClassId} {n : Nat} {f : Nat → Int32} (ha : ws[q0]? = some (a, .inl (cA, n, .inl f))) (ht : tys[t0]? = some (cA, .short)) {i : Int32} {x : Int32} (hout : ¬ vp_in i n) (hdg : decode cc pc = .ok (.sastore, 1))
    (k : ∀ tx : String, tx = (toString "Index " ++ toString i ++ toString " out of bounds for length " ++ toString n : String) → vx_Note p l e R s m args below meth c H locs cells slots Q (F0 m pc ls rest) "java/lang/ArrayIndexOutOfBoundsException" tx) : W p l e R s m args below meth c H locs cells slots Q (F0 m pc ls (.int x :: .int i :: .ref a :: rest)) := by
  intro T hT X
  obtain ⟨t, st, q⟩ := k _ rfl T hT X
  refine ⟨t, ?_, q⟩
  have h1 := X.sastoreOut hexec (by rw [hT]; exact hP q0 _ ha) ((hK.2 t0 _ ht).1 n (fun j => .int (f j))) (j := i) (by show (i < 0 ∨ (arrV _ _ _).slots.size ≤ _); rw [arrV_size]; exact Classical.byContradiction hout) (g := F0 m pc ls (.int x :: .int i :: .ref a :: rest)) rfl (rest := rest) rfl (by rw [hb]; exact hdg) t
  simp only [arrV_size] at h1
  exact h1 st
theorem vx_laldZ {D : va_G} {cl : List vw_C} {ws : va_W} {tys : List (ClassId × FieldType)} {a : Nat} (hexec : p.tables.exec = Jvm.exec) (hb : c.code = cc) (hK : va_K D cl tys s) (hP : va_P D cl ws H) (q0 t0 : Nat) {cA : ClassId} {n : Nat} {f : Nat → Int64} (ha : ws[q0]? = some (a, .inl (cA, n, .inr (.inl f)))) (ht : tys[t0]? = some (cA, .long)) {i : Int32} (hout : ¬ vp_in i n) (hdg : decode cc pc = .ok (.laload, 1))
    (k : ∀ tx : String, tx = (toString "Index " ++ toString i ++ toString " out of bounds for length " ++ toString n : String) → vx_Note p l e R s m args below meth c H locs cells slots Q (F0 m pc ls rest) "java/lang/ArrayIndexOutOfBoundsException" tx) : W p l e R s m args below meth c H locs cells slots Q (F0 m pc ls (.int i :: .ref a :: rest)) := by
  intro T hT X
  obtain ⟨t, st, q⟩ := k _ rfl T hT X
  refine ⟨t, ?_, q⟩
  have h1 := X.laloadOut hexec (by rw [hT]; exact hP q0 _ ha) ((hK.2 t0 _ ht).1 n (fun j => .long (f j))) (j := i) (by show (i < 0 ∨ (arrV _ _ _).slots.size ≤ _); rw [arrV_size]; exact Classical.byContradiction hout) (g := F0 m pc ls (.int i :: .ref a :: rest)) rfl (rest := rest) rfl (by rw [hb]; exact hdg) t
  simp only [arrV_size] at h1
  exact h1 st
theorem vx_lastZ {D : va_G} {cl : List vw_C} {ws : va_W} {tys : List (ClassId × FieldType)} {a : Nat} (hexec : p.tables.exec = Jvm.exec) (hb : c.code = cc) (hK : va_K D cl tys s) (hP : va_P D cl ws H) (q0 t0 : Nat) {cA : ClassId} {n : Nat} {f : Nat → Int64} (ha : ws[q0]? = some (a, .inl (cA, n, .inr (.inl f)))) (ht : tys[t0]? = some (cA, .long)) {i : Int32} {x : Int64} (hout : ¬ vp_in i n) (hdg : decode cc pc = .ok (.lastore, 1))
    (k : ∀ tx : String, tx = (toString "Index " ++ toString i ++ toString " out of bounds for length " ++ toString n : String) → vx_Note p l e R s m args below meth c H locs cells slots Q (F0 m pc ls rest) "java/lang/ArrayIndexOutOfBoundsException" tx) : W p l e R s m args below meth c H locs cells slots Q (F0 m pc ls (.long x :: .int i :: .ref a :: rest)) := by
  intro T hT X
  obtain ⟨t, st, q⟩ := k _ rfl T hT X
  refine ⟨t, ?_, q⟩
  have h1 := X.lastoreOut hexec (by rw [hT]; exact hP q0 _ ha) ((hK.2 t0 _ ht).1 n (fun j => .long (f j))) (j := i) (by show (i < 0 ∨ (arrV _ _ _).slots.size ≤ _); rw [arrV_size]; exact Classical.byContradiction hout) (g := F0 m pc ls (.long x :: .int i :: .ref a :: rest)) rfl (rest := rest) rfl (by rw [hb]; exact hdg) t
  simp only [arrV_size] at h1
  exact h1 st
theorem vx_faldZ {D : va_G} {cl : List vw_C} {ws : va_W} {tys : List (ClassId × FieldType)} {a : Nat} (hexec : p.tables.exec = Jvm.exec) (hb : c.code = cc) (hK : va_K D cl tys s) (hP : va_P D cl ws H) (q0 t0 : Nat) {cA : ClassId} {n : Nat} {f : Nat → UInt32} (ha : ws[q0]? = some (a, .inl (cA, n, .inr (.inr (.inl f))))) (ht : tys[t0]? = some (cA, .float)) {i : Int32} (hout : ¬ vp_in i n) (hdg : decode cc pc = .ok (.faload, 1))
    (k : ∀ tx : String, tx = (toString "Index " ++ toString i ++ toString " out of bounds for length " ++ toString n : String) → vx_Note p l e R s m args below meth c H locs cells slots Q (F0 m pc ls rest) "java/lang/ArrayIndexOutOfBoundsException" tx) : W p l e R s m args below meth c H locs cells slots Q (F0 m pc ls (.int i :: .ref a :: rest)) := by
  intro T hT X
  obtain ⟨t, st, q⟩ := k _ rfl T hT X
  refine ⟨t, ?_, q⟩
  have h1 := X.faloadOut hexec (by rw [hT]; exact hP q0 _ ha) ((hK.2 t0 _ ht).1 n (fun j => .float (f j))) (j := i) (by show (i < 0 ∨ (arrV _ _ _).slots.size ≤ _); rw [arrV_size]; exact Classical.byContradiction hout) (g := F0 m pc ls (.int i :: .ref a :: rest)) rfl (rest := rest) rfl (by rw [hb]; exact hdg) t
  simp only [arrV_size] at h1
  exact h1 st
theorem vx_fastZ {D : va_G} {cl : List vw_C} {ws : va_W} {tys : List (ClassId × FieldType)} {a : Nat} (hexec : p.tables.exec = Jvm.exec) (hb : c.code = cc) (hK : va_K D cl tys s) (hP : va_P D cl ws H) (q0 t0 : Nat) {cA : ClassId} {n : Nat} {f : Nat → UInt32} (ha : ws[q0]? = some (a, .inl (cA, n, .inr (.inr (.inl f))))) (ht : tys[t0]? = some (cA, .float)) {i : Int32} {x : UInt32} (hout : ¬ vp_in i n) (hdg : decode cc pc = .ok (.fastore, 1))
    (k : ∀ tx : String, tx = (toString "Index " ++ toString i ++ toString " out of bounds for length " ++ toString n : String) → vx_Note p l e R s m args below meth c H locs cells slots Q (F0 m pc ls rest) "java/lang/ArrayIndexOutOfBoundsException" tx) : W p l e R s m args below meth c H locs cells slots Q (F0 m pc ls (.float x :: .int i :: .ref a :: rest)) := by
  intro T hT X
  obtain ⟨t, st, q⟩ := k _ rfl T hT X
  refine ⟨t, ?_, q⟩
  have h1 := X.fastoreOut hexec (by rw [hT]; exact hP q0 _ ha) ((hK.2 t0 _ ht).1 n (fun j => .float (f j))) (j := i) (by show (i < 0 ∨ (arrV _ _ _).slots.size ≤ _); rw [arrV_size]; exact Classical.byContradiction hout) (g := F0 m pc ls (.float x :: .int i :: .ref a :: rest)) rfl (rest := rest) rfl (by rw [hb]; exact hdg) t
  simp only [arrV_size] at h1
  exact h1 st
theorem vx_daldZ {D : va_G} {cl : List vw_C} {ws : va_W} {tys : List (ClassId × FieldType)} {a : Nat} (hexec : p.tables.exec = Jvm.exec) (hb : c.code = cc) (hK : va_K D cl tys s) (hP : va_P D cl ws H) (q0 t0 : Nat) {cA : ClassId} {n : Nat} {f : Nat → UInt64} (ha : ws[q0]? = some (a, .inl (cA, n, .inr (.inr (.inr (.inl f)))))) (ht : tys[t0]? = some (cA, .double)) {i : Int32} (hout : ¬ vp_in i n) (hdg : decode cc pc = .ok (.daload, 1))
    (k : ∀ tx : String, tx = (toString "Index " ++ toString i ++ toString " out of bounds for length " ++ toString n : String) → vx_Note p l e R s m args below meth c H locs cells slots Q (F0 m pc ls rest) "java/lang/ArrayIndexOutOfBoundsException" tx) : W p l e R s m args below meth c H locs cells slots Q (F0 m pc ls (.int i :: .ref a :: rest)) := by
  intro T hT X
  obtain ⟨t, st, q⟩ := k _ rfl T hT X
  refine ⟨t, ?_, q⟩
  have h1 := X.daloadOut hexec (by rw [hT]; exact hP q0 _ ha) ((hK.2 t0 _ ht).1 n (fun j => .double (f j))) (j := i) (by show (i < 0 ∨ (arrV _ _ _).slots.size ≤ _); rw [arrV_size]; exact Classical.byContradiction hout) (g := F0 m pc ls (.int i :: .ref a :: rest)) rfl (rest := rest) rfl (by rw [hb]; exact hdg) t
  simp only [arrV_size] at h1
  exact h1 st
theorem vx_dastZ {D : va_G} {cl : List vw_C} {ws : va_W} {tys : List (ClassId × FieldType)} {a : Nat} (hexec : p.tables.exec = Jvm.exec) (hb : c.code = cc) (hK : va_K D cl tys s) (hP : va_P D cl ws H) (q0 t0 : Nat) {cA : ClassId} {n : Nat} {f : Nat → UInt64} (ha : ws[q0]? = some (a, .inl (cA, n, .inr (.inr (.inr (.inl f)))))) (ht : tys[t0]? = some (cA, .double)) {i : Int32} {x : UInt64} (hout : ¬ vp_in i n) (hdg : decode cc pc = .ok (.dastore, 1))
    (k : ∀ tx : String, tx = (toString "Index " ++ toString i ++ toString " out of bounds for length " ++ toString n : String) → vx_Note p l e R s m args below meth c H locs cells slots Q (F0 m pc ls rest) "java/lang/ArrayIndexOutOfBoundsException" tx) : W p l e R s m args below meth c H locs cells slots Q (F0 m pc ls (.double x :: .int i :: .ref a :: rest)) := by
  intro T hT X
  obtain ⟨t, st, q⟩ := k _ rfl T hT X
  refine ⟨t, ?_, q⟩
  have h1 := X.dastoreOut hexec (by rw [hT]; exact hP q0 _ ha) ((hK.2 t0 _ ht).1 n (fun j => .double (f j))) (j := i) (by show (i < 0 ∨ (arrV _ _ _).slots.size ≤ _); rw [arrV_size]; exact Classical.byContradiction hout) (g := F0 m pc ls (.double x :: .int i :: .ref a :: rest)) rfl (rest := rest) rfl (by rw [hb]; exact hdg) t
  simp only [arrV_size] at h1
  exact h1 st
theorem vx_arraylengthN (hexec : p.tables.exec = Jvm.exec) (hb : c.code = cc) (hdg : decode cc pc = .ok (.arraylength, 1)) (k : vx_NoteN p l e R s m args below meth c H locs cells slots Q (F0 m pc ls rest)) : W p l e R s m args below meth c H locs cells slots Q (F0 m pc ls (.null :: rest)) := by
  intro T hT X
  obtain ⟨t, st, q⟩ := k T hT X
  exact ⟨t, X.arraylengthNull hexec (g := F0 m pc ls (.null :: rest)) rfl (rest := rest) rfl (by rw [hb]; exact hdg) t st, q⟩
theorem vx_ialoadN (hexec : p.tables.exec = Jvm.exec) (hb : c.code = cc) {i : Int32} (hdg : decode cc pc = .ok (.iaload, 1)) (k : vx_NoteN p l e R s m args below meth c H locs cells slots Q (F0 m pc ls rest)) : W p l e R s m args below meth c H locs cells slots Q (F0 m pc ls (.int i :: .null :: rest)) := by
  intro T hT X
  obtain ⟨t, st, q⟩ := k T hT X
  exact ⟨t, X.ialoadNull hexec (g := F0 m pc ls (.int i :: .null :: rest)) rfl (rest := rest) rfl (by rw [hb]; exact hdg) t st, q⟩
theorem vx_laloadN (hexec : p.tables.exec = Jvm.exec) (hb : c.code = cc) {i : Int32} (hdg : decode cc pc = .ok (.laload, 1)) (k : vx_NoteN p l e R s m args below meth c H locs cells slots Q (F0 m pc ls rest)) : W p l e R s m args below meth c H locs cells slots Q (F0 m pc ls (.int i :: .null :: rest)) := by
  intro T hT X
  obtain ⟨t, st, q⟩ := k T hT X
  exact ⟨t, X.laloadNull hexec (g := F0 m pc ls (.int i :: .null :: rest)) rfl (rest := rest) rfl (by rw [hb]; exact hdg) t st, q⟩
theorem vx_faloadN (hexec : p.tables.exec = Jvm.exec) (hb : c.code = cc) {i : Int32} (hdg : decode cc pc = .ok (.faload, 1)) (k : vx_NoteN p l e R s m args below meth c H locs cells slots Q (F0 m pc ls rest)) : W p l e R s m args below meth c H locs cells slots Q (F0 m pc ls (.int i :: .null :: rest)) := by
  intro T hT X
  obtain ⟨t, st, q⟩ := k T hT X
  exact ⟨t, X.faloadNull hexec (g := F0 m pc ls (.int i :: .null :: rest)) rfl (rest := rest) rfl (by rw [hb]; exact hdg) t st, q⟩
theorem vx_daloadN (hexec : p.tables.exec = Jvm.exec) (hb : c.code = cc) {i : Int32} (hdg : decode cc pc = .ok (.daload, 1)) (k : vx_NoteN p l e R s m args below meth c H locs cells slots Q (F0 m pc ls rest)) : W p l e R s m args below meth c H locs cells slots Q (F0 m pc ls (.int i :: .null :: rest)) := by
  intro T hT X
  obtain ⟨t, st, q⟩ := k T hT X
  exact ⟨t, X.daloadNull hexec (g := F0 m pc ls (.int i :: .null :: rest)) rfl (rest := rest) rfl (by rw [hb]; exact hdg) t st, q⟩
theorem vx_aaloadN (hexec : p.tables.exec = Jvm.exec) (hb : c.code = cc) {i : Int32} (hdg : decode cc pc = .ok (.aaload, 1)) (k : vx_NoteN p l e R s m args below meth c H locs cells slots Q (F0 m pc ls rest)) : W p l e R s m args below meth c H locs cells slots Q (F0 m pc ls (.int i :: .null :: rest)) := by
  intro T hT X
  obtain ⟨t, st, q⟩ := k T hT X
  exact ⟨t, X.aaloadNull hexec (g := F0 m pc ls (.int i :: .null :: rest)) rfl (rest := rest) rfl (by rw [hb]; exact hdg) t st, q⟩
theorem vx_baloadN (hexec : p.tables.exec = Jvm.exec) (hb : c.code = cc) {i : Int32} (hdg : decode cc pc = .ok (.baload, 1)) (k : vx_NoteN p l e R s m args below meth c H locs cells slots Q (F0 m pc ls rest)) : W p l e R s m args below meth c H locs cells slots Q (F0 m pc ls (.int i :: .null :: rest)) := by
  intro T hT X
  obtain ⟨t, st, q⟩ := k T hT X
  exact ⟨t, X.baloadNull hexec (g := F0 m pc ls (.int i :: .null :: rest)) rfl (rest := rest) rfl (by rw [hb]; exact hdg) t st, q⟩
theorem vx_caloadN (hexec : p.tables.exec = Jvm.exec) (hb : c.code = cc) {i : Int32} (hdg : decode cc pc = .ok (.caload, 1)) (k : vx_NoteN p l e R s m args below meth c H locs cells slots Q (F0 m pc ls rest)) : W p l e R s m args below meth c H locs cells slots Q (F0 m pc ls (.int i :: .null :: rest)) := by
  intro T hT X
  obtain ⟨t, st, q⟩ := k T hT X
  exact ⟨t, X.caloadNull hexec (g := F0 m pc ls (.int i :: .null :: rest)) rfl (rest := rest) rfl (by rw [hb]; exact hdg) t st, q⟩
theorem vx_saloadN (hexec : p.tables.exec = Jvm.exec) (hb : c.code = cc) {i : Int32} (hdg : decode cc pc = .ok (.saload, 1)) (k : vx_NoteN p l e R s m args below meth c H locs cells slots Q (F0 m pc ls rest)) : W p l e R s m args below meth c H locs cells slots Q (F0 m pc ls (.int i :: .null :: rest)) := by
  intro T hT X
  obtain ⟨t, st, q⟩ := k T hT X
  exact ⟨t, X.saloadNull hexec (g := F0 m pc ls (.int i :: .null :: rest)) rfl (rest := rest) rfl (by rw [hb]; exact hdg) t st, q⟩
theorem vx_iastoreN (hexec : p.tables.exec = Jvm.exec) (hb : c.code = cc) {x : Int32} {i : Int32} (hdg : decode cc pc = .ok (.iastore, 1)) (k : vx_NoteN p l e R s m args below meth c H locs cells slots Q (F0 m pc ls rest)) : W p l e R s m args below meth c H locs cells slots Q (F0 m pc ls (.int x :: .int i :: .null :: rest)) := by
  intro T hT X
  obtain ⟨t, st, q⟩ := k T hT X
  exact ⟨t, X.iastoreNull hexec (g := F0 m pc ls (.int x :: .int i :: .null :: rest)) rfl (rest := rest) rfl (by rw [hb]; exact hdg) t st, q⟩
theorem vx_lastoreN (hexec : p.tables.exec = Jvm.exec) (hb : c.code = cc) {x : Int64} {i : Int32} (hdg : decode cc pc = .ok (.lastore, 1)) (k : vx_NoteN p l e R s m args below meth c H locs cells slots Q (F0 m pc ls rest)) : W p l e R s m args below meth c H locs cells slots Q (F0 m pc ls (.long x :: .int i :: .null :: rest)) := by
  intro T hT X
  obtain ⟨t, st, q⟩ := k T hT X
  exact ⟨t, X.lastoreNull hexec (g := F0 m pc ls (.long x :: .int i :: .null :: rest)) rfl (rest := rest) rfl (by rw [hb]; exact hdg) t st, q⟩
theorem vx_fastoreN (hexec : p.tables.exec = Jvm.exec) (hb : c.code = cc) {x : UInt32} {i : Int32} (hdg : decode cc pc = .ok (.fastore, 1)) (k : vx_NoteN p l e R s m args below meth c H locs cells slots Q (F0 m pc ls rest)) : W p l e R s m args below meth c H locs cells slots Q (F0 m pc ls (.float x :: .int i :: .null :: rest)) := by
  intro T hT X
  obtain ⟨t, st, q⟩ := k T hT X
  exact ⟨t, X.fastoreNull hexec (g := F0 m pc ls (.float x :: .int i :: .null :: rest)) rfl (rest := rest) rfl (by rw [hb]; exact hdg) t st, q⟩
theorem vx_dastoreN (hexec : p.tables.exec = Jvm.exec) (hb : c.code = cc) {x : UInt64} {i : Int32} (hdg : decode cc pc = .ok (.dastore, 1)) (k : vx_NoteN p l e R s m args below meth c H locs cells slots Q (F0 m pc ls rest)) : W p l e R s m args below meth c H locs cells slots Q (F0 m pc ls (.double x :: .int i :: .null :: rest)) := by
  intro T hT X
  obtain ⟨t, st, q⟩ := k T hT X
  exact ⟨t, X.dastoreNull hexec (g := F0 m pc ls (.double x :: .int i :: .null :: rest)) rfl (rest := rest) rfl (by rw [hb]; exact hdg) t st, q⟩
theorem vx_bastoreN (hexec : p.tables.exec = Jvm.exec) (hb : c.code = cc) {x : Int32} {i : Int32} (hdg : decode cc pc = .ok (.bastore, 1)) (k : vx_NoteN p l e R s m args below meth c H locs cells slots Q (F0 m pc ls rest)) : W p l e R s m args below meth c H locs cells slots Q (F0 m pc ls (.int x :: .int i :: .null :: rest)) := by
  intro T hT X
  obtain ⟨t, st, q⟩ := k T hT X
  exact ⟨t, X.bastoreNull hexec (g := F0 m pc ls (.int x :: .int i :: .null :: rest)) rfl (rest := rest) rfl (by rw [hb]; exact hdg) t st, q⟩
theorem vx_castoreN (hexec : p.tables.exec = Jvm.exec) (hb : c.code = cc) {x : Int32} {i : Int32} (hdg : decode cc pc = .ok (.castore, 1)) (k : vx_NoteN p l e R s m args below meth c H locs cells slots Q (F0 m pc ls rest)) : W p l e R s m args below meth c H locs cells slots Q (F0 m pc ls (.int x :: .int i :: .null :: rest)) := by
  intro T hT X
  obtain ⟨t, st, q⟩ := k T hT X
  exact ⟨t, X.castoreNull hexec (g := F0 m pc ls (.int x :: .int i :: .null :: rest)) rfl (rest := rest) rfl (by rw [hb]; exact hdg) t st, q⟩
theorem vx_sastoreN (hexec : p.tables.exec = Jvm.exec) (hb : c.code = cc) {x : Int32} {i : Int32} (hdg : decode cc pc = .ok (.sastore, 1)) (k : vx_NoteN p l e R s m args below meth c H locs cells slots Q (F0 m pc ls rest)) : W p l e R s m args below meth c H locs cells slots Q (F0 m pc ls (.int x :: .int i :: .null :: rest)) := by
  intro T hT X
  obtain ⟨t, st, q⟩ := k T hT X
  exact ⟨t, X.sastoreNull hexec (g := F0 m pc ls (.int x :: .int i :: .null :: rest)) rfl (rest := rest) rfl (by rw [hb]; exact hdg) t st, q⟩
theorem vx_invokeN {own C : String} {index maxL : Nat} {y : MethodName} {bytes : ByteArray} {ret : Option FieldType} (hexec : p.tables.exec = Jvm.exec) (hb : c.code = cc) (hown : s.vm.findClass own = some m.cls) (hlink : (Cond.methodLink own index y).before args s = true) (hinst : (Cond.instanceMethod y).before args s = true) (hcode : (Cond.code y bytes maxL ret).before args s = true) (hsel : (Cond.selects C y y).before args s = true)
    (hx : y.cls ≠ "java/lang/invoke/MethodHandle" ∧ y.cls ≠ "java/lang/invoke/VarHandle") {As : List Value} (hlen : (parseMethodDescriptor y.desc).map (fun d => d.parameters.length) = some As.length) (hdg : decode cc pc = .ok (.invokevirtual index, 3))
    (k : vx_NoteN p l e R s m args below meth c H locs cells slots Q (F0 m pc ls rest)) {st0 : List Value} (hst : st0 = As.reverse ++ .null :: rest) : W p l e R s m args below meth c H locs cells slots Q (F0 m pc ls st0) := by
  intro T hT X
  obtain ⟨r0, r, hn, hrm, hstR, hsigR⟩ := va_Decl.of hinst hcode
  obtain ⟨c2, r2, m2, q1, q2, q3, q4, kP, hkP, hkPi⟩ := Cond.selects_spec hsel
  cases hn.symm.trans q3
  have hl9 : As.length = r.sig.parameters.length := by
    rw [hsigR] at hlen
    exact (Option.some.inj hlen).symm
  obtain ⟨vm', X1, st1⟩ := X.invokevirtualNull hexec hown hlink hn hrm hstR hkP hkPi hx (g := F0 m pc ls st0) rfl (argsL := As) (rest := rest) hl9 hst (by rw [hb]; exact hdg)
  obtain ⟨t, st, q⟩ := k (T.setVm vm') hT X1
  exact ⟨t, st1 t st, q⟩
theorem vx_newarrayZ {atype : ArrayType} (hexec : p.tables.exec = Jvm.exec) (hb : c.code = cc) {n : Int32} (h0 : n < 0) (hdg : decode cc pc = .ok (.newarray atype, 2)) (k : ∀ tx : String, tx = toString n → vx_Note p l e R s m args below meth c H locs cells slots Q (F0 m pc ls rest) "java/lang/NegativeArraySizeException" tx) : W p l e R s m args below meth c H locs cells slots Q (F0 m pc ls (.int n :: rest)) := by
  intro T hT X
  obtain ⟨t, st, q⟩ := k _ rfl T hT X
  exact ⟨t, X.newarrayNegative hexec (g := F0 m pc ls (.int n :: rest)) rfl h0 (rest := rest) rfl (by rw [hb]; exact hdg) t st, q⟩
end
end VXM
/-! ===== END ===== -/
/-! ===== BEGIN an exception as an object: made, kept, thrown later (no traces kept) ===== -/
section VXK
variable {p : Program} {l : Launch} {e : Env} {R : Room} {s : State} {m₀ : MethodId} {args : Array Value} {below : List Frame} {meth : Method} {c : Code} {W : State} {locs : List Loc} {cells slots : Nat}
set_option maxHeartbeats 1000000 in
theorem vx_ctorMadeS (X : Stand p l e R s m₀ args below meth c W locs cells slots) (hexec : p.tables.exec = Jvm.exec) (htr : e.platform.stackTraces = false) {own cls : String} {names : List String} {ic : Nat}
    (hown : s.vm.findClass own = some m₀.cls) (hcls : Bundle.fit cls = true) (hnames : ∀ n ∈ names, Bundle.fit n = true)
    (h : ∀ a ∈ Bundle.ownAtoms own ic cls names, a.before args s = true)
    (hlocs : ∀ x ∈ locs, ∀ cell, s.heap[x.base]? = some cell → cell.vm.isStatics = false)
    {a : Addr} {cX : ClassId} {kX : Class} (hfoundX : s.vm.findClass cls = some cX) (hkX : s.vm.classes[cX]? = some kX) (hcell : W.heap[a]? = some (freshCell cX kX)) (hnew : s.heap.size ≤ a)
    {msg : Value} (hmsg : msg.isRef = true)
    {g : JFrame} (hg : g.method = m₀) (hsize : g.locals.size = c.maxLocals) {rest : List Value} (hstack : g.stack = msg :: .ref a :: .ref a :: rest)
    (hd6 : decode c.code g.pc = .ok (.invokespecial ic, 3))
    (hRframes : names.length + 3 < R.frames) (hRlocals : 2 * g.monitorRoom + ((Value.ref a :: rest).map fun v => v.category).sum + (13 * (names.length + 1) + 42) ≤ R.locals) :
    ∃ (V : State) (ce : Cell) (L : List Loc), Stand p l e R s m₀ args below meth c (V.setCell a ce) (locs ++ L) cells slots ∧ (∀ y ∈ L, y.base = a) ∧ a < V.heap.size ∧ ce.cls = cX ∧ ce.vm = .none ∧
      ∀ target, Steps p.tables e below ((V.setCell a ce).setTop { g with stack := .ref a :: rest, pc := g.pc + 3 }) target → Steps p.tables e below (W.setTop g) target := by
  have howns : e.platform.frameOwnsMonitors = true := by rw [X.admits.platform]
  have hfin : e.platform.finalization = false := by rw [X.admits.platform]
  have hpl : e.platform.magicAccessors = ({} : Platform).magicAccessors := by rw [X.admits.platform]
  have a' : ∀ x, x ∈ Bundle.ownAtoms own ic cls names → x.holds args s none s [] = true := fun x hx => h x hx
  obtain ⟨T, Z0, L, -, Y⟩ := ThrowableC.of_atoms (args := args) howns hfin hpl (fun x hx => h x (by simp [Bundle.ownAtoms, hx]))
  obtain ⟨Z, M, LZ, LM, hnZ⟩ := Init0T.ofS_atoms (args := args) hpl L Y (fun x hx => h x (by simp [Bundle.ownAtoms, hx]))
  obtain ⟨P1, Ps, hlen, L1, hL, hP1m, hlink1, hlink⟩ := Bundle.chainS (args := args) hpl hnZ names cls hcls hnames (fun x hx => h x (by simp [Bundle.ownAtoms, hx]))
  have hfound : s.vm.findClass cls = some P1.m.cls := findClass_of_methodNamed hP1m
  cases Option.some.inj (hfoundX.symm.trans hfound)
  obtain ⟨c1, kX', hc1, hk, hord, -, -, hn6⟩ := Cond.instantiable_spec (a' (.instantiable cls 6) (by simp [Bundle.ownAtoms]))
  cases Option.some.inj (hc1.symm.trans hfound)
  cases Option.some.inj (hkX.symm.trans hk)
  have hsel0 : selectMethod e.platform s.vm P1.m.cls T.fill0 = .method T.fill0 := by
    obtain ⟨c2, r2, m2, q1, q2, q3, q4, -⟩ := Cond.selects_spec (a' (.selects cls Bundle.tFill0 Bundle.tFill0) (by simp [Bundle.ownAtoms]))
    cases Option.some.inj (q1.symm.trans hfound)
    cases Option.some.inj (q2.symm.trans (State.methodFound?_of_named Y.fill0 (by decide)))
    cases Option.some.inj (q3.symm.trans Y.fill0)
    rw [Launch.admits_selectMethod X.admits]; exact q4
  have hselF : selectMethod e.platform s.vm P1.m.cls T.fill = .method T.fill := by
    obtain ⟨c2, r2, m2, q1, q2, q3, q4, -⟩ := Cond.selects_spec (a' (.selects cls Bundle.tFill Bundle.tFill) (by simp [Bundle.ownAtoms]))
    cases Option.some.inj (q1.symm.trans hfound)
    cases Option.some.inj (q2.symm.trans (State.methodFound?_of_named Y.fill (by decide)))
    cases Option.some.inj (q3.symm.trans Y.fill)
    rw [Launch.admits_selectMethod X.admits]; exact q4
  obtain ⟨cellS0, hcS0, hiss⟩ := Y.statics
  obtain ⟨u0, hu0⟩ := Cond.staticRefV Y.unassigned L.unassignedStatic L.statics hcS0 hiss (a' (.isRef (.static Bundle.tN "UNASSIGNED_STACK" Bundle.steD)) (by simp [Bundle.ownAtoms]))
  obtain ⟨sen, hsen⟩ := Cond.staticRefV Y.sentinel L.sentinelStatic L.statics hcS0 hiss (a' (.isRef (.static Bundle.tN "SUPPRESSED_SENTINEL" Bundle.listD)) (by simp [Bundle.ownAtoms]))
  obtain ⟨ci198, i198, fB, hk198, hg198, ha198, hsB, -, hnB, htB, hffB⟩ := Cond.ownField (t := .object "java/lang/Object") Y.found L.cls (by decide +kernel) (a' (.fieldLink Bundle.tN 198 Bundle.tN "backtrace" "Ljava/lang/Object;") (by simp [Bundle.ownAtoms])) (a' (.lays Bundle.tN Bundle.tN "backtrace" "Ljava/lang/Object;") (by simp [Bundle.ownAtoms])) e.platform hpl
  obtain ⟨cellS, hcS', heS, -, hkeep⟩ := X.same.2.2.2.2.2 T.aS cellS0 hcS0
  have hcellS : W.heap[T.aS]? = some cellS := hcS'
  have hout' : ∀ i, (⟨T.aS, i⟩ : Loc) ∉ locs := fun i hmem => by
    have := hlocs _ hmem cellS0 hcS0
    rw [hiss] at this; cases this
  have hknownS : cellS.vm ≠ .unknown := by
    rw [heS]; intro hu
    rw [show cellS0.vm = .unknown from hu] at hiss
    cases hiss
  have hneS : T.aS ≠ a := Nat.ne_of_lt (Nat.lt_of_lt_of_le (Array.getElem?_eq_some_iff.mp hcS0).1 hnew)
  obtain ⟨iM, hffM⟩ := Y.msg
  obtain ⟨tyC, dC, hdC, hdnC⟩ := Cond.laysAt hfound hk Y.cause (a' (.lays cls Bundle.tN "cause" "Ljava/lang/Throwable;") (by simp [Bundle.ownAtoms]))
  obtain ⟨tyS, dS, hdS, hdnS⟩ := Cond.laysAt hfound hk Y.stack (a' (.lays cls Bundle.tN "stackTrace" Bundle.steD) (by simp [Bundle.ownAtoms]))
  obtain ⟨tyP, dP, hdP, hdnP⟩ := Cond.laysAt hfound hk Y.supp (a' (.lays cls Bundle.tN "suppressedExceptions" Bundle.listD) (by simp [Bundle.ownAtoms]))
  obtain ⟨tyM, dM, hdM, hdnM⟩ := Cond.laysAt hfound hk hffM (a' (.lays cls Bundle.tN "detailMessage" "Ljava/lang/String;") (by simp [Bundle.ownAtoms]))
  obtain ⟨tyB, dB, hdB, hdnB⟩ := Cond.laysAt hfound hk hffB (a' (.lays cls Bundle.tN "backtrace" "Ljava/lang/Object;") (by simp [Bundle.ownAtoms]))
  have bC := Cond.laysApart hdB hdC hdnB hdnC (by rw [hnB, Y.causeName]; decide)
  have bS := Cond.laysApart hdB hdS hdnB hdnS (by rw [hnB, Y.stackName]; decide)
  have bP := Cond.laysApart hdB hdP hdnB hdnP (by rw [hnB, Y.suppName]; decide)
  have hskip : SkipFacts T e.platform s (fun u => u) u0 ((preparedCellV T.toThrowableT (freshCell P1.m.cls kX) a u0 sen).withEntry W.cur) :=
    ⟨{ ci198 := ci198, i198 := i198, fBack := fB }, ⟨hk198, hg198, ha198, hsB⟩, by
      have := fresh_default (c := P1.m.cls) tyB
      rw [htB] at this
      simpa [preparedCellV, Cell.setSlot, Cell.withEntry, Array.getElem?_setIfInBounds, bC, bS, bP, bC.symm, bS.symm, bP.symm, defaultValue] using this, fun _ _ => rfl⟩
  obtain ⟨tm, methC, cdC, kC, vm₁, hnC, -, -, -, -, -, -, -, hW₁, st1⟩ := Steps.initColdS (tb := p.tables) (e := e) (below := below) (s := s) (U := W) X.here hexec X.warmed hpl hown (t := Bundle.initS cls) rfl rfl (Bundle.fit_spec hcls).2
    (a' (.methodLink own ic (Bundle.initS cls)) (by simp [Bundle.ownAtoms])) (h (.instanceMethod (Bundle.initS cls)) (by cases names <;> simp [Bundle.ownAtoms, Bundle.chainSAtoms, Bundle.passSAtoms])) (bytes := Bundle.six) (maxL := 2) (h (.code (Bundle.initS cls) Bundle.six 2 none) (by cases names <;> simp [Bundle.ownAtoms, Bundle.chainSAtoms, Bundle.passSAtoms]))
    (f := g) hg (a := a) (msg := msg) (rest := .ref a :: rest) hstack hd6
  cases Option.some.inj (hnC.symm.trans hP1m)
  have X₁ := X.noted hW₁
  obtain ⟨vm₂, X₂, st2⟩ := X₁.ctorMessageOffV hexec (g := { g with stack := .ref a :: rest }) hg hsize T L Z LZ M LM (P1 :: Ps)
    (fun P hP => by rcases List.mem_cons.mp hP with rfl | hP; exact L1; exact hL P hP) ⟨hlink1, hlink⟩ (u0 := u0) (sen := sen) (self := a) hmsg (cell := freshCell P1.m.cls kX) (cellS := cellS)
    hcell (fun _ => by simp) (by simp) rfl rfl hsel0 hselF hcellS hneS hknownS (by rw [hkeep _ (hout' _)]; exact hu0) (by rw [hkeep _ (hout' _)]; exact hsen)
    (Takes.of_laid hk hord tyC (by rw [Y.causeType]; rfl)) (Takes.of_laid hk hord tyS (by rw [Y.stackType]; exact fits_refV_array _ u0)) (Takes.of_laid hk hord tyP (by rw [Y.suppType]; exact fits_refV_object _ sen))
    (Takes.of_laid hk hord tyM (by rw [Y.msgType]; exact fits_refV_object _ ⟨msg, hmsg⟩)) Y.objLocals hskip htr [] hd6
    (by simp only [List.length_cons, hlen]; omega) (by simp only [List.length_cons, hlen]; exact hRlocals)
  have hlt : a < ((W.setVm vm₁).setVm vm₂).heap.size := (Array.getElem?_eq_some_iff.mp hcell).1
  refine ⟨(W.setVm vm₁).setVm vm₂, _, _, X₂, fun y hy => ?_, hlt, rfl, rfl, fun target hwalk => st1 _ (fun acts => ?_)⟩
  · simp only [List.mem_cons, List.not_mem_nil, or_false] at hy
    rcases hy with rfl | rfl | rfl | rfl | rfl <;> rfl
  · rw [doInvoke_state]
    exact st2 _ hwalk
set_option maxHeartbeats 1000000 in
theorem vx_ctorMade0 (X : Stand p l e R s m₀ args below meth c W locs cells slots) (hexec : p.tables.exec = Jvm.exec) (htr : e.platform.stackTraces = false) {own cls : String} {names : List String} {ic : Nat}
    (hown : s.vm.findClass own = some m₀.cls) (hcls : Bundle.fit cls = true) (hnames : ∀ n ∈ names, Bundle.fit n = true)
    (h : ∀ a ∈ Bundle.ownAtoms0 own ic cls names, a.before args s = true)
    (hlocs : ∀ x ∈ locs, ∀ cell, s.heap[x.base]? = some cell → cell.vm.isStatics = false)
    {a : Addr} {cX : ClassId} {kX : Class} (hfoundX : s.vm.findClass cls = some cX) (hkX : s.vm.classes[cX]? = some kX) (hcell : W.heap[a]? = some (freshCell cX kX)) (hnew : s.heap.size ≤ a)
    {g : JFrame} (hg : g.method = m₀) (hsize : g.locals.size = c.maxLocals) {rest : List Value} (hstack : g.stack = .ref a :: .ref a :: rest)
    (hd6 : decode c.code g.pc = .ok (.invokespecial ic, 3))
    (hRframes : names.length + 3 < R.frames) (hRlocals : 2 * g.monitorRoom + ((Value.ref a :: rest).map fun v => v.category).sum + (13 * (names.length + 1) + 41) ≤ R.locals) :
    ∃ (V : State) (ce : Cell) (L : List Loc), Stand p l e R s m₀ args below meth c (V.setCell a ce) (locs ++ L) cells slots ∧ (∀ y ∈ L, y.base = a) ∧ a < V.heap.size ∧ ce.cls = cX ∧ ce.vm = .none ∧
      ∀ target, Steps p.tables e below ((V.setCell a ce).setTop { g with stack := .ref a :: rest, pc := g.pc + 3 }) target → Steps p.tables e below (W.setTop g) target := by
  have howns : e.platform.frameOwnsMonitors = true := by rw [X.admits.platform]
  have hfin : e.platform.finalization = false := by rw [X.admits.platform]
  have hpl : e.platform.magicAccessors = ({} : Platform).magicAccessors := by rw [X.admits.platform]
  have a' : ∀ x, x ∈ Bundle.ownAtoms0 own ic cls names → x.holds args s none s [] = true := fun x hx => h x hx
  obtain ⟨T, Z, L, LZ, Y⟩ := ThrowableC.of_atoms (args := args) howns hfin hpl (fun x hx => h x (by simp [Bundle.ownAtoms0, hx]))
  obtain ⟨P1, Ps, hlen, L1, hL, hP1m, hlink1, hlink⟩ := Bundle.chain0 (args := args) hpl Y.init0 names cls hcls hnames (fun x hx => h x (by simp [Bundle.ownAtoms0, hx]))
  have hfound : s.vm.findClass cls = some P1.m.cls := findClass_of_methodNamed hP1m
  cases Option.some.inj (hfoundX.symm.trans hfound)
  obtain ⟨c1, kX', hc1, hk, hord, -, -, hn6⟩ := Cond.instantiable_spec (a' (.instantiable cls 6) (by simp [Bundle.ownAtoms0]))
  cases Option.some.inj (hc1.symm.trans hfound)
  cases Option.some.inj (hkX.symm.trans hk)
  have hsel0 : selectMethod e.platform s.vm P1.m.cls T.fill0 = .method T.fill0 := by
    obtain ⟨c2, r2, m2, q1, q2, q3, q4, -⟩ := Cond.selects_spec (a' (.selects cls Bundle.tFill0 Bundle.tFill0) (by simp [Bundle.ownAtoms0]))
    cases Option.some.inj (q1.symm.trans hfound)
    cases Option.some.inj (q2.symm.trans (State.methodFound?_of_named Y.fill0 (by decide)))
    cases Option.some.inj (q3.symm.trans Y.fill0)
    rw [Launch.admits_selectMethod X.admits]; exact q4
  have hselF : selectMethod e.platform s.vm P1.m.cls T.fill = .method T.fill := by
    obtain ⟨c2, r2, m2, q1, q2, q3, q4, -⟩ := Cond.selects_spec (a' (.selects cls Bundle.tFill Bundle.tFill) (by simp [Bundle.ownAtoms0]))
    cases Option.some.inj (q1.symm.trans hfound)
    cases Option.some.inj (q2.symm.trans (State.methodFound?_of_named Y.fill (by decide)))
    cases Option.some.inj (q3.symm.trans Y.fill)
    rw [Launch.admits_selectMethod X.admits]; exact q4
  obtain ⟨cellS0, hcS0, hiss⟩ := Y.statics
  obtain ⟨u0, hu0⟩ := Cond.staticRefV Y.unassigned L.unassignedStatic L.statics hcS0 hiss (a' (.isRef (.static Bundle.tN "UNASSIGNED_STACK" Bundle.steD)) (by simp [Bundle.ownAtoms0]))
  obtain ⟨sen, hsen⟩ := Cond.staticRefV Y.sentinel L.sentinelStatic L.statics hcS0 hiss (a' (.isRef (.static Bundle.tN "SUPPRESSED_SENTINEL" Bundle.listD)) (by simp [Bundle.ownAtoms0]))
  obtain ⟨ci198, i198, fB, hk198, hg198, ha198, hsB, -, hnB, htB, hffB⟩ := Cond.ownField (t := .object "java/lang/Object") Y.found L.cls (by decide +kernel) (a' (.fieldLink Bundle.tN 198 Bundle.tN "backtrace" "Ljava/lang/Object;") (by simp [Bundle.ownAtoms0])) (a' (.lays Bundle.tN Bundle.tN "backtrace" "Ljava/lang/Object;") (by simp [Bundle.ownAtoms0])) e.platform hpl
  obtain ⟨cellS, hcS', heS, -, hkeep⟩ := X.same.2.2.2.2.2 T.aS cellS0 hcS0
  have hcellS : W.heap[T.aS]? = some cellS := hcS'
  have hout' : ∀ i, (⟨T.aS, i⟩ : Loc) ∉ locs := fun i hmem => by
    have := hlocs _ hmem cellS0 hcS0
    rw [hiss] at this; cases this
  have hknownS : cellS.vm ≠ .unknown := by
    rw [heS]; intro hu
    rw [show cellS0.vm = .unknown from hu] at hiss
    cases hiss
  have hneS : T.aS ≠ a := Nat.ne_of_lt (Nat.lt_of_lt_of_le (Array.getElem?_eq_some_iff.mp hcS0).1 hnew)
  obtain ⟨iM, hffM⟩ := Y.msg
  obtain ⟨tyC, dC, hdC, hdnC⟩ := Cond.laysAt hfound hk Y.cause (a' (.lays cls Bundle.tN "cause" "Ljava/lang/Throwable;") (by simp [Bundle.ownAtoms0]))
  obtain ⟨tyS, dS, hdS, hdnS⟩ := Cond.laysAt hfound hk Y.stack (a' (.lays cls Bundle.tN "stackTrace" Bundle.steD) (by simp [Bundle.ownAtoms0]))
  obtain ⟨tyP, dP, hdP, hdnP⟩ := Cond.laysAt hfound hk Y.supp (a' (.lays cls Bundle.tN "suppressedExceptions" Bundle.listD) (by simp [Bundle.ownAtoms0]))
  obtain ⟨tyM, dM, hdM, hdnM⟩ := Cond.laysAt hfound hk hffM (a' (.lays cls Bundle.tN "detailMessage" "Ljava/lang/String;") (by simp [Bundle.ownAtoms0]))
  obtain ⟨tyB, dB, hdB, hdnB⟩ := Cond.laysAt hfound hk hffB (a' (.lays cls Bundle.tN "backtrace" "Ljava/lang/Object;") (by simp [Bundle.ownAtoms0]))
  have bC := Cond.laysApart hdB hdC hdnB hdnC (by rw [hnB, Y.causeName]; decide)
  have bS := Cond.laysApart hdB hdS hdnB hdnS (by rw [hnB, Y.stackName]; decide)
  have bP := Cond.laysApart hdB hdP hdnB hdnP (by rw [hnB, Y.suppName]; decide)
  have hskip : SkipFacts T e.platform s (fun u => u) u0 ((preparedCellV T.toThrowableT (freshCell P1.m.cls kX) a u0 sen).withEntry W.cur) :=
    ⟨{ ci198 := ci198, i198 := i198, fBack := fB }, ⟨hk198, hg198, ha198, hsB⟩, by
      have := fresh_default (c := P1.m.cls) tyB
      rw [htB] at this
      simpa [preparedCellV, Cell.setSlot, Cell.withEntry, Array.getElem?_setIfInBounds, bC, bS, bP, bC.symm, bS.symm, bP.symm, defaultValue] using this, fun _ _ => rfl⟩
  obtain ⟨tm, methC, cdC, kC, vm₁, hnC, -, -, -, -, -, -, -, hW₁, st1⟩ := Steps.initCold (tb := p.tables) (e := e) (below := below) (s := s) (U := W) X.here hexec X.warmed hpl hown (t := Bundle.init0 cls) rfl rfl (Bundle.fit_spec hcls).2
    (a' (.methodLink own ic (Bundle.init0 cls)) (by simp [Bundle.ownAtoms0])) (h (.instanceMethod (Bundle.init0 cls)) (by cases names <;> simp [Bundle.ownAtoms0, Bundle.chain0Atoms, Bundle.passAtoms])) (bytes := Bundle.five) (maxL := 1) (h (.code (Bundle.init0 cls) Bundle.five 1 none) (by cases names <;> simp [Bundle.ownAtoms0, Bundle.chain0Atoms, Bundle.passAtoms]))
    (f := g) hg (a := a) (rest := .ref a :: rest) hstack hd6
  cases Option.some.inj (hnC.symm.trans hP1m)
  have X₁ := X.noted hW₁
  obtain ⟨vm₂, X₂, st2⟩ := X₁.ctorPlainOffV hexec (g := { g with stack := .ref a :: rest }) hg hsize T L Z LZ (P1 :: Ps)
    (fun P hP => by rcases List.mem_cons.mp hP with rfl | hP; exact L1; exact hL P hP) ⟨hlink1, hlink⟩ (u0 := u0) (sen := sen) (self := a) (cell := freshCell P1.m.cls kX) (cellS := cellS)
    hcell (fun _ => by simp) (by simp) rfl rfl hsel0 hselF hcellS hneS hknownS (by rw [hkeep _ (hout' _)]; exact hu0) (by rw [hkeep _ (hout' _)]; exact hsen)
    (Takes.of_laid hk hord tyC (by rw [Y.causeType]; rfl)) (Takes.of_laid hk hord tyS (by rw [Y.stackType]; exact fits_refV_array _ u0)) (Takes.of_laid hk hord tyP (by rw [Y.suppType]; exact fits_refV_object _ sen)) Y.objLocals hskip htr [] hd6
    (by simp only [List.length_cons, hlen]; omega) (by simp only [List.length_cons, hlen]; exact hRlocals)
  have hlt : a < ((W.setVm vm₁).setVm vm₂).heap.size := (Array.getElem?_eq_some_iff.mp hcell).1
  refine ⟨(W.setVm vm₁).setVm vm₂, _, _, X₂, fun y hy => ?_, hlt, rfl, rfl, fun target hwalk => st1 _ (fun acts => ?_)⟩
  · simp only [List.mem_cons, List.not_mem_nil, or_false] at hy
    rcases hy with rfl | rfl | rfl | rfl <;> rfl
  · rw [doInvoke_state]
    exact st2 _ hwalk
end VXK
section VXK2
variable {p : Program} {l : Launch} {e : Env} {R : Room} {s : State} {m : MethodId} {args : Array Value} {below : List Frame} {meth : Method} {c : Code} {H : Heap} {locs : List Loc} {cells slots : Nat} {Q : State → Prop}
variable {ls : Array Slot} {rest : List Value} {D : va_G} {cl : List vw_C} {tys : List (ClassId × FieldType)} {ws : va_W}
/-- 'new E("text")' that isn't thrown at once: the object goes on the stack -/
theorem vx_makeS {cc : ByteArray} {pc : Nat} (hexec : p.tables.exec = Jvm.exec) (hb : c.code = cc) (hl : l.stackTraces = false) {own cls text : String} {names : List String} {ik is ic sa ci : Nat} {A : Nat → Prop} {T0 : u_T}
    (hown : s.vm.findClass own = some m.cls) (hcls : Bundle.fit cls = true) (hnames : ∀ n ∈ names, Bundle.fit n = true)
    (hk : (Cond.classLink own ik cls).before args s = true) (hini : (Cond.initialized cls).before args s = true) (hstr : vk_R own is text sa s) (hat : ∀ w ∈ vx_atS own ic cls names, w.before args s = true)
    (hgood : ∀ w ∈ Cond.classLink own ik cls :: Cond.initialized cls :: vx_atS own ic cls names, vx_ot w = true)
    (hU : vx_Zq Bundle.tN "UNASSIGNED_STACK" Bundle.steD A s s.heap) (hN : vx_Zq Bundle.tN "SUPPRESSED_SENTINEL" Bundle.listD A s s.heap) (hS : va_S A s.heap H locs) (hsize : ls.size = c.maxLocals)
    (d0 : decode cc pc = .ok (.new ik, 3)) (d3 : decode cc (pc + 3) = .ok (.dup, 1)) (d4 : decode cc (pc + 4) = .ok (.ldc is, 2)) (d6 : decode cc (pc + 6) = .ok (.invokespecial ic, 3))
    (hK : va_K D cl tys s) (hP : va_P D cl ws H) (hD : va_D A ws) (hA : ∀ q, s.heap.size ≤ q → A q) (hc : cl[ci]? = some (cls, T0, 0))
    (hRframes : names.length + 3 < R.frames) (hRlocals : (rest.map fun v => v.category).sum + (13 * (names.length + 1) + 43) ≤ R.locals) (hRcells : cells + 1 ≤ R.cells) (hRslots : slots + 6 ≤ R.slots)
    (kk : ∀ (q : Nat) (H1 : Heap), va_P D cl (ws ++ [(q, .inr (ci, []))]) H1 → va_D A (ws ++ [(q, .inr (ci, []))]) → va_S A s.heap H1 locs → W p l e R s m args below meth c H1 locs (cells + 1) (slots + 6) Q (F0 m (pc + 9) ls (.ref q :: rest))) :
    W p l e R s m args below meth c H locs cells slots Q (F0 m pc ls rest) := by
  intro T hT X
  subst hT
  have htr : e.platform.stackTraces = false := (show e.platform.stackTraces = l.stackTraces by rw [X.admits.platform]).trans hl
  have Y := vx_rebase X (R' := { frames := R.frames, locals := R.locals, cells := 1, slots := 6 }) (Nat.le_refl _) (Nat.le_refl _) hRcells hRslots
  obtain ⟨s', hA'⟩ : ∃ z, z = (T.setVm s.vm).setFrames (.invoking m args :: below) := ⟨_, rfl⟩
  rw [← hA'] at Y
  have hvm : s'.vm = s.vm := by rw [hA']; rfl
  have hhp : s'.heap = T.heap := by rw [hA']; rfl
  have hW0 : s.WarmedH s'.vm := by rw [hvm]; exact State.WarmedH.refl s
  have hat' : ∀ w ∈ vx_atS own ic cls names, w.before args s' = true := fun w hw => vx_ot_at hW0 hvm.symm (hgood w (List.mem_cons_of_mem _ (List.mem_cons_of_mem _ hw))) (hat w hw)
  have hk' : (Cond.classLink own ik cls).before args s' = true := vx_ot_at hW0 hvm.symm (hgood _ List.mem_cons_self) hk
  have hini' : (Cond.initialized cls).before args s' = true := vx_ot_at hW0 hvm.symm (hgood _ (List.mem_cons_of_mem _ List.mem_cons_self)) hini
  have hU' : vx_Zq Bundle.tN "UNASSIGNED_STACK" Bundle.steD A s' s'.heap := by rw [hhp]; exact vx_Zq.moved hW0.alike (hU.kept hS.2.1)
  have hN' : vx_Zq Bundle.tN "SUPPRESSED_SENTINEL" Bundle.listD A s' s'.heap := by rw [hhp]; exact vx_Zq.moved hW0.alike (hN.kept hS.2.1)
  have h : ∀ w ∈ Bundle.ownAtoms own ic cls names, w.before args s' = true := vx_own hat' (vx_isRefq hU'.1) (vx_isRefq hN'.1) hU'.2.word hN'.2.word
  have hown' : s'.vm.findClass own = some m.cls := by rw [hvm]; exact hown
  have hins : (Cond.instantiable cls 6).before args s' = true := h _ (by simp [Bundle.ownAtoms])
  obtain ⟨vm₁, cX, kX, hfX, hkX, -, -, X₁, st1⟩ := Y.newCold hexec (own := own) (C := cls) (index := ik) (n := 6) hown' hk' hins hini'
    (g := F0 m pc ls rest) rfl (by rw [hb]; exact d0) (Nat.le_refl _) (Nat.le_refl _)
  generalize hT1 : (T.setVm vm₁).pushCell { cls := cX, slots := kX.instanceTypes.map defaultValue, vm := .none } = T1 at X₁ st1
  have hcat : (Value.ref T.heap.size).category = 1 := rfl
  have hcellA : T1.heap[T.heap.size]? = some (freshCell cX kX) := by rw [← hT1]; exact State.heap_pushCell_size _ _
  have d3' : decode c.code (pc + 3) = .ok (.dup, 1) := by rw [hb]; exact d3
  have d4' : decode c.code (pc + 4) = .ok (.ldc is, 2) := by rw [hb]; exact d4
  have hstr' : vk_R own is text sa s' := vk_R.warm hW0 hstr
  obtain ⟨V, ce, L, Z, hL, hlt, hcl9, hvm9, st⟩ := vx_ctorMadeS X₁ hexec htr (own := own) (cls := cls) (names := names) (ic := ic) hown' hcls hnames h (fun x hx => nomatch hx) hfX hkX hcellA (by rw [hhp]; exact Nat.le_refl _) (msg := .ref sa) rfl
    (g := { method := m, pc := pc + 6, locals := ls, stack := .ref sa :: .ref T.heap.size :: .ref T.heap.size :: rest, locked := none }) rfl hsize (rest := rest) rfl
    (by rw [hb]; exact d6) hRframes (by simp only [List.map_cons, List.sum_cons, hcat]; omega)
  have Z0 := Stand.forget (locs := []) Z (fun y hy => by rw [hL y hy, hhp]; exact Nat.le_refl _)
  obtain ⟨f1, f2⟩ := vx_frame Z0.same
  rw [hhp] at f1 f2
  have hcid : ce.cls = D.1 ci := by
    rw [hcl9]
    have h1 := (hK.1 ci _ hc).2.1
    rw [hvm] at hfX
    exact Option.some.inj (hfX.symm.trans h1)
  have hh : (V.setCell T.heap.size ce).heap[T.heap.size]? = some ce := heapAt_setCell_self (s := V) ce hlt
  subst hA'
  have X5 := vx_back9 X Y Z0
  have X6 : Stand p l e R s m args below meth c (V.setCell T.heap.size ce) locs (cells + 1) (slots + 6) := { X5 with same := X5.same.mono (by omega) (by omega) }
  have hk9 : ∀ (k : Nat) (x : Nat × va_E), ws[k]? = some x → (V.setCell T.heap.size ce).heap[x.1]? = T.heap[x.1]? := fun k x hx => f2 x.1 ((hP k x hx).lt) (fun z hz => nomatch hz)
  obtain ⟨t, a1, b1⟩ := kk T.heap.size (V.setCell T.heap.size ce).heap ((hP.kept hk9).app (fun k x hx => by
      have hz : k < 1 := (List.getElem?_eq_some_iff.mp hx).1
      rw [show k = 0 by omega] at hx
      cases hx
      exact ⟨_, hc, ce, hh, hcid, hvm9, fun k hk => absurd hk (Nat.not_lt_zero k)⟩)) (hD.push hP rfl (hA _ hS.1)) ⟨Nat.le_trans hS.1 f1, fun q h1 h2 => (f2 q (Nat.lt_of_lt_of_le h1 hS.1) (fun z hz => nomatch hz)).trans (hS.2.1 q h1 h2), hS.2.2⟩ _ rfl X6
  refine ⟨t, st1 _ ?_, b1⟩
  show Steps p.tables e below (T1.setTop { method := m, pc := pc + 3, locals := ls, stack := .ref T.heap.size :: rest, locked := none }) _
  jvm_step X₁.here [X₁.here.top, hexec, d3', Value.category]
  exact X₁.ldcString hexec (own := own) (text := text) (index := is) (a := sa) hown' hstr'.1 hstr'.2
    (g := { method := m, pc := pc + 4, locals := ls, stack := .ref T.heap.size :: .ref T.heap.size :: rest, locked := none }) rfl d4' _ (st _ a1)
/-- 'new E()' that isn't thrown at once: the object goes on the stack -/
theorem vx_make0 {cc : ByteArray} {pc : Nat} (hexec : p.tables.exec = Jvm.exec) (hb : c.code = cc) (hl : l.stackTraces = false) {own cls : String} {names : List String} {ik ic ci : Nat} {A : Nat → Prop} {T0 : u_T}
    (hown : s.vm.findClass own = some m.cls) (hcls : Bundle.fit cls = true) (hnames : ∀ n ∈ names, Bundle.fit n = true)
    (hk : (Cond.classLink own ik cls).before args s = true) (hini : (Cond.initialized cls).before args s = true) (hat : ∀ w ∈ vx_at0 own ic cls names, w.before args s = true)
    (hgood : ∀ w ∈ Cond.classLink own ik cls :: Cond.initialized cls :: vx_at0 own ic cls names, vx_ot w = true)
    (hU : vx_Zq Bundle.tN "UNASSIGNED_STACK" Bundle.steD A s s.heap) (hN : vx_Zq Bundle.tN "SUPPRESSED_SENTINEL" Bundle.listD A s s.heap) (hS : va_S A s.heap H locs) (hsize : ls.size = c.maxLocals)
    (d0 : decode cc pc = .ok (.new ik, 3)) (d3 : decode cc (pc + 3) = .ok (.dup, 1)) (d4 : decode cc (pc + 4) = .ok (.invokespecial ic, 3))
    (hK : va_K D cl tys s) (hP : va_P D cl ws H) (hD : va_D A ws) (hA : ∀ q, s.heap.size ≤ q → A q) (hc : cl[ci]? = some (cls, T0, 0))
    (hRframes : names.length + 3 < R.frames) (hRlocals : (rest.map fun v => v.category).sum + (13 * (names.length + 1) + 42) ≤ R.locals) (hRcells : cells + 1 ≤ R.cells) (hRslots : slots + 6 ≤ R.slots)
    (kk : ∀ (q : Nat) (H1 : Heap), va_P D cl (ws ++ [(q, .inr (ci, []))]) H1 → va_D A (ws ++ [(q, .inr (ci, []))]) → va_S A s.heap H1 locs → W p l e R s m args below meth c H1 locs (cells + 1) (slots + 6) Q (F0 m (pc + 7) ls (.ref q :: rest))) :
    W p l e R s m args below meth c H locs cells slots Q (F0 m pc ls rest) := by
  intro T hT X
  subst hT
  have htr : e.platform.stackTraces = false := (show e.platform.stackTraces = l.stackTraces by rw [X.admits.platform]).trans hl
  have Y := vx_rebase X (R' := { frames := R.frames, locals := R.locals, cells := 1, slots := 6 }) (Nat.le_refl _) (Nat.le_refl _) hRcells hRslots
  obtain ⟨s', hA'⟩ : ∃ z, z = (T.setVm s.vm).setFrames (.invoking m args :: below) := ⟨_, rfl⟩
  rw [← hA'] at Y
  have hvm : s'.vm = s.vm := by rw [hA']; rfl
  have hhp : s'.heap = T.heap := by rw [hA']; rfl
  have hW0 : s.WarmedH s'.vm := by rw [hvm]; exact State.WarmedH.refl s
  have hat' : ∀ w ∈ vx_at0 own ic cls names, w.before args s' = true := fun w hw => vx_ot_at hW0 hvm.symm (hgood w (List.mem_cons_of_mem _ (List.mem_cons_of_mem _ hw))) (hat w hw)
  have hk' : (Cond.classLink own ik cls).before args s' = true := vx_ot_at hW0 hvm.symm (hgood _ List.mem_cons_self) hk
  have hini' : (Cond.initialized cls).before args s' = true := vx_ot_at hW0 hvm.symm (hgood _ (List.mem_cons_of_mem _ List.mem_cons_self)) hini
  have hU' : vx_Zq Bundle.tN "UNASSIGNED_STACK" Bundle.steD A s' s'.heap := by rw [hhp]; exact vx_Zq.moved hW0.alike (hU.kept hS.2.1)
  have hN' : vx_Zq Bundle.tN "SUPPRESSED_SENTINEL" Bundle.listD A s' s'.heap := by rw [hhp]; exact vx_Zq.moved hW0.alike (hN.kept hS.2.1)
  have h : ∀ w ∈ Bundle.ownAtoms0 own ic cls names, w.before args s' = true := vx_own hat' (vx_isRefq hU'.1) (vx_isRefq hN'.1) hU'.2.word hN'.2.word
  have hown' : s'.vm.findClass own = some m.cls := by rw [hvm]; exact hown
  have hins : (Cond.instantiable cls 6).before args s' = true := h _ (by simp [Bundle.ownAtoms0])
  obtain ⟨vm₁, cX, kX, hfX, hkX, -, -, X₁, st1⟩ := Y.newCold hexec (own := own) (C := cls) (index := ik) (n := 6) hown' hk' hins hini'
    (g := F0 m pc ls rest) rfl (by rw [hb]; exact d0) (Nat.le_refl _) (Nat.le_refl _)
  generalize hT1 : (T.setVm vm₁).pushCell { cls := cX, slots := kX.instanceTypes.map defaultValue, vm := .none } = T1 at X₁ st1
  have hcat : (Value.ref T.heap.size).category = 1 := rfl
  have hcellA : T1.heap[T.heap.size]? = some (freshCell cX kX) := by rw [← hT1]; exact State.heap_pushCell_size _ _
  have d3' : decode c.code (pc + 3) = .ok (.dup, 1) := by rw [hb]; exact d3
  obtain ⟨V, ce, L, Z, hL, hlt, hcl9, hvm9, st⟩ := vx_ctorMade0 X₁ hexec htr (own := own) (cls := cls) (names := names) (ic := ic) hown' hcls hnames h (fun x hx => nomatch hx) hfX hkX hcellA (by rw [hhp]; exact Nat.le_refl _)
    (g := { method := m, pc := pc + 4, locals := ls, stack := .ref T.heap.size :: .ref T.heap.size :: rest, locked := none }) rfl hsize (rest := rest) rfl
    (by rw [hb]; exact d4) hRframes (by simp only [List.map_cons, List.sum_cons, hcat]; omega)
  have Z0 := Stand.forget (locs := []) Z (fun y hy => by rw [hL y hy, hhp]; exact Nat.le_refl _)
  obtain ⟨f1, f2⟩ := vx_frame Z0.same
  rw [hhp] at f1 f2
  have hcid : ce.cls = D.1 ci := by
    rw [hcl9]
    have h1 := (hK.1 ci _ hc).2.1
    rw [hvm] at hfX
    exact Option.some.inj (hfX.symm.trans h1)
  have hh : (V.setCell T.heap.size ce).heap[T.heap.size]? = some ce := heapAt_setCell_self (s := V) ce hlt
  subst hA'
  have X5 := vx_back9 X Y Z0
  have X6 : Stand p l e R s m args below meth c (V.setCell T.heap.size ce) locs (cells + 1) (slots + 6) := { X5 with same := X5.same.mono (by omega) (by omega) }
  have hk9 : ∀ (k : Nat) (x : Nat × va_E), ws[k]? = some x → (V.setCell T.heap.size ce).heap[x.1]? = T.heap[x.1]? := fun k x hx => f2 x.1 ((hP k x hx).lt) (fun z hz => nomatch hz)
  obtain ⟨t, a1, b1⟩ := kk T.heap.size (V.setCell T.heap.size ce).heap ((hP.kept hk9).app (fun k x hx => by
      have hz : k < 1 := (List.getElem?_eq_some_iff.mp hx).1
      rw [show k = 0 by omega] at hx
      cases hx
      exact ⟨_, hc, ce, hh, hcid, hvm9, fun k hk => absurd hk (Nat.not_lt_zero k)⟩)) (hD.push hP rfl (hA _ hS.1)) ⟨Nat.le_trans hS.1 f1, fun q h1 h2 => (f2 q (Nat.lt_of_lt_of_le h1 hS.1) (fun z hz => nomatch hz)).trans (hS.2.1 q h1 h2), hS.2.2⟩ _ rfl X6
  refine ⟨t, st1 _ ?_, b1⟩
  show Steps p.tables e below (T1.setTop { method := m, pc := pc + 3, locals := ls, stack := .ref T.heap.size :: rest, locked := none }) _
  jvm_step X₁.here [X₁.here.top, hexec, d3', Value.category]
  exact st _ a1
/-- 'throw x' of an object that was made before -/
theorem vx_athrow {cc : ByteArray} {pc : Nat} (hexec : p.tables.exec = Jvm.exec) (hb : c.code = cc) {q : Addr} (hdg : decode cc pc = .ok (.athrow, 1)) (k : vx_W p l e R s m args below meth c H locs cells slots Q (F0 m pc ls rest) q) : W p l e R s m args below meth c H locs cells slots Q (F0 m pc ls (.ref q :: rest)) := by
  intro T hT X
  obtain ⟨t, st, hq⟩ := k T hT X
  refine ⟨t, ?_, hq⟩
  have hdg' : decode c.code pc = .ok (.athrow, 1) := by rw [hb]; exact hdg
  jvm_step X.here [X.here.top, hexec, hdg', athrow.wp_sem]
  exact st
end VXK2
/-! ===== END ===== -/
/-! ===== BEGIN a constructor that throws (launches without stack traces) ===== -/
section VXIA
variable {p : Program} {l : Launch} {e : Env} {R : Room} {s : State} {m : MethodId} {args : Array Value} {below : List Frame} {meth : Method} {c : Code} {T : State} {locs : List Loc} {cells slots : Nat}
theorem vx_callI (X : Stand p l e R s m args below meth c T locs cells slots) (hexec : p.tables.exec = Jvm.exec) {own : String} {index : Nat} {y : MethodName} {bytes : ByteArray} {maxL : Nat}
    (hown : s.vm.findClass own = some m.cls) (hy1 : y.name = "<init>") (hlink : (Cond.methodLink own index y).before args s = true) (hinst : (Cond.instanceMethod y).before args s = true)
    (hcode : (Cond.code y bytes maxL none).before args s = true) (hy : y.cls ≠ "java/lang/invoke/MethodHandle" ∧ y.cls ≠ "java/lang/invoke/VarHandle")
    {W9 : Nat} {Pre : Pt → Array Value → Prop} {Post : Pt → Array Value → Option Value → Pt → Prop} {PostX : Pt → Array Value → Addr → Pt → Prop} (hK : vx_Back l R p e below s args y 3 W9 Pre Post PostX)
    {g : JFrame} (hg : g.method = m) (hsize : g.locals.size = c.maxLocals) {a : Addr} {argsL rest : List Value} (hlen : ∀ sig, parseMethodDescriptor y.desc = some sig → argsL.length = sig.parameters.length)
    (hstack : g.stack = argsL.reverse ++ .ref a :: rest) (hW : 2 * g.monitorRoom + (rest.map fun v => v.category).sum ≤ W9) (hdg : decode c.code g.pc = .ok (.invokespecial index, 3))
    (hpre : ∀ vm₁, s.WarmedH vm₁ → Pre ⟨T.setVm vm₁, locs, cells, slots⟩ (Value.ref a :: argsL).toArray) :
    (∃ (v : Option Value) (vm₁ : Vm) (B : Pt), s.WarmedH vm₁ ∧ Stand p l e R s m args below meth c B.U B.locs B.cells B.slots ∧ Post ⟨T.setVm vm₁, locs, cells, slots⟩ (Value.ref a :: argsL).toArray v B ∧
      ∀ target, Steps p.tables e below (B.U.setTop { g with pc := g.pc + 3, stack := v.toList ++ rest }) target → Steps p.tables e below (T.setTop g) target) ∨
    (∃ (q : Addr) (vm₁ : Vm) (B : Pt), s.WarmedH vm₁ ∧ Stand p l e R s m args below meth c B.U B.locs B.cells B.slots ∧ PostX ⟨T.setVm vm₁, locs, cells, slots⟩ (Value.ref a :: argsL).toArray q B ∧
      Steps p.tables e below (T.setTop g) ((B.U.setTop { g with stack := rest }).pushFrame (.throwing q))) := by
  subst hg
  have hpl : e.platform.magicAccessors = ({} : Platform).magicAccessors := by rw [X.admits.platform]
  obtain ⟨mk, methM, cM, kP, vm₁, hnamed, hmethM, hcodeM, -, hlocalsM, -, hkP, -, hW₁, hstep₁⟩ := Steps.initColdArgs (e := e) X.here hexec X.warmed hpl hown hy1 hy hlink hinst hcode (f := g) rfl hlen hstack hdg
  have X₁ := X.noted hW₁
  rcases hK g.method meth c ⟨T.setVm vm₁, locs, cells, slots⟩ { g with stack := rest } (.invokespecial index) mk (Value.ref a :: argsL).toArray X₁ rfl hsize hdg hW (X₁.named hnamed) (hpre vm₁ X₁.warmed) with ⟨v, B, X', hpost, hsteps⟩ | ⟨q, B, X', hpost, hsteps⟩
  · exact Or.inl ⟨v, vm₁, B, X₁.warmed, X', hpost, fun target h => hstep₁ _ fun acts => by rw [doInvoke_state]; exact hsteps.trans h⟩
  · exact Or.inr ⟨q, vm₁, B, X₁.warmed, X', hpost, hstep₁ _ fun acts => by rw [doInvoke_state]; exact hsteps⟩
end VXIA
section VXIB
variable {p : Program} {l : Launch} {e : Env} {R : Room} {s : State} {m : MethodId} {args : Array Value} {below : List Frame} {meth : Method} {c : Code} {H : Heap} {locs : List Loc} {cells slots : Nat}
variable {y : MethodName} {bytes cc : ByteArray} {maxL nL mc ms n index : Nat} {ret : Option FieldType} {ws : List Cond} {rm : Room} {Pc : Array Value → State → Prop} {Qc : Array Value → State → Outcome → State → Prop} {XC : String → State → State → Prop} {free : Addr → Prop} {Ts : List Cond} {own C : String} {b : Addr} {As rest : List Value} {g : JFrame}
theorem vx_runI (S : CallFix p m c cc nL s args Ts own) (hM : vx_Met l y ws rm Pc Qc XC mc ms free) (cw : CallB R s args own index y bytes maxL none ws rm mc ms n ∧ y.name = "<init>" ∧ (Cond.instanceMethod y).before args s = true) (hp : PreS s H Pc (.ref b :: As))
    (hg : g.method = m) (hn : As.length = n) (hsize : g.locals.size = nL) (hstack : g.stack = As.reverse ++ .ref b :: rest) (hW : 2 * g.monitorRoom + (rest.map fun v => v.category).sum ≤ 8) (hdg : decode cc g.pc = .ok (.invokespecial index, 3)) (hf : cells + mc ≤ R.cells ∧ slots + ms ≤ R.slots) :
    vx_Run p l e R s m args below meth c H locs cells slots mc ms g rest (Qc (Value.ref b :: As).toArray) XC free := by
  have hK : vx_Back l R p e below s args y 3 8 (PreOf R mc ms Pc) (PostOf Qc mc ms free) (vx_Post XC mc ms free) := vx_callBack cw.1 hM hp.1
  obtain ⟨⟨-, -, -, -, -, -, hcode, -, hy, hlen, hl⟩, hy1, hin⟩ := cw
  obtain ⟨hx, hb, hml, ho, -⟩ := S
  have hPc := hp.2
  intro T hT X
  rcases vx_callI X hx (bytes := bytes) (maxL := maxL) ho hy1 hl hin hcode hy hK hg (hsize.trans hml.symm) (a := b) (argsL := As) (rest := rest) (fun sig h => hn.trans (hlen sig h)) hstack hW (by rw [hb]; exact hdg)
    (fun vm₁ hW₁ => ⟨hf.1, hf.2, hPc (T.setVm vm₁) hT hW₁⟩) with ⟨v, vm₁, ⟨U', l2, c2, s2⟩, hW₁, X', ⟨g', mk, t, L, e1, e2, hq, h1, hL, h2, h3⟩, st⟩ | ⟨q, vm₁, ⟨U', l2, c2, s2⟩, hW₁, X', ⟨g', mk, t, L, E, ce, e1, e2, hq, hce, hcv, hcl, h1, hL, h2, h3⟩, st⟩
  · dsimp only [Pt.U, Pt.locs, Pt.cells, Pt.slots] at X' e1 e2 h1 h2 h3 st
    subst h1; subst h2; subst h3
    exact Or.inl ⟨v, (T.setVm vm₁).calling g' mk (Value.ref b :: As).toArray, t, U', L, hT, X', hL, e1, e2, hq, st⟩
  · dsimp only [Pt.U, Pt.locs, Pt.cells, Pt.slots] at X' e1 e2 h1 h2 h3 st hcl
    subst h1; subst h2; subst h3
    exact Or.inr ⟨q, (T.setVm vm₁).calling g' mk (Value.ref b :: As).toArray, t, U', L, E, ce, hT, X', hL, e1, e2, hq, hce, hcv, vx_cls hW₁ hcl, st⟩
end VXIB
/-! ===== END ===== -/
/-! ===== BEGIN a private constructor of a nest mate that throws ===== -/
section VXIC
variable {p : Program} {l : Launch} {e : Env} {R : Room} {s : State} {m : MethodId} {args : Array Value} {below : List Frame} {meth : Method} {c : Code} {T : State} {locs : List Loc} {cells slots : Nat}
theorem vx_callIN (X : Stand p l e R s m args below meth c T locs cells slots) (hexec : p.tables.exec = Jvm.exec) {own : String} {index : Nat} {host : String} {y : MethodName} {bytes : ByteArray} {maxL : Nat}
    (hown : s.vm.findClass own = some m.cls) (hy1 : y.name = "<init>") (hlink : (Cond.methodLinkNest own index y host).before args s = true) (hinst : (Cond.instanceMethod y).before args s = true)
    (hcode : (Cond.code y bytes maxL none).before args s = true) (hy : y.cls ≠ "java/lang/invoke/MethodHandle" ∧ y.cls ≠ "java/lang/invoke/VarHandle")
    {W9 : Nat} {Pre : Pt → Array Value → Prop} {Post : Pt → Array Value → Option Value → Pt → Prop} {PostX : Pt → Array Value → Addr → Pt → Prop} (hK : vx_Back l R p e below s args y 3 W9 Pre Post PostX)
    {g : JFrame} (hg : g.method = m) (hsize : g.locals.size = c.maxLocals) {a : Addr} {argsL rest : List Value} (hlen : ∀ sig, parseMethodDescriptor y.desc = some sig → argsL.length = sig.parameters.length)
    (hstack : g.stack = argsL.reverse ++ .ref a :: rest) (hW : 2 * g.monitorRoom + (rest.map fun v => v.category).sum ≤ W9) (hdg : decode c.code g.pc = .ok (.invokespecial index, 3))
    (hpre : ∀ vm₁, s.WarmedH vm₁ → Pre ⟨T.setVm vm₁, locs, cells, slots⟩ (Value.ref a :: argsL).toArray) :
    (∃ (v : Option Value) (vm₁ : Vm) (B : Pt), s.WarmedH vm₁ ∧ Stand p l e R s m args below meth c B.U B.locs B.cells B.slots ∧ Post ⟨T.setVm vm₁, locs, cells, slots⟩ (Value.ref a :: argsL).toArray v B ∧
      ∀ target, Steps p.tables e below (B.U.setTop { g with pc := g.pc + 3, stack := v.toList ++ rest }) target → Steps p.tables e below (T.setTop g) target) ∨
    (∃ (q : Addr) (vm₁ : Vm) (B : Pt), s.WarmedH vm₁ ∧ Stand p l e R s m args below meth c B.U B.locs B.cells B.slots ∧ PostX ⟨T.setVm vm₁, locs, cells, slots⟩ (Value.ref a :: argsL).toArray q B ∧
      Steps p.tables e below (T.setTop g) ((B.U.setTop { g with stack := rest }).pushFrame (.throwing q))) := by
  subst hg
  have hpl : e.platform.magicAccessors = ({} : Platform).magicAccessors := by rw [X.admits.platform]
  obtain ⟨mk, methM, cM, kP, vm₁, hnamed, hmethM, hcodeM, -, hlocalsM, -, hkP, -, hW₁, hstep₁⟩ := Steps.initColdArgsNest (e := e) X.here hexec X.warmed hpl hown hy1 hy hlink hinst hcode (f := g) rfl hlen hstack hdg
  have X₁ := X.noted hW₁
  rcases hK g.method meth c ⟨T.setVm vm₁, locs, cells, slots⟩ { g with stack := rest } (.invokespecial index) mk (Value.ref a :: argsL).toArray X₁ rfl hsize hdg hW (X₁.named hnamed) (hpre vm₁ X₁.warmed) with ⟨v, B, X', hpost, hsteps⟩ | ⟨q, B, X', hpost, hsteps⟩
  · exact Or.inl ⟨v, vm₁, B, X₁.warmed, X', hpost, fun target h => hstep₁ _ fun acts => by rw [doInvoke_state]; exact hsteps.trans h⟩
  · exact Or.inr ⟨q, vm₁, B, X₁.warmed, X', hpost, hstep₁ _ fun acts => by rw [doInvoke_state]; exact hsteps⟩
end VXIC
section VXID
variable {p : Program} {l : Launch} {e : Env} {R : Room} {s : State} {m : MethodId} {args : Array Value} {below : List Frame} {meth : Method} {c : Code} {H : Heap} {locs : List Loc} {cells slots : Nat}
theorem vx_runIN {y : MethodName} {bytes cc : ByteArray} {maxL nL mc ms n index : Nat} {ws : List Cond} {rm : Room} {Pc : Array Value → State → Prop} {Qc : Array Value → State → Outcome → State → Prop} {XC : String → State → State → Prop} {free : Addr → Prop} {Ts : List Cond} {own host : String} {b : Addr} {As rest : List Value} {g : JFrame}
    (S : CallFix p m c cc nL s args Ts own) (hM : vx_Met l y ws rm Pc Qc XC mc ms free) (cw : va_CN R s args own index y host bytes maxL none ws rm mc ms n ∧ y.name = "<init>" ∧ (Cond.instanceMethod y).before args s = true) (hp : PreS s H Pc (.ref b :: As))
    (hg : g.method = m) (hn : As.length = n) (hsize : g.locals.size = nL) (hstack : g.stack = As.reverse ++ .ref b :: rest) (hW : 2 * g.monitorRoom + (rest.map fun v => v.category).sum ≤ 8) (hdg : decode cc g.pc = .ok (.invokespecial index, 3)) (hf : cells + mc ≤ R.cells ∧ slots + ms ≤ R.slots) :
    vx_Run p l e R s m args below meth c H locs cells slots mc ms g rest (Qc (Value.ref b :: As).toArray) XC free := by
  obtain ⟨⟨⟨hrc, hrs, hfr, hlo, hws, hcw⟩, hcode, hini, hy, hlen, hl⟩, hx1, hx2⟩ := cw
  have hK : vx_Back l R p e below s args y 3 8 (PreOf R mc ms Pc) (PostOf Qc mc ms free) (vx_Post XC mc ms free) := vx_back (bytes := bytes) (maxL := maxL) (ret := none) hM hp.1 hrc hrs hfr hlo hws hcw (fun a' U hW => word_at hW (Or.inl (by first | rfl | simp [Cond.onTables, Cond.keeps, Cond.steady])) hini)
  obtain ⟨hx, hb, hml, ho, -⟩ := S
  have hPc := hp.2
  intro T hT X
  rcases vx_callIN X hx (bytes := bytes) (maxL := maxL) ho hx1 hl hx2 hcode hy hK hg (hsize.trans hml.symm) (a := b) (argsL := As) (rest := rest) (fun sig h => hn.trans (hlen sig h)) hstack hW (by rw [hb]; exact hdg)
    (fun vm₁ hW₁ => ⟨hf.1, hf.2, hPc (T.setVm vm₁) hT hW₁⟩) with ⟨v, vm₁, ⟨U', l2, c2, s2⟩, hW₁, X', ⟨g', mk, t, L, e1, e2, hq, h1, hL, h2, h3⟩, st⟩ | ⟨q, vm₁, ⟨U', l2, c2, s2⟩, hW₁, X', ⟨g', mk, t, L, E, ce, e1, e2, hq, hce, hcv, hcl, h1, hL, h2, h3⟩, st⟩
  · dsimp only [Pt.U, Pt.locs, Pt.cells, Pt.slots] at X' e1 e2 h1 h2 h3 st
    subst h1; subst h2; subst h3
    exact Or.inl ⟨v, (T.setVm vm₁).calling g' mk (Value.ref b :: As).toArray, t, U', L, hT, X', hL, e1, e2, hq, st⟩
  · dsimp only [Pt.U, Pt.locs, Pt.cells, Pt.slots] at X' e1 e2 h1 h2 h3 st hcl
    subst h1; subst h2; subst h3
    exact Or.inr ⟨q, (T.setVm vm₁).calling g' mk (Value.ref b :: As).toArray, t, U', L, E, ce, hT, X', hL, e1, e2, hq, hce, hcv, vx_cls hW₁ hcl, st⟩
end VXID
/-! ===== END ===== -/
/-! ===== BEGIN a method of a class above, found by the receiver, that may throw (follows va_callVU, va_runU of this kit) ===== -/
section
variable {p : Program} {l : Launch} {e : Env} {R : Room} {s : State} {m : MethodId} {args : Array Value} {below : List Frame} {meth : Method} {c : Code} {H : Heap} {locs : List Loc} {cells slots : Nat}
theorem vx_callVU {T : State} {locs : List Loc} {cells slots : Nat} (X : Stand p l e R s m args below meth c T locs cells slots) (hexec : p.tables.exec = Jvm.exec) {own C owner : String} {index : Nat} {x y : MethodName} {bytes : ByteArray} {maxL : Nat} {ret : Option FieldType}
    (hown : s.vm.findClass own = some m.cls) (hlink : (Cond.methodLink own index x).before args s = true) (hsame : (Cond.sameMethod x.cls owner x.name x.desc).before args s = true)
    (hd0 : va_Decl s ⟨owner, x.name, x.desc⟩) (howner : owner ≠ "java/lang/invoke/MethodHandle" ∧ owner ≠ "java/lang/invoke/VarHandle")
    (hsel : (Cond.selects C x y).before args s = true) (hinst : (Cond.instanceMethod y).before args s = true) (hcode : (Cond.code y bytes maxL ret).before args s = true)
    {W : Nat} {Pre : Pt → Array Value → Prop} {Post : Pt → Array Value → Option Value → Pt → Prop} {PostX : Pt → Array Value → Addr → Pt → Prop} (hK : vx_Back l R p e below s args y 3 W Pre Post PostX)
    {b : Addr} {cellB : Cell} (hcell : T.heap[b]? = some cellB) (hobj : cellB.vm.isStatics = false) (hcls : s.vm.findClass C = some cellB.cls)
    {g : JFrame} (hg : g.method = m) (hsize : g.locals.size = c.maxLocals) {argsL rest : List Value} (hlen : ∀ sig, parseMethodDescriptor x.desc = some sig → argsL.length = sig.parameters.length)
    (hstack : g.stack = argsL.reverse ++ .ref b :: rest) (hW : 2 * g.monitorRoom + (rest.map fun v => v.category).sum ≤ W) (hdg : decode c.code g.pc = .ok (.invokevirtual index, 3))
    (hpre : ∀ vm₁, s.WarmedH vm₁ → Pre ⟨T.setVm vm₁, locs, cells, slots⟩ (Value.ref b :: argsL).toArray) :
    (∃ (v : Option Value) (vm₁ : Vm) (B : Pt), s.WarmedH vm₁ ∧ Stand p l e R s m args below meth c B.U B.locs B.cells B.slots ∧ Post ⟨T.setVm vm₁, locs, cells, slots⟩ (Value.ref b :: argsL).toArray v B ∧
      ∀ target, Steps p.tables e below (B.U.setTop { g with pc := g.pc + 3, stack := v.toList ++ rest }) target → Steps p.tables e below (T.setTop g) target) ∨
    (∃ (q : Addr) (vm₁ : Vm) (B : Pt), s.WarmedH vm₁ ∧ Stand p l e R s m args below meth c B.U B.locs B.cells B.slots ∧ PostX ⟨T.setVm vm₁, locs, cells, slots⟩ (Value.ref b :: argsL).toArray q B ∧
      Steps p.tables e below (T.setTop g) ((B.U.setTop { g with stack := rest }).pushFrame (.throwing q))) := by
  obtain ⟨r0, r, hn, hrm, hstR, hsigR⟩ := hd0
  obtain ⟨cn, ck, r1, hcn, hck, hni, hf, hn1⟩ := Cond.sameMethod_found hsame
  cases hn.symm.trans hn1
  obtain ⟨mk, methM, hnamed, hmethM, -, habM⟩ := Cond.instanceMethod_spec hinst
  obtain ⟨c2, r2, m2, q1, q2, q3, q4, kP, hkP, hkPi⟩ := Cond.selects_spec hsel
  cases hcls.symm.trans q1
  cases hf.symm.trans q2
  cases hnamed.symm.trans q3
  have hselP : selectMethod e.platform s.vm cellB.cls r0 = .method mk := by rw [Launch.admits_selectMethod X.admits]; exact q4
  obtain ⟨vm₁, X₁, hstep₁⟩ := X.invokevirtualUp hexec hown hlink hsame howner hn hrm hstR (a := b) (cell := cellB) hcell
    (fun z h => by rw [h] at hobj; cases hobj) hselP hmethM habM hkP hkPi (g := g) hg (argsL := argsL) (rest := rest) (hlen _ hsigR) hstack hdg
  rcases hK m meth c ⟨T.setVm vm₁, locs, cells, slots⟩ { g with stack := rest } (.invokevirtual index) mk (Value.ref b :: argsL).toArray X₁ hg hsize hdg hW (X₁.named hnamed) (hpre vm₁ X₁.warmed) with ⟨v, B, X', hpost, hsteps⟩ | ⟨q, B, X', hpost, hsteps⟩
  · exact Or.inl ⟨v, vm₁, B, X₁.warmed, X', hpost, fun target h => hstep₁ _ fun acts => by rw [doInvoke_state]; exact hsteps.trans h⟩
  · exact Or.inr ⟨q, vm₁, B, X₁.warmed, X', hpost, hstep₁ _ fun acts => by rw [doInvoke_state]; exact hsteps⟩
theorem vx_runU {x y : MethodName} {bytes cc : ByteArray} {maxL nL mc ms n index : Nat} {ret : Option FieldType} {ws : List Cond} {rm : Room} {Pc : Array Value → State → Prop} {Qc : Array Value → State → Outcome → State → Prop} {XC : String → State → State → Prop} {free : Addr → Prop} {Ts : List Cond} {own C owner : String} {b : Addr} {As rest : List Value} {g : JFrame}
    (S : CallFix p m c cc nL s args Ts own) (hM : vx_Met l y ws rm Pc Qc XC mc ms free) (cw : va_CU R s args own C owner index x y bytes maxL ret ws rm mc ms n) (hp : PreV s H C b Pc As)
    (hg : g.method = m) (hn : As.length = n) (hsize : g.locals.size = nL) (hstack : g.stack = As.reverse ++ .ref b :: rest) (hW : 2 * g.monitorRoom + (rest.map fun v => v.category).sum ≤ 8) (hdg : decode cc g.pc = .ok (.invokevirtual index, 3)) (hf : cells + mc ≤ R.cells ∧ slots + ms ≤ R.slots) :
    vx_Run p l e R s m args below meth c H locs cells slots mc ms g rest (Qc (Value.ref b :: As).toArray) XC free := by
  obtain ⟨hrc, hrs, hfr, hlo, hws, hcw⟩ := cw.back
  have hini := cw.init
  have hK : vx_Back l R p e below s args y 3 8 (PreOf R mc ms Pc) (PostOf Qc mc ms free) (vx_Post XC mc ms free) := vx_back (bytes := bytes) (maxL := maxL) (ret := ret) hM hp.1 hrc hrs hfr hlo hws hcw (fun a' U hW => word_at hW (Or.inl (by first | rfl | simp [Cond.onTables, Cond.keeps, Cond.steady])) hini)
  obtain ⟨hx, hb, hml, ho, -⟩ := S
  obtain ⟨-, ⟨cellB, hcB, hoB, hclB⟩, hPc⟩ := hp
  intro T hT X
  rcases vx_callVU X hx (C := C) (owner := owner) (bytes := bytes) (maxL := maxL) (ret := ret) ho cw.link cw.same cw.decl cw.notMH cw.sel cw.inst cw.code hK (by rw [hT]; exact hcB) hoB hclB hg (hsize.trans hml.symm) (argsL := As) (rest := rest) (fun sig h => hn.trans (cw.len sig h)) hstack hW (by rw [hb]; exact hdg)
    (fun vm₁ hW₁ => ⟨hf.1, hf.2, hPc (T.setVm vm₁) hT hW₁⟩) with ⟨v, vm₁, ⟨U', l2, c2, s2⟩, hW₁, X', ⟨g', mk, t, L, e1, e2, hq, h1, hL, h2, h3⟩, st⟩ | ⟨q, vm₁, ⟨U', l2, c2, s2⟩, hW₁, X', ⟨g', mk, t, L, E, ce, e1, e2, hq, hce, hcv, hcl, h1, hL, h2, h3⟩, st⟩
  · dsimp only [Pt.U, Pt.locs, Pt.cells, Pt.slots] at X' e1 e2 h1 h2 h3 st
    subst h1; subst h2; subst h3
    exact Or.inl ⟨v, (T.setVm vm₁).calling g' mk (Value.ref b :: As).toArray, t, U', L, hT, X', hL, e1, e2, hq, st⟩
  · dsimp only [Pt.U, Pt.locs, Pt.cells, Pt.slots] at X' e1 e2 h1 h2 h3 st hcl
    subst h1; subst h2; subst h3
    exact Or.inr ⟨q, (T.setVm vm₁).calling g' mk (Value.ref b :: As).toArray, t, U', L, E, ce, hT, X', hL, e1, e2, hq, hce, hcv, vx_cls hW₁ hcl, st⟩
end
/-! ===== END ===== -/
/-! ===== BEGIN super.m(..) that may throw (follows va_callSU, va_runSU) ===== -/
section
variable {p : Program} {l : Launch} {e : Env} {R : Room} {s : State} {m : MethodId} {args : Array Value} {below : List Frame} {meth : Method} {c : Code} {H : Heap} {locs : List Loc} {cells slots : Nat}
theorem vx_callSU {T : State} {locs : List Loc} {cells slots : Nat} (X : Stand p l e R s m args below meth c T locs cells slots) (hexec : p.tables.exec = Jvm.exec) {own : String} {index : Nat} {y : MethodName} {bytes : ByteArray} {maxL : Nat} {ret : Option FieldType}
    (hown : s.vm.findClass own = some m.cls) (hlink : (Cond.methodLink own index y).before args s = true) (hsame : (Cond.sameMethod y.cls y.cls y.name y.desc).before args s = true) (hsup : (Cond.superclass own y.cls).before args s = true)
    (hinst : (Cond.instanceMethod y).before args s = true) (hcode : (Cond.code y bytes maxL ret).before args s = true) (hno : y.name ≠ "<init>")
    {W : Nat} {Pre : Pt → Array Value → Prop} {Post : Pt → Array Value → Option Value → Pt → Prop} {PostX : Pt → Array Value → Addr → Pt → Prop} (hK : vx_Back l R p e below s args y 3 W Pre Post PostX)
    {b : Addr} {cellB : Cell} {kB : Class} (hcell : T.heap[b]? = some cellB) (hobj : cellB.vm.isStatics = false) (hkB : s.vm.classes[cellB.cls]? = some kB)
    {g : JFrame} (hg : g.method = m) (hsize : g.locals.size = c.maxLocals) {argsL rest : List Value} (hlen : ∀ sig, parseMethodDescriptor y.desc = some sig → argsL.length = sig.parameters.length)
    (hstack : g.stack = argsL.reverse ++ .ref b :: rest) (hW : 2 * g.monitorRoom + (rest.map fun v => v.category).sum ≤ W) (hdg : decode c.code g.pc = .ok (.invokespecial index, 3))
    (hpre : ∀ vm₁, s.WarmedH vm₁ → Pre ⟨T.setVm vm₁, locs, cells, slots⟩ (Value.ref b :: argsL).toArray) :
    (∃ (v : Option Value) (vm₁ : Vm) (B : Pt), s.WarmedH vm₁ ∧ Stand p l e R s m args below meth c B.U B.locs B.cells B.slots ∧ Post ⟨T.setVm vm₁, locs, cells, slots⟩ (Value.ref b :: argsL).toArray v B ∧
      ∀ target, Steps p.tables e below (B.U.setTop { g with pc := g.pc + 3, stack := v.toList ++ rest }) target → Steps p.tables e below (T.setTop g) target) ∨
    (∃ (q : Addr) (vm₁ : Vm) (B : Pt), s.WarmedH vm₁ ∧ Stand p l e R s m args below meth c B.U B.locs B.cells B.slots ∧ PostX ⟨T.setVm vm₁, locs, cells, slots⟩ (Value.ref b :: argsL).toArray q B ∧
      Steps p.tables e below (T.setTop g) ((B.U.setTop { g with stack := rest }).pushFrame (.throwing q))) := by
  obtain ⟨mk, methM, hnamed, hmethM, hstM, habM⟩ := Cond.instanceMethod_spec hinst
  obtain ⟨methM', cM, hmethM', -, -, -, -, -, -, hsigM⟩ := Cond.code_spec hnamed hcode
  cases hmethM.symm.trans hmethM'
  obtain ⟨ps, dk, kp, hps, hdk, hkp, hsuper, -, -, hnid⟩ := Cond.superclass_spec hown hsup
  have hn : s.methodNamed? ⟨y.cls, y.name, y.desc⟩ = some mk := hnamed
  have hpm : ps = mk.cls := Option.some.inj (hps.symm.trans (findClass_of_methodNamed hnamed))
  have hsub : s.vm.isSubclass ps mk.cls = true := by rw [hpm]; simp [Vm.isSubclass, Vm.isSubclassAux]
  obtain ⟨vm₁, X₁, hstep₁⟩ := X.invokespecialUp hexec hown hlink hsame hn hmethM hstM habM hno hdk hnid hps hsuper hsub (a := b) (cell := cellB) hcell
    (fun z h => by rw [h] at hobj; cases hobj) hkB (g := g) hg (argsL := argsL) (rest := rest) (hlen _ hsigM) hstack hdg
  rcases hK m meth c ⟨T.setVm vm₁, locs, cells, slots⟩ { g with stack := rest } (.invokespecial index) mk (Value.ref b :: argsL).toArray X₁ hg hsize hdg hW (X₁.named hnamed) (hpre vm₁ X₁.warmed) with ⟨v, B, X', hpost, hsteps⟩ | ⟨q, B, X', hpost, hsteps⟩
  · exact Or.inl ⟨v, vm₁, B, X₁.warmed, X', hpost, fun target h => hstep₁ _ (by rw [doInvoke_state]; exact hsteps.trans h)⟩
  · exact Or.inr ⟨q, vm₁, B, X₁.warmed, X', hpost, hstep₁ _ (by rw [doInvoke_state]; exact hsteps)⟩
theorem vx_runSU {y : MethodName} {bytes cc : ByteArray} {maxL nL mc ms n index : Nat} {ret : Option FieldType} {ws : List Cond} {rm : Room} {Pc : Array Value → State → Prop} {Qc : Array Value → State → Outcome → State → Prop} {XC : String → State → State → Prop} {free : Addr → Prop} {Ts : List Cond} {own C : String} {cC : ClassId} {b : Addr} {As rest : List Value} {g : JFrame}
    (hat : ClassAt s C cC) (S : CallFix p m c cc nL s args Ts own) (hM : vx_Met l y ws rm Pc Qc XC mc ms free) (cw : va_CS R s args own index y bytes maxL ret ws rm mc ms n) (hp : PreV s H C b Pc As)
    (hg : g.method = m) (hn : As.length = n) (hsize : g.locals.size = nL) (hstack : g.stack = As.reverse ++ .ref b :: rest) (hW : 2 * g.monitorRoom + (rest.map fun v => v.category).sum ≤ 8) (hdg : decode cc g.pc = .ok (.invokespecial index, 3)) (hf : cells + mc ≤ R.cells ∧ slots + ms ≤ R.slots) :
    vx_Run p l e R s m args below meth c H locs cells slots mc ms g rest (Qc (Value.ref b :: As).toArray) XC free := by
  obtain ⟨⟨hrc, hrs, hfr, hlo, hws, hcw⟩, hl1, hl2, hl3, hl4, hini, hcode, hno, hlen⟩ := cw
  have hK : vx_Back l R p e below s args y 3 8 (PreOf R mc ms Pc) (PostOf Qc mc ms free) (vx_Post XC mc ms free) := vx_back (bytes := bytes) (maxL := maxL) (ret := ret) hM hp.1 hrc hrs hfr hlo hws hcw (fun a' U hW => word_at hW (Or.inl (by first | rfl | simp [Cond.onTables, Cond.keeps, Cond.steady])) hini)
  obtain ⟨hx, hb, hml, ho, -⟩ := S
  obtain ⟨-, ⟨cellB, hcB, hoB, hclB⟩, hPc⟩ := hp
  obtain ⟨hfc, kB, hkB, -⟩ := hat
  cases hfc.symm.trans hclB
  intro T hT X
  rcases vx_callSU X hx (bytes := bytes) (maxL := maxL) (ret := ret) ho hl1 hl2 hl3 hl4 hcode hno hK (by rw [hT]; exact hcB) hoB hkB hg (hsize.trans hml.symm) (argsL := As) (rest := rest) (fun sig h => hn.trans (hlen sig h)) hstack hW (by rw [hb]; exact hdg)
    (fun vm₁ hW₁ => ⟨hf.1, hf.2, hPc (T.setVm vm₁) hT hW₁⟩) with ⟨v, vm₁, ⟨U', l2, c2, s2⟩, hW₁, X', ⟨g', mk, t, L, e1, e2, hq, h1, hL, h2, h3⟩, st⟩ | ⟨q, vm₁, ⟨U', l2, c2, s2⟩, hW₁, X', ⟨g', mk, t, L, E, ce, e1, e2, hq, hce, hcv, hcl, h1, hL, h2, h3⟩, st⟩
  · dsimp only [Pt.U, Pt.locs, Pt.cells, Pt.slots] at X' e1 e2 h1 h2 h3 st
    subst h1; subst h2; subst h3
    exact Or.inl ⟨v, (T.setVm vm₁).calling g' mk (Value.ref b :: As).toArray, t, U', L, hT, X', hL, e1, e2, hq, st⟩
  · dsimp only [Pt.U, Pt.locs, Pt.cells, Pt.slots] at X' e1 e2 h1 h2 h3 st hcl
    subst h1; subst h2; subst h3
    exact Or.inr ⟨q, (T.setVm vm₁).calling g' mk (Value.ref b :: As).toArray, t, U', L, E, ce, hT, X', hL, e1, e2, hq, hce, hcv, vx_cls hW₁ hcl, st⟩
end
/-! ===== END ===== -/
/-! ===== BEGIN a private method of a nest mate that may throw (follows va_callVN, va_callSN, va_runVN, va_runSN) ===== -/
section
variable {p : Program} {l : Launch} {e : Env} {R : Room} {s : State} {m : MethodId} {args : Array Value} {below : List Frame} {meth : Method} {c : Code} {H : Heap} {locs : List Loc} {cells slots : Nat}
variable {T : State}
theorem vx_callVN (X : Stand p l e R s m args below meth c T locs cells slots) (hexec : p.tables.exec = Jvm.exec) {own C : String} {index : Nat} {host : String} {y : MethodName} {bytes : ByteArray} {maxL : Nat} {ret : Option FieldType}
    (hown : s.vm.findClass own = some m.cls) (hlink : (Cond.methodLinkNest own index y host).before args s = true) (hinst : (Cond.instanceMethod y).before args s = true) (hsel : (Cond.selects C y y).before args s = true)
    (hcode : (Cond.code y bytes maxL ret).before args s = true) (hy : y.cls ≠ "java/lang/invoke/MethodHandle" ∧ y.cls ≠ "java/lang/invoke/VarHandle")
    {W : Nat} {Pre : Pt → Array Value → Prop} {Post : Pt → Array Value → Option Value → Pt → Prop} {PostX : Pt → Array Value → Addr → Pt → Prop} (hK : vx_Back l R p e below s args y 3 W Pre Post PostX)
    {b : Addr} {cellB : Cell} (hcell : T.heap[b]? = some cellB) (hobj : cellB.vm.isStatics = false) (hcls : s.vm.findClass C = some cellB.cls)
    {g : JFrame} (hg : g.method = m) (hsize : g.locals.size = c.maxLocals) {argsL rest : List Value} (hlen : ∀ sig, parseMethodDescriptor y.desc = some sig → argsL.length = sig.parameters.length)
    (hstack : g.stack = argsL.reverse ++ .ref b :: rest) (hW : 2 * g.monitorRoom + (rest.map fun v => v.category).sum ≤ W) (hdg : decode c.code g.pc = .ok (.invokevirtual index, 3))
    (hpre : ∀ vm₁, s.WarmedH vm₁ → Pre ⟨T.setVm vm₁, locs, cells, slots⟩ (Value.ref b :: argsL).toArray) :
    (∃ (v : Option Value) (vm₁ : Vm) (B : Pt), s.WarmedH vm₁ ∧ Stand p l e R s m args below meth c B.U B.locs B.cells B.slots ∧ Post ⟨T.setVm vm₁, locs, cells, slots⟩ (Value.ref b :: argsL).toArray v B ∧
      ∀ target, Steps p.tables e below (B.U.setTop { g with pc := g.pc + 3, stack := v.toList ++ rest }) target → Steps p.tables e below (T.setTop g) target) ∨
    (∃ (q : Addr) (vm₁ : Vm) (B : Pt), s.WarmedH vm₁ ∧ Stand p l e R s m args below meth c B.U B.locs B.cells B.slots ∧ PostX ⟨T.setVm vm₁, locs, cells, slots⟩ (Value.ref b :: argsL).toArray q B ∧
      Steps p.tables e below (T.setTop g) ((B.U.setTop { g with stack := rest }).pushFrame (.throwing q))) := by
  obtain ⟨mk, methM, hnamed, hmethM, hstM, habM⟩ := Cond.instanceMethod_spec hinst
  obtain ⟨methM', cM, hmethM', -, -, -, -, -, -, hsigM⟩ := Cond.code_spec hnamed hcode
  cases hmethM.symm.trans hmethM'
  obtain ⟨c2, r2, m2, q1, q2, q3, q4, kP, hkP, hkPi⟩ := Cond.selects_spec hsel
  cases hcls.symm.trans q1
  cases (State.methodFound?_of_named hnamed hy).symm.trans q2
  cases hnamed.symm.trans q3
  have hselP : selectMethod e.platform s.vm cellB.cls mk = .method mk := by rw [Launch.admits_selectMethod X.admits]; exact q4
  obtain ⟨vm₁, X₁, hstep₁⟩ := X.invokevirtualNest hexec hown hlink hnamed hmethM hstM hkP hkPi hy (a := b) (cell := cellB) hcell
    (fun z h => by rw [h] at hobj; cases hobj) hselP hmethM habM hkP hkPi (g := g) hg (argsL := argsL) (rest := rest) (hlen _ hsigM) hstack hdg
  rcases hK m meth c ⟨T.setVm vm₁, locs, cells, slots⟩ { g with stack := rest } (.invokevirtual index) mk (Value.ref b :: argsL).toArray X₁ hg hsize hdg hW (X₁.named hnamed) (hpre vm₁ X₁.warmed) with ⟨v, B, X', hpost, hsteps⟩ | ⟨q, B, X', hpost, hsteps⟩
  · exact Or.inl ⟨v, vm₁, B, X₁.warmed, X', hpost, fun target h => hstep₁ _ fun acts => by rw [doInvoke_state]; exact hsteps.trans h⟩
  · exact Or.inr ⟨q, vm₁, B, X₁.warmed, X', hpost, hstep₁ _ fun acts => by rw [doInvoke_state]; exact hsteps⟩
theorem vx_callSN (X : Stand p l e R s m args below meth c T locs cells slots) (hexec : p.tables.exec = Jvm.exec) {own : String} {index : Nat} {host : String} {y : MethodName} {bytes : ByteArray} {maxL : Nat} {ret : Option FieldType}
    (hown : s.vm.findClass own = some m.cls) (hlink : (Cond.methodLinkNest own index y host).before args s = true) (hstat : (Cond.static y).before args s = true) (hinit : (Cond.initialized y.cls).before args s = true)
    (hcode : (Cond.code y bytes maxL ret).before args s = true) (hy : y.cls ≠ "java/lang/invoke/MethodHandle" ∧ y.cls ≠ "java/lang/invoke/VarHandle")
    {W : Nat} {Pre : Pt → Array Value → Prop} {Post : Pt → Array Value → Option Value → Pt → Prop} {PostX : Pt → Array Value → Addr → Pt → Prop} (hK : vx_Back l R p e below s args y 3 W Pre Post PostX)
    {g : JFrame} (hg : g.method = m) (hsize : g.locals.size = c.maxLocals) {argsL rest : List Value} (hlen : ∀ sig, parseMethodDescriptor y.desc = some sig → argsL.length = sig.parameters.length)
    (hstack : g.stack = argsL.reverse ++ rest) (hW : 2 * g.monitorRoom + (rest.map fun v => v.category).sum ≤ W) (hdg : decode c.code g.pc = .ok (.invokestatic index, 3))
    (hpre : ∀ vm₁, s.WarmedH vm₁ → Pre ⟨T.setVm vm₁, locs, cells, slots⟩ argsL.toArray) :
    (∃ (v : Option Value) (vm₁ : Vm) (B : Pt), s.WarmedH vm₁ ∧ Stand p l e R s m args below meth c B.U B.locs B.cells B.slots ∧ Post ⟨T.setVm vm₁, locs, cells, slots⟩ argsL.toArray v B ∧
      ∀ target, Steps p.tables e below (B.U.setTop { g with pc := g.pc + 3, stack := v.toList ++ rest }) target → Steps p.tables e below (T.setTop g) target) ∨
    (∃ (q : Addr) (vm₁ : Vm) (B : Pt), s.WarmedH vm₁ ∧ Stand p l e R s m args below meth c B.U B.locs B.cells B.slots ∧ PostX ⟨T.setVm vm₁, locs, cells, slots⟩ argsL.toArray q B ∧
      Steps p.tables e below (T.setTop g) ((B.U.setTop { g with stack := rest }).pushFrame (.throwing q))) := by
  obtain ⟨mk, hnamed⟩ := Cond.code_named hcode
  obtain ⟨methM, cM, hmethM, -, -, -, -, -, -, hsigM⟩ := Cond.code_spec hnamed hcode
  have hstatic : methM.isStatic = true := Cond.static_spec hnamed hmethM hstat
  obtain ⟨kP, hkP, -⟩ := className_of_methodNamed hnamed
  have hinitP : kP.init = .initialized := Cond.initialized_spec (findClass_of_methodNamed hnamed) hkP hinit
  obtain ⟨vm₁, X₁, hstep₁⟩ := X.invokestaticNest hexec hown hlink hnamed hmethM hstatic hkP hinitP hy (g := g) hg (argsL := argsL) (rest := rest) (hlen _ hsigM) hstack hdg
  rcases hK m meth c ⟨T.setVm vm₁, locs, cells, slots⟩ { g with stack := rest } (.invokestatic index) mk argsL.toArray X₁ hg hsize hdg hW (X₁.named hnamed) (hpre vm₁ X₁.warmed) with ⟨v, B, X', hpost, hsteps⟩ | ⟨q, B, X', hpost, hsteps⟩
  · exact Or.inl ⟨v, vm₁, B, X₁.warmed, X', hpost, fun target h => hstep₁ _ fun acts => by rw [doInvoke_state]; exact hsteps.trans h⟩
  · exact Or.inr ⟨q, vm₁, B, X₁.warmed, X', hpost, hstep₁ _ fun acts => by rw [doInvoke_state]; exact hsteps⟩
theorem vx_runVN {y : MethodName} {bytes cc : ByteArray} {maxL nL mc ms n index : Nat} {ret : Option FieldType} {ws : List Cond} {rm : Room} {Pc : Array Value → State → Prop} {Qc : Array Value → State → Outcome → State → Prop} {XC : String → State → State → Prop} {free : Addr → Prop} {Ts : List Cond} {own C host : String} {b : Addr} {As rest : List Value} {g : JFrame}
    (S : CallFix p m c cc nL s args Ts own) (hM : vx_Met l y ws rm Pc Qc XC mc ms free) (cw : va_CN R s args own index y host bytes maxL ret ws rm mc ms n ∧ (Cond.instanceMethod y).before args s = true ∧ (Cond.selects C y y).before args s = true) (hp : PreV s H C b Pc As)
    (hg : g.method = m) (hn : As.length = n) (hsize : g.locals.size = nL) (hstack : g.stack = As.reverse ++ .ref b :: rest) (hW : 2 * g.monitorRoom + (rest.map fun v => v.category).sum ≤ 8) (hdg : decode cc g.pc = .ok (.invokevirtual index, 3)) (hf : cells + mc ≤ R.cells ∧ slots + ms ≤ R.slots) :
    vx_Run p l e R s m args below meth c H locs cells slots mc ms g rest (Qc (Value.ref b :: As).toArray) XC free := by
  obtain ⟨⟨⟨hrc, hrs, hfr, hlo, hws, hcw⟩, hcode, hini, hy, hlen, hl⟩, hx1, hx2⟩ := cw
  have hK : vx_Back l R p e below s args y 3 8 (PreOf R mc ms Pc) (PostOf Qc mc ms free) (vx_Post XC mc ms free) := vx_back (bytes := bytes) (maxL := maxL) (ret := ret) hM hp.1 hrc hrs hfr hlo hws hcw (fun a' U hW => word_at hW (Or.inl (by first | rfl | simp [Cond.onTables, Cond.keeps, Cond.steady])) hini)
  obtain ⟨hx, hb, hml, ho, -⟩ := S
  obtain ⟨-, ⟨cellB, hcB, hoB, hclB⟩, hPc⟩ := hp
  intro T hT X
  rcases vx_callVN X hx (C := C) (bytes := bytes) (maxL := maxL) (ret := ret) ho hl hx1 hx2 hcode hy hK (by rw [hT]; exact hcB) hoB hclB hg (hsize.trans hml.symm) (argsL := As) (rest := rest) (fun sig h => hn.trans (hlen sig h)) hstack hW (by rw [hb]; exact hdg)
    (fun vm₁ hW₁ => ⟨hf.1, hf.2, hPc (T.setVm vm₁) hT hW₁⟩) with ⟨v, vm₁, ⟨U', l2, c2, s2⟩, hW₁, X', ⟨g', mk, t, L, e1, e2, hq, h1, hL, h2, h3⟩, st⟩ | ⟨q, vm₁, ⟨U', l2, c2, s2⟩, hW₁, X', ⟨g', mk, t, L, E, ce, e1, e2, hq, hce, hcv, hcl, h1, hL, h2, h3⟩, st⟩
  · dsimp only [Pt.U, Pt.locs, Pt.cells, Pt.slots] at X' e1 e2 h1 h2 h3 st
    subst h1; subst h2; subst h3
    exact Or.inl ⟨v, (T.setVm vm₁).calling g' mk (Value.ref b :: As).toArray, t, U', L, hT, X', hL, e1, e2, hq, st⟩
  · dsimp only [Pt.U, Pt.locs, Pt.cells, Pt.slots] at X' e1 e2 h1 h2 h3 st hcl
    subst h1; subst h2; subst h3
    exact Or.inr ⟨q, (T.setVm vm₁).calling g' mk (Value.ref b :: As).toArray, t, U', L, E, ce, hT, X', hL, e1, e2, hq, hce, hcv, vx_cls hW₁ hcl, st⟩
theorem vx_runSN {y : MethodName} {bytes cc : ByteArray} {maxL nL mc ms n index : Nat} {ret : Option FieldType} {ws : List Cond} {rm : Room} {Pc : Array Value → State → Prop} {Qc : Array Value → State → Outcome → State → Prop} {XC : String → State → State → Prop} {free : Addr → Prop} {Ts : List Cond} {own host : String} {As rest : List Value} {g : JFrame}
    (S : CallFix p m c cc nL s args Ts own) (hM : vx_Met l y ws rm Pc Qc XC mc ms free) (cw : va_CN R s args own index y host bytes maxL ret ws rm mc ms n ∧ (Cond.static y).before args s = true ∧ True) (hp : PreS s H Pc As)
    (hg : g.method = m) (hn : As.length = n) (hsize : g.locals.size = nL) (hstack : g.stack = As.reverse ++ rest) (hW : 2 * g.monitorRoom + (rest.map fun v => v.category).sum ≤ 8) (hdg : decode cc g.pc = .ok (.invokestatic index, 3)) (hf : cells + mc ≤ R.cells ∧ slots + ms ≤ R.slots) :
    vx_Run p l e R s m args below meth c H locs cells slots mc ms g rest (Qc As.toArray) XC free := by
  obtain ⟨⟨⟨hrc, hrs, hfr, hlo, hws, hcw⟩, hcode, hini, hy, hlen, hl⟩, hx1, hx2⟩ := cw
  have hK : vx_Back l R p e below s args y 3 8 (PreOf R mc ms Pc) (PostOf Qc mc ms free) (vx_Post XC mc ms free) := vx_back (bytes := bytes) (maxL := maxL) (ret := ret) hM hp.1 hrc hrs hfr hlo hws hcw (fun a' U hW => word_at hW (Or.inl (by first | rfl | simp [Cond.onTables, Cond.keeps, Cond.steady])) hini)
  obtain ⟨hx, hb, hml, ho, -⟩ := S
  have hPc := hp.2
  intro T hT X
  rcases vx_callSN X hx (bytes := bytes) (maxL := maxL) (ret := ret) ho hl hx1 hini hcode hy hK hg (hsize.trans hml.symm) (argsL := As) (rest := rest) (fun sig h => hn.trans (hlen sig h)) hstack hW (by rw [hb]; exact hdg)
    (fun vm₁ hW₁ => ⟨hf.1, hf.2, hPc (T.setVm vm₁) hT hW₁⟩) with ⟨v, vm₁, ⟨U', l2, c2, s2⟩, hW₁, X', ⟨g', mk, t, L, e1, e2, hq, h1, hL, h2, h3⟩, st⟩ | ⟨q, vm₁, ⟨U', l2, c2, s2⟩, hW₁, X', ⟨g', mk, t, L, E, ce, e1, e2, hq, hce, hcv, hcl, h1, hL, h2, h3⟩, st⟩
  · dsimp only [Pt.U, Pt.locs, Pt.cells, Pt.slots] at X' e1 e2 h1 h2 h3 st
    subst h1; subst h2; subst h3
    exact Or.inl ⟨v, (T.setVm vm₁).calling g' mk As.toArray, t, U', L, hT, X', hL, e1, e2, hq, st⟩
  · dsimp only [Pt.U, Pt.locs, Pt.cells, Pt.slots] at X' e1 e2 h1 h2 h3 st hcl
    subst h1; subst h2; subst h3
    exact Or.inr ⟨q, (T.setVm vm₁).calling g' mk As.toArray, t, U', L, E, ce, hT, X', hL, e1, e2, hq, hce, hcv, vx_cls hW₁ hcl, st⟩
end
/-! ===== END ===== -/
/-! ===== BEGIN calls by an interface of methods that may throw (vx_callIF, vx_runF follow va_callIF, va_runF of this kit) ===== -/
section
variable {p : Program} {l : Launch} {e : Env} {R : Room} {s : State} {m : MethodId} {args : Array Value} {below : List Frame} {meth : Method} {c : Code} {H : Heap} {locs : List Loc} {cells slots : Nat} {Q : State → Prop}
variable {mc ms : Nat} {free : Addr → Prop} {A0 A1 : Nat → Prop} {H0 : Heap} {a : Array Value} {pc : Nat} {ls : Array Slot} {st0 rest : List Value}
def vx_Run5 (p : Program) (l : Launch) (e : Env) (R : Room) (s : State) (m : MethodId) (args : Array Value) (below : List Frame) (meth : Method) (c : Code) (H : Heap) (locs : List Loc) (cells slots mc ms : Nat) (g : JFrame) (rest : List Value) (Qa : State → Outcome → State → Prop) (XC : String → State → State → Prop) (free : Addr → Prop) : Prop :=
  ∀ T : State, T.heap = H → Stand p l e R s m args below meth c T locs cells slots →
    (∃ (v : Option Value) (st₀ t T' : State) (L : List Loc), st₀.heap = H ∧ Stand p l e R s m args below meth c T' (locs ++ L) (cells + mc) (slots + ms) ∧ (∀ q ∈ L, free q.base) ∧ T'.heap = t.heap ∧ T'.vm = t.vm ∧ Qa st₀ (.returned v) t ∧
      Goes p e below T g T' { g with pc := g.pc + 5, stack := v.toList ++ rest }) ∨
    (∃ (q : Addr) (st₀ t T' : State) (L : List Loc) (E : String) (ce : Cell), st₀.heap = H ∧ Stand p l e R s m args below meth c T' (locs ++ L) (cells + mc) (slots + ms) ∧ (∀ z ∈ L, free z.base) ∧ T'.heap = t.heap ∧ T'.vm = t.vm ∧ XC E st₀ t ∧ t.heap[q]? = some ce ∧ ce.vm = .none ∧ s.vm.findClass E = some ce.cls ∧
      Steps p.tables e below (T.setTop g) ((T'.setTop { g with stack := rest }).pushFrame (.throwing q)))
theorem vx_callIF {T : State} (X : Stand p l e R s m args below meth c T locs cells slots) (hexec : p.tables.exec = Jvm.exec) {own C : String} {index count : Nat} {x y : MethodName} {bytes : ByteArray} {maxL : Nat} {ret : Option FieldType}
    (hown : s.vm.findClass own = some m.cls) (hlink : (Cond.methodLink own index x).before args s = true) (hdecl : (Cond.declares x).before args s = true) (hface : (Cond.interfaceMethod x.cls x.cls x.name x.desc).before args s = true)
    (hsel : (Cond.selects C x y).before args s = true) (hinst : (Cond.instanceMethod y).before args s = true) (hpub : (Cond.publicMethod y).before args s = true) (hunh : (Cond.unhidden C x.name x.desc).before args s = true)
    (hcast : (Cond.castable C x.cls).before args s = true) (hcode : (Cond.code y bytes maxL ret).before args s = true) (hx : x.cls ≠ "java/lang/invoke/MethodHandle" ∧ x.cls ≠ "java/lang/invoke/VarHandle")
    {W9 : Nat} {Pre : Pt → Array Value → Prop} {Post : Pt → Array Value → Option Value → Pt → Prop} {PostX : Pt → Array Value → Addr → Pt → Prop} (hK : vx_Back l R p e below s args y 5 W9 Pre Post PostX)
    {b : Addr} {cellB : Cell} {kB : Class} (hcell : T.heap[b]? = some cellB) (hobj : cellB.vm.isStatics = false) (hcls : s.vm.findClass C = some cellB.cls) (hkB : s.vm.classes[cellB.cls]? = some kB)
    {g : JFrame} (hg : g.method = m) (hsize : g.locals.size = c.maxLocals) {argsL rest : List Value} (hlen : ∀ sig, parseMethodDescriptor x.desc = some sig → argsL.length = sig.parameters.length)
    (hstack : g.stack = argsL.reverse ++ .ref b :: rest) (hW : 2 * g.monitorRoom + (rest.map fun v => v.category).sum ≤ W9) (hdg : decode c.code g.pc = .ok (.invokeinterface index count, 5))
    (hpre : ∀ vm₁, s.WarmedH vm₁ → Pre ⟨T.setVm vm₁, locs, cells, slots⟩ (Value.ref b :: argsL).toArray) :
    (∃ (v : Option Value) (vm₁ : Vm) (B : Pt), s.WarmedH vm₁ ∧ Stand p l e R s m args below meth c B.U B.locs B.cells B.slots ∧ Post ⟨T.setVm vm₁, locs, cells, slots⟩ (Value.ref b :: argsL).toArray v B ∧
      ∀ target, Steps p.tables e below (B.U.setTop { g with pc := g.pc + 5, stack := v.toList ++ rest }) target → Steps p.tables e below (T.setTop g) target) ∨
    (∃ (q : Addr) (vm₁ : Vm) (B : Pt), s.WarmedH vm₁ ∧ Stand p l e R s m args below meth c B.U B.locs B.cells B.slots ∧ PostX ⟨T.setVm vm₁, locs, cells, slots⟩ (Value.ref b :: argsL).toArray q B ∧
      Steps p.tables e below (T.setTop g) ((B.U.setTop { g with stack := rest }).pushFrame (.throwing q))) := by
  obtain ⟨r0, r, hn, hrm, hstR, hsigR⟩ := Cond.declares_spec hdecl
  obtain ⟨cL, kL, r1, hcL, hkL, hiL, hfoundL, hn1⟩ := Cond.interfaceMethod_spec hface
  cases hn.symm.trans hn1
  have hr0cls : r0.cls = cL := Option.some.inj ((findClass_of_methodNamed hn).symm.trans hcL)
  obtain ⟨hnameR, hdescR⟩ := name_of_methodNamed hn hrm
  obtain ⟨mk, methM, hnamed, hmethM, -, habM⟩ := Cond.instanceMethod_spec hinst
  obtain ⟨c2, r2, m2, q1, q2, q3, q4, -⟩ := Cond.selects_spec hsel
  cases hcls.symm.trans q1
  cases hfoundL.symm.trans q2
  cases hnamed.symm.trans q3
  have hselP : selectMethod e.platform s.vm cellB.cls r0 = .method mk := by rw [Launch.admits_selectMethod X.admits]; exact q4
  have hpubM : hasFlag methM.accessFlags Acc.public_ = true := Cond.publicMethod_spec hnamed hmethM hpub
  have hway : ((cellB.cls :: s.vm.superclasses cellB.cls).any fun k => (declaredIn s.vm r.name r.desc k).any fun (_, z) => z.isPrivate || z.isStatic) = false := by
    rw [hnameR, hdescR]; exact Cond.unhidden_spec hcls hunh
  obtain ⟨c3, t3, w1, w2, w3⟩ := Cond.castable_spec hcast
  cases hcls.symm.trans w1
  cases hcL.symm.trans w2
  obtain ⟨vm₁, X₁, hstep₁⟩ := X.invokeinterface hexec hown hlink hn hrm hstR (by rw [hr0cls]; exact hkL) hiL hx (a := b) (cell := cellB) (kcell := kB) hcell
    (fun z h => by rw [h] at hobj; cases hobj) hkB (by rw [hr0cls]; exact w3) hselP hmethM hway hpubM habM (g := g) hg (argsL := argsL) (rest := rest) (hlen _ hsigR) hstack hdg
  rcases hK m meth c ⟨T.setVm vm₁, locs, cells, slots⟩ { g with stack := rest } (.invokeinterface index count) mk (Value.ref b :: argsL).toArray X₁ hg hsize hdg hW (X₁.named hnamed) (hpre vm₁ X₁.warmed) with ⟨v, B, X', hpost, hsteps⟩ | ⟨q, B, X', hpost, hsteps⟩
  · exact Or.inl ⟨v, vm₁, B, X₁.warmed, X', hpost, fun target h => hstep₁ _ fun acts => by rw [doInvoke_state]; exact hsteps.trans h⟩
  · exact Or.inr ⟨q, vm₁, B, X₁.warmed, X', hpost, hstep₁ _ fun acts => by rw [doInvoke_state]; exact hsteps⟩
theorem vx_runF {x y : MethodName} {bytes cc : ByteArray} {maxL nL mc ms n index count : Nat} {ret : Option FieldType} {ws : List Cond} {rm : Room} {Pc : Array Value → State → Prop} {Qc : Array Value → State → Outcome → State → Prop} {XC : String → State → State → Prop} {free : Addr → Prop} {Ts : List Cond} {own C : String} {cC : ClassId} {b : Addr} {As rest : List Value} {g : JFrame}
    (hat : ClassAt s C cC) (S : CallFix p m c cc nL s args Ts own) (hM : vx_Met l y ws rm Pc Qc XC mc ms free) (cw : va_CI R s args own C index x y bytes maxL ret ws rm mc ms n) (hp : PreV s H C b Pc As)
    (hg : g.method = m) (hn : As.length = n) (hsize : g.locals.size = nL) (hstack : g.stack = As.reverse ++ .ref b :: rest) (hW : 2 * g.monitorRoom + (rest.map fun v => v.category).sum ≤ 8) (hdg : decode cc g.pc = .ok (.invokeinterface index count, 5)) (hf : cells + mc ≤ R.cells ∧ slots + ms ≤ R.slots) :
    vx_Run5 p l e R s m args below meth c H locs cells slots mc ms g rest (Qc (Value.ref b :: As).toArray) XC free := by
  obtain ⟨hrc, hrs, hfr, hlo, hws, hcw⟩ := cw.back
  have hini := cw.init
  have hK : vx_Back l R p e below s args y 5 8 (PreOf R mc ms Pc) (PostOf Qc mc ms free) (vx_Post XC mc ms free) := vx_back (bytes := bytes) (maxL := maxL) (ret := ret) hM hp.1 hrc hrs hfr hlo hws hcw (fun a' U hW => word_at hW (Or.inl (by first | rfl | simp [Cond.onTables, Cond.keeps, Cond.steady])) hini)
  obtain ⟨hx, hb, hml, ho, -⟩ := S
  obtain ⟨-, ⟨cellB, hcB, hoB, hclB⟩, hPc⟩ := hp
  obtain ⟨hfc, kB, hkB, -⟩ := hat
  cases hfc.symm.trans hclB
  intro T hT X
  rcases vx_callIF X hx (C := C) (bytes := bytes) (maxL := maxL) (ret := ret) ho cw.link cw.decl cw.face cw.sel cw.inst cw.pub cw.unh cw.cast cw.code cw.notMH hK (by rw [hT]; exact hcB) hoB hclB hkB hg (hsize.trans hml.symm) (argsL := As) (rest := rest) (fun sig h => hn.trans (cw.len sig h)) hstack hW (by rw [hb]; exact hdg)
    (fun vm₁ hW₁ => ⟨hf.1, hf.2, hPc (T.setVm vm₁) hT hW₁⟩) with ⟨v, vm₁, ⟨U', l2, c2, s2⟩, hW₁, X', ⟨g', mk, t, L, e1, e2, hq, h1, hL, h2, h3⟩, st⟩ | ⟨q, vm₁, ⟨U', l2, c2, s2⟩, hW₁, X', ⟨g', mk, t, L, E, ce, e1, e2, hq, hce, hcv, hcl, h1, hL, h2, h3⟩, st⟩
  · dsimp only [Pt.U, Pt.locs, Pt.cells, Pt.slots] at X' e1 e2 h1 h2 h3 st
    subst h1; subst h2; subst h3
    exact Or.inl ⟨v, (T.setVm vm₁).calling g' mk (Value.ref b :: As).toArray, t, U', L, hT, X', hL, e1, e2, hq, st⟩
  · dsimp only [Pt.U, Pt.locs, Pt.cells, Pt.slots] at X' e1 e2 h1 h2 h3 st hcl
    subst h1; subst h2; subst h3
    exact Or.inr ⟨q, (T.setVm vm₁).calling g' mk (Value.ref b :: As).toArray, t, U', L, E, ce, hT, X', hL, e1, e2, hq, hce, hcv, vx_cls hW₁ hcl, st⟩
theorem vx_callFv {S SX : Type} {post : S → Prop} {px : SX → Prop} {B : S → State → Prop} {BX : String → SX → State → Prop} {AX : Nat → Prop} (hr : vx_Run5 p l e R s m args below meth c H locs cells slots mc ms (F0 m pc ls st0) rest (va_Qv post B A1 a) (vx_X px BX AX) free) (hS : va_S A0 H0 H locs) (hA : ∀ q, q < H.size → A1 q → A0 q) (hf : ∀ q, free q → A0 q) (hAX : ∀ q, q < H.size → AX q → A0 q)
    (kx : ∀ (E : String) (ce : Cell) (q9 : Addr) (u : SX) (t : State) (H1 : Heap) (locs1 : List Loc), t.heap = H1 → s.vm.Alike t.vm → px u → BX E u t → H.size ≤ H1.size → (∀ q : Nat, q < H.size → ¬ AX q → H1[q]? = H[q]?) → va_S A0 H0 H1 locs1 → H1[q9]? = some ce → ce.vm = .none → s.vm.findClass E = some ce.cls → vx_W p l e R s m args below meth c H1 locs1 (cells + mc) (slots + ms) Q (F0 m pc ls rest) q9)
    (kk : ∀ (u : S) (t : State) (H1 : Heap) (locs1 : List Loc), t.heap = H1 → s.vm.Alike t.vm → post u → B u t → H.size ≤ H1.size → (∀ q : Nat, q < H.size → ¬ A1 q → H1[q]? = H[q]?) → va_S A0 H0 H1 locs1 → W p l e R s m args below meth c H1 locs1 (cells + mc) (slots + ms) Q (F0 m (pc + 5) ls (rest))) : W p l e R s m args below meth c H locs cells slots Q (F0 m pc ls st0) := by
  intro T hT X
  rcases hr T hT X with ⟨v, st₀, t, T', L, h0, X', hL, e1, e2, ⟨⟨u, hv, hp, hb⟩, hF⟩, st⟩ | ⟨q, st₀, t, T', L, E, ce, h0, X', hL, e1, e2, ⟨u, hp, hb, hF⟩, hce, hcv, hcl, st⟩
  · cases hv
    obtain ⟨k1, k2, k3⟩ := vx_keep h0 e1 hS hA hf hL hF
    obtain ⟨t2, a1, b1⟩ := kk u t T'.heap (locs ++ L) e1.symm (by rw [← e2]; exact X'.warmed.alike) hp hb k1 k2 k3 T' rfl X'
    exact ⟨t2, st t2 a1, b1⟩
  · obtain ⟨k1, k2, k3⟩ := vx_keep h0 e1 hS hAX hf hL hF
    obtain ⟨t2, a1, b1⟩ := kx E ce q u t T'.heap (locs ++ L) e1.symm (by rw [← e2]; exact X'.warmed.alike) hp hb k1 k2 k3 (by rw [e1]; exact hce) hcv hcl T' rfl X'
    exact ⟨t2, st.trans a1, b1⟩
theorem vx_callFi {S SX : Type} {post : Int32 → S → Prop} {px : SX → Prop} {B : S → State → Prop} {BX : String → SX → State → Prop} {AX : Nat → Prop} (hr : vx_Run5 p l e R s m args below meth c H locs cells slots mc ms (F0 m pc ls st0) rest (va_Qi post B A1 a) (vx_X px BX AX) free) (hS : va_S A0 H0 H locs) (hA : ∀ q, q < H.size → A1 q → A0 q) (hf : ∀ q, free q → A0 q) (hAX : ∀ q, q < H.size → AX q → A0 q)
    (kx : ∀ (E : String) (ce : Cell) (q9 : Addr) (u : SX) (t : State) (H1 : Heap) (locs1 : List Loc), t.heap = H1 → s.vm.Alike t.vm → px u → BX E u t → H.size ≤ H1.size → (∀ q : Nat, q < H.size → ¬ AX q → H1[q]? = H[q]?) → va_S A0 H0 H1 locs1 → H1[q9]? = some ce → ce.vm = .none → s.vm.findClass E = some ce.cls → vx_W p l e R s m args below meth c H1 locs1 (cells + mc) (slots + ms) Q (F0 m pc ls rest) q9)
    (kk : ∀ (r : Int32) (u : S) (t : State) (H1 : Heap) (locs1 : List Loc), t.heap = H1 → s.vm.Alike t.vm → post r u → B u t → H.size ≤ H1.size → (∀ q : Nat, q < H.size → ¬ A1 q → H1[q]? = H[q]?) → va_S A0 H0 H1 locs1 → W p l e R s m args below meth c H1 locs1 (cells + mc) (slots + ms) Q (F0 m (pc + 5) ls (.int r :: rest))) : W p l e R s m args below meth c H locs cells slots Q (F0 m pc ls st0) := by
  intro T hT X
  rcases hr T hT X with ⟨v, st₀, t, T', L, h0, X', hL, e1, e2, ⟨⟨r, u, hv, hp, hb⟩, hF⟩, st⟩ | ⟨q, st₀, t, T', L, E, ce, h0, X', hL, e1, e2, ⟨u, hp, hb, hF⟩, hce, hcv, hcl, st⟩
  · cases hv
    obtain ⟨k1, k2, k3⟩ := vx_keep h0 e1 hS hA hf hL hF
    obtain ⟨t2, a1, b1⟩ := kk r u t T'.heap (locs ++ L) e1.symm (by rw [← e2]; exact X'.warmed.alike) hp hb k1 k2 k3 T' rfl X'
    exact ⟨t2, st t2 a1, b1⟩
  · obtain ⟨k1, k2, k3⟩ := vx_keep h0 e1 hS hAX hf hL hF
    obtain ⟨t2, a1, b1⟩ := kx E ce q u t T'.heap (locs ++ L) e1.symm (by rw [← e2]; exact X'.warmed.alike) hp hb k1 k2 k3 (by rw [e1]; exact hce) hcv hcl T' rfl X'
    exact ⟨t2, st.trans a1, b1⟩
theorem vx_callFl {S SX : Type} {post : Int64 → S → Prop} {px : SX → Prop} {B : S → State → Prop} {BX : String → SX → State → Prop} {AX : Nat → Prop} (hr : vx_Run5 p l e R s m args below meth c H locs cells slots mc ms (F0 m pc ls st0) rest (va_Ql post B A1 a) (vx_X px BX AX) free) (hS : va_S A0 H0 H locs) (hA : ∀ q, q < H.size → A1 q → A0 q) (hf : ∀ q, free q → A0 q) (hAX : ∀ q, q < H.size → AX q → A0 q)
    (kx : ∀ (E : String) (ce : Cell) (q9 : Addr) (u : SX) (t : State) (H1 : Heap) (locs1 : List Loc), t.heap = H1 → s.vm.Alike t.vm → px u → BX E u t → H.size ≤ H1.size → (∀ q : Nat, q < H.size → ¬ AX q → H1[q]? = H[q]?) → va_S A0 H0 H1 locs1 → H1[q9]? = some ce → ce.vm = .none → s.vm.findClass E = some ce.cls → vx_W p l e R s m args below meth c H1 locs1 (cells + mc) (slots + ms) Q (F0 m pc ls rest) q9)
    (kk : ∀ (r : Int64) (u : S) (t : State) (H1 : Heap) (locs1 : List Loc), t.heap = H1 → s.vm.Alike t.vm → post r u → B u t → H.size ≤ H1.size → (∀ q : Nat, q < H.size → ¬ A1 q → H1[q]? = H[q]?) → va_S A0 H0 H1 locs1 → W p l e R s m args below meth c H1 locs1 (cells + mc) (slots + ms) Q (F0 m (pc + 5) ls (.long r :: rest))) : W p l e R s m args below meth c H locs cells slots Q (F0 m pc ls st0) := by
  intro T hT X
  rcases hr T hT X with ⟨v, st₀, t, T', L, h0, X', hL, e1, e2, ⟨⟨r, u, hv, hp, hb⟩, hF⟩, st⟩ | ⟨q, st₀, t, T', L, E, ce, h0, X', hL, e1, e2, ⟨u, hp, hb, hF⟩, hce, hcv, hcl, st⟩
  · cases hv
    obtain ⟨k1, k2, k3⟩ := vx_keep h0 e1 hS hA hf hL hF
    obtain ⟨t2, a1, b1⟩ := kk r u t T'.heap (locs ++ L) e1.symm (by rw [← e2]; exact X'.warmed.alike) hp hb k1 k2 k3 T' rfl X'
    exact ⟨t2, st t2 a1, b1⟩
  · obtain ⟨k1, k2, k3⟩ := vx_keep h0 e1 hS hAX hf hL hF
    obtain ⟨t2, a1, b1⟩ := kx E ce q u t T'.heap (locs ++ L) e1.symm (by rw [← e2]; exact X'.warmed.alike) hp hb k1 k2 k3 (by rw [e1]; exact hce) hcv hcl T' rfl X'
    exact ⟨t2, st.trans a1, b1⟩
theorem vx_callFf {S SX : Type} {post : UInt32 → S → Prop} {px : SX → Prop} {B : S → State → Prop} {BX : String → SX → State → Prop} {AX : Nat → Prop} (hr : vx_Run5 p l e R s m args below meth c H locs cells slots mc ms (F0 m pc ls st0) rest (va_Qf post B A1 a) (vx_X px BX AX) free) (hS : va_S A0 H0 H locs) (hA : ∀ q, q < H.size → A1 q → A0 q) (hf : ∀ q, free q → A0 q) (hAX : ∀ q, q < H.size → AX q → A0 q)
    (kx : ∀ (E : String) (ce : Cell) (q9 : Addr) (u : SX) (t : State) (H1 : Heap) (locs1 : List Loc), t.heap = H1 → s.vm.Alike t.vm → px u → BX E u t → H.size ≤ H1.size → (∀ q : Nat, q < H.size → ¬ AX q → H1[q]? = H[q]?) → va_S A0 H0 H1 locs1 → H1[q9]? = some ce → ce.vm = .none → s.vm.findClass E = some ce.cls → vx_W p l e R s m args below meth c H1 locs1 (cells + mc) (slots + ms) Q (F0 m pc ls rest) q9)
    (kk : ∀ (r : UInt32) (u : S) (t : State) (H1 : Heap) (locs1 : List Loc), t.heap = H1 → s.vm.Alike t.vm → post r u → B u t → H.size ≤ H1.size → (∀ q : Nat, q < H.size → ¬ A1 q → H1[q]? = H[q]?) → va_S A0 H0 H1 locs1 → W p l e R s m args below meth c H1 locs1 (cells + mc) (slots + ms) Q (F0 m (pc + 5) ls (.float r :: rest))) : W p l e R s m args below meth c H locs cells slots Q (F0 m pc ls st0) := by
  intro T hT X
  rcases hr T hT X with ⟨v, st₀, t, T', L, h0, X', hL, e1, e2, ⟨⟨r, u, hv, hp, hb⟩, hF⟩, st⟩ | ⟨q, st₀, t, T', L, E, ce, h0, X', hL, e1, e2, ⟨u, hp, hb, hF⟩, hce, hcv, hcl, st⟩
  · cases hv
    obtain ⟨k1, k2, k3⟩ := vx_keep h0 e1 hS hA hf hL hF
    obtain ⟨t2, a1, b1⟩ := kk r u t T'.heap (locs ++ L) e1.symm (by rw [← e2]; exact X'.warmed.alike) hp hb k1 k2 k3 T' rfl X'
    exact ⟨t2, st t2 a1, b1⟩
  · obtain ⟨k1, k2, k3⟩ := vx_keep h0 e1 hS hAX hf hL hF
    obtain ⟨t2, a1, b1⟩ := kx E ce q u t T'.heap (locs ++ L) e1.symm (by rw [← e2]; exact X'.warmed.alike) hp hb k1 k2 k3 (by rw [e1]; exact hce) hcv hcl T' rfl X'
    exact ⟨t2, st.trans a1, b1⟩
theorem vx_callFd {S SX : Type} {post : UInt64 → S → Prop} {px : SX → Prop} {B : S → State → Prop} {BX : String → SX → State → Prop} {AX : Nat → Prop} (hr : vx_Run5 p l e R s m args below meth c H locs cells slots mc ms (F0 m pc ls st0) rest (va_Qd post B A1 a) (vx_X px BX AX) free) (hS : va_S A0 H0 H locs) (hA : ∀ q, q < H.size → A1 q → A0 q) (hf : ∀ q, free q → A0 q) (hAX : ∀ q, q < H.size → AX q → A0 q)
    (kx : ∀ (E : String) (ce : Cell) (q9 : Addr) (u : SX) (t : State) (H1 : Heap) (locs1 : List Loc), t.heap = H1 → s.vm.Alike t.vm → px u → BX E u t → H.size ≤ H1.size → (∀ q : Nat, q < H.size → ¬ AX q → H1[q]? = H[q]?) → va_S A0 H0 H1 locs1 → H1[q9]? = some ce → ce.vm = .none → s.vm.findClass E = some ce.cls → vx_W p l e R s m args below meth c H1 locs1 (cells + mc) (slots + ms) Q (F0 m pc ls rest) q9)
    (kk : ∀ (r : UInt64) (u : S) (t : State) (H1 : Heap) (locs1 : List Loc), t.heap = H1 → s.vm.Alike t.vm → post r u → B u t → H.size ≤ H1.size → (∀ q : Nat, q < H.size → ¬ A1 q → H1[q]? = H[q]?) → va_S A0 H0 H1 locs1 → W p l e R s m args below meth c H1 locs1 (cells + mc) (slots + ms) Q (F0 m (pc + 5) ls (.double r :: rest))) : W p l e R s m args below meth c H locs cells slots Q (F0 m pc ls st0) := by
  intro T hT X
  rcases hr T hT X with ⟨v, st₀, t, T', L, h0, X', hL, e1, e2, ⟨⟨r, u, hv, hp, hb⟩, hF⟩, st⟩ | ⟨q, st₀, t, T', L, E, ce, h0, X', hL, e1, e2, ⟨u, hp, hb, hF⟩, hce, hcv, hcl, st⟩
  · cases hv
    obtain ⟨k1, k2, k3⟩ := vx_keep h0 e1 hS hA hf hL hF
    obtain ⟨t2, a1, b1⟩ := kk r u t T'.heap (locs ++ L) e1.symm (by rw [← e2]; exact X'.warmed.alike) hp hb k1 k2 k3 T' rfl X'
    exact ⟨t2, st t2 a1, b1⟩
  · obtain ⟨k1, k2, k3⟩ := vx_keep h0 e1 hS hAX hf hL hF
    obtain ⟨t2, a1, b1⟩ := kx E ce q u t T'.heap (locs ++ L) e1.symm (by rw [← e2]; exact X'.warmed.alike) hp hb k1 k2 k3 (by rw [e1]; exact hce) hcv hcl T' rfl X'
    exact ⟨t2, st.trans a1, b1⟩
end
/-! ===== END ===== -/
/-! ===== BEGIN by an interface, a method with a table of its own that may throw (follows va_callIFW, va_runFW) ===== -/
section
variable {p : Program} {l : Launch} {e : Env} {R : Room} {s : State} {m : MethodId} {args : Array Value} {below : List Frame} {meth : Method} {c : Code} {H : Heap} {locs : List Loc} {cells slots : Nat}
theorem vx_callIFW {T : State} (X : Stand p l e R s m args below meth c T locs cells slots) (hexec : p.tables.exec = Jvm.exec) {own C : String} {index count : Nat} {x y : MethodName} {bytes : ByteArray} {maxL : Nat} {ret : Option FieldType} {hh : List (Nat × Nat × Nat × Nat)}
    (hown : s.vm.findClass own = some m.cls) (hlink : (Cond.methodLink own index x).before args s = true) (hdecl : (Cond.declares x).before args s = true) (hface : (Cond.interfaceMethod x.cls x.cls x.name x.desc).before args s = true)
    (hsel : (Cond.selects C x y).before args s = true) (hinst : (Cond.instanceMethod y).before args s = true) (hpub : (Cond.publicMethod y).before args s = true) (hunh : (Cond.unhidden C x.name x.desc).before args s = true)
    (hcast : (Cond.castable C x.cls).before args s = true) (hcode : (Cond.codeWith y bytes maxL ret hh).before args s = true) (hx : x.cls ≠ "java/lang/invoke/MethodHandle" ∧ x.cls ≠ "java/lang/invoke/VarHandle")
    {W : Nat} {Pre : Pt → Array Value → Prop} {Post : Pt → Array Value → Option Value → Pt → Prop} {PostX : Pt → Array Value → Addr → Pt → Prop} (hK : vx_Back l R p e below s args y 5 W Pre Post PostX)
    {b : Addr} {cellB : Cell} {kB : Class} (hcell : T.heap[b]? = some cellB) (hobj : cellB.vm.isStatics = false) (hcls : s.vm.findClass C = some cellB.cls) (hkB : s.vm.classes[cellB.cls]? = some kB)
    {g : JFrame} (hg : g.method = m) (hsize : g.locals.size = c.maxLocals) {argsL rest : List Value} (hlen : ∀ sig, parseMethodDescriptor x.desc = some sig → argsL.length = sig.parameters.length)
    (hstack : g.stack = argsL.reverse ++ .ref b :: rest) (hW : 2 * g.monitorRoom + (rest.map fun v => v.category).sum ≤ W) (hdg : decode c.code g.pc = .ok (.invokeinterface index count, 5))
    (hpre : ∀ vm₁, s.WarmedH vm₁ → Pre ⟨T.setVm vm₁, locs, cells, slots⟩ (Value.ref b :: argsL).toArray) :
    (∃ (v : Option Value) (vm₁ : Vm) (B : Pt), s.WarmedH vm₁ ∧ Stand p l e R s m args below meth c B.U B.locs B.cells B.slots ∧ Post ⟨T.setVm vm₁, locs, cells, slots⟩ (Value.ref b :: argsL).toArray v B ∧
      ∀ target, Steps p.tables e below (B.U.setTop { g with pc := g.pc + 5, stack := v.toList ++ rest }) target → Steps p.tables e below (T.setTop g) target) ∨
    (∃ (q : Addr) (vm₁ : Vm) (B : Pt), s.WarmedH vm₁ ∧ Stand p l e R s m args below meth c B.U B.locs B.cells B.slots ∧ PostX ⟨T.setVm vm₁, locs, cells, slots⟩ (Value.ref b :: argsL).toArray q B ∧
      Steps p.tables e below (T.setTop g) ((B.U.setTop { g with stack := rest }).pushFrame (.throwing q))) := by
  obtain ⟨r0, r, hn, hrm, hstR, hsigR⟩ := Cond.declares_spec hdecl
  obtain ⟨cL, kL, r1, hcL, hkL, hiL, hfoundL, hn1⟩ := Cond.interfaceMethod_spec hface
  cases hn.symm.trans hn1
  have hr0cls : r0.cls = cL := Option.some.inj ((findClass_of_methodNamed hn).symm.trans hcL)
  obtain ⟨hnameR, hdescR⟩ := name_of_methodNamed hn hrm
  obtain ⟨mk, methM, hnamed, hmethM, -, habM⟩ := Cond.instanceMethod_spec hinst
  obtain ⟨c2, r2, m2, q1, q2, q3, q4, -⟩ := Cond.selects_spec hsel
  cases hcls.symm.trans q1
  cases hfoundL.symm.trans q2
  cases hnamed.symm.trans q3
  have hselP : selectMethod e.platform s.vm cellB.cls r0 = .method mk := by rw [Launch.admits_selectMethod X.admits]; exact q4
  have hpubM : hasFlag methM.accessFlags Acc.public_ = true := Cond.publicMethod_spec hnamed hmethM hpub
  have hway : ((cellB.cls :: s.vm.superclasses cellB.cls).any fun k => (declaredIn s.vm r.name r.desc k).any fun (_, z) => z.isPrivate || z.isStatic) = false := by
    rw [hnameR, hdescR]; exact Cond.unhidden_spec hcls hunh
  obtain ⟨c3, t3, w1, w2, w3⟩ := Cond.castable_spec hcast
  cases hcls.symm.trans w1
  cases hcL.symm.trans w2
  obtain ⟨vm₁, X₁, hstep₁⟩ := X.invokeinterface hexec hown hlink hn hrm hstR (by rw [hr0cls]; exact hkL) hiL hx (a := b) (cell := cellB) (kcell := kB) hcell
    (fun z h => by rw [h] at hobj; cases hobj) hkB (by rw [hr0cls]; exact w3) hselP hmethM hway hpubM habM (g := g) hg (argsL := argsL) (rest := rest) (hlen _ hsigR) hstack hdg
  rcases hK m meth c ⟨T.setVm vm₁, locs, cells, slots⟩ { g with stack := rest } (.invokeinterface index count) mk (Value.ref b :: argsL).toArray X₁ hg hsize hdg hW (X₁.named hnamed) (hpre vm₁ X₁.warmed) with ⟨v, B, X', hpost, hsteps⟩ | ⟨q, B, X', hpost, hsteps⟩
  · exact Or.inl ⟨v, vm₁, B, X₁.warmed, X', hpost, fun target h => hstep₁ _ fun acts => by rw [doInvoke_state]; exact hsteps.trans h⟩
  · exact Or.inr ⟨q, vm₁, B, X₁.warmed, X', hpost, hstep₁ _ fun acts => by rw [doInvoke_state]; exact hsteps⟩
theorem vx_runFW {x y : MethodName} {bytes cc : ByteArray} {maxL nL mc ms n index count : Nat} {ret : Option FieldType} {hh : List (Nat × Nat × Nat × Nat)} {ws : List Cond} {rm : Room} {Pc : Array Value → State → Prop} {Qc : Array Value → State → Outcome → State → Prop} {XC : String → State → State → Prop} {free : Addr → Prop} {Ts : List Cond} {own C : String} {cC : ClassId} {b : Addr} {As rest : List Value} {g : JFrame}
    (hat : ClassAt s C cC) (S : CallFix p m c cc nL s args Ts own) (hM : vx_Met l y ws rm Pc Qc XC mc ms free) (cw : va_CIW R s args own C index x y bytes maxL ret hh ws rm mc ms n) (hp : PreV s H C b Pc As)
    (hg : g.method = m) (hn : As.length = n) (hsize : g.locals.size = nL) (hstack : g.stack = As.reverse ++ .ref b :: rest) (hW : 2 * g.monitorRoom + (rest.map fun v => v.category).sum ≤ 8) (hdg : decode cc g.pc = .ok (.invokeinterface index count, 5)) (hf : cells + mc ≤ R.cells ∧ slots + ms ≤ R.slots) :
    vx_Run5 p l e R s m args below meth c H locs cells slots mc ms g rest (Qc (Value.ref b :: As).toArray) XC free := by
  obtain ⟨hrc, hrs, hfr, hlo, hws, hcw⟩ := cw.back
  have hini := cw.init
  have hK : vx_Back l R p e below s args y 5 8 (PreOf R mc ms Pc) (PostOf Qc mc ms free) (vx_Post XC mc ms free) := vx_backW (hh := hh) (bytes := bytes) (maxL := maxL) (ret := ret) hM hp.1 hrc hrs hfr hlo hws hcw (fun a' U hW => word_at hW (Or.inl (by first | rfl | simp [Cond.onTables, Cond.keeps, Cond.steady])) hini)
  obtain ⟨hx, hb, hml, ho, -⟩ := S
  obtain ⟨-, ⟨cellB, hcB, hoB, hclB⟩, hPc⟩ := hp
  obtain ⟨hfc, kB, hkB, -⟩ := hat
  cases hfc.symm.trans hclB
  intro T hT X
  rcases vx_callIFW X hx (C := C) (hh := hh) (bytes := bytes) (maxL := maxL) (ret := ret) ho cw.link cw.decl cw.face cw.sel cw.inst cw.pub cw.unh cw.cast cw.code cw.notMH hK (by rw [hT]; exact hcB) hoB hclB hkB hg (hsize.trans hml.symm) (argsL := As) (rest := rest) (fun sig h => hn.trans (cw.len sig h)) hstack hW (by rw [hb]; exact hdg)
    (fun vm₁ hW₁ => ⟨hf.1, hf.2, hPc (T.setVm vm₁) hT hW₁⟩) with ⟨v, vm₁, ⟨U', l2, c2, s2⟩, hW₁, X', ⟨g', mk, t, L, e1, e2, hq, h1, hL, h2, h3⟩, st⟩ | ⟨q, vm₁, ⟨U', l2, c2, s2⟩, hW₁, X', ⟨g', mk, t, L, E, ce, e1, e2, hq, hce, hcv, hcl, h1, hL, h2, h3⟩, st⟩
  · dsimp only [Pt.U, Pt.locs, Pt.cells, Pt.slots] at X' e1 e2 h1 h2 h3 st
    subst h1; subst h2; subst h3
    exact Or.inl ⟨v, (T.setVm vm₁).calling g' mk (Value.ref b :: As).toArray, t, U', L, hT, X', hL, e1, e2, hq, st⟩
  · dsimp only [Pt.U, Pt.locs, Pt.cells, Pt.slots] at X' e1 e2 h1 h2 h3 st hcl
    subst h1; subst h2; subst h3
    exact Or.inr ⟨q, (T.setVm vm₁).calling g' mk (Value.ref b :: As).toArray, t, U', L, E, ce, hT, X', hL, e1, e2, hq, hce, hcv, vx_cls hW₁ hcl, st⟩
end
/-! ===== END ===== -/
/-! ===== BEGIN .. of methods that hand back an object of the pool ===== -/
section
variable {p : Program} {l : Launch} {e : Env} {R : Room} {s : State} {m : MethodId} {args : Array Value} {below : List Frame} {meth : Method} {c : Code} {H : Heap} {locs : List Loc} {cells slots : Nat} {Q : State → Prop}
variable {mc ms : Nat} {free : Addr → Prop} {A0 A1 : Nat → Prop} {H0 : Heap} {a : Array Value} {pc : Nat} {ls : Array Slot} {st0 rest : List Value}
theorem vx_callq {S SX : Type} {post : Option Nat → S → Prop} {px : SX → Prop} {B : S → State → Prop} {BX : String → SX → State → Prop} {AX : Nat → Prop} (hr : vx_Run p l e R s m args below meth c H locs cells slots mc ms (F0 m pc ls st0) rest (va_Qq post B A1 a) (vx_X px BX AX) free) (hS : va_S A0 H0 H locs) (hA : ∀ q, q < H.size → A1 q → A0 q) (hf : ∀ q, free q → A0 q) (hAX : ∀ q, q < H.size → AX q → A0 q)
    (kx : ∀ (E : String) (ce : Cell) (q9 : Addr) (u : SX) (t : State) (H1 : Heap) (locs1 : List Loc), t.heap = H1 → s.vm.Alike t.vm → px u → BX E u t → H.size ≤ H1.size → (∀ q : Nat, q < H.size → ¬ AX q → H1[q]? = H[q]?) → va_S A0 H0 H1 locs1 → H1[q9]? = some ce → ce.vm = .none → s.vm.findClass E = some ce.cls → vx_W p l e R s m args below meth c H1 locs1 (cells + mc) (slots + ms) Q (F0 m pc ls rest) q9)
    (kk : ∀ (r : Option Nat) (u : S) (t : State) (H1 : Heap) (locs1 : List Loc), t.heap = H1 → s.vm.Alike t.vm → post r u → B u t → H.size ≤ H1.size → (∀ q : Nat, q < H.size → ¬ A1 q → H1[q]? = H[q]?) → va_S A0 H0 H1 locs1 → W p l e R s m args below meth c H1 locs1 (cells + mc) (slots + ms) Q (F0 m (pc + 3) ls (va_rf r :: rest))) : W p l e R s m args below meth c H locs cells slots Q (F0 m pc ls st0) := by
  intro T hT X
  rcases hr T hT X with ⟨v, st₀, t, T', L, h0, X', hL, e1, e2, ⟨⟨r, u, hv, hp, hb⟩, hF⟩, st⟩ | ⟨q, st₀, t, T', L, E, ce, h0, X', hL, e1, e2, ⟨u, hp, hb, hF⟩, hce, hcv, hcl, st⟩
  · cases hv
    obtain ⟨k1, k2, k3⟩ := vx_keep h0 e1 hS hA hf hL hF
    obtain ⟨t2, a1, b1⟩ := kk r u t T'.heap (locs ++ L) e1.symm (by rw [← e2]; exact X'.warmed.alike) hp hb k1 k2 k3 T' rfl X'
    exact ⟨t2, st t2 a1, b1⟩
  · obtain ⟨k1, k2, k3⟩ := vx_keep h0 e1 hS hAX hf hL hF
    obtain ⟨t2, a1, b1⟩ := kx E ce q u t T'.heap (locs ++ L) e1.symm (by rw [← e2]; exact X'.warmed.alike) hp hb k1 k2 k3 (by rw [e1]; exact hce) hcv hcl T' rfl X'
    exact ⟨t2, st.trans a1, b1⟩
end
/-! ===== END ===== -/
/-! ===== BEGIN .. a constant ===== -/
section
variable {p : Program} {l : Launch} {e : Env} {R : Room} {s : State} {m : MethodId} {args : Array Value} {below : List Frame} {meth : Method} {c : Code} {H : Heap} {locs : List Loc} {cells slots : Nat} {Q : State → Prop}
variable {mc ms : Nat} {free : Addr → Prop} {A0 A1 : Nat → Prop} {H0 : Heap} {a : Array Value} {pc : Nat} {ls : Array Slot} {st0 rest : List Value}
theorem vx_calle {ad : Nat → Nat} {S SX : Type} {post : Option Nat → S → Prop} {px : SX → Prop} {B : S → State → Prop} {BX : String → SX → State → Prop} {AX : Nat → Prop} (hr : vx_Run p l e R s m args below meth c H locs cells slots mc ms (F0 m pc ls st0) rest (va_Qe ad post B A1 a) (vx_X px BX AX) free) (hS : va_S A0 H0 H locs) (hA : ∀ q, q < H.size → A1 q → A0 q) (hf : ∀ q, free q → A0 q) (hAX : ∀ q, q < H.size → AX q → A0 q)
    (kx : ∀ (E : String) (ce : Cell) (q9 : Addr) (u : SX) (t : State) (H1 : Heap) (locs1 : List Loc), t.heap = H1 → s.vm.Alike t.vm → px u → BX E u t → H.size ≤ H1.size → (∀ q : Nat, q < H.size → ¬ AX q → H1[q]? = H[q]?) → va_S A0 H0 H1 locs1 → H1[q9]? = some ce → ce.vm = .none → s.vm.findClass E = some ce.cls → vx_W p l e R s m args below meth c H1 locs1 (cells + mc) (slots + ms) Q (F0 m pc ls rest) q9)
    (kk : ∀ (r : Option Nat) (u : S) (t : State) (H1 : Heap) (locs1 : List Loc), t.heap = H1 → s.vm.Alike t.vm → post r u → B u t → H.size ≤ H1.size → (∀ q : Nat, q < H.size → ¬ A1 q → H1[q]? = H[q]?) → va_S A0 H0 H1 locs1 → W p l e R s m args below meth c H1 locs1 (cells + mc) (slots + ms) Q (F0 m (pc + 3) ls (va_re ad r :: rest))) : W p l e R s m args below meth c H locs cells slots Q (F0 m pc ls st0) := by
  intro T hT X
  rcases hr T hT X with ⟨v, st₀, t, T', L, h0, X', hL, e1, e2, ⟨⟨r, u, hv, hp, hb⟩, hF⟩, st⟩ | ⟨q, st₀, t, T', L, E, ce, h0, X', hL, e1, e2, ⟨u, hp, hb, hF⟩, hce, hcv, hcl, st⟩
  · cases hv
    obtain ⟨k1, k2, k3⟩ := vx_keep h0 e1 hS hA hf hL hF
    obtain ⟨t2, a1, b1⟩ := kk r u t T'.heap (locs ++ L) e1.symm (by rw [← e2]; exact X'.warmed.alike) hp hb k1 k2 k3 T' rfl X'
    exact ⟨t2, st t2 a1, b1⟩
  · obtain ⟨k1, k2, k3⟩ := vx_keep h0 e1 hS hAX hf hL hF
    obtain ⟨t2, a1, b1⟩ := kx E ce q u t T'.heap (locs ++ L) e1.symm (by rw [← e2]; exact X'.warmed.alike) hp hb k1 k2 k3 (by rw [e1]; exact hce) hcv hcl T' rfl X'
    exact ⟨t2, st.trans a1, b1⟩
end
/-! ===== END ===== -/
/-! ===== BEGIN .. by an interface, an object ===== -/
section
variable {p : Program} {l : Launch} {e : Env} {R : Room} {s : State} {m : MethodId} {args : Array Value} {below : List Frame} {meth : Method} {c : Code} {H : Heap} {locs : List Loc} {cells slots : Nat} {Q : State → Prop}
variable {mc ms : Nat} {free : Addr → Prop} {A0 A1 : Nat → Prop} {H0 : Heap} {a : Array Value} {pc : Nat} {ls : Array Slot} {st0 rest : List Value}
theorem vx_callFq {S SX : Type} {post : Option Nat → S → Prop} {px : SX → Prop} {B : S → State → Prop} {BX : String → SX → State → Prop} {AX : Nat → Prop} (hr : vx_Run5 p l e R s m args below meth c H locs cells slots mc ms (F0 m pc ls st0) rest (va_Qq post B A1 a) (vx_X px BX AX) free) (hS : va_S A0 H0 H locs) (hA : ∀ q, q < H.size → A1 q → A0 q) (hf : ∀ q, free q → A0 q) (hAX : ∀ q, q < H.size → AX q → A0 q)
    (kx : ∀ (E : String) (ce : Cell) (q9 : Addr) (u : SX) (t : State) (H1 : Heap) (locs1 : List Loc), t.heap = H1 → s.vm.Alike t.vm → px u → BX E u t → H.size ≤ H1.size → (∀ q : Nat, q < H.size → ¬ AX q → H1[q]? = H[q]?) → va_S A0 H0 H1 locs1 → H1[q9]? = some ce → ce.vm = .none → s.vm.findClass E = some ce.cls → vx_W p l e R s m args below meth c H1 locs1 (cells + mc) (slots + ms) Q (F0 m pc ls rest) q9)
    (kk : ∀ (r : Option Nat) (u : S) (t : State) (H1 : Heap) (locs1 : List Loc), t.heap = H1 → s.vm.Alike t.vm → post r u → B u t → H.size ≤ H1.size → (∀ q : Nat, q < H.size → ¬ A1 q → H1[q]? = H[q]?) → va_S A0 H0 H1 locs1 → W p l e R s m args below meth c H1 locs1 (cells + mc) (slots + ms) Q (F0 m (pc + 5) ls (va_rf r :: rest))) : W p l e R s m args below meth c H locs cells slots Q (F0 m pc ls st0) := by
  intro T hT X
  rcases hr T hT X with ⟨v, st₀, t, T', L, h0, X', hL, e1, e2, ⟨⟨r, u, hv, hp, hb⟩, hF⟩, st⟩ | ⟨q, st₀, t, T', L, E, ce, h0, X', hL, e1, e2, ⟨u, hp, hb, hF⟩, hce, hcv, hcl, st⟩
  · cases hv
    obtain ⟨k1, k2, k3⟩ := vx_keep h0 e1 hS hA hf hL hF
    obtain ⟨t2, a1, b1⟩ := kk r u t T'.heap (locs ++ L) e1.symm (by rw [← e2]; exact X'.warmed.alike) hp hb k1 k2 k3 T' rfl X'
    exact ⟨t2, st t2 a1, b1⟩
  · obtain ⟨k1, k2, k3⟩ := vx_keep h0 e1 hS hAX hf hL hF
    obtain ⟨t2, a1, b1⟩ := kx E ce q u t T'.heap (locs ++ L) e1.symm (by rw [← e2]; exact X'.warmed.alike) hp hb k1 k2 k3 (by rw [e1]; exact hce) hcv hcl T' rfl X'
    exact ⟨t2, st.trans a1, b1⟩
end
/-! ===== END ===== -/
/-! ===== BEGIN .. by an interface, a constant ===== -/
section
variable {p : Program} {l : Launch} {e : Env} {R : Room} {s : State} {m : MethodId} {args : Array Value} {below : List Frame} {meth : Method} {c : Code} {H : Heap} {locs : List Loc} {cells slots : Nat} {Q : State → Prop}
variable {mc ms : Nat} {free : Addr → Prop} {A0 A1 : Nat → Prop} {H0 : Heap} {a : Array Value} {pc : Nat} {ls : Array Slot} {st0 rest : List Value}
theorem vx_callFe {ad : Nat → Nat} {S SX : Type} {post : Option Nat → S → Prop} {px : SX → Prop} {B : S → State → Prop} {BX : String → SX → State → Prop} {AX : Nat → Prop} (hr : vx_Run5 p l e R s m args below meth c H locs cells slots mc ms (F0 m pc ls st0) rest (va_Qe ad post B A1 a) (vx_X px BX AX) free) (hS : va_S A0 H0 H locs) (hA : ∀ q, q < H.size → A1 q → A0 q) (hf : ∀ q, free q → A0 q) (hAX : ∀ q, q < H.size → AX q → A0 q)
    (kx : ∀ (E : String) (ce : Cell) (q9 : Addr) (u : SX) (t : State) (H1 : Heap) (locs1 : List Loc), t.heap = H1 → s.vm.Alike t.vm → px u → BX E u t → H.size ≤ H1.size → (∀ q : Nat, q < H.size → ¬ AX q → H1[q]? = H[q]?) → va_S A0 H0 H1 locs1 → H1[q9]? = some ce → ce.vm = .none → s.vm.findClass E = some ce.cls → vx_W p l e R s m args below meth c H1 locs1 (cells + mc) (slots + ms) Q (F0 m pc ls rest) q9)
    (kk : ∀ (r : Option Nat) (u : S) (t : State) (H1 : Heap) (locs1 : List Loc), t.heap = H1 → s.vm.Alike t.vm → post r u → B u t → H.size ≤ H1.size → (∀ q : Nat, q < H.size → ¬ A1 q → H1[q]? = H[q]?) → va_S A0 H0 H1 locs1 → W p l e R s m args below meth c H1 locs1 (cells + mc) (slots + ms) Q (F0 m (pc + 5) ls (va_re ad r :: rest))) : W p l e R s m args below meth c H locs cells slots Q (F0 m pc ls st0) := by
  intro T hT X
  rcases hr T hT X with ⟨v, st₀, t, T', L, h0, X', hL, e1, e2, ⟨⟨r, u, hv, hp, hb⟩, hF⟩, st⟩ | ⟨q, st₀, t, T', L, E, ce, h0, X', hL, e1, e2, ⟨u, hp, hb, hF⟩, hce, hcv, hcl, st⟩
  · cases hv
    obtain ⟨k1, k2, k3⟩ := vx_keep h0 e1 hS hA hf hL hF
    obtain ⟨t2, a1, b1⟩ := kk r u t T'.heap (locs ++ L) e1.symm (by rw [← e2]; exact X'.warmed.alike) hp hb k1 k2 k3 T' rfl X'
    exact ⟨t2, st t2 a1, b1⟩
  · obtain ⟨k1, k2, k3⟩ := vx_keep h0 e1 hS hAX hf hL hF
    obtain ⟨t2, a1, b1⟩ := kx E ce q u t T'.heap (locs ++ L) e1.symm (by rw [← e2]; exact X'.warmed.alike) hp hb k1 k2 k3 (by rw [e1]; exact hce) hcv hcl T' rfl X'
    exact ⟨t2, st.trans a1, b1⟩
end
/-! ===== END ===== -/
/-! ===== BEGIN what the machine throws by itself: null at a field, at athrow ===== -/
section VXM2
variable {p : Program} {l : Launch} {e : Env} {R : Room} {s : State} {m : MethodId} {args : Array Value} {below : List Frame} {meth : Method} {c : Code} {H : Heap} {locs : List Loc} {cells slots : Nat}
variable {Q : State → Prop} {cc : ByteArray} {pc : Nat} {ls : Array Slot} {rest : List Value}
theorem vx_getfN {D cl tys} {own ref C : String} {T : u_T} {N ci index : Nat} {Ts : List Cond} (hexec : p.tables.exec = Jvm.exec) (hb : c.code = cc) (hts : ∀ w ∈ Ts, w.before args s = true) (hin : ∀ w ∈ u_ws C T N, w ∈ Ts) (hown : s.vm.findClass own = some m.cls) (hK : va_K D cl tys s) (hc : cl[ci]? = some (C, T, N)) (k : Nat) (hk : k < N) (hlink : (Cond.fieldLink own index ref (T k).2.1 (T k).2.2.1).before args s = true) (hsame : ∀ x, s.fieldFound? (T k).1 (T k).2.1 (T k).2.2.1 = some x → s.fieldFound? ref (T k).2.1 (T k).2.2.1 = some x) (hdg : decode cc pc = .ok (.getfield index, 3)) (kk : vx_NoteN p l e R s m args below meth c H locs cells slots Q (F0 m pc ls rest)) : W p l e R s m args below meth c H locs cells slots Q (F0 m pc ls (.null :: rest)) := by
  obtain ⟨hS, hfc, kC, hkC, -⟩ := hK.1 ci _ hc
  obtain ⟨cf, kf, fi, f, hi, -⟩ := hS k hk
  intro U hU X
  obtain ⟨vm', X1, st1⟩ := X.getfieldNull hexec hown hlink (hsame _ hi) (u_facts hfc hkC (u_lays hts hin hk) hi).1 (g := F0 m pc ls (.null :: rest)) rfl (rest := rest) rfl (by rw [hb]; exact hdg)
  obtain ⟨t, st, q⟩ := kk (U.setVm vm') hU X1
  exact ⟨t, st1 t st, q⟩
theorem vx_getfNN {D cl tys} {own ref C host : String} {T : u_T} {N ci index : Nat} {Ts : List Cond} (hexec : p.tables.exec = Jvm.exec) (hb : c.code = cc) (hts : ∀ w ∈ Ts, w.before args s = true) (hin : ∀ w ∈ u_ws C T N, w ∈ Ts) (hown : s.vm.findClass own = some m.cls) (hK : va_K D cl tys s) (hc : cl[ci]? = some (C, T, N)) (k : Nat) (hk : k < N) (hlink : (Cond.fieldLinkNest own index ref (T k).2.1 (T k).2.2.1 host).before args s = true) (hsame : ∀ x, s.fieldFound? (T k).1 (T k).2.1 (T k).2.2.1 = some x → s.fieldFound? ref (T k).2.1 (T k).2.2.1 = some x) (hdg : decode cc pc = .ok (.getfield index, 3)) (kk : vx_NoteN p l e R s m args below meth c H locs cells slots Q (F0 m pc ls rest)) : W p l e R s m args below meth c H locs cells slots Q (F0 m pc ls (.null :: rest)) := by
  obtain ⟨hS, hfc, kC, hkC, -⟩ := hK.1 ci _ hc
  obtain ⟨cf, kf, fi, f, hi, -⟩ := hS k hk
  intro U hU X
  obtain ⟨vm', X1, st1⟩ := X.getfieldNullNest hexec hown hlink (hsame _ hi) (u_facts hfc hkC (u_lays hts hin hk) hi).1 (g := F0 m pc ls (.null :: rest)) rfl (rest := rest) rfl (by rw [hb]; exact hdg)
  obtain ⟨t, st, q⟩ := kk (U.setVm vm') hU X1
  exact ⟨t, st1 t st, q⟩
theorem vx_putfN {D cl tys} {own ref C : String} {T : u_T} {N ci index : Nat} {Ts : List Cond} (hexec : p.tables.exec = Jvm.exec) (hb : c.code = cc) (hts : ∀ w ∈ Ts, w.before args s = true) (hin : ∀ w ∈ u_ws C T N, w ∈ Ts) (hown : s.vm.findClass own = some m.cls) (hK : va_K D cl tys s) (hc : cl[ci]? = some (C, T, N)) (k : Nat) (hk : k < N) (hlink : (Cond.fieldLink own index ref (T k).2.1 (T k).2.2.1).before args s = true) (hsame : ∀ x, s.fieldFound? (T k).1 (T k).2.1 (T k).2.2.1 = some x → s.fieldFound? ref (T k).2.1 (T k).2.2.1 = some x) (hfin : (T k).2.2.2 = false) {v : Value} (hdg : decode cc pc = .ok (.putfield index, 3)) (kk : vx_NoteN p l e R s m args below meth c H locs cells slots Q (F0 m pc ls rest)) : W p l e R s m args below meth c H locs cells slots Q (F0 m pc ls (v :: .null :: rest)) := by
  obtain ⟨hS, hfc, kC, hkC, -⟩ := hK.1 ci _ hc
  obtain ⟨cf, kf, fi, f, hi, -⟩ := hS k hk
  have hlay := hts _ (hin _ (u_in_lay hk))
  unfold u_lay at hlay
  rw [if_neg (by rw [hfin]; decide)] at hlay
  obtain ⟨c9, k9, cf9, kf9, fi9, f9, -, -, hi9, hst9, hnf9, -⟩ := Cond.lays_spec hlay
  cases hi.symm.trans hi9
  intro U hU X
  obtain ⟨vm', X1, st1⟩ := X.putfieldNull hexec hown hlink (hsame _ hi) hst9 hnf9 (g := F0 m pc ls (v :: .null :: rest)) rfl (v := v) (rest := rest) rfl (by rw [hb]; exact hdg)
  obtain ⟨t, st, q⟩ := kk (U.setVm vm') hU X1
  exact ⟨t, st1 t st, q⟩
theorem vx_putfNN {D cl tys} {own ref C host : String} {T : u_T} {N ci index : Nat} {Ts : List Cond} (hexec : p.tables.exec = Jvm.exec) (hb : c.code = cc) (hts : ∀ w ∈ Ts, w.before args s = true) (hin : ∀ w ∈ u_ws C T N, w ∈ Ts) (hown : s.vm.findClass own = some m.cls) (hK : va_K D cl tys s) (hc : cl[ci]? = some (C, T, N)) (k : Nat) (hk : k < N) (hlink : (Cond.fieldLinkNest own index ref (T k).2.1 (T k).2.2.1 host).before args s = true) (hsame : ∀ x, s.fieldFound? (T k).1 (T k).2.1 (T k).2.2.1 = some x → s.fieldFound? ref (T k).2.1 (T k).2.2.1 = some x) (hfin : (T k).2.2.2 = false) {v : Value} (hdg : decode cc pc = .ok (.putfield index, 3)) (kk : vx_NoteN p l e R s m args below meth c H locs cells slots Q (F0 m pc ls rest)) : W p l e R s m args below meth c H locs cells slots Q (F0 m pc ls (v :: .null :: rest)) := by
  obtain ⟨hS, hfc, kC, hkC, -⟩ := hK.1 ci _ hc
  obtain ⟨cf, kf, fi, f, hi, -⟩ := hS k hk
  have hlay := hts _ (hin _ (u_in_lay hk))
  unfold u_lay at hlay
  rw [if_neg (by rw [hfin]; decide)] at hlay
  obtain ⟨c9, k9, cf9, kf9, fi9, f9, -, -, hi9, hst9, hnf9, -⟩ := Cond.lays_spec hlay
  cases hi.symm.trans hi9
  intro U hU X
  obtain ⟨vm', X1, st1⟩ := X.putfieldNullNest hexec hown hlink (hsame _ hi) hst9 hnf9 (g := F0 m pc ls (v :: .null :: rest)) rfl (v := v) (rest := rest) rfl (by rw [hb]; exact hdg)
  obtain ⟨t, st, q⟩ := kk (U.setVm vm') hU X1
  exact ⟨t, st1 t st, q⟩
theorem vx_athrowN (hexec : p.tables.exec = Jvm.exec) (hb : c.code = cc) (hdg : decode cc pc = .ok (.athrow, 1)) (k : vx_NoteN p l e R s m args below meth c H locs cells slots Q (F0 m pc ls rest)) : W p l e R s m args below meth c H locs cells slots Q (F0 m pc ls (.null :: rest)) := by
  intro T hT X
  obtain ⟨t, st, q⟩ := k T hT X
  exact ⟨t, X.athrowNull hexec (g := F0 m pc ls (.null :: rest)) rfl (rest := rest) rfl (by rw [hb]; exact hdg) t st, q⟩
end VXM2
/-! ===== END ===== -/
end
section
def RX0 : String := "TaskLeveller$1"
def TX0 : u_T := fun k => match k with
  | _ => ("", "", "", false)
def tyX0 : Nat → FieldType := fun k => match k with
  | _ => .int
theorem nmX0 : ∀ a, a < 0 → ∀ b, b < 0 → a ≠ b → (TX0 a).2.1 ≠ (TX0 b).2.1 := by decide +kernel
theorem tyX0_ok : ∀ k, k < 0 → parseFieldDescriptor (TX0 k).2.2.1 = some (tyX0 k) := by decide +kernel
def RX1 : String := "TaskLeveller$Command"
def TX1 : u_T := fun k => match k with
  | _ => ("", "", "", false)
def tyX1 : Nat → FieldType := fun k => match k with
  | _ => .int
theorem nmX1 : ∀ a, a < 0 → ∀ b, b < 0 → a ≠ b → (TX1 a).2.1 ≠ (TX1 b).2.1 := by decide +kernel
theorem tyX1_ok : ∀ k, k < 0 → parseFieldDescriptor (TX1 k).2.2.1 = some (tyX1 k) := by decide +kernel
def RX2 : String := "TaskLeveller$History"
def TX2 : u_T := fun k => match k with
  | 0 => ("TaskLeveller$History", "states", "[LTaskLeveller$Project;", true)
  | 1 => ("TaskLeveller$History", "count", "I", false)
  | _ => ("TaskLeveller$History", "next", "I", false)
def tyX2 : Nat → FieldType := fun k => match k with
  | 0 => .array (.object "TaskLeveller$Project")
  | 1 => .int
  | _ => .int
theorem nmX2 : ∀ a, a < 3 → ∀ b, b < 3 → a ≠ b → (TX2 a).2.1 ≠ (TX2 b).2.1 := by decide +kernel
theorem tyX2_ok : ∀ k, k < 3 → parseFieldDescriptor (TX2 k).2.2.1 = some (tyX2 k) := by decide +kernel
abbrev cX2_init : ByteArray := prog_4_method_1_code
def yX2_init : MethodName := ⟨RX2, "<init>", "()V"⟩
abbrev cX2_keep : ByteArray := prog_4_method_2_code
def yX2_keep : MethodName := ⟨RX2, "keep", "(LTaskLeveller$Project;)V"⟩
abbrev cX2_stateAt : ByteArray := prog_4_method_5_code
def yX2_stateAt : MethodName := ⟨RX2, "stateAt", "(I)LTaskLeveller$Project;"⟩
def RX3 : String := "TaskLeveller$Output"
def TX3 : u_T := fun k => match k with
  | 0 => ("TaskLeveller$Output", "signs", "[C", true)
  | _ => ("TaskLeveller$Output", "length", "I", false)
def tyX3 : Nat → FieldType := fun k => match k with
  | 0 => .array .char
  | _ => .int
theorem nmX3 : ∀ a, a < 2 → ∀ b, b < 2 → a ≠ b → (TX3 a).2.1 ≠ (TX3 b).2.1 := by decide +kernel
theorem tyX3_ok : ∀ k, k < 2 → parseFieldDescriptor (TX3 k).2.2.1 = some (tyX3 k) := by decide +kernel
abbrev cX3_init : ByteArray := prog_5_method_1_code
def yX3_init : MethodName := ⟨RX3, "<init>", "()V"⟩
abbrev cX3_clear : ByteArray := prog_5_method_2_code
def yX3_clear : MethodName := ⟨RX3, "clear", "()V"⟩
abbrev cX3_write : ByteArray := prog_5_method_3_code
def yX3_write : MethodName := ⟨RX3, "write", "(C)V"⟩
abbrev cX3_writeNumber : ByteArray := prog_5_method_4_code
def yX3_writeNumber : MethodName := ⟨RX3, "writeNumber", "(I)V"⟩
def RX4 : String := "TaskLeveller$Plan"
def TX4 : u_T := fun k => match k with
  | 0 => ("TaskLeveller$Plan", "order", "[I", true)
  | 1 => ("TaskLeveller$Plan", "closure", "[I", true)
  | 2 => ("TaskLeveller$Plan", "earliest", "[I", true)
  | 3 => ("TaskLeveller$Plan", "improved", "[I", true)
  | 4 => ("TaskLeveller$Plan", "latest", "[I", true)
  | 5 => ("TaskLeveller$Plan", "levelled", "[I", true)
  | 6 => ("TaskLeveller$Plan", "used", "[I", true)
  | 7 => ("TaskLeveller$Plan", "end", "I", false)
  | _ => ("TaskLeveller$Plan", "levelledEnd", "I", false)
def tyX4 : Nat → FieldType := fun k => match k with
  | 0 => .array .int
  | 1 => .array .int
  | 2 => .array .int
  | 3 => .array .int
  | 4 => .array .int
  | 5 => .array .int
  | 6 => .array .int
  | 7 => .int
  | _ => .int
theorem nmX4 : ∀ a, a < 9 → ∀ b, b < 9 → a ≠ b → (TX4 a).2.1 ≠ (TX4 b).2.1 := by decide +kernel
theorem tyX4_ok : ∀ k, k < 9 → parseFieldDescriptor (TX4 k).2.2.1 = some (tyX4 k) := by decide +kernel
abbrev cX4_init : ByteArray := prog_6_method_1_code
def yX4_init : MethodName := ⟨RX4, "<init>", "()V"⟩
abbrev cX4_make : ByteArray := prog_6_method_2_code
def yX4_make : MethodName := ⟨RX4, "make", "(LTaskLeveller$Project;)V"⟩
abbrev cX4_slackOf : ByteArray := prog_6_method_3_code
def yX4_slackOf : MethodName := ⟨RX4, "slackOf", "(I)I"⟩
abbrev cX4_usedOn : ByteArray := prog_6_method_4_code
def yX4_usedOn : MethodName := ⟨RX4, "usedOn", "(II)I"⟩
abbrev cX4_workOnAllDays : ByteArray := prog_6_method_5_code
def yX4_workOnAllDays : MethodName := ⟨RX4, "workOnAllDays", "(I)I"⟩
abbrev cX4_findOrder : ByteArray := prog_6_method_6_code
def yX4_findOrder : MethodName := ⟨RX4, "findOrder", "(LTaskLeveller$Project;)V"⟩
abbrev cX4_findClosure : ByteArray := prog_6_method_7_code
def yX4_findClosure : MethodName := ⟨RX4, "findClosure", "(LTaskLeveller$Project;)V"⟩
abbrev cX4_findEarliest : ByteArray := prog_6_method_8_code
def yX4_findEarliest : MethodName := ⟨RX4, "findEarliest", "(LTaskLeveller$Project;)V"⟩
abbrev cX4_earliestOf : ByteArray := prog_6_method_9_code
def yX4_earliestOf : MethodName := ⟨RX4, "earliestOf", "(LTaskLeveller$Project;[III)I"⟩
abbrev cX4_findImproved : ByteArray := prog_6_method_10_code
def yX4_findImproved : MethodName := ⟨RX4, "findImproved", "(LTaskLeveller$Project;)V"⟩
abbrev cX4_improve : ByteArray := prog_6_method_11_code
def yX4_improve : MethodName := ⟨RX4, "improve", "(LTaskLeveller$Project;)Z"⟩
abbrev cX4_soonestStart : ByteArray := prog_6_method_12_code
def yX4_soonestStart : MethodName := ⟨RX4, "soonestStart", "(LTaskLeveller$Project;I[I)I"⟩
abbrev cX4_findLatest : ByteArray := prog_6_method_13_code
def yX4_findLatest : MethodName := ⟨RX4, "findLatest", "(LTaskLeveller$Project;)V"⟩
abbrev cX4_findLevelled : ByteArray := prog_6_method_14_code
def yX4_findLevelled : MethodName := ⟨RX4, "findLevelled", "(LTaskLeveller$Project;)V"⟩
abbrev cX4_mostUrgent : ByteArray := prog_6_method_15_code
def yX4_mostUrgent : MethodName := ⟨RX4, "mostUrgent", "(LTaskLeveller$Project;I)I"⟩
abbrev cX4_lowestFit : ByteArray := prog_6_method_16_code
def yX4_lowestFit : MethodName := ⟨RX4, "lowestFit", "(LTaskLeveller$Project;I)I"⟩
abbrev cX4_fits : ByteArray := prog_6_method_17_code
def yX4_fits : MethodName := ⟨RX4, "fits", "(LTaskLeveller$Project;II)Z"⟩
abbrev cX4_place : ByteArray := prog_6_method_18_code
def yX4_place : MethodName := ⟨RX4, "place", "(LTaskLeveller$Project;II)V"⟩
def RX5 : String := "TaskLeveller$Project"
def TX5 : u_T := fun k => match k with
  | 0 => ("TaskLeveller$Project", "durations", "[I", true)
  | 1 => ("TaskLeveller$Project", "resources", "[I", true)
  | 2 => ("TaskLeveller$Project", "demands", "[I", true)
  | 3 => ("TaskLeveller$Project", "releases", "[I", true)
  | 4 => ("TaskLeveller$Project", "needs", "[I", true)
  | 5 => ("TaskLeveller$Project", "starts", "[I", true)
  | 6 => ("TaskLeveller$Project", "limits", "[I", true)
  | 7 => ("TaskLeveller$Project", "count", "I", false)
  | _ => ("TaskLeveller$Project", "hasStarts", "Z", false)
def tyX5 : Nat → FieldType := fun k => match k with
  | 0 => .array .int
  | 1 => .array .int
  | 2 => .array .int
  | 3 => .array .int
  | 4 => .array .int
  | 5 => .array .int
  | 6 => .array .int
  | 7 => .int
  | _ => .boolean
theorem nmX5 : ∀ a, a < 9 → ∀ b, b < 9 → a ≠ b → (TX5 a).2.1 ≠ (TX5 b).2.1 := by decide +kernel
theorem tyX5_ok : ∀ k, k < 9 → parseFieldDescriptor (TX5 k).2.2.1 = some (tyX5 k) := by decide +kernel
abbrev cX5_init : ByteArray := prog_7_method_1_code
def yX5_init : MethodName := ⟨RX5, "<init>", "()V"⟩
abbrev cX5_copyFrom : ByteArray := prog_7_method_2_code
def yX5_copyFrom : MethodName := ⟨RX5, "copyFrom", "(LTaskLeveller$Project;)V"⟩
abbrev cX5_faultOfTask : ByteArray := prog_7_method_3_code
def yX5_faultOfTask : MethodName := ⟨RX5, "faultOfTask", "(I)C"⟩
abbrev cX5_faultOfPair : ByteArray := prog_7_method_4_code
def yX5_faultOfPair : MethodName := ⟨RX5, "faultOfPair", "(II)C"⟩
abbrev cX5_faultOfAdding : ByteArray := prog_7_method_5_code
def yX5_faultOfAdding : MethodName := ⟨RX5, "faultOfAdding", "(IIII)C"⟩
abbrev cX5_faultOfLinking : ByteArray := prog_7_method_6_code
def yX5_faultOfLinking : MethodName := ⟨RX5, "faultOfLinking", "(II)C"⟩
abbrev cX5_faultOfDuration : ByteArray := prog_7_method_7_code
def yX5_faultOfDuration : MethodName := ⟨RX5, "faultOfDuration", "(II)C"⟩
abbrev cX5_faultOfRelease : ByteArray := prog_7_method_8_code
def yX5_faultOfRelease : MethodName := ⟨RX5, "faultOfRelease", "(II)C"⟩
abbrev cX5_faultOfLimit : ByteArray := prog_7_method_9_code
def yX5_faultOfLimit : MethodName := ⟨RX5, "faultOfLimit", "(II)C"⟩
abbrev cX5_append : ByteArray := prog_7_method_10_code
def yX5_append : MethodName := ⟨RX5, "append", "(IIII)I"⟩
abbrev cX5_drop : ByteArray := prog_7_method_11_code
def yX5_drop : MethodName := ⟨RX5, "drop", "(I)V"⟩
abbrev cX5_link : ByteArray := prog_7_method_12_code
def yX5_link : MethodName := ⟨RX5, "link", "(II)V"⟩
abbrev cX5_unlink : ByteArray := prog_7_method_13_code
def yX5_unlink : MethodName := ⟨RX5, "unlink", "(II)V"⟩
abbrev cX5_isLinked : ByteArray := prog_7_method_14_code
def yX5_isLinked : MethodName := ⟨RX5, "isLinked", "(II)Z"⟩
abbrev cX5_reaches : ByteArray := prog_7_method_15_code
def yX5_reaches : MethodName := ⟨RX5, "reaches", "(II)Z"⟩
abbrev cX5_search : ByteArray := prog_7_method_16_code
def yX5_search : MethodName := ⟨RX5, "search", "([IIII)I"⟩
abbrev cX5_isReady : ByteArray := prog_7_method_17_code
def yX5_isReady : MethodName := ⟨RX5, "isReady", "(II)Z"⟩
abbrev cX5_takeStarts : ByteArray := prog_7_method_18_code
def yX5_takeStarts : MethodName := ⟨RX5, "takeStarts", "([I)V"⟩
abbrev cX5_hasStart : ByteArray := prog_7_method_19_code
def yX5_hasStart : MethodName := ⟨RX5, "hasStart", "(I)Z"⟩
abbrev cX5_workOf : ByteArray := prog_7_method_20_code
def yX5_workOf : MethodName := ⟨RX5, "workOf", "(I)I"⟩
def RX6 : String := "TaskLeveller$Script"
def TX6 : u_T := fun k => match k with
  | 0 => ("TaskLeveller$Script", "signs", "[C", true)
  | 1 => ("TaskLeveller$Script", "commands", "[LTaskLeveller$Command;", true)
  | 2 => ("TaskLeveller$Script", "numbers", "[I", true)
  | 3 => ("TaskLeveller$Script", "length", "I", false)
  | 4 => ("TaskLeveller$Script", "commandCount", "I", false)
  | _ => ("TaskLeveller$Script", "position", "I", false)
def tyX6 : Nat → FieldType := fun k => match k with
  | 0 => .array .char
  | 1 => .array (.object "TaskLeveller$Command")
  | 2 => .array .int
  | 3 => .int
  | 4 => .int
  | _ => .int
theorem nmX6 : ∀ a, a < 6 → ∀ b, b < 6 → a ≠ b → (TX6 a).2.1 ≠ (TX6 b).2.1 := by decide +kernel
theorem tyX6_ok : ∀ k, k < 6 → parseFieldDescriptor (TX6 k).2.2.1 = some (tyX6 k) := by decide +kernel
abbrev cX6_init : ByteArray := prog_8_method_1_code
def yX6_init : MethodName := ⟨RX6, "<init>", "()V"⟩
abbrev cX6_clear : ByteArray := prog_8_method_3_code
def yX6_clear : MethodName := ⟨RX6, "clear", "()V"⟩
abbrev cX6_commandAt : ByteArray := prog_8_method_4_code
def yX6_commandAt : MethodName := ⟨RX6, "commandAt", "(I)LTaskLeveller$Command;"⟩
abbrev cX6_numberAt : ByteArray := prog_8_method_5_code
def yX6_numberAt : MethodName := ⟨RX6, "numberAt", "(II)I"⟩
abbrev cX6_read : ByteArray := prog_8_method_6_code
def yX6_read : MethodName := ⟨RX6, "read", "()Z"⟩
abbrev cX6_readCommand : ByteArray := prog_8_method_7_code
def yX6_readCommand : MethodName := ⟨RX6, "readCommand", "()Z"⟩
abbrev cX6_follows : ByteArray := prog_8_method_8_code
def yX6_follows : MethodName := ⟨RX6, "follows", "(Ljava/lang/String;)Z"⟩
abbrev cX6_readNumber : ByteArray := prog_8_method_9_code
def yX6_readNumber : MethodName := ⟨RX6, "readNumber", "(II)Z"⟩
abbrev cX6_isDigitAt : ByteArray := prog_8_method_10_code
def yX6_isDigitAt : MethodName := ⟨RX6, "isDigitAt", "(I)Z"⟩
def RX7 : String := "TaskLeveller"
def TX7 : u_T := fun k => match k with
  | 0 => ("TaskLeveller", "project", "LTaskLeveller$Project;", true)
  | 1 => ("TaskLeveller", "trial", "LTaskLeveller$Project;", true)
  | 2 => ("TaskLeveller", "snapshot", "LTaskLeveller$Project;", true)
  | 3 => ("TaskLeveller", "history", "LTaskLeveller$History;", true)
  | 4 => ("TaskLeveller", "plan", "LTaskLeveller$Plan;", true)
  | 5 => ("TaskLeveller", "script", "LTaskLeveller$Script;", true)
  | 6 => ("TaskLeveller", "output", "LTaskLeveller$Output;", true)
  | 7 => ("TaskLeveller", "keys", "[I", true)
  | 8 => ("TaskLeveller", "planFits", "Z", false)
  | 9 => ("TaskLeveller", "hasSnapshot", "Z", false)
  | 10 => ("TaskLeveller", "scriptError", "I", false)
  | 11 => ("TaskLeveller", "failedIndex", "I", false)
  | _ => ("TaskLeveller", "failedReason", "C", false)
def tyX7 : Nat → FieldType := fun k => match k with
  | 0 => .object "TaskLeveller$Project"
  | 1 => .object "TaskLeveller$Project"
  | 2 => .object "TaskLeveller$Project"
  | 3 => .object "TaskLeveller$History"
  | 4 => .object "TaskLeveller$Plan"
  | 5 => .object "TaskLeveller$Script"
  | 6 => .object "TaskLeveller$Output"
  | 7 => .array .int
  | 8 => .boolean
  | 9 => .boolean
  | 10 => .int
  | 11 => .int
  | _ => .char
theorem nmX7 : ∀ a, a < 13 → ∀ b, b < 13 → a ≠ b → (TX7 a).2.1 ≠ (TX7 b).2.1 := by decide +kernel
theorem tyX7_ok : ∀ k, k < 13 → parseFieldDescriptor (TX7 k).2.2.1 = some (tyX7 k) := by decide +kernel
abbrev cX7_init : ByteArray := prog_1_method_1_code
def yX7_init : MethodName := ⟨RX7, "<init>", "()V"⟩
abbrev cX7_addTask : ByteArray := prog_1_method_2_code
def yX7_addTask : MethodName := ⟨RX7, "addTask", "(IIII)I"⟩
abbrev cX7_removeTask : ByteArray := prog_1_method_3_code
def yX7_removeTask : MethodName := ⟨RX7, "removeTask", "(I)I"⟩
abbrev cX7_addDependency : ByteArray := prog_1_method_4_code
def yX7_addDependency : MethodName := ⟨RX7, "addDependency", "(II)Z"⟩
abbrev cX7_removeDependency : ByteArray := prog_1_method_5_code
def yX7_removeDependency : MethodName := ⟨RX7, "removeDependency", "(II)Z"⟩
abbrev cX7_setDuration : ByteArray := prog_1_method_6_code
def yX7_setDuration : MethodName := ⟨RX7, "setDuration", "(II)I"⟩
abbrev cX7_setRelease : ByteArray := prog_1_method_7_code
def yX7_setRelease : MethodName := ⟨RX7, "setRelease", "(II)I"⟩
abbrev cX7_setLimit : ByteArray := prog_1_method_8_code
def yX7_setLimit : MethodName := ⟨RX7, "setLimit", "(II)I"⟩
abbrev cX7_takeBaseline : ByteArray := prog_1_method_9_code
def yX7_takeBaseline : MethodName := ⟨RX7, "takeBaseline", "()I"⟩
abbrev cX7_taskCount : ByteArray := prog_1_method_10_code
def yX7_taskCount : MethodName := ⟨RX7, "taskCount", "()I"⟩
abbrev cX7_duration : ByteArray := prog_1_method_11_code
def yX7_duration : MethodName := ⟨RX7, "duration", "(I)I"⟩
abbrev cX7_resource : ByteArray := prog_1_method_12_code
def yX7_resource : MethodName := ⟨RX7, "resource", "(I)I"⟩
abbrev cX7_demand : ByteArray := prog_1_method_13_code
def yX7_demand : MethodName := ⟨RX7, "demand", "(I)I"⟩
abbrev cX7_release : ByteArray := prog_1_method_14_code
def yX7_release : MethodName := ⟨RX7, "release", "(I)I"⟩
abbrev cX7_limit : ByteArray := prog_1_method_15_code
def yX7_limit : MethodName := ⟨RX7, "limit", "(I)I"⟩
abbrev cX7_dependsDirectly : ByteArray := prog_1_method_16_code
def yX7_dependsDirectly : MethodName := ⟨RX7, "dependsDirectly", "(II)Z"⟩
abbrev cX7_depends : ByteArray := prog_1_method_17_code
def yX7_depends : MethodName := ⟨RX7, "depends", "(II)Z"⟩
abbrev cX7_dependsByClosure : ByteArray := prog_1_method_18_code
def yX7_dependsByClosure : MethodName := ⟨RX7, "dependsByClosure", "(II)Z"⟩
abbrev cX7_neededCount : ByteArray := prog_1_method_19_code
def yX7_neededCount : MethodName := ⟨RX7, "neededCount", "(I)I"⟩
abbrev cX7_dependentCount : ByteArray := prog_1_method_20_code
def yX7_dependentCount : MethodName := ⟨RX7, "dependentCount", "(I)I"⟩
abbrev cX7_taskInOrder : ByteArray := prog_1_method_21_code
def yX7_taskInOrder : MethodName := ⟨RX7, "taskInOrder", "(I)I"⟩
abbrev cX7_earliestStart : ByteArray := prog_1_method_22_code
def yX7_earliestStart : MethodName := ⟨RX7, "earliestStart", "(I)I"⟩
abbrev cX7_earliestStartByRounds : ByteArray := prog_1_method_23_code
def yX7_earliestStartByRounds : MethodName := ⟨RX7, "earliestStartByRounds", "(I)I"⟩
abbrev cX7_latestStart : ByteArray := prog_1_method_24_code
def yX7_latestStart : MethodName := ⟨RX7, "latestStart", "(I)I"⟩
abbrev cX7_slack : ByteArray := prog_1_method_25_code
def yX7_slack : MethodName := ⟨RX7, "slack", "(I)I"⟩
abbrev cX7_isCritical : ByteArray := prog_1_method_26_code
def yX7_isCritical : MethodName := ⟨RX7, "isCritical", "(I)Z"⟩
abbrev cX7_projectLength : ByteArray := prog_1_method_27_code
def yX7_projectLength : MethodName := ⟨RX7, "projectLength", "()I"⟩
abbrev cX7_criticalCount : ByteArray := prog_1_method_28_code
def yX7_criticalCount : MethodName := ⟨RX7, "criticalCount", "()I"⟩
abbrev cX7_lastTask : ByteArray := prog_1_method_29_code
def yX7_lastTask : MethodName := ⟨RX7, "lastTask", "()I"⟩
abbrev cX7_levelledStart : ByteArray := prog_1_method_30_code
def yX7_levelledStart : MethodName := ⟨RX7, "levelledStart", "(I)I"⟩
abbrev cX7_levelledLength : ByteArray := prog_1_method_31_code
def yX7_levelledLength : MethodName := ⟨RX7, "levelledLength", "()I"⟩
abbrev cX7_usage : ByteArray := prog_1_method_32_code
def yX7_usage : MethodName := ⟨RX7, "usage", "(II)I"⟩
abbrev cX7_usageByTasks : ByteArray := prog_1_method_33_code
def yX7_usageByTasks : MethodName := ⟨RX7, "usageByTasks", "(II)I"⟩
abbrev cX7_peakUsage : ByteArray := prog_1_method_34_code
def yX7_peakUsage : MethodName := ⟨RX7, "peakUsage", "(I)I"⟩
abbrev cX7_tasksOn : ByteArray := prog_1_method_35_code
def yX7_tasksOn : MethodName := ⟨RX7, "tasksOn", "(I)I"⟩
abbrev cX7_workload : ByteArray := prog_1_method_36_code
def yX7_workload : MethodName := ⟨RX7, "workload", "(I)I"⟩
abbrev cX7_workloadByDays : ByteArray := prog_1_method_37_code
def yX7_workloadByDays : MethodName := ⟨RX7, "workloadByDays", "(I)I"⟩
abbrev cX7_hasBaseline : ByteArray := prog_1_method_38_code
def yX7_hasBaseline : MethodName := ⟨RX7, "hasBaseline", "()Z"⟩
abbrev cX7_baselineStart : ByteArray := prog_1_method_39_code
def yX7_baselineStart : MethodName := ⟨RX7, "baselineStart", "(I)I"⟩
abbrev cX7_drift : ByteArray := prog_1_method_40_code
def yX7_drift : MethodName := ⟨RX7, "drift", "(I)I"⟩
abbrev cX7_totalDrift : ByteArray := prog_1_method_41_code
def yX7_totalDrift : MethodName := ⟨RX7, "totalDrift", "()I"⟩
abbrev cX7_taskBySlack : ByteArray := prog_1_method_42_code
def yX7_taskBySlack : MethodName := ⟨RX7, "taskBySlack", "(I)I"⟩
abbrev cX7_taskByStart : ByteArray := prog_1_method_43_code
def yX7_taskByStart : MethodName := ⟨RX7, "taskByStart", "(I)I"⟩
abbrev cX7_meanSlack : ByteArray := prog_1_method_44_code
def yX7_meanSlack : MethodName := ⟨RX7, "meanSlack", "()D"⟩
abbrev cX7_utilization : ByteArray := prog_1_method_45_code
def yX7_utilization : MethodName := ⟨RX7, "utilization", "(I)F"⟩
abbrev cX7_isConsistent : ByteArray := prog_1_method_46_code
def yX7_isConsistent : MethodName := ⟨RX7, "isConsistent", "()Z"⟩
abbrev cX7_renderTask : ByteArray := prog_1_method_47_code
def yX7_renderTask : MethodName := ⟨RX7, "renderTask", "(I)I"⟩
abbrev cX7_renderUsage : ByteArray := prog_1_method_48_code
def yX7_renderUsage : MethodName := ⟨RX7, "renderUsage", "(I)I"⟩
abbrev cX7_outputAt : ByteArray := prog_1_method_49_code
def yX7_outputAt : MethodName := ⟨RX7, "outputAt", "(I)C"⟩
abbrev cX7_runScript : ByteArray := prog_1_method_51_code
def yX7_runScript : MethodName := ⟨RX7, "runScript", "()I"⟩
abbrev cX7_errorPosition : ByteArray := prog_1_method_52_code
def yX7_errorPosition : MethodName := ⟨RX7, "errorPosition", "()I"⟩
abbrev cX7_failedCommand : ByteArray := prog_1_method_53_code
def yX7_failedCommand : MethodName := ⟨RX7, "failedCommand", "()I"⟩
abbrev cX7_failureReason : ByteArray := prog_1_method_54_code
def yX7_failureReason : MethodName := ⟨RX7, "failureReason", "()C"⟩
abbrev cX7_beginChange : ByteArray := prog_1_method_58_code
def yX7_beginChange : MethodName := ⟨RX7, "beginChange", "()V"⟩
abbrev cX7_currentPlan : ByteArray := prog_1_method_59_code
def yX7_currentPlan : MethodName := ⟨RX7, "currentPlan", "()LTaskLeveller$Plan;"⟩
abbrev cX7_runCommand : ByteArray := prog_1_method_60_code
def yX7_runCommand : MethodName := ⟨RX7, "runCommand", "(I)C"⟩
abbrev cX7_runAdding : ByteArray := prog_1_method_61_code
def yX7_runAdding : MethodName := ⟨RX7, "runAdding", "(IIII)C"⟩
abbrev cX7_runSetting : ByteArray := prog_1_method_62_code
def yX7_runSetting : MethodName := ⟨RX7, "runSetting", "(C[III)C"⟩
abbrev cX7_markTrial : ByteArray := prog_1_method_63_code
def yX7_markTrial : MethodName := ⟨RX7, "markTrial", "()V"⟩
abbrev cX7_isWorkedOn : ByteArray := prog_1_method_64_code
def yX7_isWorkedOn : MethodName := ⟨RX7, "isWorkedOn", "(II)Z"⟩
abbrev cX7_driftOf : ByteArray := prog_1_method_65_code
def yX7_driftOf : MethodName := ⟨RX7, "driftOf", "(I)I"⟩
abbrev cX7_sortingKey : ByteArray := prog_1_method_66_code
def yX7_sortingKey : MethodName := ⟨RX7, "sortingKey", "(II)I"⟩
abbrev cX7_taskAtRank : ByteArray := prog_1_method_67_code
def yX7_taskAtRank : MethodName := ⟨RX7, "taskAtRank", "(I)I"⟩
abbrev cX7_countBefore : ByteArray := prog_1_method_68_code
def yX7_countBefore : MethodName := ⟨RX7, "countBefore", "(I)I"⟩
abbrev cX7_startsAgree : ByteArray := prog_1_method_69_code
def yX7_startsAgree : MethodName := ⟨RX7, "startsAgree", "()Z"⟩
abbrev cX7_dependenciesAgree : ByteArray := prog_1_method_70_code
def yX7_dependenciesAgree : MethodName := ⟨RX7, "dependenciesAgree", "()Z"⟩
abbrev cX7_workloadsAgree : ByteArray := prog_1_method_71_code
def yX7_workloadsAgree : MethodName := ⟨RX7, "workloadsAgree", "()Z"⟩
abbrev cX7_requireTask : ByteArray := prog_1_method_72_code
def yX7_requireTask : MethodName := ⟨RX7, "requireTask", "(I)V"⟩
abbrev cX7_requireResource : ByteArray := prog_1_method_73_code
def yX7_requireResource : MethodName := ⟨RX7, "requireResource", "(I)V"⟩
abbrev cX7_requireDay : ByteArray := prog_1_method_74_code
def yX7_requireDay : MethodName := ⟨RX7, "requireDay", "(I)V"⟩
abbrev cX7_requireBaselineStart : ByteArray := prog_1_method_75_code
def yX7_requireBaselineStart : MethodName := ⟨RX7, "requireBaselineStart", "(I)V"⟩
abbrev cX7_requireFailure : ByteArray := prog_1_method_76_code
def yX7_requireFailure : MethodName := ⟨RX7, "requireFailure", "()V"⟩
abbrev cX7_refuse : ByteArray := prog_1_method_77_code
def yX7_refuse : MethodName := ⟨RX7, "refuse", "(C)V"⟩
abbrev cX7_isWithin : ByteArray := prog_1_method_78_code
def yX7_isWithin : MethodName := ⟨RX7, "isWithin", "(III)Z"⟩
abbrev cX7_hasBit : ByteArray := prog_1_method_79_code
def yX7_hasBit : MethodName := ⟨RX7, "hasBit", "(II)Z"⟩
abbrev cX7_at : ByteArray := prog_1_method_80_code
def yX7_at : MethodName := ⟨RX7, "at", "([II)I"⟩
abbrev cX7_put : ByteArray := prog_1_method_81_code
def yX7_put : MethodName := ⟨RX7, "put", "([III)V"⟩
abbrev cX7_charAt : ByteArray := prog_1_method_82_code
def yX7_charAt : MethodName := ⟨RX7, "charAt", "([CI)C"⟩
abbrev cX7_copyRow : ByteArray := prog_1_method_83_code
def yX7_copyRow : MethodName := ⟨RX7, "copyRow", "([I[I)V"⟩
abbrev cX7_fillRow : ByteArray := prog_1_method_84_code
def yX7_fillRow : MethodName := ⟨RX7, "fillRow", "([II)V"⟩
abbrev cX7_closeGap : ByteArray := prog_1_method_85_code
def yX7_closeGap : MethodName := ⟨RX7, "closeGap", "([II)V"⟩
def RX8 : String := "TaskLevellerModel"
def TX8 : u_T := fun k => match k with
  | _ => ("", "", "", false)
def tyX8 : Nat → FieldType := fun k => match k with
  | _ => .int
theorem nmX8 : ∀ a, a < 0 → ∀ b, b < 0 → a ≠ b → (TX8 a).2.1 ≠ (TX8 b).2.1 := by decide +kernel
theorem tyX8_ok : ∀ k, k < 0 → parseFieldDescriptor (TX8 k).2.2.1 = some (tyX8 k) := by decide +kernel
def RJx145de : String := "java/io/Serializable"
def TJx145de : u_T := fun k => match k with
  | _ => ("", "", "", false)
def RJ5 : String := "java/lang/AbstractStringBuilder"
def TJ5 : u_T := fun k => match k with
  | _ => ("", "", "", false)
def tyJ5 : Nat → FieldType := fun k => match k with
  | _ => .int
theorem nmJ5 : ∀ a, a < 0 → ∀ b, b < 0 → a ≠ b → (TJ5 a).2.1 ≠ (TJ5 b).2.1 := by decide +kernel
theorem tyJ5_ok : ∀ k, k < 0 → parseFieldDescriptor (TJ5 k).2.2.1 = some (tyJ5 k) := by decide +kernel
abbrev cJ5_init_d00df : ByteArray := prog_12_method_2_code
def yJ5_init_d00df : MethodName := ⟨RJ5, "<init>", "(I)V"⟩
abbrev cJ5_length_8abf5 : ByteArray := prog_12_method_6_code
def yJ5_length_8abf5 : MethodName := ⟨RJ5, "length", "()I"⟩
abbrev cJ5_ensureCapacityInternal_d00df : ByteArray := prog_12_method_9_code
def yJ5_ensureCapacityInternal_d00df : MethodName := ⟨RJ5, "ensureCapacityInternal", "(I)V"⟩
abbrev cJ5_newCapacity_0f7a4 : ByteArray := prog_12_method_10_code
def yJ5_newCapacity_0f7a4 : MethodName := ⟨RJ5, "newCapacity", "(I)I"⟩
abbrev cJ5_inflate_da8c8 : ByteArray := prog_12_method_11_code
def yJ5_inflate_da8c8 : MethodName := ⟨RJ5, "inflate", "()V"⟩
abbrev cJ5_append_cf1ce : ByteArray := prog_12_method_22_code
def yJ5_append_cf1ce : MethodName := ⟨RJ5, "append", "(Ljava/lang/String;)Ljava/lang/AbstractStringBuilder;"⟩
abbrev cJ5_appendNull_278bc : ByteArray := prog_12_method_26_code
def yJ5_appendNull_278bc : MethodName := ⟨RJ5, "appendNull", "()Ljava/lang/AbstractStringBuilder;"⟩
abbrev cJ5_append_c97b9 : ByteArray := prog_12_method_32_code
def yJ5_append_c97b9 : MethodName := ⟨RJ5, "append", "(I)Ljava/lang/AbstractStringBuilder;"⟩
abbrev cJ5_getValue_6d5f1 : ByteArray := prog_12_method_64_code
def yJ5_getValue_6d5f1 : MethodName := ⟨RJ5, "getValue", "()[B"⟩
abbrev cJ5_isLatin1_aae02 : ByteArray := prog_12_method_68_code
def yJ5_isLatin1_aae02 : MethodName := ⟨RJ5, "isLatin1", "()Z"⟩
abbrev cJ5_inflateIfNeededFor_a7421 : ByteArray := prog_12_method_71_code
def yJ5_inflateIfNeededFor_a7421 : MethodName := ⟨RJ5, "inflateIfNeededFor", "(Ljava/lang/String;)V"⟩
abbrev cJ5_putStringAt_47b60 : ByteArray := prog_12_method_73_code
def yJ5_putStringAt_47b60 : MethodName := ⟨RJ5, "putStringAt", "(ILjava/lang/String;)V"⟩
def RJx2cfe8 : String := "java/lang/Appendable"
def TJx2cfe8 : u_T := fun k => match k with
  | _ => ("", "", "", false)
def RJx00060 : String := "java/lang/ArrayIndexOutOfBoundsException"
def TJx00060 : u_T := fun k => match k with
  | 0 => ("java/lang/Throwable", "backtrace", "Ljava/lang/Object;", false)
  | 1 => ("java/lang/Throwable", "detailMessage", "Ljava/lang/String;", false)
  | 2 => ("java/lang/Throwable", "cause", "Ljava/lang/Throwable;", false)
  | 3 => ("java/lang/Throwable", "stackTrace", "[Ljava/lang/StackTraceElement;", false)
  | 4 => ("java/lang/Throwable", "depth", "I", false)
  | _ => ("java/lang/Throwable", "suppressedExceptions", "Ljava/util/List;", false)
def RJx9f9b0 : String := "java/lang/CharSequence"
def TJx9f9b0 : u_T := fun k => match k with
  | _ => ("", "", "", false)
def RJx8e188 : String := "java/lang/Cloneable"
def TJx8e188 : u_T := fun k => match k with
  | _ => ("", "", "", false)
def RJxb160c : String := "java/lang/Comparable"
def TJxb160c : u_T := fun k => match k with
  | _ => ("", "", "", false)
def RJx29ce0 : String := "java/lang/Enum"
def TJx29ce0 : u_T := fun k => match k with
  | _ => ("", "", "", false)
def RJ6 : String := "java/lang/Integer"
def TJ6 : u_T := fun k => match k with
  | _ => ("", "", "", false)
def tyJ6 : Nat → FieldType := fun k => match k with
  | _ => .int
theorem nmJ6 : ∀ a, a < 0 → ∀ b, b < 0 → a ≠ b → (TJ6 a).2.1 ≠ (TJ6 b).2.1 := by decide +kernel
theorem tyJ6_ok : ∀ k, k < 0 → parseFieldDescriptor (TJ6 k).2.2.1 = some (tyJ6 k) := by decide +kernel
abbrev cJ6_getChars_ba4f3 : ByteArray := prog_24_method_12_code
def yJ6_getChars_ba4f3 : MethodName := ⟨RJ6, "getChars", "(II[B)I"⟩
abbrev cJ6_stringSize_0f7a4 : ByteArray := prog_24_method_13_code
def yJ6_stringSize_0f7a4 : MethodName := ⟨RJ6, "stringSize", "(I)I"⟩
abbrev cJ6_bitCount_0f7a4 : ByteArray := prog_24_method_49_code
def yJ6_bitCount_0f7a4 : MethodName := ⟨RJ6, "bitCount", "(I)I"⟩
def RJ9 : String := "java/lang/Math"
def TJ9 : u_T := fun k => match k with
  | _ => ("", "", "", false)
def tyJ9 : Nat → FieldType := fun k => match k with
  | _ => .int
theorem nmJ9 : ∀ a, a < 0 → ∀ b, b < 0 → a ≠ b → (TJ9 a).2.1 ≠ (TJ9 b).2.1 := by decide +kernel
theorem tyJ9_ok : ∀ k, k < 0 → parseFieldDescriptor (TJ9 k).2.2.1 = some (tyJ9 k) := by decide +kernel
abbrev cJ9_abs_0f7a4 : ByteArray := prog_25_method_59_code
def yJ9_abs_0f7a4 : MethodName := ⟨RJ9, "abs", "(I)I"⟩
abbrev cJ9_max_7cf53 : ByteArray := prog_25_method_65_code
def yJ9_max_7cf53 : MethodName := ⟨RJ9, "max", "(II)I"⟩
abbrev cJ9_min_7cf53 : ByteArray := prog_25_method_69_code
def yJ9_min_7cf53 : MethodName := ⟨RJ9, "min", "(II)I"⟩
def RJxd2413 : String := "java/lang/Number"
def TJxd2413 : u_T := fun k => match k with
  | _ => ("", "", "", false)
def RJ0 : String := "java/lang/String"
def TJ0 : u_T := fun k => match k with
  | 0 => ("java/lang/String", "value", "[B", true)
  | 1 => ("java/lang/String", "coder", "B", true)
  | 2 => ("java/lang/String", "hash", "I", false)
  | _ => ("java/lang/String", "hashIsZero", "Z", false)
def tyJ0 : Nat → FieldType := fun k => match k with
  | 0 => .array .byte
  | 1 => .byte
  | 2 => .int
  | _ => .boolean
theorem nmJ0 : ∀ a, a < 4 → ∀ b, b < 4 → a ≠ b → (TJ0 a).2.1 ≠ (TJ0 b).2.1 := by decide +kernel
theorem tyJ0_ok : ∀ k, k < 4 → parseFieldDescriptor (TJ0 k).2.2.1 = some (tyJ0 k) := by decide +kernel
abbrev cJ0_init_81219 : ByteArray := prog_28_method_53_code
def yJ0_init_81219 : MethodName := ⟨RJ0, "<init>", "(Ljava/lang/StringBuilder;)V"⟩
abbrev cJ0_length_8abf5 : ByteArray := prog_28_method_54_code
def yJ0_length_8abf5 : MethodName := ⟨RJ0, "length", "()I"⟩
abbrev cJ0_charAt_5068e : ByteArray := prog_28_method_56_code
def yJ0_charAt_5068e : MethodName := ⟨RJ0, "charAt", "(I)C"⟩
abbrev cJ0_getBytes_840e7 : ByteArray := prog_28_method_147_code
def yJ0_getBytes_840e7 : MethodName := ⟨RJ0, "getBytes", "([BIB)V"⟩
abbrev cJ0_init_db425 : ByteArray := prog_28_method_150_code
def yJ0_init_db425 : MethodName := ⟨RJ0, "<init>", "(Ljava/lang/AbstractStringBuilder;Ljava/lang/Void;)V"⟩
abbrev cJ0_coder_7d493 : ByteArray := prog_28_method_152_code
def yJ0_coder_7d493 : MethodName := ⟨RJ0, "coder", "()B"⟩
abbrev cJ0_isLatin1_aae02 : ByteArray := prog_28_method_154_code
def yJ0_isLatin1_aae02 : MethodName := ⟨RJ0, "isLatin1", "()Z"⟩
abbrev cJ0_checkIndex_df160 : ByteArray := prog_28_method_155_code
def yJ0_checkIndex_df160 : MethodName := ⟨RJ0, "checkIndex", "(II)V"⟩
abbrev cJ0_checkBoundsOffCount_cabcc : ByteArray := prog_28_method_157_code
def yJ0_checkBoundsOffCount_cabcc : MethodName := ⟨RJ0, "checkBoundsOffCount", "(III)I"⟩
abbrev cJ0_checkBoundsBeginEnd_23922 : ByteArray := prog_28_method_158_code
def yJ0_checkBoundsBeginEnd_23922 : MethodName := ⟨RJ0, "checkBoundsBeginEnd", "(III)V"⟩
def RJ4 : String := "java/lang/StringBuilder"
def TJ4 : u_T := fun k => match k with
  | 0 => ("java/lang/AbstractStringBuilder", "value", "[B", false)
  | 1 => ("java/lang/AbstractStringBuilder", "coder", "B", false)
  | 2 => ("java/lang/AbstractStringBuilder", "maybeLatin1", "Z", false)
  | _ => ("java/lang/AbstractStringBuilder", "count", "I", false)
def tyJ4 : Nat → FieldType := fun k => match k with
  | 0 => .array .byte
  | 1 => .byte
  | 2 => .boolean
  | _ => .int
theorem nmJ4 : ∀ a, a < 4 → ∀ b, b < 4 → a ≠ b → (TJ4 a).2.1 ≠ (TJ4 b).2.1 := by decide +kernel
theorem tyJ4_ok : ∀ k, k < 4 → parseFieldDescriptor (TJ4 k).2.2.1 = some (tyJ4 k) := by decide +kernel
abbrev cJ4_init_da8c8 : ByteArray := prog_29_method_1_code
def yJ4_init_da8c8 : MethodName := ⟨RJ4, "<init>", "()V"⟩
abbrev cJ4_append_15ec4 : ByteArray := prog_29_method_7_code
def yJ4_append_15ec4 : MethodName := ⟨RJ4, "append", "(Ljava/lang/String;)Ljava/lang/StringBuilder;"⟩
abbrev cJ4_append_bf812 : ByteArray := prog_29_method_15_code
def yJ4_append_bf812 : MethodName := ⟨RJ4, "append", "(I)Ljava/lang/StringBuilder;"⟩
abbrev cJ4_toString_0e30d : ByteArray := prog_29_method_42_code
def yJ4_toString_0e30d : MethodName := ⟨RJ4, "toString", "()Ljava/lang/String;"⟩
abbrev cJ4_length_8abf5 : ByteArray := prog_29_method_93_code
def yJ4_length_8abf5 : MethodName := ⟨RJ4, "length", "()I"⟩
def RJ1 : String := "java/lang/StringLatin1"
def TJ1 : u_T := fun k => match k with
  | _ => ("", "", "", false)
def tyJ1 : Nat → FieldType := fun k => match k with
  | _ => .int
theorem nmJ1 : ∀ a, a < 0 → ∀ b, b < 0 → a ≠ b → (TJ1 a).2.1 ≠ (TJ1 b).2.1 := by decide +kernel
theorem tyJ1_ok : ∀ k, k < 0 → parseFieldDescriptor (TJ1 k).2.2.1 = some (tyJ1 k) := by decide +kernel
abbrev cJ1_charAt_3b067 : ByteArray := prog_30_method_2_code
def yJ1_charAt_3b067 : MethodName := ⟨RJ1, "charAt", "([BI)C"⟩
abbrev cJ1_inflate_0e8fd : ByteArray := prog_30_method_50_code
def yJ1_inflate_0e8fd : MethodName := ⟨RJ1, "inflate", "([BI[BII)V"⟩
def RJ2 : String := "java/lang/StringUTF16"
def TJ2 : u_T := fun k => match k with
  | _ => ("", "", "", false)
def tyJ2 : Nat → FieldType := fun k => match k with
  | _ => .int
theorem nmJ2 : ∀ a, a < 0 → ∀ b, b < 0 → a ≠ b → (TJ2 a).2.1 ≠ (TJ2 b).2.1 := by decide +kernel
theorem tyJ2_ok : ∀ k, k < 0 → parseFieldDescriptor (TJ2 k).2.2.1 = some (tyJ2 k) := by decide +kernel
abbrev cJ2_newBytesFor_77867 : ByteArray := prog_31_method_2_code
def yJ2_newBytesFor_77867 : MethodName := ⟨RJ2, "newBytesFor", "(I)[B"⟩
abbrev cJ2_newBytesLength_0f7a4 : ByteArray := prog_31_method_3_code
def yJ2_newBytesLength_0f7a4 : MethodName := ⟨RJ2, "newBytesLength", "(I)I"⟩
abbrev cJ2_putChar_b72d1 : ByteArray := prog_31_method_4_code
def yJ2_putChar_b72d1 : MethodName := ⟨RJ2, "putChar", "([BII)V"⟩
abbrev cJ2_getChar_3b067 : ByteArray := prog_31_method_5_code
def yJ2_getChar_3b067 : MethodName := ⟨RJ2, "getChar", "([BI)C"⟩
abbrev cJ2_length_9d52b : ByteArray := prog_31_method_6_code
def yJ2_length_9d52b : MethodName := ⟨RJ2, "length", "([B)I"⟩
abbrev cJ2_coderFromArrayLen_85cad : ByteArray := prog_31_method_15_code
def yJ2_coderFromArrayLen_85cad : MethodName := ⟨RJ2, "coderFromArrayLen", "([BI)B"⟩
abbrev cJ2_compress_39247 : ByteArray := prog_31_method_17_code
def yJ2_compress_39247 : MethodName := ⟨RJ2, "compress", "([BII)[B"⟩
abbrev cJ2_compress_5af95 : ByteArray := prog_31_method_22_code
def yJ2_compress_5af95 : MethodName := ⟨RJ2, "compress", "([BI[BII)I"⟩
abbrev cJ2_getChars_46870 : ByteArray := prog_31_method_77_code
def yJ2_getChars_46870 : MethodName := ⟨RJ2, "getChars", "(III[B)I"⟩
abbrev cJ2_putCharsAt_cd4e5 : ByteArray := prog_31_method_81_code
def yJ2_putCharsAt_cd4e5 : MethodName := ⟨RJ2, "putCharsAt", "([BICCCC)I"⟩
abbrev cJ2_charAt_3b067 : ByteArray := prog_31_method_83_code
def yJ2_charAt_3b067 : MethodName := ⟨RJ2, "charAt", "([BI)C"⟩
abbrev cJ2_inflate_0e8fd : ByteArray := prog_31_method_86_code
def yJ2_inflate_0e8fd : MethodName := ⟨RJ2, "inflate", "([BI[BII)V"⟩
abbrev cJ2_getChars_ba4f3 : ByteArray := prog_31_method_89_code
def yJ2_getChars_ba4f3 : MethodName := ⟨RJ2, "getChars", "(II[B)I"⟩
abbrev cJ2_checkIndex_2214a : ByteArray := prog_31_method_91_code
def yJ2_checkIndex_2214a : MethodName := ⟨RJ2, "checkIndex", "(I[B)V"⟩
abbrev cJ2_checkBoundsBeginEnd_d044e : ByteArray := prog_31_method_93_code
def yJ2_checkBoundsBeginEnd_d044e : MethodName := ⟨RJ2, "checkBoundsBeginEnd", "(II[B)V"⟩
abbrev cJ2_checkBoundsOffCount_d044e : ByteArray := prog_31_method_94_code
def yJ2_checkBoundsOffCount_d044e : MethodName := ⟨RJ2, "checkBoundsOffCount", "(II[B)V"⟩
def RJ10 : String := "java/lang/System"
def TJ10 : u_T := fun k => match k with
  | _ => ("", "", "", false)
def tyJ10 : Nat → FieldType := fun k => match k with
  | _ => .int
def RJxfd54e : String := "java/lang/constant/Constable"
def TJxfd54e : u_T := fun k => match k with
  | _ => ("", "", "", false)
def RJx3cf43 : String := "java/lang/constant/ConstantDesc"
def TJx3cf43 : u_T := fun k => match k with
  | _ => ("", "", "", false)
def RJ7 : String := "java/util/Arrays"
def TJ7 : u_T := fun k => match k with
  | _ => ("", "", "", false)
def tyJ7 : Nat → FieldType := fun k => match k with
  | _ => .int
theorem nmJ7 : ∀ a, a < 0 → ∀ b, b < 0 → a ≠ b → (TJ7 a).2.1 ≠ (TJ7 b).2.1 := by decide +kernel
theorem tyJ7_ok : ∀ k, k < 0 → parseFieldDescriptor (TJ7 k).2.2.1 = some (tyJ7 k) := by decide +kernel
abbrev cJ7_copyOf_9075b : ByteArray := prog_37_method_121_code
def yJ7_copyOf_9075b : MethodName := ⟨RJ7, "copyOf", "([BI)[B"⟩
abbrev cJ7_checkLength_df160 : ByteArray := prog_37_method_131_code
def yJ7_checkLength_df160 : MethodName := ⟨RJ7, "checkLength", "(II)V"⟩
abbrev cJ7_copyOfRange_39247 : ByteArray := prog_37_method_132_code
def yJ7_copyOfRange_39247 : MethodName := ⟨RJ7, "copyOfRange", "([BII)[B"⟩
abbrev cJ7_copyOfRangeByte_39247 : ByteArray := prog_37_method_133_code
def yJ7_copyOfRangeByte_39247 : MethodName := ⟨RJ7, "copyOfRangeByte", "([BII)[B"⟩
def RJ8 : String := "jdk/internal/util/ArraysSupport"
def TJ8 : u_T := fun k => match k with
  | _ => ("", "", "", false)
def tyJ8 : Nat → FieldType := fun k => match k with
  | _ => .int
theorem nmJ8 : ∀ a, a < 0 → ∀ b, b < 0 → a ≠ b → (TJ8 a).2.1 ≠ (TJ8 b).2.1 := by decide +kernel
theorem tyJ8_ok : ∀ k, k < 0 → parseFieldDescriptor (TJ8 k).2.2.1 = some (tyJ8 k) := by decide +kernel
abbrev cJ8_newLength_cabcc : ByteArray := prog_39_method_27_code
def yJ8_newLength_cabcc : MethodName := ⟨RJ8, "newLength", "(III)I"⟩
abbrev cJ8_hugeLength_7cf53 : ByteArray := prog_39_method_28_code
def yJ8_hugeLength_7cf53 : MethodName := ⟨RJ8, "hugeLength", "(II)I"⟩
def RJ3 : String := "jdk/internal/util/Preconditions"
def TJ3 : u_T := fun k => match k with
  | _ => ("", "", "", false)
def tyJ3 : Nat → FieldType := fun k => match k with
  | _ => .int
theorem nmJ3 : ∀ a, a < 0 → ∀ b, b < 0 → a ≠ b → (TJ3 a).2.1 ≠ (TJ3 b).2.1 := by decide +kernel
theorem tyJ3_ok : ∀ k, k < 0 → parseFieldDescriptor (TJ3 k).2.2.1 = some (tyJ3 k) := by decide +kernel
abbrev cJ3_checkIndex_8e157 : ByteArray := prog_40_method_11_code
def yJ3_checkIndex_8e157 : MethodName := ⟨RJ3, "checkIndex", "(IILjava/util/function/BiFunction;)I"⟩
abbrev cJ3_checkFromToIndex_8c36e : ByteArray := prog_40_method_12_code
def yJ3_checkFromToIndex_8c36e : MethodName := ⟨RJ3, "checkFromToIndex", "(IIILjava/util/function/BiFunction;)I"⟩
abbrev cJ3_checkFromIndexSize_8c36e : ByteArray := prog_40_method_13_code
def yJ3_checkFromIndexSize_8c36e : MethodName := ⟨RJ3, "checkFromIndexSize", "(IIILjava/util/function/BiFunction;)I"⟩
def RL : String := "TaskLevellerLaw"
abbrev cL_cell : ByteArray := method_2_code
def yL_cell : MethodName := ⟨RL, "cell", "([II)I"⟩
abbrev cL_pick : ByteArray := method_3_code
def yL_pick : MethodName := ⟨RL, "pick", "([III)I"⟩
abbrev cL_told : ByteArray := method_4_code
def yL_told : MethodName := ⟨RL, "told", "(Z)I"⟩
abbrev cL_plain : ByteArray := method_5_code
def yL_plain : MethodName := ⟨RL, "plain", "(LTaskLeveller;IIIII)I"⟩
abbrev cL_deed : ByteArray := method_6_code
def yL_deed : MethodName := ⟨RL, "deed", "(LTaskLeveller;IIIII)I"⟩
abbrev cL_asked : ByteArray := method_7_code
def yL_asked : MethodName := ⟨RL, "asked", "(LTaskLeveller;III)I"⟩
abbrev cL_ask : ByteArray := method_8_code
def yL_ask : MethodName := ⟨RL, "ask", "(LTaskLeveller;III)I"⟩
abbrev cL_lay : ByteArray := method_9_code
def yL_lay : MethodName := ⟨RL, "lay", "(LTaskLeveller;[I)V"⟩
abbrev cL_any : ByteArray := method_10_code
def yL_any : MethodName := ⟨RL, "any", "(LTaskLeveller;[II)I"⟩
abbrev cL_isBehind : ByteArray := method_12_code
def yL_isBehind : MethodName := ⟨RL, "isBehind", "(LTaskLeveller;II)Z"⟩
abbrev cL_soonest : ByteArray := method_13_code
def yL_soonest : MethodName := ⟨RL, "soonest", "(LTaskLeveller;I[I)I"⟩
abbrev cL_ordered : ByteArray := method_14_code
def yL_ordered : MethodName := ⟨RL, "ordered", "(LTaskLeveller;)[I"⟩
abbrev cL_isFree : ByteArray := method_15_code
def yL_isFree : MethodName := ⟨RL, "isFree", "(LTaskLeveller;I[Z)Z"⟩
abbrev cL_last : ByteArray := method_16_code
def yL_last : MethodName := ⟨RL, "last", "(LTaskLeveller;[I)I"⟩
abbrev cL_areDependenciesRight : ByteArray := method_17_code
def yL_areDependenciesRight : MethodName := ⟨RL, "areDependenciesRight", "(LTaskLeveller;)Z"⟩
abbrev cL_earliest : ByteArray := method_18_code
def yL_earliest : MethodName := ⟨RL, "earliest", "(LTaskLeveller;)[I"⟩
abbrev cL_latest : ByteArray := method_19_code
def yL_latest : MethodName := ⟨RL, "latest", "(LTaskLeveller;I)[I"⟩
abbrev cL_areStartsRight : ByteArray := method_20_code
def yL_areStartsRight : MethodName := ⟨RL, "areStartsRight", "(LTaskLeveller;[I[I)Z"⟩
abbrev cL_levelled : ByteArray := method_21_code
def yL_levelled : MethodName := ⟨RL, "levelled", "(LTaskLeveller;[I[[I)[I"⟩
abbrev cL_fits : ByteArray := method_22_code
def yL_fits : MethodName := ⟨RL, "fits", "(LTaskLeveller;II[[I)Z"⟩
abbrev cL_areLevelsRight : ByteArray := method_23_code
def yL_areLevelsRight : MethodName := ⟨RL, "areLevelsRight", "(LTaskLeveller;[I[[II)Z"⟩
abbrev cL_isLine : ByteArray := method_24_code
def yL_isLine : MethodName := ⟨RL, "isLine", "(LTaskLeveller;ILjava/lang/String;)Z"⟩
abbrev cL_areTasksTold : ByteArray := method_25_code
def yL_areTasksTold : MethodName := ⟨RL, "areTasksTold", "(LTaskLeveller;[I)Z"⟩
abbrev cL_law : ByteArray := code
def yL_law : MethodName := ⟨RL, "law", "([I)Z"⟩
end
section
/-! THE ABSTRACT LAYER: all cells of the run by kind, instance and place; a row an instruction over it (names of this part: q..) -/
/-- the words of the tables that every method may use -/
def qok : Cond → Bool
  | .methodLinkNest .. => true
  | .fieldLinkNest .. => true
  | .castable .. => true
  | .declares _ => true
  | w => goodWord w
def qWA : List Cond := lw_tbl.filter qok
theorem qWA_in {w : Cond} (h : w ∈ lw_tbl) (h2 : qok w = true) : w ∈ qWA := List.mem_filter.mpr ⟨h, h2⟩
theorem qok_warm {w : Cond} (hk : qok w = true) {a a' : Array Value} {s U : State} (hW : s.WarmedH U.vm) (h : w.before a s = true) : w.before a' U = true := by
  cases w
  case methodLinkNest => exact va_Nw.use rfl (va_Nw.warmM hW (va_Nw.of rfl h))
  case fieldLinkNest => exact va_Nw.use rfl (va_Nw.warmF hW (va_Nw.of rfl h))
  case castable => exact va_Nw.use rfl (va_Nw.warmC hW (va_Nw.of rfl h))
  case declares => exact va_Nw.use rfl (va_Nw.warmD hW (va_Nw.of rfl h))
  all_goals exact word_at hW (good_of_word hk) h
/-- the fixed things of a run: class ids, array class ids, addresses by kind and instance, the first address that the run may write -/
abbrev qG : Type := va_G × (Nat → ClassId) × (Nat → Nat → Nat) × Nat × List (Nat × Nat) × Nat × (Nat → Int32)
abbrev qA : Type := Value ⊕ (Nat × Nat)
def qcv (g : qG) (v : qA) : Value := match v with
  | .inl v => v
  | .inr q => .ref (g.2.2.1 q.1 q.2)
abbrev qI (x : Int32) : qA := .inl (.int x)
abbrev qR (k j : Nat) : qA := .inr (k, j)
abbrev qS : Type := Nat → Nat → Nat → Int32
abbrev qO : Type := (Option qA ⊕ String) × qS
def qu (σ : qS) (k j i : Nat) (v : Int32) : qS := fun a b => if a = k ∧ b = j then upd (σ a b) i v else σ a b
abbrev qAf (g : qG) : Nat → Prop := fun q => g.2.2.2.1 ≤ q
/-- the cells that were made on the way and are held: by kind and instance -/
abbrev qX9 (g : qG) : List (Nat × Nat) := g.2.2.2.2.1
/-- the script: its length, its numbers -/
abbrev qLL (g : qG) : Nat := g.2.2.2.2.2.1
abbrev qxs (g : qG) : Nat → Int32 := g.2.2.2.2.2.2
/-- the classes of the objects -/
abbrev qcls : List vw_C := [(RX2, TX2, 3), (RX3, TX3, 2), (RX4, TX4, 9), (RX5, TX5, 9), (RX6, TX6, 6), (RX7, TX7, 13), (RJ0, TJ0, 4), (RJ4, TJ4, 4)]
/-- what a kind is: 0 an object, 1 ints, 2 chars, 3 the states, 4 the commands; made on the way: 7 ints, 8 booleans, 9 a row of rows, 10 a text, 11 bytes, 12 a builder -/
def qsh (k : Nat) : Nat := match k with
  | 0 => 0 | 1 => 0 | 9 => 0 | 11 => 0 | 19 => 0 | 23 => 0
  | 10 => 3 | 21 => 4 | 20 => 2 | 24 => 2
  | 50 => 7 | 51 => 8 | 52 => 9 | 60 => 10 | 61 => 11 | 62 => 12 | 63 => 11 | 66 => 11
  | _ => 1
def qlen (k : Nat) : Nat := match k with
  | 8 => 3 | 10 => 8 | 18 => 414 | 20 => 60 | 21 => 60 | 22 => 240 | 24 => 414
  | _ => 12
/-- how many of a kind there are -/
def qn (k : Nat) : Nat := match k with
  | 1 => 11 | 2 => 11 | 3 => 11 | 4 => 11 | 5 => 11 | 6 => 11 | 7 => 11 | 8 => 11
  | _ => 1
def qci (k : Nat) : Nat := match k with
  | 0 => 5 | 1 => 3 | 9 => 0 | 11 => 2 | 19 => 4 | 23 => 1 | _ => 6
/-- an object's fields: a number, or the kind (and how far on in its instances) of the cell that it names -/
def qfs (k : Nat) : List (Option (Nat × Nat)) := match k with
  | 0 => [some (1, 0), some (1, 1), some (1, 2), some (9, 0), some (11, 0), some (19, 0), some (23, 0), some (25, 0), none, none, none, none, none]
  | 1 => [some (2, 0), some (3, 0), some (4, 0), some (5, 0), some (6, 0), some (7, 0), some (8, 0), none, none]
  | 9 => [some (10, 0), none, none]
  | 11 => [some (12, 0), some (13, 0), some (14, 0), some (15, 0), some (16, 0), some (17, 0), some (18, 0), none, none]
  | 19 => [some (20, 0), some (21, 0), some (22, 0), none, none, none]
  | 23 => [some (24, 0), none]
  | _ => []
def qfv (g : qG) (j : Nat) (r : Nat → Int32) (f : Option (Nat × Nat)) (i : Nat) : Value := match f with
  | some q => .ref (g.2.2.1 q.1 (j + q.2))
  | none => .int (r i)
def qfl (g : qG) (j : Nat) (r : Nat → Int32) : Nat → List (Option (Nat × Nat)) → List Value
  | _, [] => []
  | i, f :: t => qfv g j r f i :: qfl g j r (i + 1) t
/-- a place beyond all indices -/
def qLI : Nat := 2147483648
/-- a row's length stands at the place qLI; place 5 of a text or a builder: 0 while it names no bytes -/
def qln (r : Nat → Int32) : Nat := (r qLI).toNatClampNeg
def qnr (f : Int32) (a : Nat) : Value := if f = 0 then .null else .ref a
def qent (g : qG) (k j : Nat) (r : Nat → Int32) : va_E :=
  if qsh k = 0 then .inr (qci k, qfl g j r 0 (qfs k))
  else if qsh k = 1 then .inl (g.2.1 0, qlen k, .inl r)
  else if qsh k = 2 then .inl (g.2.1 1, qlen k, .inl r)
  else if qsh k = 3 then .inl (g.2.1 2, qlen k, .inr (.inr (.inr (.inr (fun i => some (g.2.2.1 1 (3 + i)))))))
  else if qsh k = 4 then .inl (g.2.1 3, qlen k, .inr (.inr (.inr (.inr (fun i => if r i = 0 then none else some (g.2.2.1 40 (r i - 1).toNatClampNeg))))))
  else if qsh k = 7 then .inl (g.2.1 0, qln r, .inl r)
  else if qsh k = 8 then .inl (g.2.1 4, qln r, .inl r)
  else if qsh k = 9 then .inl (g.2.1 5, 3, .inr (.inr (.inr (.inr (fun i => if i < 3 then some (g.2.2.1 50 (4 + i)) else none)))))
  else if qsh k = 10 then .inr (6, [qnr (r 5) (g.2.2.1 61 j), .int (r 1), .int (r 2), .int (r 3)])
  else if qsh k = 11 then .inl (g.2.1 6, qln r, .inl r)
  else .inr (7, [qnr (r 5) (g.2.2.1 63 j), .int (r 1), .int (r 2), .int (r 3)])
def qcl : List (Nat × Nat) := (List.range 26).flatMap (fun k => (List.range (qn k)).map (fun j => (k, j)))
theorem qcl_in {k j : Nat} (hk : k < 26) (hj : j < qn k) : (k, j) ∈ qcl := List.mem_flatMap.mpr ⟨k, List.mem_range.mpr hk, List.mem_map.mpr ⟨j, List.mem_range.mpr hj, rfl⟩⟩
def qws (g : qG) (σ : qS) : va_W := (qcl ++ qX9 g).map (fun q => (g.2.2.1 q.1 q.2, qent g q.1 q.2 (σ q.1 q.2)))
def qtys (g : qG) : List (ClassId × FieldType) := [(g.2.1 0, .int), (g.2.1 1, .char), (g.2.1 2, .object RX5), (g.2.1 3, .object RX1), (g.2.1 4, .boolean), (g.2.1 5, .array .int), (g.2.1 6, .byte)]
/-- the law's own texts, the digits: rows that are there from the start -/
def qstx : List (List Int32) := [[], [44], [58], [120], [114], [64], [33], [60]]
/-- a text's length, its signs -/
def qsl (i : Nat) : Nat := (qstx.getD i []).length
def qsc (i j : Nat) : Int32 := (qstx.getD i []).getD j 0
def qdig (j i : Nat) : Int32 := nI (48 + (if j = 0 then i % 10 else i / 10))
/-- what the constant rows hold: kinds 42 texts, 44 their bytes, 46 the digits -/
def qCo (σ : qS) : Prop := (∀ j, j < 8 → σ 42 j 1 = 0 ∧ σ 42 j 5 = 1 ∧ σ 44 j qLI = nI (qsl j) ∧ ∀ i, i < qsl j → σ 44 j i = qsc j i) ∧ ∀ j, j < 2 → σ 46 j qLI = nI 100 ∧ ∀ i, i < 100 → σ 46 j i = qdig j i
theorem qCo.put {σ σ' : qS} (h : qCo σ) (ho : ∀ a b, a = 42 ∨ a = 44 ∨ a = 46 → σ' a b = σ a b) : qCo σ' := by
  refine ⟨fun j hj => ?_, fun j hj => ?_⟩
  · rw [ho 42 j (Or.inl rfl), ho 44 j (Or.inr (Or.inl rfl))]
    exact h.1 j hj
  · rw [ho 46 j (Or.inr (Or.inr rfl))]
    exact h.2 j hj
def qH (g : qG) (σ : qS) (H : Heap) : Prop := va_P g.1 qcls (qws g σ) H ∧ va_D (qAf g) (qws g σ) ∧ qCo σ
theorem qws_in (g : qG) (σ : qS) {k j : Nat} (h : (k, j) ∈ qcl ++ qX9 g) : ∃ q0 : Nat, (qcl ++ qX9 g)[q0]? = some (k, j) ∧ (qws g σ)[q0]? = some (g.2.2.1 k j, qent g k j (σ k j)) := by
  obtain ⟨q0, h⟩ := List.getElem?_of_mem h
  refine ⟨q0, h, ?_⟩
  unfold qws
  rw [List.getElem?_map, h]
  rfl
theorem qws_at (g : qG) (σ : qS) {k j : Nat} (hk : k < 26) (hj : j < qn k) : ∃ q0 : Nat, (qcl ++ qX9 g)[q0]? = some (k, j) ∧ (qws g σ)[q0]? = some (g.2.2.1 k j, qent g k j (σ k j)) := qws_in g σ (List.mem_append_left _ (qcl_in hk hj))
theorem qu_row (σ : qS) (k j i : Nat) (v : Int32) : qu σ k j i v k j = upd (σ k j) i v := by simp [qu]
theorem qu_other (σ : qS) {k j i a b : Nat} {v : Int32} (h : ¬ (a = k ∧ b = j)) : qu σ k j i v a b = σ a b := by simp [qu, h]
/-- one cell's row is written -/
theorem qws_setL {c : List (Nat × Nat)} {g : qG} {σ σ' : qS} {q0 k j : Nat} {e0 : va_E} {A : Nat → Prop} {w : va_W} (hw : w = c.map (fun q => (g.2.2.1 q.1 q.2, qent g q.1 q.2 (σ q.1 q.2)))) (hD : va_D A w) (hq : c[q0]? = some (k, j)) (h0 : w[q0]? = some (g.2.2.1 k j, e0)) (ho : ∀ a b, ¬ (a = k ∧ b = j) → σ' a b = σ a b) :
    w.set q0 (g.2.2.1 k j, qent g k j (σ' k j)) = c.map (fun q => (g.2.2.1 q.1 q.2, qent g q.1 q.2 (σ' q.1 q.2))) := by
  have hl : q0 < w.length := (List.getElem?_eq_some_iff.mp h0).1
  apply List.ext_getElem?
  intro i
  by_cases hi : i = q0
  · subst hi
    rw [List.getElem?_set_self hl]
    simp [hq]
  · rw [List.getElem?_set_ne (Ne.symm hi), hw, List.getElem?_map, List.getElem?_map]
    cases hc : c[i]? with
    | none => rw [Option.map_none, Option.map_none]
    | some q =>
      obtain ⟨a, b⟩ := q
      have hne : ¬ (a = k ∧ b = j) := by
        rintro ⟨rfl, rfl⟩
        refine hi (hD.1 i q0 (g.2.2.1 a b, qent g a b (σ a b)) _ ?_ h0 rfl)
        rw [hw, List.getElem?_map, hc]
        rfl
      rw [Option.map_some, Option.map_some]
      dsimp only
      rw [ho a b hne]
theorem qws_set {g : qG} {σ σ' : qS} {q0 k j : Nat} {e0 : va_E} (hD : va_D (qAf g) (qws g σ)) (hq : (qcl ++ qX9 g)[q0]? = some (k, j)) (h0 : (qws g σ)[q0]? = some (g.2.2.1 k j, e0)) (ho : ∀ a b, ¬ (a = k ∧ b = j) → σ' a b = σ a b) :
    (qws g σ).set q0 (g.2.2.1 k j, qent g k j (σ' k j)) = qws g σ' := qws_setL (c := qcl ++ qX9 g) rfl hD hq h0 ho
theorem qws_set' {g : qG} {σ : qS} {q0 k j i : Nat} {e0 e1 : va_E} {v : Int32} (hD : va_D (qAf g) (qws g σ)) (hq : (qcl ++ qX9 g)[q0]? = some (k, j)) (h0 : (qws g σ)[q0]? = some (g.2.2.1 k j, e0)) (he : e1 = qent g k j (upd (σ k j) i v)) :
    (qws g σ).set q0 (g.2.2.1 k j, e1) = qws g (qu σ k j i v) := by
  subst he
  rw [← qu_row σ k j i v]
  exact qws_set hD hq h0 (fun a b h => qu_other σ h)
theorem qfl_get (g : qG) (j : Nat) (r : Nat → Int32) : ∀ (l : List (Option (Nat × Nat))) (n i : Nat) (f : Option (Nat × Nat)), l[i]? = some f → (qfl g j r n l)[i]? = some (qfv g j r f (n + i))
  | [], _, _, _, h => by simp at h
  | a :: t, n, 0, f, h => by simp at h; subst h; simp [qfl]
  | a :: t, n, i + 1, f, h => by
    simp only [List.getElem?_cons_succ] at h
    simp only [qfl, List.getElem?_cons_succ]
    rw [qfl_get g j r t (n + 1) i f h]
    congr 2; omega
theorem qfl_len (g : qG) (j : Nat) (r : Nat → Int32) : ∀ (l : List (Option (Nat × Nat))) (n : Nat), (qfl g j r n l).length = l.length
  | [], _ => rfl
  | a :: t, n => by simp [qfl, qfl_len g j r t (n + 1)]
theorem qfl_same (g : qG) (j : Nat) (r : Nat → Int32) (v : Int32) : ∀ (l : List (Option (Nat × Nat))) (n i : Nat), i < n → qfl g j (upd r i v) n l = qfl g j r n l
  | [], _, _, _ => rfl
  | a :: t, n, i, h => by
    simp only [qfl]
    rw [qfl_same g j r v t (n + 1) i (by omega)]
    congr 1
    cases a with
    | none => simp [qfv, upd, show ¬ n = i by omega]
    | some q => rfl
theorem qfl_set (g : qG) (j : Nat) (r : Nat → Int32) (v : Int32) : ∀ (l : List (Option (Nat × Nat))) (n i : Nat), l[i]? = some none → (qfl g j r n l).set i (.int v) = qfl g j (upd r (n + i) v) n l
  | [], _, _, h => by simp at h
  | a :: t, n, 0, h => by
    simp at h; subst h
    simp only [qfl, List.set_cons_zero]
    rw [qfl_same g j r v t (n + 1) (n + 0) (by omega)]
    simp [qfv, upd]
  | a :: t, n, i + 1, h => by
    simp only [List.getElem?_cons_succ] at h
    simp only [qfl, List.set_cons_succ]
    rw [qfl_set g j r v t (n + 1) i h]
    rw [show n + 1 + i = n + (i + 1) by omega]
    congr 1
    cases a with
    | none => simp [qfv, upd]
    | some q => rfl
theorem qent0 {g : qG} {k j : Nat} {r : Nat → Int32} (h : qsh k = 0) : qent g k j r = .inr (qci k, qfl g j r 0 (qfs k)) := by simp [qent, h]
theorem qent1 {g : qG} {k j : Nat} {r : Nat → Int32} (h : qsh k = 1) : qent g k j r = .inl (g.2.1 0, qlen k, .inl r) := by simp [qent, h]
theorem qent2 {g : qG} {k j : Nat} {r : Nat → Int32} (h : qsh k = 2) : qent g k j r = .inl (g.2.1 1, qlen k, .inl r) := by simp [qent, h]
theorem qent3 {g : qG} {k j : Nat} {r : Nat → Int32} (h : qsh k = 3) : qent g k j r = .inl (g.2.1 2, qlen k, .inr (.inr (.inr (.inr (fun i => some (g.2.2.1 1 (3 + i))))))) := by simp [qent, h]
theorem qent4 {g : qG} {k j : Nat} {r : Nat → Int32} (h : qsh k = 4) : qent g k j r = .inl (g.2.1 3, qlen k, .inr (.inr (.inr (.inr (fun i => if r i = 0 then none else some (g.2.2.1 40 (r i - 1).toNatClampNeg)))))) := by simp [qent, h]
theorem qent7 {g : qG} {k j : Nat} {r : Nat → Int32} (h : qsh k = 7) : qent g k j r = .inl (g.2.1 0, qln r, .inl r) := by simp [qent, h]
theorem qent8 {g : qG} {k j : Nat} {r : Nat → Int32} (h : qsh k = 8) : qent g k j r = .inl (g.2.1 4, qln r, .inl r) := by simp [qent, h]
theorem qent9 {g : qG} {k j : Nat} {r : Nat → Int32} (h : qsh k = 9) : qent g k j r = .inl (g.2.1 5, 3, .inr (.inr (.inr (.inr (fun i => if i < 3 then some (g.2.2.1 50 (4 + i)) else none))))) := by simp [qent, h]
theorem qent10 {g : qG} {k j : Nat} {r : Nat → Int32} (h : qsh k = 10) : qent g k j r = .inr (6, [qnr (r 5) (g.2.2.1 61 j), .int (r 1), .int (r 2), .int (r 3)]) := by simp [qent, h]
theorem qent11 {g : qG} {k j : Nat} {r : Nat → Int32} (h : qsh k = 11) : qent g k j r = .inl (g.2.1 6, qln r, .inl r) := by simp [qent, h]
theorem qent12 {g : qG} {k j : Nat} {r : Nat → Int32} (h : qsh k = 12) : qent g k j r = .inr (7, [qnr (r 5) (g.2.2.1 63 j), .int (r 1), .int (r 2), .int (r 3)]) := by simp [qent, h]
theorem qCo.qu {σ : qS} {k j i : Nat} {v : Int32} (h : qCo σ) (hk : ¬ (k = 42 ∨ k = 44 ∨ k = 46)) : qCo (qu σ k j i v) := h.put (fun a b ha => qu_other σ (fun e => hk (by rw [← e.1]; exact ha)))
end
section
/-! THE ENVIRONMENT of a run: tables' words and what never changes (names: q..) -/
def qthr : List (Nat × String) := [(398, "no such task"), (400, "an argument is out of its range"), (402, "there is no room for another task"), (406, "a task would depend on itself"), (390, "no such resource"), (185, "no such position"), (208, "there are no tasks"), (392, "the day is negative"), (394, "the task has no baseline start"), (244, "there is no baseline"), (388, "no such rank"), (286, "no such character")]
/-- the law's texts: their places in its pool, which they are -/
def qlst : List (Nat × String × Nat) := [(222, "", 0), (231, ",", 1), (281, ":", 2), (283, "x", 3), (285, "r", 4), (287, "@", 5), (289, "!", 6), (291, "<", 7)]
abbrev qIOE : String := "java/lang/IndexOutOfBoundsException"
abbrev qIAE : String := "java/lang/IllegalArgumentException"
abbrev qISE : String := "java/lang/IllegalStateException"
abbrev qUOE : String := "java/lang/UnsupportedOperationException"
abbrev qNSE : String := "java/util/NoSuchElementException"
abbrev qARE : String := "java/lang/ArithmeticException"
def qncs : List (String × String) := [(qISE, qIAE), (qIAE, qIOE), (qUOE, qIOE), (qUOE, qIAE), (qNSE, qIOE), (qARE, qIAE)]
def qkS (g : qG) (U : State) (H : Heap) : Prop := ∀ i : Nat, i < 8 → va_O "java/lang/String" (g.2.2.1 42 i) (qAf g) U H ∧ va_OF "java/lang/String" "coder" "B" (.int 0) (g.2.2.1 42 i) (qAf g) U H ∧ va_OF "java/lang/String" "value" "[B" (.ref (g.2.2.1 44 i)) (g.2.2.1 42 i) (qAf g) U H ∧ va_T .byte (g.2.2.1 44 i) (qsl i) (fun j => .int (qsc i j)) (qAf g) U H
/-- the digits of numbers below a hundred -/
def qkG (g : qG) (U : State) (H : Heap) : Prop := va_Z "java/lang/Integer" "DigitOnes" "[B" (.ref (g.2.2.1 46 0)) (qAf g) U H ∧ va_Z "java/lang/Integer" "DigitTens" "[B" (.ref (g.2.2.1 46 1)) (qAf g) U H ∧ ∀ i : Nat, i < 2 → va_T .byte (g.2.2.1 46 i) 100 (fun j => .int (qdig i j)) (qAf g) U H
def qkC (g : qG) (U : State) (H : Heap) : Prop := va_Z "java/lang/String" "COMPACT_STRINGS" "Z" (.int 1) (qAf g) U H ∧ va_Zq "jdk/internal/util/Preconditions" "SIOOBE_FORMATTER" "Ljava/util/function/BiFunction;" (qAf g) U H
def qkX (g : qG) (U : State) (H : Heap) : Prop := vx_Zq Bundle.tN "UNASSIGNED_STACK" Bundle.steD (qAf g) U H ∧ vx_Zq Bundle.tN "SUPPRESSED_SENTINEL" Bundle.listD (qAf g) U H
/-- the script -/
def qkL (g : qG) (U : State) (H : Heap) : Prop := va_T .int (g.2.2.1 45 0) (qLL g) (fun j => .int (qxs g j)) (qAf g) U H
def qK (g : qG) (U : State) (H : Heap) : Prop := qkS g U H ∧ qkG g U H ∧ qkC g U H ∧ qkX g U H ∧ qkL g U H
/-- of an array of arrays -/
def va_AOA (ty : FieldType) (U : State) : Prop := ∃ (comp c : ClassId) (k : Class), U.vm.findClass (FieldType.array ty).toString = some comp ∧ U.vm.classes[c]? = some k ∧ k.kind = .array comp (.array ty) ∧ U.vm.findClass ("[" ++ (FieldType.array ty).toString) = some c
theorem va_AOA.moved {ty : FieldType} {u U : State} (hvm : u.vm.Alike U.vm) (h : va_AOA ty u) : va_AOA ty U := by
  obtain ⟨comp, c, k, h1, h2, h3, h4⟩ := h
  obtain ⟨k', hk', he⟩ := hvm.2.2 _ _ h2
  exact ⟨comp, c, k', by rw [hvm.findClass]; exact h1, hk', by rw [he]; exact h3, by rw [hvm.findClass]; exact h4⟩
/-- of the tables alone -/
def qKt (g : qG) (U : State) : Prop := va_K g.1 qcls (qtys g) U ∧ (∀ w ∈ qWA, w.before #[] U = true) ∧ (∀ q ∈ qlst, vk_R RL q.1 q.2.1 (g.2.2.1 42 q.2.2) U) ∧ (∀ q ∈ qthr, ∃ a : Nat, vk_R RX7 q.1 q.2 a U) ∧ (∀ q ∈ qncs, va_Nc q.1 q.2 U) ∧ va_AOA .int U
def qE (g : qG) (U : State) (H : Heap) : Prop := qKt g U ∧ g.2.2.2.1 ≤ H.size ∧ qK g U H
theorem va_Nc_warm {C T : String} {s U : State} (hvm : s.vm.Alike U.vm) (h : va_Nc C T s) : va_Nc C T U := by
  obtain ⟨c, t, h1, h2, h3⟩ := h
  exact ⟨c, t, by rw [hvm.findClass]; exact h1, by rw [hvm.findClass]; exact h2, by rw [hvm.assignable]; exact h3⟩
theorem qKt.warm {g : qG} {s U : State} (hW : s.WarmedH U.vm) (h : qKt g s) : qKt g U := by
  obtain ⟨h1, h2, h3, h4, h5, h6⟩ := h
  refine ⟨va_K.moved hW.alike h1, fun w hw => qok_warm (List.mem_filter.mp hw).2 hW (h2 w hw), fun q hq => vk_R.warm hW (h3 q hq), fun q hq => ?_, fun q hq => va_Nc_warm hW.alike (h5 q hq), h6.moved hW.alike⟩
  obtain ⟨a, ha⟩ := h4 q hq
  exact ⟨a, vk_R.warm hW ha⟩
theorem qK.moved {g : qG} {u U : State} {H : Heap} (hvm : u.vm.Alike U.vm) (h : qK g u H) : qK g U H := by
  obtain ⟨h6, ⟨d1, d2, d3⟩, h9, ⟨h10, h11⟩, h12⟩ := h
  exact ⟨fun i hi => ⟨va_O.moved hvm (h6 i hi).1, va_OF.moved hvm (h6 i hi).2.1, va_OF.moved hvm (h6 i hi).2.2.1, va_T.moved hvm (h6 i hi).2.2.2⟩,
    ⟨va_Z.moved hvm d1, va_Z.moved hvm d2, fun i hi => va_T.moved hvm (d3 i hi)⟩, ⟨va_Z.moved hvm h9.1, va_Zq.moved hvm h9.2⟩, ⟨vx_Zq.moved hvm h10, vx_Zq.moved hvm h11⟩, va_T.moved hvm h12⟩
theorem qK.kept {g : qG} {U : State} {H H1 : Heap} (h : qK g U H) (hq : ∀ a : Nat, a < H.size → ¬ qAf g a → H1[a]? = H[a]?) : qK g U H1 := by
  obtain ⟨h6, ⟨d1, d2, d3⟩, h9, ⟨h10, h11⟩, h12⟩ := h
  exact ⟨fun i hi => ⟨(h6 i hi).1.kept hq, (h6 i hi).2.1.kept hq, (h6 i hi).2.2.1.kept hq, (h6 i hi).2.2.2.kept hq⟩,
    ⟨d1.kept hq, d2.kept hq, fun i hi => (d3 i hi).kept hq⟩, ⟨h9.1.kept hq, h9.2.kept hq⟩, ⟨h10.kept hq, h11.kept hq⟩, h12.kept hq⟩
/-- at a callee's start -/
theorem qE.go {g : qG} {s U : State} {H : Heap} {locs : List Loc} (h : qE g s s.heap) (hW : s.WarmedH U.vm) (hS : va_S (qAf g) s.heap H locs) (hU : U.heap = H) : qE g U U.heap := by
  obtain ⟨h1, h2, h3⟩ := h
  rw [hU]
  exact ⟨h1.warm hW, Nat.le_trans h2 hS.1, (h3.kept hS.2.1).moved hW.alike⟩
theorem qKt.same {g : qG} {u U : State} (hv : U.vm = u.vm) (h : qKt g u) : qKt g U := h.warm (by rw [hv]; exact State.WarmedH.refl u)
theorem qE.blind {g : qG} {U : State} {a : Array Value} {g0 : JFrame} {mk : MethodId} (h : qE g U U.heap) : qE g (U.calling g0 mk a) (U.calling g0 mk a).heap := ⟨qKt.same (u := U) rfl h.1, h.2.1, qK.moved (u := U) (Vm.Alike.refl U.vm) h.2.2⟩
/-- a word for any arguments -/
theorem qword {g : qG} {s : State} (h : qKt g s) {w : Cond} (hw : w ∈ qWA) {a : Array Value} : w.before a s = true := qok_warm (List.mem_filter.mp hw).2 (State.WarmedH.refl s) (h.2.1 w hw)
theorem qwords {g : qG} {s : State} (h : qKt g s) {a : Array Value} : ∀ w ∈ qWA, w.before a s = true := fun w hw => qword h hw
end
section
/-! V: the machine at a place of a method, over the abstract cells; a row an instruction -/
def qlc (g : qG) : Nat → List (Option qA) → List (Nat × Value)
  | _, [] => []
  | i, none :: t => qlc g (i + 1) t
  | i, some v :: t => (i, qcv g v) :: qlc g (i + 1) t
theorem qlc_get (g : qG) : ∀ (L : List (Option qA)) (n i : Nat) (v : qA), L[i]? = some (some v) → (n + i, qcv g v) ∈ qlc g n L
  | [], _, _, _, h => by simp at h
  | a :: t, n, 0, v, h => by simp at h; subst h; simp [qlc]
  | a :: t, n, i + 1, v, h => by
    simp only [List.getElem?_cons_succ] at h
    have h1 := qlc_get g t (n + 1) i v h
    rw [show n + 1 + i = n + (i + 1) by omega] at h1
    cases a with
    | none => exact h1
    | some a => exact List.mem_cons_of_mem _ h1
theorem qlc_mem (g : qG) : ∀ (L : List (Option qA)) (n : Nat) (q : Nat × Value), q ∈ qlc g n L → ∃ (i : Nat) (v : qA), q.1 = n + i ∧ L[i]? = some (some v) ∧ q.2 = qcv g v
  | [], _, _, h => by simp [qlc] at h
  | none :: t, n, q, h => by
    obtain ⟨i, v, h1, h2, h3⟩ := qlc_mem g t (n + 1) q h
    exact ⟨i + 1, v, by omega, by simpa using h2, h3⟩
  | some a :: t, n, q, h => by
    rcases List.mem_cons.mp h with rfl | h
    · exact ⟨0, a, by simp, by simp, rfl⟩
    · obtain ⟨i, v, h1, h2, h3⟩ := qlc_mem g t (n + 1) q h
      exact ⟨i + 1, v, by omega, by simpa using h2, h3⟩
/-- the locals hold what the list says -/
def qLs (g : qG) (ls : Array Slot) (nL : Nat) (L : List (Option qA)) : Prop := lv_has ls nL (qlc g 0 L)
theorem qLs.at {g : qG} {ls : Array Slot} {nL i : Nat} {L : List (Option qA)} {v : qA} (h : qLs g ls nL L) (hi : L[i]? = some (some v)) : ls[i]? = some (.val (qcv g v)) := by
  have h1 := qlc_get g L 0 i v hi
  rw [Nat.zero_add] at h1
  exact h.2.2 _ h1
def qmask : List (Option qA) → List Bool → List (Option qA)
  | [], _ => []
  | a :: t, [] => a :: t
  | a :: t, true :: m => a :: qmask t m
  | _ :: t, false :: m => none :: qmask t m
theorem qmask_get : ∀ (L : List (Option qA)) (m : List Bool) (i : Nat) (v : qA), (qmask L m)[i]? = some (some v) → L[i]? = some (some v)
  | [], _, _, _, h => by simp [qmask] at h
  | a :: t, [], _, _, h => h
  | a :: t, true :: m, 0, v, h => h
  | a :: t, true :: m, i + 1, v, h => by simp only [qmask, List.getElem?_cons_succ] at h ⊢; exact qmask_get t m i v h
  | a :: t, false :: m, 0, v, h => by simp [qmask] at h
  | a :: t, false :: m, i + 1, v, h => by simp only [qmask, List.getElem?_cons_succ] at h ⊢; exact qmask_get t m i v h
theorem qLs.weak {g : qG} {ls : Array Slot} {nL : Nat} {L L' : List (Option qA)} (h : qLs g ls nL L) (hw : ∀ (i : Nat) (v : qA), L'[i]? = some (some v) → L[i]? = some (some v)) : qLs g ls nL L' := by
  refine ⟨h.1, h.2.1, fun q hq => ?_⟩
  obtain ⟨i, v, h1, h2, h3⟩ := qlc_mem g L' 0 q hq
  rw [h1, h3, Nat.zero_add]
  exact h.at (hw i v h2)
def qcat (v : qA) : Nat := match v with
  | .inl v => v.category
  | .inr _ => 1
theorem qcat_cv (g : qG) (v : qA) : (qcv g v).category = qcat v := by cases v <;> rfl
/-- a store at place i: nothing long stands one place ahead -/
def qok1 (L : List (Option qA)) (i : Nat) : Bool := match i with
  | 0 => true
  | i + 1 => match L[i]? with
    | some (some v) => qcat v == 1
    | _ => true
theorem qLs.store {g : qG} {ls' : Array Slot} {nL i : Nat} {L : List (Option qA)} {v : qA} {lv' : List (Nat × Value)} (hk : qok1 L i = true) (hl : (i, qcv g v) :: (qlc g 0 L).filter (fun q => !(q.1 == i) && !(q.1 + 1 == i && q.2.category == 2)) = lv') (h : lv_has ls' nL lv') : qLs g ls' nL (L.set i (some v)) := by
  refine ⟨h.1, h.2.1, fun q hq => ?_⟩
  refine h.2.2 q ?_
  rw [← hl]
  obtain ⟨j, w, h1, h2, h3⟩ := qlc_mem g _ 0 q hq
  rw [Nat.zero_add] at h1
  by_cases hj : j = i
  · subst hj
    have hlt : j < L.length := by
      have := (List.getElem?_eq_some_iff.mp h2).1
      simpa using this
    rw [List.getElem?_set_self hlt] at h2
    cases h2
    have : q = (j, qcv g v) := by cases q; simp_all
    rw [this]; exact List.mem_cons_self
  · rw [List.getElem?_set_ne (Ne.symm hj)] at h2
    refine List.mem_cons_of_mem _ (List.mem_filter.mpr ⟨?_, ?_⟩)
    · have h4 := qlc_get g L 0 j w h2
      rw [Nat.zero_add] at h4
      have : q = (j, qcv g w) := by cases q; simp_all
      rw [this]; exact h4
    · rw [h1, h3, qcat_cv]
      have e1 : (j == i) = false := by simp [hj]
      rw [e1]
      by_cases hj2 : j + 1 = i
      · subst hj2
        simp only [qok1, h2] at hk
        have : qcat w = 1 := by simpa using hk
        simp [this]
      · simp [hj2]
section QV
/-- V: whatever the outcome r that o names, the machine comes from here to an end that Qf r allows; at most cb cells of sb slots are made on the way -/
def qV (p : Program) (l : Launch) (e : Env) (R : Room) (s : State) (m : MethodId) (args : Array Value) (below : List Frame) (meth : Method) (c : Code) (g : qG) (nL : Nat) (Qf : qO → State → Prop) (o : Option qO) (cb sb pc : Nat) (L : List (Option qA)) (st : List qA) (σ : qS) : Prop :=
  ∀ r : qO, o = some r → ∀ (ls : Array Slot) (H : Heap) (locs : List Loc) (cells slots : Nat), qLs g ls nL L → qH g σ H → va_S (qAf g) s.heap H locs → cells + cb ≤ R.cells → slots + sb ≤ R.slots → W p l e R s m args below meth c H locs cells slots (Qf r) (F0 m pc ls (st.map (qcv g)))
def qC (p : Program) (l : Launch) (s : State) (m : MethodId) (meth : Method) (c : Code) (cc : ByteArray) (nL : Nat) (own : String) (g : qG) : Prop :=
  p.tables.exec = Jvm.exec ∧ c.code = cc ∧ c.maxLocals = nL ∧ s.vm.findClass own = some m.cls ∧ qE g s s.heap ∧ l.stackTraces = false ∧ meth.locks = false
variable {p : Program} {l : Launch} {e : Env} {R : Room} {s : State} {m : MethodId} {args : Array Value} {below : List Frame} {meth : Method} {c : Code} {g : qG} {nL : Nat} {Qf : qO → State → Prop} {o : Option qO} {cb sb pc : Nat} {L : List (Option qA)} {st : List qA} {σ : qS} {cc : ByteArray} {own : String}
theorem qV.weak (m' : List Bool) (k : qV p l e R s m args below meth c g nL Qf o cb sb pc (qmask L m') st σ) : qV p l e R s m args below meth c g nL Qf o cb sb pc L st σ :=
  fun r hr ls H locs cells slots h1 h2 h3 h4 h5 => k r hr ls H locs cells slots (h1.weak (fun i v h => qmask_get L m' i v h)) h2 h3 h4 h5
theorem qV.less {cb' sb' : Nat} (k : qV p l e R s m args below meth c g nL Qf o cb' sb' pc L st σ) (h1 : cb' ≤ cb) (h2 : sb' ≤ sb) : qV p l e R s m args below meth c g nL Qf o cb sb pc L st σ :=
  fun r hr ls H locs cells slots g1 g2 g3 g4 g5 => k r hr ls H locs cells slots g1 g2 g3 (by omega) (by omega)
theorem qV.no : qV p l e R s m args below meth c g nL Qf none cb sb pc L st σ := fun r hr => by cases hr
theorem qv_iload (C : qC p l s m meth c cc nL own g) {i : Nat} {x : Int32} (d : decode cc pc = .ok (.iload i, 2)) (hl : L[i]? = some (some (qI x))) (k : qV p l e R s m args below meth c g nL Qf o cb sb (pc + 2) L (qI x :: st) σ) : qV p l e R s m args below meth c g nL Qf o cb sb pc L st σ :=
  fun r hr ls H locs cells slots h1 h2 h3 h4 h5 => lv_iload C.1 C.2.1 d (h1.at hl) (k r hr ls H locs cells slots h1 h2 h3 h4 h5)
theorem qv_iload_n (C : qC p l s m meth c cc nL own g) {k0 : Fin 4} {x : Int32} (d : decode cc pc = .ok (.iload_n k0, 1)) (hl : L[(k0 : Nat)]? = some (some (qI x))) (k : qV p l e R s m args below meth c g nL Qf o cb sb (pc + 1) L (qI x :: st) σ) : qV p l e R s m args below meth c g nL Qf o cb sb pc L st σ :=
  fun r hr ls H locs cells slots h1 h2 h3 h4 h5 => lv_iload_n C.1 C.2.1 d rfl (h1.at hl) (k r hr ls H locs cells slots h1 h2 h3 h4 h5)
theorem qv_aload (C : qC p l s m meth c cc nL own g) {i : Nat} {a : Nat × Nat} (d : decode cc pc = .ok (.aload i, 2)) (hl : L[i]? = some (some (.inr a))) (k : qV p l e R s m args below meth c g nL Qf o cb sb (pc + 2) L (.inr a :: st) σ) : qV p l e R s m args below meth c g nL Qf o cb sb pc L st σ :=
  fun r hr ls H locs cells slots h1 h2 h3 h4 h5 => lv_aload C.1 C.2.1 d (h1.at hl) (k r hr ls H locs cells slots h1 h2 h3 h4 h5)
theorem qv_aload_n (C : qC p l s m meth c cc nL own g) {k0 : Fin 4} {a : Nat × Nat} (d : decode cc pc = .ok (.aload_n k0, 1)) (hl : L[(k0 : Nat)]? = some (some (.inr a))) (k : qV p l e R s m args below meth c g nL Qf o cb sb (pc + 1) L (.inr a :: st) σ) : qV p l e R s m args below meth c g nL Qf o cb sb pc L st σ :=
  fun r hr ls H locs cells slots h1 h2 h3 h4 h5 => lv_aload_n C.1 C.2.1 d rfl (h1.at hl) (k r hr ls H locs cells slots h1 h2 h3 h4 h5)
theorem qv_istore (C : qC p l s m meth c cc nL own g) {i : Nat} {x : Int32} (d : decode cc pc = .ok (.istore i, 2)) (hn : i < nL) (hk : qok1 L i = true) (k : qV p l e R s m args below meth c g nL Qf o cb sb (pc + 2) (L.set i (some (qI x))) st σ) : qV p l e R s m args below meth c g nL Qf o cb sb pc L (qI x :: st) σ :=
  fun r hr ls H locs cells slots h1 h2 h3 h4 h5 => lv_istore C.1 C.2.1 d h1 hn rfl (fun ls' hl' => k r hr ls' H locs cells slots (qLs.store (v := qI x) hk rfl hl') h2 h3 h4 h5)
theorem qv_istore_n (C : qC p l s m meth c cc nL own g) {k0 : Fin 4} {x : Int32} (d : decode cc pc = .ok (.istore_n k0, 1)) (hn : (k0 : Nat) < nL) (hk : qok1 L k0 = true) (k : qV p l e R s m args below meth c g nL Qf o cb sb (pc + 1) (L.set k0 (some (qI x))) st σ) : qV p l e R s m args below meth c g nL Qf o cb sb pc L (qI x :: st) σ :=
  fun r hr ls H locs cells slots h1 h2 h3 h4 h5 => lv_istore_n C.1 C.2.1 d rfl h1 hn rfl (fun ls' hl' => k r hr ls' H locs cells slots (qLs.store (v := qI x) hk rfl hl') h2 h3 h4 h5)
theorem qv_astore (C : qC p l s m meth c cc nL own g) {i : Nat} {a : Nat × Nat} (d : decode cc pc = .ok (.astore i, 2)) (hn : i < nL) (hk : qok1 L i = true) (k : qV p l e R s m args below meth c g nL Qf o cb sb (pc + 2) (L.set i (some (.inr a))) st σ) : qV p l e R s m args below meth c g nL Qf o cb sb pc L (.inr a :: st) σ :=
  fun r hr ls H locs cells slots h1 h2 h3 h4 h5 => lv_astore C.1 C.2.1 d h1 hn rfl (fun ls' hl' => k r hr ls' H locs cells slots (qLs.store (v := .inr a) hk rfl hl') h2 h3 h4 h5)
theorem qv_astore_n (C : qC p l s m meth c cc nL own g) {k0 : Fin 4} {a : Nat × Nat} (d : decode cc pc = .ok (.astore_n k0, 1)) (hn : (k0 : Nat) < nL) (hk : qok1 L k0 = true) (k : qV p l e R s m args below meth c g nL Qf o cb sb (pc + 1) (L.set k0 (some (.inr a))) st σ) : qV p l e R s m args below meth c g nL Qf o cb sb pc L (.inr a :: st) σ :=
  fun r hr ls H locs cells slots h1 h2 h3 h4 h5 => lv_astore_n C.1 C.2.1 d rfl h1 hn rfl (fun ls' hl' => k r hr ls' H locs cells slots (qLs.store (v := .inr a) hk rfl hl') h2 h3 h4 h5)
theorem qv_iinc (C : qC p l s m meth c cc nL own g) {i : Nat} {n : Int} {x v : Int32} (d : decode cc pc = .ok (.iinc i n, 3)) (hl : L[i]? = some (some (qI x))) (hv : x + Int32.ofInt n = v) (hn : i < nL) (hk : qok1 L i = true) (k : qV p l e R s m args below meth c g nL Qf o cb sb (pc + 3) (L.set i (some (qI v))) st σ) : qV p l e R s m args below meth c g nL Qf o cb sb pc L st σ := by
  intro r hr ls H locs cells slots h1 h2 h3 h4 h5
  have hm := qlc_get g L 0 i _ hl
  rw [Nat.zero_add] at hm
  obtain ⟨k1, hk1⟩ := List.getElem?_of_mem hm
  exact lv_iinc C.1 C.2.1 d h1 hk1 hv hn rfl (fun ls' hl' => k r hr ls' H locs cells slots (qLs.store (v := qI v) hk rfl hl') h2 h3 h4 h5)
theorem qv_iconst (C : qC p l s m meth c cc nL own g) {n : Int} {v : Int32} (d : decode cc pc = .ok (.iconst n, 1)) (hv : Int32.ofInt n = v) (k : qV p l e R s m args below meth c g nL Qf o cb sb (pc + 1) L (qI v :: st) σ) : qV p l e R s m args below meth c g nL Qf o cb sb pc L st σ :=
  fun r hr ls H locs cells slots h1 h2 h3 h4 h5 => lv_iconst C.1 C.2.1 d hv (k r hr ls H locs cells slots h1 h2 h3 h4 h5)
theorem qv_bipush (C : qC p l s m meth c cc nL own g) {n : Int} {v : Int32} (d : decode cc pc = .ok (.bipush n, 2)) (hv : (Int8.ofInt n).toInt32 = v) (k : qV p l e R s m args below meth c g nL Qf o cb sb (pc + 2) L (qI v :: st) σ) : qV p l e R s m args below meth c g nL Qf o cb sb pc L st σ :=
  fun r hr ls H locs cells slots h1 h2 h3 h4 h5 => lv_bipush C.1 C.2.1 d hv (k r hr ls H locs cells slots h1 h2 h3 h4 h5)
theorem qv_sipush (C : qC p l s m meth c cc nL own g) {n : Int} {v : Int32} (d : decode cc pc = .ok (.sipush n, 3)) (hv : (Int16.ofInt n).toInt32 = v) (k : qV p l e R s m args below meth c g nL Qf o cb sb (pc + 3) L (qI v :: st) σ) : qV p l e R s m args below meth c g nL Qf o cb sb pc L st σ :=
  fun r hr ls H locs cells slots h1 h2 h3 h4 h5 => lv_sipush C.1 C.2.1 d hv (k r hr ls H locs cells slots h1 h2 h3 h4 h5)
theorem qv_lconst (C : qC p l s m meth c cc nL own g) {n : Fin 2} {v : Int64} (d : decode cc pc = .ok (.lconst n, 1)) (hv : Int64.ofNat (n : Nat) = v) (k : qV p l e R s m args below meth c g nL Qf o cb sb (pc + 1) L (.inl (.long v) :: st) σ) : qV p l e R s m args below meth c g nL Qf o cb sb pc L st σ :=
  fun r hr ls H locs cells slots h1 h2 h3 h4 h5 => lv_lconst C.1 C.2.1 d hv (k r hr ls H locs cells slots h1 h2 h3 h4 h5)
theorem qv_iadd (C : qC p l s m meth c cc nL own g) {x y : Int32} (d : decode cc pc = .ok (.iadd, 1)) (k : qV p l e R s m args below meth c g nL Qf o cb sb (pc + 1) L (qI (x + y) :: st) σ) : qV p l e R s m args below meth c g nL Qf o cb sb pc L (qI y :: qI x :: st) σ :=
  fun r hr ls H locs cells slots h1 h2 h3 h4 h5 => lv_iadd C.1 C.2.1 d (k r hr ls H locs cells slots h1 h2 h3 h4 h5)
theorem qv_isub (C : qC p l s m meth c cc nL own g) {x y : Int32} (d : decode cc pc = .ok (.isub, 1)) (k : qV p l e R s m args below meth c g nL Qf o cb sb (pc + 1) L (qI (x - y) :: st) σ) : qV p l e R s m args below meth c g nL Qf o cb sb pc L (qI y :: qI x :: st) σ :=
  fun r hr ls H locs cells slots h1 h2 h3 h4 h5 => lv_isub C.1 C.2.1 d (k r hr ls H locs cells slots h1 h2 h3 h4 h5)
theorem qv_imul (C : qC p l s m meth c cc nL own g) {x y : Int32} (d : decode cc pc = .ok (.imul, 1)) (k : qV p l e R s m args below meth c g nL Qf o cb sb (pc + 1) L (qI (x * y) :: st) σ) : qV p l e R s m args below meth c g nL Qf o cb sb pc L (qI y :: qI x :: st) σ :=
  fun r hr ls H locs cells slots h1 h2 h3 h4 h5 => lv_imul C.1 C.2.1 d (k r hr ls H locs cells slots h1 h2 h3 h4 h5)
theorem qv_iand (C : qC p l s m meth c cc nL own g) {x y : Int32} (d : decode cc pc = .ok (.iand, 1)) (k : qV p l e R s m args below meth c g nL Qf o cb sb (pc + 1) L (qI (x &&& y) :: st) σ) : qV p l e R s m args below meth c g nL Qf o cb sb pc L (qI y :: qI x :: st) σ :=
  fun r hr ls H locs cells slots h1 h2 h3 h4 h5 => lv_iand C.1 C.2.1 d (k r hr ls H locs cells slots h1 h2 h3 h4 h5)
theorem qv_ior (C : qC p l s m meth c cc nL own g) {x y : Int32} (d : decode cc pc = .ok (.ior, 1)) (k : qV p l e R s m args below meth c g nL Qf o cb sb (pc + 1) L (qI (x ||| y) :: st) σ) : qV p l e R s m args below meth c g nL Qf o cb sb pc L (qI y :: qI x :: st) σ :=
  fun r hr ls H locs cells slots h1 h2 h3 h4 h5 => lv_ior C.1 C.2.1 d (k r hr ls H locs cells slots h1 h2 h3 h4 h5)
theorem qv_ixor (C : qC p l s m meth c cc nL own g) {x y : Int32} (d : decode cc pc = .ok (.ixor, 1)) (k : qV p l e R s m args below meth c g nL Qf o cb sb (pc + 1) L (qI (x ^^^ y) :: st) σ) : qV p l e R s m args below meth c g nL Qf o cb sb pc L (qI y :: qI x :: st) σ :=
  fun r hr ls H locs cells slots h1 h2 h3 h4 h5 => lv_ixor C.1 C.2.1 d (k r hr ls H locs cells slots h1 h2 h3 h4 h5)
theorem qv_ishl (C : qC p l s m meth c cc nL own g) {x y : Int32} (d : decode cc pc = .ok (.ishl, 1)) (k : qV p l e R s m args below meth c g nL Qf o cb sb (pc + 1) L (qI (x <<< (y &&& 31)) :: st) σ) : qV p l e R s m args below meth c g nL Qf o cb sb pc L (qI y :: qI x :: st) σ :=
  fun r hr ls H locs cells slots h1 h2 h3 h4 h5 => lv_ishl C.1 C.2.1 d (k r hr ls H locs cells slots h1 h2 h3 h4 h5)
theorem qv_ishr (C : qC p l s m meth c cc nL own g) {x y : Int32} (d : decode cc pc = .ok (.ishr, 1)) (k : qV p l e R s m args below meth c g nL Qf o cb sb (pc + 1) L (qI (x >>> (y &&& 31)) :: st) σ) : qV p l e R s m args below meth c g nL Qf o cb sb pc L (qI y :: qI x :: st) σ :=
  fun r hr ls H locs cells slots h1 h2 h3 h4 h5 => lv_ishr C.1 C.2.1 d (k r hr ls H locs cells slots h1 h2 h3 h4 h5)
theorem qv_iushr (C : qC p l s m meth c cc nL own g) {x y : Int32} (d : decode cc pc = .ok (.iushr, 1)) (k : qV p l e R s m args below meth c g nL Qf o cb sb (pc + 1) L (qI ((x.toUInt32 >>> (y.toUInt32 &&& Int32.toUInt32 31)).toInt32) :: st) σ) : qV p l e R s m args below meth c g nL Qf o cb sb pc L (qI y :: qI x :: st) σ :=
  fun r hr ls H locs cells slots h1 h2 h3 h4 h5 => lv_iushr C.1 C.2.1 d rfl (k r hr ls H locs cells slots h1 h2 h3 h4 h5)
theorem qv_ineg (C : qC p l s m meth c cc nL own g) {x : Int32} (d : decode cc pc = .ok (.ineg, 1)) (k : qV p l e R s m args below meth c g nL Qf o cb sb (pc + 1) L (qI (-x) :: st) σ) : qV p l e R s m args below meth c g nL Qf o cb sb pc L (qI x :: st) σ :=
  fun r hr ls H locs cells slots h1 h2 h3 h4 h5 => lv_ineg C.1 C.2.1 d (k r hr ls H locs cells slots h1 h2 h3 h4 h5)
theorem qv_idiv (C : qC p l s m meth c cc nL own g) {x y : Int32} (d : decode cc pc = .ok (.idiv, 1)) (k : ¬ y = 0 → qV p l e R s m args below meth c g nL Qf o cb sb (pc + 1) L (qI (x / y) :: st) σ) : qV p l e R s m args below meth c g nL Qf (if y = 0 then none else o) cb sb pc L (qI y :: qI x :: st) σ := by
  by_cases h : y = 0
  · rw [if_pos h]; exact qV.no
  · rw [if_neg h]
    have k := k h
    exact fun r hr ls H locs cells slots h1 h2 h3 h4 h5 => lv_idiv C.1 C.2.1 d h (k r hr ls H locs cells slots h1 h2 h3 h4 h5)
theorem qv_irem (C : qC p l s m meth c cc nL own g) {x y : Int32} (d : decode cc pc = .ok (.irem, 1)) (k : ¬ y = 0 → qV p l e R s m args below meth c g nL Qf o cb sb (pc + 1) L (qI (x - x / y * y) :: st) σ) : qV p l e R s m args below meth c g nL Qf (if y = 0 then none else o) cb sb pc L (qI y :: qI x :: st) σ := by
  by_cases h : y = 0
  · rw [if_pos h]; exact qV.no
  · rw [if_neg h]
    have k := k h
    exact fun r hr ls H locs cells slots h1 h2 h3 h4 h5 => lv_irem C.1 C.2.1 d h (k r hr ls H locs cells slots h1 h2 h3 h4 h5)
theorem qv_i2l (C : qC p l s m meth c cc nL own g) {x : Int32} (d : decode cc pc = .ok (.i2l, 1)) (k : qV p l e R s m args below meth c g nL Qf o cb sb (pc + 1) L (.inl (.long x.toInt64) :: st) σ) : qV p l e R s m args below meth c g nL Qf o cb sb pc L (qI x :: st) σ :=
  fun r hr ls H locs cells slots h1 h2 h3 h4 h5 => lv_i2l C.1 C.2.1 d rfl (k r hr ls H locs cells slots h1 h2 h3 h4 h5)
theorem qv_i2c (C : qC p l s m meth c cc nL own g) {x : Int32} (d : decode cc pc = .ok (.i2c, 1)) (k : qV p l e R s m args below meth c g nL Qf o cb sb (pc + 1) L (qI ((x.toUInt32 % 65536).toInt32) :: st) σ) : qV p l e R s m args below meth c g nL Qf o cb sb pc L (qI x :: st) σ :=
  fun r hr ls H locs cells slots h1 h2 h3 h4 h5 => lv_i2c C.1 C.2.1 d rfl (k r hr ls H locs cells slots h1 h2 h3 h4 h5)
theorem qv_dup (C : qC p l s m meth c cc nL own g) {v : qA} (d : decode cc pc = .ok (.dup, 1)) (hv : qcat v = 1) (k : qV p l e R s m args below meth c g nL Qf o cb sb (pc + 1) L (v :: v :: st) σ) : qV p l e R s m args below meth c g nL Qf o cb sb pc L (v :: st) σ :=
  fun r hr ls H locs cells slots h1 h2 h3 h4 h5 => lv_dup C.1 C.2.1 d (by rw [qcat_cv]; exact hv) (k r hr ls H locs cells slots h1 h2 h3 h4 h5)
theorem qv_dup2 (C : qC p l s m meth c cc nL own g) {v w : qA} (d : decode cc pc = .ok (.dup2, 1)) (hv : qcat v = 1) (hw : qcat w = 1) (k : qV p l e R s m args below meth c g nL Qf o cb sb (pc + 1) L (v :: w :: v :: w :: st) σ) : qV p l e R s m args below meth c g nL Qf o cb sb pc L (v :: w :: st) σ :=
  fun r hr ls H locs cells slots h1 h2 h3 h4 h5 => lv_dup2_11 C.1 C.2.1 d (by rw [qcat_cv]; exact hv) (by rw [qcat_cv]; exact hw) (k r hr ls H locs cells slots h1 h2 h3 h4 h5)
theorem qv_pop (C : qC p l s m meth c cc nL own g) {v : qA} (d : decode cc pc = .ok (.pop, 1)) (hv : qcat v = 1) (k : qV p l e R s m args below meth c g nL Qf o cb sb (pc + 1) L st σ) : qV p l e R s m args below meth c g nL Qf o cb sb pc L (v :: st) σ :=
  fun r hr ls H locs cells slots h1 h2 h3 h4 h5 => lv_pop C.1 C.2.1 d (by rw [qcat_cv]; exact hv) (k r hr ls H locs cells slots h1 h2 h3 h4 h5)
theorem qv_if_eq (C : qC p l s m meth c cc nL own g) {x : Int32} {off : Int} {tgt : Nat} {o1 o2 : Option qO} (d : decode cc pc = .ok (.ifCond .eq off, 3)) (ht : (pc : Int) + off = (tgt : Int)) (k1 : x = 0 → qV p l e R s m args below meth c g nL Qf o1 cb sb tgt L st σ) (k2 : ¬ (x = 0) → qV p l e R s m args below meth c g nL Qf o2 cb sb (pc + 3) L st σ) : qV p l e R s m args below meth c g nL Qf (if x = 0 then o1 else o2) cb sb pc L (qI x :: st) σ := by
  intro r hr ls H locs cells slots h1 h2 h3 h4 h5
  refine lv_if_eq C.1 C.2.1 d ht (fun h => ?_) (fun h => ?_)
  · rw [if_pos h] at hr; exact k1 h r hr ls H locs cells slots h1 h2 h3 h4 h5
  · rw [if_neg h] at hr; exact k2 h r hr ls H locs cells slots h1 h2 h3 h4 h5
theorem qv_icmp_eq (C : qC p l s m meth c cc nL own g) {x y : Int32} {off : Int} {tgt : Nat} {o1 o2 : Option qO} (d : decode cc pc = .ok (.if_icmp .eq off, 3)) (ht : (pc : Int) + off = (tgt : Int)) (k1 : x = y → qV p l e R s m args below meth c g nL Qf o1 cb sb tgt L st σ) (k2 : ¬ (x = y) → qV p l e R s m args below meth c g nL Qf o2 cb sb (pc + 3) L st σ) : qV p l e R s m args below meth c g nL Qf (if x = y then o1 else o2) cb sb pc L (qI y :: qI x :: st) σ := by
  intro r hr ls H locs cells slots h1 h2 h3 h4 h5
  refine lv_icmp_eq C.1 C.2.1 d ht (fun h => ?_) (fun h => ?_)
  · rw [if_pos h] at hr; exact k1 h r hr ls H locs cells slots h1 h2 h3 h4 h5
  · rw [if_neg h] at hr; exact k2 h r hr ls H locs cells slots h1 h2 h3 h4 h5
theorem qv_if_ne (C : qC p l s m meth c cc nL own g) {x : Int32} {off : Int} {tgt : Nat} {o1 o2 : Option qO} (d : decode cc pc = .ok (.ifCond .ne off, 3)) (ht : (pc : Int) + off = (tgt : Int)) (k1 : x = 0 → qV p l e R s m args below meth c g nL Qf o1 cb sb (pc + 3) L st σ) (k2 : ¬ (x = 0) → qV p l e R s m args below meth c g nL Qf o2 cb sb tgt L st σ) : qV p l e R s m args below meth c g nL Qf (if x = 0 then o1 else o2) cb sb pc L (qI x :: st) σ := by
  intro r hr ls H locs cells slots h1 h2 h3 h4 h5
  refine lv_if_ne C.1 C.2.1 d ht (fun h => ?_) (fun h => ?_)
  · rw [if_neg h] at hr; exact k2 h r hr ls H locs cells slots h1 h2 h3 h4 h5
  · rw [if_pos h] at hr; exact k1 h r hr ls H locs cells slots h1 h2 h3 h4 h5
theorem qv_icmp_ne (C : qC p l s m meth c cc nL own g) {x y : Int32} {off : Int} {tgt : Nat} {o1 o2 : Option qO} (d : decode cc pc = .ok (.if_icmp .ne off, 3)) (ht : (pc : Int) + off = (tgt : Int)) (k1 : x = y → qV p l e R s m args below meth c g nL Qf o1 cb sb (pc + 3) L st σ) (k2 : ¬ (x = y) → qV p l e R s m args below meth c g nL Qf o2 cb sb tgt L st σ) : qV p l e R s m args below meth c g nL Qf (if x = y then o1 else o2) cb sb pc L (qI y :: qI x :: st) σ := by
  intro r hr ls H locs cells slots h1 h2 h3 h4 h5
  refine lv_icmp_ne C.1 C.2.1 d ht (fun h => ?_) (fun h => ?_)
  · rw [if_neg h] at hr; exact k2 h r hr ls H locs cells slots h1 h2 h3 h4 h5
  · rw [if_pos h] at hr; exact k1 h r hr ls H locs cells slots h1 h2 h3 h4 h5
theorem qv_if_lt (C : qC p l s m meth c cc nL own g) {x : Int32} {off : Int} {tgt : Nat} {o1 o2 : Option qO} (d : decode cc pc = .ok (.ifCond .lt off, 3)) (ht : (pc : Int) + off = (tgt : Int)) (k1 : x < 0 → qV p l e R s m args below meth c g nL Qf o1 cb sb tgt L st σ) (k2 : ¬ (x < 0) → qV p l e R s m args below meth c g nL Qf o2 cb sb (pc + 3) L st σ) : qV p l e R s m args below meth c g nL Qf (if x < 0 then o1 else o2) cb sb pc L (qI x :: st) σ := by
  intro r hr ls H locs cells slots h1 h2 h3 h4 h5
  refine lv_if_lt C.1 C.2.1 d ht (fun h => ?_) (fun h => ?_)
  · rw [if_pos h] at hr; exact k1 h r hr ls H locs cells slots h1 h2 h3 h4 h5
  · rw [if_neg h] at hr; exact k2 h r hr ls H locs cells slots h1 h2 h3 h4 h5
theorem qv_icmp_lt (C : qC p l s m meth c cc nL own g) {x y : Int32} {off : Int} {tgt : Nat} {o1 o2 : Option qO} (d : decode cc pc = .ok (.if_icmp .lt off, 3)) (ht : (pc : Int) + off = (tgt : Int)) (k1 : x < y → qV p l e R s m args below meth c g nL Qf o1 cb sb tgt L st σ) (k2 : ¬ (x < y) → qV p l e R s m args below meth c g nL Qf o2 cb sb (pc + 3) L st σ) : qV p l e R s m args below meth c g nL Qf (if x < y then o1 else o2) cb sb pc L (qI y :: qI x :: st) σ := by
  intro r hr ls H locs cells slots h1 h2 h3 h4 h5
  refine lv_icmp_lt C.1 C.2.1 d ht (fun h => ?_) (fun h => ?_)
  · rw [if_pos h] at hr; exact k1 h r hr ls H locs cells slots h1 h2 h3 h4 h5
  · rw [if_neg h] at hr; exact k2 h r hr ls H locs cells slots h1 h2 h3 h4 h5
theorem qv_if_ge (C : qC p l s m meth c cc nL own g) {x : Int32} {off : Int} {tgt : Nat} {o1 o2 : Option qO} (d : decode cc pc = .ok (.ifCond .ge off, 3)) (ht : (pc : Int) + off = (tgt : Int)) (k1 : 0 ≤ x → qV p l e R s m args below meth c g nL Qf o1 cb sb tgt L st σ) (k2 : ¬ (0 ≤ x) → qV p l e R s m args below meth c g nL Qf o2 cb sb (pc + 3) L st σ) : qV p l e R s m args below meth c g nL Qf (if 0 ≤ x then o1 else o2) cb sb pc L (qI x :: st) σ := by
  intro r hr ls H locs cells slots h1 h2 h3 h4 h5
  refine lv_if_ge C.1 C.2.1 d ht (fun h => ?_) (fun h => ?_)
  · rw [if_pos h] at hr; exact k1 h r hr ls H locs cells slots h1 h2 h3 h4 h5
  · rw [if_neg h] at hr; exact k2 h r hr ls H locs cells slots h1 h2 h3 h4 h5
theorem qv_icmp_ge (C : qC p l s m meth c cc nL own g) {x y : Int32} {off : Int} {tgt : Nat} {o1 o2 : Option qO} (d : decode cc pc = .ok (.if_icmp .ge off, 3)) (ht : (pc : Int) + off = (tgt : Int)) (k1 : y ≤ x → qV p l e R s m args below meth c g nL Qf o1 cb sb tgt L st σ) (k2 : ¬ (y ≤ x) → qV p l e R s m args below meth c g nL Qf o2 cb sb (pc + 3) L st σ) : qV p l e R s m args below meth c g nL Qf (if y ≤ x then o1 else o2) cb sb pc L (qI y :: qI x :: st) σ := by
  intro r hr ls H locs cells slots h1 h2 h3 h4 h5
  refine lv_icmp_ge C.1 C.2.1 d ht (fun h => ?_) (fun h => ?_)
  · rw [if_pos h] at hr; exact k1 h r hr ls H locs cells slots h1 h2 h3 h4 h5
  · rw [if_neg h] at hr; exact k2 h r hr ls H locs cells slots h1 h2 h3 h4 h5
theorem qv_if_gt (C : qC p l s m meth c cc nL own g) {x : Int32} {off : Int} {tgt : Nat} {o1 o2 : Option qO} (d : decode cc pc = .ok (.ifCond .gt off, 3)) (ht : (pc : Int) + off = (tgt : Int)) (k1 : 0 < x → qV p l e R s m args below meth c g nL Qf o1 cb sb tgt L st σ) (k2 : ¬ (0 < x) → qV p l e R s m args below meth c g nL Qf o2 cb sb (pc + 3) L st σ) : qV p l e R s m args below meth c g nL Qf (if 0 < x then o1 else o2) cb sb pc L (qI x :: st) σ := by
  intro r hr ls H locs cells slots h1 h2 h3 h4 h5
  refine lv_if_gt C.1 C.2.1 d ht (fun h => ?_) (fun h => ?_)
  · rw [if_pos h] at hr; exact k1 h r hr ls H locs cells slots h1 h2 h3 h4 h5
  · rw [if_neg h] at hr; exact k2 h r hr ls H locs cells slots h1 h2 h3 h4 h5
theorem qv_icmp_gt (C : qC p l s m meth c cc nL own g) {x y : Int32} {off : Int} {tgt : Nat} {o1 o2 : Option qO} (d : decode cc pc = .ok (.if_icmp .gt off, 3)) (ht : (pc : Int) + off = (tgt : Int)) (k1 : y < x → qV p l e R s m args below meth c g nL Qf o1 cb sb tgt L st σ) (k2 : ¬ (y < x) → qV p l e R s m args below meth c g nL Qf o2 cb sb (pc + 3) L st σ) : qV p l e R s m args below meth c g nL Qf (if y < x then o1 else o2) cb sb pc L (qI y :: qI x :: st) σ := by
  intro r hr ls H locs cells slots h1 h2 h3 h4 h5
  refine lv_icmp_gt C.1 C.2.1 d ht (fun h => ?_) (fun h => ?_)
  · rw [if_pos h] at hr; exact k1 h r hr ls H locs cells slots h1 h2 h3 h4 h5
  · rw [if_neg h] at hr; exact k2 h r hr ls H locs cells slots h1 h2 h3 h4 h5
theorem qv_if_le (C : qC p l s m meth c cc nL own g) {x : Int32} {off : Int} {tgt : Nat} {o1 o2 : Option qO} (d : decode cc pc = .ok (.ifCond .le off, 3)) (ht : (pc : Int) + off = (tgt : Int)) (k1 : x ≤ 0 → qV p l e R s m args below meth c g nL Qf o1 cb sb tgt L st σ) (k2 : ¬ (x ≤ 0) → qV p l e R s m args below meth c g nL Qf o2 cb sb (pc + 3) L st σ) : qV p l e R s m args below meth c g nL Qf (if x ≤ 0 then o1 else o2) cb sb pc L (qI x :: st) σ := by
  intro r hr ls H locs cells slots h1 h2 h3 h4 h5
  refine lv_if_le C.1 C.2.1 d ht (fun h => ?_) (fun h => ?_)
  · rw [if_pos h] at hr; exact k1 h r hr ls H locs cells slots h1 h2 h3 h4 h5
  · rw [if_neg h] at hr; exact k2 h r hr ls H locs cells slots h1 h2 h3 h4 h5
theorem qv_icmp_le (C : qC p l s m meth c cc nL own g) {x y : Int32} {off : Int} {tgt : Nat} {o1 o2 : Option qO} (d : decode cc pc = .ok (.if_icmp .le off, 3)) (ht : (pc : Int) + off = (tgt : Int)) (k1 : x ≤ y → qV p l e R s m args below meth c g nL Qf o1 cb sb tgt L st σ) (k2 : ¬ (x ≤ y) → qV p l e R s m args below meth c g nL Qf o2 cb sb (pc + 3) L st σ) : qV p l e R s m args below meth c g nL Qf (if x ≤ y then o1 else o2) cb sb pc L (qI y :: qI x :: st) σ := by
  intro r hr ls H locs cells slots h1 h2 h3 h4 h5
  refine lv_icmp_le C.1 C.2.1 d ht (fun h => ?_) (fun h => ?_)
  · rw [if_pos h] at hr; exact k1 h r hr ls H locs cells slots h1 h2 h3 h4 h5
  · rw [if_neg h] at hr; exact k2 h r hr ls H locs cells slots h1 h2 h3 h4 h5
theorem qv_goto (C : qC p l s m meth c cc nL own g) {off : Int} {tgt : Nat} (d : decode cc pc = .ok (.goto off, 3)) (ht : (pc : Int) + off = (tgt : Int)) (k : qV p l e R s m args below meth c g nL Qf o cb sb tgt L st σ) : qV p l e R s m args below meth c g nL Qf o cb sb pc L st σ :=
  fun r hr ls H locs cells slots h1 h2 h3 h4 h5 => lv_goto C.1 C.2.1 d ht (k r hr ls H locs cells slots h1 h2 h3 h4 h5)
/-- what a method may link: a field by its place in the pool -/
def qFl (own : String) (idx : Nat) (C : String) (T : u_T) (k : Nat) : Prop := Cond.fieldLink own idx (T k).1 (T k).2.1 (T k).2.2.1 ∈ qWA ∨ ∃ host : String, Cond.fieldLinkNest own idx (T k).1 (T k).2.1 (T k).2.2.1 host ∈ qWA
/-- the class of a kind of objects, as the tables lay it -/
def qCl (ci : Nat) (C : String) (T : u_T) (N : Nat) : Prop := qcls[ci]? = some (C, T, N) ∧ (∀ w ∈ u_ws C T N, w ∈ qWA) ∧ (∀ a, a < N → ∀ b, b < N → a ≠ b → (T a).2.1 ≠ (T b).2.1) ∧ ∃ ty : Nat → FieldType, ∀ k, k < N → parseFieldDescriptor (T k).2.2.1 = some (ty k)
theorem qv_getfield_v (C : qC p l s m meth c cc nL own g) {C0 : String} {T : u_T} {N idx kd j f : Nat} {x : qA} {fd : Option (Nat × Nat)} (hsh : qsh kd = 0) (hCl : qCl (qci kd) C0 T N) (hF : qFl own idx C0 T f) (hf : f < N) (hkd : kd < 26) (hj : j < qn kd) (hfd : (qfs kd)[f]? = some fd) (hx : ∀ g : qG, qfv g j (σ kd j) fd f = qcv g x) (d : decode cc pc = .ok (.getfield idx, 3)) (k : qV p l e R s m args below meth c g nL Qf o cb sb (pc + 3) L (x :: st) σ) : qV p l e R s m args below meth c g nL Qf o cb sb pc L (qR kd j :: st) σ := by
  intro r hr ls H locs cells slots h1 h2 h3 h4 h5
  obtain ⟨hx0, hb, hml, hown, hE, -, -⟩ := C
  obtain ⟨q0, -, hq⟩ := qws_at g σ hkd hj
  rw [qent0 hsh] at hq
  have hv := qfl_get g j (σ kd j) (qfs kd) 0 f fd hfd
  rw [Nat.zero_add, hx g] at hv
  have K := k r hr ls H locs cells slots h1 h2 h3 h4 h5
  rcases hF with hF | ⟨host, hF⟩
  · exact va_get hx0 hb (qwords (a := args) hE.1) hCl.2.1 hown hE.1.1 h2.1 q0 hq hCl.1 f hf (qword hE.1 hF) (fun _ h => h) hv d K
  · exact va_getN hx0 hb (qwords (a := args) hE.1) hCl.2.1 hown hE.1.1 h2.1 q0 hq hCl.1 f hf (qword hE.1 hF) (fun _ h => h) hv d K
/-- a field of numbers -/
theorem qv_getI (C : qC p l s m meth c cc nL own g) {C0 : String} {T : u_T} {N idx kd j f : Nat} (hF : qFl own idx C0 T f) (hCl : qCl (qci kd) C0 T N) (hsh : qsh kd = 0) (hf : f < N) (hkd : kd < 26) (hj : j < qn kd) (hfd : (qfs kd)[f]? = some none) (d : decode cc pc = .ok (.getfield idx, 3)) (k : qV p l e R s m args below meth c g nL Qf o cb sb (pc + 3) L (qI (σ kd j f) :: st) σ) : qV p l e R s m args below meth c g nL Qf o cb sb pc L (qR kd j :: st) σ :=
  qv_getfield_v C hsh hCl hF hf hkd hj hfd (fun _ => rfl) d k
/-- a field that names a cell -/
theorem qv_getR (C : qC p l s m meth c cc nL own g) {C0 : String} {T : u_T} {N idx kd j f k2 off j2 : Nat} (hF : qFl own idx C0 T f) (hCl : qCl (qci kd) C0 T N) (hsh : qsh kd = 0) (hf : f < N) (hkd : kd < 26) (hj : j < qn kd) (hfd : (qfs kd)[f]? = some (some (k2, off))) (hj2 : j + off = j2) (d : decode cc pc = .ok (.getfield idx, 3)) (k : qV p l e R s m args below meth c g nL Qf o cb sb (pc + 3) L (qR k2 j2 :: st) σ) : qV p l e R s m args below meth c g nL Qf o cb sb pc L (qR kd j :: st) σ :=
  qv_getfield_v C hsh hCl hF hf hkd hj hfd (fun _ => by subst hj2; rfl) d k
theorem qv_putI (C : qC p l s m meth c cc nL own g) {C0 : String} {T : u_T} {N idx kd j f : Nat} {x : Int32} {ty : FieldType} (hF : qFl own idx C0 T f) (hCl : qCl (qci kd) C0 T N) (hsh : qsh kd = 0) (hf : f < N) (hkd : kd < 26) (hj : j < qn kd) (hfd : (qfs kd)[f]? = some none) (hfin : (T f).2.2.2 = false) (hty : parseFieldDescriptor (T f).2.2.1 = some ty) (hn : narrow ty (.int x) = .int x) (hfit : fits ty (.int x) = true) (d : decode cc pc = .ok (.putfield idx, 3)) (k : qV p l e R s m args below meth c g nL Qf o cb sb (pc + 3) L st (qu σ kd j f x)) : qV p l e R s m args below meth c g nL Qf o cb sb pc L (qI x :: qR kd j :: st) σ := by
  intro r hr ls H locs cells slots h1 h2 h3 h4 h5
  obtain ⟨hx0, hb, hml, hown, hE, -, -⟩ := C
  obtain ⟨q0, hc0, hq⟩ := qws_at g σ hkd hj
  obtain ⟨hcl, hin, hnm, ty0, hty0⟩ := hCl
  have he : (.inr (qci kd, (qfl g j (σ kd j) 0 (qfs kd)).set f (.int x)) : va_E) = qent g kd j (upd (σ kd j) f x) := by
    rw [qent0 hsh, qfl_set g j (σ kd j) x (qfs kd) 0 f hfd, Nat.zero_add]
  have hset := qws_set' h2.2.1 hc0 hq he
  rw [qent0 hsh] at hq
  have hl : f < (qfl g j (σ kd j) 0 (qfs kd)).length := by rw [qfl_len]; exact (List.getElem?_eq_some_iff.mp hfd).1
  have K := fun (H1 : Heap) (locs1 : List Loc) hP1 hD1 hS1 => k r hr ls H1 locs1 cells slots h1 ⟨hP1, hD1, h2.2.2.qu (by omega)⟩ hS1 h4 h5
  rcases hF with hF | ⟨host, hF⟩
  · exact va_put hx0 hb (qwords (a := args) hE.1) hin ty0 hty0 hnm hown hE.1.1 h2.1 h2.2.1 h3 q0 hq hcl f hf (qword hE.1 hF) (fun _ h => h) hfin hty hn hfit hl d (fun H1 locs1 hP1 hD1 hS1 => K H1 locs1 (hset ▸ hP1) (hset ▸ hD1) hS1)
  · exact va_putN hx0 hb (qwords (a := args) hE.1) hin ty0 hty0 hnm hown hE.1.1 h2.1 h2.2.1 h3 q0 hq hcl f hf (qword hE.1 hF) (fun _ h => h) hfin hty hn hfit hl d (fun H1 locs1 hP1 hD1 hS1 => K H1 locs1 (hset ▸ hP1) (hset ▸ hD1) hS1)

end QV
end
section
/-! more rows: arrays, ends, contracts -/
section QA
variable {p : Program} {l : Launch} {e : Env} {R : Room} {s : State} {m : MethodId} {args : Array Value} {below : List Frame} {meth : Method} {c : Code} {g : qG} {nL : Nat} {Qf : qO → State → Prop} {o : Option qO} {cb sb pc : Nat} {L : List (Option qA)} {st : List qA} {σ : qS} {cc : ByteArray} {own : String}
/-- an index within n places -/
abbrev qin (i : Int32) (n : Nat) : Prop := 0 ≤ i.toInt ∧ i.toInt < (n : Int)
theorem qin_vp {i : Int32} {n : Nat} (h : qin i n) : vp_in i n := vp_in_iff.mpr h
theorem qv_alen (C : qC p l s m meth c cc nL own g) {kd j n : Nat} (hsh : qsh kd = 1 ∨ qsh kd = 2 ∨ qsh kd = 3 ∨ qsh kd = 4) (hn : qlen kd = n) (hkd : kd < 26) (hj : j < qn kd) (d : decode cc pc = .ok (.arraylength, 1)) (k : qV p l e R s m args below meth c g nL Qf o cb sb (pc + 1) L (qI (Int32.ofNat n) :: st) σ) : qV p l e R s m args below meth c g nL Qf o cb sb pc L (qR kd j :: st) σ := by
  intro r hr ls H locs cells slots h1 h2 h3 h4 h5
  obtain ⟨hx0, hb, hml, hown, hE, -, -⟩ := C
  obtain ⟨q0, -, hq⟩ := qws_at g σ hkd hj
  have K := k r hr ls H locs cells slots h1 h2 h3 h4 h5
  rcases hsh with h | h | h | h
  · rw [qent1 h] at hq
    exact va_alen hx0 hb hE.1.1 h2.1 q0 0 hq rfl (by rw [← hn]) d K
  · rw [qent2 h] at hq
    exact va_alen hx0 hb hE.1.1 h2.1 q0 1 hq rfl (by rw [← hn]) d K
  · rw [qent3 h] at hq
    exact va_alen hx0 hb hE.1.1 h2.1 q0 2 hq rfl (by rw [← hn]) d K
  · rw [qent4 h] at hq
    exact va_alen hx0 hb hE.1.1 h2.1 q0 3 hq rfl (by rw [← hn]) d K
theorem qv_iald! (C : qC p l s m meth c cc nL own g) {kd j : Nat} {i : Int32} (hsh : qsh kd = 1) (hkd : kd < 26) (hj : j < qn kd) (hin : qin i (qlen kd)) (d : decode cc pc = .ok (.iaload, 1)) (k : qV p l e R s m args below meth c g nL Qf o cb sb (pc + 1) L (qI (σ kd j i.toNatClampNeg) :: st) σ) : qV p l e R s m args below meth c g nL Qf o cb sb pc L (qI i :: qR kd j :: st) σ := by
  intro r hr ls H locs cells slots h1 h2 h3 h4 h5
  obtain ⟨hx0, hb, hml, hown, hE, -, -⟩ := C
  obtain ⟨q0, -, hq⟩ := qws_at g σ hkd hj
  rw [qent1 hsh] at hq
  exact va_iald hx0 hb hE.1.1 h2.1 q0 0 hq rfl (qin_vp hin) d (k r hr ls H locs cells slots h1 h2 h3 h4 h5)
theorem qv_iald (C : qC p l s m meth c cc nL own g) {kd j n : Nat} {i : Int32} (hn : qlen kd = n) (hsh : qsh kd = 1) (hkd : kd < 26) (hj : j < qn kd) (d : decode cc pc = .ok (.iaload, 1)) (k : qin i n → qV p l e R s m args below meth c g nL Qf o cb sb (pc + 1) L (qI (σ kd j i.toNatClampNeg) :: st) σ) : qV p l e R s m args below meth c g nL Qf (if qin i n then o else none) cb sb pc L (qI i :: qR kd j :: st) σ := by
  by_cases h : qin i n
  · rw [if_pos h]; exact qv_iald! C hsh hkd hj (hn ▸ h) d (k h)
  · rw [if_neg h]; exact qV.no
theorem qv_cald! (C : qC p l s m meth c cc nL own g) {kd j : Nat} {i : Int32} (hsh : qsh kd = 2) (hkd : kd < 26) (hj : j < qn kd) (hin : qin i (qlen kd)) (d : decode cc pc = .ok (.caload, 1)) (k : qV p l e R s m args below meth c g nL Qf o cb sb (pc + 1) L (qI (σ kd j i.toNatClampNeg) :: st) σ) : qV p l e R s m args below meth c g nL Qf o cb sb pc L (qI i :: qR kd j :: st) σ := by
  intro r hr ls H locs cells slots h1 h2 h3 h4 h5
  obtain ⟨hx0, hb, hml, hown, hE, -, -⟩ := C
  obtain ⟨q0, -, hq⟩ := qws_at g σ hkd hj
  rw [qent2 hsh] at hq
  exact va_cald hx0 hb hE.1.1 h2.1 q0 1 hq rfl (qin_vp hin) d (k r hr ls H locs cells slots h1 h2 h3 h4 h5)
theorem qv_cald (C : qC p l s m meth c cc nL own g) {kd j n : Nat} {i : Int32} (hn : qlen kd = n) (hsh : qsh kd = 2) (hkd : kd < 26) (hj : j < qn kd) (d : decode cc pc = .ok (.caload, 1)) (k : qin i n → qV p l e R s m args below meth c g nL Qf o cb sb (pc + 1) L (qI (σ kd j i.toNatClampNeg) :: st) σ) : qV p l e R s m args below meth c g nL Qf (if qin i n then o else none) cb sb pc L (qI i :: qR kd j :: st) σ := by
  by_cases h : qin i n
  · rw [if_pos h]; exact qv_cald! C hsh hkd hj (hn ▸ h) d (k h)
  · rw [if_neg h]; exact qV.no
theorem qv_iast! (C : qC p l s m meth c cc nL own g) {kd j : Nat} {i x : Int32} (hsh : qsh kd = 1) (hkd : kd < 26) (hj : j < qn kd) (hin : qin i (qlen kd)) (d : decode cc pc = .ok (.iastore, 1)) (k : qV p l e R s m args below meth c g nL Qf o cb sb (pc + 1) L st (qu σ kd j i.toNatClampNeg x)) : qV p l e R s m args below meth c g nL Qf o cb sb pc L (qI x :: qI i :: qR kd j :: st) σ := by
  intro r hr ls H locs cells slots h1 h2 h3 h4 h5
  obtain ⟨hx0, hb, hml, hown, hE, -, -⟩ := C
  obtain ⟨q0, hc0, hq⟩ := qws_at g σ hkd hj
  have hset := qws_set' (e1 := .inl (g.2.1 0, qlen kd, .inl (upd (σ kd j) i.toNatClampNeg x))) h2.2.1 hc0 hq (by rw [qent1 hsh])
  rw [qent1 hsh] at hq
  exact va_iast hx0 hb hE.1.1 h2.1 h2.2.1 h3 q0 0 hq rfl (qin_vp hin) d (fun H1 locs1 hP1 hD1 hS1 => k r hr ls H1 locs1 cells slots h1 ⟨hset ▸ hP1, hset ▸ hD1, h2.2.2.qu (by omega)⟩ hS1 h4 h5)
theorem qv_iast (C : qC p l s m meth c cc nL own g) {kd j n : Nat} {i x : Int32} (hn : qlen kd = n) (hsh : qsh kd = 1) (hkd : kd < 26) (hj : j < qn kd) (d : decode cc pc = .ok (.iastore, 1)) (k : qin i n → qV p l e R s m args below meth c g nL Qf o cb sb (pc + 1) L st (qu σ kd j i.toNatClampNeg x)) : qV p l e R s m args below meth c g nL Qf (if qin i n then o else none) cb sb pc L (qI x :: qI i :: qR kd j :: st) σ := by
  by_cases h : qin i n
  · rw [if_pos h]; exact qv_iast! C hsh hkd hj (hn ▸ h) d (k h)
  · rw [if_neg h]; exact qV.no
/-- a char; a boolean -/
abbrev qch (x : Int32) : Prop := 0 ≤ x ∧ x ≤ 65535
abbrev qbo (x : Int32) : Prop := x = 0 ∨ x = 1
theorem qch_fits {x : Int32} (h : qch x) : fits .char (.int x) = true := by simp [fits, h.1, h.2]
theorem qch_nar {x : Int32} (h : qch x) : narrow .char (.int x) = .int x := by
  obtain ⟨n, hn, rfl⟩ := nI_of2 (M := 65535) (n := 65535) (by decide) (by intro h2; exact absurd h.1 (by simpa using h2)) h.2
  exact (pk_charN (by omega)).1
theorem qbo_fits {x : Int32} (h : qbo x) : fits .boolean (.int x) = true := by rcases h with rfl | rfl <;> rfl
theorem qbo_nar {x : Int32} (h : qbo x) : narrow .boolean (.int x) = .int x := by rcases h with rfl | rfl <;> rfl
theorem qin_fits (x : Int32) : fits .int (.int x) = true := rfl
theorem qin_nar (x : Int32) : narrow .int (.int x) = .int x := rfl
theorem qv_cast (C : qC p l s m meth c cc nL own g) {kd j n : Nat} {i x : Int32} (hn : qlen kd = n) (hsh : qsh kd = 2) (hkd : kd < 26) (hj : j < qn kd) (d : decode cc pc = .ok (.castore, 1)) (k : qin i n → qch x → qV p l e R s m args below meth c g nL Qf o cb sb (pc + 1) L st (qu σ kd j i.toNatClampNeg x)) : qV p l e R s m args below meth c g nL Qf (if qin i n ∧ qch x then o else none) cb sb pc L (qI x :: qI i :: qR kd j :: st) σ := by
  by_cases h : qin i n ∧ qch x
  · rw [if_pos h]
    intro r hr ls H locs cells slots h1 h2 h3 h4 h5
    obtain ⟨hx0, hb, hml, hown, hE, -, -⟩ := C
    obtain ⟨q0, hc0, hq⟩ := qws_at g σ hkd hj
    have hset := qws_set' (e1 := .inl (g.2.1 1, qlen kd, .inl (upd (σ kd j) i.toNatClampNeg x))) h2.2.1 hc0 hq (by rw [qent2 hsh])
    rw [qent2 hsh] at hq
    have K := fun (H1 : Heap) (locs1 : List Loc) hP1 hD1 hS1 => k h.1 h.2 r hr ls H1 locs1 cells slots h1 ⟨hP1, hD1, h2.2.2.qu (by omega)⟩ hS1 h4 h5
    exact va_cast hx0 hb hE.1.1 h2.1 h2.2.1 h3 q0 1 hq rfl (qin_vp (hn ▸ h.1)) d (fun H1 locs1 hP1 hD1 hS1 => by
      have hz : vp_nar .char x = x := by simp [vp_nar, qch_nar h.2]
      rw [hz] at hP1 hD1
      exact K H1 locs1 (hset ▸ hP1) (hset ▸ hD1) hS1)
  · rw [if_neg h]; exact qV.no
/-- the states' row: the projects from the third on -/
theorem qv_aldS (C : qC p l s m meth c cc nL own g) {i : Int32} (d : decode cc pc = .ok (.aaload, 1)) (k : qin i 8 → qV p l e R s m args below meth c g nL Qf o cb sb (pc + 1) L (qR 1 (3 + i.toNatClampNeg) :: st) σ) : qV p l e R s m args below meth c g nL Qf (if qin i 8 then o else none) cb sb pc L (qI i :: qR 10 0 :: st) σ := by
  by_cases h : qin i 8
  · rw [if_pos h]
    intro r hr ls H locs cells slots h1 h2 h3 h4 h5
    obtain ⟨hx0, hb, hml, hown, hE, -, -⟩ := C
    obtain ⟨q0, hc0, hq⟩ := qws_at g σ (k := 10) (j := 0) (by decide) (by decide)
    rw [qent3 rfl] at hq
    exact va_aldq hx0 hb hE.1.1 h2.1 q0 2 hq rfl (qin_vp h) d (k h r hr ls H locs cells slots h1 h2 h3 h4 h5)
  · rw [if_neg h]; exact qV.no
theorem qv_null (C : qC p l s m meth c cc nL own g) (d : decode cc pc = .ok (.aconst_null, 1)) (k : qV p l e R s m args below meth c g nL Qf o cb sb (pc + 1) L (.inl .null :: st) σ) : qV p l e R s m args below meth c g nL Qf o cb sb pc L st σ :=
  fun r hr ls H locs cells slots h1 h2 h3 h4 h5 => lv_null C.1 C.2.1 d (k r hr ls H locs cells slots h1 h2 h3 h4 h5)
/-- the ends of a method -/
def qQ (g : qG) (r : qO) : Array Value → State → Outcome → State → Prop := fun _ st oc t => (∃ v : Option qA, r.1 = .inl v ∧ oc = .returned (v.map (qcv g)) ∧ qH g r.2 t.heap) ∧ va_F (qAf g) st t
def qX (g : qG) (r : qO) : String → State → State → Prop := fun E st t => (r.1 = .inr E ∧ qH g r.2 t.heap) ∧ va_F (qAf g) st t
def qPc (g : qG) (As : List qA) (σ : qS) : Array Value → State → Prop := va_Pc (As.map (qcv g)) (fun U => qE g U U.heap ∧ qH g σ U.heap)
abbrev qrm (d mc ms : Nat) : Room := { frames := d + 10, cells := mc, slots := ms, locals := 64 * d + 1000 }
/-- THE CONTRACT of a method at a call: whatever outcome o names, that is how it ends -/
def qM (g : qG) (l : Launch) (d mc ms : Nat) (w : Cond) (y : MethodName) (As : List qA) (σ : qS) (o : Option qO) : Prop := ∀ r : qO, o = some r → vx_Met l y [w] (qrm d mc ms) (qPc g As σ) (qQ g r) (qX g r) mc ms (qAf g)
def qQf (g : qG) (below : List Frame) (args : Array Value) (s : State) (R : Room) : qO → State → Prop := fun r => vx_MQ below (qQ g r) (qX g r) args s R.cells R.slots (qAf g)
theorem qret_q {t : State} {H : Heap} {locs : List Loc} {v : Option qA} (h2 : qH g σ H) (h3 : va_S (qAf g) s.heap H locs) (ht : t.heap = H) : qQ g (.inl v, σ) args s (.returned (v.map (qcv g))) t := ⟨⟨v, rfl, rfl, by rw [ht]; exact h2⟩, h3.F ht⟩
theorem qv_iret (C : qC p l s m meth c cc nL own g) (hr : meth.sig.returnType = some .int) {x : Int32} (d : decode cc pc = .ok (.ireturn, 1)) : qV p l e R s m args below meth c g nL (qQf g below args s R) (some (.inl (some (qI x)), σ)) cb sb pc L [qI x] σ := by
  intro r h0 ls H locs cells slots h1 h2 h3 h4 h5
  cases h0
  obtain ⟨hx0, hb, hml, hown, hE, -, hlk⟩ := C
  exact vx_ret (W.widen (by omega) (by omega) (W.iret hx0 hb hr (fun t ht hW => qret_q (v := some (qI x)) h2 h3 ht) h3.2.2 d hlk))
theorem qv_zret! (C : qC p l s m meth c cc nL own g) {ty : FieldType} (hr : meth.sig.returnType = some ty) {x : Int32} (hn : narrow ty (.int x) = .int x) (d : decode cc pc = .ok (.ireturn, 1)) : qV p l e R s m args below meth c g nL (qQf g below args s R) (some (.inl (some (qI x)), σ)) cb sb pc L [qI x] σ := by
  intro r h0 ls H locs cells slots h1 h2 h3 h4 h5
  cases h0
  obtain ⟨hx0, hb, hml, hown, hE, -, hlk⟩ := C
  exact vx_ret (W.widen (by omega) (by omega) (W.zret hx0 hb hr hn (fun t ht hW => qret_q (v := some (qI x)) h2 h3 ht) h3.2.2 d hlk))
theorem qv_bret (C : qC p l s m meth c cc nL own g) (hr : meth.sig.returnType = some .boolean) {x : Int32} (d : decode cc pc = .ok (.ireturn, 1)) : qV p l e R s m args below meth c g nL (qQf g below args s R) (if qbo x then some (.inl (some (qI x)), σ) else none) cb sb pc L [qI x] σ := by
  by_cases h : qbo x
  · rw [if_pos h]; exact qv_zret! C hr (qbo_nar h) d
  · rw [if_neg h]; exact qV.no
theorem qv_cret (C : qC p l s m meth c cc nL own g) (hr : meth.sig.returnType = some .char) {x : Int32} (d : decode cc pc = .ok (.ireturn, 1)) : qV p l e R s m args below meth c g nL (qQf g below args s R) (if qch x then some (.inl (some (qI x)), σ) else none) cb sb pc L [qI x] σ := by
  by_cases h : qch x
  · rw [if_pos h]; exact qv_zret! C hr (qch_nar h) d
  · rw [if_neg h]; exact qV.no
theorem qv_vret (C : qC p l s m meth c cc nL own g) (hr : meth.sig.returnType = none) (d : decode cc pc = .ok (.return_, 1)) : qV p l e R s m args below meth c g nL (qQf g below args s R) (some (.inl none, σ)) cb sb pc L [] σ := by
  intro r h0 ls H locs cells slots h1 h2 h3 h4 h5
  cases h0
  obtain ⟨hx0, hb, hml, hown, hE, -, hlk⟩ := C
  exact vx_ret (W.widen (by omega) (by omega) (W.vret hx0 hb hr (fun t ht hW => qret_q (v := none) h2 h3 ht) h3.2.2 d hlk))
theorem qv_aret (C : qC p l s m meth c cc nL own g) {nm : String} (hr : meth.sig.returnType = some (.object nm)) {v : qA} (hv : v = .inl .null ∨ ∃ a, v = .inr a) (d : decode cc pc = .ok (.areturn, 1)) : qV p l e R s m args below meth c g nL (qQf g below args s R) (some (.inl (some v), σ)) cb sb pc L [v] σ := by
  intro r h0 ls H locs cells slots h1 h2 h3 h4 h5
  cases h0
  obtain ⟨hx0, hb, hml, hown, hE, -, hlk⟩ := C
  refine vx_ret (W.widen (by omega) (by omega) (W.aret (v := qcv g v) hx0 hb hr (Or.inl ⟨_, rfl⟩) ?_ (fun t ht hW => qret_q (v := some v) h2 h3 ht) h3.2.2 d hlk))
  rcases hv with rfl | ⟨a, rfl⟩
  · exact Or.inl rfl
  · exact Or.inr ⟨_, rfl⟩
theorem qv_dret (C : qC p l s m meth c cc nL own g) (hr : meth.sig.returnType = some .double) {x : UInt64} (d : decode cc pc = .ok (.dreturn, 1)) : qV p l e R s m args below meth c g nL (qQf g below args s R) (some (.inl (some (.inl (.double x))), σ)) cb sb pc L [.inl (.double x)] σ := by
  intro r h0 ls H locs cells slots h1 h2 h3 h4 h5
  cases h0
  obtain ⟨hx0, hb, hml, hown, hE, -, hlk⟩ := C
  exact vx_ret (W.widen (by omega) (by omega) (W.dret hx0 hb hr (fun t ht hW => qret_q (v := some (.inl (.double x))) h2 h3 ht) h3.2.2 d hlk))
theorem qv_fret (C : qC p l s m meth c cc nL own g) (hr : meth.sig.returnType = some .float) {x : UInt32} (d : decode cc pc = .ok (.freturn, 1)) : qV p l e R s m args below meth c g nL (qQf g below args s R) (some (.inl (some (.inl (.float x))), σ)) cb sb pc L [.inl (.float x)] σ := by
  intro r h0 ls H locs cells slots h1 h2 h3 h4 h5
  cases h0
  obtain ⟨hx0, hb, hml, hown, hE, -, hlk⟩ := C
  exact vx_ret (W.widen (by omega) (by omega) (W.fret hx0 hb hr (fun t ht hW => qret_q (v := some (.inl (.float x))) h2 h3 ht) h3.2.2 d hlk))
/-- the locals with which a method begins -/
def qL0 (nL : Nat) (As : List qA) : List (Option qA) := As.map some ++ List.replicate (nL - As.length) none
theorem qlv_args (g : qG) : ∀ (As : List qA) (n i : Nat) (v : qA), (∀ a ∈ As, qcat a = 1) → As[i]? = some v → (n + i, qcv g v) ∈ lv_args n (As.map (qcv g))
  | [], _, _, _, _, h => by simp at h
  | a :: t, n, 0, v, _, h => by simp at h; subst h; simp [lv_args]
  | a :: t, n, i + 1, v, hc, h => by
    simp only [List.getElem?_cons_succ] at h
    have h1 := qlv_args g t (n + 1) i v (fun x hx => hc x (List.mem_cons_of_mem _ hx)) h
    have h2 : (qcv g a).category = 1 := by rw [qcat_cv]; exact hc a List.mem_cons_self
    simp only [List.map_cons, lv_args, h2, show ¬ (1 = 2) by decide, if_false]
    rw [show n + 1 + i = n + (i + 1) by omega] at h1
    exact List.mem_cons_of_mem _ h1
theorem qL0_get {nL : Nat} {As : List qA} {i : Nat} {v : qA} (h : (qL0 nL As)[i]? = some (some v)) : As[i]? = some v := by
  unfold qL0 at h
  by_cases hi : i < As.length
  · rw [List.getElem?_append_left (by simpa using hi)] at h
    simpa using h
  · rw [List.getElem?_append_right (by simpa using hi)] at h
    have := List.eq_of_mem_replicate (List.mem_of_getElem? h)
    cases this
theorem qlg_len (g : qG) : ∀ (As : List qA), (∀ a ∈ As, qcat a = 1) → (lg_sl (As.map (qcv g))).length = As.length
  | [], _ => rfl
  | a :: t, h => by
    have h2 : (qcv g a).category = 1 := by rw [qcat_cv]; exact h a List.mem_cons_self
    have h3 := qlg_len g t (fun x hx => h x (List.mem_cons_of_mem _ hx))
    simp only [lg_sl] at h3 ⊢
    simp [h2, h3]
theorem qM_of {d mc ms maxL : Nat} {cc : ByteArray} {y : MethodName} {ret : Option FieldType} {As : List qA} {o : Option qO} (hy : plainName y.cls = true) (hl : l.stackTraces = false) (hc : ∀ a ∈ As, qcat a = 1) (hlen : As.length ≤ maxL)
    (body : ∀ (p : Program) (e : Env) (s : State) (m : MethodId) (args : Array Value) (below : List Frame) (meth : Method) (c : Code), qC p l s m meth c cc maxL y.cls g → meth.sig.returnType = ret → (∀ x ∈ c.exceptionTable.toList, False) → qV p l e (qrm d mc ms) s m args below meth c g maxL (qQf g below args s (qrm d mc ms)) o mc ms 0 (qL0 maxL As) [] σ) :
    qM g l d mc ms (.code y cc maxL ret) y As σ o := by
  intro r hr
  refine vx_ofW (cc := cc) (maxL := maxL) (ret := ret) hy rfl ?_
  intro p e s m args below meth c s₁ B hml ht hv
  obtain ⟨rfl, hE, hH⟩ := hv
  have hC : qC p l s m meth c cc maxL y.cls g := ⟨B.exec, B.bytes, hml, findClass_of_methodNamed B.named, hE, hl, B.notSynchronized⟩
  have K := body p e s m (List.map (qcv g) As).toArray below meth c hC B.returns ht r hr
  rw [lg_entry_eq]
  refine K _ _ [] 0 0 ?_ hH va_S.rf (by simp) (by simp)
  have h0 := lv_entry (As.map (qcv g)) (n := maxL) (by rw [qlg_len g As hc]; exact hlen)
  refine ⟨h0.1, h0.2.1, fun q hq => ?_⟩
  obtain ⟨i, v, e1, e2, e3⟩ := qlc_mem g _ 0 q hq
  have h4 := qlv_args g As 0 i v hc (qL0_get e2)
  have h5 := h0.2.2 _ h4
  rw [e1, e3]
  exact h5
end QA
end
section
/-! calls, throws, catches -/
/-- how a call goes on: by what it answers, or by what it throws -/
def qbind (o1 : Option qO) (kv : Option qA → qS → Option qO) (kE : String → qS → Option qO) : Option qO := match o1 with
  | none => none
  | some (.inl v, σ1) => kv v σ1
  | some (.inr E, σ1) => kE E σ1
def qvI (k : Int32 → qS → Option qO) : Option qA → qS → Option qO := fun v σ => match v with
  | some (.inl (.int x)) => k x σ
  | _ => none
def qvD (k : UInt64 → qS → Option qO) : Option qA → qS → Option qO := fun v σ => match v with
  | some (.inl (.double x)) => k x σ
  | _ => none
def qvF (k : UInt32 → qS → Option qO) : Option qA → qS → Option qO := fun v σ => match v with
  | some (.inl (.float x)) => k x σ
  | _ => none
def qvV (k : qS → Option qO) : Option qA → qS → Option qO := fun v σ => match v with
  | none => k σ
  | _ => none
/-- a reference of kind K -/
def qvR (K : Nat) (k : Nat → qS → Option qO) : Option qA → qS → Option qO := fun v σ => match v with
  | some (.inr q) => if q.1 = K ∧ q.2 < qn K then k q.2 σ else none
  | _ => none
/-- null, or a reference of kind K, with n of them -/
def qvN (K n : Nat) (kn : qS → Option qO) (k : Nat → qS → Option qO) : Option qA → qS → Option qO := fun v σ => match v with
  | some (.inr q) => if q.1 = K ∧ q.2 < n then k q.2 σ else none
  | some (.inl .null) => kn σ
  | _ => none
def qE0 : String → qS → Option qO := fun _ _ => none
def qE1 : String → qS → Option qO := fun E σ => some (.inr E, σ)
abbrev qcI (o1 : Option qO) (k : Int32 → qS → Option qO) : Option qO := qbind o1 (qvI k) qE0
abbrev qcV (o1 : Option qO) (k : qS → Option qO) : Option qO := qbind o1 (qvV k) qE0
abbrev qcR (K : Nat) (o1 : Option qO) (k : Nat → qS → Option qO) : Option qO := qbind o1 (qvR K k) qE0
abbrev qcD (o1 : Option qO) (k : UInt64 → qS → Option qO) : Option qO := qbind o1 (qvD k) qE0
abbrev qcF (o1 : Option qO) (k : UInt32 → qS → Option qO) : Option qO := qbind o1 (qvF k) qE0
abbrev qtI (o1 : Option qO) (k : Int32 → qS → Option qO) : Option qO := qbind o1 (qvI k) qE1
abbrev qtV (o1 : Option qO) (k : qS → Option qO) : Option qO := qbind o1 (qvV k) qE1
section QB
variable {p : Program} {l : Launch} {e : Env} {R : Room} {s : State} {m : MethodId} {args : Array Value} {below : List Frame} {meth : Method} {c : Code} {g : qG} {nL : Nat} {Qf : qO → State → Prop} {o : Option qO} {cb sb pc : Nat} {L : List (Option qA)} {st : List qA} {σ : qS} {cc : ByteArray} {own : String}
theorem qv_core {H : Heap} {locs : List Loc} {cells slots mc ms : Nat} {Q : State → Prop} {ls : Array Slot} {st0 rest : List Value} {r1 : qO} {a : Array Value} (hr : vx_Run p l e R s m args below meth c H locs cells slots mc ms (F0 m pc ls st0) rest (qQ g r1 a) (qX g r1) (qAf g)) (hS : va_S (qAf g) s.heap H locs)
    (kv : ∀ v : Option qA, r1.1 = .inl v → ∀ (H1 : Heap) (locs1 : List Loc), qH g r1.2 H1 → va_S (qAf g) s.heap H1 locs1 → W p l e R s m args below meth c H1 locs1 (cells + mc) (slots + ms) Q (F0 m (pc + 3) ls ((v.map (qcv g)).toList ++ rest)))
    (kx : ∀ E : String, r1.1 = .inr E → ∀ (ce : Cell) (q9 : Addr) (H1 : Heap) (locs1 : List Loc), qH g r1.2 H1 → va_S (qAf g) s.heap H1 locs1 → H1[q9]? = some ce → ce.vm = .none → s.vm.findClass E = some ce.cls → vx_W p l e R s m args below meth c H1 locs1 (cells + mc) (slots + ms) Q (F0 m pc ls rest) q9) :
    W p l e R s m args below meth c H locs cells slots Q (F0 m pc ls st0) := by
  intro T hT X
  rcases hr T hT X with ⟨v, st₀, t, T', L', h0, X', hL, e1, e2, ⟨⟨v2, hv, hv2, hb⟩, hF⟩, st⟩ | ⟨q, st₀, t, T', L', E, ce, h0, X', hL, e1, e2, ⟨⟨hv, hb⟩, hF⟩, hce, hcv, hcl, st⟩
  · cases hv2
    obtain ⟨k1, k2, k3⟩ := vx_keep h0 e1 hS (fun q _ h => h) (fun q h => h) hL hF
    obtain ⟨t2, a1, b1⟩ := kv v2 hv T'.heap (locs ++ L') (by rw [e1]; exact hb) k3 T' rfl X'
    exact ⟨t2, st t2 a1, b1⟩
  · obtain ⟨k1, k2, k3⟩ := vx_keep h0 e1 hS (fun q _ h => h) (fun q h => h) hL hF
    obtain ⟨t2, a1, b1⟩ := kx E hv ce q T'.heap (locs ++ L') (by rw [e1]; exact hb) k3 (by rw [e1]; exact hce) hcv hcl T' rfl X'
    exact ⟨t2, st.trans a1, b1⟩
theorem qPc_blind {As : List qA} : FrameBlind (qPc g As σ) := fun a U g0 mk h => ⟨h.1, h.2.1.blind, h.2.2⟩
/-- the words that a callee's contract wants of its caller -/
theorem qword1 {w : Cond} (h : qKt g s) (hw : w ∈ qWA) : ∀ w' ∈ [w], ∀ (a' : Array Value) (U : State), s.WarmedH U.vm → w'.before a' U = true := by
  intro w' hw' a' U hW
  rw [List.mem_singleton.mp hw']
  exact qok_warm (List.mem_filter.mp hw).2 hW (h.2.1 w hw)
/-- a method that may be called: its code, its class -/
def qMw (y : MethodName) (b : ByteArray) (mL n : Nat) (ret : Option FieldType) : Prop :=
  Cond.code y b mL ret ∈ qWA ∧ Cond.initialized y.cls ∈ qWA ∧ (y.cls ≠ "java/lang/invoke/MethodHandle" ∧ y.cls ≠ "java/lang/invoke/VarHandle") ∧ (parseMethodDescriptor y.desc).map (fun d => d.parameters.length) = some n
theorem qCallB {idx mL n d mc ms : Nat} {y : MethodName} {b : ByteArray} {ret : Option FieldType} (h : qKt g s) (hw : qMw y b mL n ret) (hl : Cond.methodLink own idx y ∈ qWA) (hR : d + 11 ≤ R.frames ∧ 8 + (mL + 11) + (64 * d + 1000) ≤ R.locals) :
    CallB R s args own idx y b mL ret [.code y b mL ret] (qrm d mc ms) mc ms n := by
  obtain ⟨h1, h2, h3, h4⟩ := hw
  refine ⟨rfl, rfl, by show d + 10 + 1 ≤ _; omega, hR.2, qword1 h h1, List.mem_singleton.mpr rfl, qword h h1, qword h h2, h3, fun sig hs => ?_, qword h hl⟩
  rw [hs] at h4
  exact (Option.some.inj h4).symm
theorem qcat_sum (g : qG) (rest : List qA) : ((rest.map (qcv g)).map fun v => v.category).sum = (rest.map qcat).sum := by
  rw [List.map_map]
  congr 1
  exact List.map_congr_left fun v _ => qcat_cv g v
theorem qroom {ls : Array Slot} {st0 : List Value} {rest : List qA} (h : (rest.map qcat).sum ≤ 8) : 2 * (F0 m pc ls st0).monitorRoom + ((rest.map (qcv g)).map fun v => v.category).sum ≤ 8 := lv_room (by rw [qcat_sum]; exact h)
/-- a static call within the class -/
theorem qrunS (C : qC p l s m meth c cc nL own g) {idx mL n d mc ms cells slots : Nat} {y : MethodName} {b : ByteArray} {ret : Option FieldType} {As rest : List qA} {o1 : Option qO} {r1 : qO} {ls : Array Slot} {H : Heap} {locs : List Loc} (hM : qM g l d mc ms (.code y b mL ret) y As σ o1) (hr1 : o1 = some r1) (hw : qMw y b mL n ret) (hl : Cond.methodLink own idx y ∈ qWA) (hst : Cond.static y ∈ qWA) (hn : As.length = n) (hrest : (rest.map qcat).sum ≤ 8) (hR : d + 11 ≤ R.frames ∧ 8 + (mL + 11) + (64 * d + 1000) ≤ R.locals)
    (dd : decode cc pc = .ok (.invokestatic idx, 3)) (h1 : qLs g ls nL L) (h2 : qH g σ H) (h3 : va_S (qAf g) s.heap H locs) (h4 : cells + mc ≤ R.cells) (h5 : slots + ms ≤ R.slots) :
    vx_Run p l e R s m args below meth c H locs cells slots mc ms (F0 m pc ls ((As.reverse ++ rest).map (qcv g))) (rest.map (qcv g)) (qQ g r1 (As.map (qcv g)).toArray) (qX g r1) (qAf g) := by
  obtain ⟨hx0, hb, hml, hown, hE, -, -⟩ := C
  exact vx_runS (As := As.map (qcv g)) (rest := rest.map (qcv g)) ⟨hx0, hb, hml, hown, qwords (a := args) hE.1⟩ (hM r1 hr1) ⟨qCallB hE.1 hw hl hR, qword hE.1 hst⟩ ⟨qPc_blind, fun U hU hW => ⟨rfl, hE.go hW h3 hU, by rw [hU]; exact h2⟩⟩ rfl (by rw [List.length_map]; exact hn) h1.1 (by rw [List.map_append, List.map_reverse]) (qroom hrest) dd ⟨h4, h5⟩
/-- an object's cell, for its calls -/
theorem qcell (h : qKt g s) {H : Heap} {kd j N : Nat} {C0 : String} {T : u_T} (h2 : qH g σ H) (hsh : qsh kd = 0) (hkd : kd < 26) (hj : j < qn kd) (hc : qcls[qci kd]? = some (C0, T, N)) : ∃ cellB : Cell, H[g.2.2.1 kd j]? = some cellB ∧ cellB.vm.isStatics = false ∧ s.vm.findClass C0 = some cellB.cls := by
  obtain ⟨q0, -, hq⟩ := qws_at g σ hkd hj
  rw [qent0 hsh] at hq
  exact va_recv h.1 h2.1 hc hq
theorem qrunV (C : qC p l s m meth c cc nL own g) {idx mL n d mc ms cells slots kd j N : Nat} {C0 : String} {T : u_T} {y : MethodName} {b : ByteArray} {ret : Option FieldType} {As rest : List qA} {o1 : Option qO} {r1 : qO} {ls : Array Slot} {H : Heap} {locs : List Loc} (hM : qM g l d mc ms (.code y b mL ret) y (qR kd j :: As) σ o1) (hr1 : o1 = some r1) (hw : qMw y b mL n ret) (hl : Cond.methodLink own idx y ∈ qWA) (hin : Cond.instanceMethod y ∈ qWA) (hse : Cond.selects C0 y y ∈ qWA) (hsh : qsh kd = 0) (hkd : kd < 26) (hj : j < qn kd) (hc : qcls[qci kd]? = some (C0, T, N)) (hn : As.length = n) (hrest : (rest.map qcat).sum ≤ 8) (hR : d + 11 ≤ R.frames ∧ 8 + (mL + 11) + (64 * d + 1000) ≤ R.locals)
    (dd : decode cc pc = .ok (.invokevirtual idx, 3)) (h1 : qLs g ls nL L) (h2 : qH g σ H) (h3 : va_S (qAf g) s.heap H locs) (h4 : cells + mc ≤ R.cells) (h5 : slots + ms ≤ R.slots) :
    vx_Run p l e R s m args below meth c H locs cells slots mc ms (F0 m pc ls ((As.reverse ++ qR kd j :: rest).map (qcv g))) (rest.map (qcv g)) (qQ g r1 ((qR kd j :: As).map (qcv g)).toArray) (qX g r1) (qAf g) := by
  obtain ⟨hx0, hb, hml, hown, hE, -, -⟩ := C
  exact vx_runV (C := C0) (b := g.2.2.1 kd j) (As := As.map (qcv g)) (rest := rest.map (qcv g)) ⟨hx0, hb, hml, hown, qwords (a := args) hE.1⟩ (hM r1 hr1) ⟨qCallB hE.1 hw hl hR, qword hE.1 hin, qword hE.1 hse⟩ ⟨qPc_blind, qcell hE.1 h2 hsh hkd hj hc, fun U hU hW => ⟨rfl, hE.go hW h3 hU, by rw [hU]; exact h2⟩⟩ rfl (by rw [List.length_map]; exact hn) h1.1 (by simp [qcv]) (qroom hrest) dd ⟨h4, h5⟩
/-- a contract whose outcome is an answer, as one that never throws -/
theorem qM_met {d mc ms : Nat} {w : Cond} {y : MethodName} {As : List qA} {o1 : Option qO} {v : Option qA} {σ1 : qS} (hM : qM g l d mc ms w y As σ o1) (hr : o1 = some (.inl v, σ1)) : Met l y [w] (qrm d mc ms) (qPc g As σ) (qQ g (.inl v, σ1)) mc ms (qAf g) :=
  (hM _ hr).mono (fun _ _ h => h) (fun _ _ _ _ _ h => h) (fun a st oc t _ h => by
    rcases h with h | ⟨q, -, E, ce, L, ⟨⟨h, -⟩, -⟩, -⟩
    · exact h
    · cases h)
theorem qCN {idx mL n d mc ms : Nat} {y : MethodName} {b : ByteArray} {ret : Option FieldType} {host : String} (h : qKt g s) (hw : qMw y b mL n ret) (hl : Cond.methodLinkNest own idx y host ∈ qWA) (hR : d + 11 ≤ R.frames ∧ 8 + (mL + 11) + (64 * d + 1000) ≤ R.locals) :
    va_CN R s args own idx y host b mL ret [.code y b mL ret] (qrm d mc ms) mc ms n := by
  obtain ⟨h1, h2, h3, h4⟩ := hw
  refine ⟨⟨rfl, rfl, by show d + 10 + 1 ≤ _; omega, hR.2, qword1 h h1, List.mem_singleton.mpr rfl⟩, qword h h1, qword h h2, h3, fun sig hs => ?_, qword h hl⟩
  rw [hs] at h4
  exact (Option.some.inj h4).symm
/-- of a run that only returns, one that may throw -/
theorem qrun_of {H : Heap} {locs : List Loc} {cells slots mc ms : Nat} {g0 : JFrame} {rest : List Value} {Qa : State → Outcome → State → Prop} {XC : String → State → State → Prop} {free : Addr → Prop} (h : va_Run p l e R s m args below meth c H locs cells slots mc ms g0 rest Qa free) : vx_Run p l e R s m args below meth c H locs cells slots mc ms g0 rest Qa XC free := fun T hT X => Or.inl (h T hT X)
theorem qrunSN (C : qC p l s m meth c cc nL own g) {idx mL n d mc ms cells slots : Nat} {y : MethodName} {b : ByteArray} {ret : Option FieldType} {host : String} {As rest : List qA} {o1 : Option qO} {v : Option qA} {σ1 : qS} {ls : Array Slot} {H : Heap} {locs : List Loc} (hM : qM g l d mc ms (.code y b mL ret) y As σ o1) (hr1 : o1 = some (.inl v, σ1)) (hw : qMw y b mL n ret) (hl : Cond.methodLinkNest own idx y host ∈ qWA) (hst : Cond.static y ∈ qWA) (hn : As.length = n) (hrest : (rest.map qcat).sum ≤ 8) (hR : d + 11 ≤ R.frames ∧ 8 + (mL + 11) + (64 * d + 1000) ≤ R.locals)
    (dd : decode cc pc = .ok (.invokestatic idx, 3)) (h1 : qLs g ls nL L) (h2 : qH g σ H) (h3 : va_S (qAf g) s.heap H locs) (h4 : cells + mc ≤ R.cells) (h5 : slots + ms ≤ R.slots) :
    vx_Run p l e R s m args below meth c H locs cells slots mc ms (F0 m pc ls ((As.reverse ++ rest).map (qcv g))) (rest.map (qcv g)) (qQ g (.inl v, σ1) (As.map (qcv g)).toArray) (qX g (.inl v, σ1)) (qAf g) := by
  obtain ⟨hx0, hb, hml, hown, hE, -, -⟩ := C
  exact qrun_of (va_runSN (As := As.map (qcv g)) (rest := rest.map (qcv g)) ⟨hx0, hb, hml, hown, qwords (a := args) hE.1⟩ (qM_met hM hr1) ⟨qCN hE.1 hw hl hR, qword hE.1 hst, trivial⟩ ⟨qPc_blind, fun U hU hW => ⟨rfl, hE.go hW h3 hU, by rw [hU]; exact h2⟩⟩ rfl (by rw [List.length_map]; exact hn) h1.1 (by rw [List.map_append, List.map_reverse]) (qroom hrest) dd ⟨h4, h5⟩)
theorem qrunVN (C : qC p l s m meth c cc nL own g) {idx mL n d mc ms cells slots kd j N : Nat} {C0 : String} {T : u_T} {y : MethodName} {b : ByteArray} {ret : Option FieldType} {host : String} {As rest : List qA} {o1 : Option qO} {v : Option qA} {σ1 : qS} {ls : Array Slot} {H : Heap} {locs : List Loc} (hM : qM g l d mc ms (.code y b mL ret) y (qR kd j :: As) σ o1) (hr1 : o1 = some (.inl v, σ1)) (hw : qMw y b mL n ret) (hl : Cond.methodLinkNest own idx y host ∈ qWA) (hin : Cond.instanceMethod y ∈ qWA) (hse : Cond.selects C0 y y ∈ qWA) (hsh : qsh kd = 0) (hkd : kd < 26) (hj : j < qn kd) (hc : qcls[qci kd]? = some (C0, T, N)) (hn : As.length = n) (hrest : (rest.map qcat).sum ≤ 8) (hR : d + 11 ≤ R.frames ∧ 8 + (mL + 11) + (64 * d + 1000) ≤ R.locals)
    (dd : decode cc pc = .ok (.invokevirtual idx, 3)) (h1 : qLs g ls nL L) (h2 : qH g σ H) (h3 : va_S (qAf g) s.heap H locs) (h4 : cells + mc ≤ R.cells) (h5 : slots + ms ≤ R.slots) :
    vx_Run p l e R s m args below meth c H locs cells slots mc ms (F0 m pc ls ((As.reverse ++ qR kd j :: rest).map (qcv g))) (rest.map (qcv g)) (qQ g (.inl v, σ1) ((qR kd j :: As).map (qcv g)).toArray) (qX g (.inl v, σ1)) (qAf g) := by
  obtain ⟨hx0, hb, hml, hown, hE, -, -⟩ := C
  exact qrun_of (va_runVN (C := C0) (b := g.2.2.1 kd j) (As := As.map (qcv g)) (rest := rest.map (qcv g)) ⟨hx0, hb, hml, hown, qwords (a := args) hE.1⟩ (qM_met hM hr1) ⟨qCN hE.1 hw hl hR, qword hE.1 hin, qword hE.1 hse⟩ ⟨qPc_blind, qcell hE.1 h2 hsh hkd hj hc, fun U hU hW => ⟨rfl, hE.go hW h3 hU, by rw [hU]; exact h2⟩⟩ rfl (by rw [List.length_map]; exact hn) h1.1 (by simp [qcv]) (qroom hrest) dd ⟨h4, h5⟩)
theorem qv_map (v : Option qA) (rest : List qA) : (v.map (qcv g)).toList ++ rest.map (qcv g) = (v.toList ++ rest).map (qcv g) := by cases v <;> rfl
theorem qkI {k : Int32 → qS → Option qO} {rest : List qA} (h : ∀ (x : Int32) (σ1 : qS), qV p l e R s m args below meth c g nL Qf (k x σ1) cb sb pc L (qI x :: rest) σ1) : ∀ (v : Option qA) (σ1 : qS), qV p l e R s m args below meth c g nL Qf (qvI k v σ1) cb sb pc L (v.toList ++ rest) σ1
  | some (.inl (.int x)), σ1 => h x σ1
  | none, _ | some (.inl (.long _)), _ | some (.inl (.float _)), _ | some (.inl (.double _)), _ | some (.inl .null), _ | some (.inl (.ref _)), _ | some (.inl (.retAddr _)), _ | some (.inr _), _ => qV.no
theorem qkD {k : UInt64 → qS → Option qO} {rest : List qA} (h : ∀ (x : UInt64) (σ1 : qS), qV p l e R s m args below meth c g nL Qf (k x σ1) cb sb pc L (.inl (.double x) :: rest) σ1) : ∀ (v : Option qA) (σ1 : qS), qV p l e R s m args below meth c g nL Qf (qvD k v σ1) cb sb pc L (v.toList ++ rest) σ1
  | some (.inl (.double x)), σ1 => h x σ1
  | none, _ | some (.inl (.long _)), _ | some (.inl (.float _)), _ | some (.inl (.int _)), _ | some (.inl .null), _ | some (.inl (.ref _)), _ | some (.inl (.retAddr _)), _ | some (.inr _), _ => qV.no
theorem qkF {k : UInt32 → qS → Option qO} {rest : List qA} (h : ∀ (x : UInt32) (σ1 : qS), qV p l e R s m args below meth c g nL Qf (k x σ1) cb sb pc L (.inl (.float x) :: rest) σ1) : ∀ (v : Option qA) (σ1 : qS), qV p l e R s m args below meth c g nL Qf (qvF k v σ1) cb sb pc L (v.toList ++ rest) σ1
  | some (.inl (.float x)), σ1 => h x σ1
  | none, _ | some (.inl (.long _)), _ | some (.inl (.double _)), _ | some (.inl (.int _)), _ | some (.inl .null), _ | some (.inl (.ref _)), _ | some (.inl (.retAddr _)), _ | some (.inr _), _ => qV.no
theorem qkV {k : qS → Option qO} {rest : List qA} (h : ∀ (σ1 : qS), qV p l e R s m args below meth c g nL Qf (k σ1) cb sb pc L rest σ1) : ∀ (v : Option qA) (σ1 : qS), qV p l e R s m args below meth c g nL Qf (qvV k v σ1) cb sb pc L (v.toList ++ rest) σ1
  | none, σ1 => h σ1
  | some _, _ => qV.no
theorem qkR {K : Nat} {k : Nat → qS → Option qO} {rest : List qA} (h : ∀ (j : Nat), j < qn K → ∀ σ1 : qS, qV p l e R s m args below meth c g nL Qf (k j σ1) cb sb pc L (qR K j :: rest) σ1) : ∀ (v : Option qA) (σ1 : qS), qV p l e R s m args below meth c g nL Qf (qvR K k v σ1) cb sb pc L (v.toList ++ rest) σ1
  | some (.inr (K', j)), σ1 => by
    show qV p l e R s m args below meth c g nL Qf (if K' = K ∧ j < qn K then k j σ1 else none) cb sb pc L (qR K' j :: rest) σ1
    by_cases h1 : K' = K ∧ j < qn K
    · rw [if_pos h1]; obtain ⟨rfl, h2⟩ := h1; exact h j h2 σ1
    · rw [if_neg h1]; exact qV.no
  | none, _ | some (.inl _), _ => qV.no
theorem qkN {K n : Nat} {kn : qS → Option qO} {k : Nat → qS → Option qO} {rest : List qA} (hn : ∀ σ1 : qS, qV p l e R s m args below meth c g nL Qf (kn σ1) cb sb pc L (.inl .null :: rest) σ1) (h : ∀ (j : Nat), j < n → ∀ σ1 : qS, qV p l e R s m args below meth c g nL Qf (k j σ1) cb sb pc L (qR K j :: rest) σ1) : ∀ (v : Option qA) (σ1 : qS), qV p l e R s m args below meth c g nL Qf (qvN K n kn k v σ1) cb sb pc L (v.toList ++ rest) σ1
  | some (.inr (K', j)), σ1 => by
    show qV p l e R s m args below meth c g nL Qf (if K' = K ∧ j < n then k j σ1 else none) cb sb pc L (qR K' j :: rest) σ1
    by_cases h1 : K' = K ∧ j < n
    · rw [if_pos h1]; obtain ⟨rfl, h2⟩ := h1; exact h j h2 σ1
    · rw [if_neg h1]; exact qV.no
  | some (.inl .null), σ1 => hn σ1
  | none, _ | some (.inl (.long _)), _ | some (.inl (.float _)), _ | some (.inl (.double _)), _ | some (.inl (.int _)), _ | some (.inl (.ref _)), _ | some (.inl (.retAddr _)), _ => qV.no
/-- a call that is to answer -/
theorem qv_callS (C : qC p l s m meth c cc nL own g) {idx mL n d mc ms : Nat} {y : MethodName} {b : ByteArray} {ret : Option FieldType} {As rest : List qA} {o1 : Option qO} {kv : Option qA → qS → Option qO} (hM : qM g l d mc ms (.code y b mL ret) y As σ o1) (hw : qMw y b mL n ret) (hl : Cond.methodLink own idx y ∈ qWA) (hstt : Cond.static y ∈ qWA) (hn : As.length = n) (hrest : (rest.map qcat).sum ≤ 8) (hR : d + 11 ≤ R.frames ∧ 8 + (mL + 11) + (64 * d + 1000) ≤ R.locals) (dd : decode cc pc = .ok (.invokestatic idx, 3)) (hst : st = As.reverse ++ rest) (k : ∀ (v : Option qA) (σ1 : qS), qV p l e R s m args below meth c g nL Qf (kv v σ1) cb sb (pc + 3) L (v.toList ++ rest) σ1) : qV p l e R s m args below meth c g nL Qf (qbind o1 kv qE0) (mc + cb) (ms + sb) pc L st σ := by
  subst hst
  intro r hr ls H locs cells slots h1 h2 h3 h4 h5
  match o1, hM, hr with
  | none, _, hr => cases hr
  | some (.inr E, σ1), _, hr => cases hr
  | some (.inl v, σ1), hM, hr =>
    refine qv_core (qrunS C hM rfl hw hl hstt hn hrest hR dd h1 h2 h3 (by omega) (by omega)) h3 (fun v2 hv2 H1 locs1 hb1 hS1 => ?_) (fun E hE2 => ?_)
    · cases hv2
      rw [qv_map]
      exact k v σ1 r hr ls H1 locs1 _ _ h1 hb1 hS1 (by omega) (by omega)
    · cases hE2
/-- a call that is to answer -/
theorem qv_callSN (C : qC p l s m meth c cc nL own g) {idx mL n d mc ms : Nat} {y : MethodName} {b : ByteArray} {ret : Option FieldType} {As rest : List qA} {o1 : Option qO} {kv : Option qA → qS → Option qO} (hM : qM g l d mc ms (.code y b mL ret) y As σ o1) (hw : qMw y b mL n ret) (hl : ∃ host : String, Cond.methodLinkNest own idx y host ∈ qWA) (hstt : Cond.static y ∈ qWA) (hn : As.length = n) (hrest : (rest.map qcat).sum ≤ 8) (hR : d + 11 ≤ R.frames ∧ 8 + (mL + 11) + (64 * d + 1000) ≤ R.locals) (dd : decode cc pc = .ok (.invokestatic idx, 3)) (hst : st = As.reverse ++ rest) (k : ∀ (v : Option qA) (σ1 : qS), qV p l e R s m args below meth c g nL Qf (kv v σ1) cb sb (pc + 3) L (v.toList ++ rest) σ1) : qV p l e R s m args below meth c g nL Qf (qbind o1 kv qE0) (mc + cb) (ms + sb) pc L st σ := by
  subst hst
  obtain ⟨host, hlh⟩ := hl
  intro r hr ls H locs cells slots h1 h2 h3 h4 h5
  match o1, hM, hr with
  | none, _, hr => cases hr
  | some (.inr E, σ1), _, hr => cases hr
  | some (.inl v, σ1), hM, hr =>
    refine qv_core (qrunSN C hM rfl hw hlh hstt hn hrest hR dd h1 h2 h3 (by omega) (by omega)) h3 (fun v2 hv2 H1 locs1 hb1 hS1 => ?_) (fun E hE2 => ?_)
    · cases hv2
      rw [qv_map]
      exact k v σ1 r hr ls H1 locs1 _ _ h1 hb1 hS1 (by omega) (by omega)
    · cases hE2
/-- a call that is to answer -/
theorem qv_callV (C : qC p l s m meth c cc nL own g) {idx mL n d mc ms kd j N : Nat} {C0 : String} {T : u_T} {y : MethodName} {b : ByteArray} {ret : Option FieldType} {As rest : List qA} {o1 : Option qO} {kv : Option qA → qS → Option qO} (hM : qM g l d mc ms (.code y b mL ret) y (qR kd j :: As) σ o1) (hw : qMw y b mL n ret) (hl : Cond.methodLink own idx y ∈ qWA) (hin : Cond.instanceMethod y ∈ qWA) (hse : Cond.selects C0 y y ∈ qWA) (hsh : qsh kd = 0) (hkd : kd < 26) (hj : j < qn kd) (hc : qcls[qci kd]? = some (C0, T, N)) (hn : As.length = n) (hrest : (rest.map qcat).sum ≤ 8) (hR : d + 11 ≤ R.frames ∧ 8 + (mL + 11) + (64 * d + 1000) ≤ R.locals) (dd : decode cc pc = .ok (.invokevirtual idx, 3)) (hst : st = As.reverse ++ qR kd j :: rest) (k : ∀ (v : Option qA) (σ1 : qS), qV p l e R s m args below meth c g nL Qf (kv v σ1) cb sb (pc + 3) L (v.toList ++ rest) σ1) : qV p l e R s m args below meth c g nL Qf (qbind o1 kv qE0) (mc + cb) (ms + sb) pc L st σ := by
  subst hst
  intro r hr ls H locs cells slots h1 h2 h3 h4 h5
  match o1, hM, hr with
  | none, _, hr => cases hr
  | some (.inr E, σ1), _, hr => cases hr
  | some (.inl v, σ1), hM, hr =>
    refine qv_core (qrunV C hM rfl hw hl hin hse hsh hkd hj hc hn hrest hR dd h1 h2 h3 (by omega) (by omega)) h3 (fun v2 hv2 H1 locs1 hb1 hS1 => ?_) (fun E hE2 => ?_)
    · cases hv2
      rw [qv_map]
      exact k v σ1 r hr ls H1 locs1 _ _ h1 hb1 hS1 (by omega) (by omega)
    · cases hE2
/-- a call that is to answer -/
theorem qv_callVN (C : qC p l s m meth c cc nL own g) {idx mL n d mc ms kd j N : Nat} {C0 : String} {T : u_T} {y : MethodName} {b : ByteArray} {ret : Option FieldType} {As rest : List qA} {o1 : Option qO} {kv : Option qA → qS → Option qO} (hM : qM g l d mc ms (.code y b mL ret) y (qR kd j :: As) σ o1) (hw : qMw y b mL n ret) (hl : ∃ host : String, Cond.methodLinkNest own idx y host ∈ qWA) (hin : Cond.instanceMethod y ∈ qWA) (hse : Cond.selects C0 y y ∈ qWA) (hsh : qsh kd = 0) (hkd : kd < 26) (hj : j < qn kd) (hc : qcls[qci kd]? = some (C0, T, N)) (hn : As.length = n) (hrest : (rest.map qcat).sum ≤ 8) (hR : d + 11 ≤ R.frames ∧ 8 + (mL + 11) + (64 * d + 1000) ≤ R.locals) (dd : decode cc pc = .ok (.invokevirtual idx, 3)) (hst : st = As.reverse ++ qR kd j :: rest) (k : ∀ (v : Option qA) (σ1 : qS), qV p l e R s m args below meth c g nL Qf (kv v σ1) cb sb (pc + 3) L (v.toList ++ rest) σ1) : qV p l e R s m args below meth c g nL Qf (qbind o1 kv qE0) (mc + cb) (ms + sb) pc L st σ := by
  subst hst
  obtain ⟨host, hlh⟩ := hl
  intro r hr ls H locs cells slots h1 h2 h3 h4 h5
  match o1, hM, hr with
  | none, _, hr => cases hr
  | some (.inr E, σ1), _, hr => cases hr
  | some (.inl v, σ1), hM, hr =>
    refine qv_core (qrunVN C hM rfl hw hlh hin hse hsh hkd hj hc hn hrest hR dd h1 h2 h3 (by omega) (by omega)) h3 (fun v2 hv2 H1 locs1 hb1 hS1 => ?_) (fun E hE2 => ?_)
    · cases hv2
      rw [qv_map]
      exact k v σ1 r hr ls H1 locs1 _ _ h1 hb1 hS1 (by omega) (by omega)
    · cases hE2
/-- a call that may throw, past this method -/
theorem qt_callS (C : qC p l s m meth c cc nL own g) {idx mL n d mc ms : Nat} {y : MethodName} {b : ByteArray} {ret : Option FieldType} {As rest : List qA} {o1 : Option qO} {kv : Option qA → qS → Option qO} (hM : qM g l d mc ms (.code y b mL ret) y As σ o1) (hw : qMw y b mL n ret) (hl : Cond.methodLink own idx y ∈ qWA) (hstt : Cond.static y ∈ qWA) (hn : As.length = n) (hrest : (rest.map qcat).sum ≤ 8) (hR : d + 11 ≤ R.frames ∧ 8 + (mL + 11) + (64 * d + 1000) ≤ R.locals) (dd : decode cc pc = .ok (.invokestatic idx, 3)) (hst : st = As.reverse ++ rest) (ht : ∀ x ∈ c.exceptionTable.toList, False) (k : ∀ (v : Option qA) (σ1 : qS), qV p l e R s m args below meth c g nL (qQf g below args s R) (kv v σ1) cb sb (pc + 3) L (v.toList ++ rest) σ1) : qV p l e R s m args below meth c g nL (qQf g below args s R) (qbind o1 kv qE1) (mc + cb) (ms + sb) pc L st σ := by
  subst hst
  intro r hr ls H locs cells slots h1 h2 h3 h4 h5
  match o1, hM, hr with
  | none, _, hr => cases hr
  | some (.inr E, σ1), hM, hr =>
    refine qv_core (qrunS C hM rfl hw hl hstt hn hrest hR dd h1 h2 h3 (by omega) (by omega)) h3 (fun v2 hv2 => ?_) (fun E2 hE2 ce q9 H1 locs1 hb1 hS1 hce hcv hcl => ?_)
    · cases hv2
    · cases hE2
      cases hr
      exact vx_out (fun x hx => (ht x hx).elim) C.2.2.2.2.2.2 hce hcv hcl (fun t ht2 _ => ⟨⟨rfl, by rw [ht2]; exact hb1⟩, hS1.F ht2⟩) hS1.2.2 (by omega) (by omega)
  | some (.inl v, σ1), hM, hr =>
    refine qv_core (qrunS C hM rfl hw hl hstt hn hrest hR dd h1 h2 h3 (by omega) (by omega)) h3 (fun v2 hv2 H1 locs1 hb1 hS1 => ?_) (fun E hE2 => ?_)
    · cases hv2
      rw [qv_map]
      exact k v σ1 r hr ls H1 locs1 _ _ h1 hb1 hS1 (by omega) (by omega)
    · cases hE2
/-- a call that may throw, past this method -/
theorem qt_callV (C : qC p l s m meth c cc nL own g) {idx mL n d mc ms kd j N : Nat} {C0 : String} {T : u_T} {y : MethodName} {b : ByteArray} {ret : Option FieldType} {As rest : List qA} {o1 : Option qO} {kv : Option qA → qS → Option qO} (hM : qM g l d mc ms (.code y b mL ret) y (qR kd j :: As) σ o1) (hw : qMw y b mL n ret) (hl : Cond.methodLink own idx y ∈ qWA) (hin : Cond.instanceMethod y ∈ qWA) (hse : Cond.selects C0 y y ∈ qWA) (hsh : qsh kd = 0) (hkd : kd < 26) (hj : j < qn kd) (hc : qcls[qci kd]? = some (C0, T, N)) (hn : As.length = n) (hrest : (rest.map qcat).sum ≤ 8) (hR : d + 11 ≤ R.frames ∧ 8 + (mL + 11) + (64 * d + 1000) ≤ R.locals) (dd : decode cc pc = .ok (.invokevirtual idx, 3)) (hst : st = As.reverse ++ qR kd j :: rest) (ht : ∀ x ∈ c.exceptionTable.toList, False) (k : ∀ (v : Option qA) (σ1 : qS), qV p l e R s m args below meth c g nL (qQf g below args s R) (kv v σ1) cb sb (pc + 3) L (v.toList ++ rest) σ1) : qV p l e R s m args below meth c g nL (qQf g below args s R) (qbind o1 kv qE1) (mc + cb) (ms + sb) pc L st σ := by
  subst hst
  intro r hr ls H locs cells slots h1 h2 h3 h4 h5
  match o1, hM, hr with
  | none, _, hr => cases hr
  | some (.inr E, σ1), hM, hr =>
    refine qv_core (qrunV C hM rfl hw hl hin hse hsh hkd hj hc hn hrest hR dd h1 h2 h3 (by omega) (by omega)) h3 (fun v2 hv2 => ?_) (fun E2 hE2 ce q9 H1 locs1 hb1 hS1 hce hcv hcl => ?_)
    · cases hv2
    · cases hE2
      cases hr
      exact vx_out (fun x hx => (ht x hx).elim) C.2.2.2.2.2.2 hce hcv hcl (fun t ht2 _ => ⟨⟨rfl, by rw [ht2]; exact hb1⟩, hS1.F ht2⟩) hS1.2.2 (by omega) (by omega)
  | some (.inl v, σ1), hM, hr =>
    refine qv_core (qrunV C hM rfl hw hl hin hse hsh hkd hj hc hn hrest hR dd h1 h2 h3 (by omega) (by omega)) h3 (fun v2 hv2 H1 locs1 hb1 hS1 => ?_) (fun E hE2 => ?_)
    · cases hv2
      rw [qv_map]
      exact k v σ1 r hr ls H1 locs1 _ _ h1 hb1 hS1 (by omega) (by omega)
    · cases hE2
end QB
section QT
variable {p : Program} {l : Launch} {e : Env} {R : Room} {s : State} {m : MethodId} {args : Array Value} {below : List Frame} {meth : Method} {c : Code} {g : qG} {nL : Nat} {Qf : qO → State → Prop} {o : Option qO} {cb sb pc : Nat} {L : List (Option qA)} {st : List qA} {σ : qS} {cc : ByteArray} {own : String}
/-- the world stands when new cells come -/
theorem qH.new {H H1 : Heap} (h : qH g σ H) (hk : ∀ q : Nat, q < H.size → H1[q]? = H[q]?) : qH g σ H1 := ⟨h.1.kept (fun k q hq => hk q.1 (h.1 k q hq).lt), h.2⟩
abbrev qxn : List String := ["java/lang/RuntimeException", "java/lang/Exception"]
/-- what a throw of class E wants of the tables -/
def qThr (ik ic : Nat) (E : String) : Prop := Bundle.fit E = true ∧ Cond.classLink RX7 ik E ∈ qWA ∧ Cond.initialized E ∈ qWA ∧ (∀ w ∈ vx_atS RX7 ic E qxn, w ∈ qWA) ∧ (∀ w ∈ Cond.classLink RX7 ik E :: Cond.initialized E :: vx_atS RX7 ic E qxn, vx_ot w = true)
theorem qxn_fit : ∀ n ∈ qxn, Bundle.fit n = true := by decide +kernel
theorem qthrow_x {t : State} {H : Heap} {locs : List Loc} {E : String} (h2 : qH g σ H) (h3 : va_S (qAf g) s.heap H locs) (hsz : H.size ≤ t.heap.size) (hk : ∀ q : Nat, q < H.size → t.heap[q]? = H[q]?) : qX g (.inr E, σ) E s t :=
  ⟨⟨rfl, h2.new hk⟩, Nat.le_trans h3.1 hsz, fun q h1 h4 => by rw [hk q (Nat.lt_of_lt_of_le h1 h3.1)]; exact h3.2.1 q h1 h4⟩
/-- throw new E(text), the text by a wide index -/
theorem qv_throwW (C : qC p l s m meth c cc nL RX7 g) {ik is ic : Nat} {E text : String} (hT : qThr ik ic E) (hs : (is, text) ∈ qthr) (ht : ∀ x ∈ c.exceptionTable.toList, False) (hrest : (st.map qcat).sum ≤ 8) (hR : 10 ≤ R.frames ∧ 1000 ≤ R.locals)
    (d0 : decode cc pc = .ok (.new ik, 3)) (d3 : decode cc (pc + 3) = .ok (.dup, 1)) (d4 : decode cc (pc + 4) = .ok (.ldc_w is, 3)) (d7 : decode cc (pc + 7) = .ok (.invokespecial ic, 3)) (d10 : decode cc (pc + 10) = .ok (.athrow, 1)) :
    qV p l e R s m args below meth c g nL (qQf g below args s R) (some (.inr E, σ)) 1 6 pc L st σ := by
  intro r h0 ls H locs cells slots h1 h2 h3 h4 h5
  cases h0
  obtain ⟨hx0, hb, hml, hown, hE, hl, hlk⟩ := C
  obtain ⟨a, ha⟩ := hE.1.2.2.2.1 _ hs
  obtain ⟨t1, t2, t3, t4, t5⟩ := hT
  exact vx_throwSW hx0 hb hl hown t1 qxn_fit (qword hE.1 t2) (qword hE.1 t3) ha (fun w hw => qword hE.1 (t4 w hw)) t5 hE.2.2.2.2.2.1.1 hE.2.2.2.2.2.1.2 h3 (h1.1.trans hml.symm) d0 d3 d4 d7 d10 (fun x hx => (ht x hx).elim)
    (by show 2 + 3 < R.frames; omega) (by rw [qcat_sum]; show _ + (13 * (2 + 1) + 43) ≤ R.locals; omega) h4 h5 hlk (fun t _ z1 z2 => qthrow_x h2 h3 z1 z2) h3.2.2 (by omega) (by omega)
theorem qv_throwN (C : qC p l s m meth c cc nL RX7 g) {ik is ic : Nat} {E text : String} (hT : qThr ik ic E) (hs : (is, text) ∈ qthr) (ht : ∀ x ∈ c.exceptionTable.toList, False) (hrest : (st.map qcat).sum ≤ 8) (hR : 10 ≤ R.frames ∧ 1000 ≤ R.locals)
    (d0 : decode cc pc = .ok (.new ik, 3)) (d3 : decode cc (pc + 3) = .ok (.dup, 1)) (d4 : decode cc (pc + 4) = .ok (.ldc is, 2)) (d6 : decode cc (pc + 6) = .ok (.invokespecial ic, 3)) (d9 : decode cc (pc + 9) = .ok (.athrow, 1)) :
    qV p l e R s m args below meth c g nL (qQf g below args s R) (some (.inr E, σ)) 1 6 pc L st σ := by
  intro r h0 ls H locs cells slots h1 h2 h3 h4 h5
  cases h0
  obtain ⟨hx0, hb, hml, hown, hE, hl, hlk⟩ := C
  obtain ⟨a, ha⟩ := hE.1.2.2.2.1 _ hs
  obtain ⟨t1, t2, t3, t4, t5⟩ := hT
  exact vx_throwS hx0 hb hl hown t1 qxn_fit (qword hE.1 t2) (qword hE.1 t3) ha (fun w hw => qword hE.1 (t4 w hw)) t5 hE.2.2.2.2.2.1.1 hE.2.2.2.2.2.1.2 h3 (h1.1.trans hml.symm) d0 d3 d4 d6 d9 (fun x hx => (ht x hx).elim)
    (by show 2 + 3 < R.frames; omega) (by rw [qcat_sum]; show _ + (13 * (2 + 1) + 43) ≤ R.locals; omega) h4 h5 hlk (fun t _ z1 z2 => qthrow_x h2 h3 z1 z2) h3.2.2 (by omega) (by omega)
/-- with E thrown over the frame -/
def qVX (p : Program) (l : Launch) (e : Env) (R : Room) (s : State) (m : MethodId) (args : Array Value) (below : List Frame) (meth : Method) (c : Code) (g : qG) (nL : Nat) (Qf : qO → State → Prop) (o : Option qO) (cb sb pc : Nat) (L : List (Option qA)) (st : List qA) (σ : qS) (E : String) : Prop :=
  ∀ r : qO, o = some r → ∀ (ls : Array Slot) (H : Heap) (locs : List Loc) (cells slots : Nat) (ce : Cell) (q9 : Addr), qLs g ls nL L → qH g σ H → va_S (qAf g) s.heap H locs → cells + cb ≤ R.cells → slots + sb ≤ R.slots → H[q9]? = some ce → ce.vm = .none → s.vm.findClass E = some ce.cls → vx_W p l e R s m args below meth c H locs cells slots (Qf r) (F0 m pc ls (st.map (qcv g))) q9
/-- a call, with handlers at hand -/
theorem qh_callV (C : qC p l s m meth c cc nL own g) {idx mL n d mc ms kd j N : Nat} {C0 : String} {T : u_T} {y : MethodName} {b : ByteArray} {ret : Option FieldType} {As rest : List qA} {o1 : Option qO} {kv : Option qA → qS → Option qO} {kE : String → qS → Option qO} (hM : qM g l d mc ms (.code y b mL ret) y (qR kd j :: As) σ o1) (hw : qMw y b mL n ret) (hl : Cond.methodLink own idx y ∈ qWA) (hin : Cond.instanceMethod y ∈ qWA) (hse : Cond.selects C0 y y ∈ qWA) (hsh : qsh kd = 0) (hkd : kd < 26) (hj : j < qn kd) (hc : qcls[qci kd]? = some (C0, T, N)) (hn : As.length = n) (hrest : (rest.map qcat).sum ≤ 8) (hR : d + 11 ≤ R.frames ∧ 8 + (mL + 11) + (64 * d + 1000) ≤ R.locals) (dd : decode cc pc = .ok (.invokevirtual idx, 3))
    (hst : st = As.reverse ++ qR kd j :: rest) (k : ∀ (v : Option qA) (σ1 : qS), qV p l e R s m args below meth c g nL Qf (kv v σ1) cb sb (pc + 3) L (v.toList ++ rest) σ1) (kx : ∀ (E : String) (σ1 : qS), qVX p l e R s m args below meth c g nL Qf (kE E σ1) cb sb pc L rest σ1 E) : qV p l e R s m args below meth c g nL Qf (qbind o1 kv kE) (mc + cb) (ms + sb) pc L st σ := by
  subst hst
  intro r hr ls H locs cells slots h1 h2 h3 h4 h5
  match o1, hM, hr with
  | none, _, hr => cases hr
  | some (.inr E, σ1), hM, hr =>
    refine qv_core (qrunV C hM rfl hw hl hin hse hsh hkd hj hc hn hrest hR dd h1 h2 h3 (by omega) (by omega)) h3 (fun v2 hv2 => ?_) (fun E2 hE2 ce q9 H1 locs1 hb1 hS1 hce hcv hcl => ?_)
    · cases hv2
    · cases hE2
      exact kx E σ1 r hr ls H1 locs1 _ _ ce q9 h1 hb1 hS1 (by omega) (by omega) hce hcv hcl
  | some (.inl v, σ1), hM, hr =>
    refine qv_core (qrunV C hM rfl hw hl hin hse hsh hkd hj hc hn hrest hR dd h1 h2 h3 (by omega) (by omega)) h3 (fun v2 hv2 H1 locs1 hb1 hS1 => ?_) (fun E hE2 => ?_)
    · cases hv2
      rw [qv_map]
      exact k v σ1 r hr ls H1 locs1 _ _ h1 hb1 hS1 (by omega) (by omega)
    · cases hE2
end QT
end
section
/-! handlers; methods with a table; calls of them -/
section QH
variable {p : Program} {l : Launch} {e : Env} {R : Room} {s : State} {m : MethodId} {args : Array Value} {below : List Frame} {meth : Method} {c : Code} {g : qG} {nL : Nat} {Qf : qO → State → Prop} {o : Option qO} {cb sb pc : Nat} {L : List (Option qA)} {st : List qA} {σ : qS} {cc : ByteArray} {own : String}
theorem qLs.drop1 {ls : Array Slot} {i : Nat} {v : qA} (h : qLs g ls nL (L.set i (some v))) : qLs g ls nL (L.set i none) := h.weak (fun j w hj => by
  by_cases hij : i = j
  · subst hij
    have hlt : i < L.length := by
      have := (List.getElem?_eq_some_iff.mp hj).1
      simpa using this
    rw [List.getElem?_set_self hlt] at hj
    cases hj
  · rw [List.getElem?_set_ne hij] at hj ⊢
    exact hj)
theorem qVX_catch (C : qC p l s m meth c cc nL own g) {hh : List (Nat × Nat × Nat × Nat)} (htab : c.exceptionTable.toList = tableOf hh) (pre suf : List (Nat × Nat × Nat × Nat)) {x : Nat × Nat × Nat × Nat} {E : String} (hsplit : hh = pre ++ x :: suf) (hpass : ∀ z ∈ pre, z.2.2.2 ≠ 0 ∧ ∃ nm : String, Cond.classLink own z.2.2.2 nm ∈ qWA ∧ (E, nm) ∈ qncs) (hcov : covers ⟨x.1, x.2.1, x.2.2.1, x.2.2.2⟩ pc = true) (hct : x.2.2.2 ≠ 0) (hlink : Cond.classLink own x.2.2.2 E ∈ qWA) (hcast : Cond.castable E E ∈ qWA)
    {i n : Nat} (hd : (decode cc x.2.2.1 = .ok (.astore i, 2) ∧ n = 2) ∨ ∃ k0 : Fin 4, decode cc x.2.2.1 = .ok (.astore_n k0, 1) ∧ (k0 : Nat) = i ∧ n = 1) (hi : i < nL) (hk : qok1 L i = true) (k : qV p l e R s m args below meth c g nL Qf o cb sb (x.2.2.1 + n) (L.set i none) [] σ) : qVX p l e R s m args below meth c g nL Qf o cb sb pc L st σ E := by
  intro r hr ls H locs cells slots ce q9 h1 h2 h3 h4 h5 hce hcv hcl
  obtain ⟨hx0, hb, hml, hown, hE, -, -⟩ := C
  refine vx_catch hown (tableOf pre) ⟨x.1, x.2.1, x.2.2.1, x.2.2.2⟩ (tableOf suf) (by rw [htab, hsplit]; simp [tableOf]) ?_ hcov hct (qword hE.1 hlink) (qword hE.1 hcast) hce hcv hcl ?_
  · intro z hz
    obtain ⟨w, hw, rfl⟩ := List.mem_map.mp hz
    obtain ⟨h7, nm, h8, h9⟩ := hpass w hw
    exact Or.inr ⟨h7, nm, qword hE.1 h8, hE.1.2.2.2.2.1 _ h9⟩
  · rcases hd with ⟨hd, rfl⟩ | ⟨k0, hd, rfl, rfl⟩
    · exact lv_astore hx0 hb hd h1 hi rfl (fun ls' hl' => k r hr ls' H locs cells slots (qLs.drop1 (qLs.store (v := .inl (.ref q9)) hk rfl hl')) h2 h3 h4 h5)
    · exact lv_astore_n hx0 hb hd rfl h1 hi rfl (fun ls' hl' => k r hr ls' H locs cells slots (qLs.drop1 (qLs.store (v := .inl (.ref q9)) hk rfl hl')) h2 h3 h4 h5)
theorem qVX_no {E : String} : qVX p l e R s m args below meth c g nL Qf none cb sb pc L st σ E := fun r hr => by cases hr
/-- handlers chosen by the class of what is thrown -/
theorem qVX_if {E E1 : String} {o1 o2 : Option qO} (h1 : qVX p l e R s m args below meth c g nL Qf o1 cb sb pc L st σ E1) (h2 : qVX p l e R s m args below meth c g nL Qf o2 cb sb pc L st σ E) : qVX p l e R s m args below meth c g nL Qf (if E = E1 then o1 else o2) cb sb pc L st σ E := by
  by_cases h : E = E1
  · rw [if_pos h, h]; exact h1
  · rw [if_neg h]; exact h2
theorem qM_ofH {d mc ms maxL : Nat} {cc : ByteArray} {y : MethodName} {ret : Option FieldType} {hh : List (Nat × Nat × Nat × Nat)} {As : List qA} {o : Option qO} (hy : plainName y.cls = true) (hl : l.stackTraces = false) (hc : ∀ a ∈ As, qcat a = 1) (hlen : As.length ≤ maxL)
    (body : ∀ (p : Program) (e : Env) (s : State) (m : MethodId) (args : Array Value) (below : List Frame) (meth : Method) (c : Code), qC p l s m meth c cc maxL y.cls g → meth.sig.returnType = ret → c.exceptionTable.toList = tableOf hh → qV p l e (qrm d mc ms) s m args below meth c g maxL (qQf g below args s (qrm d mc ms)) o mc ms 0 (qL0 maxL As) [] σ) :
    qM g l d mc ms (.codeWith y cc maxL ret hh) y As σ o := by
  intro r hr
  refine vx_ofWH (cc := cc) (maxL := maxL) (ret := ret) (hh := hh) hy rfl ?_
  intro p e s m args below meth c s₁ B hml hv
  obtain ⟨rfl, hE, hH⟩ := hv
  have hC : qC p l s m meth c cc maxL y.cls g := ⟨B.exec, B.bytes, hml, findClass_of_methodNamed B.named, hE, hl, B.notSynchronized⟩
  have ht := vx_table (x := y) B (atoms_spec (ws := [Cond.codeWith y cc maxL ret hh]) B.pre _ List.mem_cons_self)
  have K := body p e s m (List.map (qcv g) As).toArray below meth c hC B.returns ht r hr
  rw [lg_entry_eq]
  refine K _ _ [] 0 0 ?_ hH va_S.rf (by simp) (by simp)
  have h0 := lv_entry (As.map (qcv g)) (n := maxL) (by rw [qlg_len g As hc]; exact hlen)
  refine ⟨h0.1, h0.2.1, fun q hq => ?_⟩
  obtain ⟨i, v, e1, e2, e3⟩ := qlc_mem g _ 0 q hq
  have h4 := qlv_args g As 0 i v hc (qL0_get e2)
  have h5 := h0.2.2 _ h4
  rw [e1, e3]
  exact h5
/-- a method with a table that may be called -/
def qMwH (y : MethodName) (b : ByteArray) (mL n : Nat) (ret : Option FieldType) (hh : List (Nat × Nat × Nat × Nat)) : Prop :=
  Cond.codeWith y b mL ret hh ∈ qWA ∧ Cond.initialized y.cls ∈ qWA ∧ (y.cls ≠ "java/lang/invoke/MethodHandle" ∧ y.cls ≠ "java/lang/invoke/VarHandle") ∧ (parseMethodDescriptor y.desc).map (fun d => d.parameters.length) = some n
theorem qv_callSH (C : qC p l s m meth c cc nL own g) {idx mL n d mc ms : Nat} {y : MethodName} {b : ByteArray} {ret : Option FieldType} {hh : List (Nat × Nat × Nat × Nat)} {As rest : List qA} {o1 : Option qO} {kv : Option qA → qS → Option qO} (hM : qM g l d mc ms (.codeWith y b mL ret hh) y As σ o1) (hw : qMwH y b mL n ret hh) (hl : Cond.methodLink own idx y ∈ qWA) (hstt : Cond.static y ∈ qWA) (hn : As.length = n) (hrest : (rest.map qcat).sum ≤ 8) (hR : d + 11 ≤ R.frames ∧ 8 + (mL + 11) + (64 * d + 1000) ≤ R.locals) (dd : decode cc pc = .ok (.invokestatic idx, 3)) (hst : st = As.reverse ++ rest) (k : ∀ (v : Option qA) (σ1 : qS), qV p l e R s m args below meth c g nL Qf (kv v σ1) cb sb (pc + 3) L (v.toList ++ rest) σ1) : qV p l e R s m args below meth c g nL Qf (qbind o1 kv qE0) (mc + cb) (ms + sb) pc L st σ := by
  subst hst
  intro r hr ls H locs cells slots h1 h2 h3 h4 h5
  match o1, hM, hr with
  | none, _, hr => cases hr
  | some (.inr E, σ1), _, hr => cases hr
  | some (.inl v, σ1), hM, hr =>
    have hrun : vx_Run p l e R s m args below meth c H locs cells slots mc ms (F0 m pc ls ((As.reverse ++ rest).map (qcv g))) (rest.map (qcv g)) (qQ g (.inl v, σ1) (As.map (qcv g)).toArray) (qX g (.inl v, σ1)) (qAf g) := by
      obtain ⟨hx0, hb, hml, hown, hE, -, -⟩ := C
      obtain ⟨w1, w2, w3, w4⟩ := hw
      exact vx_runSX (As := As.map (qcv g)) (rest := rest.map (qcv g)) (n := n) (index := idx) ⟨hx0, hb, hml, hown, qwords (a := args) hE.1⟩ (hM _ rfl)
        ⟨⟨rfl, rfl, by show d + 10 + 1 ≤ _; omega, hR.2, qword1 hE.1 w1, List.mem_singleton.mpr rfl⟩, qword hE.1 w1, qword hE.1 w2, w3, fun sig hs => (by rw [hs] at w4; exact (Option.some.inj w4).symm), qword hE.1 hl, qword hE.1 hstt⟩
        ⟨qPc_blind, fun U hU hW => ⟨rfl, hE.go hW h3 hU, by rw [hU]; exact h2⟩⟩ rfl (by rw [List.length_map]; exact hn) h1.1 (by rw [List.map_append, List.map_reverse]) (qroom hrest) dd ⟨by omega, by omega⟩
    refine qv_core hrun h3 (fun v2 hv2 H1 locs1 hb1 hS1 => ?_) (fun E hE2 => ?_)
    · cases hv2
      rw [qv_map]
      exact k v σ1 r hr ls H1 locs1 _ _ h1 hb1 hS1 (by omega) (by omega)
    · cases hE2
end QH
end
section
/-! CELLS MADE ON THE WAY: their names are bound anew -/
/-- (a, b) is none of these names -/
def qnd (a b : Nat) : List (Nat × Nat) → Prop
  | [] => True
  | q :: t => ¬ (a = q.1 ∧ b = q.2) ∧ qnd a b t
theorem qnd_n {a b : Nat} : qnd a b [] := trivial
theorem qnd_c {a b k j : Nat} {t : List (Nat × Nat)} (h : ¬ (a = k ∧ b = j)) (h2 : qnd a b t) : qnd a b ((k, j) :: t) := ⟨h, h2⟩
theorem qnd_iff {a b : Nat} : ∀ {D : List (Nat × Nat)}, qnd a b D ↔ (a, b) ∉ D
  | [] => by simp [qnd]
  | q :: t => by
    obtain ⟨k, j⟩ := q
    simp only [qnd, List.mem_cons, not_or, Prod.mk.injEq, qnd_iff (D := t)]
theorem qnd_sub {a b : Nat} {D D' : List (Nat × Nat)} (hs : ∀ q ∈ D', q ∈ D) (h : qnd a b D) : qnd a b D' := qnd_iff.mpr fun h2 => qnd_iff.mp h (hs _ h2)
def qfq (D : List (Nat × Nat)) (v : qA) : Prop := match v with
  | .inl _ => True
  | .inr q => qnd q.1 q.2 D
def qfL (D : List (Nat × Nat)) (L : List (Option qA)) : Prop := ∀ v : qA, some v ∈ L → qfq D v
def qfS (D : List (Nat × Nat)) (st : List qA) : Prop := ∀ v ∈ st, qfq D v
section QF
variable {D : List (Nat × Nat)} {L : List (Option qA)} {st : List qA}
theorem qfL_n : qfL D [] := fun v h => by cases h
theorem qfL_o (h : qfL D L) : qfL D (none :: L) := fun v hv => by
  rcases List.mem_cons.mp hv with h2 | h2
  · cases h2
  · exact h v h2
theorem qfL_i {x : Value} (h : qfL D L) : qfL D (some (.inl x) :: L) := fun v hv => by
  rcases List.mem_cons.mp hv with h2 | h2
  · cases h2; trivial
  · exact h v h2
theorem qfL_r {a b : Nat} (h0 : qnd a b D) (h : qfL D L) : qfL D (some (.inr (a, b)) :: L) := fun v hv => by
  rcases List.mem_cons.mp hv with h2 | h2
  · cases h2; exact h0
  · exact h v h2
theorem qfS_n : qfS D [] := fun v h => by cases h
theorem qfS_i {x : Value} (h : qfS D st) : qfS D (.inl x :: st) := fun v hv => by
  rcases List.mem_cons.mp hv with h2 | h2
  · subst h2; trivial
  · exact h v h2
theorem qfS_r {a b : Nat} (h0 : qnd a b D) (h : qfS D st) : qfS D (.inr (a, b) :: st) := fun v hv => by
  rcases List.mem_cons.mp hv with h2 | h2
  · subst h2; exact h0
  · exact h v h2
end QF
/-- g1 is g, but for the names D, which may be bound anew -/
def qEv (D : List (Nat × Nat)) (g g1 : qG) : Prop := g1.1 = g.1 ∧ g1.2.1 = g.2.1 ∧ g1.2.2.2.1 = g.2.2.2.1 ∧ g1.2.2.2.2.2 = g.2.2.2.2.2 ∧ (∀ a b, a < 50 → g1.2.2.1 a b = g.2.2.1 a b) ∧ (∀ a b, qnd a b D → g1.2.2.1 a b = g.2.2.1 a b) ∧ ∀ a b, qnd a b D → (a, b) ∈ qX9 g → (a, b) ∈ qX9 g1
section QEV
variable {D D' : List (Nat × Nat)} {g g1 g2 : qG}
theorem qEv.refl (g : qG) : qEv D g g := ⟨rfl, rfl, rfl, rfl, fun _ _ _ => rfl, fun _ _ _ => rfl, fun _ _ _ h => h⟩
theorem qEv.tr (h : qEv D g g1) (h2 : qEv D' g1 g2) (hs : ∀ q ∈ D', q ∈ D) : qEv D g g2 :=
  ⟨h2.1.trans h.1, h2.2.1.trans h.2.1, h2.2.2.1.trans h.2.2.1, h2.2.2.2.1.trans h.2.2.2.1, fun a b ha => (h2.2.2.2.2.1 a b ha).trans (h.2.2.2.2.1 a b ha), fun a b hd => (h2.2.2.2.2.2.1 a b (qnd_sub hs hd)).trans (h.2.2.2.2.2.1 a b hd), fun a b hd hx => h2.2.2.2.2.2.2 a b (qnd_sub hs hd) (h.2.2.2.2.2.2 a b hd hx)⟩
theorem qEv.live (h : qEv D g g1) {a b : Nat} (hx : (a, b) ∈ qX9 g) (hd : qnd a b D) : (a, b) ∈ qX9 g1 := h.2.2.2.2.2.2 a b hd hx
theorem qEv.Af (h : qEv D g g1) : qAf g1 = qAf g := by
  funext q
  show (g1.2.2.2.1 ≤ q) = (g.2.2.2.1 ≤ q)
  rw [h.2.2.1]
theorem qEv.cv (h : qEv D g g1) {v : qA} (hv : qfq D v) : qcv g1 v = qcv g v := by
  cases v with
  | inl x => rfl
  | inr q => exact congrArg Value.ref (h.2.2.2.2.2.1 q.1 q.2 hv)
theorem qEv.map (h : qEv D g g1) {st : List qA} (hs : qfS D st) : st.map (qcv g1) = st.map (qcv g) := List.map_congr_left fun v hv => h.cv (hs v hv)
theorem qEv.Ls (h : qEv D g g1) {ls : Array Slot} {nL : Nat} {L : List (Option qA)} (hL : qfL D L) (h1 : qLs g ls nL L) : qLs g1 ls nL L := by
  refine ⟨h1.1, h1.2.1, fun q hq => ?_⟩
  obtain ⟨i, v, e1, e2, e3⟩ := qlc_mem g1 L 0 q hq
  rw [Nat.zero_add] at e1
  rw [e1, e3, h.cv (hL v (List.mem_of_getElem? e2))]
  exact h1.at e2
theorem qEv.Kt (h : qEv D g g1) {U : State} (K : qKt g U) : qKt g1 U := by
  obtain ⟨e1, e2, -, -, e5, -⟩ := h
  unfold qKt qtys at K ⊢
  rw [e1, e2]
  simp only [e5 42 _ (by decide)]
  exact K
theorem qEv.K (h : qEv D g g1) {U : State} {H : Heap} (K : qK g U H) : qK g1 U H := by
  have eA := h.Af
  obtain ⟨e1, e2, e3, e4, e5, -⟩ := h
  unfold qK qkS qkG qkC qkX qkL at K ⊢
  rw [eA]
  simp only [e5 42 _ (by decide), e5 44 _ (by decide), e5 45 _ (by decide), e5 46 _ (by decide), qLL, qxs, e4]
  exact K
theorem qEv.E (h : qEv D g g1) {U : State} {H : Heap} (K : qE g U H) : qE g1 U H := ⟨h.Kt K.1, by rw [h.2.2.1]; exact K.2.1, h.K K.2.2⟩
theorem qEv.C {p : Program} {l : Launch} {s : State} {m : MethodId} {meth : Method} {c : Code} {cc : ByteArray} {nL : Nat} {own : String} (h : qEv D g g1) (C : qC p l s m meth c cc nL own g) : qC p l s m meth c cc nL own g1 := ⟨C.1, C.2.1, C.2.2.1, C.2.2.2.1, h.E C.2.2.2.2.1, C.2.2.2.2.2⟩
end QEV
/-- which names a cell's entry looks at -/
def qdep (k j : Nat) : List (Nat × Nat) := if k = 52 then [(50, 4), (50, 5), (50, 6)] else if k = 60 then [(61, j)] else if k = 62 then [(63, j)] else []
theorem qsh9 {k : Nat} (h : qsh k = 9) : k = 52 := by unfold qsh at h; split at h <;> simp_all
theorem qsh10 {k : Nat} (h : qsh k = 10) : k = 60 := by unfold qsh at h; split at h <;> simp_all
theorem qsh_in (k : Nat) : qsh k = 0 ∨ qsh k = 1 ∨ qsh k = 2 ∨ qsh k = 3 ∨ qsh k = 4 ∨ qsh k = 7 ∨ qsh k = 8 ∨ qsh k = 9 ∨ qsh k = 10 ∨ qsh k = 11 ∨ (qsh k = 12 ∧ k = 62) := by unfold qsh; split <;> simp
theorem qfs_lo (k : Nat) : ∀ f ∈ qfs k, ∀ q : Nat × Nat, f = some q → q.1 < 50 := by
  unfold qfs
  split <;> (intro f hf q hq; subst hq; simp at hf) <;> (try (rcases hf with h | h | h | h | h | h | h | h <;> subst h <;> decide)) <;> (try (rcases hf with h | h | h | h | h | h | h <;> subst h <;> decide)) <;> (try (rcases hf with h | h | h <;> subst h <;> decide)) <;> (try (subst hf; decide))
theorem qfl_ev {D : List (Nat × Nat)} {g g1 : qG} (h : qEv D g g1) (j : Nat) (r : Nat → Int32) : ∀ (l : List (Option (Nat × Nat))) (n : Nat), (∀ f ∈ l, ∀ q : Nat × Nat, f = some q → q.1 < 50) → qfl g1 j r n l = qfl g j r n l
  | [], _, _ => rfl
  | f :: t, n, hl => by
    simp only [qfl]
    rw [qfl_ev h j r t (n + 1) (fun x hx => hl x (List.mem_cons_of_mem _ hx))]
    congr 1
    cases f with
    | none => rfl
    | some q => exact congrArg Value.ref (h.2.2.2.2.1 _ _ (hl _ List.mem_cons_self q rfl))
theorem qent_ev {D : List (Nat × Nat)} {g g1 : qG} (h : qEv D g g1) {k j : Nat} {r : Nat → Int32} (hd : ∀ q ∈ qdep k j, qnd q.1 q.2 D) : qent g1 k j r = qent g k j r := by
  have e2 := h.2.1
  have e5 := h.2.2.2.2.1
  rcases qsh_in k with hs | hs | hs | hs | hs | hs | hs | hs | hs | hs | ⟨hs, hk⟩
  · rw [qent0 hs, qent0 hs, qfl_ev h j r _ _ (qfs_lo k)]
  · rw [qent1 hs, qent1 hs, e2]
  · rw [qent2 hs, qent2 hs, e2]
  · rw [qent3 hs, qent3 hs, e2]; simp only [e5 1 _ (by decide)]
  · rw [qent4 hs, qent4 hs, e2]; simp only [e5 40 _ (by decide)]
  · rw [qent7 hs, qent7 hs, e2]
  · rw [qent8 hs, qent8 hs, e2]
  · have hk := qsh9 hs
    subst hk
    rw [qent9 hs, qent9 hs, e2]
    have e : ∀ i, i < 3 → g1.2.2.1 50 (4 + i) = g.2.2.1 50 (4 + i) := fun i hi => h.2.2.2.2.2.1 _ _ (by
      rcases (show i = 0 ∨ i = 1 ∨ i = 2 by omega) with rfl | rfl | rfl
      · exact hd (50, 4) (by simp [qdep])
      · exact hd (50, 5) (by simp [qdep])
      · exact hd (50, 6) (by simp [qdep]))
    congr 7
    funext i
    by_cases hi : i < 3
    · rw [if_pos hi, if_pos hi, e i hi]
    · rw [if_neg hi, if_neg hi]
  · have hk := qsh10 hs
    subst hk
    rw [qent10 hs, qent10 hs, h.2.2.2.2.2.1 61 j (hd (61, j) (by simp [qdep]))]
  · rw [qent11 hs, qent11 hs, e2]
  · subst hk
    rw [qent12 hs, qent12 hs, h.2.2.2.2.2.1 63 j (hd (63, j) (by simp [qdep]))]
/-- the world, name by name -/
def qHp (g : qG) (σ : qS) (H : Heap) (c : List (Nat × Nat)) : Prop := (∀ q ∈ c, va_at g.1 qcls (g.2.2.1 q.1 q.2, qent g q.1 q.2 (σ q.1 q.2)) H) ∧ (∀ q ∈ c, ∀ q' ∈ c, g.2.2.1 q.1 q.2 = g.2.2.1 q'.1 q'.2 → q = q') ∧ (∀ q ∈ c, qAf g (g.2.2.1 q.1 q.2)) ∧ c.Nodup
theorem qws_get {g : qG} {σ : qS} {i : Nat} {q : Nat × Nat} (h : (qcl ++ qX9 g)[i]? = some q) : (qws g σ)[i]? = some (g.2.2.1 q.1 q.2, qent g q.1 q.2 (σ q.1 q.2)) := by
  unfold qws
  rw [List.getElem?_map, h]
  rfl
theorem qHp.of {g : qG} {σ : qS} {H : Heap} (h : qH g σ H) : qHp g σ H (qcl ++ qX9 g) := by
  obtain ⟨h1, h2, -⟩ := h
  refine ⟨fun q hq => ?_, fun q hq q' hq' e => ?_, fun q hq => ?_, ?_⟩
  · obtain ⟨i, hi⟩ := List.getElem?_of_mem hq
    exact h1 i _ (qws_get hi)
  · obtain ⟨i, hi⟩ := List.getElem?_of_mem hq
    obtain ⟨j, hj⟩ := List.getElem?_of_mem hq'
    have := h2.1 i j _ _ (qws_get (σ := σ) hi) (qws_get (σ := σ) hj) e
    subst this
    exact Option.some.inj (hi.symm.trans hj)
  · obtain ⟨i, hi⟩ := List.getElem?_of_mem hq
    exact h2.2 i _ (qws_get (σ := σ) hi)
  · refine List.pairwise_iff_getElem.mpr fun i j hi hj hij he => ?_
    have e1 : (qcl ++ qX9 g)[i]? = some (qcl ++ qX9 g)[i] := List.getElem?_eq_getElem hi
    have e2 : (qcl ++ qX9 g)[j]? = some (qcl ++ qX9 g)[j] := List.getElem?_eq_getElem hj
    have := h2.1 i j _ _ (qws_get (σ := σ) e1) (qws_get (σ := σ) e2) (by rw [he])
    omega
theorem qHp.to {g : qG} {σ : qS} {H : Heap} (h : qHp g σ H (qcl ++ qX9 g)) (hc : qCo σ) : qH g σ H := by
  obtain ⟨h1, h2, h3, h4⟩ := h
  have key : ∀ (k : Nat) (x : Nat × va_E), (qws g σ)[k]? = some x → ∃ q, (qcl ++ qX9 g)[k]? = some q ∧ x = (g.2.2.1 q.1 q.2, qent g q.1 q.2 (σ q.1 q.2)) := by
    intro k x hx
    unfold qws at hx
    rw [List.getElem?_map] at hx
    cases hq : (qcl ++ qX9 g)[k]? with
    | none => rw [hq] at hx; cases hx
    | some q => rw [hq] at hx; exact ⟨q, rfl, (Option.some.inj hx).symm⟩
  refine ⟨fun k x hx => ?_, ⟨fun i j x y hx hy hxy => ?_, fun k x hx => ?_⟩, hc⟩
  · obtain ⟨q, hq, rfl⟩ := key k x hx
    exact h1 q (List.mem_of_getElem? hq)
  · obtain ⟨q, hq, rfl⟩ := key i x hx
    obtain ⟨q', hq', rfl⟩ := key j y hy
    have e := h2 q (List.mem_of_getElem? hq) q' (List.mem_of_getElem? hq') hxy
    subst e
    obtain ⟨li, ei⟩ := List.getElem?_eq_some_iff.mp hq
    obtain ⟨lj, ej⟩ := List.getElem?_eq_some_iff.mp hq'
    have hp := List.pairwise_iff_getElem.mp h4
    rcases Nat.lt_trichotomy i j with hl | hl | hl
    · exact absurd (ei.trans ej.symm) (hp i j li lj hl)
    · exact hl
    · exact absurd (ej.trans ei.symm) (hp j i lj li hl)
  · obtain ⟨q, hq, rfl⟩ := key k x hx
    exact h3 q (List.mem_of_getElem? hq)
theorem qcl_lo {q : Nat × Nat} (h : q ∈ qcl) : q.1 < 26 := by
  obtain ⟨k, hk, h⟩ := List.mem_flatMap.mp h
  obtain ⟨j, -, rfl⟩ := List.mem_map.mp h
  exact List.mem_range.mp hk
/-- one row is another -/
def qrw (σ : qS) (k j : Nat) (r : Nat → Int32) : qS := fun a b => if a = k ∧ b = j then r else σ a b
theorem qrw_at (σ : qS) (k j : Nat) (r : Nat → Int32) : qrw σ k j r k j = r := by simp [qrw]
theorem qrw_ne (σ : qS) {k j a b : Nat} (r : Nat → Int32) (h : ¬ (a = k ∧ b = j)) : qrw σ k j r a b = σ a b := by simp [qrw, h]
theorem qCo.rw {σ : qS} {k j : Nat} {r : Nat → Int32} (h : qCo σ) (hk : 50 ≤ k) : qCo (qrw σ k j r) := h.put (fun a b ha => qrw_ne σ r (by omega))
/-- a name is bound to an address -/
def qbd (g : qG) (k j a : Nat) : qG := (g.1, g.2.1, fun x y => if x = k ∧ y = j then a else g.2.2.1 x y, g.2.2.2.1, (qX9 g).filter (fun q => decide (q ≠ (k, j))) ++ [(k, j)], g.2.2.2.2.2)
theorem qbd_ev {g : qG} {k j a : Nat} (hk : 50 ≤ k) : qEv [(k, j)] g (qbd g k j a) := by
  refine ⟨rfl, rfl, rfl, rfl, fun x y hx => ?_, fun x y hd => ?_, fun x y hd hx => ?_⟩
  · show (if x = k ∧ y = j then a else _) = _
    rw [if_neg (by omega)]
  · show (if x = k ∧ y = j then a else _) = _
    rw [if_neg hd.1]
  · show (x, y) ∈ _ ++ _
    refine List.mem_append_left _ (List.mem_filter.mpr ⟨hx, decide_eq_true (fun e => hd.1 ⟨congrArg Prod.fst e, congrArg Prod.snd e⟩)⟩)
theorem qbd_in {g : qG} {k j a : Nat} : (k, j) ∈ qX9 (qbd g k j a) := List.mem_append_right _ List.mem_cons_self
theorem qH_bindW {g : qG} {σ : qS} {H H1 : Heap} {k j a : Nat} {r : Nat → Int32} (h : qH g σ H) (hk : 50 ≤ k) (hdep : ¬ k = 61 ∧ ¬ k = 63 ∧ ¬ (k = 50 ∧ 4 ≤ j ∧ j ≤ 6)) (hold : ∀ (i : Nat) (y : Nat × va_E), (qws g σ)[i]? = some y → va_at g.1 qcls y H1) (hne : ∀ (i : Nat) (y : Nat × va_E), (qws g σ)[i]? = some y → y.1 ≠ a) (hb : qAf g a) (hat : va_at g.1 qcls (a, qent (qbd g k j a) k j r) H1) : qH (qbd g k j a) (qrw σ k j r) H1 := by
  have P := qHp.of h
  obtain ⟨h1, h2, h3, h4⟩ := P
  have hx : ∀ q ∈ qcl ++ (qX9 g).filter (fun q => decide (q ≠ (k, j))), q ∈ qcl ++ qX9 g ∧ q ≠ (k, j) := by
    intro q hq
    rcases List.mem_append.mp hq with hq | hq
    · refine ⟨List.mem_append_left _ hq, fun e => ?_⟩
      have := qcl_lo hq
      rw [e] at this
      omega
    · obtain ⟨hq, e⟩ := List.mem_filter.mp hq
      exact ⟨List.mem_append_right _ hq, by simpa using e⟩
  have hsp : qcl ++ qX9 (qbd g k j a) = (qcl ++ (qX9 g).filter (fun q => decide (q ≠ (k, j)))) ++ [(k, j)] := by
    rw [List.append_assoc]; rfl
  have ho : ∀ q : Nat × Nat, q ≠ (k, j) → ¬ (q.1 = k ∧ q.2 = j) := fun q hq e => hq (Prod.ext e.1 e.2)
  have had : ∀ q : Nat × Nat, q ≠ (k, j) → (qbd g k j a).2.2.1 q.1 q.2 = g.2.2.1 q.1 q.2 := fun q hq => if_neg (ho q hq)
  have haa : (qbd g k j a).2.2.1 k j = a := if_pos ⟨rfl, rfl⟩
  have hlt : ∀ q ∈ qcl ++ qX9 g, g.2.2.1 q.1 q.2 ≠ a := fun q hq => by
    obtain ⟨i, hi⟩ := List.getElem?_of_mem hq
    exact hne i _ (qws_get hi)
  have hal : ∀ q ∈ qcl ++ qX9 g, va_at g.1 qcls (g.2.2.1 q.1 q.2, qent g q.1 q.2 (σ q.1 q.2)) H1 := fun q hq => by
    obtain ⟨i, hi⟩ := List.getElem?_of_mem hq
    exact hold i _ (qws_get hi)
  refine qHp.to ⟨fun q hq => ?_, fun q hq q' hq' e => ?_, fun q hq => ?_, ?_⟩ (h.2.2.rw hk)
  · rw [hsp] at hq
    rcases List.mem_append.mp hq with hq | hq
    · obtain ⟨hm, hne⟩ := hx q hq
      rw [had q hne, qrw_ne σ r (ho q hne), qent_ev (qbd_ev (a := a) (j := j) (g := g) hk) (fun x hx => ?_)]
      · exact hal q hm
      · refine qnd_c (fun e => ?_) qnd_n
        unfold qdep at hx
        split at hx
        · simp only [List.mem_cons, List.not_mem_nil, or_false] at hx
          rcases hx with hx | hx | hx <;> (rw [hx] at e; simp at e; omega)
        · split at hx
          · simp only [List.mem_cons, List.not_mem_nil, or_false] at hx
            rw [hx] at e; simp at e; omega
          · split at hx
            · simp only [List.mem_cons, List.not_mem_nil, or_false] at hx
              rw [hx] at e; simp at e; omega
            · cases hx
    · rw [List.mem_singleton.mp hq]
      rw [haa, qrw_at]
      exact hat
  · rw [hsp] at hq hq'
    rcases List.mem_append.mp hq with hq | hq
    · obtain ⟨hm, hne⟩ := hx q hq
      rcases List.mem_append.mp hq' with hq' | hq'
      · obtain ⟨hm', hne'⟩ := hx q' hq'
        rw [had q hne, had q' hne'] at e
        exact h2 q hm q' hm' e
      · rw [List.mem_singleton.mp hq'] at e
        rw [had q hne, haa] at e
        exact absurd e (hlt q hm)
    · rw [List.mem_singleton.mp hq] at e ⊢
      rcases List.mem_append.mp hq' with hq' | hq'
      · obtain ⟨hm', hne'⟩ := hx q' hq'
        rw [had q' hne', haa] at e
        exact absurd e.symm (hlt q' hm')
      · rw [List.mem_singleton.mp hq']
  · rw [hsp] at hq
    rcases List.mem_append.mp hq with hq | hq
    · obtain ⟨hm, hne⟩ := hx q hq
      rw [had q hne]
      exact h3 q hm
    · rw [List.mem_singleton.mp hq, haa]
      exact hb
  · rw [hsp]
    refine List.nodup_append.mpr ⟨?_, by simp, fun x hx1 y hy e => ?_⟩
    · have h5 := List.nodup_append.mp h4
      refine List.nodup_append.mpr ⟨h5.1, h5.2.1.filter _, fun x hx1 y hy => h5.2.2 x hx1 y (List.mem_filter.mp hy).1⟩
    · rw [List.mem_singleton.mp hy] at e
      exact (hx x hx1).2 e
end
section
/-! rows of cells made on the way -/
theorem arrV_same {cA : ClassId} {n : Nat} {f f' : Nat → Value} (h : ∀ i, i < n → f i = f' i) : arrV cA n f = arrV cA n f' := by
  unfold arrV
  congr 1
  apply Array.ext (by simp)
  intro i h1 h2
  simp only [Array.getElem_ofFn]
  exact h i (by simpa using h1)
theorem qnn_lt (x : Int32) : x.toNatClampNeg < qLI := by
  have h := Int32.toInt_le x
  show x.toInt.toNat < 2147483648
  have : x.toInt ≤ 2147483647 := h
  omega
/-- a new row of n zeros -/
def qzr (n : Int32) : Nat → Int32 := fun i => if i = qLI then n else 0
theorem qzr_len (n : Int32) : qln (qzr n) = n.toNatClampNeg := by simp [qln, qzr]
/-- bytes that can be read: constant ones, or made on the way -/
def qBy (g : qG) (k j : Nat) : Prop := (k = 44 ∧ j < 8) ∨ (k = 46 ∧ j < 2) ∨ ((k = 61 ∨ k = 63 ∨ k = 66) ∧ (k, j) ∈ qX9 g)
/-- a text -/
def qSt (g : qG) (k j : Nat) : Prop := (k = 42 ∧ j < 8) ∨ (k = 60 ∧ (60, j) ∈ qX9 g ∧ (61, j) ∈ qX9 g)
/-- where a text's bytes are -/
def qvk (k : Nat) : Nat := if k = 42 then 44 else 61
/-- they fit -/
def qbf (r : Nat → Int32) (a n : Nat) : Bool := (List.range n).all (fun i => fits .byte (.int (r (a + i))))
section QD
variable {p : Program} {l : Launch} {e : Env} {R : Room} {s : State} {m : MethodId} {args : Array Value} {below : List Frame} {meth : Method} {c : Code} {g : qG} {nL : Nat} {Qf : qO → State → Prop} {o : Option qO} {cb sb pc : Nat} {L : List (Option qA)} {st : List qA} {σ : qS} {cc : ByteArray} {own : String}
theorem qAf_new (C : qC p l s m meth c cc nL own g) : ∀ q, s.heap.size ≤ q → qAf g q := fun q h => Nat.le_trans C.2.2.2.2.1.2.1 h
/-- new T[n], of numbers -/
theorem qv_newa (C : qC p l s m meth c cc nL own g) {K j N x t0 : Nat} {atype : ArrayType} {ty : FieldType} {n : Int32} (hK : 50 ≤ K) (hdep : ¬ K = 61 ∧ ¬ K = 63 ∧ ¬ (K = 50 ∧ 4 ≤ j ∧ j ≤ 6)) (hty : newarray.typeOf atype = ty) (hp : ∀ C, ty ≠ .object C) (ht : ∀ g : qG, (qtys g)[t0]? = some (g.2.1 x, ty)) (hent : ∀ (g : qG) (r : Nat → Int32), qent g K j r = .inl (g.2.1 x, qln r, .inl r)) (hdf : defaultValue ty = .int 0) (hcb : componentBytes ty ≤ 8) (hN : N ≤ 60000) (harr : Cond.arrayClass ty ∈ qWA) (hL : qfL [(K, j)] L) (hS : qfS [(K, j)] st) (d : decode cc pc = .ok (.newarray atype, 2))
    (k : ∀ g1 : qG, qC p l s m meth c cc nL own g1 → qEv [(K, j)] g g1 → (K, j) ∈ qX9 g1 → qV p l e R s m args below meth c g1 nL Qf o cb sb (pc + 2) L (qR K j :: st) (qrw σ K j (qzr n))) : qV p l e R s m args below meth c g nL Qf (if 0 ≤ n ∧ n ≤ nI N then o else none) (cb + 1) (sb + N) pc L (qI n :: st) σ := by
  by_cases hn : 0 ≤ n ∧ n ≤ nI N
  · rw [if_pos hn]
    intro r hr ls H locs cells slots h1 h2 h3 h4 h5
    obtain ⟨t, ht1, rfl⟩ : ∃ t, t ≤ N ∧ n = nI t := by
      obtain ⟨a1, a2⟩ := hn
      rw [Int32.le_iff_toInt_le] at a1 a2
      rw [nI_toInt (by omega)] at a2
      rw [Int32.toInt_zero] at a1
      refine ⟨n.toInt.toNat, by omega, Int32.toInt_inj.mp ?_⟩
      rw [nI_toInt (by omega)]
      omega
    have ecl : (nI t).toNatClampNeg = t := nI_clamp (by omega)
    have hneg : ¬ nI t < 0 := nI_pos (by omega)
    have hby : t * componentBytes ty ≤ 536870912 := by
      have := Nat.mul_le_mul (show t ≤ 60000 by omega) hcb
      omega
    refine va_newa (N' := t) (a0 := (t, .inl (qzr (nI t)))) C.1 C.2.1 (by rw [hty]; exact qword (a := args) C.2.2.2.2.1.1 harr) hty C.2.2.2.2.1.1.1 h2.1 h2.2.1 h3 (qAf_new C) (fun cA => ?_) hneg ecl hby (by omega) (by omega) d (fun q cA H1 hK1 hP1 hD1 hS1 => ?_)
    · show arrV cA t (fun j => .int (qzr (nI t) j)) = _
      refine arrV_same (fun i hi => ?_)
      rw [hdf]
      show Value.int (if i = qLI then nI t else 0) = .int 0
      rw [if_neg (by have : t < 2147483648 := by omega
                     show ¬ i = 2147483648
                     omega)]
    · have e1 := (hK1.2 (qtys g).length (cA, ty) (by simp)).2
      have e2 := (C.2.2.2.2.1.1.1.2 t0 _ (ht g)).2
      have ec : cA = g.2.1 x := by
        cases ty with
        | object C => exact absurd rfl (hp C)
        | _ => exact Option.some.inj (e1.symm.trans e2)
      subst ec
      have hlen : (qws g σ).length < ((qws g σ) ++ [(q, (.inl (g.2.1 x, t, .inl (qzr (nI t))) : va_E))]).length := by simp
      have hat := hP1 (qws g σ).length (q, .inl (g.2.1 x, t, .inl (qzr (nI t)))) (by simp)
      have hold : ∀ (i : Nat) (y : Nat × va_E), (qws g σ)[i]? = some y → va_at g.1 qcls y H1 ∧ y.1 ≠ q := by
        intro i y hy
        have hil : i < (qws g σ).length := (List.getElem?_eq_some_iff.mp hy).1
        refine ⟨hP1 i y (by rw [List.getElem?_append_left hil]; exact hy), fun he => ?_⟩
        have := hD1.1 i (qws g σ).length y (q, .inl (g.2.1 x, t, .inl (qzr (nI t)))) (by rw [List.getElem?_append_left hil]; exact hy) (by simp) he
        omega
      have hq : qAf g q := hD1.2 (qws g σ).length (q, .inl (g.2.1 x, t, .inl (qzr (nI t)))) (by simp)
      have hH : qH (qbd g K j q) (qrw σ K j (qzr (nI t))) H1 := by
        refine qH_bindW h2 hK hdep (fun i y hy => (hold i y hy).1) (fun i y hy => (hold i y hy).2) hq ?_
        rw [hent]
        show va_at g.1 qcls (q, .inl (g.2.1 x, qln (qzr (nI t)), .inl (qzr (nI t)))) H1
        rw [qzr_len, ecl]
        exact hat
      have E := qbd_ev (g := g) (j := j) (a := q) hK
      have K1 := k (qbd g K j q) (E.C C) E qbd_in r hr ls H1 locs (cells + 1) (slots + t) (E.Ls hL h1) hH (by rw [E.Af]; exact hS1) (by omega) (by omega)
      rw [List.map_cons, E.map hS] at K1
      have eq1 : qcv (qbd g K j q) (qR K j) = Value.ref q := congrArg Value.ref (if_pos ⟨rfl, rfl⟩)
      rw [eq1] at K1
      exact K1
  · rw [if_neg hn]; exact qV.no
end QD
end
section
/-! rows of builders and texts that are made on the way, of bytes -/
/-- a builder, a text: its kind, its bytes' kind, its class's place -/
def qob (K KB ci : Nat) : Prop := (K = 60 ∧ KB = 61 ∧ ci = 6) ∨ (K = 62 ∧ KB = 63 ∧ ci = 7)
theorem qob_ent {K KB ci : Nat} (h : qob K KB ci) (g : qG) (j : Nat) (r : Nat → Int32) : qent g K j r = .inr (ci, [qnr (r 5) (g.2.2.1 KB j), .int (r 1), .int (r 2), .int (r 3)]) := by
  rcases h with ⟨rfl, rfl, rfl⟩ | ⟨rfl, rfl, rfl⟩
  · exact qent10 rfl
  · exact qent12 rfl
/-- a class of the JDK, as the tables lay it -/
def qClj (ci : Nat) (C : String) (T : u_T) : Prop := qcls[ci]? = some (C, T, 4) ∧ (∀ w ∈ u_ws C T 4, w ∈ qWA) ∧ (∀ a, a < 4 → ∀ b, b < 4 → a ≠ b → (T a).2.1 ≠ (T b).2.1) ∧ ∃ ty : Nat → FieldType, (∀ k, k < 4 → parseFieldDescriptor (T k).2.2.1 = some (ty k)) ∧ ∀ j, j < 4 → defaultValue (ty j) = vp_V [.null, .int 0, .int 0, .int 0] j
section QOB
variable {p : Program} {l : Launch} {e : Env} {R : Room} {s : State} {m : MethodId} {args : Array Value} {below : List Frame} {meth : Method} {c : Code} {g : qG} {nL : Nat} {Qf : qO → State → Prop} {o : Option qO} {cb sb pc : Nat} {L : List (Option qA)} {st : List qA} {σ : qS} {cc : ByteArray} {own : String}
/-- a new object that is a builder or a text -/
theorem qv_newo (C : qC p l s m meth c cc nL own g) {K KB j ci idx : Nat} {C0 : String} {T : u_T} (ho : qob K KB ci) (hCl : qClj ci C0 T) (hw : Cond.classLink own idx C0 ∈ qWA ∧ Cond.instantiable C0 4 ∈ qWA ∧ Cond.initialized C0 ∈ qWA) (hL : qfL [(K, j)] L) (hS : qfS [(K, j)] st) (d : decode cc pc = .ok (.new idx, 3))
    (k : ∀ g1 : qG, qC p l s m meth c cc nL own g1 → qEv [(K, j)] g g1 → (K, j) ∈ qX9 g1 → qV p l e R s m args below meth c g1 nL Qf o cb sb (pc + 3) L (qR K j :: st) (qrw σ K j (fun _ => 0))) : qV p l e R s m args below meth c g nL Qf o (cb + 1) (sb + 4) pc L st σ := by
  intro r hr ls H locs cells slots h1 h2 h3 h4 h5
  have hK : 50 ≤ K := by rcases ho with ⟨h, -, -⟩ | ⟨h, -, -⟩ <;> omega
  have hdep : ¬ K = 61 ∧ ¬ K = 63 ∧ ¬ (K = 50 ∧ 4 ≤ j ∧ j ≤ 6) := by rcases ho with ⟨h, -, -⟩ | ⟨h, -, -⟩ <;> omega
  obtain ⟨hcl, hin, hnm, ty, hty, hdf⟩ := hCl
  refine va_new C.1 C.2.1 (qwords (a := args) C.2.2.2.2.1.1) hin ty hty C.2.2.2.1 (qword C.2.2.2.2.1.1 hw.1) (qword C.2.2.2.2.1.1 hw.2.1) (qword C.2.2.2.2.1.1 hw.2.2) C.2.2.2.2.1.1.1 h2.1 h2.2.1 h3 (qAf_new C) hcl hdf (by omega) (by omega) d (fun q H1 hP1 hD1 hS1 => ?_)
  have hat := hP1 (qws g σ).length (q, .inr (ci, [.null, .int 0, .int 0, .int 0])) (by simp)
  have hold : ∀ (i : Nat) (y : Nat × va_E), (qws g σ)[i]? = some y → va_at g.1 qcls y H1 ∧ y.1 ≠ q := by
    intro i y hy
    have hil : i < (qws g σ).length := (List.getElem?_eq_some_iff.mp hy).1
    refine ⟨hP1 i y (by rw [List.getElem?_append_left hil]; exact hy), fun he => ?_⟩
    have := hD1.1 i (qws g σ).length y (q, .inr (ci, [.null, .int 0, .int 0, .int 0])) (by rw [List.getElem?_append_left hil]; exact hy) (by simp) he
    omega
  have hq : qAf g q := hD1.2 (qws g σ).length (q, .inr (ci, [.null, .int 0, .int 0, .int 0])) (by simp)
  have hH : qH (qbd g K j q) (qrw σ K j (fun _ => 0)) H1 := by
    refine qH_bindW h2 hK hdep (fun i y hy => (hold i y hy).1) (fun i y hy => (hold i y hy).2) hq ?_
    rw [qob_ent ho]
    exact hat
  have E := qbd_ev (g := g) (j := j) (a := q) hK
  have K1 := k (qbd g K j q) (E.C C) E qbd_in r hr ls H1 locs (cells + 1) (slots + 4) (E.Ls hL h1) hH (by rw [E.Af]; exact hS1) (by omega) (by omega)
  rw [List.map_cons, E.map hS] at K1
  have eq1 : qcv (qbd g K j q) (qR K j) = Value.ref q := congrArg Value.ref (if_pos ⟨rfl, rfl⟩)
  rw [eq1] at K1
  exact K1
/-- a number's field of it -/
theorem qv_geto (C : qC p l s m meth c cc nL own g) {K KB j ci idx f fi : Nat} {C0 : String} {T : u_T} (ho : qob K KB ci) (hCl : qClj ci C0 T) (hF : qFl own idx C0 T fi) (hm : (K, j) ∈ qX9 g) (hf : fi = f ∧ (f = 1 ∨ f = 2 ∨ f = 3)) (d : decode cc pc = .ok (.getfield idx, 3)) (k : qV p l e R s m args below meth c g nL Qf o cb sb (pc + 3) L (qI (σ K j f) :: st) σ) : qV p l e R s m args below meth c g nL Qf o cb sb pc L (qR K j :: st) σ := by
  intro r hr ls H locs cells slots h1 h2 h3 h4 h5
  obtain ⟨hx0, hb, hml, hown, hE, -, -⟩ := C
  obtain ⟨q0, -, hq⟩ := qws_in g σ (List.mem_append_right qcl hm)
  rw [qob_ent ho] at hq
  obtain ⟨hcl, hin, -⟩ := hCl
  obtain ⟨rfl, hf⟩ := hf
  have hv : ([qnr (σ K j 5) (g.2.2.1 KB j), .int (σ K j 1), .int (σ K j 2), .int (σ K j 3)] : List Value)[fi]? = some (.int (σ K j fi)) := by rcases hf with rfl | rfl | rfl <;> rfl
  have h4' : fi < 4 := by omega
  have K1 := k r hr ls H locs cells slots h1 h2 h3 h4 h5
  rcases hF with hF | ⟨host, hF⟩
  · exact va_get hx0 hb (qwords (a := args) hE.1) hin hown hE.1.1 h2.1 q0 hq hcl fi h4' (qword hE.1 hF) (fun _ h => h) hv d K1
  · exact va_getN hx0 hb (qwords (a := args) hE.1) hin hown hE.1.1 h2.1 q0 hq hcl fi h4' (qword hE.1 hF) (fun _ h => h) hv d K1
/-- its bytes -/
theorem qv_getv (C : qC p l s m meth c cc nL own g) {K KB j ci idx : Nat} {C0 : String} {T : u_T} (ho : qob K KB ci) (hCl : qClj ci C0 T) (hF : qFl own idx C0 T 0) (hm : (K, j) ∈ qX9 g) (d : decode cc pc = .ok (.getfield idx, 3)) (k : ¬ σ K j 5 = 0 → qV p l e R s m args below meth c g nL Qf o cb sb (pc + 3) L (qR KB j :: st) σ) : qV p l e R s m args below meth c g nL Qf (if σ K j 5 = 0 then none else o) cb sb pc L (qR K j :: st) σ := by
  by_cases h0 : σ K j 5 = 0
  · rw [if_pos h0]; exact qV.no
  · rw [if_neg h0]
    intro r hr ls H locs cells slots h1 h2 h3 h4 h5
    obtain ⟨hx0, hb, hml, hown, hE, -, -⟩ := C
    obtain ⟨q0, -, hq⟩ := qws_in g σ (List.mem_append_right qcl hm)
    rw [qob_ent ho] at hq
    obtain ⟨hcl, hin, -⟩ := hCl
    have hv : ([qnr (σ K j 5) (g.2.2.1 KB j), .int (σ K j 1), .int (σ K j 2), .int (σ K j 3)] : List Value)[0]? = some (.ref (g.2.2.1 KB j)) := by
      show some (qnr _ _) = _
      rw [qnr, if_neg h0]
    have K1 := k h0 r hr ls H locs cells slots h1 h2 h3 h4 h5
    rcases hF with hF | ⟨host, hF⟩
    · exact va_get hx0 hb (qwords (a := args) hE.1) hin hown hE.1.1 h2.1 q0 hq hcl 0 (by decide) (qword hE.1 hF) (fun _ h => h) hv d K1
    · exact va_getN hx0 hb (qwords (a := args) hE.1) hin hown hE.1.1 h2.1 q0 hq hcl 0 (by decide) (qword hE.1 hF) (fun _ h => h) hv d K1
/-- a number's field is written; fin: a final one, in its constructor -/
theorem qv_puto (C : qC p l s m meth c cc nL own g) {K KB j ci idx f : Nat} {C0 : String} {T : u_T} {x : Int32} {ty : FieldType} (ho : qob K KB ci) (hCl : qClj ci C0 T) (hF : Cond.fieldLink own idx (T f).1 (T f).2.1 (T f).2.2.1 ∈ qWA) (hm : (K, j) ∈ qX9 g) (hf : f = 1 ∨ f = 2 ∨ f = 3) (hfin : (T f).2.2.2 = false ∨ ((T f).2.2.2 = true ∧ meth.name = "<init>" ∧ (T f).1 = own)) (hty : parseFieldDescriptor (T f).2.2.1 = some ty) (hn : narrow ty (.int x) = .int x) (hfit : fits ty (.int x) = true) (d : decode cc pc = .ok (.putfield idx, 3)) (k : qV p l e R s m args below meth c g nL Qf o cb sb (pc + 3) L st (qu σ K j f x)) : qV p l e R s m args below meth c g nL Qf o cb sb pc L (qI x :: qR K j :: st) σ := by
  intro r hr ls H locs cells slots h1 h2 h3 h4 h5
  have hK : ¬ (K = 42 ∨ K = 44 ∨ K = 46) := by rcases ho with ⟨h, -, -⟩ | ⟨h, -, -⟩ <;> omega
  obtain ⟨hx0, hb, hml, hown, hE, -, -⟩ := C
  obtain ⟨q0, hc0, hq⟩ := qws_in g σ (List.mem_append_right qcl hm)
  obtain ⟨hcl, hin, hnm, ty0, hty0, -⟩ := hCl
  have he : (.inr (ci, ([qnr (σ K j 5) (g.2.2.1 KB j), .int (σ K j 1), .int (σ K j 2), .int (σ K j 3)] : List Value).set f (.int x)) : va_E) = qent g K j (upd (σ K j) f x) := by
    rw [qob_ent ho]
    rcases hf with rfl | rfl | rfl <;> rfl
  have hset := qws_set' h2.2.1 hc0 hq he
  rw [qob_ent ho] at hq
  have hl : f < ([qnr (σ K j 5) (g.2.2.1 KB j), .int (σ K j 1), .int (σ K j 2), .int (σ K j 3)] : List Value).length := by show f < 4; omega
  have h4' : f < 4 := by omega
  have K1 := fun (H1 : Heap) (locs1 : List Loc) hP1 hD1 hS1 => k r hr ls H1 locs1 cells slots h1 ⟨hP1, hD1, h2.2.2.qu hK⟩ hS1 h4 h5
  rcases hfin with hfin | ⟨hfin, hin2, hdecl⟩
  · exact va_put hx0 hb (qwords (a := args) hE.1) hin ty0 hty0 hnm hown hE.1.1 h2.1 h2.2.1 h3 q0 hq hcl f h4' (qword hE.1 hF) (fun _ h => h) hfin hty hn hfit hl d (fun H1 locs1 hP1 hD1 hS1 => K1 H1 locs1 (hset ▸ hP1) (hset ▸ hD1) hS1)
  · exact va_putF hx0 hb (qwords (a := args) hE.1) hin ty0 hty0 hnm hown hE.1.1 h2.1 h2.2.1 h3 q0 hq hcl f h4' (qword hE.1 hF) (fun _ h => h) hfin hin2 hdecl hty hn hfit hl d (fun H1 locs1 hP1 hD1 hS1 => K1 H1 locs1 (hset ▸ hP1) (hset ▸ hD1) hS1)
end QOB
/-- the row at hand becomes an object's bytes -/
def qmv (g : qG) (KB j : Nat) : qG := (g.1, g.2.1, fun x y => if x = KB ∧ y = j then g.2.2.1 66 0 else g.2.2.1 x y, g.2.2.2.1, (qX9 g).filter (fun q => decide (q ≠ (KB, j)) && decide (q ≠ (66, 0))) ++ [(KB, j)], g.2.2.2.2.2)
theorem qmv_ev {g : qG} {KB j : Nat} (hK : 50 ≤ KB) : qEv [(KB, j), (66, 0)] g (qmv g KB j) := by
  refine ⟨rfl, rfl, rfl, rfl, fun x y hx => ?_, fun x y hd => ?_, fun x y hd hx => ?_⟩
  · show (if x = KB ∧ y = j then _ else _) = _
    rw [if_neg (by omega)]
  · show (if x = KB ∧ y = j then _ else _) = _
    rw [if_neg hd.1]
  · refine List.mem_append_left _ (List.mem_filter.mpr ⟨hx, ?_⟩)
    have e1 : (x, y) ≠ (KB, j) := fun e => hd.1 ⟨congrArg Prod.fst e, congrArg Prod.snd e⟩
    have e2 : (x, y) ≠ (66, 0) := fun e => hd.2.1 ⟨congrArg Prod.fst e, congrArg Prod.snd e⟩
    simp [e1, e2]
theorem qmv_in {g : qG} {KB j : Nat} : (KB, j) ∈ qX9 (qmv g KB j) := List.mem_append_right _ List.mem_cons_self
theorem qH_mv {g : qG} {σ : qS} {H H1 : Heap} {K KB ci j q0 : Nat} (ho : qob K KB ci) (h : qH g σ H) (hm : (K, j) ∈ qX9 g) (hm2 : (66, 0) ∈ qX9 g) (hc0 : (qcl ++ qX9 g)[q0]? = some (K, j))
    (hP1 : va_P g.1 qcls ((qws g σ).set q0 (g.2.2.1 K j, .inr (ci, [.ref (g.2.2.1 66 0), .int (σ K j 1), .int (σ K j 2), .int (σ K j 3)]))) H1) : qH (qmv g KB j) (qrw (qu σ K j 5 1) KB j (σ 66 0)) H1 := by
  have hK : K = 60 ∧ KB = 61 ∨ K = 62 ∧ KB = 63 := by rcases ho with ⟨h, h2, -⟩ | ⟨h, h2, -⟩ <;> omega
  obtain ⟨h1, h2, h3, h4⟩ := qHp.of h
  have E := qmv_ev (g := g) (KB := KB) (j := j) (by omega)
  have hsp : qcl ++ qX9 (qmv g KB j) = (qcl ++ (qX9 g).filter (fun q => decide (q ≠ (KB, j)) && decide (q ≠ (66, 0)))) ++ [(KB, j)] := by
    rw [List.append_assoc]; rfl
  have hx : ∀ q ∈ qcl ++ (qX9 g).filter (fun q => decide (q ≠ (KB, j)) && decide (q ≠ (66, 0))), q ∈ qcl ++ qX9 g ∧ q ≠ (KB, j) ∧ q ≠ (66, 0) := by
    intro q hq
    rcases List.mem_append.mp hq with hq | hq
    · have := qcl_lo hq
      exact ⟨List.mem_append_left _ hq, fun e => by rw [e] at this; omega, fun e => by rw [e] at this; omega⟩
    · obtain ⟨hq, e⟩ := List.mem_filter.mp hq
      simp only [ne_eq, Bool.and_eq_true, decide_eq_true_eq] at e
      exact ⟨List.mem_append_right _ hq, e.1, e.2⟩
  have had : ∀ q : Nat × Nat, q ≠ (KB, j) → (qmv g KB j).2.2.1 q.1 q.2 = g.2.2.1 q.1 q.2 := fun q hq => if_neg (fun e => hq (Prod.ext e.1 e.2))
  have haa : (qmv g KB j).2.2.1 KB j = g.2.2.1 66 0 := if_pos ⟨rfl, rfl⟩
  have hmT : (66, 0) ∈ qcl ++ qX9 g := List.mem_append_right _ hm2
  have hidx : ∀ q ∈ qcl ++ qX9 g, q ≠ (K, j) → ∀ e : va_E, e = qent g q.1 q.2 (σ q.1 q.2) → va_at g.1 qcls (g.2.2.1 q.1 q.2, e) H1 := by
    intro q hq hne e he
    subst he
    obtain ⟨i, hi⟩ := List.getElem?_of_mem hq
    have hin : i ≠ q0 := fun e => by
      subst e
      exact hne (Option.some.inj (hi.symm.trans hc0))
    exact hP1 i _ (by rw [List.getElem?_set_ne (Ne.symm hin)]; exact qws_get hi)
  have hself : va_at g.1 qcls (g.2.2.1 K j, .inr (ci, [.ref (g.2.2.1 66 0), .int (σ K j 1), .int (σ K j 2), .int (σ K j 3)])) H1 := by
    refine hP1 q0 _ ?_
    rw [List.getElem?_set_self]
    have := (List.getElem?_eq_some_iff.mp (qws_get (σ := σ) hc0)).1
    exact this
  refine qHp.to ⟨fun q hq => ?_, fun q hq q' hq' e => ?_, fun q hq => ?_, ?_⟩ (h.2.2.put (fun a b ha => ?_))
  · rw [hsp] at hq
    rcases List.mem_append.mp hq with hq | hq
    · obtain ⟨hmq, hne, hne2⟩ := hx q hq
      rw [had q hne]
      by_cases hk : q = (K, j)
      · subst hk
        rw [qrw_ne _ _ (by omega), qob_ent ho, haa]
        have e5 : qu σ K j 5 1 K j = upd (σ K j) 5 1 := qu_row σ K j 5 1
        rw [e5]
        exact hself
      · have hk' : ¬ (q.1 = K ∧ q.2 = j) := fun e => hk (Prod.ext e.1 e.2)
        rw [qrw_ne _ _ (fun e => hne (Prod.ext e.1 e.2)), qu_other σ hk', qent_ev E (fun x hx2 => ?_)]
        · exact hidx q hmq hk _ rfl
        · unfold qdep at hx2
          split at hx2
          · simp only [List.mem_cons, List.not_mem_nil, or_false] at hx2
            rcases hx2 with hx2 | hx2 | hx2 <;> (rw [hx2]; exact qnd_c (by omega) (qnd_c (by omega) qnd_n))
          · split at hx2
            · simp only [List.mem_cons, List.not_mem_nil, or_false] at hx2
              rw [hx2]; exact qnd_c (by omega) (qnd_c (by omega) qnd_n)
            · split at hx2
              · simp only [List.mem_cons, List.not_mem_nil, or_false] at hx2
                rw [hx2]; exact qnd_c (by omega) (qnd_c (by omega) qnd_n)
              · cases hx2
    · rw [List.mem_singleton.mp hq]
      show va_at g.1 qcls ((qmv g KB j).2.2.1 KB j, qent (qmv g KB j) KB j (qrw (qu σ K j 5 1) KB j (σ 66 0) KB j)) H1
      rw [haa, qrw_at]
      refine hidx (66, 0) hmT (fun e => by have := congrArg Prod.fst e; simp at this; omega) _ ?_
      show qent (qmv g KB j) KB j (σ 66 0) = qent g 66 0 (σ 66 0)
      rw [qent11 (k := 66) rfl]
      rcases hK with ⟨-, rfl⟩ | ⟨-, rfl⟩ <;> exact qent11 rfl
  · have key : ∀ q ∈ qcl ++ qX9 (qmv g KB j), (q = (KB, j) ∧ (qmv g KB j).2.2.1 q.1 q.2 = g.2.2.1 66 0) ∨ (q ∈ qcl ++ qX9 g ∧ q ≠ (66, 0) ∧ (qmv g KB j).2.2.1 q.1 q.2 = g.2.2.1 q.1 q.2) := by
      intro q hq
      rw [hsp] at hq
      rcases List.mem_append.mp hq with hq | hq
      · obtain ⟨hmq, hne, hne2⟩ := hx q hq
        exact Or.inr ⟨hmq, hne2, had q hne⟩
      · rw [List.mem_singleton.mp hq]
        exact Or.inl ⟨rfl, haa⟩
    rcases key q hq with ⟨a1, a2⟩ | ⟨a1, a2, a3⟩ <;> rcases key q' hq' with ⟨b1, b2⟩ | ⟨b1, b2, b3⟩
    · exact a1.trans b1.symm
    · rw [a2, b3] at e
      exact absurd (h2 (66, 0) hmT q' b1 e).symm b2
    · rw [a3, b2] at e
      exact absurd (h2 q a1 (66, 0) hmT e) a2
    · rw [a3, b3] at e
      exact h2 q a1 q' b1 e
  · rw [hsp] at hq
    rcases List.mem_append.mp hq with hq | hq
    · obtain ⟨hmq, hne, hne2⟩ := hx q hq
      rw [had q hne]
      exact h3 q hmq
    · rw [List.mem_singleton.mp hq, haa]
      exact h3 (66, 0) hmT
  · rw [hsp]
    refine List.nodup_append.mpr ⟨?_, by simp, fun x hx1 y hy e => ?_⟩
    · have h5 := List.nodup_append.mp h4
      exact List.nodup_append.mpr ⟨h5.1, h5.2.1.filter _, fun x hx1 y hy => h5.2.2 x hx1 y (List.mem_filter.mp hy).1⟩
    · rw [List.mem_singleton.mp hy] at e
      exact (hx x hx1).2.1 e
  · rw [qrw_ne _ _ (by omega), qu_other σ (by omega)]
section QOB2
variable {p : Program} {l : Launch} {e : Env} {R : Room} {s : State} {m : MethodId} {args : Array Value} {below : List Frame} {meth : Method} {c : Code} {g : qG} {nL : Nat} {Qf : qO → State → Prop} {o : Option qO} {cb sb pc : Nat} {L : List (Option qA)} {st : List qA} {σ : qS} {cc : ByteArray} {own : String}
/-- the bytes at hand become its bytes -/
theorem qv_putv (C : qC p l s m meth c cc nL own g) {K KB j ci idx : Nat} {C0 : String} {T : u_T} (ho : qob K KB ci) (hCl : qClj ci C0 T) (hF : Cond.fieldLink own idx (T 0).1 (T 0).2.1 (T 0).2.2.1 ∈ qWA) (hm : (K, j) ∈ qX9 g) (hm2 : (66, 0) ∈ qX9 g) (hfin : (T 0).2.2.2 = false ∨ ((T 0).2.2.2 = true ∧ meth.name = "<init>" ∧ (T 0).1 = own)) (hty : parseFieldDescriptor (T 0).2.2.1 = some (.array .byte)) (hL : qfL [(KB, j), (66, 0)] L) (hS : qfS [(KB, j), (66, 0)] st) (d : decode cc pc = .ok (.putfield idx, 3))
    (k : ∀ g1 : qG, qC p l s m meth c cc nL own g1 → qEv [(KB, j), (66, 0)] g g1 → (KB, j) ∈ qX9 g1 → qV p l e R s m args below meth c g1 nL Qf o cb sb (pc + 3) L st (qrw (qu σ K j 5 1) KB j (σ 66 0))) : qV p l e R s m args below meth c g nL Qf o cb sb pc L (qR 66 0 :: qR K j :: st) σ := by
  intro r hr ls H locs cells slots h1 h2 h3 h4 h5
  have hK : 50 ≤ KB := by rcases ho with ⟨-, h, -⟩ | ⟨-, h, -⟩ <;> omega
  have C' := C
  obtain ⟨hx0, hb, hml, hown, hE, -, -⟩ := C
  obtain ⟨q0, hc0, hq⟩ := qws_in g σ (List.mem_append_right qcl hm)
  obtain ⟨hcl, hin, hnm, ty0, hty0, -⟩ := hCl
  rw [qob_ent ho] at hq
  have E := qmv_ev (g := g) (j := j) hK
  have K1 : ∀ (H1 : Heap) (locs1 : List Loc), va_P g.1 qcls ((qws g σ).set q0 (g.2.2.1 K j, .inr (ci, ([qnr (σ K j 5) (g.2.2.1 KB j), .int (σ K j 1), .int (σ K j 2), .int (σ K j 3)] : List Value).set 0 (.ref (g.2.2.1 66 0))))) H1 → va_S (qAf g) s.heap H1 locs1 → W p l e R s m args below meth c H1 locs1 cells slots (Qf r) (F0 m (pc + 3) ls (st.map (qcv g))) := by
    intro H1 locs1 hP1 hS1
    have hH := qH_mv ho h2 hm hm2 hc0 hP1
    have K2 := k (qmv g KB j) (E.C C') E qmv_in r hr ls H1 locs1 cells slots (E.Ls hL h1) hH (by rw [E.Af]; exact hS1) h4 h5
    rw [E.map hS] at K2
    exact K2
  rcases hfin with hfin | ⟨hfin, hin2, hdecl⟩
  · exact va_put hx0 hb (qwords (a := args) hE.1) hin ty0 hty0 hnm hown hE.1.1 h2.1 h2.2.1 h3 q0 hq hcl 0 (by decide) (qword hE.1 hF) (fun _ h => h) hfin hty rfl rfl (by simp) d (fun H1 locs1 hP1 hD1 hS1 => K1 H1 locs1 hP1 hS1)
  · exact va_putF hx0 hb (qwords (a := args) hE.1) hin ty0 hty0 hnm hown hE.1.1 h2.1 h2.2.1 h3 q0 hq hcl 0 (by decide) (qword hE.1 hF) (fun _ h => h) hfin hin2 hdecl hty rfl rfl (by simp) d (fun H1 locs1 hP1 hD1 hS1 => K1 H1 locs1 hP1 hS1)
end QOB2
end
section
/-! rows of bytes, of numbers and of truths that are made on the way; of the constants -/
theorem qBy.env {g : qG} {σ : qS} {s : State} {H : Heap} {k j : Nat} (h : qBy g k j) (hc : k = 44 ∨ k = 46) (hE : qE g s s.heap) (h2 : qH g σ H) : ∃ f : Nat → Value, va_T .byte (g.2.2.1 k j) (qln (σ k j)) f (qAf g) s s.heap ∧ ∀ i, i < qln (σ k j) → f i = .int (σ k j i) := by
  rcases h with ⟨rfl, hj⟩ | ⟨rfl, hj⟩ | ⟨h, -⟩
  · obtain ⟨-, -, e3, e4⟩ := h2.2.2.1 j hj
    have hl : qsl j < 2 ^ 31 := by
      rcases (show j = 0 ∨ j = 1 ∨ j = 2 ∨ j = 3 ∨ j = 4 ∨ j = 5 ∨ j = 6 ∨ j = 7 by omega) with rfl | rfl | rfl | rfl | rfl | rfl | rfl | rfl <;> decide
    have e5 : qln (σ 44 j) = qsl j := by rw [qln, e3, nI_clamp hl]
    refine ⟨fun i => .int (qsc j i), ?_, fun i hi => ?_⟩
    · rw [e5]; exact (hE.2.2.1 j hj).2.2.2
    · rw [e5] at hi; rw [e4 i hi]
  · obtain ⟨e3, e4⟩ := h2.2.2.2 j hj
    have e5 : qln (σ 46 j) = 100 := by rw [qln, e3, nI_clamp (by decide)]
    refine ⟨fun i => .int (qdig j i), ?_, fun i hi => ?_⟩
    · rw [e5]; exact hE.2.2.2.1.2.2 j hj
    · rw [e5] at hi; rw [e4 i hi]
  · omega
theorem qBy.dyn {g : qG} {σ : qS} {k j : Nat} (h : qBy g k j) (hc : ¬ (k = 44 ∨ k = 46)) : ∃ q0 : Nat, (qcl ++ qX9 g)[q0]? = some (k, j) ∧ (qws g σ)[q0]? = some (g.2.2.1 k j, .inl (g.2.1 6, qln (σ k j), .inl (σ k j))) := by
  rcases h with ⟨rfl, hj⟩ | ⟨rfl, hj⟩ | ⟨h, hm⟩
  · omega
  · omega
  · obtain ⟨q0, hc0, hq⟩ := qws_in g σ (List.mem_append_right qcl hm)
    refine ⟨q0, hc0, ?_⟩
    rw [hq]
    rcases h with rfl | rfl | rfl <;> rw [qent11 rfl]
theorem qty6 (g : qG) : (qtys g)[6]? = some (g.2.1 6, .byte) := rfl
section QBY
variable {p : Program} {l : Launch} {e : Env} {R : Room} {s : State} {m : MethodId} {args : Array Value} {below : List Frame} {meth : Method} {c : Code} {g : qG} {nL : Nat} {Qf : qO → State → Prop} {o : Option qO} {cb sb pc : Nat} {L : List (Option qA)} {st : List qA} {σ : qS} {cc : ByteArray} {own : String}
theorem qv_ylen (C : qC p l s m meth c cc nL own g) {K j : Nat} (hB : qBy g K j) (d : decode cc pc = .ok (.arraylength, 1)) (k : qV p l e R s m args below meth c g nL Qf o cb sb (pc + 1) L (qI (Int32.ofNat (qln (σ K j))) :: st) σ) : qV p l e R s m args below meth c g nL Qf o cb sb pc L (qR K j :: st) σ := by
  intro r hr ls H locs cells slots h1 h2 h3 h4 h5
  obtain ⟨hx0, hb, hml, hown, hE, -, -⟩ := C
  have K1 := k r hr ls H locs cells slots h1 h2 h3 h4 h5
  by_cases hc : K = 44 ∨ K = 46
  · obtain ⟨f, hT, -⟩ := hB.env hc hE h2
    exact va_tlen hx0 hb hT h3 rfl d K1
  · obtain ⟨q0, -, hq⟩ := hB.dyn (σ := σ) hc
    exact va_alen hx0 hb hE.1.1 h2.1 q0 6 hq (qty6 g) rfl d K1
theorem qv_yald (C : qC p l s m meth c cc nL own g) {K j : Nat} {i : Int32} (hB : qBy g K j) (d : decode cc pc = .ok (.baload, 1)) (k : qin i (qln (σ K j)) → qV p l e R s m args below meth c g nL Qf o cb sb (pc + 1) L (qI (σ K j i.toNatClampNeg) :: st) σ) : qV p l e R s m args below meth c g nL Qf (if qin i (qln (σ K j)) then o else none) cb sb pc L (qI i :: qR K j :: st) σ := by
  by_cases h : qin i (qln (σ K j))
  · rw [if_pos h]
    intro r hr ls H locs cells slots h1 h2 h3 h4 h5
    obtain ⟨hx0, hb, hml, hown, hE, -, -⟩ := C
    have K1 := k h r hr ls H locs cells slots h1 h2 h3 h4 h5
    by_cases hc : K = 44 ∨ K = 46
    · obtain ⟨f, hT, hf⟩ := hB.env hc hE h2
      have hlt : i.toNatClampNeg < qln (σ K j) := by
        have := qin_vp h
        exact Nat.not_le.mp fun q => this (Or.inr q)
      exact va_tb hx0 hb hT h3 (qin_vp h) (hf _ hlt) d K1
    · obtain ⟨q0, -, hq⟩ := hB.dyn (σ := σ) hc
      exact va_bald hx0 hb hE.1.1 h2.1 q0 6 hq (qty6 g) (qin_vp h) d K1
  · rw [if_neg h]; exact qV.no
theorem qln_put {r : Nat → Int32} {i : Int32} {v : Int32} : qln (upd r i.toNatClampNeg v) = qln r := by
  have := qnn_lt i
  unfold qln
  rw [show upd r i.toNatClampNeg v qLI = r qLI from if_neg (by omega)]
theorem qv_yast (C : qC p l s m meth c cc nL own g) {K j : Nat} {i x : Int32} (hK : K = 61 ∨ K = 63 ∨ K = 66) (hm : (K, j) ∈ qX9 g) (d : decode cc pc = .ok (.bastore, 1)) (k : qin i (qln (σ K j)) → qV p l e R s m args below meth c g nL Qf o cb sb (pc + 1) L st (qu σ K j i.toNatClampNeg (vp_nar .byte x))) : qV p l e R s m args below meth c g nL Qf (if qin i (qln (σ K j)) then o else none) cb sb pc L (qI x :: qI i :: qR K j :: st) σ := by
  by_cases h : qin i (qln (σ K j))
  · rw [if_pos h]
    intro r hr ls H locs cells slots h1 h2 h3 h4 h5
    obtain ⟨hx0, hb, hml, hown, hE, -, -⟩ := C
    obtain ⟨q0, hc0, hq⟩ := qBy.dyn (σ := σ) (Or.inr (Or.inr ⟨hK, hm⟩)) (by omega)
    have hsh : qsh K = 11 := by rcases hK with rfl | rfl | rfl <;> rfl
    have hset := qws_set' (i := i.toNatClampNeg) (v := vp_nar .byte x) (e1 := .inl (g.2.1 6, qln (σ K j), .inl (upd (σ K j) i.toNatClampNeg (vp_nar .byte x)))) h2.2.1 hc0 hq (by rw [qent11 hsh, qln_put])
    exact va_bast hx0 hb hE.1.1 h2.1 h2.2.1 h3 q0 6 hq (qty6 g) (qin_vp h) d (fun H1 locs1 hP1 hD1 hS1 => k h r hr ls H1 locs1 cells slots h1 ⟨hset ▸ hP1, hset ▸ hD1, h2.2.2.qu (by omega)⟩ hS1 h4 h5)
  · rw [if_neg h]; exact qV.no
/-- numbers made on the way -/
theorem qty0 (g : qG) : (qtys g)[0]? = some (g.2.1 0, .int) := rfl
theorem qty4 (g : qG) : (qtys g)[4]? = some (g.2.1 4, .boolean) := rfl
theorem qty5 (g : qG) : (qtys g)[5]? = some (g.2.1 5, .array .int) := rfl
theorem qv_nlen (C : qC p l s m meth c cc nL own g) {j : Nat} (hm : (50, j) ∈ qX9 g) (d : decode cc pc = .ok (.arraylength, 1)) (k : qV p l e R s m args below meth c g nL Qf o cb sb (pc + 1) L (qI (Int32.ofNat (qln (σ 50 j))) :: st) σ) : qV p l e R s m args below meth c g nL Qf o cb sb pc L (qR 50 j :: st) σ := by
  intro r hr ls H locs cells slots h1 h2 h3 h4 h5
  obtain ⟨hx0, hb, hml, hown, hE, -, -⟩ := C
  obtain ⟨q0, -, hq⟩ := qws_in g σ (List.mem_append_right qcl hm)
  rw [qent7 rfl] at hq
  exact va_alen hx0 hb hE.1.1 h2.1 q0 0 hq (qty0 g) rfl d (k r hr ls H locs cells slots h1 h2 h3 h4 h5)
theorem qv_nald (C : qC p l s m meth c cc nL own g) {j : Nat} {i : Int32} (hm : (50, j) ∈ qX9 g) (d : decode cc pc = .ok (.iaload, 1)) (k : qin i (qln (σ 50 j)) → qV p l e R s m args below meth c g nL Qf o cb sb (pc + 1) L (qI (σ 50 j i.toNatClampNeg) :: st) σ) : qV p l e R s m args below meth c g nL Qf (if qin i (qln (σ 50 j)) then o else none) cb sb pc L (qI i :: qR 50 j :: st) σ := by
  by_cases h : qin i (qln (σ 50 j))
  · rw [if_pos h]
    intro r hr ls H locs cells slots h1 h2 h3 h4 h5
    obtain ⟨hx0, hb, hml, hown, hE, -, -⟩ := C
    obtain ⟨q0, -, hq⟩ := qws_in g σ (List.mem_append_right qcl hm)
    rw [qent7 rfl] at hq
    exact va_iald hx0 hb hE.1.1 h2.1 q0 0 hq (qty0 g) (qin_vp h) d (k h r hr ls H locs cells slots h1 h2 h3 h4 h5)
  · rw [if_neg h]; exact qV.no
theorem qv_nast (C : qC p l s m meth c cc nL own g) {j : Nat} {i x : Int32} (hm : (50, j) ∈ qX9 g) (d : decode cc pc = .ok (.iastore, 1)) (k : qin i (qln (σ 50 j)) → qV p l e R s m args below meth c g nL Qf o cb sb (pc + 1) L st (qu σ 50 j i.toNatClampNeg x)) : qV p l e R s m args below meth c g nL Qf (if qin i (qln (σ 50 j)) then o else none) cb sb pc L (qI x :: qI i :: qR 50 j :: st) σ := by
  by_cases h : qin i (qln (σ 50 j))
  · rw [if_pos h]
    intro r hr ls H locs cells slots h1 h2 h3 h4 h5
    obtain ⟨hx0, hb, hml, hown, hE, -, -⟩ := C
    obtain ⟨q0, hc0, hq⟩ := qws_in g σ (List.mem_append_right qcl hm)
    have hset := qws_set' (i := i.toNatClampNeg) (v := x) (e1 := .inl (g.2.1 0, qln (σ 50 j), .inl (upd (σ 50 j) i.toNatClampNeg x))) h2.2.1 hc0 hq (by rw [qent7 rfl, qln_put])
    rw [qent7 rfl] at hq
    exact va_iast hx0 hb hE.1.1 h2.1 h2.2.1 h3 q0 0 hq (qty0 g) (qin_vp h) d (fun H1 locs1 hP1 hD1 hS1 => k h r hr ls H1 locs1 cells slots h1 ⟨hset ▸ hP1, hset ▸ hD1, h2.2.2.qu (by omega)⟩ hS1 h4 h5)
  · rw [if_neg h]; exact qV.no
/-- truths made on the way -/
theorem qv_tlen (C : qC p l s m meth c cc nL own g) {j : Nat} (hm : (51, j) ∈ qX9 g) (d : decode cc pc = .ok (.arraylength, 1)) (k : qV p l e R s m args below meth c g nL Qf o cb sb (pc + 1) L (qI (Int32.ofNat (qln (σ 51 j))) :: st) σ) : qV p l e R s m args below meth c g nL Qf o cb sb pc L (qR 51 j :: st) σ := by
  intro r hr ls H locs cells slots h1 h2 h3 h4 h5
  obtain ⟨hx0, hb, hml, hown, hE, -, -⟩ := C
  obtain ⟨q0, -, hq⟩ := qws_in g σ (List.mem_append_right qcl hm)
  rw [qent8 rfl] at hq
  exact va_alen hx0 hb hE.1.1 h2.1 q0 4 hq (qty4 g) rfl d (k r hr ls H locs cells slots h1 h2 h3 h4 h5)
theorem qv_tald (C : qC p l s m meth c cc nL own g) {j : Nat} {i : Int32} (hm : (51, j) ∈ qX9 g) (d : decode cc pc = .ok (.baload, 1)) (k : qin i (qln (σ 51 j)) → qV p l e R s m args below meth c g nL Qf o cb sb (pc + 1) L (qI (σ 51 j i.toNatClampNeg) :: st) σ) : qV p l e R s m args below meth c g nL Qf (if qin i (qln (σ 51 j)) then o else none) cb sb pc L (qI i :: qR 51 j :: st) σ := by
  by_cases h : qin i (qln (σ 51 j))
  · rw [if_pos h]
    intro r hr ls H locs cells slots h1 h2 h3 h4 h5
    obtain ⟨hx0, hb, hml, hown, hE, -, -⟩ := C
    obtain ⟨q0, -, hq⟩ := qws_in g σ (List.mem_append_right qcl hm)
    rw [qent8 rfl] at hq
    exact va_zald hx0 hb hE.1.1 h2.1 q0 4 hq (qty4 g) (qin_vp h) d (k h r hr ls H locs cells slots h1 h2 h3 h4 h5)
  · rw [if_neg h]; exact qV.no
theorem qv_tast (C : qC p l s m meth c cc nL own g) {j : Nat} {i x : Int32} (hx : qbo x) (hm : (51, j) ∈ qX9 g) (d : decode cc pc = .ok (.bastore, 1)) (k : qin i (qln (σ 51 j)) → qV p l e R s m args below meth c g nL Qf o cb sb (pc + 1) L st (qu σ 51 j i.toNatClampNeg x)) : qV p l e R s m args below meth c g nL Qf (if qin i (qln (σ 51 j)) then o else none) cb sb pc L (qI x :: qI i :: qR 51 j :: st) σ := by
  by_cases h : qin i (qln (σ 51 j))
  · rw [if_pos h]
    intro r hr ls H locs cells slots h1 h2 h3 h4 h5
    obtain ⟨hx0, hb, hml, hown, hE, -, -⟩ := C
    obtain ⟨q0, hc0, hq⟩ := qws_in g σ (List.mem_append_right qcl hm)
    have hset := qws_set' (i := i.toNatClampNeg) (v := x) (e1 := .inl (g.2.1 4, qln (σ 51 j), .inl (upd (σ 51 j) i.toNatClampNeg x))) h2.2.1 hc0 hq (by rw [qent8 rfl, qln_put])
    rw [qent8 rfl] at hq
    have hz : vp_nar .boolean x = x := by simp [vp_nar, qbo_nar hx]
    exact va_zast hx0 hb hE.1.1 h2.1 h2.2.1 h3 q0 4 hq (qty4 g) (qin_vp h) d (fun H1 locs1 hP1 hD1 hS1 => by
      rw [hz] at hP1 hD1
      exact k h r hr ls H1 locs1 cells slots h1 ⟨hset ▸ hP1, hset ▸ hD1, h2.2.2.qu (by omega)⟩ hS1 h4 h5)
  · rw [if_neg h]; exact qV.no
/-- a row of rows -/
theorem qv_rald (C : qC p l s m meth c cc nL own g) {i : Int32} (hm : (52, 0) ∈ qX9 g) (d : decode cc pc = .ok (.aaload, 1)) (k : qin i 3 → qV p l e R s m args below meth c g nL Qf o cb sb (pc + 1) L (qR 50 (4 + i.toNatClampNeg) :: st) σ) : qV p l e R s m args below meth c g nL Qf (if qin i 3 then o else none) cb sb pc L (qI i :: qR 52 0 :: st) σ := by
  by_cases h : qin i 3
  · rw [if_pos h]
    intro r hr ls H locs cells slots h1 h2 h3 h4 h5
    obtain ⟨hx0, hb, hml, hown, hE, -, -⟩ := C
    obtain ⟨q0, -, hq⟩ := qws_in g σ (List.mem_append_right qcl hm)
    rw [qent9 rfl] at hq
    have hin := qin_vp h
    have hlt : i.toNatClampNeg < 3 := Nat.not_le.mp fun q => hin (Or.inr q)
    have K1 := k h r hr ls H locs cells slots h1 h2 h3 h4 h5
    refine W.aald (v := .ref (g.2.2.1 50 (4 + i.toNatClampNeg))) (ty := .array .int) hx0 hb (h2.1 q0 _ hq) ((hE.1.1.2 5 _ (qty5 g)).1 3 (fun j => va_rf (if j < 3 then some (g.2.2.1 50 (4 + j)) else none))) rfl (fun q => by cases q) (by show ¬ (i < 0 ∨ (arrV _ _ _).slots.size ≤ _); rw [arrV_size]; exact hin) ?_ rfl rfl d K1
    show (arrV _ _ _).slots[_]? = _
    rw [arrV_read _ _ hlt]
    show some (va_rf (if i.toNatClampNeg < 3 then some (g.2.2.1 50 (4 + i.toNatClampNeg)) else none)) = _
    rw [if_pos hlt]
    rfl
  · rw [if_neg h]; exact qV.no
theorem q3use {g : qG} {i : Int32} (h4 : (50, 4) ∈ qX9 g) (h5 : (50, 5) ∈ qX9 g) (h6 : (50, 6) ∈ qX9 g) (h : qin i 3) : (50, 4 + i.toNatClampNeg) ∈ qX9 g := by
  have hin := qin_vp h
  have hlt : i.toNatClampNeg < 3 := Nat.not_le.mp fun q => hin (Or.inr q)
  rcases (show i.toNatClampNeg = 0 ∨ i.toNatClampNeg = 1 ∨ i.toNatClampNeg = 2 by omega) with e | e | e <;> rw [e] <;> assumption
/-- the constants -/
theorem qv_gscs (C : qC p l s m meth c cc nL own g) {idx : Nat} (hw : Cond.fieldLink own idx RJ0 "COMPACT_STRINGS" "Z" ∈ qWA) (d : decode cc pc = .ok (.getstatic idx, 3)) (k : qV p l e R s m args below meth c g nL Qf o cb sb (pc + 3) L (qI (1 : Int32) :: st) σ) : qV p l e R s m args below meth c g nL Qf o cb sb pc L st σ := by
  intro r hr ls H locs cells slots h1 h2 h3 h4 h5
  obtain ⟨hx0, hb, hml, hown, hE, -, -⟩ := C
  exact va_gets hx0 hb hE.2.2.2.2.1.1 h3 hown (qword (a := args) hE.1 hw) (fun _ h => h) d (k r hr ls H locs cells slots h1 h2 h3 h4 h5)
theorem qv_gssi (C : qC p l s m meth c cc nL own g) {idx : Nat} (hw : Cond.fieldLink own idx RJ3 "SIOOBE_FORMATTER" "Ljava/util/function/BiFunction;" ∈ qWA) (d : decode cc pc = .ok (.getstatic idx, 3)) (k : ∀ v : Value, v.category = 1 → qV p l e R s m args below meth c g nL Qf o cb sb (pc + 3) L (.inl v :: st) σ) : qV p l e R s m args below meth c g nL Qf o cb sb pc L st σ := by
  intro r hr ls H locs cells slots h1 h2 h3 h4 h5
  obtain ⟨hx0, hb, hml, hown, hE, -, -⟩ := C
  have hZ := hE.2.2.2.2.1.2
  rcases hZ with hZ | ⟨t, hZ⟩
  · exact va_gets hx0 hb hZ h3 hown (qword (a := args) hE.1 hw) (fun _ h => h) d (k .null rfl r hr ls H locs cells slots h1 h2 h3 h4 h5)
  · exact va_gets hx0 hb hZ h3 hown (qword (a := args) hE.1 hw) (fun _ h => h) d (k (.ref t) rfl r hr ls H locs cells slots h1 h2 h3 h4 h5)
theorem qv_gsdo (C : qC p l s m meth c cc nL own g) {idx : Nat} (hw : Cond.fieldLink own idx RJ6 "DigitOnes" "[B" ∈ qWA) (d : decode cc pc = .ok (.getstatic idx, 3)) (k : qV p l e R s m args below meth c g nL Qf o cb sb (pc + 3) L (qR 46 0 :: st) σ) : qV p l e R s m args below meth c g nL Qf o cb sb pc L st σ := by
  intro r hr ls H locs cells slots h1 h2 h3 h4 h5
  obtain ⟨hx0, hb, hml, hown, hE, -, -⟩ := C
  exact va_gets hx0 hb hE.2.2.2.1.1 h3 hown (qword (a := args) hE.1 hw) (fun _ h => h) d (k r hr ls H locs cells slots h1 h2 h3 h4 h5)
theorem qv_gsdt (C : qC p l s m meth c cc nL own g) {idx : Nat} (hw : Cond.fieldLink own idx RJ6 "DigitTens" "[B" ∈ qWA) (d : decode cc pc = .ok (.getstatic idx, 3)) (k : qV p l e R s m args below meth c g nL Qf o cb sb (pc + 3) L (qR 46 1 :: st) σ) : qV p l e R s m args below meth c g nL Qf o cb sb pc L st σ := by
  intro r hr ls H locs cells slots h1 h2 h3 h4 h5
  obtain ⟨hx0, hb, hml, hown, hE, -, -⟩ := C
  exact va_gets hx0 hb hE.2.2.2.1.2.1 h3 hown (qword (a := args) hE.1 hw) (fun _ h => h) d (k r hr ls H locs cells slots h1 h2 h3 h4 h5)
theorem qv_ldcI (C : qC p l s m meth c cc nL own g) {idx : Nat} {v : Int32} (hw : Cond.constant own idx v ∈ qWA) (d : decode cc pc = .ok (.ldc idx, 2)) (k : qV p l e R s m args below meth c g nL Qf o cb sb (pc + 2) L (qI v :: st) σ) : qV p l e R s m args below meth c g nL Qf o cb sb pc L st σ := by
  intro r hr ls H locs cells slots h1 h2 h3 h4 h5
  obtain ⟨hx0, hb, hml, hown, hE, -, -⟩ := C
  exact lv_ldc hx0 hb hown (qword (a := args) hE.1 hw) d (k r hr ls H locs cells slots h1 h2 h3 h4 h5)
theorem qv_ldcwI (C : qC p l s m meth c cc nL own g) {idx : Nat} {v : Int32} (hw : Cond.constant own idx v ∈ qWA) (d : decode cc pc = .ok (.ldc_w idx, 3)) (k : qV p l e R s m args below meth c g nL Qf o cb sb (pc + 3) L (qI v :: st) σ) : qV p l e R s m args below meth c g nL Qf o cb sb pc L st σ := by
  intro r hr ls H locs cells slots h1 h2 h3 h4 h5
  obtain ⟨hx0, hb, hml, hown, hE, -, -⟩ := C
  exact lv_ldcw hx0 hb hown (qword (a := args) hE.1 hw) d (k r hr ls H locs cells slots h1 h2 h3 h4 h5)
/-- a text of the law's -/
theorem qv_ldcS (C : qC p l s m meth c cc nL RL g) {idx i : Nat} {tx : String} (hw : (idx, tx, i) ∈ qlst) (d : decode cc pc = .ok (.ldc idx, 2)) (k : qV p l e R s m args below meth c g nL Qf o cb sb (pc + 2) L (qR 42 i :: st) σ) : qV p l e R s m args below meth c g nL Qf o cb sb pc L st σ := by
  intro r hr ls H locs cells slots h1 h2 h3 h4 h5
  obtain ⟨hx0, hb, hml, hown, hE, -, -⟩ := C
  exact va_ldcS hx0 hb hown (hE.1.2.2.1 _ hw) d (k r hr ls H locs cells slots h1 h2 h3 h4 h5)
theorem qv_ldcSW (C : qC p l s m meth c cc nL RL g) {idx i : Nat} {tx : String} (hw : (idx, tx, i) ∈ qlst) (d : decode cc pc = .ok (.ldc_w idx, 3)) (k : qV p l e R s m args below meth c g nL Qf o cb sb (pc + 3) L (qR 42 i :: st) σ) : qV p l e R s m args below meth c g nL Qf o cb sb pc L st σ := by
  intro r hr ls H locs cells slots h1 h2 h3 h4 h5
  obtain ⟨hx0, hb, hml, hown, hE, -, -⟩ := C
  have hZ := hE.1.2.2.1 _ hw
  intro T hT X
  obtain ⟨t, a1, b1⟩ := k r hr ls H locs cells slots h1 h2 h3 h4 h5 T hT X
  exact ⟨t, X.ldcStringW hx0 hown (text := tx) (a := g.2.2.1 42 i) hZ.1 hZ.2 (g := F0 m pc ls (st.map (qcv g))) rfl (by rw [hb]; exact d) t a1, b1⟩
/-- the script -/
theorem qv_slen (C : qC p l s m meth c cc nL own g) (d : decode cc pc = .ok (.arraylength, 1)) (k : qV p l e R s m args below meth c g nL Qf o cb sb (pc + 1) L (qI (Int32.ofNat (qLL g)) :: st) σ) : qV p l e R s m args below meth c g nL Qf o cb sb pc L (qR 45 0 :: st) σ := by
  intro r hr ls H locs cells slots h1 h2 h3 h4 h5
  obtain ⟨hx0, hb, hml, hown, hE, -, -⟩ := C
  exact va_tlen hx0 hb hE.2.2.2.2.2.2 h3 rfl d (k r hr ls H locs cells slots h1 h2 h3 h4 h5)
theorem qv_sld (C : qC p l s m meth c cc nL own g) {i : Int32} (d : decode cc pc = .ok (.iaload, 1)) (k : qin i (qLL g) → qV p l e R s m args below meth c g nL Qf o cb sb (pc + 1) L (qI (qxs g i.toNatClampNeg) :: st) σ) : qV p l e R s m args below meth c g nL Qf (if qin i (qLL g) then o else none) cb sb pc L (qI i :: qR 45 0 :: st) σ := by
  by_cases h : qin i (qLL g)
  · rw [if_pos h]
    intro r hr ls H locs cells slots h1 h2 h3 h4 h5
    obtain ⟨hx0, hb, hml, hown, hE, -, -⟩ := C
    exact va_ti hx0 hb hE.2.2.2.2.2.2 h3 (qin_vp h) rfl d (k h r hr ls H locs cells slots h1 h2 h3 h4 h5)
  · rw [if_neg h]; exact qV.no
end QBY
end
section
/-! System.arraycopy and clone() over bytes. The row over a constant source follows the kit's row over the script, written anew for bytes -/
/-- a copy of n bytes may be made -/
abbrev qcpok (σ : qS) (K j K2 j2 : Nat) (sp dp n : Int32) : Prop := (0 ≤ sp ∧ 0 ≤ dp ∧ 0 ≤ n) ∧ sp.toNatClampNeg + n.toNatClampNeg ≤ qln (σ K j) ∧ dp.toNatClampNeg + n.toNatClampNeg ≤ qln (σ K2 j2) ∧ qbf (σ K j) sp.toNatClampNeg n.toNatClampNeg = true
theorem qbf_at {r : Nat → Int32} {a n : Nat} (h : qbf r a n = true) {i : Nat} (hi : i < n) : fits .byte (.int (r (a + i))) = true := List.all_eq_true.mp h i (List.mem_range.mpr hi)
theorem qbd_at (g : qG) (k j a : Nat) : qcv (qbd g k j a) (qR k j) = Value.ref a := congrArg Value.ref (if_pos ⟨rfl, rfl⟩)
section QCPY
variable {p : Program} {l : Launch} {e : Env} {R : Room} {s : State} {m : MethodId} {args : Array Value} {below : List Frame} {meth : Method} {c : Code} {g : qG} {nL : Nat} {Qf : qO → State → Prop} {o : Option qO} {cb sb pc : Nat} {L : List (Option qA)} {st : List qA} {σ : qS} {cc : ByteArray} {own : String}
theorem va_copyTb {H : Heap} {locs : List Loc} {cells slots : Nat} {Q : State → Prop} {ls : Array Slot} {rest : List Value} {D : va_G} {cl : List vw_C} {A : Nat → Prop} {a : Nat} {tys : List (ClassId × FieldType)} {ws : va_W} (hexec : p.tables.exec = Jvm.exec) (hb : c.code = cc) (hml : c.maxLocals = ls.size) {index : Nat} (hown : s.vm.findClass own = some m.cls) (hlink : (Cond.methodLink own index arraycopyName).before args s = true) (hnat : (Cond.native arraycopyName).before args s = true) (hstat : (Cond.static arraycopyName).before args s = true) (hini : (Cond.initialized "java/lang/System").before args s = true)
    (hK : va_K D cl tys s) (hP : va_P D cl ws H) (hD : va_D A ws) (hS : va_S A s.heap H locs) {b0 n0 : Nat} {f : Nat → Int32} {fv : Nat → Value} (hX : va_T .byte b0 n0 fv A s s.heap) (hfv : ∀ i, i < n0 → fv i = .int (f i)) (q1 t1 : Nat) {c1 : ClassId} {n1 : Nat} {g : Nat → Int32} (ha1 : ws[q1]? = some (a, .inl (c1, n1, .inl g))) (ht1 : tys[t1]? = some (c1, .byte))
    {sp dp n : Int32} (h1 : ¬ sp < 0) (h2 : ¬ dp < 0) (h3 : ¬ n < 0) (h4 : sp.toNatClampNeg + n.toNatClampNeg ≤ n0) (h5 : dp.toNatClampNeg + n.toNatClampNeg ≤ n1) (hfit : ∀ i, i < n.toNatClampNeg → fits .byte (.int (f (sp.toNatClampNeg + i))) = true)
    (hframes : 1 ≤ R.frames) (hlocals : (rest.map fun v => v.category).sum + (nativeFrameWords "java/lang/System" "arraycopy" 5 + 11) ≤ R.locals) (hdg : decode cc pc = .ok (.invokestatic index, 3))
    (kk : ∀ (H1 : Heap) (locs1 : List Loc), va_P D cl (ws.set q1 (a, .inl (c1, n1, .inl (va_cpy f g sp.toNatClampNeg dp.toNatClampNeg n.toNatClampNeg)))) H1 → va_D A (ws.set q1 (a, .inl (c1, n1, .inl (va_cpy f g sp.toNatClampNeg dp.toNatClampNeg n.toNatClampNeg)))) → va_S A s.heap H1 locs1 → W p l e R s m args below meth c H1 locs1 cells slots Q (F0 m (pc + 3) ls rest)) : W p l e R s m args below meth c H locs cells slots Q (F0 m pc ls (.int n :: .int dp :: .ref a :: .int sp :: .ref b0 :: rest)) := by
  have nn : ∀ z : Int32, ¬ z < 0 → z.toInt = (z.toNatClampNeg : Int) := by
    intro z hz
    have hz0 : (0 : Int) ≤ z.toInt := by
      have := Int32.not_lt.mp hz
      simpa using Int32.le_iff_toInt_le.mp this
    show z.toInt = ((z.toInt.toNat : Nat) : Int)
    omega
  intro T hT X
  obtain ⟨scr, hs1, hs2, hs3, hs4, hs4', hs5, hbA⟩ := hX
  have hbl : b0 < s.heap.size := (Array.getElem?_eq_some_iff.mp hs1).1
  have hs5' : ∀ j : Nat, j < n0 → scr.slots[j]? = some (.int (f j)) := fun j hj => by rw [hs5 j hj, hfv j hj]
  have hc0 : H[b0]? = some scr := by rw [hS.2.1 b0 hbl hbA]; exact hs1
  have hc1 : H[a]? = some (vp_cell c1 (n1, .inl g)) := hP q1 _ ha1
  obtain ⟨hs6, k0, hk0, cm0, hkk0⟩ := hs2
  obtain ⟨-, k1, hk1, cm1, hkk1⟩ := (hK.2 t1 _ ht1).1 n1 (fun j => .int (g j))
  obtain ⟨vm', X', step⟩ := X.arraycopy hexec hown hlink hnat hstat hini (src := b0) (dst := a) (cs := scr) (cd := vp_cell c1 (n1, .inl g)) (srcPos := sp) (destPos := dp) (n := n) (by rw [hT]; exact hc0) (by rw [hT]; exact hc1)
    hs6 (fun _ h => by cases h) hs3 (fun h => by cases h) hk0 hk1 hkk0 hkk1 (by simp [refKind]) h1 h2 h3
    (by rw [nn sp h1, nn n h3]; omega)
    (by rw [nn dp h2, nn n h3]; show ¬ _ > ((arrV c1 n1 (fun j => .int (g j))).slots.size : Int); rw [arrV_size]; omega)
    (fun vm₁ _ i hi => by
      have e : scr.slots.getD (sp.toNatClampNeg + i) .null = .int (f (sp.toNatClampNeg + i)) := by
        rw [Array.getD_eq_getD_getElem?, hs5' _ (by omega)]
        rfl
      refine ⟨?_, ?_⟩
      · rw [e]
        exact hfit i hi
      · rw [e]
        exact trivial)
    (g := F0 m pc ls (.int n :: .int dp :: .ref a :: .int sp :: .ref b0 :: rest)) rfl (by rw [hml]) (rest := rest) rfl (by rw [hb]; exact hdg) hframes (by show 2 * 0 + _ + _ ≤ _; omega)
  have e1 : copied scr (vp_cell c1 (n1, .inl g)) sp dp n = vp_cell c1 (n1, .inl (va_cpy f g sp.toNatClampNeg dp.toNatClampNeg n.toNatClampNeg)) := va_copiedX (fun z => .int z) scr c1 f g hs5' h4
  rw [e1] at X' step
  have hl : a < H.size := (Array.getElem?_eq_some_iff.mp hc1).1
  have hheap : ((T.setVm vm').setCell a (vp_cell c1 (n1, .inl (va_cpy f g sp.toNatClampNeg dp.toNatClampNeg n.toNatClampNeg)))).heap = H.setIfInBounds a (vp_cell c1 (n1, .inl (va_cpy f g sp.toNatClampNeg dp.toNatClampNeg n.toNatClampNeg))) := by rw [← hT]; rfl
  have oq : ∀ q : Nat, q ≠ a → (H.setIfInBounds a (vp_cell c1 (n1, .inl (va_cpy f g sp.toNatClampNeg dp.toNatClampNeg n.toNatClampNeg))))[q]? = H[q]? := fun q hq => by simp [Array.getElem?_setIfInBounds, Ne.symm hq]
  obtain ⟨t, a1, b1⟩ := kk _ _ (hP.set hD ha1 (show (H.setIfInBounds a _)[a]? = some _ by simp [Array.getElem?_setIfInBounds, hl]) oq) (hD.set ha1) ⟨by simp; exact hS.1, fun q g1 g2 => by
      rw [oq q (fun e => g2 (by rw [e]; exact hD.2 q1 _ ha1))]
      exact hS.2.1 q g1 g2, fun q hq => by
      rcases List.mem_append.mp hq with h | h
      · exact hS.2.2 q h
      · obtain ⟨z, -, hz⟩ := List.mem_map.mp h
        rw [← hz]
        exact hD.2 q1 _ ha1⟩ _ hheap X'
  exact ⟨t, step t a1, b1⟩
theorem qcpy_len {f g : Nat → Int32} {a b n N : Nat} (h : b + n ≤ N) (hN : N ≤ qLI) : va_cpy f g a b n qLI = g qLI := by
  unfold va_cpy
  rw [if_neg (by omega)]
theorem qln_lt (r : Nat → Int32) : qln r < qLI := qnn_lt _
/-- what arraycopy asks of the tables -/
def qcpw (own : String) (idx : Nat) : Prop := Cond.methodLink own idx arraycopyName ∈ qWA ∧ Cond.native arraycopyName ∈ qWA ∧ Cond.static arraycopyName ∈ qWA ∧ Cond.initialized "java/lang/System" ∈ qWA
theorem qv_ycpy (C : qC p l s m meth c cc nL own g) {K j K2 j2 idx : Nat} {sp dp n : Int32} (hB : qBy g K j) (hK2 : K2 = 61 ∨ K2 = 63 ∨ K2 = 66) (hm2 : (K2, j2) ∈ qX9 g) (hw : qcpw own idx) (hrest : (st.map qcat).sum ≤ 8) (hR : 1 ≤ R.frames ∧ 60 ≤ R.locals) (d : decode cc pc = .ok (.invokestatic idx, 3))
    (k : qcpok σ K j K2 j2 sp dp n → qV p l e R s m args below meth c g nL Qf o cb sb (pc + 3) L st (qrw σ K2 j2 (va_cpy (σ K j) (σ K2 j2) sp.toNatClampNeg dp.toNatClampNeg n.toNatClampNeg))) : qV p l e R s m args below meth c g nL Qf (if qcpok σ K j K2 j2 sp dp n then o else none) cb sb pc L (qI n :: qI dp :: qR K2 j2 :: qI sp :: qR K j :: st) σ := by
  by_cases h : qcpok σ K j K2 j2 sp dp n
  · rw [if_pos h]
    intro r hr ls H locs cells slots h1 h2 h3 h4 h5
    have C' := C
    obtain ⟨hx0, hb, hml, hown, hE, -, -⟩ := C
    obtain ⟨q1, hc1, hq1⟩ := qBy.dyn (σ := σ) (Or.inr (Or.inr ⟨hK2, hm2⟩)) (by omega)
    have hsh : qsh K2 = 11 := by rcases hK2 with rfl | rfl | rfl <;> rfl
    have hK' := h
    obtain ⟨⟨p1, p2, p3⟩, p4, p5, p6⟩ := h
    have i1 : ¬ sp < 0 := Int32.not_lt.mpr p1
    have i2 : ¬ dp < 0 := Int32.not_lt.mpr p2
    have i3 : ¬ n < 0 := Int32.not_lt.mpr p3
    have hlen : va_cpy (σ K j) (σ K2 j2) sp.toNatClampNeg dp.toNatClampNeg n.toNatClampNeg qLI = σ K2 j2 qLI := qcpy_len p5 (Nat.le_of_lt (qln_lt _))
    have hset : (qws g σ).set q1 (g.2.2.1 K2 j2, .inl (g.2.1 6, qln (σ K2 j2), .inl (va_cpy (σ K j) (σ K2 j2) sp.toNatClampNeg dp.toNatClampNeg n.toNatClampNeg))) = qws g (qrw σ K2 j2 (va_cpy (σ K j) (σ K2 j2) sp.toNatClampNeg dp.toNatClampNeg n.toNatClampNeg)) := by
      have e := qws_set (σ' := qrw σ K2 j2 (va_cpy (σ K j) (σ K2 j2) sp.toNatClampNeg dp.toNatClampNeg n.toNatClampNeg)) h2.2.1 hc1 hq1 (fun a b hab => qrw_ne σ _ hab)
      rw [qrw_at, qent11 hsh] at e
      rw [← e]
      congr 4
      unfold qln
      rw [hlen]
    have hlw : ((st.map (qcv g)).map fun v => v.category).sum + (nativeFrameWords "java/lang/System" "arraycopy" 5 + 11) ≤ R.locals := by
      rw [qcat_sum]
      have : nativeFrameWords "java/lang/System" "arraycopy" 5 ≤ 40 := by decide
      omega
    have K1 := fun (H1 : Heap) (locs1 : List Loc) hP1 hD1 hS1 => k hK' r hr ls H1 locs1 cells slots h1 ⟨hset ▸ hP1, hset ▸ hD1, h2.2.2.rw (by omega)⟩ hS1 h4 h5
    by_cases hc : K = 44 ∨ K = 46
    · obtain ⟨f, hT, hf⟩ := hB.env hc hE h2
      exact va_copyTb hx0 hb (hml.trans h1.1.symm) hown (qword hE.1 hw.1) (qword hE.1 hw.2.1) (qword hE.1 hw.2.2.1) (qword hE.1 hw.2.2.2) hE.1.1 h2.1 h2.2.1 h3 hT hf q1 6 hq1 (qty6 g) i1 i2 i3 p4 p5 (fun i hi => qbf_at p6 hi) hR.1 hlw d K1
    · obtain ⟨q0, -, hq⟩ := hB.dyn (σ := σ) hc
      exact va_copyi hx0 hb (hml.trans h1.1.symm) hown (qword hE.1 hw.1) (qword hE.1 hw.2.1) (qword hE.1 hw.2.2.1) (qword hE.1 hw.2.2.2) hE.1.1 h2.1 h2.2.1 h3 q0 q1 6 6 hq hq1 (qty6 g) (qty6 g) rfl i1 i2 i3 p4 p5 (fun i hi => qbf_at p6 hi) hR.1 hlw d K1
  · rw [if_neg h]; exact qV.no
/-- what clone() of bytes asks of the tables -/
def qclw (own : String) (idx : Nat) : Prop := Cond.methodLink own idx ⟨"[B", "clone", "()Ljava/lang/Object;"⟩ ∈ qWA ∧ Cond.sameMethod "[B" "java/lang/Object" "clone" "()Ljava/lang/Object;" ∈ qWA ∧ Cond.native ⟨"java/lang/Object", "clone", "()Ljava/lang/Object;"⟩ ∈ qWA ∧ Cond.instanceMethod ⟨"java/lang/Object", "clone", "()Ljava/lang/Object;"⟩ ∈ qWA ∧ Cond.selects "[B" ⟨"[B", "clone", "()Ljava/lang/Object;"⟩ ⟨"java/lang/Object", "clone", "()Ljava/lang/Object;"⟩ ∈ qWA ∧ Cond.castable "[B" "java/lang/Cloneable" ∈ qWA
theorem qfindB {g : qG} (h : qKt g s) : s.vm.findClass "[B" = some (g.2.1 6) := (h.1.2 6 _ (qty6 g)).2
theorem qv_yclo (C : qC p l s m meth c cc nL own g) {K j N idx : Nat} (hK : K = 61 ∨ K = 63) (hm : (K, j) ∈ qX9 g) (hw : qclw own idx) (hrest : (st.map qcat).sum ≤ 8) (hR : 1 ≤ R.frames ∧ 60 ≤ R.locals) (hL : qfL [(66, 0)] L) (hS : qfS [(66, 0)] st) (d : decode cc pc = .ok (.invokevirtual idx, 3))
    (k : ∀ g1 : qG, qC p l s m meth c cc nL own g1 → qEv [(66, 0)] g g1 → (66, 0) ∈ qX9 g1 → qV p l e R s m args below meth c g1 nL Qf o cb sb (pc + 3) L (qR 66 0 :: st) (qrw σ 66 0 (σ K j))) : qV p l e R s m args below meth c g nL Qf (if qln (σ K j) ≤ N ∧ qbf (σ K j) 0 (qln (σ K j)) = true then o else none) (cb + 1) (sb + N) pc L (qR K j :: st) σ := by
  by_cases h : qln (σ K j) ≤ N ∧ qbf (σ K j) 0 (qln (σ K j)) = true
  · rw [if_pos h]
    intro r hr ls H locs cells slots h1 h2 h3 h4 h5
    have C' := C
    obtain ⟨hx0, hb, hml, hown, hE, -, -⟩ := C
    obtain ⟨q0, hc0, hq⟩ := qBy.dyn (σ := σ) (Or.inr (Or.inr ⟨(by omega : K = 61 ∨ K = 63 ∨ K = 66), hm⟩)) (by omega)
    have hlw : ((st.map (qcv g)).map fun v => v.category).sum + 14 ≤ R.locals := by rw [qcat_sum]; omega
    refine va_clone (x := (qln (σ K j), .inl (σ K j))) hx0 hb (hml.trans h1.1.symm) hown (qword hE.1 hw.1) (qword hE.1 hw.2.1) (qword hE.1 hw.2.2.1) (qword hE.1 hw.2.2.2.1) (qword hE.1 hw.2.2.2.2.1) (va_Nw.of (A := args) rfl (qword hE.1 hw.2.2.2.2.2)) hE.1.1 h2.1 h2.2.1 h3 (qAf_new C') q0 6 hq (qty6 g) (qfindB hE.1) (fun i v hv => ?_) hR.1 hlw (by omega) (by show slots + qln (σ K j) ≤ _; omega) d (fun q H1 hK1 hP1 hD1 hS1 => ?_)
    · have hi : i < qln (σ K j) := by
        have := (Array.getElem?_eq_some_iff.mp hv).1
        rw [show (vp_cell (g.2.1 6) (qln (σ K j), .inl (σ K j))).slots.size = qln (σ K j) from arrV_size _ _ _] at this
        exact this
      have e : (vp_cell (g.2.1 6) (qln (σ K j), .inl (σ K j))).slots[i]? = some (.int (σ K j i)) := arrV_read _ _ hi
      rw [e] at hv
      cases hv
      have := qbf_at h.2 hi
      rwa [Nat.zero_add] at this
    · have hat := hP1 (qws g σ).length (q, .inl (g.2.1 6, qln (σ K j), .inl (σ K j))) (by simp)
      have hold : ∀ (i : Nat) (y : Nat × va_E), (qws g σ)[i]? = some y → va_at g.1 qcls y H1 ∧ y.1 ≠ q := by
        intro i y hy
        have hil : i < (qws g σ).length := (List.getElem?_eq_some_iff.mp hy).1
        refine ⟨hP1 i y (by rw [List.getElem?_append_left hil]; exact hy), fun he => ?_⟩
        have := hD1.1 i (qws g σ).length y (q, .inl (g.2.1 6, qln (σ K j), .inl (σ K j))) (by rw [List.getElem?_append_left hil]; exact hy) (by simp) he
        omega
      have hqA : qAf g q := hD1.2 (qws g σ).length (q, .inl (g.2.1 6, qln (σ K j), .inl (σ K j))) (by simp)
      have hH : qH (qbd g 66 0 q) (qrw σ 66 0 (σ K j)) H1 := by
        refine qH_bindW h2 (by decide) (by decide) (fun i y hy => (hold i y hy).1) (fun i y hy => (hold i y hy).2) hqA ?_
        rw [qent11 rfl]
        exact hat
      have E := qbd_ev (g := g) (j := 0) (a := q) (show 50 ≤ 66 by decide)
      have K1 := k (qbd g 66 0 q) (E.C C') E qbd_in r hr ls H1 locs (cells + 1) (slots + qln (σ K j)) (E.Ls hL h1) hH (by rw [E.Af]; exact hS1) (by omega) (by omega)
      rw [List.map_cons, E.map hS] at K1
      have eq1 : qcv (qbd g 66 0 q) (qR 66 0) = Value.ref q := qbd_at g 66 0 q
      rw [eq1] at K1
      exact K1
  · rw [if_neg h]; exact qV.no
theorem qv_ycast (C : qC p l s m meth c cc nL own g) {K j idx : Nat} (hK : K = 61 ∨ K = 63 ∨ K = 66) (hm : (K, j) ∈ qX9 g) (hw : Cond.classLink own idx "[B" ∈ qWA) (d : decode cc pc = .ok (.checkcast idx, 3)) (k : qV p l e R s m args below meth c g nL Qf o cb sb (pc + 3) L (qR K j :: st) σ) : qV p l e R s m args below meth c g nL Qf o cb sb pc L (qR K j :: st) σ := by
  intro r hr ls H locs cells slots h1 h2 h3 h4 h5
  obtain ⟨hx0, hb, hml, hown, hE, -, -⟩ := C
  obtain ⟨q0, hc0, hq⟩ := qBy.dyn (σ := σ) (Or.inr (Or.inr ⟨hK, hm⟩)) (by omega)
  exact va_castA hx0 hb hown (qword (a := args) hE.1 hw) h2.1 q0 hq (qfindB hE.1) d (k r hr ls H locs cells slots h1 h2 h3 h4 h5)
end QCPY
end
section
/-! CONTRACTS of methods that make what stays: names are bound anew; their calls -/
def qQg (D Rs : List (Nat × Nat)) (g : qG) (r : qO) : Array Value → State → Outcome → State → Prop := fun _ st oc t => (∃ (v : Option qA) (g1 : qG), r.1 = .inl v ∧ oc = .returned (v.map (qcv g1)) ∧ qEv D g g1 ∧ (∀ q ∈ Rs, q ∈ qX9 g1) ∧ qH g1 r.2 t.heap) ∧ va_F (qAf g) st t
/-- THE CONTRACT: whatever outcome o names, that is how it ends; names of D may be bound anew, those of Rs are held -/
def qMg (D Rs : List (Nat × Nat)) (g : qG) (l : Launch) (d mc ms : Nat) (w : Cond) (y : MethodName) (As : List qA) (σ : qS) (o : Option qO) : Prop := ∀ r : qO, o = some r → Met l y [w] (qrm d mc ms) (qPc g As σ) (qQg D Rs g r) mc ms (qAf g)
def qQfg (D Rs : List (Nat × Nat)) (g : qG) (below : List Frame) (args : Array Value) (s : State) (R : Room) : qO → State → Prop := fun r => MQ below (qQg D Rs g r) args s R.cells R.slots (qAf g)
section QGV
variable {p : Program} {l : Launch} {e : Env} {R : Room} {s : State} {m : MethodId} {args : Array Value} {below : List Frame} {meth : Method} {c : Code} {g g0 : qG} {nL : Nat} {Qf : qO → State → Prop} {o : Option qO} {cb sb pc : Nat} {L : List (Option qA)} {st : List qA} {σ : qS} {cc : ByteArray} {own : String} {D Rs : List (Nat × Nat)}
theorem qMg_of {d mc ms maxL : Nat} {cc : ByteArray} {y : MethodName} {ret : Option FieldType} {As : List qA} {o : Option qO} (hy : plainName y.cls = true) (hl : l.stackTraces = false) (hc : ∀ a ∈ As, qcat a = 1) (hlen : As.length ≤ maxL)
    (body : ∀ (p : Program) (e : Env) (s : State) (m : MethodId) (args : Array Value) (below : List Frame) (meth : Method) (c : Code), qC p l s m meth c cc maxL y.cls g → meth.sig.returnType = ret → meth.name = y.name → qV p l e (qrm d mc ms) s m args below meth c g maxL (qQfg D Rs g below args s (qrm d mc ms)) o mc ms 0 (qL0 maxL As) [] σ) :
    qMg D Rs g l d mc ms (.code y cc maxL ret) y As σ o := by
  intro r hr
  refine Met.ofW (cc := cc) (maxL := maxL) (ret := ret) hy rfl ?_
  intro p e s m args below meth c s₁ B hml hv
  obtain ⟨rfl, hE, hH⟩ := hv
  have hC : qC p l s m meth c cc maxL y.cls g := ⟨B.exec, B.bytes, hml, findClass_of_methodNamed B.named, hE, hl, B.notSynchronized⟩
  have K := body p e s m (List.map (qcv g) As).toArray below meth c hC B.returns (name_of_methodNamed B.named B.method).1 r hr
  rw [lg_entry_eq]
  refine K _ _ [] 0 0 ?_ hH va_S.rf (by simp) (by simp)
  have h0 := lv_entry (As.map (qcv g)) (n := maxL) (by rw [qlg_len g As hc]; exact hlen)
  refine ⟨h0.1, h0.2.1, fun q hq => ?_⟩
  obtain ⟨i, v, e1, e2, e3⟩ := qlc_mem g _ 0 q hq
  have h4 := qlv_args g As 0 i v hc (qL0_get e2)
  have h5 := h0.2.2 _ h4
  rw [e1, e3]
  exact h5
theorem qret_g {t : State} {H : Heap} {locs : List Loc} {v : Option qA} {σ : qS} (G : qEv D g0 g) (hR : ∀ q ∈ Rs, q ∈ qX9 g) (h2 : qH g σ H) (h3 : va_S (qAf g) s.heap H locs) (ht : t.heap = H) : qQg D Rs g0 (.inl v, σ) args s (.returned (v.map (qcv g))) t := ⟨⟨v, g, rfl, rfl, G, hR, by rw [ht]; exact h2⟩, by rw [← G.Af]; exact h3.F ht⟩
theorem qg_aret (C : qC p l s m meth c cc nL own g) (G : qEv D g0 g) (hR : ∀ q ∈ Rs, q ∈ qX9 g) {rt : FieldType} (hr : meth.sig.returnType = some rt) (hrt : (∃ n, rt = .object n) ∨ ∃ t, rt = .array t) {a : Nat × Nat} (d : decode cc pc = .ok (.areturn, 1)) : qV p l e R s m args below meth c g nL (qQfg D Rs g0 below args s R) (some (.inl (some (.inr a)), σ)) cb sb pc L [.inr a] σ := by
  intro r h0 ls H locs cells slots h1 h2 h3 h4 h5
  cases h0
  obtain ⟨hx0, hb, hml, hown, hE, -, hlk⟩ := C
  exact W.widen (by omega) (by omega) (W.aret (v := qcv g (.inr a)) hx0 hb hr hrt (Or.inr ⟨_, rfl⟩) (fun t ht hW => qret_g (v := some (.inr a)) G hR h2 h3 ht) (by rw [← G.Af]; exact h3.2.2) d hlk)
theorem qg_vret (C : qC p l s m meth c cc nL own g) (G : qEv D g0 g) (hR : ∀ q ∈ Rs, q ∈ qX9 g) (hr : meth.sig.returnType = none) (d : decode cc pc = .ok (.return_, 1)) : qV p l e R s m args below meth c g nL (qQfg D Rs g0 below args s R) (some (.inl none, σ)) cb sb pc L [] σ := by
  intro r h0 ls H locs cells slots h1 h2 h3 h4 h5
  cases h0
  obtain ⟨hx0, hb, hml, hown, hE, -, hlk⟩ := C
  exact W.widen (by omega) (by omega) (W.vret hx0 hb hr (fun t ht hW => qret_g (v := none) G hR h2 h3 ht) (by rw [← G.Af]; exact h3.2.2) d hlk)
theorem qg_zret! (C : qC p l s m meth c cc nL own g) (G : qEv D g0 g) (hR : ∀ q ∈ Rs, q ∈ qX9 g) {ty : FieldType} (hr : meth.sig.returnType = some ty) {x : Int32} (hn : narrow ty (.int x) = .int x) (d : decode cc pc = .ok (.ireturn, 1)) : qV p l e R s m args below meth c g nL (qQfg D Rs g0 below args s R) (some (.inl (some (qI x)), σ)) cb sb pc L [qI x] σ := by
  intro r h0 ls H locs cells slots h1 h2 h3 h4 h5
  cases h0
  obtain ⟨hx0, hb, hml, hown, hE, -, hlk⟩ := C
  exact W.widen (by omega) (by omega) (W.zret hx0 hb hr hn (fun t ht hW => qret_g (v := some (qI x)) G hR h2 h3 ht) (by rw [← G.Af]; exact h3.2.2) d hlk)
theorem qg_bret (C : qC p l s m meth c cc nL own g) (G : qEv D g0 g) (hR : ∀ q ∈ Rs, q ∈ qX9 g) (hr : meth.sig.returnType = some .boolean) {x : Int32} (d : decode cc pc = .ok (.ireturn, 1)) : qV p l e R s m args below meth c g nL (qQfg D Rs g0 below args s R) (if qbo x then some (.inl (some (qI x)), σ) else none) cb sb pc L [qI x] σ := by
  by_cases h : qbo x
  · rw [if_pos h]; exact qg_zret! C G hR hr (qbo_nar h) d
  · rw [if_neg h]; exact qV.no
/-- after such a call -/
theorem qv_coreg {H : Heap} {locs : List Loc} {cells slots mc ms : Nat} {Q : State → Prop} {ls : Array Slot} {st0 rest : List Value} {r1 : qO} {a : Array Value} (hr : va_Run p l e R s m args below meth c H locs cells slots mc ms (F0 m pc ls st0) rest (qQg D Rs g r1 a) (qAf g)) (hS : va_S (qAf g) s.heap H locs)
    (kv : ∀ (v : Option qA) (g1 : qG), r1.1 = .inl v → qEv D g g1 → (∀ q ∈ Rs, q ∈ qX9 g1) → ∀ (H1 : Heap) (locs1 : List Loc), qH g1 r1.2 H1 → va_S (qAf g) s.heap H1 locs1 → W p l e R s m args below meth c H1 locs1 (cells + mc) (slots + ms) Q (F0 m (pc + 3) ls ((v.map (qcv g1)).toList ++ rest))) :
    W p l e R s m args below meth c H locs cells slots Q (F0 m pc ls st0) := by
  intro T hT X
  obtain ⟨v, st₀, t, T', L', h0, X', hL, e1, e2, ⟨⟨v2, g1, hv, hv2, hEv, hRs, hb⟩, hF⟩, st⟩ := hr T hT X
  cases hv2
  obtain ⟨k1, k2, k3⟩ := vx_keep h0 e1 hS (fun q _ h => h) (fun q h => h) hL hF
  obtain ⟨t2, a1, b1⟩ := kv v2 g1 hv hEv hRs T'.heap (locs ++ L') (by rw [e1]; exact hb) k3 T' rfl X'
  exact ⟨t2, st t2 a1, b1⟩
theorem qg_go {H1 : Heap} {locs1 : List Loc} {cells slots mc ms : Nat} {g1 : qG} {ls : Array Slot} {r : qO} {v : Option qA} {σ1 : qS} {rest : List qA} {kv : Option qA → qS → Option qO} (C : qC p l s m meth c cc nL own g) (hr : kv v σ1 = some r) (h1 : qLs g ls nL L) (hL : qfL D L) (hS : qfS D rest) (E : qEv D g g1) (hRs : ∀ q ∈ Rs, q ∈ qX9 g1) (hb1 : qH g1 σ1 H1) (hS1 : va_S (qAf g) s.heap H1 locs1) (h4 : cells + mc + cb ≤ R.cells) (h5 : slots + ms + sb ≤ R.slots)
    (k : ∀ (v : Option qA) (σ1 : qS) (g1 : qG), qC p l s m meth c cc nL own g1 → qEv D g g1 → (∀ q ∈ Rs, q ∈ qX9 g1) → qV p l e R s m args below meth c g1 nL Qf (kv v σ1) cb sb (pc + 3) L (v.toList ++ rest) σ1) : W p l e R s m args below meth c H1 locs1 (cells + mc) (slots + ms) (Qf r) (F0 m (pc + 3) ls ((v.map (qcv g1)).toList ++ rest.map (qcv g))) := by
  rw [← E.map hS, qv_map]
  exact k v σ1 g1 (E.C C) E hRs r hr ls H1 locs1 _ _ (E.Ls hL h1) hb1 (by rw [E.Af]; exact hS1) h4 h5
/-- a static call -/
theorem qg_callS (C : qC p l s m meth c cc nL own g) {idx mL n d mc ms : Nat} {y : MethodName} {b : ByteArray} {ret : Option FieldType} {As rest : List qA} {o1 : Option qO} {kv : Option qA → qS → Option qO} (hM : qMg D Rs g l d mc ms (.code y b mL ret) y As σ o1) (hw : qMw y b mL n ret) (hl : Cond.methodLink own idx y ∈ qWA) (hstt : Cond.static y ∈ qWA) (hL : qfL D L) (hS : qfS D rest) (hn : As.length = n) (hrest : (rest.map qcat).sum ≤ 8) (hR : d + 11 ≤ R.frames ∧ 8 + (mL + 11) + (64 * d + 1000) ≤ R.locals) (dd : decode cc pc = .ok (.invokestatic idx, 3)) (hst : st = As.reverse ++ rest) (k : ∀ (v : Option qA) (σ1 : qS) (g1 : qG), qC p l s m meth c cc nL own g1 → qEv D g g1 → (∀ q ∈ Rs, q ∈ qX9 g1) → qV p l e R s m args below meth c g1 nL Qf (kv v σ1) cb sb (pc + 3) L (v.toList ++ rest) σ1) : qV p l e R s m args below meth c g nL Qf (qbind o1 kv qE0) (mc + cb) (ms + sb) pc L st σ := by
  subst hst
  intro r hr ls H locs cells slots h1 h2 h3 h4 h5
  match o1, hM, hr with
  | none, _, hr => cases hr
  | some (.inr E, σ1), _, hr => cases hr
  | some (.inl v, σ1), hM, hr =>
    have C' := C
    obtain ⟨hx0, hb, hml, hown, hE, -, -⟩ := C
    refine qv_coreg (va_runS (As := As.map (qcv g)) (rest := rest.map (qcv g)) ⟨hx0, hb, hml, hown, qwords (a := args) hE.1⟩ (hM _ rfl) ⟨qCallB hE.1 hw hl hR, qword hE.1 hstt⟩ ⟨qPc_blind, fun U hU hW => ⟨rfl, hE.go hW h3 hU, by rw [hU]; exact h2⟩⟩ rfl (by rw [List.length_map]; exact hn) h1.1 (by rw [List.map_append, List.map_reverse]) (qroom hrest) dd ⟨by omega, by omega⟩) h3 (fun v2 g1 hv2 E hRs H1 locs1 hb1 hS1 => ?_)
    cases hv2
    exact qg_go C' hr h1 hL hS E hRs hb1 hS1 (by omega) (by omega) k
/-- the cell of a builder, of a text -/
theorem qocell (h : qKt g s) {H : Heap} {K KB ci j : Nat} {C0 : String} {T : u_T} (ho : qob K KB ci) (hm : (K, j) ∈ qX9 g) (h2 : qH g σ H) (hc : qcls[ci]? = some (C0, T, 4)) : ∃ cellB : Cell, H[g.2.2.1 K j]? = some cellB ∧ cellB.vm.isStatics = false ∧ s.vm.findClass C0 = some cellB.cls := by
  obtain ⟨q0, -, hq⟩ := qws_in g σ (List.mem_append_right qcl hm)
  rw [qob_ent ho] at hq
  exact va_recv h.1 h2.1 hc hq
theorem qscell (h : qE g s s.heap) {H : Heap} {locs : List Loc} {K j : Nat} (hs : qSt g K j) (h2 : qH g σ H) (h3 : va_S (qAf g) s.heap H locs) : ∃ cellB : Cell, H[g.2.2.1 K j]? = some cellB ∧ cellB.vm.isStatics = false ∧ s.vm.findClass RJ0 = some cellB.cls := by
  rcases hs with ⟨rfl, hj⟩ | ⟨rfl, hm, -⟩
  · obtain ⟨cell, e1, e2, e3, -⟩ := (h.2.2.1 j hj).1.kept h3.2.1
    exact ⟨cell, e1, e2, e3⟩
  · exact qocell h.1 (Or.inl ⟨rfl, rfl, rfl⟩) hm h2 rfl
/-- a virtual call on a builder, of its own class's method -/
theorem qg_callV (C : qC p l s m meth c cc nL own g) {idx mL n d mc ms j : Nat} {y : MethodName} {b : ByteArray} {ret : Option FieldType} {As rest : List qA} {o1 : Option qO} {kv : Option qA → qS → Option qO} (hM : qMg D Rs g l d mc ms (.code y b mL ret) y (qR 62 j :: As) σ o1) (hw : qMw y b mL n ret) (hl : Cond.methodLink own idx y ∈ qWA) (hin : Cond.instanceMethod y ∈ qWA) (hse : Cond.selects RJ4 y y ∈ qWA) (hm : (62, j) ∈ qX9 g) (hL : qfL D L) (hS : qfS D rest) (hn : As.length = n) (hrest : (rest.map qcat).sum ≤ 8) (hR : d + 11 ≤ R.frames ∧ 8 + (mL + 11) + (64 * d + 1000) ≤ R.locals) (dd : decode cc pc = .ok (.invokevirtual idx, 3)) (hst : st = As.reverse ++ qR 62 j :: rest) (k : ∀ (v : Option qA) (σ1 : qS) (g1 : qG), qC p l s m meth c cc nL own g1 → qEv D g g1 → (∀ q ∈ Rs, q ∈ qX9 g1) → qV p l e R s m args below meth c g1 nL Qf (kv v σ1) cb sb (pc + 3) L (v.toList ++ rest) σ1) : qV p l e R s m args below meth c g nL Qf (qbind o1 kv qE0) (mc + cb) (ms + sb) pc L st σ := by
  subst hst
  intro r hr ls H locs cells slots h1 h2 h3 h4 h5
  match o1, hM, hr with
  | none, _, hr => cases hr
  | some (.inr E, σ1), _, hr => cases hr
  | some (.inl v, σ1), hM, hr =>
    have C' := C
    obtain ⟨hx0, hb, hml, hown, hE, -, -⟩ := C
    refine qv_coreg (va_runV (C := RJ4) (b := g.2.2.1 62 j) (As := As.map (qcv g)) (rest := rest.map (qcv g)) ⟨hx0, hb, hml, hown, qwords (a := args) hE.1⟩ (hM _ rfl) ⟨qCallB hE.1 hw hl hR, qword hE.1 hin, qword hE.1 hse⟩ ⟨qPc_blind, qocell hE.1 (Or.inr ⟨rfl, rfl, rfl⟩) hm h2 rfl, fun U hU hW => ⟨rfl, hE.go hW h3 hU, by rw [hU]; exact h2⟩⟩ rfl (by rw [List.length_map]; exact hn) h1.1 (by simp [qcv]) (qroom hrest) dd ⟨by omega, by omega⟩) h3 (fun v2 g1 hv2 E hRs H1 locs1 hb1 hS1 => ?_)
    cases hv2
    exact qg_go C' hr h1 hL hS E hRs hb1 hS1 (by omega) (by omega) k
/-- a constructor's call -/
theorem qg_callI (C : qC p l s m meth c cc nL own g) {idx mL n d mc ms K j : Nat} {y : MethodName} {b : ByteArray} {As rest : List qA} {o1 : Option qO} {kv : Option qA → qS → Option qO} (hM : qMg D Rs g l d mc ms (.code y b mL none) y (qR K j :: As) σ o1) (hw : qMw y b mL n none) (hl : Cond.methodLink own idx y ∈ qWA) (hin : Cond.instanceMethod y ∈ qWA) (hy : y.name = "<init>") (hL : qfL D L) (hS : qfS D rest) (hn : As.length = n) (hrest : (rest.map qcat).sum ≤ 8) (hR : d + 11 ≤ R.frames ∧ 8 + (mL + 11) + (64 * d + 1000) ≤ R.locals) (dd : decode cc pc = .ok (.invokespecial idx, 3)) (hst : st = As.reverse ++ qR K j :: rest) (k : ∀ (v : Option qA) (σ1 : qS) (g1 : qG), qC p l s m meth c cc nL own g1 → qEv D g g1 → (∀ q ∈ Rs, q ∈ qX9 g1) → qV p l e R s m args below meth c g1 nL Qf (kv v σ1) cb sb (pc + 3) L (v.toList ++ rest) σ1) : qV p l e R s m args below meth c g nL Qf (qbind o1 kv qE0) (mc + cb) (ms + sb) pc L st σ := by
  subst hst
  intro r hr ls H locs cells slots h1 h2 h3 h4 h5
  match o1, hM, hr with
  | none, _, hr => cases hr
  | some (.inr E, σ1), _, hr => cases hr
  | some (.inl v, σ1), hM, hr =>
    have C' := C
    obtain ⟨hx0, hb, hml, hown, hE, -, -⟩ := C
    refine qv_coreg (va_runI (b := g.2.2.1 K j) (As := As.map (qcv g)) (rest := rest.map (qcv g)) ⟨hx0, hb, hml, hown, qwords (a := args) hE.1⟩ (hM _ rfl) ⟨qCallB hE.1 hw hl hR, hy, qword hE.1 hin⟩ ⟨qPc_blind, fun U hU hW => ⟨rfl, hE.go hW h3 hU, by rw [hU]; exact h2⟩⟩ rfl (by rw [List.length_map]; exact hn) h1.1 (by simp [qcv]) (qroom hrest) dd ⟨by omega, by omega⟩) h3 (fun v2 g1 hv2 E hRs H1 locs1 hb1 hS1 => ?_)
    cases hv2
    exact qg_go C' hr h1 hL hS E hRs hb1 hS1 (by omega) (by omega) k
/-- a method that a builder's class inherits, or that is private above: what its call wants -/
def qMu (x y : MethodName) (b : ByteArray) (mL n : Nat) (ret : Option FieldType) : Prop :=
  Cond.code y b mL ret ∈ qWA ∧ Cond.initialized y.cls ∈ qWA ∧ (x.cls ≠ "java/lang/invoke/MethodHandle" ∧ x.cls ≠ "java/lang/invoke/VarHandle") ∧ (parseMethodDescriptor x.desc).map (fun d => d.parameters.length) = some n ∧ Cond.sameMethod x.cls x.cls x.name x.desc ∈ qWA ∧ (Cond.instanceMethod x ∈ qWA ∧ ∃ (b0 : ByteArray) (m0 : Nat) (r0 : Option FieldType), Cond.code x b0 m0 r0 ∈ qWA) ∧ Cond.selects RJ4 x y ∈ qWA ∧ Cond.instanceMethod y ∈ qWA
theorem qCU {idx mL n d mc ms : Nat} {x y : MethodName} {b : ByteArray} {ret : Option FieldType} (h : qKt g s) (hw : qMu x y b mL n ret) (hl : Cond.methodLink own idx x ∈ qWA) (hR : d + 11 ≤ R.frames ∧ 8 + (mL + 11) + (64 * d + 1000) ≤ R.locals) :
    va_CU R s args own RJ4 x.cls idx x y b mL ret [.code y b mL ret] (qrm d mc ms) mc ms n := by
  obtain ⟨h1, h2, h3, h4, h5, ⟨h6, b0, m0, r0, h7⟩, h8, h9⟩ := hw
  refine ⟨⟨rfl, rfl, by show d + 10 + 1 ≤ _; omega, hR.2, qword1 h h1, List.mem_singleton.mpr rfl⟩, qword h h1, qword h h2, h3, fun sig hs => ?_, qword h hl, qword h h5, va_Decl.of (args := args) (qword h h6) (qword h h7), qword h h8, qword h h9⟩
  rw [hs] at h4
  exact (Option.some.inj h4).symm
theorem qg_callU (C : qC p l s m meth c cc nL own g) {idx mL n d mc ms j : Nat} {x y : MethodName} {b : ByteArray} {ret : Option FieldType} {As rest : List qA} {o1 : Option qO} {kv : Option qA → qS → Option qO} (hM : qMg D Rs g l d mc ms (.code y b mL ret) y (qR 62 j :: As) σ o1) (hw : qMu x y b mL n ret) (hl : Cond.methodLink own idx x ∈ qWA) (hm : (62, j) ∈ qX9 g) (hL : qfL D L) (hS : qfS D rest) (hn : As.length = n) (hrest : (rest.map qcat).sum ≤ 8) (hR : d + 11 ≤ R.frames ∧ 8 + (mL + 11) + (64 * d + 1000) ≤ R.locals) (dd : decode cc pc = .ok (.invokevirtual idx, 3)) (hst : st = As.reverse ++ qR 62 j :: rest) (k : ∀ (v : Option qA) (σ1 : qS) (g1 : qG), qC p l s m meth c cc nL own g1 → qEv D g g1 → (∀ q ∈ Rs, q ∈ qX9 g1) → qV p l e R s m args below meth c g1 nL Qf (kv v σ1) cb sb (pc + 3) L (v.toList ++ rest) σ1) : qV p l e R s m args below meth c g nL Qf (qbind o1 kv qE0) (mc + cb) (ms + sb) pc L st σ := by
  subst hst
  intro r hr ls H locs cells slots h1 h2 h3 h4 h5
  match o1, hM, hr with
  | none, _, hr => cases hr
  | some (.inr E, σ1), _, hr => cases hr
  | some (.inl v, σ1), hM, hr =>
    have C' := C
    obtain ⟨hx0, hb, hml, hown, hE, -, -⟩ := C
    refine qv_coreg (va_runU (b := g.2.2.1 62 j) (As := As.map (qcv g)) (rest := rest.map (qcv g)) ⟨hx0, hb, hml, hown, qwords (a := args) hE.1⟩ (hM _ rfl) (qCU hE.1 hw hl hR) ⟨qPc_blind, qocell hE.1 (Or.inr ⟨rfl, rfl, rfl⟩) hm h2 rfl, fun U hU hW => ⟨rfl, hE.go hW h3 hU, by rw [hU]; exact h2⟩⟩ rfl (by rw [List.length_map]; exact hn) h1.1 (by simp [qcv]) (qroom hrest) dd ⟨by omega, by omega⟩) h3 (fun v2 g1 hv2 E hRs H1 locs1 hb1 hS1 => ?_)
    cases hv2
    exact qg_go C' hr h1 hL hS E hRs hb1 hS1 (by omega) (by omega) k
/-- such a call that binds nothing anew -/
theorem qv_callU (C : qC p l s m meth c cc nL own g) {idx mL n d mc ms j : Nat} {x y : MethodName} {b : ByteArray} {ret : Option FieldType} {As rest : List qA} {o1 : Option qO} {kv : Option qA → qS → Option qO} (hM : qM g l d mc ms (.code y b mL ret) y (qR 62 j :: As) σ o1) (hw : qMu x y b mL n ret) (hl : Cond.methodLink own idx x ∈ qWA) (hm : (62, j) ∈ qX9 g) (hn : As.length = n) (hrest : (rest.map qcat).sum ≤ 8) (hR : d + 11 ≤ R.frames ∧ 8 + (mL + 11) + (64 * d + 1000) ≤ R.locals) (dd : decode cc pc = .ok (.invokevirtual idx, 3)) (hst : st = As.reverse ++ qR 62 j :: rest) (k : ∀ (v : Option qA) (σ1 : qS), qV p l e R s m args below meth c g nL Qf (kv v σ1) cb sb (pc + 3) L (v.toList ++ rest) σ1) : qV p l e R s m args below meth c g nL Qf (qbind o1 kv qE0) (mc + cb) (ms + sb) pc L st σ := by
  subst hst
  intro r hr ls H locs cells slots h1 h2 h3 h4 h5
  match o1, hM, hr with
  | none, _, hr => cases hr
  | some (.inr E, σ1), _, hr => cases hr
  | some (.inl v, σ1), hM, hr =>
    have hrun : vx_Run p l e R s m args below meth c H locs cells slots mc ms (F0 m pc ls ((As.reverse ++ qR 62 j :: rest).map (qcv g))) (rest.map (qcv g)) (qQ g (.inl v, σ1) ((qR 62 j :: As).map (qcv g)).toArray) (qX g (.inl v, σ1)) (qAf g) := by
      obtain ⟨hx0, hb, hml, hown, hE, -, -⟩ := C
      exact qrun_of (va_runU (b := g.2.2.1 62 j) (As := As.map (qcv g)) (rest := rest.map (qcv g)) ⟨hx0, hb, hml, hown, qwords (a := args) hE.1⟩ (qM_met hM rfl) (qCU hE.1 hw hl hR) ⟨qPc_blind, qocell hE.1 (Or.inr ⟨rfl, rfl, rfl⟩) hm h2 rfl, fun U hU hW => ⟨rfl, hE.go hW h3 hU, by rw [hU]; exact h2⟩⟩ rfl (by rw [List.length_map]; exact hn) h1.1 (by simp [qcv]) (qroom hrest) dd ⟨by omega, by omega⟩)
    refine qv_core hrun h3 (fun v2 hv2 H1 locs1 hb1 hS1 => ?_) (fun E hE2 => ?_)
    · cases hv2
      rw [qv_map]
      exact k v σ1 r hr ls H1 locs1 _ _ h1 hb1 hS1 (by omega) (by omega)
    · cases hE2
/-- a call of a text's method -/
theorem qv_callT (C : qC p l s m meth c cc nL own g) {idx mL n d mc ms K j : Nat} {y : MethodName} {b : ByteArray} {ret : Option FieldType} {As rest : List qA} {o1 : Option qO} {kv : Option qA → qS → Option qO} (hM : qM g l d mc ms (.code y b mL ret) y (qR K j :: As) σ o1) (hw : qMw y b mL n ret) (hl : Cond.methodLink own idx y ∈ qWA) (hin : Cond.instanceMethod y ∈ qWA) (hse : Cond.selects RJ0 y y ∈ qWA) (hj : qSt g K j) (hn : As.length = n) (hrest : (rest.map qcat).sum ≤ 8) (hR : d + 11 ≤ R.frames ∧ 8 + (mL + 11) + (64 * d + 1000) ≤ R.locals) (dd : decode cc pc = .ok (.invokevirtual idx, 3)) (hst : st = As.reverse ++ qR K j :: rest) (k : ∀ (v : Option qA) (σ1 : qS), qV p l e R s m args below meth c g nL Qf (kv v σ1) cb sb (pc + 3) L (v.toList ++ rest) σ1) : qV p l e R s m args below meth c g nL Qf (qbind o1 kv qE0) (mc + cb) (ms + sb) pc L st σ := by
  subst hst
  intro r hr ls H locs cells slots h1 h2 h3 h4 h5
  match o1, hM, hr with
  | none, _, hr => cases hr
  | some (.inr E, σ1), _, hr => cases hr
  | some (.inl v, σ1), hM, hr =>
    have hrun : vx_Run p l e R s m args below meth c H locs cells slots mc ms (F0 m pc ls ((As.reverse ++ qR K j :: rest).map (qcv g))) (rest.map (qcv g)) (qQ g (.inl v, σ1) ((qR K j :: As).map (qcv g)).toArray) (qX g (.inl v, σ1)) (qAf g) := by
      obtain ⟨hx0, hb, hml, hown, hE, -, -⟩ := C
      exact vx_runV (C := RJ0) (b := g.2.2.1 K j) (As := As.map (qcv g)) (rest := rest.map (qcv g)) ⟨hx0, hb, hml, hown, qwords (a := args) hE.1⟩ (hM _ rfl) ⟨qCallB hE.1 hw hl hR, qword hE.1 hin, qword hE.1 hse⟩ ⟨qPc_blind, qscell hE hj h2 h3, fun U hU hW => ⟨rfl, hE.go hW h3 hU, by rw [hU]; exact h2⟩⟩ rfl (by rw [List.length_map]; exact hn) h1.1 (by simp [qcv]) (qroom hrest) dd ⟨by omega, by omega⟩
    refine qv_core hrun h3 (fun v2 hv2 H1 locs1 hb1 hS1 => ?_) (fun E hE2 => ?_)
    · cases hv2
      rw [qv_map]
      exact k v σ1 r hr ls H1 locs1 _ _ h1 hb1 hS1 (by omega) (by omega)
    · cases hE2
/-- super.m(..) on a builder -/
theorem qg_callP (C : qC p l s m meth c cc nL RJ4 g) {idx mL n d mc ms j : Nat} {y : MethodName} {b : ByteArray} {ret : Option FieldType} {As rest : List qA} {o1 : Option qO} {kv : Option qA → qS → Option qO} (hM : qMg D Rs g l d mc ms (.code y b mL ret) y (qR 62 j :: As) σ o1) (hw : qMw y b mL n ret) (hl : Cond.methodLink RJ4 idx y ∈ qWA) (hin : Cond.instanceMethod y ∈ qWA) (hsm : Cond.sameMethod y.cls y.cls y.name y.desc ∈ qWA ∧ Cond.superclass RJ4 y.cls ∈ qWA ∧ y.name ≠ "<init>" ∧ Cond.instantiable RJ4 4 ∈ qWA) (hm : (62, j) ∈ qX9 g) (hL : qfL D L) (hS : qfS D rest) (hn : As.length = n) (hrest : (rest.map qcat).sum ≤ 8) (hR : d + 11 ≤ R.frames ∧ 8 + (mL + 11) + (64 * d + 1000) ≤ R.locals) (dd : decode cc pc = .ok (.invokespecial idx, 3)) (hst : st = As.reverse ++ qR 62 j :: rest) (k : ∀ (v : Option qA) (σ1 : qS) (g1 : qG), qC p l s m meth c cc nL RJ4 g1 → qEv D g g1 → (∀ q ∈ Rs, q ∈ qX9 g1) → qV p l e R s m args below meth c g1 nL Qf (kv v σ1) cb sb (pc + 3) L (v.toList ++ rest) σ1) : qV p l e R s m args below meth c g nL Qf (qbind o1 kv qE0) (mc + cb) (ms + sb) pc L st σ := by
  subst hst
  intro r hr ls H locs cells slots h1 h2 h3 h4 h5
  match o1, hM, hr with
  | none, _, hr => cases hr
  | some (.inr E, σ1), _, hr => cases hr
  | some (.inl v, σ1), hM, hr =>
    have C' := C
    obtain ⟨hx0, hb, hml, hown, hE, -, -⟩ := C
    obtain ⟨w1, w2, w3, w4⟩ := hw
    have hKn := hE.1.1.1 7 _ (show qcls[7]? = some (RJ4, TJ4, 4) from rfl)
    refine qv_coreg (va_runSU (cC := g.1.1 7) (C := RJ4) (b := g.2.2.1 62 j) (As := As.map (qcv g)) (rest := rest.map (qcv g)) ⟨hKn.2.1, hKn.2.2⟩ ⟨hx0, hb, hml, hown, qwords (a := args) hE.1⟩ (hM _ rfl) ⟨⟨rfl, rfl, by show d + 10 + 1 ≤ _; omega, hR.2, qword1 hE.1 w1, List.mem_singleton.mpr rfl⟩, qword hE.1 hl, qword hE.1 hsm.1, qword hE.1 hsm.2.1, qword hE.1 hin, qword hE.1 w2, qword hE.1 w1, hsm.2.2.1, fun sig hs => (by rw [hs] at w4; exact (Option.some.inj w4).symm)⟩ ⟨qPc_blind, qocell hE.1 (Or.inr ⟨rfl, rfl, rfl⟩) hm h2 rfl, fun U hU hW => ⟨rfl, hE.go hW h3 hU, by rw [hU]; exact h2⟩⟩ rfl (by rw [List.length_map]; exact hn) h1.1 (by simp [qcv]) (qroom hrest) dd ⟨by omega, by omega⟩) h3 (fun v2 g1 hv2 E hRs H1 locs1 hb1 hS1 => ?_)
    cases hv2
    exact qg_go C' hr h1 hL hS E hRs hb1 hS1 (by omega) (by omega) k
/-- Object's constructor -/
theorem qv_obj (C : qC p l s m meth c cc nL own g) {idx : Nat} {a : Nat × Nat} (hl : Cond.methodLink own idx objectInit ∈ qWA) (ho : Cond.instanceMethod objectInit ∈ qWA ∧ Cond.code objectInit ⟨#[0xb1]⟩ 1 none ∈ qWA) (hR : 1 ≤ R.frames ∧ 40 ≤ R.locals) (hst : (st.map qcat).sum ≤ 8) (d : decode cc pc = .ok (.invokespecial idx, 3)) (k : qV p l e R s m args below meth c g nL Qf o cb sb (pc + 3) L st σ) : qV p l e R s m args below meth c g nL Qf o cb sb pc L (.inr a :: st) σ := by
  intro r hr ls H locs cells slots h1 h2 h3 h4 h5
  obtain ⟨hx0, hb, hml, hown, hE, -, -⟩ := C
  refine W.objInit hx0 hb hown (qword hE.1 hl) (qword hE.1 ho.1) (qword hE.1 ho.2) rfl (h1.1.trans hml.symm) rfl d hR.1 ?_ (k r hr ls H locs cells slots h1 h2 h3 h4 h5)
  have := qroom (g := g) (m := m) (pc := pc) (ls := ls) (st0 := List.map (qcv g) (Sum.inr a :: st)) hst
  omega
/-- an evolved world, seen by the names that were -/
theorem qgI {k : Int32 → qS → Option qO} {rest : List qA} {P : qG → Prop} (h : ∀ (x : Int32) (σ1 : qS) (g1 : qG), qC p l s m meth c cc nL own g1 → qEv D g g1 → (∀ q ∈ Rs, q ∈ qX9 g1) → qV p l e R s m args below meth c g1 nL Qf (k x σ1) cb sb pc L (qI x :: rest) σ1) : ∀ (v : Option qA) (σ1 : qS) (g1 : qG), qC p l s m meth c cc nL own g1 → qEv D g g1 → (∀ q ∈ Rs, q ∈ qX9 g1) → qV p l e R s m args below meth c g1 nL Qf (qvI k v σ1) cb sb pc L (v.toList ++ rest) σ1
  | some (.inl (.int x)), σ1, g1, C1, E, hR => h x σ1 g1 C1 E hR
  | none, _, _, _, _, _ | some (.inl (.long _)), _, _, _, _, _ | some (.inl (.float _)), _, _, _, _, _ | some (.inl (.double _)), _, _, _, _, _ | some (.inl .null), _, _, _, _, _ | some (.inl (.ref _)), _, _, _, _, _ | some (.inl (.retAddr _)), _, _, _, _, _ | some (.inr _), _, _, _, _, _ => qV.no
theorem qgV {k : qS → Option qO} {rest : List qA} (h : ∀ (σ1 : qS) (g1 : qG), qC p l s m meth c cc nL own g1 → qEv D g g1 → (∀ q ∈ Rs, q ∈ qX9 g1) → qV p l e R s m args below meth c g1 nL Qf (k σ1) cb sb pc L rest σ1) : ∀ (v : Option qA) (σ1 : qS) (g1 : qG), qC p l s m meth c cc nL own g1 → qEv D g g1 → (∀ q ∈ Rs, q ∈ qX9 g1) → qV p l e R s m args below meth c g1 nL Qf (qvV k v σ1) cb sb pc L (v.toList ++ rest) σ1
  | none, σ1, g1, C1, E, hR => h σ1 g1 C1 E hR
  | some _, _, _, _, _, _ => qV.no
end QGV
/-- a reference that is this name -/
def qvM (K J : Nat) (k : qS → Option qO) : Option qA → qS → Option qO := fun v σ => match v with
  | some (.inr q) => if q.1 = K ∧ q.2 = J then k σ else none
  | _ => none
section QGV2
variable {p : Program} {l : Launch} {e : Env} {R : Room} {s : State} {m : MethodId} {args : Array Value} {below : List Frame} {meth : Method} {c : Code} {g : qG} {nL : Nat} {Qf : qO → State → Prop} {cb sb pc : Nat} {L : List (Option qA)} {cc : ByteArray} {own : String} {D Rs : List (Nat × Nat)}
theorem qgM {K J : Nat} {k : qS → Option qO} {rest : List qA} (h : ∀ (σ1 : qS) (g1 : qG), qC p l s m meth c cc nL own g1 → qEv D g g1 → (∀ q ∈ Rs, q ∈ qX9 g1) → qV p l e R s m args below meth c g1 nL Qf (k σ1) cb sb pc L (qR K J :: rest) σ1) : ∀ (v : Option qA) (σ1 : qS) (g1 : qG), qC p l s m meth c cc nL own g1 → qEv D g g1 → (∀ q ∈ Rs, q ∈ qX9 g1) → qV p l e R s m args below meth c g1 nL Qf (qvM K J k v σ1) cb sb pc L (v.toList ++ rest) σ1
  | some (.inr (K', J')), σ1, g1, C1, E, hR => by
    show qV p l e R s m args below meth c g1 nL Qf (if K' = K ∧ J' = J then k σ1 else none) cb sb pc L (qR K' J' :: rest) σ1
    by_cases h1 : K' = K ∧ J' = J
    · rw [if_pos h1]; obtain ⟨rfl, rfl⟩ := h1; exact h σ1 g1 C1 E hR
    · rw [if_neg h1]; exact qV.no
  | none, _, _, _, _, _ | some (.inl _), _, _, _, _, _ => qV.no
theorem qkM {K J : Nat} {k : qS → Option qO} {rest : List qA} (h : ∀ (σ1 : qS), qV p l e R s m args below meth c g nL Qf (k σ1) cb sb pc L (qR K J :: rest) σ1) : ∀ (v : Option qA) (σ1 : qS), qV p l e R s m args below meth c g nL Qf (qvM K J k v σ1) cb sb pc L (v.toList ++ rest) σ1
  | some (.inr (K', J')), σ1 => by
    show qV p l e R s m args below meth c g nL Qf (if K' = K ∧ J' = J then k σ1 else none) cb sb pc L (qR K' J' :: rest) σ1
    by_cases h1 : K' = K ∧ J' = J
    · rw [if_pos h1]; obtain ⟨rfl, rfl⟩ := h1; exact h σ1
    · rw [if_neg h1]; exact qV.no
  | none, _ | some (.inl _), _ => qV.no
theorem qv_areto (C : qC p l s m meth c cc nL own g) {rt : FieldType} (hr : meth.sig.returnType = some rt) (hrt : (∃ n, rt = .object n) ∨ ∃ t, rt = .array t) {a : Nat × Nat} {σ : qS} (d : decode cc pc = .ok (.areturn, 1)) : qV p l e R s m args below meth c g nL (qQf g below args s R) (some (.inl (some (.inr a)), σ)) cb sb pc L [.inr a] σ := by
  intro r h0 ls H locs cells slots h1 h2 h3 h4 h5
  cases h0
  obtain ⟨hx0, hb, hml, hown, hE, -, hlk⟩ := C
  exact vx_ret (W.widen (by omega) (by omega) (W.aret (v := qcv g (.inr a)) hx0 hb hr hrt (Or.inr ⟨_, rfl⟩) (fun t ht hW => qret_q (v := some (.inr a)) h2 h3 ht) h3.2.2 d hlk))
end QGV2
end
