section
-- ===== PART A: goes FIRST, ahead of the names: the tables' words, and 'selects' of the private methods out of them =====
/-- a private method of a class that the tables say can be made, by its rows of tables_1 -/
def lw_okq (q : MethodName × Nat) : Prop := (q.1.cls ≠ "java/lang/invoke/MethodHandle" ∧ q.1.cls ≠ "java/lang/invoke/VarHandle") ∧ Cond.instantiable q.1.cls q.2 ∈ tables_1 ∧ Cond.privateMethod q.1 ∈ tables_1 ∧ Cond.instanceMethod q.1 ∈ tables_1
theorem lw_p0 : lw_okq (⟨"PrimedPumps", "finding", "(I)I"⟩, 8) := ⟨⟨by decide +kernel, by decide +kernel⟩, List.mem_of_getElem? (i := 16) (by decide +kernel), List.mem_of_getElem? (i := 267) (by decide +kernel), List.mem_of_getElem? (i := 268) (by decide +kernel)⟩
theorem lw_p1 : lw_okq (⟨"PrimedPumps", "leastRule", "(I)I"⟩, 8) := ⟨⟨by decide +kernel, by decide +kernel⟩, List.mem_of_getElem? (i := 16) (by decide +kernel), List.mem_of_getElem? (i := 322) (by decide +kernel), List.mem_of_getElem? (i := 323) (by decide +kernel)⟩
theorem lw_p2 : lw_okq (⟨"PrimedPumps", "notCarried", "(I)Z"⟩, 8) := ⟨⟨by decide +kernel, by decide +kernel⟩, List.mem_of_getElem? (i := 16) (by decide +kernel), List.mem_of_getElem? (i := 338) (by decide +kernel), List.mem_of_getElem? (i := 339) (by decide +kernel)⟩
theorem lw_p3 : lw_okq (⟨"PrimedPumps$Planner", "measure", "()V"⟩, 13) := ⟨⟨by decide +kernel, by decide +kernel⟩, List.mem_of_getElem? (i := 167) (by decide +kernel), List.mem_of_getElem? (i := 411) (by decide +kernel), List.mem_of_getElem? (i := 412) (by decide +kernel)⟩
theorem lw_p4 : lw_okq (⟨"PrimedPumps$Planner", "carried", "(III)I"⟩, 13) := ⟨⟨by decide +kernel, by decide +kernel⟩, List.mem_of_getElem? (i := 167) (by decide +kernel), List.mem_of_getElem? (i := 424) (by decide +kernel), List.mem_of_getElem? (i := 425) (by decide +kernel)⟩
theorem lw_p5 : lw_okq (⟨"PrimedPumps$Planner", "ran", "(II)I"⟩, 13) := ⟨⟨by decide +kernel, by decide +kernel⟩, List.mem_of_getElem? (i := 167) (by decide +kernel), List.mem_of_getElem? (i := 429) (by decide +kernel), List.mem_of_getElem? (i := 430) (by decide +kernel)⟩
theorem lw_p6 : lw_okq (⟨"PrimedPumps$Planner", "mostFrom", "(III)I"⟩, 13) := ⟨⟨by decide +kernel, by decide +kernel⟩, List.mem_of_getElem? (i := 167) (by decide +kernel), List.mem_of_getElem? (i := 445) (by decide +kernel), List.mem_of_getElem? (i := 446) (by decide +kernel)⟩
theorem lw_p7 : lw_okq (⟨"PrimedPumps$Planner", "spread", "(IIII)V"⟩, 13) := ⟨⟨by decide +kernel, by decide +kernel⟩, List.mem_of_getElem? (i := 167) (by decide +kernel), List.mem_of_getElem? (i := 449) (by decide +kernel), List.mem_of_getElem? (i := 450) (by decide +kernel)⟩
theorem lw_p8 : lw_okq (⟨"PrimedPumps$Planner", "mostComing", "(II)I"⟩, 13) := ⟨⟨by decide +kernel, by decide +kernel⟩, List.mem_of_getElem? (i := 167) (by decide +kernel), List.mem_of_getElem? (i := 453) (by decide +kernel), List.mem_of_getElem? (i := 454) (by decide +kernel)⟩
theorem lw_p9 : lw_okq (⟨"PrimedPumps$Planner", "mostHome", "(I)I"⟩, 13) := ⟨⟨by decide +kernel, by decide +kernel⟩, List.mem_of_getElem? (i := 167) (by decide +kernel), List.mem_of_getElem? (i := 457) (by decide +kernel), List.mem_of_getElem? (i := 458) (by decide +kernel)⟩
theorem lw_p10 : lw_okq (⟨"PrimedPumps$Planner", "fewestBringing", "(II)I"⟩, 13) := ⟨⟨by decide +kernel, by decide +kernel⟩, List.mem_of_getElem? (i := 167) (by decide +kernel), List.mem_of_getElem? (i := 470) (by decide +kernel), List.mem_of_getElem? (i := 471) (by decide +kernel)⟩
theorem lw_p11 : lw_okq (⟨"PrimedPumps$Planner", "wantedAt", "(IIII)I"⟩, 13) := ⟨⟨by decide +kernel, by decide +kernel⟩, List.mem_of_getElem? (i := 167) (by decide +kernel), List.mem_of_getElem? (i := 484) (by decide +kernel), List.mem_of_getElem? (i := 485) (by decide +kernel)⟩
theorem lw_p12 : lw_okq (⟨"PrimedPumps$Planner", "wantedBefore", "(III)I"⟩, 13) := ⟨⟨by decide +kernel, by decide +kernel⟩, List.mem_of_getElem? (i := 167) (by decide +kernel), List.mem_of_getElem? (i := 489) (by decide +kernel), List.mem_of_getElem? (i := 490) (by decide +kernel)⟩
theorem lw_p13 : lw_okq (⟨"PrimedPumps$Planner", "wantedToRun", "(II)I"⟩, 13) := ⟨⟨by decide +kernel, by decide +kernel⟩, List.mem_of_getElem? (i := 167) (by decide +kernel), List.mem_of_getElem? (i := 493) (by decide +kernel), List.mem_of_getElem? (i := 494) (by decide +kernel)⟩
theorem lw_p14 : lw_okq (⟨"PrimedPumps$Planner", "leastNext", "(III)I"⟩, 13) := ⟨⟨by decide +kernel, by decide +kernel⟩, List.mem_of_getElem? (i := 167) (by decide +kernel), List.mem_of_getElem? (i := 497) (by decide +kernel), List.mem_of_getElem? (i := 498) (by decide +kernel)⟩
theorem lw_p15 : lw_okq (⟨"PrimedPumps", "carriedOrNone", "(I)I"⟩, 8) := ⟨⟨by decide +kernel, by decide +kernel⟩, List.mem_of_getElem? (i := 16) (by decide +kernel), List.mem_of_getElem? (i := 506) (by decide +kernel), List.mem_of_getElem? (i := 507) (by decide +kernel)⟩
def lw_privs_1 : List (MethodName × Nat) := [(⟨"PrimedPumps", "finding", "(I)I"⟩, 8), (⟨"PrimedPumps", "leastRule", "(I)I"⟩, 8), (⟨"PrimedPumps", "notCarried", "(I)Z"⟩, 8), (⟨"PrimedPumps$Planner", "measure", "()V"⟩, 13), (⟨"PrimedPumps$Planner", "carried", "(III)I"⟩, 13), (⟨"PrimedPumps$Planner", "ran", "(II)I"⟩, 13), (⟨"PrimedPumps$Planner", "mostFrom", "(III)I"⟩, 13), (⟨"PrimedPumps$Planner", "spread", "(IIII)V"⟩, 13), (⟨"PrimedPumps$Planner", "mostComing", "(II)I"⟩, 13), (⟨"PrimedPumps$Planner", "mostHome", "(I)I"⟩, 13), (⟨"PrimedPumps$Planner", "fewestBringing", "(II)I"⟩, 13), (⟨"PrimedPumps$Planner", "wantedAt", "(IIII)I"⟩, 13), (⟨"PrimedPumps$Planner", "wantedBefore", "(III)I"⟩, 13), (⟨"PrimedPumps$Planner", "wantedToRun", "(II)I"⟩, 13), (⟨"PrimedPumps$Planner", "leastNext", "(III)I"⟩, 13), (⟨"PrimedPumps", "carriedOrNone", "(I)I"⟩, 8)]
theorem lw_r1 : ∀ q ∈ lw_privs_1, lw_okq q := List.forall_mem_cons.mpr ⟨lw_p0, List.forall_mem_cons.mpr ⟨lw_p1, List.forall_mem_cons.mpr ⟨lw_p2, List.forall_mem_cons.mpr ⟨lw_p3, List.forall_mem_cons.mpr ⟨lw_p4, List.forall_mem_cons.mpr ⟨lw_p5, List.forall_mem_cons.mpr ⟨lw_p6, List.forall_mem_cons.mpr ⟨lw_p7, List.forall_mem_cons.mpr ⟨lw_p8, List.forall_mem_cons.mpr ⟨lw_p9, List.forall_mem_cons.mpr ⟨lw_p10, List.forall_mem_cons.mpr ⟨lw_p11, List.forall_mem_cons.mpr ⟨lw_p12, List.forall_mem_cons.mpr ⟨lw_p13, List.forall_mem_cons.mpr ⟨lw_p14, List.forall_mem_cons.mpr ⟨lw_p15, fun _ h => absurd h List.not_mem_nil⟩⟩⟩⟩⟩⟩⟩⟩⟩⟩⟩⟩⟩⟩⟩⟩
theorem lw_p16 : lw_okq (⟨"PrimedPumps$Planner", "enoughForAll", "()I"⟩, 13) := ⟨⟨by decide +kernel, by decide +kernel⟩, List.mem_of_getElem? (i := 167) (by decide +kernel), List.mem_of_getElem? (i := 522) (by decide +kernel), List.mem_of_getElem? (i := 523) (by decide +kernel)⟩
theorem lw_p17 : lw_okq (⟨"PrimedPumps$Planner", "isRing", "(II)Z"⟩, 13) := ⟨⟨by decide +kernel, by decide +kernel⟩, List.mem_of_getElem? (i := 167) (by decide +kernel), List.mem_of_getElem? (i := 542) (by decide +kernel), List.mem_of_getElem? (i := 543) (by decide +kernel)⟩
theorem lw_p18 : lw_okq (⟨"PrimedPumps$Planner", "weighed", "(III)J"⟩, 13) := ⟨⟨by decide +kernel, by decide +kernel⟩, List.mem_of_getElem? (i := 167) (by decide +kernel), List.mem_of_getElem? (i := 597) (by decide +kernel), List.mem_of_getElem? (i := 598) (by decide +kernel)⟩
theorem lw_p19 : lw_okq (⟨"PrimedPumps$Tape", "next", "()V"⟩, 6) := ⟨⟨by decide +kernel, by decide +kernel⟩, List.mem_of_getElem? (i := 139) (by decide +kernel), List.mem_of_getElem? (i := 673) (by decide +kernel), List.mem_of_getElem? (i := 674) (by decide +kernel)⟩
theorem lw_p20 : lw_okq (⟨"PrimedPumps$Tape", "isLetter", "(I)Z"⟩, 6) := ⟨⟨by decide +kernel, by decide +kernel⟩, List.mem_of_getElem? (i := 139) (by decide +kernel), List.mem_of_getElem? (i := 677) (by decide +kernel), List.mem_of_getElem? (i := 678) (by decide +kernel)⟩
theorem lw_p21 : lw_okq (⟨"PrimedPumps$Tape", "isDigit", "(I)Z"⟩, 6) := ⟨⟨by decide +kernel, by decide +kernel⟩, List.mem_of_getElem? (i := 139) (by decide +kernel), List.mem_of_getElem? (i := 681) (by decide +kernel), List.mem_of_getElem? (i := 682) (by decide +kernel)⟩
theorem lw_p22 : lw_okq (⟨"PrimedPumps$Tape", "nextNumber", "()V"⟩, 6) := ⟨⟨by decide +kernel, by decide +kernel⟩, List.mem_of_getElem? (i := 139) (by decide +kernel), List.mem_of_getElem? (i := 685) (by decide +kernel), List.mem_of_getElem? (i := 686) (by decide +kernel)⟩
theorem lw_p23 : lw_okq (⟨"PrimedPumps$Tape", "readItem", "(LPrimedPumps$Road;)Z"⟩, 6) := ⟨⟨by decide +kernel, by decide +kernel⟩, List.mem_of_getElem? (i := 139) (by decide +kernel), List.mem_of_getElem? (i := 690) (by decide +kernel), List.mem_of_getElem? (i := 691) (by decide +kernel)⟩
theorem lw_p24 : lw_okq (⟨"PrimedPumps$Tape", "kindTold", "()I"⟩, 6) := ⟨⟨by decide +kernel, by decide +kernel⟩, List.mem_of_getElem? (i := 139) (by decide +kernel), List.mem_of_getElem? (i := 694) (by decide +kernel), List.mem_of_getElem? (i := 695) (by decide +kernel)⟩
theorem lw_p25 : lw_okq (⟨"PrimedPumps$Tape", "isWord", "(Ljava/lang/String;)Z"⟩, 6) := ⟨⟨by decide +kernel, by decide +kernel⟩, List.mem_of_getElem? (i := 139) (by decide +kernel), List.mem_of_getElem? (i := 708) (by decide +kernel), List.mem_of_getElem? (i := 709) (by decide +kernel)⟩
theorem lw_p26 : lw_okq (⟨"PrimedPumps$Tape", "readPump", "(LPrimedPumps$Road;I)Z"⟩, 6) := ⟨⟨by decide +kernel, by decide +kernel⟩, List.mem_of_getElem? (i := 139) (by decide +kernel), List.mem_of_getElem? (i := 761) (by decide +kernel), List.mem_of_getElem? (i := 762) (by decide +kernel)⟩
theorem lw_p27 : lw_okq (⟨"PrimedPumps$Tape", "readNumber", "(II)Z"⟩, 6) := ⟨⟨by decide +kernel, by decide +kernel⟩, List.mem_of_getElem? (i := 139) (by decide +kernel), List.mem_of_getElem? (i := 766) (by decide +kernel), List.mem_of_getElem? (i := 767) (by decide +kernel)⟩
theorem lw_p28 : lw_okq (⟨"PrimedPumpsModel", "finds", "(I)I"⟩, 24) := ⟨⟨by decide +kernel, by decide +kernel⟩, List.mem_of_getElem? (i := 851) (by decide +kernel), List.mem_of_getElem? (i := 948) (by decide +kernel), List.mem_of_getElem? (i := 949) (by decide +kernel)⟩
theorem lw_p29 : lw_okq (⟨"PrimedPumpsModel", "newPump", "(IIII)I"⟩, 24) := ⟨⟨by decide +kernel, by decide +kernel⟩, List.mem_of_getElem? (i := 851) (by decide +kernel), List.mem_of_getElem? (i := 953) (by decide +kernel), List.mem_of_getElem? (i := 954) (by decide +kernel)⟩
theorem lw_p30 : lw_okq (⟨"PrimedPumpsModel", "isPump", "(I)Z"⟩, 24) := ⟨⟨by decide +kernel, by decide +kernel⟩, List.mem_of_getElem? (i := 851) (by decide +kernel), List.mem_of_getElem? (i := 964) (by decide +kernel), List.mem_of_getElem? (i := 965) (by decide +kernel)⟩
theorem lw_p31 : lw_okq (⟨"PrimedPumpsModel", "its", "(II)I"⟩, 24) := ⟨⟨by decide +kernel, by decide +kernel⟩, List.mem_of_getElem? (i := 851) (by decide +kernel), List.mem_of_getElem? (i := 969) (by decide +kernel), List.mem_of_getElem? (i := 970) (by decide +kernel)⟩
def lw_privs_2 : List (MethodName × Nat) := [(⟨"PrimedPumps$Planner", "enoughForAll", "()I"⟩, 13), (⟨"PrimedPumps$Planner", "isRing", "(II)Z"⟩, 13), (⟨"PrimedPumps$Planner", "weighed", "(III)J"⟩, 13), (⟨"PrimedPumps$Tape", "next", "()V"⟩, 6), (⟨"PrimedPumps$Tape", "isLetter", "(I)Z"⟩, 6), (⟨"PrimedPumps$Tape", "isDigit", "(I)Z"⟩, 6), (⟨"PrimedPumps$Tape", "nextNumber", "()V"⟩, 6), (⟨"PrimedPumps$Tape", "readItem", "(LPrimedPumps$Road;)Z"⟩, 6), (⟨"PrimedPumps$Tape", "kindTold", "()I"⟩, 6), (⟨"PrimedPumps$Tape", "isWord", "(Ljava/lang/String;)Z"⟩, 6), (⟨"PrimedPumps$Tape", "readPump", "(LPrimedPumps$Road;I)Z"⟩, 6), (⟨"PrimedPumps$Tape", "readNumber", "(II)Z"⟩, 6), (⟨"PrimedPumpsModel", "finds", "(I)I"⟩, 24), (⟨"PrimedPumpsModel", "newPump", "(IIII)I"⟩, 24), (⟨"PrimedPumpsModel", "isPump", "(I)Z"⟩, 24), (⟨"PrimedPumpsModel", "its", "(II)I"⟩, 24)]
theorem lw_r2 : ∀ q ∈ lw_privs_2, lw_okq q := List.forall_mem_cons.mpr ⟨lw_p16, List.forall_mem_cons.mpr ⟨lw_p17, List.forall_mem_cons.mpr ⟨lw_p18, List.forall_mem_cons.mpr ⟨lw_p19, List.forall_mem_cons.mpr ⟨lw_p20, List.forall_mem_cons.mpr ⟨lw_p21, List.forall_mem_cons.mpr ⟨lw_p22, List.forall_mem_cons.mpr ⟨lw_p23, List.forall_mem_cons.mpr ⟨lw_p24, List.forall_mem_cons.mpr ⟨lw_p25, List.forall_mem_cons.mpr ⟨lw_p26, List.forall_mem_cons.mpr ⟨lw_p27, List.forall_mem_cons.mpr ⟨lw_p28, List.forall_mem_cons.mpr ⟨lw_p29, List.forall_mem_cons.mpr ⟨lw_p30, List.forall_mem_cons.mpr ⟨lw_p31, fun _ h => absurd h List.not_mem_nil⟩⟩⟩⟩⟩⟩⟩⟩⟩⟩⟩⟩⟩⟩⟩⟩
theorem lw_p32 : lw_okq (⟨"PrimedPumpsModel", "yieldOf", "(I)I"⟩, 24) := ⟨⟨by decide +kernel, by decide +kernel⟩, List.mem_of_getElem? (i := 851) (by decide +kernel), List.mem_of_getElem? (i := 973) (by decide +kernel), List.mem_of_getElem? (i := 974) (by decide +kernel)⟩
theorem lw_p33 : lw_okq (⟨"PrimedPumpsModel", "needOf", "(I)I"⟩, 24) := ⟨⟨by decide +kernel, by decide +kernel⟩, List.mem_of_getElem? (i := 851) (by decide +kernel), List.mem_of_getElem? (i := 980) (by decide +kernel), List.mem_of_getElem? (i := 981) (by decide +kernel)⟩
theorem lw_p34 : lw_okq (⟨"PrimedPumpsModel", "isRule", "(II)Z"⟩, 24) := ⟨⟨by decide +kernel, by decide +kernel⟩, List.mem_of_getElem? (i := 851) (by decide +kernel), List.mem_of_getElem? (i := 992) (by decide +kernel), List.mem_of_getElem? (i := 993) (by decide +kernel)⟩
theorem lw_p35 : lw_okq (⟨"PrimedPumpsModel", "isWater", "(I)Z"⟩, 24) := ⟨⟨by decide +kernel, by decide +kernel⟩, List.mem_of_getElem? (i := 851) (by decide +kernel), List.mem_of_getElem? (i := 1003) (by decide +kernel), List.mem_of_getElem? (i := 1004) (by decide +kernel)⟩
theorem lw_p36 : lw_okq (⟨"PrimedPumpsModel", "left", "(III)I"⟩, 24) := ⟨⟨by decide +kernel, by decide +kernel⟩, List.mem_of_getElem? (i := 851) (by decide +kernel), List.mem_of_getElem? (i := 1019) (by decide +kernel), List.mem_of_getElem? (i := 1020) (by decide +kernel)⟩
theorem lw_p37 : lw_okq (⟨"PrimedPumpsModel", "dawns", "()V"⟩, 24) := ⟨⟨by decide +kernel, by decide +kernel⟩, List.mem_of_getElem? (i := 851) (by decide +kernel), List.mem_of_getElem? (i := 1023) (by decide +kernel), List.mem_of_getElem? (i := 1024) (by decide +kernel)⟩
theorem lw_p38 : lw_okq (⟨"PrimedPumpsModel", "isReady", "(I)Z"⟩, 24) := ⟨⟨by decide +kernel, by decide +kernel⟩, List.mem_of_getElem? (i := 851) (by decide +kernel), List.mem_of_getElem? (i := 1031) (by decide +kernel), List.mem_of_getElem? (i := 1032) (by decide +kernel)⟩
theorem lw_p39 : lw_okq (⟨"PrimedPumpsModel", "draw", "()I"⟩, 24) := ⟨⟨by decide +kernel, by decide +kernel⟩, List.mem_of_getElem? (i := 851) (by decide +kernel), List.mem_of_getElem? (i := 1035) (by decide +kernel), List.mem_of_getElem? (i := 1036) (by decide +kernel)⟩
theorem lw_p40 : lw_okq (⟨"PrimedPumpsModel", "mostWith", "(I)I"⟩, 24) := ⟨⟨by decide +kernel, by decide +kernel⟩, List.mem_of_getElem? (i := 851) (by decide +kernel), List.mem_of_getElem? (i := 1060) (by decide +kernel), List.mem_of_getElem? (i := 1061) (by decide +kernel)⟩
theorem lw_p41 : lw_okq (⟨"PrimedPumpsModel", "findYields", "()V"⟩, 24) := ⟨⟨by decide +kernel, by decide +kernel⟩, List.mem_of_getElem? (i := 851) (by decide +kernel), List.mem_of_getElem? (i := 1064) (by decide +kernel), List.mem_of_getElem? (i := 1065) (by decide +kernel)⟩
theorem lw_p42 : lw_okq (⟨"PrimedPumpsModel", "bestFrom", "(IIIII)I"⟩, 24) := ⟨⟨by decide +kernel, by decide +kernel⟩, List.mem_of_getElem? (i := 851) (by decide +kernel), List.mem_of_getElem? (i := 1068) (by decide +kernel), List.mem_of_getElem? (i := 1069) (by decide +kernel)⟩
theorem lw_p43 : lw_okq (⟨"PrimedPumpsModel", "comesWith", "(IIII)I"⟩, 24) := ⟨⟨by decide +kernel, by decide +kernel⟩, List.mem_of_getElem? (i := 851) (by decide +kernel), List.mem_of_getElem? (i := 1078) (by decide +kernel), List.mem_of_getElem? (i := 1079) (by decide +kernel)⟩
theorem lw_p44 : lw_okq (⟨"PrimedPumpsModel", "ran", "(II)I"⟩, 24) := ⟨⟨by decide +kernel, by decide +kernel⟩, List.mem_of_getElem? (i := 851) (by decide +kernel), List.mem_of_getElem? (i := 1082) (by decide +kernel), List.mem_of_getElem? (i := 1083) (by decide +kernel)⟩
theorem lw_p45 : lw_okq (⟨"PrimedPumpsModel", "brings", "(III)I"⟩, 24) := ⟨⟨by decide +kernel, by decide +kernel⟩, List.mem_of_getElem? (i := 851) (by decide +kernel), List.mem_of_getElem? (i := 1090) (by decide +kernel), List.mem_of_getElem? (i := 1091) (by decide +kernel)⟩
theorem lw_p46 : lw_okq (⟨"PrimedPumpsModel", "findOrder", "(I)I"⟩, 24) := ⟨⟨by decide +kernel, by decide +kernel⟩, List.mem_of_getElem? (i := 851) (by decide +kernel), List.mem_of_getElem? (i := 1098) (by decide +kernel), List.mem_of_getElem? (i := 1099) (by decide +kernel)⟩
theorem lw_p47 : lw_okq (⟨"PrimedPumpsModel", "isRing", "(I)Z"⟩, 24) := ⟨⟨by decide +kernel, by decide +kernel⟩, List.mem_of_getElem? (i := 851) (by decide +kernel), List.mem_of_getElem? (i := 1123) (by decide +kernel), List.mem_of_getElem? (i := 1124) (by decide +kernel)⟩
def lw_privs_3 : List (MethodName × Nat) := [(⟨"PrimedPumpsModel", "yieldOf", "(I)I"⟩, 24), (⟨"PrimedPumpsModel", "needOf", "(I)I"⟩, 24), (⟨"PrimedPumpsModel", "isRule", "(II)Z"⟩, 24), (⟨"PrimedPumpsModel", "isWater", "(I)Z"⟩, 24), (⟨"PrimedPumpsModel", "left", "(III)I"⟩, 24), (⟨"PrimedPumpsModel", "dawns", "()V"⟩, 24), (⟨"PrimedPumpsModel", "isReady", "(I)Z"⟩, 24), (⟨"PrimedPumpsModel", "draw", "()I"⟩, 24), (⟨"PrimedPumpsModel", "mostWith", "(I)I"⟩, 24), (⟨"PrimedPumpsModel", "findYields", "()V"⟩, 24), (⟨"PrimedPumpsModel", "bestFrom", "(IIIII)I"⟩, 24), (⟨"PrimedPumpsModel", "comesWith", "(IIII)I"⟩, 24), (⟨"PrimedPumpsModel", "ran", "(II)I"⟩, 24), (⟨"PrimedPumpsModel", "brings", "(III)I"⟩, 24), (⟨"PrimedPumpsModel", "findOrder", "(I)I"⟩, 24), (⟨"PrimedPumpsModel", "isRing", "(I)Z"⟩, 24)]
theorem lw_r3 : ∀ q ∈ lw_privs_3, lw_okq q := List.forall_mem_cons.mpr ⟨lw_p32, List.forall_mem_cons.mpr ⟨lw_p33, List.forall_mem_cons.mpr ⟨lw_p34, List.forall_mem_cons.mpr ⟨lw_p35, List.forall_mem_cons.mpr ⟨lw_p36, List.forall_mem_cons.mpr ⟨lw_p37, List.forall_mem_cons.mpr ⟨lw_p38, List.forall_mem_cons.mpr ⟨lw_p39, List.forall_mem_cons.mpr ⟨lw_p40, List.forall_mem_cons.mpr ⟨lw_p41, List.forall_mem_cons.mpr ⟨lw_p42, List.forall_mem_cons.mpr ⟨lw_p43, List.forall_mem_cons.mpr ⟨lw_p44, List.forall_mem_cons.mpr ⟨lw_p45, List.forall_mem_cons.mpr ⟨lw_p46, List.forall_mem_cons.mpr ⟨lw_p47, fun _ h => absurd h List.not_mem_nil⟩⟩⟩⟩⟩⟩⟩⟩⟩⟩⟩⟩⟩⟩⟩⟩
theorem lw_p48 : lw_okq (⟨"PrimedPumpsModel", "takesOrder", "()V"⟩, 24) := ⟨⟨by decide +kernel, by decide +kernel⟩, List.mem_of_getElem? (i := 851) (by decide +kernel), List.mem_of_getElem? (i := 1131) (by decide +kernel), List.mem_of_getElem? (i := 1132) (by decide +kernel)⟩
theorem lw_p49 : lw_okq (⟨"PrimedPumpsModel", "puts", "()V"⟩, 24) := ⟨⟨by decide +kernel, by decide +kernel⟩, List.mem_of_getElem? (i := 851) (by decide +kernel), List.mem_of_getElem? (i := 1143) (by decide +kernel), List.mem_of_getElem? (i := 1144) (by decide +kernel)⟩
theorem lw_p50 : lw_okq (⟨"PrimedPumpsModel", "putsBack", "()V"⟩, 24) := ⟨⟨by decide +kernel, by decide +kernel⟩, List.mem_of_getElem? (i := 851) (by decide +kernel), List.mem_of_getElem? (i := 1147) (by decide +kernel), List.mem_of_getElem? (i := 1148) (by decide +kernel)⟩
theorem lw_p51 : lw_okq (⟨"PrimedPumpsModel", "bringsIf", "(II)I"⟩, 24) := ⟨⟨by decide +kernel, by decide +kernel⟩, List.mem_of_getElem? (i := 851) (by decide +kernel), List.mem_of_getElem? (i := 1167) (by decide +kernel), List.mem_of_getElem? (i := 1168) (by decide +kernel)⟩
theorem lw_p52 : lw_okq (⟨"PrimedPumpsModel", "token", "()V"⟩, 24) := ⟨⟨by decide +kernel, by decide +kernel⟩, List.mem_of_getElem? (i := 851) (by decide +kernel), List.mem_of_getElem? (i := 1197) (by decide +kernel), List.mem_of_getElem? (i := 1198) (by decide +kernel)⟩
theorem lw_p53 : lw_okq (⟨"PrimedPumpsModel", "byteAt", "(I)I"⟩, 24) := ⟨⟨by decide +kernel, by decide +kernel⟩, List.mem_of_getElem? (i := 851) (by decide +kernel), List.mem_of_getElem? (i := 1201) (by decide +kernel), List.mem_of_getElem? (i := 1202) (by decide +kernel)⟩
theorem lw_p54 : lw_okq (⟨"PrimedPumpsModel", "item", "()V"⟩, 24) := ⟨⟨by decide +kernel, by decide +kernel⟩, List.mem_of_getElem? (i := 851) (by decide +kernel), List.mem_of_getElem? (i := 1215) (by decide +kernel), List.mem_of_getElem? (i := 1216) (by decide +kernel)⟩
theorem lw_p55 : lw_okq (⟨"PrimedPumpsModel", "kindHere", "()I"⟩, 24) := ⟨⟨by decide +kernel, by decide +kernel⟩, List.mem_of_getElem? (i := 851) (by decide +kernel), List.mem_of_getElem? (i := 1219) (by decide +kernel), List.mem_of_getElem? (i := 1220) (by decide +kernel)⟩
theorem lw_p56 : lw_okq (⟨"PrimedPumpsModel", "word", "()J"⟩, 24) := ⟨⟨by decide +kernel, by decide +kernel⟩, List.mem_of_getElem? (i := 851) (by decide +kernel), List.mem_of_getElem? (i := 1223) (by decide +kernel), List.mem_of_getElem? (i := 1224) (by decide +kernel)⟩
theorem lw_p57 : lw_okq (⟨"PrimedPumpsModel", "pumpItem", "(I)V"⟩, 24) := ⟨⟨by decide +kernel, by decide +kernel⟩, List.mem_of_getElem? (i := 851) (by decide +kernel), List.mem_of_getElem? (i := 1236) (by decide +kernel), List.mem_of_getElem? (i := 1237) (by decide +kernel)⟩
theorem lw_p58 : lw_okq (⟨"PrimedPumpsModel", "wants", "(Z)V"⟩, 24) := ⟨⟨by decide +kernel, by decide +kernel⟩, List.mem_of_getElem? (i := 851) (by decide +kernel), List.mem_of_getElem? (i := 1240) (by decide +kernel), List.mem_of_getElem? (i := 1241) (by decide +kernel)⟩
theorem lw_p59 : lw_okq (⟨"PrimedPumpsModel", "number", "(II)V"⟩, 24) := ⟨⟨by decide +kernel, by decide +kernel⟩, List.mem_of_getElem? (i := 851) (by decide +kernel), List.mem_of_getElem? (i := 1245) (by decide +kernel), List.mem_of_getElem? (i := 1246) (by decide +kernel)⟩
theorem lw_p60 : lw_okq (⟨"PrimedPumpsModel", "perhaps", "(ZIII)I"⟩, 24) := ⟨⟨by decide +kernel, by decide +kernel⟩, List.mem_of_getElem? (i := 851) (by decide +kernel), List.mem_of_getElem? (i := 1250) (by decide +kernel), List.mem_of_getElem? (i := 1251) (by decide +kernel)⟩
theorem lw_p61 : lw_okq (⟨"PrimedPumpsModel", "valueItem", "(III)V"⟩, 24) := ⟨⟨by decide +kernel, by decide +kernel⟩, List.mem_of_getElem? (i := 851) (by decide +kernel), List.mem_of_getElem? (i := 1256) (by decide +kernel), List.mem_of_getElem? (i := 1257) (by decide +kernel)⟩
theorem lw_p62 : lw_okq (⟨"PrimedPumpsModel", "wrong", "(I)I"⟩, 24) := ⟨⟨by decide +kernel, by decide +kernel⟩, List.mem_of_getElem? (i := 851) (by decide +kernel), List.mem_of_getElem? (i := 1286) (by decide +kernel), List.mem_of_getElem? (i := 1287) (by decide +kernel)⟩
theorem lw_p63 : lw_okq (⟨"PrimedPumpsModel", "takesSheet", "(I)I"⟩, 24) := ⟨⟨by decide +kernel, by decide +kernel⟩, List.mem_of_getElem? (i := 851) (by decide +kernel), List.mem_of_getElem? (i := 1305) (by decide +kernel), List.mem_of_getElem? (i := 1306) (by decide +kernel)⟩
def lw_privs_4 : List (MethodName × Nat) := [(⟨"PrimedPumpsModel", "takesOrder", "()V"⟩, 24), (⟨"PrimedPumpsModel", "puts", "()V"⟩, 24), (⟨"PrimedPumpsModel", "putsBack", "()V"⟩, 24), (⟨"PrimedPumpsModel", "bringsIf", "(II)I"⟩, 24), (⟨"PrimedPumpsModel", "token", "()V"⟩, 24), (⟨"PrimedPumpsModel", "byteAt", "(I)I"⟩, 24), (⟨"PrimedPumpsModel", "item", "()V"⟩, 24), (⟨"PrimedPumpsModel", "kindHere", "()I"⟩, 24), (⟨"PrimedPumpsModel", "word", "()J"⟩, 24), (⟨"PrimedPumpsModel", "pumpItem", "(I)V"⟩, 24), (⟨"PrimedPumpsModel", "wants", "(Z)V"⟩, 24), (⟨"PrimedPumpsModel", "number", "(II)V"⟩, 24), (⟨"PrimedPumpsModel", "perhaps", "(ZIII)I"⟩, 24), (⟨"PrimedPumpsModel", "valueItem", "(III)V"⟩, 24), (⟨"PrimedPumpsModel", "wrong", "(I)I"⟩, 24), (⟨"PrimedPumpsModel", "takesSheet", "(I)I"⟩, 24)]
theorem lw_r4 : ∀ q ∈ lw_privs_4, lw_okq q := List.forall_mem_cons.mpr ⟨lw_p48, List.forall_mem_cons.mpr ⟨lw_p49, List.forall_mem_cons.mpr ⟨lw_p50, List.forall_mem_cons.mpr ⟨lw_p51, List.forall_mem_cons.mpr ⟨lw_p52, List.forall_mem_cons.mpr ⟨lw_p53, List.forall_mem_cons.mpr ⟨lw_p54, List.forall_mem_cons.mpr ⟨lw_p55, List.forall_mem_cons.mpr ⟨lw_p56, List.forall_mem_cons.mpr ⟨lw_p57, List.forall_mem_cons.mpr ⟨lw_p58, List.forall_mem_cons.mpr ⟨lw_p59, List.forall_mem_cons.mpr ⟨lw_p60, List.forall_mem_cons.mpr ⟨lw_p61, List.forall_mem_cons.mpr ⟨lw_p62, List.forall_mem_cons.mpr ⟨lw_p63, fun _ h => absurd h List.not_mem_nil⟩⟩⟩⟩⟩⟩⟩⟩⟩⟩⟩⟩⟩⟩⟩⟩
theorem lw_p64 : lw_okq (⟨"PrimedPumpsModel", "sumOf", "(I)I"⟩, 24) := ⟨⟨by decide +kernel, by decide +kernel⟩, List.mem_of_getElem? (i := 851) (by decide +kernel), List.mem_of_getElem? (i := 1329) (by decide +kernel), List.mem_of_getElem? (i := 1330) (by decide +kernel)⟩
theorem lw_p65 : lw_okq (⟨"PrimedPumpsModel", "held", "()I"⟩, 24) := ⟨⟨by decide +kernel, by decide +kernel⟩, List.mem_of_getElem? (i := 851) (by decide +kernel), List.mem_of_getElem? (i := 1333) (by decide +kernel), List.mem_of_getElem? (i := 1334) (by decide +kernel)⟩
def lw_privs_5 : List (MethodName × Nat) := [(⟨"PrimedPumpsModel", "sumOf", "(I)I"⟩, 24), (⟨"PrimedPumpsModel", "held", "()I"⟩, 24)]
theorem lw_r5 : ∀ q ∈ lw_privs_5, lw_okq q := List.forall_mem_cons.mpr ⟨lw_p64, List.forall_mem_cons.mpr ⟨lw_p65, fun _ h => absurd h List.not_mem_nil⟩⟩
def lw_privs : List (MethodName × Nat) := lw_privs_1 ++ (lw_privs_2 ++ (lw_privs_3 ++ (lw_privs_4 ++ (lw_privs_5))))
def lw_tbl : List Cond := k2_sels lw_privs ++ tables_1
theorem lw_privs_ok : ∀ q ∈ lw_privs, lw_okq q := by
  show ∀ q ∈ lw_privs_1 ++ (lw_privs_2 ++ (lw_privs_3 ++ (lw_privs_4 ++ (lw_privs_5)))), lw_okq q
  exact List.forall_mem_append.mpr ⟨lw_r1, List.forall_mem_append.mpr ⟨lw_r2, List.forall_mem_append.mpr ⟨lw_r3, List.forall_mem_append.mpr ⟨lw_r4, lw_r5⟩⟩⟩⟩
end
section
def RX0 : String := "PrimedPumps$Planner"
def TX0 : u_T := fun k => match k with
  | 0 => ("PrimedPumps$Planner", "plan", "[I", true)
  | 1 => ("PrimedPumps$Planner", "planned", "I", false)
  | 2 => ("PrimedPumps$Planner", "pumps", "I", false)
  | 3 => ("PrimedPumps$Planner", "able", "I", false)
  | 4 => ("PrimedPumps$Planner", "room", "I", false)
  | 5 => ("PrimedPumps$Planner", "spills", "I", false)
  | 6 => ("PrimedPumps$Planner", "mile", "[I", true)
  | 7 => ("PrimedPumps$Planner", "lost", "[I", true)
  | 8 => ("PrimedPumps$Planner", "need", "[I", true)
  | 9 => ("PrimedPumps$Planner", "yields", "[I", true)
  | 10 => ("PrimedPumps$Planner", "fails", "[I", true)
  | 11 => ("PrimedPumps$Planner", "most", "[I", true)
  | _ => ("PrimedPumps$Planner", "wanted", "[I", true)
def tyX0 : Nat → FieldType := fun k => match k with
  | 0 => .array .int
  | 1 => .int
  | 2 => .int
  | 3 => .int
  | 4 => .int
  | 5 => .int
  | 6 => .array .int
  | 7 => .array .int
  | 8 => .array .int
  | 9 => .array .int
  | 10 => .array .int
  | 11 => .array .int
  | _ => .array .int
theorem nmX0 : ∀ a, a < 13 → ∀ b, b < 13 → a ≠ b → (TX0 a).2.1 ≠ (TX0 b).2.1 := by decide +kernel
theorem tyX0_ok : ∀ k, k < 13 → parseFieldDescriptor (TX0 k).2.2.1 = some (tyX0 k) := by decide +kernel
abbrev cX0_init : ByteArray := prog_2_method_1_code
def yX0_init : MethodName := ⟨RX0, "<init>", "()V"⟩
abbrev cX0_lay : ByteArray := prog_2_method_2_code
def yX0_lay : MethodName := ⟨RX0, "lay", "(LPrimedPumps$Road;I)V"⟩
abbrev cX0_measure : ByteArray := prog_2_method_3_code
def yX0_measure : MethodName := ⟨RX0, "measure", "()V"⟩
abbrev cX0_isIn : ByteArray := prog_2_method_4_code
def yX0_isIn : MethodName := ⟨RX0, "isIn", "(II)Z"⟩
abbrev cX0_carried : ByteArray := prog_2_method_5_code
def yX0_carried : MethodName := ⟨RX0, "carried", "(III)I"⟩
abbrev cX0_ran : ByteArray := prog_2_method_6_code
def yX0_ran : MethodName := ⟨RX0, "ran", "(II)I"⟩
abbrev cX0_planAll : ByteArray := prog_2_method_7_code
def yX0_planAll : MethodName := ⟨RX0, "planAll", "()V"⟩
abbrev cX0_planFrom : ByteArray := prog_2_method_8_code
def yX0_planFrom : MethodName := ⟨RX0, "planFrom", "(LPrimedPumps$Sheet;)Z"⟩
abbrev cX0_planBrings : ByteArray := prog_2_method_9_code
def yX0_planBrings : MethodName := ⟨RX0, "planBrings", "(II)I"⟩
abbrev cX0_runsInARow : ByteArray := prog_2_method_10_code
def yX0_runsInARow : MethodName := ⟨RX0, "runsInARow", "(LPrimedPumps$Sheet;I)I"⟩
abbrev cX0_mostWith : ByteArray := prog_2_method_11_code
def yX0_mostWith : MethodName := ⟨RX0, "mostWith", "(I)I"⟩
abbrev cX0_mostFrom : ByteArray := prog_2_method_12_code
def yX0_mostFrom : MethodName := ⟨RX0, "mostFrom", "(III)I"⟩
abbrev cX0_spread : ByteArray := prog_2_method_13_code
def yX0_spread : MethodName := ⟨RX0, "spread", "(IIII)V"⟩
abbrev cX0_mostComing : ByteArray := prog_2_method_14_code
def yX0_mostComing : MethodName := ⟨RX0, "mostComing", "(II)I"⟩
abbrev cX0_mostHome : ByteArray := prog_2_method_15_code
def yX0_mostHome : MethodName := ⟨RX0, "mostHome", "(I)I"⟩
abbrev cX0_planBest : ByteArray := prog_2_method_16_code
def yX0_planBest : MethodName := ⟨RX0, "planBest", "(I)V"⟩
abbrev cX0_fewestBringing : ByteArray := prog_2_method_17_code
def yX0_fewestBringing : MethodName := ⟨RX0, "fewestBringing", "(II)I"⟩
abbrev cX0_leastNext : ByteArray := prog_2_method_18_code
def yX0_leastNext : MethodName := ⟨RX0, "leastNext", "(III)I"⟩
abbrev cX0_leastStart : ByteArray := prog_2_method_19_code
def yX0_leastStart : MethodName := ⟨RX0, "leastStart", "(II)I"⟩
abbrev cX0_wantedAt : ByteArray := prog_2_method_20_code
def yX0_wantedAt : MethodName := ⟨RX0, "wantedAt", "(IIII)I"⟩
abbrev cX0_wantedToRun : ByteArray := prog_2_method_21_code
def yX0_wantedToRun : MethodName := ⟨RX0, "wantedToRun", "(II)I"⟩
abbrev cX0_wantedBefore : ByteArray := prog_2_method_22_code
def yX0_wantedBefore : MethodName := ⟨RX0, "wantedBefore", "(III)I"⟩
abbrev cX0_leastGaining : ByteArray := prog_2_method_23_code
def yX0_leastGaining : MethodName := ⟨RX0, "leastGaining", "()I"⟩
abbrev cX0_enoughForAll : ByteArray := prog_2_method_24_code
def yX0_enoughForAll : MethodName := ⟨RX0, "enoughForAll", "()I"⟩
abbrev cX0_firsts : ByteArray := prog_2_method_25_code
def yX0_firsts : MethodName := ⟨RX0, "firsts", "(I)I"⟩
abbrev cX0_smallestRing : ByteArray := prog_2_method_26_code
def yX0_smallestRing : MethodName := ⟨RX0, "smallestRing", "()I"⟩
abbrev cX0_isRing : ByteArray := prog_2_method_27_code
def yX0_isRing : MethodName := ⟨RX0, "isRing", "(II)Z"⟩
abbrev cX0_comesBefore : ByteArray := prog_2_method_28_code
def yX0_comesBefore : MethodName := ⟨RX0, "comesBefore", "(II)Z"⟩
abbrev cX0_dearest : ByteArray := prog_2_method_29_code
def yX0_dearest : MethodName := ⟨RX0, "dearest", "(I)I"⟩
abbrev cX0_bestSpring : ByteArray := prog_2_method_30_code
def yX0_bestSpring : MethodName := ⟨RX0, "bestSpring", "(I)I"⟩
abbrev cX0_leastRoomForMost : ByteArray := prog_2_method_31_code
def yX0_leastRoomForMost : MethodName := ⟨RX0, "leastRoomForMost", "(I)I"⟩
abbrev cX0_greatestSpillsThatCost : ByteArray := prog_2_method_32_code
def yX0_greatestSpillsThatCost : MethodName := ⟨RX0, "greatestSpillsThatCost", "(I)I"⟩
abbrev cX0_partsBringing : ByteArray := prog_2_method_33_code
def yX0_partsBringing : MethodName := ⟨RX0, "partsBringing", "(II)J"⟩
abbrev cX0_sumBrought : ByteArray := prog_2_method_34_code
def yX0_sumBrought : MethodName := ⟨RX0, "sumBrought", "(I)J"⟩
abbrev cX0_weighed : ByteArray := prog_2_method_35_code
def yX0_weighed : MethodName := ⟨RX0, "weighed", "(III)J"⟩
def RX1 : String := "PrimedPumps$Pump"
def TX1 : u_T := fun k => match k with
  | 0 => ("PrimedPumps$Pump", "kind", "I", false)
  | 1 => ("PrimedPumps$Pump", "mile", "I", false)
  | 2 => ("PrimedPumps$Pump", "gives", "I", false)
  | 3 => ("PrimedPumps$Pump", "fails", "I", false)
  | 4 => ("PrimedPumps$Pump", "used", "I", false)
  | _ => ("PrimedPumps$Pump", "today", "Z", false)
def tyX1 : Nat → FieldType := fun k => match k with
  | 0 => .int
  | 1 => .int
  | 2 => .int
  | 3 => .int
  | 4 => .int
  | _ => .boolean
theorem nmX1 : ∀ a, a < 6 → ∀ b, b < 6 → a ≠ b → (TX1 a).2.1 ≠ (TX1 b).2.1 := by decide +kernel
theorem tyX1_ok : ∀ k, k < 6 → parseFieldDescriptor (TX1 k).2.2.1 = some (tyX1 k) := by decide +kernel
abbrev cX1_init : ByteArray := prog_3_method_1_code
def yX1_init : MethodName := ⟨RX1, "<init>", "()V"⟩
abbrev cX1_take : ByteArray := prog_3_method_2_code
def yX1_take : MethodName := ⟨RX1, "take", "(LPrimedPumps$Pump;)V"⟩
abbrev cX1_yieldsAt : ByteArray := prog_3_method_3_code
def yX1_yieldsAt : MethodName := ⟨RX1, "yieldsAt", "(II)I"⟩
abbrev cX1_needsFor : ByteArray := prog_3_method_4_code
def yX1_needsFor : MethodName := ⟨RX1, "needsFor", "(I)I"⟩
abbrev cX1_isOf : ByteArray := prog_3_method_5_code
def yX1_isOf : MethodName := ⟨RX1, "isOf", "(I)Z"⟩
def RX2 : String := "PrimedPumps$Road"
def TX2 : u_T := fun k => match k with
  | 0 => ("PrimedPumps$Road", "pumps", "[LPrimedPumps$Pump;", true)
  | 1 => ("PrimedPumps$Road", "spots", "[I", true)
  | 2 => ("PrimedPumps$Road", "size", "I", false)
  | 3 => ("PrimedPumps$Road", "at", "I", false)
  | 4 => ("PrimedPumps$Road", "water", "I", false)
  | 5 => ("PrimedPumps$Road", "store", "I", false)
  | 6 => ("PrimedPumps$Road", "room", "I", false)
  | 7 => ("PrimedPumps$Road", "spills", "I", false)
  | 8 => ("PrimedPumps$Road", "drought", "I", false)
  | 9 => ("PrimedPumps$Road", "hour", "I", false)
  | 10 => ("PrimedPumps$Road", "day", "I", false)
  | 11 => ("PrimedPumps$Road", "spilt", "I", false)
  | 12 => ("PrimedPumps$Road", "ranOff", "I", false)
  | _ => ("PrimedPumps$Road", "z", "I", false)
def tyX2 : Nat → FieldType := fun k => match k with
  | 0 => .array (.object "PrimedPumps$Pump")
  | 1 => .array .int
  | 2 => .int
  | 3 => .int
  | 4 => .int
  | 5 => .int
  | 6 => .int
  | 7 => .int
  | 8 => .int
  | 9 => .int
  | 10 => .int
  | 11 => .int
  | 12 => .int
  | _ => .int
theorem nmX2 : ∀ a, a < 14 → ∀ b, b < 14 → a ≠ b → (TX2 a).2.1 ≠ (TX2 b).2.1 := by decide +kernel
theorem tyX2_ok : ∀ k, k < 14 → parseFieldDescriptor (TX2 k).2.2.1 = some (tyX2 k) := by decide +kernel
abbrev cX2_init : ByteArray := prog_4_method_1_code
def yX2_init : MethodName := ⟨RX2, "<init>", "()V"⟩
abbrev cX2_take : ByteArray := prog_4_method_2_code
def yX2_take : MethodName := ⟨RX2, "take", "(LPrimedPumps$Road;)V"⟩
abbrev cX2_has : ByteArray := prog_4_method_3_code
def yX2_has : MethodName := ⟨RX2, "has", "(I)Z"⟩
abbrev cX2_isFull : ByteArray := prog_4_method_4_code
def yX2_isFull : MethodName := ⟨RX2, "isFull", "()Z"⟩
abbrev cX2_leastRoom : ByteArray := prog_4_method_5_code
def yX2_leastRoom : MethodName := ⟨RX2, "leastRoom", "()I"⟩
abbrev cX2_add : ByteArray := prog_4_method_6_code
def yX2_add : MethodName := ⟨RX2, "add", "(IIII)V"⟩
abbrev cX2_yieldOf : ByteArray := prog_4_method_7_code
def yX2_yieldOf : MethodName := ⟨RX2, "yieldOf", "(I)I"⟩
abbrev cX2_needOf : ByteArray := prog_4_method_8_code
def yX2_needOf : MethodName := ⟨RX2, "needOf", "(I)I"⟩
abbrev cX2_canRun : ByteArray := prog_4_method_9_code
def yX2_canRun : MethodName := ⟨RX2, "canRun", "(I)Z"⟩
abbrev cX2_draw : ByteArray := prog_4_method_10_code
def yX2_draw : MethodName := ⟨RX2, "draw", "()I"⟩
abbrev cX2_carryTo : ByteArray := prog_4_method_11_code
def yX2_carryTo : MethodName := ⟨RX2, "carryTo", "(I)V"⟩
abbrev cX2_beginDay : ByteArray := prog_4_method_12_code
def yX2_beginDay : MethodName := ⟨RX2, "beginDay", "(I)V"⟩
abbrev cX2_tryPump : ByteArray := prog_4_method_13_code
def yX2_tryPump : MethodName := ⟨RX2, "tryPump", "(I)V"⟩
abbrev cX2_sumOf : ByteArray := prog_4_method_14_code
def yX2_sumOf : MethodName := ⟨RX2, "sumOf", "(I)I"⟩
abbrev cX2_heldSpots : ByteArray := prog_4_method_15_code
def yX2_heldSpots : MethodName := ⟨RX2, "heldSpots", "()I"⟩
def RX3 : String := "PrimedPumps$Sheet"
def TX3 : u_T := fun k => match k with
  | 0 => ("PrimedPumps$Sheet", "numbers", "[I", true)
  | 1 => ("PrimedPumps$Sheet", "bits", "I", false)
  | _ => ("PrimedPumps$Sheet", "length", "I", false)
def tyX3 : Nat → FieldType := fun k => match k with
  | 0 => .array .int
  | 1 => .int
  | _ => .int
theorem nmX3 : ∀ a, a < 3 → ∀ b, b < 3 → a ≠ b → (TX3 a).2.1 ≠ (TX3 b).2.1 := by decide +kernel
theorem tyX3_ok : ∀ k, k < 3 → parseFieldDescriptor (TX3 k).2.2.1 = some (tyX3 k) := by decide +kernel
abbrev cX3_init : ByteArray := prog_5_method_1_code
def yX3_init : MethodName := ⟨RX3, "<init>", "()V"⟩
abbrev cX3_isMissing : ByteArray := prog_5_method_2_code
def yX3_isMissing : MethodName := ⟨RX3, "isMissing", "()Z"⟩
abbrev cX3_begin : ByteArray := prog_5_method_3_code
def yX3_begin : MethodName := ⟨RX3, "begin", "(II)V"⟩
abbrev cX3_put : ByteArray := prog_5_method_4_code
def yX3_put : MethodName := ⟨RX3, "put", "(II)V"⟩
abbrev cX3_hasRun : ByteArray := prog_5_method_5_code
def yX3_hasRun : MethodName := ⟨RX3, "hasRun", "(II)Z"⟩
def RX4 : String := "PrimedPumps$Tape"
def TX4 : u_T := fun k => match k with
  | 0 => ("PrimedPumps$Tape", "bytes", "[I", true)
  | 1 => ("PrimedPumps$Tape", "length", "I", false)
  | 2 => ("PrimedPumps$Tape", "token", "I", false)
  | 3 => ("PrimedPumps$Tape", "begin", "I", false)
  | 4 => ("PrimedPumps$Tape", "behind", "I", false)
  | _ => ("PrimedPumps$Tape", "number", "I", false)
def tyX4 : Nat → FieldType := fun k => match k with
  | 0 => .array .int
  | 1 => .int
  | 2 => .int
  | 3 => .int
  | 4 => .int
  | _ => .int
theorem nmX4 : ∀ a, a < 6 → ∀ b, b < 6 → a ≠ b → (TX4 a).2.1 ≠ (TX4 b).2.1 := by decide +kernel
theorem tyX4_ok : ∀ k, k < 6 → parseFieldDescriptor (TX4 k).2.2.1 = some (tyX4 k) := by decide +kernel
abbrev cX4_init : ByteArray := prog_6_method_1_code
def yX4_init : MethodName := ⟨RX4, "<init>", "()V"⟩
abbrev cX4_add : ByteArray := prog_6_method_2_code
def yX4_add : MethodName := ⟨RX4, "add", "(I)V"⟩
abbrev cX4_readOnto : ByteArray := prog_6_method_3_code
def yX4_readOnto : MethodName := ⟨RX4, "readOnto", "(LPrimedPumps$Road;)I"⟩
abbrev cX4_readItem : ByteArray := prog_6_method_4_code
def yX4_readItem : MethodName := ⟨RX4, "readItem", "(LPrimedPumps$Road;)Z"⟩
abbrev cX4_readPump : ByteArray := prog_6_method_5_code
def yX4_readPump : MethodName := ⟨RX4, "readPump", "(LPrimedPumps$Road;I)Z"⟩
abbrev cX4_readNumber : ByteArray := prog_6_method_6_code
def yX4_readNumber : MethodName := ⟨RX4, "readNumber", "(II)Z"⟩
abbrev cX4_kindTold : ByteArray := prog_6_method_7_code
def yX4_kindTold : MethodName := ⟨RX4, "kindTold", "()I"⟩
abbrev cX4_wordOf : ByteArray := prog_6_method_8_code
def yX4_wordOf : MethodName := ⟨RX4, "wordOf", "(I)Ljava/lang/String;"⟩
abbrev cX4_isWord : ByteArray := prog_6_method_9_code
def yX4_isWord : MethodName := ⟨RX4, "isWord", "(Ljava/lang/String;)Z"⟩
abbrev cX4_next : ByteArray := prog_6_method_10_code
def yX4_next : MethodName := ⟨RX4, "next", "()V"⟩
abbrev cX4_nextNumber : ByteArray := prog_6_method_11_code
def yX4_nextNumber : MethodName := ⟨RX4, "nextNumber", "()V"⟩
abbrev cX4_isLetter : ByteArray := prog_6_method_12_code
def yX4_isLetter : MethodName := ⟨RX4, "isLetter", "(I)Z"⟩
abbrev cX4_isDigit : ByteArray := prog_6_method_13_code
def yX4_isDigit : MethodName := ⟨RX4, "isDigit", "(I)Z"⟩
def RX5 : String := "PrimedPumps"
def TX5 : u_T := fun k => match k with
  | 0 => ("PrimedPumps", "road", "LPrimedPumps$Road;", true)
  | 1 => ("PrimedPumps", "kept", "LPrimedPumps$Road;", true)
  | 2 => ("PrimedPumps", "draft", "LPrimedPumps$Road;", true)
  | 3 => ("PrimedPumps", "imageStands", "Z", false)
  | 4 => ("PrimedPumps", "tape", "LPrimedPumps$Tape;", true)
  | 5 => ("PrimedPumps", "sheets", "[LPrimedPumps$Sheet;", true)
  | 6 => ("PrimedPumps", "found", "[I", true)
  | _ => ("PrimedPumps", "planner", "LPrimedPumps$Planner;", true)
def tyX5 : Nat → FieldType := fun k => match k with
  | 0 => .object "PrimedPumps$Road"
  | 1 => .object "PrimedPumps$Road"
  | 2 => .object "PrimedPumps$Road"
  | 3 => .boolean
  | 4 => .object "PrimedPumps$Tape"
  | 5 => .array (.object "PrimedPumps$Sheet")
  | 6 => .array .int
  | _ => .object "PrimedPumps$Planner"
theorem nmX5 : ∀ a, a < 8 → ∀ b, b < 8 → a ≠ b → (TX5 a).2.1 ≠ (TX5 b).2.1 := by decide +kernel
theorem tyX5_ok : ∀ k, k < 8 → parseFieldDescriptor (TX5 k).2.2.1 = some (tyX5 k) := by decide +kernel
abbrev cX5_init : ByteArray := prog_1_method_1_code
def yX5_init : MethodName := ⟨RX5, "<init>", "()V"⟩
abbrev cX5_pump : ByteArray := prog_1_method_2_code
def yX5_pump : MethodName := ⟨RX5, "pump", "(III)I"⟩
abbrev cX5_of : ByteArray := prog_1_method_3_code
def yX5_of : MethodName := ⟨RX5, "of", "(II)I"⟩
abbrev cX5_change : ByteArray := prog_1_method_4_code
def yX5_change : MethodName := ⟨RX5, "change", "(III)I"⟩
abbrev cX5_leastTrait : ByteArray := prog_1_method_5_code
def yX5_leastTrait : MethodName := ⟨RX5, "leastTrait", "(I)I"⟩
abbrev cX5_mostTrait : ByteArray := prog_1_method_6_code
def yX5_mostTrait : MethodName := ⟨RX5, "mostTrait", "(I)I"⟩
abbrev cX5_rule : ByteArray := prog_1_method_7_code
def yX5_rule : MethodName := ⟨RX5, "rule", "(II)I"⟩
abbrev cX5_leastRule : ByteArray := prog_1_method_8_code
def yX5_leastRule : MethodName := ⟨RX5, "leastRule", "(I)I"⟩
abbrev cX5_mostRule : ByteArray := prog_1_method_9_code
def yX5_mostRule : MethodName := ⟨RX5, "mostRule", "(I)I"⟩
abbrev cX5_water : ByteArray := prog_1_method_10_code
def yX5_water : MethodName := ⟨RX5, "water", "(I)I"⟩
abbrev cX5_now : ByteArray := prog_1_method_11_code
def yX5_now : MethodName := ⟨RX5, "now", "(I)I"⟩
abbrev cX5_go : ByteArray := prog_1_method_12_code
def yX5_go : MethodName := ⟨RX5, "go", "(I)I"⟩
abbrev cX5_run : ByteArray := prog_1_method_13_code
def yX5_run : MethodName := ⟨RX5, "run", "(I)I"⟩
abbrev cX5_can : ByteArray := prog_1_method_14_code
def yX5_can : MethodName := ⟨RX5, "can", "(I)I"⟩
abbrev cX5_pour : ByteArray := prog_1_method_15_code
def yX5_pour : MethodName := ⟨RX5, "pour", "()I"⟩
abbrev cX5_fill : ByteArray := prog_1_method_16_code
def yX5_fill : MethodName := ⟨RX5, "fill", "(I)I"⟩
abbrev cX5_night : ByteArray := prog_1_method_17_code
def yX5_night : MethodName := ⟨RX5, "night", "()I"⟩
abbrev cX5_row : ByteArray := prog_1_method_18_code
def yX5_row : MethodName := ⟨RX5, "row", "(I)I"⟩
abbrev cX5_most : ByteArray := prog_1_method_19_code
def yX5_most : MethodName := ⟨RX5, "most", "(I)I"⟩
abbrev cX5_order : ByteArray := prog_1_method_20_code
def yX5_order : MethodName := ⟨RX5, "order", "(II)I"⟩
abbrev cX5_least : ByteArray := prog_1_method_21_code
def yX5_least : MethodName := ⟨RX5, "least", "()I"⟩
abbrev cX5_leastFor : ByteArray := prog_1_method_22_code
def yX5_leastFor : MethodName := ⟨RX5, "leastFor", "(I)I"⟩
abbrev cX5_keep : ByteArray := prog_1_method_23_code
def yX5_keep : MethodName := ⟨RX5, "keep", "()I"⟩
abbrev cX5_starts : ByteArray := prog_1_method_24_code
def yX5_starts : MethodName := ⟨RX5, "starts", "(I)I"⟩
abbrev cX5_ring : ByteArray := prog_1_method_25_code
def yX5_ring : MethodName := ⟨RX5, "ring", "()I"⟩
abbrev cX5_mistake : ByteArray := prog_1_method_26_code
def yX5_mistake : MethodName := ⟨RX5, "mistake", "(II)I"⟩
abbrev cX5_dear : ByteArray := prog_1_method_27_code
def yX5_dear : MethodName := ⟨RX5, "dear", "(I)I"⟩
abbrev cX5_spring : ByteArray := prog_1_method_28_code
def yX5_spring : MethodName := ⟨RX5, "spring", "(I)I"⟩
abbrev cX5_matters : ByteArray := prog_1_method_29_code
def yX5_matters : MethodName := ⟨RX5, "matters", "(I)I"⟩
abbrev cX5_room : ByteArray := prog_1_method_30_code
def yX5_room : MethodName := ⟨RX5, "room", "(I)I"⟩
abbrev cX5_bears : ByteArray := prog_1_method_31_code
def yX5_bears : MethodName := ⟨RX5, "bears", "(I)I"⟩
abbrev cX5_odds : ByteArray := prog_1_method_32_code
def yX5_odds : MethodName := ⟨RX5, "odds", "(II)J"⟩
abbrev cX5_mean : ByteArray := prog_1_method_33_code
def yX5_mean : MethodName := ⟨RX5, "mean", "(I)J"⟩
abbrev cX5_rust : ByteArray := prog_1_method_34_code
def yX5_rust : MethodName := ⟨RX5, "rust", "(I)I"⟩
abbrev cX5_seed : ByteArray := prog_1_method_35_code
def yX5_seed : MethodName := ⟨RX5, "seed", "(I)I"⟩
abbrev cX5_barrel : ByteArray := prog_1_method_36_code
def yX5_barrel : MethodName := ⟨RX5, "barrel", "(II)I"⟩
abbrev cX5_judge : ByteArray := prog_1_method_37_code
def yX5_judge : MethodName := ⟨RX5, "judge", "(II)I"⟩
abbrev cX5_feed : ByteArray := prog_1_method_38_code
def yX5_feed : MethodName := ⟨RX5, "feed", "(II)I"⟩
abbrev cX5_wipe : ByteArray := prog_1_method_39_code
def yX5_wipe : MethodName := ⟨RX5, "wipe", "()I"⟩
abbrev cX5_text : ByteArray := prog_1_method_40_code
def yX5_text : MethodName := ⟨RX5, "text", "()I"⟩
abbrev cX5_hold : ByteArray := prog_1_method_41_code
def yX5_hold : MethodName := ⟨RX5, "hold", "(II)I"⟩
abbrev cX5_as : ByteArray := prog_1_method_42_code
def yX5_as : MethodName := ⟨RX5, "as", "(II)I"⟩
abbrev cX5_sheet : ByteArray := prog_1_method_43_code
def yX5_sheet : MethodName := ⟨RX5, "sheet", "(III)I"⟩
abbrev cX5_write : ByteArray := prog_1_method_44_code
def yX5_write : MethodName := ⟨RX5, "write", "(III)I"⟩
abbrev cX5_copy : ByteArray := prog_1_method_45_code
def yX5_copy : MethodName := ⟨RX5, "copy", "(IIIII)I"⟩
abbrev cX5_load : ByteArray := prog_1_method_46_code
def yX5_load : MethodName := ⟨RX5, "load", "(I)I"⟩
abbrev cX5_image : ByteArray := prog_1_method_47_code
def yX5_image : MethodName := ⟨RX5, "image", "()I"⟩
abbrev cX5_undo : ByteArray := prog_1_method_48_code
def yX5_undo : MethodName := ⟨RX5, "undo", "()I"⟩
abbrev cX5_tear : ByteArray := prog_1_method_49_code
def yX5_tear : MethodName := ⟨RX5, "tear", "()I"⟩
abbrev cX5_count : ByteArray := prog_1_method_50_code
def yX5_count : MethodName := ⟨RX5, "count", "(I)I"⟩
abbrev cX5_status : ByteArray := prog_1_method_51_code
def yX5_status : MethodName := ⟨RX5, "status", "(I)I"⟩
abbrev cX5_finding : ByteArray := prog_1_method_52_code
def yX5_finding : MethodName := ⟨RX5, "finding", "(I)I"⟩
abbrev cX5_outside : ByteArray := prog_1_method_53_code
def yX5_outside : MethodName := ⟨RX5, "outside", "(III)Z"⟩
abbrev cX5_notCarried : ByteArray := prog_1_method_54_code
def yX5_notCarried : MethodName := ⟨RX5, "notCarried", "(I)Z"⟩
abbrev cX5_carriedOrNone : ByteArray := prog_1_method_55_code
def yX5_carriedOrNone : MethodName := ⟨RX5, "carriedOrNone", "(I)I"⟩
abbrev cX5_noSuchSheet : ByteArray := prog_1_method_56_code
def yX5_noSuchSheet : MethodName := ⟨RX5, "noSuchSheet", "(I)Z"⟩
abbrev cX5_spiltBetween : ByteArray := prog_1_method_57_code
def yX5_spiltBetween : MethodName := ⟨RX5, "spiltBetween", "(III)I"⟩
def RX6 : String := "PrimedPumpsModel"
def TX6 : u_T := fun k => match k with
  | 0 => ("PrimedPumpsModel", "s", "[I", true)
  | 1 => ("PrimedPumpsModel", "keptS", "[I", true)
  | 2 => ("PrimedPumpsModel", "other", "[I", true)
  | 3 => ("PrimedPumpsModel", "statuses", "[I", true)
  | 4 => ("PrimedPumpsModel", "isKept", "Z", false)
  | 5 => ("PrimedPumpsModel", "yields", "[I", true)
  | 6 => ("PrimedPumpsModel", "needs", "[I", true)
  | 7 => ("PrimedPumpsModel", "losses", "[I", true)
  | 8 => ("PrimedPumpsModel", "open", "I", false)
  | 9 => ("PrimedPumpsModel", "tops", "[I", true)
  | 10 => ("PrimedPumpsModel", "row", "[I", true)
  | 11 => ("PrimedPumpsModel", "orderRow", "[I", true)
  | 12 => ("PrimedPumpsModel", "many", "I", false)
  | 13 => ("PrimedPumpsModel", "partsHere", "J", false)
  | 14 => ("PrimedPumpsModel", "tape", "[I", true)
  | 15 => ("PrimedPumpsModel", "taped", "I", false)
  | 16 => ("PrimedPumpsModel", "from", "I", false)
  | 17 => ("PrimedPumpsModel", "to", "I", false)
  | 18 => ("PrimedPumpsModel", "value", "I", false)
  | 19 => ("PrimedPumpsModel", "isWrong", "Z", false)
  | 20 => ("PrimedPumpsModel", "bitsOf", "[I", true)
  | 21 => ("PrimedPumpsModel", "sizeOf", "[I", true)
  | 22 => ("PrimedPumpsModel", "number", "[I", true)
  | _ => ("PrimedPumpsModel", "moved", "[I", true)
def tyX6 : Nat → FieldType := fun k => match k with
  | 0 => .array .int
  | 1 => .array .int
  | 2 => .array .int
  | 3 => .array .int
  | 4 => .boolean
  | 5 => .array .int
  | 6 => .array .int
  | 7 => .array .int
  | 8 => .int
  | 9 => .array .int
  | 10 => .array .int
  | 11 => .array .int
  | 12 => .int
  | 13 => .long
  | 14 => .array .int
  | 15 => .int
  | 16 => .int
  | 17 => .int
  | 18 => .int
  | 19 => .boolean
  | 20 => .array .int
  | 21 => .array .int
  | 22 => .array .int
  | _ => .array .int
theorem nmX6 : ∀ a, a < 24 → ∀ b, b < 24 → a ≠ b → (TX6 a).2.1 ≠ (TX6 b).2.1 := by decide +kernel
theorem tyX6_ok : ∀ k, k < 24 → parseFieldDescriptor (TX6 k).2.2.1 = some (tyX6 k) := by decide +kernel
abbrev cX6_init : ByteArray := prog_8_method_1_code
def yX6_init : MethodName := ⟨RX6, "<init>", "()V"⟩
abbrev cX6_in : ByteArray := prog_8_method_2_code
def yX6_in : MethodName := ⟨RX6, "in", "(JJJ)Z"⟩
abbrev cX6_finds : ByteArray := prog_8_method_3_code
def yX6_finds : MethodName := ⟨RX6, "finds", "(I)I"⟩
abbrev cX6_isMile : ByteArray := prog_8_method_4_code
def yX6_isMile : MethodName := ⟨RX6, "isMile", "(I)Z"⟩
abbrev cX6_isPump : ByteArray := prog_8_method_5_code
def yX6_isPump : MethodName := ⟨RX6, "isPump", "(I)Z"⟩
abbrev cX6_isWater : ByteArray := prog_8_method_6_code
def yX6_isWater : MethodName := ⟨RX6, "isWater", "(I)Z"⟩
abbrev cX6_has : ByteArray := prog_8_method_7_code
def yX6_has : MethodName := ⟨RX6, "has", "(II)Z"⟩
abbrev cX6_ones : ByteArray := prog_8_method_8_code
def yX6_ones : MethodName := ⟨RX6, "ones", "(I)I"⟩
abbrev cX6_draw : ByteArray := prog_8_method_9_code
def yX6_draw : MethodName := ⟨RX6, "draw", "()I"⟩
abbrev cX6_puts : ByteArray := prog_8_method_10_code
def yX6_puts : MethodName := ⟨RX6, "puts", "()V"⟩
abbrev cX6_putsBack : ByteArray := prog_8_method_11_code
def yX6_putsBack : MethodName := ⟨RX6, "putsBack", "()V"⟩
abbrev cX6_at : ByteArray := prog_8_method_12_code
def yX6_at : MethodName := ⟨RX6, "at", "(II)I"⟩
abbrev cX6_its : ByteArray := prog_8_method_13_code
def yX6_its : MethodName := ⟨RX6, "its", "(II)I"⟩
abbrev cX6_isPart : ByteArray := prog_8_method_14_code
def yX6_isPart : MethodName := ⟨RX6, "isPart", "(II)Z"⟩
abbrev cX6_newPump : ByteArray := prog_8_method_15_code
def yX6_newPump : MethodName := ⟨RX6, "newPump", "(IIII)I"⟩
abbrev cX6_pump : ByteArray := prog_8_method_16_code
def yX6_pump : MethodName := ⟨RX6, "pump", "(III)I"⟩
abbrev cX6_least0 : ByteArray := prog_8_method_17_code
def yX6_least0 : MethodName := ⟨RX6, "least0", "(I)I"⟩
abbrev cX6_yieldOf : ByteArray := prog_8_method_18_code
def yX6_yieldOf : MethodName := ⟨RX6, "yieldOf", "(I)I"⟩
abbrev cX6_needOf : ByteArray := prog_8_method_19_code
def yX6_needOf : MethodName := ⟨RX6, "needOf", "(I)I"⟩
abbrev cX6_of : ByteArray := prog_8_method_20_code
def yX6_of : MethodName := ⟨RX6, "of", "(II)I"⟩
abbrev cX6_change : ByteArray := prog_8_method_21_code
def yX6_change : MethodName := ⟨RX6, "change", "(III)I"⟩
abbrev cX6_isRule : ByteArray := prog_8_method_22_code
def yX6_isRule : MethodName := ⟨RX6, "isRule", "(II)Z"⟩
abbrev cX6_rule : ByteArray := prog_8_method_23_code
def yX6_rule : MethodName := ⟨RX6, "rule", "(II)I"⟩
abbrev cX6_water : ByteArray := prog_8_method_24_code
def yX6_water : MethodName := ⟨RX6, "water", "(I)I"⟩
abbrev cX6_now : ByteArray := prog_8_method_25_code
def yX6_now : MethodName := ⟨RX6, "now", "(I)I"⟩
abbrev cX6_far : ByteArray := prog_8_method_26_code
def yX6_far : MethodName := ⟨RX6, "far", "(II)I"⟩
abbrev cX6_left : ByteArray := prog_8_method_27_code
def yX6_left : MethodName := ⟨RX6, "left", "(III)I"⟩
abbrev cX6_dawns : ByteArray := prog_8_method_28_code
def yX6_dawns : MethodName := ⟨RX6, "dawns", "()V"⟩
abbrev cX6_go : ByteArray := prog_8_method_29_code
def yX6_go : MethodName := ⟨RX6, "go", "(I)I"⟩
abbrev cX6_isReady : ByteArray := prog_8_method_30_code
def yX6_isReady : MethodName := ⟨RX6, "isReady", "(I)Z"⟩
abbrev cX6_run : ByteArray := prog_8_method_31_code
def yX6_run : MethodName := ⟨RX6, "run", "(I)I"⟩
abbrev cX6_can : ByteArray := prog_8_method_32_code
def yX6_can : MethodName := ⟨RX6, "can", "(I)I"⟩
abbrev cX6_pour : ByteArray := prog_8_method_33_code
def yX6_pour : MethodName := ⟨RX6, "pour", "()I"⟩
abbrev cX6_fill : ByteArray := prog_8_method_34_code
def yX6_fill : MethodName := ⟨RX6, "fill", "(I)I"⟩
abbrev cX6_night : ByteArray := prog_8_method_35_code
def yX6_night : MethodName := ⟨RX6, "night", "()I"⟩
abbrev cX6_findYields : ByteArray := prog_8_method_36_code
def yX6_findYields : MethodName := ⟨RX6, "findYields", "()V"⟩
abbrev cX6_ran : ByteArray := prog_8_method_37_code
def yX6_ran : MethodName := ⟨RX6, "ran", "(II)I"⟩
abbrev cX6_bestFrom : ByteArray := prog_8_method_38_code
def yX6_bestFrom : MethodName := ⟨RX6, "bestFrom", "(IIIII)I"⟩
abbrev cX6_comesWith : ByteArray := prog_8_method_39_code
def yX6_comesWith : MethodName := ⟨RX6, "comesWith", "(IIII)I"⟩
abbrev cX6_mostWith : ByteArray := prog_8_method_40_code
def yX6_mostWith : MethodName := ⟨RX6, "mostWith", "(I)I"⟩
abbrev cX6_most : ByteArray := prog_8_method_41_code
def yX6_most : MethodName := ⟨RX6, "most", "(I)I"⟩
abbrev cX6_findOrder : ByteArray := prog_8_method_42_code
def yX6_findOrder : MethodName := ⟨RX6, "findOrder", "(I)I"⟩
abbrev cX6_brings : ByteArray := prog_8_method_43_code
def yX6_brings : MethodName := ⟨RX6, "brings", "(III)I"⟩
abbrev cX6_row : ByteArray := prog_8_method_44_code
def yX6_row : MethodName := ⟨RX6, "row", "(I)I"⟩
abbrev cX6_order : ByteArray := prog_8_method_45_code
def yX6_order : MethodName := ⟨RX6, "order", "(II)I"⟩
abbrev cX6_least : ByteArray := prog_8_method_46_code
def yX6_least : MethodName := ⟨RX6, "least", "()I"⟩
abbrev cX6_leastFor : ByteArray := prog_8_method_47_code
def yX6_leastFor : MethodName := ⟨RX6, "leastFor", "(I)I"⟩
abbrev cX6_keep : ByteArray := prog_8_method_48_code
def yX6_keep : MethodName := ⟨RX6, "keep", "()I"⟩
abbrev cX6_starts : ByteArray := prog_8_method_49_code
def yX6_starts : MethodName := ⟨RX6, "starts", "(I)I"⟩
abbrev cX6_isRing : ByteArray := prog_8_method_50_code
def yX6_isRing : MethodName := ⟨RX6, "isRing", "(I)Z"⟩
abbrev cX6_ring : ByteArray := prog_8_method_51_code
def yX6_ring : MethodName := ⟨RX6, "ring", "()I"⟩
abbrev cX6_takesOrder : ByteArray := prog_8_method_52_code
def yX6_takesOrder : MethodName := ⟨RX6, "takesOrder", "()V"⟩
abbrev cX6_mistake : ByteArray := prog_8_method_53_code
def yX6_mistake : MethodName := ⟨RX6, "mistake", "(II)I"⟩
abbrev cX6_dear : ByteArray := prog_8_method_54_code
def yX6_dear : MethodName := ⟨RX6, "dear", "(I)I"⟩
abbrev cX6_spring : ByteArray := prog_8_method_55_code
def yX6_spring : MethodName := ⟨RX6, "spring", "(I)I"⟩
abbrev cX6_matters : ByteArray := prog_8_method_56_code
def yX6_matters : MethodName := ⟨RX6, "matters", "(I)I"⟩
abbrev cX6_room : ByteArray := prog_8_method_57_code
def yX6_room : MethodName := ⟨RX6, "room", "(I)I"⟩
abbrev cX6_bears : ByteArray := prog_8_method_58_code
def yX6_bears : MethodName := ⟨RX6, "bears", "(I)I"⟩
abbrev cX6_bringsIf : ByteArray := prog_8_method_59_code
def yX6_bringsIf : MethodName := ⟨RX6, "bringsIf", "(II)I"⟩
abbrev cX6_odds : ByteArray := prog_8_method_60_code
def yX6_odds : MethodName := ⟨RX6, "odds", "(II)J"⟩
abbrev cX6_mean : ByteArray := prog_8_method_61_code
def yX6_mean : MethodName := ⟨RX6, "mean", "(I)J"⟩
abbrev cX6_rust : ByteArray := prog_8_method_62_code
def yX6_rust : MethodName := ⟨RX6, "rust", "(I)I"⟩
abbrev cX6_seed : ByteArray := prog_8_method_63_code
def yX6_seed : MethodName := ⟨RX6, "seed", "(I)I"⟩
abbrev cX6_feed : ByteArray := prog_8_method_64_code
def yX6_feed : MethodName := ⟨RX6, "feed", "(II)I"⟩
abbrev cX6_wipe : ByteArray := prog_8_method_65_code
def yX6_wipe : MethodName := ⟨RX6, "wipe", "()I"⟩
abbrev cX6_byteAt : ByteArray := prog_8_method_66_code
def yX6_byteAt : MethodName := ⟨RX6, "byteAt", "(I)I"⟩
abbrev cX6_isLetter : ByteArray := prog_8_method_67_code
def yX6_isLetter : MethodName := ⟨RX6, "isLetter", "(I)Z"⟩
abbrev cX6_isDigit : ByteArray := prog_8_method_68_code
def yX6_isDigit : MethodName := ⟨RX6, "isDigit", "(I)Z"⟩
abbrev cX6_token : ByteArray := prog_8_method_69_code
def yX6_token : MethodName := ⟨RX6, "token", "()V"⟩
abbrev cX6_wants : ByteArray := prog_8_method_70_code
def yX6_wants : MethodName := ⟨RX6, "wants", "(Z)V"⟩
abbrev cX6_word : ByteArray := prog_8_method_71_code
def yX6_word : MethodName := ⟨RX6, "word", "()J"⟩
abbrev cX6_number : ByteArray := prog_8_method_72_code
def yX6_number : MethodName := ⟨RX6, "number", "(II)V"⟩
abbrev cX6_kindHere : ByteArray := prog_8_method_73_code
def yX6_kindHere : MethodName := ⟨RX6, "kindHere", "()I"⟩
abbrev cX6_perhaps : ByteArray := prog_8_method_74_code
def yX6_perhaps : MethodName := ⟨RX6, "perhaps", "(ZIII)I"⟩
abbrev cX6_pumpItem : ByteArray := prog_8_method_75_code
def yX6_pumpItem : MethodName := ⟨RX6, "pumpItem", "(I)V"⟩
abbrev cX6_valueItem : ByteArray := prog_8_method_76_code
def yX6_valueItem : MethodName := ⟨RX6, "valueItem", "(III)V"⟩
abbrev cX6_item : ByteArray := prog_8_method_77_code
def yX6_item : MethodName := ⟨RX6, "item", "()V"⟩
abbrev cX6_text : ByteArray := prog_8_method_78_code
def yX6_text : MethodName := ⟨RX6, "text", "()I"⟩
abbrev cX6_hold : ByteArray := prog_8_method_79_code
def yX6_hold : MethodName := ⟨RX6, "hold", "(II)I"⟩
abbrev cX6_as : ByteArray := prog_8_method_80_code
def yX6_as : MethodName := ⟨RX6, "as", "(II)I"⟩
abbrev cX6_isOne : ByteArray := prog_8_method_81_code
def yX6_isOne : MethodName := ⟨RX6, "isOne", "(I)Z"⟩
abbrev cX6_sheet : ByteArray := prog_8_method_82_code
def yX6_sheet : MethodName := ⟨RX6, "sheet", "(III)I"⟩
abbrev cX6_narrowed : ByteArray := prog_8_method_83_code
def yX6_narrowed : MethodName := ⟨RX6, "narrowed", "(II)I"⟩
abbrev cX6_wrong : ByteArray := prog_8_method_84_code
def yX6_wrong : MethodName := ⟨RX6, "wrong", "(I)I"⟩
abbrev cX6_write : ByteArray := prog_8_method_85_code
def yX6_write : MethodName := ⟨RX6, "write", "(III)I"⟩
abbrev cX6_copy : ByteArray := prog_8_method_86_code
def yX6_copy : MethodName := ⟨RX6, "copy", "(IIIII)I"⟩
abbrev cX6_load : ByteArray := prog_8_method_87_code
def yX6_load : MethodName := ⟨RX6, "load", "(I)I"⟩
abbrev cX6_takesSheet : ByteArray := prog_8_method_88_code
def yX6_takesSheet : MethodName := ⟨RX6, "takesSheet", "(I)I"⟩
abbrev cX6_barrel : ByteArray := prog_8_method_89_code
def yX6_barrel : MethodName := ⟨RX6, "barrel", "(II)I"⟩
abbrev cX6_judge : ByteArray := prog_8_method_90_code
def yX6_judge : MethodName := ⟨RX6, "judge", "(II)I"⟩
abbrev cX6_image : ByteArray := prog_8_method_91_code
def yX6_image : MethodName := ⟨RX6, "image", "()I"⟩
abbrev cX6_undo : ByteArray := prog_8_method_92_code
def yX6_undo : MethodName := ⟨RX6, "undo", "()I"⟩
abbrev cX6_tear : ByteArray := prog_8_method_93_code
def yX6_tear : MethodName := ⟨RX6, "tear", "()I"⟩
abbrev cX6_sumOf : ByteArray := prog_8_method_94_code
def yX6_sumOf : MethodName := ⟨RX6, "sumOf", "(I)I"⟩
abbrev cX6_held : ByteArray := prog_8_method_95_code
def yX6_held : MethodName := ⟨RX6, "held", "()I"⟩
abbrev cX6_count : ByteArray := prog_8_method_96_code
def yX6_count : MethodName := ⟨RX6, "count", "(I)I"⟩
abbrev cX6_status : ByteArray := prog_8_method_97_code
def yX6_status : MethodName := ⟨RX6, "status", "(I)I"⟩
def RJ6 : String := "java/lang/Integer"
def TJ6 : u_T := fun k => match k with
  | _ => ("", "", "", false)
def tyJ6 : Nat → FieldType := fun k => match k with
  | _ => .int
theorem nmJ6 : ∀ a, a < 0 → ∀ b, b < 0 → a ≠ b → (TJ6 a).2.1 ≠ (TJ6 b).2.1 := by decide +kernel
theorem tyJ6_ok : ∀ k, k < 0 → parseFieldDescriptor (TJ6 k).2.2.1 = some (tyJ6 k) := by decide +kernel
abbrev cJ6_bitCount_0f7a4 : ByteArray := prog_9_method_49_code
def yJ6_bitCount_0f7a4 : MethodName := ⟨RJ6, "bitCount", "(I)I"⟩
def RJ9 : String := "java/lang/Math"
def TJ9 : u_T := fun k => match k with
  | _ => ("", "", "", false)
def tyJ9 : Nat → FieldType := fun k => match k with
  | _ => .int
theorem nmJ9 : ∀ a, a < 0 → ∀ b, b < 0 → a ≠ b → (TJ9 a).2.1 ≠ (TJ9 b).2.1 := by decide +kernel
theorem tyJ9_ok : ∀ k, k < 0 → parseFieldDescriptor (TJ9 k).2.2.1 = some (tyJ9 k) := by decide +kernel
abbrev cJ9_abs_0f7a4 : ByteArray := prog_10_method_59_code
def yJ9_abs_0f7a4 : MethodName := ⟨RJ9, "abs", "(I)I"⟩
abbrev cJ9_max_7cf53 : ByteArray := prog_10_method_65_code
def yJ9_max_7cf53 : MethodName := ⟨RJ9, "max", "(II)I"⟩
abbrev cJ9_min_7cf53 : ByteArray := prog_10_method_69_code
def yJ9_min_7cf53 : MethodName := ⟨RJ9, "min", "(II)I"⟩
def RJ0 : String := "java/lang/String"
def TJ0 : u_T := fun k => match k with
  | _ => ("", "", "", false)
def tyJ0 : Nat → FieldType := fun k => match k with
  | _ => .int
theorem nmJ0 : ∀ a, a < 0 → ∀ b, b < 0 → a ≠ b → (TJ0 a).2.1 ≠ (TJ0 b).2.1 := by decide +kernel
theorem tyJ0_ok : ∀ k, k < 0 → parseFieldDescriptor (TJ0 k).2.2.1 = some (tyJ0 k) := by decide +kernel
abbrev cJ0_length_8abf5 : ByteArray := prog_11_method_54_code
def yJ0_length_8abf5 : MethodName := ⟨RJ0, "length", "()I"⟩
abbrev cJ0_charAt_5068e : ByteArray := prog_11_method_56_code
def yJ0_charAt_5068e : MethodName := ⟨RJ0, "charAt", "(I)C"⟩
abbrev cJ0_coder_7d493 : ByteArray := prog_11_method_152_code
def yJ0_coder_7d493 : MethodName := ⟨RJ0, "coder", "()B"⟩
abbrev cJ0_isLatin1_aae02 : ByteArray := prog_11_method_154_code
def yJ0_isLatin1_aae02 : MethodName := ⟨RJ0, "isLatin1", "()Z"⟩
abbrev cJ0_checkIndex_df160 : ByteArray := prog_11_method_155_code
def yJ0_checkIndex_df160 : MethodName := ⟨RJ0, "checkIndex", "(II)V"⟩
def RJ1 : String := "java/lang/StringLatin1"
def TJ1 : u_T := fun k => match k with
  | _ => ("", "", "", false)
def tyJ1 : Nat → FieldType := fun k => match k with
  | _ => .int
theorem nmJ1 : ∀ a, a < 0 → ∀ b, b < 0 → a ≠ b → (TJ1 a).2.1 ≠ (TJ1 b).2.1 := by decide +kernel
theorem tyJ1_ok : ∀ k, k < 0 → parseFieldDescriptor (TJ1 k).2.2.1 = some (tyJ1 k) := by decide +kernel
abbrev cJ1_charAt_3b067 : ByteArray := prog_12_method_2_code
def yJ1_charAt_3b067 : MethodName := ⟨RJ1, "charAt", "([BI)C"⟩
def RJ2 : String := "java/lang/StringUTF16"
def TJ2 : u_T := fun k => match k with
  | _ => ("", "", "", false)
def tyJ2 : Nat → FieldType := fun k => match k with
  | _ => .int
theorem nmJ2 : ∀ a, a < 0 → ∀ b, b < 0 → a ≠ b → (TJ2 a).2.1 ≠ (TJ2 b).2.1 := by decide +kernel
theorem tyJ2_ok : ∀ k, k < 0 → parseFieldDescriptor (TJ2 k).2.2.1 = some (tyJ2 k) := by decide +kernel
abbrev cJ2_getChar_3b067 : ByteArray := prog_13_method_5_code
def yJ2_getChar_3b067 : MethodName := ⟨RJ2, "getChar", "([BI)C"⟩
abbrev cJ2_length_9d52b : ByteArray := prog_13_method_6_code
def yJ2_length_9d52b : MethodName := ⟨RJ2, "length", "([B)I"⟩
abbrev cJ2_charAt_3b067 : ByteArray := prog_13_method_83_code
def yJ2_charAt_3b067 : MethodName := ⟨RJ2, "charAt", "([BI)C"⟩
abbrev cJ2_checkIndex_2214a : ByteArray := prog_13_method_91_code
def yJ2_checkIndex_2214a : MethodName := ⟨RJ2, "checkIndex", "(I[B)V"⟩
def RJ10 : String := "java/lang/System"
def TJ10 : u_T := fun k => match k with
  | _ => ("", "", "", false)
def tyJ10 : Nat → FieldType := fun k => match k with
  | _ => .int
theorem nmJ10 : ∀ a, a < 0 → ∀ b, b < 0 → a ≠ b → (TJ10 a).2.1 ≠ (TJ10 b).2.1 := by decide +kernel
theorem tyJ10_ok : ∀ k, k < 0 → parseFieldDescriptor (TJ10 k).2.2.1 = some (tyJ10 k) := by decide +kernel
def RJ3 : String := "jdk/internal/util/Preconditions"
def TJ3 : u_T := fun k => match k with
  | _ => ("", "", "", false)
def tyJ3 : Nat → FieldType := fun k => match k with
  | _ => .int
theorem nmJ3 : ∀ a, a < 0 → ∀ b, b < 0 → a ≠ b → (TJ3 a).2.1 ≠ (TJ3 b).2.1 := by decide +kernel
theorem tyJ3_ok : ∀ k, k < 0 → parseFieldDescriptor (TJ3 k).2.2.1 = some (tyJ3 k) := by decide +kernel
abbrev cJ3_checkIndex_8e157 : ByteArray := prog_15_method_11_code
def yJ3_checkIndex_8e157 : MethodName := ⟨RJ3, "checkIndex", "(IILjava/util/function/BiFunction;)I"⟩
def RL : String := "PrimedPumpsLaw"
abbrev cL_law : ByteArray := code
def yL_law : MethodName := ⟨RL, "law", "([I)Z"⟩
abbrev vwCl : List vw_C := [(RX0, TX0, 13), (RX1, TX1, 6), (RX2, TX2, 14), (RX3, TX3, 3), (RX4, TX4, 6), (RX5, TX5, 8), (RX6, TX6, 24)]
end
section
/-! CORE: a memory of ints (and one long) for a fixed set of cells, the world that it stands for, and one judgement 'Ev' over it: from this frame the method comes to its end with Q. Rows of Ev: part 04. -/
def gtb : List Cond := lw_tbl.filter goodWord
theorem gtb_of {w : Cond} (i : Nat) (h : lw_tbl[i]? = some w) (hg : goodWord w = true) : w ∈ gtb := List.mem_filter.mpr ⟨List.mem_of_getElem? h, hg⟩
theorem gtb_tbl {w : Cond} (h : w ∈ gtb) : w ∈ lw_tbl := (List.mem_filter.mp h).1
theorem gtb_good {w : Cond} (h : w ∈ gtb) : goodWord w = true := (List.mem_filter.mp h).2
/-- a method: its name, code, locals, answer's type -/
abbrev Mt : Type := MethodName × ByteArray × Nat × Option FieldType
def mws (μ : Mt) : List Cond := Cond.code μ.1 μ.2.1 μ.2.2.1 μ.2.2.2 :: gtb
theorem mws_in {μ : Mt} {w : Cond} (h : w ∈ gtb) : w ∈ mws μ := List.mem_cons_of_mem _ h
theorem mws_good {μ ν : Mt} (h : Cond.code ν.1 ν.2.1 ν.2.2.1 ν.2.2.2 ∈ gtb) : GoodIn (mws μ) (mws ν) := by
  intro w hw
  rcases List.mem_cons.mp hw with rfl | hw
  · exact ⟨mws_in h, good_of_word (gtb_good h)⟩
  · exact ⟨mws_in hw, good_of_word (gtb_good hw)⟩
/-- the memory: cell, slot; and the one long -/
abbrev Me : Type := (Nat → Nat → Int32) × Int64
def wrM (M : Me) (r j : Nat) (v : Int32) : Me := (fun a => if a = r then upd (M.1 r) j v else M.1 a, M.2)
def wrA (M : Me) (r : Nat) (f : Nat → Int32) : Me := (fun a => if a = r then f else M.1 a, M.2)
def wrL (M : Me) (v : Int64) : Me := (M.1, v)
/-- kinds of objects: class number, field codes (0 an int, 1 the long, n + 2 a reference to the cell n further) -/
def kO : Nat → Option (Nat × List Nat)
  | 1 => some (5, [3, 14, 25, 0, 36, 38, 47, 48])
  | 2 => some (2, [3, 4, 0, 0, 0, 0, 0, 0, 0, 0, 0, 0, 0, 0])
  | 3 => some (1, [0, 0, 0, 0, 0, 0])
  | 4 => some (4, [3, 0, 0, 0, 0, 0])
  | 5 => some (3, [3, 0, 0])
  | 6 => some (0, [3, 0, 0, 0, 0, 0, 4, 5, 6, 7, 8, 9, 10])
  | 7 => some (6, [3, 4, 5, 6, 0, 7, 8, 9, 0, 10, 11, 12, 0, 1, 13, 0, 0, 0, 0, 0, 14, 15, 16, 17])
  | _ => none
/-- arrays of references: length, the first's distance, stride, whose (1 Pump, 2 Sheet) -/
def kR : Nat → Option (Nat × Nat × Nat × Nat)
  | 8 => some (8, 2, 1, 1)
  | 9 => some (4, 1, 2, 2)
  | _ => none
def fv (ρ : Nat → Nat) (M : Me) (r j : Nat) : Nat → Value
  | 0 => .int (M.1 r j)
  | 1 => .long M.2
  | n + 2 => .ref (ρ (r + n))
def fvs (ρ : Nat → Nat) (M : Me) (r : Nat) (cs : List Nat) : List Value := cs.mapIdx (fun j c => fv ρ M r j c)
def cel (k3 : ClassId × ClassId × ClassId) (ρ : Nat → Nat) (M : Me) (r K : Nat) : va_E :=
  match kO K with
  | some q => .inr (q.1, fvs ρ M r q.2)
  | none => match kR K with
    | some q => .inl (if q.2.2.2 = 1 then k3.2.1 else k3.2.2, q.1, .inr (.inr (.inr (.inr (fun i => some (ρ (r + q.2.1 + q.2.2.1 * i)))))))
    | none => .inl (k3.1, K - 100, .inl (M.1 r))
/-- a world's fixed part: how many cells, their kinds; launch, classes; where the cells lie; the string constants' and their bytes' places, the static table's -/
abbrev Gt : Type := (Nat × (Nat → Nat)) × (Launch × va_G × (ClassId × ClassId × ClassId)) × (Nat → Nat) × (Nat → Nat) × (Nat → Nat) × Nat
abbrev gN (g : Gt) : Nat := g.1.1
abbrev gk (g : Gt) : Nat → Nat := g.1.2
abbrev gl (g : Gt) : Launch := g.2.1.1
abbrev gD (g : Gt) : va_G := g.2.1.2.1
abbrev g3 (g : Gt) : ClassId × ClassId × ClassId := g.2.1.2.2
abbrev gp (g : Gt) : Nat → Nat := g.2.2.1
abbrev gS (g : Gt) : Nat → Nat := g.2.2.2.1
abbrev gV (g : Gt) : Nat → Nat := g.2.2.2.2.1
abbrev gT (g : Gt) : Nat := g.2.2.2.2.2
def wd (g : Gt) (M : Me) : va_W := (List.range (gN g)).map fun r => (gp g r, cel (g3 g) (gp g) M r (gk g r))
theorem wd_at {g : Gt} {M : Me} {r : Nat} (hr : r < gN g) : (wd g M)[r]? = some (gp g r, cel (g3 g) (gp g) M r (gk g r)) := by
  simp [wd, hr]
theorem wd_in {g : Gt} {M : Me} {r : Nat} {q : Nat × va_E} (h : (wd g M)[r]? = some q) : r < gN g ∧ q = (gp g r, cel (g3 g) (gp g) M r (gk g r)) := by
  have hl := (List.getElem?_eq_some_iff.mp h).1
  have hr : r < gN g := by simpa [wd] using hl
  rw [wd_at hr] at h
  exact ⟨hr, (Option.some.inj h).symm⟩
theorem wd_set {g : Gt} {M M' : Me} {r : Nat} (hr : r < gN g) (h : ∀ a, a ≠ r → cel (g3 g) (gp g) M' a (gk g a) = cel (g3 g) (gp g) M a (gk g a)) : (wd g M).set r (gp g r, cel (g3 g) (gp g) M' r (gk g r)) = wd g M' := by
  apply List.ext_getElem?
  intro i
  by_cases hi : i = r
  · subst hi
    rw [List.getElem?_set_self (by simpa [wd] using hr), wd_at hr]
  · rw [List.getElem?_set_ne (Ne.symm hi)]
    by_cases hl : i < gN g
    · rw [wd_at hl, wd_at hl, h i hi]
    · simp [wd, hl]
theorem wd_A {g : Gt} {M M' : Me} {sz : Nat} : va_A (wd g M) sz = va_A (wd g M') sz := by
  funext q
  apply propext
  have key : ∀ {N N' : Me}, (∃ (k : Nat) (e : va_E), (wd g N)[k]? = some (q, e)) → ∃ (k : Nat) (e : va_E), (wd g N')[k]? = some (q, e) := by
    intro N N' h
    obtain ⟨k, e, h⟩ := h
    obtain ⟨h1, h2⟩ := wd_in h
    refine ⟨k, cel (g3 g) (gp g) N' k (gk g k), ?_⟩
    rw [wd_at h1]
    have h3 : q = gp g k := congrArg Prod.fst h2
    rw [h3]
  constructor
  · intro h
    rcases h with h | h
    · exact Or.inl (key h)
    · exact Or.inr h
  · intro h
    rcases h with h | h
    · exact Or.inl (key h)
    · exact Or.inr h
theorem cel_ne {k3 : ClassId × ClassId × ClassId} {ρ : Nat → Nat} {M M' : Me} {a K : Nat} (h : M'.1 a = M.1 a) (h2 : M'.2 = M.2) : cel k3 ρ M' a K = cel k3 ρ M a K := by
  have e : ∀ cs, fvs ρ M' a cs = fvs ρ M a cs := by
    intro cs
    unfold fvs
    congr 1
    funext j c
    match c with
    | 0 => simp [fv, h]
    | 1 => simp [fv, h2]
    | n + 2 => rfl
  unfold cel
  rw [h]
  simp only [e]
theorem fvs_get {ρ : Nat → Nat} {M : Me} {r j c : Nat} {cs : List Nat} (h : cs[j]? = some c) : (fvs ρ M r cs)[j]? = some (fv ρ M r j c) := by
  simp [fvs, h]
theorem fvs_len {ρ : Nat → Nat} {M : Me} {r : Nat} {cs : List Nat} : (fvs ρ M r cs).length = cs.length := by simp [fvs]
theorem fvs_setI {ρ : Nat → Nat} {M : Me} {r j : Nat} {cs : List Nat} {v : Int32} (h : cs[j]? = some 0) : (fvs ρ M r cs).set j (.int v) = fvs ρ (wrM M r j v) r cs := by
  apply List.ext_getElem?
  intro i
  by_cases hi : i = j
  · subst hi
    rw [List.getElem?_set_self (by rw [fvs_len]; exact (List.getElem?_eq_some_iff.mp h).1), fvs_get h]
    simp [fv, wrM, upd]
  · rw [List.getElem?_set_ne (Ne.symm hi)]
    cases hc : cs[i]? with
    | none => simp [fvs, hc]
    | some c =>
      rw [fvs_get hc, fvs_get hc]
      match c with
      | 0 => simp [fv, wrM, upd, hi]
      | 1 => rfl
      | n + 2 => rfl
theorem fvs_setL {ρ : Nat → Nat} {M : Me} {r j : Nat} {cs : List Nat} {v : Int64} (h : cs[j]? = some 1) (ho : ∀ i, i ≠ j → ¬ cs[i]? = some 1) : (fvs ρ M r cs).set j (.long v) = fvs ρ (wrL M v) r cs := by
  apply List.ext_getElem?
  intro i
  by_cases hi : i = j
  · subst hi
    rw [List.getElem?_set_self (by rw [fvs_len]; exact (List.getElem?_eq_some_iff.mp h).1), fvs_get h]
    rfl
  · rw [List.getElem?_set_ne (Ne.symm hi)]
    cases hc : cs[i]? with
    | none => simp [fvs, hc]
    | some c =>
      rw [fvs_get hc, fvs_get hc]
      match c, hc with
      | 0, _ => rfl
      | 1, hc => exact absurd hc (ho i hi)
      | n + 2, _ => rfl
def tysG (g : Gt) : List (ClassId × FieldType) := [((g3 g).1, .int), ((g3 g).2.1, .object RX1), ((g3 g).2.2, .object RX3)]
def rv (ρ : Nat → Nat) : Value → Value
  | .ref n => .ref (ρ n)
  | v => v
def rmOf (fr lo : Nat) : Room := { frames := fr, cells := 0, slots := 0, locals := lo }
-- locals: what is known of them
def lh (ρ : Nat → Nat) (ls : Array Slot) (nL : Nat) (L : List (Option Value)) : Prop := ls.size = nL ∧ lv_wf ls ∧ ∀ (i : Nat) (v : Value), L[i]? = some (some v) → ls[i]? = some (.val (rv ρ v))
def lvL (ρ : Nat → Nat) (L : List (Option Value)) : List (Nat × Value) := L.zipIdx.filterMap (fun q => q.1.map (fun v => (q.2, rv ρ v)))
theorem lvL_mem {ρ : Nat → Nat} {L : List (Option Value)} {q : Nat × Value} : q ∈ lvL ρ L ↔ ∃ v, L[q.1]? = some (some v) ∧ q.2 = rv ρ v := by
  unfold lvL
  rw [List.mem_filterMap]
  constructor
  · rintro ⟨⟨x, i⟩, h1, h2⟩
    have h3 := List.mem_zipIdx_iff_getElem?.mp h1
    cases x with
    | none => cases h2
    | some v =>
      cases h2
      exact ⟨v, h3, rfl⟩
  · rintro ⟨v, h1, h2⟩
    refine ⟨(some v, q.1), List.mem_zipIdx_iff_getElem?.mpr h1, ?_⟩
    show some (q.1, rv ρ v) = some q
    rw [← h2]
theorem lh_has {ρ : Nat → Nat} {ls : Array Slot} {nL : Nat} {L : List (Option Value)} (h : lh ρ ls nL L) : lv_has ls nL (lvL ρ L) := by
  refine ⟨h.1, h.2.1, fun q hq => ?_⟩
  obtain ⟨v, h1, h2⟩ := lvL_mem.mp hq
  rw [h2]
  exact h.2.2 _ _ h1
def kil : Option Value → Option Value
  | some (.long _) => none
  | some (.double _) => none
  | x => x
/-- a store of one word -/
def stL : List (Option Value) → Nat → Value → List (Option Value)
  | [], _, _ => []
  | _ :: t, 0, v => some v :: t
  | x :: t, 1, v => kil x :: stL t 0 v
  | x :: t, n + 2, v => x :: stL t (n + 1) v
/-- a store of two words -/
def stL2 : List (Option Value) → Nat → Value → List (Option Value)
  | [], _, _ => []
  | [_], 0, v => [some v]
  | _ :: _ :: t, 0, v => some v :: none :: t
  | x :: t, 1, v => kil x :: stL2 t 0 v
  | x :: t, n + 2, v => x :: stL2 t (n + 1) v
theorem kil_some {x : Option Value} {w : Value} (h : kil x = some w) : x = some w ∧ w.category = 1 := by
  cases x with
  | none => cases h
  | some u => cases u <;> simp [kil] at h <;> subst h <;> simp [Value.category]
theorem stL_get : ∀ (L : List (Option Value)) (i : Nat) (v : Value) (j : Nat) (w : Value), (stL L i v)[j]? = some (some w) → (j = i ∧ w = v) ∨ (j ≠ i ∧ L[j]? = some (some w) ∧ ¬ (j + 1 = i ∧ w.category = 2))
  | [], i, v, j, w, h => by simp [stL] at h
  | x :: t, 0, v, j, w, h => by
    cases j with
    | zero =>
      simp [stL] at h
      exact Or.inl ⟨rfl, h.symm⟩
    | succ j =>
      simp [stL] at h
      exact Or.inr ⟨by omega, by simpa using h, by omega⟩
  | x :: t, 1, v, j, w, h => by
    cases j with
    | zero =>
      simp [stL] at h
      obtain ⟨h1, h2⟩ := kil_some h
      exact Or.inr ⟨by omega, by simp [h1], by rw [h2]; omega⟩
    | succ j =>
      simp [stL] at h
      rcases stL_get t 0 v j w h with ⟨h1, h2⟩ | ⟨h1, h2, h3⟩
      · exact Or.inl ⟨by omega, h2⟩
      · exact Or.inr ⟨by omega, by simpa using h2, by omega⟩
  | x :: t, n + 2, v, j, w, h => by
    cases j with
    | zero =>
      simp [stL] at h
      exact Or.inr ⟨by omega, by simp [h], by omega⟩
    | succ j =>
      simp [stL] at h
      rcases stL_get t (n + 1) v j w h with ⟨h1, h2⟩ | ⟨h1, h2, h3⟩
      · exact Or.inl ⟨by omega, h2⟩
      · exact Or.inr ⟨by omega, by simpa using h2, by omega⟩
theorem stL2_get : ∀ (L : List (Option Value)) (i : Nat) (v : Value) (j : Nat) (w : Value), (stL2 L i v)[j]? = some (some w) → (j = i ∧ w = v) ∨ (j ≠ i ∧ j ≠ i + 1 ∧ L[j]? = some (some w) ∧ ¬ (j + 1 = i ∧ w.category = 2))
  | [], i, v, j, w, h => by simp [stL2] at h
  | [x], 0, v, j, w, h => by
    cases j with
    | zero =>
      simp [stL2] at h
      exact Or.inl ⟨rfl, h.symm⟩
    | succ j => simp [stL2] at h
  | x :: y :: t, 0, v, j, w, h => by
    match j, h with
    | 0, h =>
      simp [stL2] at h
      exact Or.inl ⟨rfl, h.symm⟩
    | 1, h => simp [stL2] at h
    | j + 2, h =>
      simp [stL2] at h
      exact Or.inr ⟨by omega, by omega, by simpa using h, by omega⟩
  | x :: t, 1, v, j, w, h => by
    cases j with
    | zero =>
      simp [stL2] at h
      obtain ⟨h1, h2⟩ := kil_some h
      exact Or.inr ⟨by omega, by omega, by simp [h1], by rw [h2]; omega⟩
    | succ j =>
      simp [stL2] at h
      rcases stL2_get t 0 v j w h with ⟨h1, h2⟩ | ⟨h1, h4, h2, h3⟩
      · exact Or.inl ⟨by omega, h2⟩
      · exact Or.inr ⟨by omega, by omega, by simpa using h2, by omega⟩
  | x :: t, n + 2, v, j, w, h => by
    cases j with
    | zero =>
      simp [stL2] at h
      exact Or.inr ⟨by omega, by omega, by simp [h], by omega⟩
    | succ j =>
      simp [stL2] at h
      rcases stL2_get t (n + 1) v j w h with ⟨h1, h2⟩ | ⟨h1, h4, h2, h3⟩
      · exact Or.inl ⟨by omega, h2⟩
      · exact Or.inr ⟨by omega, by omega, by simpa using h2, by omega⟩
theorem rv_cat (ρ : Nat → Nat) (v : Value) : (rv ρ v).category = v.category := by cases v <;> rfl
theorem lh_st {ρ : Nat → Nat} {ls : Array Slot} {nL i : Nat} {L : List (Option Value)} {v : Value} (h : lv_has ls nL ((i, rv ρ v) :: (lvL ρ L).filter (fun q => !(q.1 == i) && !(q.1 + 1 == i && q.2.category == 2)))) : lh ρ ls nL (stL L i v) := by
  refine ⟨h.1, h.2.1, fun j w hw => ?_⟩
  rcases stL_get L i v j w hw with ⟨rfl, rfl⟩ | ⟨h1, h2, h3⟩
  · exact h.2.2 _ List.mem_cons_self
  · refine h.2.2 (j, rv ρ w) (List.mem_cons_of_mem _ (List.mem_filter.mpr ⟨lvL_mem.mpr ⟨w, h2, rfl⟩, ?_⟩))
    simp only [rv_cat]
    by_cases hq : j + 1 = i
    · have hc : ¬ w.category = 2 := fun z => h3 ⟨hq, z⟩
      simp [h1, hc]
    · simp [h1, hq]
theorem lh_st2 {ρ : Nat → Nat} {ls : Array Slot} {nL i : Nat} {L : List (Option Value)} {v : Value} (h : lv_has ls nL ((i, rv ρ v) :: (lvL ρ L).filter (fun q => !(q.1 == i) && (!(q.1 == i + 1) && !(q.1 + 1 == i && q.2.category == 2))))) : lh ρ ls nL (stL2 L i v) := by
  refine ⟨h.1, h.2.1, fun j w hw => ?_⟩
  rcases stL2_get L i v j w hw with ⟨rfl, rfl⟩ | ⟨h1, h4, h2, h3⟩
  · exact h.2.2 _ List.mem_cons_self
  · refine h.2.2 (j, rv ρ w) (List.mem_cons_of_mem _ (List.mem_filter.mpr ⟨lvL_mem.mpr ⟨w, h2, rfl⟩, ?_⟩))
    simp only [rv_cat]
    by_cases hq : j + 1 = i
    · have hc : ¬ w.category = 2 := fun z => h3 ⟨hq, z⟩
      simp [h1, h4, hc]
    · simp [h1, h4, hq]
/-- less is known -/
def leL : List (Option Value) → List (Option Value) → Prop
  | [], _ => True
  | none :: a, [] => leL a []
  | some _ :: _, [] => False
  | none :: a, _ :: b => leL a b
  | some v :: a, w :: b => w = some v ∧ leL a b
theorem leL_get : ∀ (a b : List (Option Value)) (i : Nat) (v : Value), leL a b → a[i]? = some (some v) → b[i]? = some (some v)
  | [], _, i, v, _, h => by simp at h
  | none :: a, [], i, v, hl, h => by
    cases i with
    | zero => simp at h
    | succ i =>
      have h2 := leL_get a [] i v hl (by simpa using h)
      simp at h2
  | some _ :: _, [], i, v, hl, h => hl.elim
  | none :: a, _ :: b, i, v, hl, h => by
    cases i with
    | zero => simp at h
    | succ i => simpa using leL_get a b i v hl (by simpa using h)
  | some u :: a, w :: b, i, v, hl, h => by
    cases i with
    | zero =>
      simp at h
      subst h
      simp [hl.1]
    | succ i => simpa using leL_get a b i v hl.2 (by simpa using h)
theorem lh_le {ρ : Nat → Nat} {ls : Array Slot} {nL : Nat} {L L' : List (Option Value)} (h : lh ρ ls nL L) (hl : leL L' L) : lh ρ ls nL L' := ⟨h.1, h.2.1, fun i v hv => h.2.2 i v (leL_get L' L i v hl hv)⟩
def entL : List Value → List (Option Value)
  | [] => []
  | .long x :: t => some (.long x) :: none :: entL t
  | .double x :: t => some (.double x) :: none :: entL t
  | v :: t => some v :: entL t
end
section
/-! Ev and its rows -/
def nestW : List Cond := [.methodLinkNest RX0 89 yX5_spiltBetween RX5, .methodLinkNest RX2 108 yX5_spiltBetween RX5, .fieldLinkNest RX1 37 RX5 "KIND_ABOVE" "[I" RX5, .methodLinkNest RX2 58 yX1_init RX5, .methodLinkNest RX5 28 yX4_init RX5, .methodLinkNest RX5 50 yX3_init RX5]
def strIx : List (Nat × String) := [(93, "deep"), (95, "spring"), (97, "tired"), (99, "shared"), (101, "morning"), (103, "faint"), (105, "pump"), (79, "at"), (81, "gives"), (83, "fails"), (52, "room"), (67, "spills"), (71, "water"), (75, "drought")]
def strLen : List Nat := [4, 6, 5, 6, 7, 5, 4, 2, 5, 5, 4, 6, 5, 7]
def strByt : List (List Int32) := [[100, 101, 101, 112], [115, 112, 114, 105, 110, 103], [116, 105, 114, 101, 100], [115, 104, 97, 114, 101, 100], [109, 111, 114, 110, 105, 110, 103], [102, 97, 105, 110, 116], [112, 117, 109, 112], [97, 116], [103, 105, 118, 101, 115], [102, 97, 105, 108, 115], [114, 111, 111, 109], [115, 112, 105, 108, 108, 115], [119, 97, 116, 101, 114], [100, 114, 111, 117, 103, 104, 116]]
def kAbove : List Int32 := [-1, 0, 0, 0, 1, 0, 3]
/-- what is known beside the world: links of nest mates, string constants, statics -/
def Sg (g : Gt) (A : Nat → Prop) (U : State) (H : Heap) : Prop :=
  (∀ w ∈ nestW, va_Nw w U) ∧ vk_S 14 strLen strByt (gS g) (gV g) A U H ∧ (∀ (i : Nat) (q : Nat × String), strIx[i]? = some q → vk_R RX4 q.1 q.2 (gS g i) U) ∧
  va_Z "java/lang/String" "COMPACT_STRINGS" "Z" (.int 1) A U H ∧ va_Zq "jdk/internal/util/Preconditions" "SIOOBE_FORMATTER" "Ljava/util/function/BiFunction;" A U H ∧
  va_Z RX5 "KIND_ABOVE" "[I" (.ref (gT g)) A U H ∧ va_T .int (gT g) 7 (fun j => .int (kAbove.getD j 0)) A U H ∧ (gp g 999 = gT g ∧ ∀ i, i < 14 → gp g (1000 + i) = gS g i)
theorem nestW_warm {s U : State} (hW : s.WarmedH U.vm) (h : ∀ w ∈ nestW, va_Nw w s) : ∀ w ∈ nestW, va_Nw w U := by
  intro w hw
  have h0 := h w hw
  simp only [nestW, List.mem_cons, List.not_mem_nil, or_false] at hw
  rcases hw with rfl | rfl | rfl | rfl | rfl | rfl
  · exact va_Nw.warmM hW h0
  · exact va_Nw.warmM hW h0
  · exact va_Nw.warmF hW h0
  · exact va_Nw.warmM hW h0
  · exact va_Nw.warmM hW h0
  · exact va_Nw.warmM hW h0
theorem nestW_same {u U : State} (hv : u.vm = U.vm) (h : ∀ w ∈ nestW, va_Nw w u) : ∀ w ∈ nestW, va_Nw w U := by
  intro w hw
  have h0 := h w hw
  simp only [nestW, List.mem_cons, List.not_mem_nil, or_false] at hw
  rcases hw with rfl | rfl | rfl | rfl | rfl | rfl <;> exact va_Nw.same rfl hv h0
theorem Sg.move {g : Gt} {A B : Nat → Prop} {s U : State} {H : Heap} {locs : List Loc} (h : Sg g A s s.heap) (hW : s.WarmedH U.vm) (hU : U.heap = H) (hS : va_S A s.heap H locs) (hAB : ∀ q, B q → A q) : Sg g B U U.heap := by
  obtain ⟨h1, h2, h3, h4, h5, h6, h7, h8⟩ := h
  subst hU
  exact ⟨nestW_warm hW h1, ((h2.kept hS.2.1).narrow hAB).moved hW.alike, fun i q hq => (h3 i q hq).warm hW, va_Z.moved hW.alike ((h4.kept hS.2.1).narrow hAB), va_Zq.moved hW.alike ((h5.kept hS.2.1).narrow hAB), va_Z.moved hW.alike ((h6.kept hS.2.1).narrow hAB), va_T.moved hW.alike ((h7.kept hS.2.1).narrow hAB), h8⟩
theorem Sg.calling {g : Gt} {A : Nat → Prop} {U : State} {f : JFrame} {mk : MethodId} {a : Array Value} (h : Sg g A U U.heap) : Sg g A (U.calling f mk a) (U.calling f mk a).heap := by
  obtain ⟨h1, h2, h3, h4, h5, h6, h7, h8⟩ := h
  have e : U.vm.Alike (U.calling f mk a).vm := Vm.Alike.refl U.vm
  exact ⟨nestW_same (u := U) rfl h1, vk_S.moved e h2, fun i q hq => (h3 i q hq).same rfl, va_Z.moved e h4, va_Zq.moved e h5, va_Z.moved e h6, va_T.moved e h7, h8⟩
/-- the end of a method: its answer, the memory behind it -/
def Qof (g : Gt) (Q : Option Value → Me → Prop) (A : Nat → Prop) : Array Value → State → Outcome → State → Prop := fun _ st oc t =>
  (∃ (r : Option Value) (M' : Me), oc = .returned (r.map (rv (gp g))) ∧ Q r M' ∧ va_P (gD g) vwCl (wd g M') t.heap ∧ va_K (gD g) vwCl (tysG g) t ∧ va_D A (wd g M')) ∧ va_F A st t
def Cx (g : Gt) (μ : Mt) (p : Program) (s : State) (m : MethodId) (args : Array Value) (meth : Method) (c : Code) (A : Nat → Prop) : Prop :=
  p.tables.exec = Jvm.exec ∧ c.code = μ.2.1 ∧ c.maxLocals = μ.2.2.1 ∧ meth.sig.returnType = μ.2.2.2 ∧ meth.locks = false ∧ s.vm.findClass μ.1.cls = some m.cls ∧ (∀ w ∈ mws μ, w.before args s = true) ∧ va_K (gD g) vwCl (tysG g) s ∧ (∀ q : Nat, s.heap.size ≤ q → A q) ∧ Sg g A s s.heap
theorem Cx.ex {g : Gt} {μ : Mt} {p : Program} {s : State} {m : MethodId} {args : Array Value} {meth : Method} {c : Code} {A : Nat → Prop} (C : Cx g μ p s m args meth c A) : p.tables.exec = Jvm.exec := C.1
theorem Cx.by_ {g : Gt} {μ : Mt} {p : Program} {s : State} {m : MethodId} {args : Array Value} {meth : Method} {c : Code} {A : Nat → Prop} (C : Cx g μ p s m args meth c A) : c.code = μ.2.1 := C.2.1
theorem Cx.ml {g : Gt} {μ : Mt} {p : Program} {s : State} {m : MethodId} {args : Array Value} {meth : Method} {c : Code} {A : Nat → Prop} (C : Cx g μ p s m args meth c A) : c.maxLocals = μ.2.2.1 := C.2.2.1
theorem Cx.re {g : Gt} {μ : Mt} {p : Program} {s : State} {m : MethodId} {args : Array Value} {meth : Method} {c : Code} {A : Nat → Prop} (C : Cx g μ p s m args meth c A) : meth.sig.returnType = μ.2.2.2 := C.2.2.2.1
theorem Cx.lk {g : Gt} {μ : Mt} {p : Program} {s : State} {m : MethodId} {args : Array Value} {meth : Method} {c : Code} {A : Nat → Prop} (C : Cx g μ p s m args meth c A) : meth.locks = false := C.2.2.2.2.1
theorem Cx.ow {g : Gt} {μ : Mt} {p : Program} {s : State} {m : MethodId} {args : Array Value} {meth : Method} {c : Code} {A : Nat → Prop} (C : Cx g μ p s m args meth c A) : s.vm.findClass μ.1.cls = some m.cls := C.2.2.2.2.2.1
theorem Cx.ts {g : Gt} {μ : Mt} {p : Program} {s : State} {m : MethodId} {args : Array Value} {meth : Method} {c : Code} {A : Nat → Prop} (C : Cx g μ p s m args meth c A) : ∀ w ∈ mws μ, w.before args s = true := C.2.2.2.2.2.2.1
theorem Cx.gt {g : Gt} {μ : Mt} {p : Program} {s : State} {m : MethodId} {args : Array Value} {meth : Method} {c : Code} {A : Nat → Prop} (C : Cx g μ p s m args meth c A) {w : Cond} (h : w ∈ gtb) : w.before args s = true := C.ts w (mws_in h)
theorem Cx.K {g : Gt} {μ : Mt} {p : Program} {s : State} {m : MethodId} {args : Array Value} {meth : Method} {c : Code} {A : Nat → Prop} (C : Cx g μ p s m args meth c A) : va_K (gD g) vwCl (tysG g) s := C.2.2.2.2.2.2.2.1
theorem Cx.A0 {g : Gt} {μ : Mt} {p : Program} {s : State} {m : MethodId} {args : Array Value} {meth : Method} {c : Code} {A : Nat → Prop} (C : Cx g μ p s m args meth c A) : ∀ q : Nat, s.heap.size ≤ q → A q := C.2.2.2.2.2.2.2.2.1
theorem Cx.G {g : Gt} {μ : Mt} {p : Program} {s : State} {m : MethodId} {args : Array Value} {meth : Method} {c : Code} {A : Nat → Prop} (C : Cx g μ p s m args meth c A) : Sg g A s s.heap := C.2.2.2.2.2.2.2.2.2
/-- from this frame the method comes to its end with Q -/
def Ev (g : Gt) (μ : Mt) (fr lo pc : Nat) (L : List (Option Value)) (S : List Value) (M : Me) (Q : Option Value → Me → Prop) : Prop :=
  ∀ (p : Program) (e : Env) (s : State) (m : MethodId) (args : Array Value) (below : List Frame) (meth : Method) (c : Code) (H : Heap) (locs : List Loc) (A : Nat → Prop) (ls : Array Slot),
    Cx g μ p s m args meth c A → va_P (gD g) vwCl (wd g M) H → va_D A (wd g M) → va_S A s.heap H locs → lh (gp g) ls μ.2.2.1 L →
    W p (gl g) e (headSpec (mws μ) (rmOf fr lo)).room s m args below meth c H locs 0 0 (MQ below (Qof g Q A) args s 0 0 A) (F0 m pc ls (S.map (rv (gp g))))
/-- a method's contract at these arguments and this memory -/
def EvM (g : Gt) (μ : Mt) (fr lo : Nat) (as : List Value) (M : Me) (Q : Option Value → Me → Prop) : Prop :=
  ∀ sz : Nat, Met (gl g) μ.1 (mws μ) (rmOf fr lo) (va_Pc (as.map (rv (gp g))) (fun U => U.heap.size = sz ∧ va_P (gD g) vwCl (wd g M) U.heap ∧ va_K (gD g) vwCl (tysG g) U ∧ va_D (fun _ => True) (wd g M) ∧ Sg g (va_A (wd g M) sz) U U.heap)) (Qof g Q (va_A (wd g M) sz)) 0 0 (va_A (wd g M) sz)
theorem entL_in (ρ : Nat → Nat) : ∀ (as : List Value) (i j : Nat) (v : Value), (entL as)[j]? = some (some v) → (i + j, rv ρ v) ∈ lv_args i (as.map (rv ρ))
  | [], i, j, v, h => by simp [entL] at h
  | a :: t, i, j, v, h => by
    cases a with
    | long x =>
      match j, h with
      | 0, h =>
        simp [entL] at h
        subst h
        exact List.mem_cons_self
      | 1, h => simp [entL] at h
      | j + 2, h =>
        simp [entL] at h
        have h2 := entL_in ρ t (i + 2) j v h
        refine List.mem_cons_of_mem _ ?_
        rw [show i + (j + 2) = i + 2 + j by omega]
        exact h2
    | double x =>
      match j, h with
      | 0, h =>
        simp [entL] at h
        subst h
        exact List.mem_cons_self
      | 1, h => simp [entL] at h
      | j + 2, h =>
        simp [entL] at h
        have h2 := entL_in ρ t (i + 2) j v h
        refine List.mem_cons_of_mem _ ?_
        rw [show i + (j + 2) = i + 2 + j by omega]
        exact h2
    | int x =>
      match j, h with
      | 0, h => simp [entL] at h; subst h; exact List.mem_cons_self
      | j + 1, h =>
        simp [entL] at h
        have h2 := entL_in ρ t (i + 1) j v h
        refine List.mem_cons_of_mem _ ?_
        rw [show i + (j + 1) = i + 1 + j by omega]
        exact h2
    | float x =>
      match j, h with
      | 0, h => simp [entL] at h; subst h; exact List.mem_cons_self
      | j + 1, h =>
        simp [entL] at h
        have h2 := entL_in ρ t (i + 1) j v h
        refine List.mem_cons_of_mem _ ?_
        rw [show i + (j + 1) = i + 1 + j by omega]
        exact h2
    | null =>
      match j, h with
      | 0, h => simp [entL] at h; subst h; exact List.mem_cons_self
      | j + 1, h =>
        simp [entL] at h
        have h2 := entL_in ρ t (i + 1) j v h
        refine List.mem_cons_of_mem _ ?_
        rw [show i + (j + 1) = i + 1 + j by omega]
        exact h2
    | ref x =>
      match j, h with
      | 0, h => simp [entL] at h; subst h; exact List.mem_cons_self
      | j + 1, h =>
        simp [entL] at h
        have h2 := entL_in ρ t (i + 1) j v h
        refine List.mem_cons_of_mem _ ?_
        rw [show i + (j + 1) = i + 1 + j by omega]
        exact h2
    | retAddr x =>
      match j, h with
      | 0, h => simp [entL] at h; subst h; exact List.mem_cons_self
      | j + 1, h =>
        simp [entL] at h
        have h2 := entL_in ρ t (i + 1) j v h
        refine List.mem_cons_of_mem _ ?_
        rw [show i + (j + 1) = i + 1 + j by omega]
        exact h2
theorem lh_entry {ρ : Nat → Nat} {as : List Value} {n k : Nat} {ls : Array Slot} (h : lv_has ls n (lv_args 0 (as.map (rv ρ)))) : lh ρ ls n (entL as ++ List.replicate k none) := by
  refine ⟨h.1, h.2.1, fun i v hv => ?_⟩
  by_cases hi : i < (entL as).length
  · rw [List.getElem?_append_left hi] at hv
    have h2 := entL_in ρ as 0 i v hv
    rw [Nat.zero_add] at h2
    exact h.2.2 _ h2
  · rw [List.getElem?_append_right (by omega)] at hv
    have h3 := List.mem_of_getElem? hv
    rw [List.mem_replicate] at h3
    cases h3.2
theorem lg_len (ρ : Nat → Nat) (as : List Value) : (lg_sl (as.map (rv ρ))).length = (entL as).length := by
  induction as with
  | nil => rfl
  | cons a t ih =>
    have e : lg_sl ((a :: t).map (rv ρ)) = (if (rv ρ a).category = 2 then [.val (rv ρ a), .second] else [.val (rv ρ a)]) ++ lg_sl (t.map (rv ρ)) := by simp [lg_sl]
    rw [e, List.length_append, ih]
    cases a <;> simp [entL, rv, Value.category] <;> omega
theorem evm_of {g : Gt} {μ : Mt} {fr lo : Nat} {as : List Value} {M : Me} {Q : Option Value → Me → Prop} (L : List (Option Value)) (k : Nat) (hy : plainName μ.1.cls = true) (hn : (entL as).length ≤ μ.2.2.1) (hL : entL as ++ List.replicate k none = L) (h : Ev g μ fr lo 0 L [] M Q) : EvM g μ fr lo as M Q := by
  intro sz
  refine Met.ofW (cc := μ.2.1) (maxL := μ.2.2.1) (ret := μ.2.2.2) hy rfl ?_
  intro p e s m args below meth c s₁ B hml hv
  obtain ⟨rfl, hsz, hP, hK, hD0, hG⟩ := hv
  have hx := B.exec
  have hb := B.bytes
  have hr := B.returns
  have hts := atoms_spec (ws := mws μ) B.pre
  have hown : s.vm.findClass μ.1.cls = some m.cls := findClass_of_methodNamed B.named
  have hlocks := B.notSynchronized
  subst hsz
  have hD := hD0.self (sz := s.heap.size)
  rw [lg_entry_eq]
  have hl := lv_entry (as.map (rv (gp g))) (n := μ.2.2.1) (by rw [lg_len]; exact hn)
  subst hL
  exact h p e s m _ below meth c s.heap [] (va_A (wd g M) s.heap.size) _ ⟨hx, hb, hml, hr, hlocks, hown, hts, hK, fun q h => Or.inr h, hG⟩ hP hD va_S.rf (lh_entry hl)
section ER
variable {g : Gt} {μ : Mt} {fr lo pc : Nat} {L L' : List (Option Value)} {S : List Value} {M : Me} {Q : Option Value → Me → Prop}
theorem e_forget (L0 : List (Option Value)) (hl : leL L0 L) (k : Ev g μ fr lo pc L0 S M Q) : Ev g μ fr lo pc L S M Q :=
  fun p e s m args below meth c H locs A ls C hP hD hS h => k p e s m args below meth c H locs A ls C hP hD hS (lh_le h hl)
theorem e_iconst {n : Int} (v : Int32) (hd : decode μ.2.1 pc = .ok (.iconst n, 1)) (hv : Int32.ofInt n = v) (k : Ev g μ fr lo (pc + 1) L (.int v :: S) M Q) : Ev g μ fr lo pc L S M Q :=
  fun p e s m args below meth c H locs A ls C hP hD hS h => lv_iconst C.ex C.by_ hd hv (k p e s m args below meth c H locs A ls C hP hD hS h)
theorem e_bipush {n : Int} (v : Int32) (hd : decode μ.2.1 pc = .ok (.bipush n, 2)) (hv : (Int8.ofInt n).toInt32 = v) (k : Ev g μ fr lo (pc + 2) L (.int v :: S) M Q) : Ev g μ fr lo pc L S M Q :=
  fun p e s m args below meth c H locs A ls C hP hD hS h => lv_bipush C.ex C.by_ hd hv (k p e s m args below meth c H locs A ls C hP hD hS h)
theorem e_sipush {n : Int} (v : Int32) (hd : decode μ.2.1 pc = .ok (.sipush n, 3)) (hv : (Int16.ofInt n).toInt32 = v) (k : Ev g μ fr lo (pc + 3) L (.int v :: S) M Q) : Ev g μ fr lo pc L S M Q :=
  fun p e s m args below meth c H locs A ls C hP hD hS h => lv_sipush C.ex C.by_ hd hv (k p e s m args below meth c H locs A ls C hP hD hS h)
theorem e_lconst {n : Fin 2} (v : Int64) (hd : decode μ.2.1 pc = .ok (.lconst n, 1)) (hv : Int64.ofNat (n : Nat) = v) (k : Ev g μ fr lo (pc + 1) L (.long v :: S) M Q) : Ev g μ fr lo pc L S M Q :=
  fun p e s m args below meth c H locs A ls C hP hD hS h => lv_lconst C.ex C.by_ hd hv (k p e s m args below meth c H locs A ls C hP hD hS h)
theorem e_ldc {idx : Nat} {v : Int32} (hc : Cond.constant μ.1.cls idx v ∈ gtb) (hd : decode μ.2.1 pc = .ok (.ldc idx, 2)) (k : Ev g μ fr lo (pc + 2) L (.int v :: S) M Q) : Ev g μ fr lo pc L S M Q :=
  fun p e s m args below meth c H locs A ls C hP hD hS h => lv_ldc C.ex C.by_ C.ow (C.gt hc) hd (k p e s m args below meth c H locs A ls C hP hD hS h)
theorem e_ldcw {idx : Nat} {v : Int32} (hc : Cond.constant μ.1.cls idx v ∈ gtb) (hd : decode μ.2.1 pc = .ok (.ldc_w idx, 3)) (k : Ev g μ fr lo (pc + 3) L (.int v :: S) M Q) : Ev g μ fr lo pc L S M Q :=
  fun p e s m args below meth c H locs A ls C hP hD hS h => lv_ldcw C.ex C.by_ C.ow (C.gt hc) hd (k p e s m args below meth c H locs A ls C hP hD hS h)
theorem e_ldc2 {idx : Nat} {v : Int64} (hc : Cond.constantLong μ.1.cls idx v ∈ gtb) (hd : decode μ.2.1 pc = .ok (.ldc2_w idx, 3)) (k : Ev g μ fr lo (pc + 3) L (.long v :: S) M Q) : Ev g μ fr lo pc L S M Q :=
  fun p e s m args below meth c H locs A ls C hP hD hS h => lv_ldc2 C.ex C.by_ C.ow (C.gt hc) hd (k p e s m args below meth c H locs A ls C hP hD hS h)
theorem e_iload_n {q : Fin 4} {x : Int32} (hd : decode μ.2.1 pc = .ok (.iload_n q, 1)) (hl : L[(q : Nat)]? = some (some (.int x))) (k : Ev g μ fr lo (pc + 1) L (.int x :: S) M Q) : Ev g μ fr lo pc L S M Q :=
  fun p e s m args below meth c H locs A ls C hP hD hS h => lv_iload_n C.ex C.by_ hd rfl (h.2.2 _ _ hl) (k p e s m args below meth c H locs A ls C hP hD hS h)
theorem e_iload {i : Nat} {x : Int32} (hd : decode μ.2.1 pc = .ok (.iload i, 2)) (hl : L[i]? = some (some (.int x))) (k : Ev g μ fr lo (pc + 2) L (.int x :: S) M Q) : Ev g μ fr lo pc L S M Q :=
  fun p e s m args below meth c H locs A ls C hP hD hS h => lv_iload C.ex C.by_ hd (h.2.2 _ _ hl) (k p e s m args below meth c H locs A ls C hP hD hS h)
theorem e_lload_n {q : Fin 4} {x : Int64} (hd : decode μ.2.1 pc = .ok (.lload_n q, 1)) (hl : L[(q : Nat)]? = some (some (.long x))) (k : Ev g μ fr lo (pc + 1) L (.long x :: S) M Q) : Ev g μ fr lo pc L S M Q :=
  fun p e s m args below meth c H locs A ls C hP hD hS h => lv_lload_n C.ex C.by_ hd rfl (h.2.2 _ _ hl) (k p e s m args below meth c H locs A ls C hP hD hS h)
theorem e_lload {i : Nat} {x : Int64} (hd : decode μ.2.1 pc = .ok (.lload i, 2)) (hl : L[i]? = some (some (.long x))) (k : Ev g μ fr lo (pc + 2) L (.long x :: S) M Q) : Ev g μ fr lo pc L S M Q :=
  fun p e s m args below meth c H locs A ls C hP hD hS h => lv_lload C.ex C.by_ hd (h.2.2 _ _ hl) (k p e s m args below meth c H locs A ls C hP hD hS h)
theorem e_aload_n {q : Fin 4} {x : Nat} (hd : decode μ.2.1 pc = .ok (.aload_n q, 1)) (hl : L[(q : Nat)]? = some (some (.ref x))) (k : Ev g μ fr lo (pc + 1) L (.ref x :: S) M Q) : Ev g μ fr lo pc L S M Q :=
  fun p e s m args below meth c H locs A ls C hP hD hS h => lv_aload_n C.ex C.by_ hd rfl (h.2.2 _ _ hl) (k p e s m args below meth c H locs A ls C hP hD hS h)
theorem e_aload {i : Nat} {x : Nat} (hd : decode μ.2.1 pc = .ok (.aload i, 2)) (hl : L[i]? = some (some (.ref x))) (k : Ev g μ fr lo (pc + 2) L (.ref x :: S) M Q) : Ev g μ fr lo pc L S M Q :=
  fun p e s m args below meth c H locs A ls C hP hD hS h => lv_aload C.ex C.by_ hd (h.2.2 _ _ hl) (k p e s m args below meth c H locs A ls C hP hD hS h)
theorem e_istore_n {q : Fin 4} {x : Int32} (hd : decode μ.2.1 pc = .ok (.istore_n q, 1)) (hn : (q : Nat) < μ.2.2.1) (hL : stL L (q : Nat) (.int x) = L') (k : Ev g μ fr lo (pc + 1) L' S M Q) : Ev g μ fr lo pc L (.int x :: S) M Q :=
  fun p e s m args below meth c H locs A ls C hP hD hS h => lv_istore_n C.ex C.by_ hd rfl (lh_has h) hn rfl (fun ls' h' => k p e s m args below meth c H locs A ls' C hP hD hS (hL ▸ lh_st (v := .int x) h'))
theorem e_istore {i : Nat} {x : Int32} (hd : decode μ.2.1 pc = .ok (.istore i, 2)) (hn : i < μ.2.2.1) (hL : stL L i (.int x) = L') (k : Ev g μ fr lo (pc + 2) L' S M Q) : Ev g μ fr lo pc L (.int x :: S) M Q :=
  fun p e s m args below meth c H locs A ls C hP hD hS h => lv_istore C.ex C.by_ hd (lh_has h) hn rfl (fun ls' h' => k p e s m args below meth c H locs A ls' C hP hD hS (hL ▸ lh_st (v := .int x) h'))
theorem e_lstore_n {q : Fin 4} {x : Int64} (hd : decode μ.2.1 pc = .ok (.lstore_n q, 1)) (hn : (q : Nat) + 1 < μ.2.2.1) (hL : stL2 L (q : Nat) (.long x) = L') (k : Ev g μ fr lo (pc + 1) L' S M Q) : Ev g μ fr lo pc L (.long x :: S) M Q :=
  fun p e s m args below meth c H locs A ls C hP hD hS h => lv_lstore_n C.ex C.by_ hd rfl (lh_has h) hn rfl (fun ls' h' => k p e s m args below meth c H locs A ls' C hP hD hS (hL ▸ lh_st2 (v := .long x) h'))
theorem e_lstore {i : Nat} {x : Int64} (hd : decode μ.2.1 pc = .ok (.lstore i, 2)) (hn : i + 1 < μ.2.2.1) (hL : stL2 L i (.long x) = L') (k : Ev g μ fr lo (pc + 2) L' S M Q) : Ev g μ fr lo pc L (.long x :: S) M Q :=
  fun p e s m args below meth c H locs A ls C hP hD hS h => lv_lstore C.ex C.by_ hd (lh_has h) hn rfl (fun ls' h' => k p e s m args below meth c H locs A ls' C hP hD hS (hL ▸ lh_st2 (v := .long x) h'))
theorem e_astore_n {q : Fin 4} {x : Nat} (hd : decode μ.2.1 pc = .ok (.astore_n q, 1)) (hn : (q : Nat) < μ.2.2.1) (hL : stL L (q : Nat) (.ref x) = L') (k : Ev g μ fr lo (pc + 1) L' S M Q) : Ev g μ fr lo pc L (.ref x :: S) M Q :=
  fun p e s m args below meth c H locs A ls C hP hD hS h => lv_astore_n C.ex C.by_ hd rfl (lh_has h) hn rfl (fun ls' h' => k p e s m args below meth c H locs A ls' C hP hD hS (hL ▸ lh_st (v := .ref x) h'))
theorem e_astore {i : Nat} {x : Nat} (hd : decode μ.2.1 pc = .ok (.astore i, 2)) (hn : i < μ.2.2.1) (hL : stL L i (.ref x) = L') (k : Ev g μ fr lo (pc + 2) L' S M Q) : Ev g μ fr lo pc L (.ref x :: S) M Q :=
  fun p e s m args below meth c H locs A ls C hP hD hS h => lv_astore C.ex C.by_ hd (lh_has h) hn rfl (fun ls' h' => k p e s m args below meth c H locs A ls' C hP hD hS (hL ▸ lh_st (v := .ref x) h'))
theorem e_iinc {i : Nat} {n : Int} {x : Int32} (v : Int32) (hd : decode μ.2.1 pc = .ok (.iinc i n, 3)) (hl : L[i]? = some (some (.int x))) (hv : x + Int32.ofInt n = v) (hn : i < μ.2.2.1) (hL : stL L i (.int v) = L') (k : Ev g μ fr lo (pc + 3) L' S M Q) : Ev g μ fr lo pc L S M Q := by
  intro p e s m args below meth c H locs A ls C hP hD hS h
  obtain ⟨j, hj⟩ := List.getElem?_of_mem (lvL_mem (q := (i, .int x)).mpr ⟨_, hl, rfl⟩ : (i, Value.int x) ∈ lvL (gp g) L)
  exact lv_iinc C.ex C.by_ hd (lh_has h) (k := j) hj hv hn rfl (fun ls' h' => k p e s m args below meth c H locs A ls' C hP hD hS (hL ▸ lh_st (v := .int v) h'))
theorem e_iadd {x y : Int32} (hd : decode μ.2.1 pc = .ok (.iadd, 1)) (k : Ev g μ fr lo (pc + 1) L (.int (x + y) :: S) M Q) : Ev g μ fr lo pc L (.int y :: .int x :: S) M Q :=
  fun p e s m args below meth c H locs A ls C hP hD hS h => lv_iadd C.ex C.by_ hd (k p e s m args below meth c H locs A ls C hP hD hS h)
theorem e_isub {x y : Int32} (hd : decode μ.2.1 pc = .ok (.isub, 1)) (k : Ev g μ fr lo (pc + 1) L (.int (x - y) :: S) M Q) : Ev g μ fr lo pc L (.int y :: .int x :: S) M Q :=
  fun p e s m args below meth c H locs A ls C hP hD hS h => lv_isub C.ex C.by_ hd (k p e s m args below meth c H locs A ls C hP hD hS h)
theorem e_imul {x y : Int32} (hd : decode μ.2.1 pc = .ok (.imul, 1)) (k : Ev g μ fr lo (pc + 1) L (.int (x * y) :: S) M Q) : Ev g μ fr lo pc L (.int y :: .int x :: S) M Q :=
  fun p e s m args below meth c H locs A ls C hP hD hS h => lv_imul C.ex C.by_ hd (k p e s m args below meth c H locs A ls C hP hD hS h)
theorem e_idiv {x y : Int32} (hd : decode μ.2.1 pc = .ok (.idiv, 1)) (hy : ¬ y = 0) (k : Ev g μ fr lo (pc + 1) L (.int (x / y) :: S) M Q) : Ev g μ fr lo pc L (.int y :: .int x :: S) M Q :=
  fun p e s m args below meth c H locs A ls C hP hD hS h => lv_idiv C.ex C.by_ hd hy (k p e s m args below meth c H locs A ls C hP hD hS h)
theorem e_irem {x y : Int32} (hd : decode μ.2.1 pc = .ok (.irem, 1)) (hy : ¬ y = 0) (k : Ev g μ fr lo (pc + 1) L (.int (x - x / y * y) :: S) M Q) : Ev g μ fr lo pc L (.int y :: .int x :: S) M Q :=
  fun p e s m args below meth c H locs A ls C hP hD hS h => lv_irem C.ex C.by_ hd hy (k p e s m args below meth c H locs A ls C hP hD hS h)
theorem e_iand {x y : Int32} (hd : decode μ.2.1 pc = .ok (.iand, 1)) (k : Ev g μ fr lo (pc + 1) L (.int (x &&& y) :: S) M Q) : Ev g μ fr lo pc L (.int y :: .int x :: S) M Q :=
  fun p e s m args below meth c H locs A ls C hP hD hS h => lv_iand C.ex C.by_ hd (k p e s m args below meth c H locs A ls C hP hD hS h)
theorem e_ior {x y : Int32} (hd : decode μ.2.1 pc = .ok (.ior, 1)) (k : Ev g μ fr lo (pc + 1) L (.int (x ||| y) :: S) M Q) : Ev g μ fr lo pc L (.int y :: .int x :: S) M Q :=
  fun p e s m args below meth c H locs A ls C hP hD hS h => lv_ior C.ex C.by_ hd (k p e s m args below meth c H locs A ls C hP hD hS h)
theorem e_ixor {x y : Int32} (hd : decode μ.2.1 pc = .ok (.ixor, 1)) (k : Ev g μ fr lo (pc + 1) L (.int (x ^^^ y) :: S) M Q) : Ev g μ fr lo pc L (.int y :: .int x :: S) M Q :=
  fun p e s m args below meth c H locs A ls C hP hD hS h => lv_ixor C.ex C.by_ hd (k p e s m args below meth c H locs A ls C hP hD hS h)
theorem e_ishl {x y : Int32} (hd : decode μ.2.1 pc = .ok (.ishl, 1)) (k : Ev g μ fr lo (pc + 1) L (.int (x <<< (y &&& 31)) :: S) M Q) : Ev g μ fr lo pc L (.int y :: .int x :: S) M Q :=
  fun p e s m args below meth c H locs A ls C hP hD hS h => lv_ishl C.ex C.by_ hd (k p e s m args below meth c H locs A ls C hP hD hS h)
theorem e_ishr {x y : Int32} (hd : decode μ.2.1 pc = .ok (.ishr, 1)) (k : Ev g μ fr lo (pc + 1) L (.int (x >>> (y &&& 31)) :: S) M Q) : Ev g μ fr lo pc L (.int y :: .int x :: S) M Q :=
  fun p e s m args below meth c H locs A ls C hP hD hS h => lv_ishr C.ex C.by_ hd (k p e s m args below meth c H locs A ls C hP hD hS h)
def jushr (x y : Int32) : Int32 := (x.toUInt32 >>> (y.toUInt32 &&& Int32.toUInt32 31)).toInt32
theorem e_iushr {x y : Int32} (hd : decode μ.2.1 pc = .ok (.iushr, 1)) (k : Ev g μ fr lo (pc + 1) L (.int (jushr x y) :: S) M Q) : Ev g μ fr lo pc L (.int y :: .int x :: S) M Q :=
  fun p e s m args below meth c H locs A ls C hP hD hS h => lv_iushr (v := jushr x y) C.ex C.by_ hd rfl (k p e s m args below meth c H locs A ls C hP hD hS h)
theorem e_ineg {x : Int32} (hd : decode μ.2.1 pc = .ok (.ineg, 1)) (k : Ev g μ fr lo (pc + 1) L (.int (-x) :: S) M Q) : Ev g μ fr lo pc L (.int x :: S) M Q :=
  fun p e s m args below meth c H locs A ls C hP hD hS h => lv_ineg C.ex C.by_ hd (k p e s m args below meth c H locs A ls C hP hD hS h)
theorem e_ladd {x y : Int64} (hd : decode μ.2.1 pc = .ok (.ladd, 1)) (k : Ev g μ fr lo (pc + 1) L (.long (x + y) :: S) M Q) : Ev g μ fr lo pc L (.long y :: .long x :: S) M Q :=
  fun p e s m args below meth c H locs A ls C hP hD hS h => lv_ladd C.ex C.by_ hd (k p e s m args below meth c H locs A ls C hP hD hS h)
theorem e_lmul {x y : Int64} (hd : decode μ.2.1 pc = .ok (.lmul, 1)) (k : Ev g μ fr lo (pc + 1) L (.long (x * y) :: S) M Q) : Ev g μ fr lo pc L (.long y :: .long x :: S) M Q :=
  fun p e s m args below meth c H locs A ls C hP hD hS h => lv_lmul C.ex C.by_ hd (k p e s m args below meth c H locs A ls C hP hD hS h)
theorem e_i2l {x : Int32} (hd : decode μ.2.1 pc = .ok (.i2l, 1)) (k : Ev g μ fr lo (pc + 1) L (.long x.toInt64 :: S) M Q) : Ev g μ fr lo pc L (.int x :: S) M Q :=
  fun p e s m args below meth c H locs A ls C hP hD hS h => lv_i2l (v := x.toInt64) C.ex C.by_ hd rfl (k p e s m args below meth c H locs A ls C hP hD hS h)
theorem e_i2b {x : Int32} (hd : decode μ.2.1 pc = .ok (.i2b, 1)) (k : Ev g μ fr lo (pc + 1) L (.int x.toInt8.toInt32 :: S) M Q) : Ev g μ fr lo pc L (.int x :: S) M Q :=
  fun p e s m args below meth c H locs A ls C hP hD hS h => lv_i2b (v := x.toInt8.toInt32) C.ex C.by_ hd rfl (k p e s m args below meth c H locs A ls C hP hD hS h)
theorem e_i2s {x : Int32} (hd : decode μ.2.1 pc = .ok (.i2s, 1)) (k : Ev g μ fr lo (pc + 1) L (.int x.toInt16.toInt32 :: S) M Q) : Ev g μ fr lo pc L (.int x :: S) M Q :=
  fun p e s m args below meth c H locs A ls C hP hD hS h => lv_i2s (v := x.toInt16.toInt32) C.ex C.by_ hd rfl (k p e s m args below meth c H locs A ls C hP hD hS h)
theorem e_lcmp {x y : Int64} (hd : decode μ.2.1 pc = .ok (.lcmp, 1)) (k : Ev g μ fr lo (pc + 1) L (.int (lg_cmp x y) :: S) M Q) : Ev g μ fr lo pc L (.long y :: .long x :: S) M Q :=
  fun p e s m args below meth c H locs A ls C hP hD hS h => W.lcmp C.ex C.by_ hd (k p e s m args below meth c H locs A ls C hP hD hS h)
theorem e_dup {v : Value} (hd : decode μ.2.1 pc = .ok (.dup, 1)) (hv : v.category = 1) (k : Ev g μ fr lo (pc + 1) L (v :: v :: S) M Q) : Ev g μ fr lo pc L (v :: S) M Q :=
  fun p e s m args below meth c H locs A ls C hP hD hS h => lv_dup C.ex C.by_ hd (by rw [rv_cat]; exact hv) (k p e s m args below meth c H locs A ls C hP hD hS h)
theorem e_dup2 {v w : Value} (hd : decode μ.2.1 pc = .ok (.dup2, 1)) (hv : v.category = 1) (hw : w.category = 1) (k : Ev g μ fr lo (pc + 1) L (v :: w :: v :: w :: S) M Q) : Ev g μ fr lo pc L (v :: w :: S) M Q :=
  fun p e s m args below meth c H locs A ls C hP hD hS h => lv_dup2_11 C.ex C.by_ hd (by rw [rv_cat]; exact hv) (by rw [rv_cat]; exact hw) (k p e s m args below meth c H locs A ls C hP hD hS h)
theorem e_pop {v : Value} (hd : decode μ.2.1 pc = .ok (.pop, 1)) (hv : v.category = 1) (k : Ev g μ fr lo (pc + 1) L S M Q) : Ev g μ fr lo pc L (v :: S) M Q :=
  fun p e s m args below meth c H locs A ls C hP hD hS h => lv_pop C.ex C.by_ hd (by rw [rv_cat]; exact hv) (k p e s m args below meth c H locs A ls C hP hD hS h)
theorem e_goto {off : Int} (tgt : Nat) (hd : decode μ.2.1 pc = .ok (.goto off, 3)) (ht : (pc : Int) + off = (tgt : Int)) (k : Ev g μ fr lo tgt L S M Q) : Ev g μ fr lo pc L S M Q :=
  fun p e s m args below meth c H locs A ls C hP hD hS h => lv_goto C.ex C.by_ hd ht (k p e s m args below meth c H locs A ls C hP hD hS h)
end ER
end
section
/-! Ev: branches, fields, arrays, calls, returns -/
section EB
variable {g : Gt} {μ : Mt} {fr lo pc : Nat} {L L' : List (Option Value)} {S : List Value} {M : Me} {Q : Option Value → Me → Prop}
theorem e_if_eq {x : Int32} {off : Int} (tgt : Nat) (hd : decode μ.2.1 pc = .ok (.ifCond .eq off, 3)) (ht : (pc : Int) + off = (tgt : Int)) (kt : x = 0 → Ev g μ fr lo tgt L S M Q) (kf : ¬ x = 0 → Ev g μ fr lo (pc + 3) L S M Q) : Ev g μ fr lo pc L (.int x :: S) M Q :=
  fun p e s m args below meth c H locs A ls C hP hD hS h => lv_if_eq C.ex C.by_ hd ht (fun z => kt z p e s m args below meth c H locs A ls C hP hD hS h) (fun z => kf z p e s m args below meth c H locs A ls C hP hD hS h)
theorem e_icmp_eq {x y : Int32} {off : Int} (tgt : Nat) (hd : decode μ.2.1 pc = .ok (.if_icmp .eq off, 3)) (ht : (pc : Int) + off = (tgt : Int)) (kt : x = y → Ev g μ fr lo tgt L S M Q) (kf : ¬ x = y → Ev g μ fr lo (pc + 3) L S M Q) : Ev g μ fr lo pc L (.int y :: .int x :: S) M Q :=
  fun p e s m args below meth c H locs A ls C hP hD hS h => lv_icmp_eq C.ex C.by_ hd ht (fun z => kt z p e s m args below meth c H locs A ls C hP hD hS h) (fun z => kf z p e s m args below meth c H locs A ls C hP hD hS h)
theorem e_if_ne {x : Int32} {off : Int} (tgt : Nat) (hd : decode μ.2.1 pc = .ok (.ifCond .ne off, 3)) (ht : (pc : Int) + off = (tgt : Int)) (kt : ¬ x = 0 → Ev g μ fr lo tgt L S M Q) (kf : x = 0 → Ev g μ fr lo (pc + 3) L S M Q) : Ev g μ fr lo pc L (.int x :: S) M Q :=
  fun p e s m args below meth c H locs A ls C hP hD hS h => lv_if_ne C.ex C.by_ hd ht (fun z => kt z p e s m args below meth c H locs A ls C hP hD hS h) (fun z => kf z p e s m args below meth c H locs A ls C hP hD hS h)
theorem e_icmp_ne {x y : Int32} {off : Int} (tgt : Nat) (hd : decode μ.2.1 pc = .ok (.if_icmp .ne off, 3)) (ht : (pc : Int) + off = (tgt : Int)) (kt : ¬ x = y → Ev g μ fr lo tgt L S M Q) (kf : x = y → Ev g μ fr lo (pc + 3) L S M Q) : Ev g μ fr lo pc L (.int y :: .int x :: S) M Q :=
  fun p e s m args below meth c H locs A ls C hP hD hS h => lv_icmp_ne C.ex C.by_ hd ht (fun z => kt z p e s m args below meth c H locs A ls C hP hD hS h) (fun z => kf z p e s m args below meth c H locs A ls C hP hD hS h)
theorem e_if_lt {x : Int32} {off : Int} (tgt : Nat) (hd : decode μ.2.1 pc = .ok (.ifCond .lt off, 3)) (ht : (pc : Int) + off = (tgt : Int)) (kt : x < 0 → Ev g μ fr lo tgt L S M Q) (kf : ¬ x < 0 → Ev g μ fr lo (pc + 3) L S M Q) : Ev g μ fr lo pc L (.int x :: S) M Q :=
  fun p e s m args below meth c H locs A ls C hP hD hS h => lv_if_lt C.ex C.by_ hd ht (fun z => kt z p e s m args below meth c H locs A ls C hP hD hS h) (fun z => kf z p e s m args below meth c H locs A ls C hP hD hS h)
theorem e_icmp_lt {x y : Int32} {off : Int} (tgt : Nat) (hd : decode μ.2.1 pc = .ok (.if_icmp .lt off, 3)) (ht : (pc : Int) + off = (tgt : Int)) (kt : x < y → Ev g μ fr lo tgt L S M Q) (kf : ¬ x < y → Ev g μ fr lo (pc + 3) L S M Q) : Ev g μ fr lo pc L (.int y :: .int x :: S) M Q :=
  fun p e s m args below meth c H locs A ls C hP hD hS h => lv_icmp_lt C.ex C.by_ hd ht (fun z => kt z p e s m args below meth c H locs A ls C hP hD hS h) (fun z => kf z p e s m args below meth c H locs A ls C hP hD hS h)
theorem e_if_ge {x : Int32} {off : Int} (tgt : Nat) (hd : decode μ.2.1 pc = .ok (.ifCond .ge off, 3)) (ht : (pc : Int) + off = (tgt : Int)) (kt : 0 ≤ x → Ev g μ fr lo tgt L S M Q) (kf : ¬ 0 ≤ x → Ev g μ fr lo (pc + 3) L S M Q) : Ev g μ fr lo pc L (.int x :: S) M Q :=
  fun p e s m args below meth c H locs A ls C hP hD hS h => lv_if_ge C.ex C.by_ hd ht (fun z => kt z p e s m args below meth c H locs A ls C hP hD hS h) (fun z => kf z p e s m args below meth c H locs A ls C hP hD hS h)
theorem e_icmp_ge {x y : Int32} {off : Int} (tgt : Nat) (hd : decode μ.2.1 pc = .ok (.if_icmp .ge off, 3)) (ht : (pc : Int) + off = (tgt : Int)) (kt : y ≤ x → Ev g μ fr lo tgt L S M Q) (kf : ¬ y ≤ x → Ev g μ fr lo (pc + 3) L S M Q) : Ev g μ fr lo pc L (.int y :: .int x :: S) M Q :=
  fun p e s m args below meth c H locs A ls C hP hD hS h => lv_icmp_ge C.ex C.by_ hd ht (fun z => kt z p e s m args below meth c H locs A ls C hP hD hS h) (fun z => kf z p e s m args below meth c H locs A ls C hP hD hS h)
theorem e_if_gt {x : Int32} {off : Int} (tgt : Nat) (hd : decode μ.2.1 pc = .ok (.ifCond .gt off, 3)) (ht : (pc : Int) + off = (tgt : Int)) (kt : 0 < x → Ev g μ fr lo tgt L S M Q) (kf : ¬ 0 < x → Ev g μ fr lo (pc + 3) L S M Q) : Ev g μ fr lo pc L (.int x :: S) M Q :=
  fun p e s m args below meth c H locs A ls C hP hD hS h => lv_if_gt C.ex C.by_ hd ht (fun z => kt z p e s m args below meth c H locs A ls C hP hD hS h) (fun z => kf z p e s m args below meth c H locs A ls C hP hD hS h)
theorem e_icmp_gt {x y : Int32} {off : Int} (tgt : Nat) (hd : decode μ.2.1 pc = .ok (.if_icmp .gt off, 3)) (ht : (pc : Int) + off = (tgt : Int)) (kt : y < x → Ev g μ fr lo tgt L S M Q) (kf : ¬ y < x → Ev g μ fr lo (pc + 3) L S M Q) : Ev g μ fr lo pc L (.int y :: .int x :: S) M Q :=
  fun p e s m args below meth c H locs A ls C hP hD hS h => lv_icmp_gt C.ex C.by_ hd ht (fun z => kt z p e s m args below meth c H locs A ls C hP hD hS h) (fun z => kf z p e s m args below meth c H locs A ls C hP hD hS h)
theorem e_if_le {x : Int32} {off : Int} (tgt : Nat) (hd : decode μ.2.1 pc = .ok (.ifCond .le off, 3)) (ht : (pc : Int) + off = (tgt : Int)) (kt : x ≤ 0 → Ev g μ fr lo tgt L S M Q) (kf : ¬ x ≤ 0 → Ev g μ fr lo (pc + 3) L S M Q) : Ev g μ fr lo pc L (.int x :: S) M Q :=
  fun p e s m args below meth c H locs A ls C hP hD hS h => lv_if_le C.ex C.by_ hd ht (fun z => kt z p e s m args below meth c H locs A ls C hP hD hS h) (fun z => kf z p e s m args below meth c H locs A ls C hP hD hS h)
theorem e_icmp_le {x y : Int32} {off : Int} (tgt : Nat) (hd : decode μ.2.1 pc = .ok (.if_icmp .le off, 3)) (ht : (pc : Int) + off = (tgt : Int)) (kt : x ≤ y → Ev g μ fr lo tgt L S M Q) (kf : ¬ x ≤ y → Ev g μ fr lo (pc + 3) L S M Q) : Ev g μ fr lo pc L (.int y :: .int x :: S) M Q :=
  fun p e s m args below meth c H locs A ls C hP hD hS h => lv_icmp_le C.ex C.by_ hd ht (fun z => kt z p e s m args below meth c H locs A ls C hP hD hS h) (fun z => kf z p e s m args below meth c H locs A ls C hP hD hS h)
theorem e_tswC {x : Int32} {dflt lw hi off : Int} {offs : Array Int} {len : Nat} (k : Int32) (tgt : Nat) (hx : x = k) (hd : decode μ.2.1 pc = .ok (.tableswitch dflt lw hi offs, len)) (h1 : ¬ k.toInt < lw) (h2 : ¬ hi < k.toInt) (ho : offs[(k.toInt - lw).toNat]? = some off) (ht : (pc : Int) + off = (tgt : Int)) (kk : Ev g μ fr lo tgt L S M Q) : Ev g μ fr lo pc L (.int x :: S) M Q := by
  subst hx
  exact fun p e s m args below meth c H locs A ls C hP hD hS h => lv_tableIn C.ex C.by_ hd h1 h2 ho ht (kk p e s m args below meth c H locs A ls C hP hD hS h)
theorem e_tswD {x : Int32} {dflt lw hi : Int} {offs : Array Int} {len : Nat} (tgt : Nat) (hd : decode μ.2.1 pc = .ok (.tableswitch dflt lw hi offs, len)) (h0 : x.toInt < lw ∨ hi < x.toInt) (ht : (pc : Int) + dflt = (tgt : Int)) (kk : Ev g μ fr lo tgt L S M Q) : Ev g μ fr lo pc L (.int x :: S) M Q :=
  fun p e s m args below meth c H locs A ls C hP hD hS h => lv_tableOut C.ex C.by_ hd h0 ht (kk p e s m args below meth c H locs A ls C hP hD hS h)
-- cells
def Is (g : Gt) (r K : Nat) : Prop := r < gN g ∧ gk g r = K
/-- a field: class file's entry idx of own is field j of objects of kind K, its code c -/
def FA (own : String) (idx K j c : Nat) : Prop := ∃ (ci : Nat) (cs : List Nat) (C : String) (T : u_T) (N : Nat), kO K = some (ci, cs) ∧ cs[j]? = some c ∧ vwCl[ci]? = some (C, T, N) ∧ (∀ w ∈ u_ws C T N, w ∈ gtb) ∧ j < N ∧ Cond.fieldLink own idx (T j).1 (T j).2.1 (T j).2.2.1 ∈ gtb
def FW (own : String) (idx K j c : Nat) (ty : FieldType) : Prop := ∃ (ci : Nat) (cs : List Nat) (C : String) (T : u_T) (N : Nat) (ty0 : Nat → FieldType), kO K = some (ci, cs) ∧ cs[j]? = some c ∧ vwCl[ci]? = some (C, T, N) ∧ (∀ w ∈ u_ws C T N, w ∈ gtb) ∧ j < N ∧ Cond.fieldLink own idx (T j).1 (T j).2.1 (T j).2.2.1 ∈ gtb ∧
  (∀ k, k < N → parseFieldDescriptor (T k).2.2.1 = some (ty0 k)) ∧ (∀ a, a < N → ∀ b, b < N → a ≠ b → (T a).2.1 ≠ (T b).2.1) ∧ (T j).2.2.2 = false ∧ parseFieldDescriptor (T j).2.2.1 = some ty
theorem cel_O {k3 : ClassId × ClassId × ClassId} {ρ : Nat → Nat} {M : Me} {r K : Nat} {q : Nat × List Nat} (h : kO K = some q) : cel k3 ρ M r K = .inr (q.1, fvs ρ M r q.2) := by
  unfold cel
  rw [h]
theorem cel_R {k3 : ClassId × ClassId × ClassId} {ρ : Nat → Nat} {M : Me} {r K : Nat} {q : Nat × Nat × Nat × Nat} (h0 : kO K = none) (h : kR K = some q) : cel k3 ρ M r K = .inl (if q.2.2.2 = 1 then k3.2.1 else k3.2.2, q.1, .inr (.inr (.inr (.inr (fun i => some (ρ (r + q.2.1 + q.2.2.1 * i))))))) := by
  unfold cel
  rw [h0, h]
theorem cel_I {k3 : ClassId × ClassId × ClassId} {ρ : Nat → Nat} {M : Me} {r K n : Nat} (h0 : kO K = none) (h1 : kR K = none) (hn : K - 100 = n) : cel k3 ρ M r K = .inl (k3.1, n, .inl (M.1 r)) := by
  unfold cel
  rw [h0, h1, hn]
theorem e_get {idx K j cd r : Nat} (fa : FA μ.1.cls idx K j cd) (ir : Is g r K) (hd : decode μ.2.1 pc = .ok (.getfield idx, 3)) (k : ∀ v : Value, rv (gp g) v = fv (gp g) M r j cd → Ev g μ fr lo (pc + 3) L (v :: S) M Q) (v : Value) (hv : rv (gp g) v = fv (gp g) M r j cd) : Ev g μ fr lo pc L (.ref r :: S) M Q := by
  intro p e s m args below meth c H locs A ls C hP hD hS h
  obtain ⟨ci, cs, C', T, N, h1, h2, h3, h4, h5, h6⟩ := fa
  have he := wd_at (M := M) ir.1
  rw [ir.2, cel_O h1] at he
  have kk := k v hv p e s m args below meth c H locs A ls C hP hD hS h
  refine va_get (D := gD g) (ci := ci) (v := fv (gp g) M r j cd) (C := C') (T := T) (N := N) C.ex C.by_ C.ts (fun w hw => mws_in (h4 w hw)) C.ow C.K hP r he h3 j h5 (C.gt h6) (fun _ h9 => h9) (fvs_get h2) hd ?_
  rw [← hv]
  exact kk
theorem e_getI {idx K j r : Nat} (fa : FA μ.1.cls idx K j 0) (ir : Is g r K) (hd : decode μ.2.1 pc = .ok (.getfield idx, 3)) (k : Ev g μ fr lo (pc + 3) L (.int (M.1 r j) :: S) M Q) : Ev g μ fr lo pc L (.ref r :: S) M Q :=
  e_get fa ir hd (fun v hv => by
    cases v <;> simp [rv, fv] at hv
    subst hv
    exact k) (.int (M.1 r j)) rfl
theorem e_getL {idx K j r : Nat} (fa : FA μ.1.cls idx K j 1) (ir : Is g r K) (hd : decode μ.2.1 pc = .ok (.getfield idx, 3)) (k : Ev g μ fr lo (pc + 3) L (.long M.2 :: S) M Q) : Ev g μ fr lo pc L (.ref r :: S) M Q :=
  e_get fa ir hd (fun v hv => by
    cases v <;> simp [rv, fv] at hv
    subst hv
    exact k) (.long M.2) rfl
theorem e_getR {idx K j r n r' : Nat} (fa : FA μ.1.cls idx K j (n + 2)) (ir : Is g r K) (he : r + n = r') (hd : decode μ.2.1 pc = .ok (.getfield idx, 3)) (k : Ev g μ fr lo (pc + 3) L (.ref r' :: S) M Q) : Ev g μ fr lo pc L (.ref r :: S) M Q := by
  subst he
  intro p e s m args below meth c H locs A ls C hP hD hS h
  obtain ⟨ci, cs, C', T, N, h1, h2, h3, h4, h5, h6⟩ := fa
  have he := wd_at (M := M) ir.1
  rw [ir.2, cel_O h1] at he
  exact va_get (D := gD g) (ci := ci) (v := fv (gp g) M r j (n + 2)) (C := C') (T := T) (N := N) C.ex C.by_ C.ts (fun w hw => mws_in (h4 w hw)) C.ow C.K hP r he h3 j h5 (C.gt h6) (fun _ h9 => h9) (fvs_get h2) hd (k p e s m args below meth c H locs A ls C hP hD hS h)
theorem e_putG {idx K j r : Nat} {ty : FieldType} {v : Int32} (fa : FW μ.1.cls idx K j 0 ty) (ir : Is g r K) (hn : narrow ty (.int v) = .int v) (hf : fits ty (.int v) = true) (hd : decode μ.2.1 pc = .ok (.putfield idx, 3)) (k : Ev g μ fr lo (pc + 3) L S (wrM M r j v) Q) : Ev g μ fr lo pc L (.int v :: .ref r :: S) M Q := by
  intro p e s m args below meth c H locs A ls C hP hD hS h
  obtain ⟨ci, cs, C', T, N, ty0, h1, h2, h3, h4, h5, h6, h7, h8, h9, h10⟩ := fa
  have he := wd_at (M := M) ir.1
  rw [ir.2, cel_O h1] at he
  have hset : (wd g M).set r (gp g r, .inr (ci, (fvs (gp g) M r cs).set j (.int v))) = wd g (wrM M r j v) := by
    rw [fvs_setI h2]
    have e2 : (Sum.inr (ci, fvs (gp g) (wrM M r j v) r cs) : va_E) = cel (g3 g) (gp g) (wrM M r j v) r (gk g r) := by rw [ir.2, cel_O h1]
    rw [e2]
    exact wd_set ir.1 (fun a ha => cel_ne (by simp [wrM, ha]) rfl)
  refine va_put (D := gD g) (ci := ci) (v := .int v) (ty := ty) (C := C') (T := T) (N := N) C.ex C.by_ C.ts (fun w hw => mws_in (h4 w hw)) ty0 h7 h8 C.ow C.K hP hD hS r he h3 j h5 (C.gt h6) (fun _ h9 => h9) h9 h10 hn hf (by rw [fvs_len]; exact (List.getElem?_eq_some_iff.mp h2).1) hd (fun H1 locs1 hP1 hD1 hS1 => ?_)
  rw [hset] at hP1 hD1
  exact k p e s m args below meth c H1 locs1 A ls C hP1 hD1 hS1 h
theorem e_putI {idx K j r : Nat} {v : Int32} (fa : FW μ.1.cls idx K j 0 .int) (ir : Is g r K) (hd : decode μ.2.1 pc = .ok (.putfield idx, 3)) (k : Ev g μ fr lo (pc + 3) L S (wrM M r j v) Q) : Ev g μ fr lo pc L (.int v :: .ref r :: S) M Q := e_putG fa ir rfl rfl hd k
theorem e_putZ {idx K j r : Nat} {v : Int32} (fa : FW μ.1.cls idx K j 0 .boolean) (ir : Is g r K) (hz : v = 0 ∨ v = 1) (hd : decode μ.2.1 pc = .ok (.putfield idx, 3)) (k : Ev g μ fr lo (pc + 3) L S (wrM M r j v) Q) : Ev g μ fr lo pc L (.int v :: .ref r :: S) M Q := by
  rcases hz with rfl | rfl
  · exact e_putG fa ir (by decide +kernel) (by decide +kernel) hd k
  · exact e_putG fa ir (by decide +kernel) (by decide +kernel) hd k
theorem e_putL {idx K j r : Nat} {v : Int64} (fa : FW μ.1.cls idx K j 1 .long) (ir : Is g r K) (h7 : K = 7) (hj : j = 13) (ho : ∀ a, a ≠ r → a < gN g → 100 ≤ gk g a) (hd : decode μ.2.1 pc = .ok (.putfield idx, 3)) (k : Ev g μ fr lo (pc + 3) L S (wrL M v) Q) : Ev g μ fr lo pc L (.long v :: .ref r :: S) M Q := by
  subst h7
  subst hj
  intro p e s m args below meth c H locs A ls C hP hD hS h
  obtain ⟨ci, cs, C', T, N, ty0, h1, h2, h3, h4, h5, h6, h7, h8, h9, h10⟩ := fa
  have he := wd_at (M := M) ir.1
  rw [ir.2, cel_O h1] at he
  have hcs : cs = [3, 4, 5, 6, 0, 7, 8, 9, 0, 10, 11, 12, 0, 1, 13, 0, 0, 0, 0, 0, 14, 15, 16, 17] := by
    have := h1
    simp only [kO] at this
    exact (congrArg Prod.snd (Option.some.inj this)).symm
  have hset : (wd g M).set r (gp g r, .inr (ci, (fvs (gp g) M r cs).set 13 (.long v))) = wd g (wrL M v) := by
    rw [fvs_setL h2 (fun i hi z => by
      rw [hcs] at z
      match i, hi, z with
      | 0, _, z => simp at z
      | 1, _, z => simp at z
      | 2, _, z => simp at z
      | 3, _, z => simp at z
      | 4, _, z => simp at z
      | 5, _, z => simp at z
      | 6, _, z => simp at z
      | 7, _, z => simp at z
      | 8, _, z => simp at z
      | 9, _, z => simp at z
      | 10, _, z => simp at z
      | 11, _, z => simp at z
      | 12, _, z => simp at z
      | 13, hi, _ => exact hi rfl
      | 14, _, z => simp at z
      | 15, _, z => simp at z
      | 16, _, z => simp at z
      | 17, _, z => simp at z
      | 18, _, z => simp at z
      | 19, _, z => simp at z
      | 20, _, z => simp at z
      | 21, _, z => simp at z
      | 22, _, z => simp at z
      | 23, _, z => simp at z
      | n + 24, _, z => simp at z)]
    have e2 : (Sum.inr (ci, fvs (gp g) (wrL M v) r cs) : va_E) = cel (g3 g) (gp g) (wrL M v) r (gk g r) := by rw [ir.2, cel_O h1]
    rw [e2]
    have key : ∀ a, a < gN g → a ≠ r → cel (g3 g) (gp g) (wrL M v) a (gk g a) = cel (g3 g) (gp g) M a (gk g a) := by
      intro a hl ha
      have hb := ho a ha hl
      have q1 : kO (gk g a) = none := by
        generalize gk g a = K at hb
        match K, hb with
        | n + 100, _ => rfl
      have q2 : kR (gk g a) = none := by
        generalize gk g a = K at hb
        match K, hb with
        | n + 100, _ => rfl
      rw [cel_I q1 q2 rfl, cel_I q1 q2 rfl]
      rfl
    apply List.ext_getElem?
    intro i
    by_cases hi : i = r
    · subst hi
      rw [List.getElem?_set_self (by simpa [wd] using ir.1), wd_at ir.1]
    · rw [List.getElem?_set_ne (Ne.symm hi)]
      by_cases hl : i < gN g
      · rw [wd_at hl, wd_at hl, key i hl hi]
      · simp [wd, hl]
  refine va_put (D := gD g) (ci := ci) (v := .long v) (ty := .long) (C := C') (T := T) (N := N) C.ex C.by_ C.ts (fun w hw => mws_in (h4 w hw)) ty0 h7 h8 C.ow C.K hP hD hS r he h3 13 h5 (C.gt h6) (fun _ h9 => h9) h9 h10 rfl rfl (by rw [fvs_len]; exact (List.getElem?_eq_some_iff.mp h2).1) hd (fun H1 locs1 hP1 hD1 hS1 => ?_)
  rw [hset] at hP1 hD1
  exact k p e s m args below meth c H1 locs1 A ls C hP1 hD1 hS1 h
/-- an int array of n places -/
def Ia (g : Gt) (r n : Nat) : Prop := r < gN g ∧ kO (gk g r) = none ∧ kR (gk g r) = none ∧ gk g r - 100 = n
/-- an array of references -/
def Ra (g : Gt) (r n b st w : Nat) : Prop := r < gN g ∧ kO (gk g r) = none ∧ kR (gk g r) = some (n, b, st, w)
theorem e_iald {r n : Nat} {i : Int32} (ir : Ia g r n) (hin : vp_in i n) (hd : decode μ.2.1 pc = .ok (.iaload, 1)) (k : Ev g μ fr lo (pc + 1) L (.int (M.1 r i.toNatClampNeg) :: S) M Q) : Ev g μ fr lo pc L (.int i :: .ref r :: S) M Q := by
  intro p e s m args below meth c H locs A ls C hP hD hS h
  have he := wd_at (M := M) ir.1
  rw [cel_I ir.2.1 ir.2.2.1 ir.2.2.2] at he
  exact va_iald C.ex C.by_ C.K hP r 0 he rfl hin hd (k p e s m args below meth c H locs A ls C hP hD hS h)
theorem e_iast {r n : Nat} {i v : Int32} (ir : Ia g r n) (hin : vp_in i n) (hd : decode μ.2.1 pc = .ok (.iastore, 1)) (k : Ev g μ fr lo (pc + 1) L S (wrM M r i.toNatClampNeg v) Q) : Ev g μ fr lo pc L (.int v :: .int i :: .ref r :: S) M Q := by
  intro p e s m args below meth c H locs A ls C hP hD hS h
  have he := wd_at (M := M) ir.1
  rw [cel_I ir.2.1 ir.2.2.1 ir.2.2.2] at he
  have hset : (wd g M).set r (gp g r, .inl ((g3 g).1, n, .inl (upd (M.1 r) i.toNatClampNeg v))) = wd g (wrM M r i.toNatClampNeg v) := by
    have e2 : (Sum.inl ((g3 g).1, n, .inl (upd (M.1 r) i.toNatClampNeg v)) : va_E) = cel (g3 g) (gp g) (wrM M r i.toNatClampNeg v) r (gk g r) := by
      rw [cel_I ir.2.1 ir.2.2.1 ir.2.2.2]
      simp [wrM]
    rw [e2]
    exact wd_set ir.1 (fun a ha => cel_ne (by simp [wrM, ha]) rfl)
  refine va_iast C.ex C.by_ C.K hP hD hS r 0 he rfl hin hd (fun H1 locs1 hP1 hD1 hS1 => ?_)
  rw [hset] at hP1 hD1
  exact k p e s m args below meth c H1 locs1 A ls C hP1 hD1 hS1 h
theorem e_aald {r n b st w : Nat} {i : Int32} (ir : Ra g r n b st w) (hw : w = 1 ∨ w = 2) (hin : vp_in i n) (hd : decode μ.2.1 pc = .ok (.aaload, 1)) (k : Ev g μ fr lo (pc + 1) L (.ref (r + b + st * i.toNatClampNeg) :: S) M Q) : Ev g μ fr lo pc L (.int i :: .ref r :: S) M Q := by
  intro p e s m args below meth c H locs A ls C hP hD hS h
  have he := wd_at (M := M) ir.1
  rw [cel_R ir.2.1 ir.2.2] at he
  have kk := k p e s m args below meth c H locs A ls C hP hD hS h
  rcases hw with rfl | rfl
  · exact va_aldq (C := RX1) C.ex C.by_ C.K hP r 1 he rfl hin hd kk
  · exact va_aldq (C := RX3) C.ex C.by_ C.K hP r 2 he rfl hin hd kk
def copyW (own : String) (idx : Nat) : Prop := Cond.methodLink own idx arraycopyName ∈ gtb ∧ Cond.native arraycopyName ∈ gtb ∧ Cond.static arraycopyName ∈ gtb ∧ Cond.initialized "java/lang/System" ∈ gtb
theorem e_copy {idx r0 r1 n0 n1 : Nat} {sp dp n : Int32} (cw : copyW μ.1.cls idx) (i0 : Ia g r0 n0) (i1 : Ia g r1 n1) (h1 : ¬ sp < 0) (h2 : ¬ dp < 0) (h3 : ¬ n < 0) (h4 : sp.toNatClampNeg + n.toNatClampNeg ≤ n0) (h5 : dp.toNatClampNeg + n.toNatClampNeg ≤ n1) (hfr : 1 ≤ fr) (hlo : ((S.map (rv (gp g))).map fun v => v.category).sum + (nativeFrameWords "java/lang/System" "arraycopy" 5 + 11) ≤ lo) (hd : decode μ.2.1 pc = .ok (.invokestatic idx, 3)) (k : Ev g μ fr lo (pc + 3) L S (wrA M r1 (va_cpy (M.1 r0) (M.1 r1) sp.toNatClampNeg dp.toNatClampNeg n.toNatClampNeg)) Q) : Ev g μ fr lo pc L (.int n :: .int dp :: .ref r1 :: .int sp :: .ref r0 :: S) M Q := by
  intro p e s m args below meth c H locs A ls C hP hD hS h
  have he0 := wd_at (M := M) i0.1
  rw [cel_I i0.2.1 i0.2.2.1 i0.2.2.2] at he0
  have he1 := wd_at (M := M) i1.1
  rw [cel_I i1.2.1 i1.2.2.1 i1.2.2.2] at he1
  have hset : ∀ f : Nat → Int32, (wd g M).set r1 (gp g r1, .inl ((g3 g).1, n1, .inl f)) = wd g (wrA M r1 f) := by
    intro f
    have e2 : (Sum.inl ((g3 g).1, n1, .inl f) : va_E) = cel (g3 g) (gp g) (wrA M r1 f) r1 (gk g r1) := by
      rw [cel_I i1.2.1 i1.2.2.1 i1.2.2.2]
      simp [wrA]
    rw [e2]
    exact wd_set i1.1 (fun a ha => cel_ne (by simp [wrA, ha]) rfl)
  refine va_copyi C.ex C.by_ (C.ml.trans h.1.symm) C.ow (C.gt cw.1) (C.gt cw.2.1) (C.gt cw.2.2.1) (C.gt cw.2.2.2) C.K hP hD hS r0 r1 0 0 he0 he1 rfl rfl rfl h1 h2 h3 h4 h5 (fun i _ => rfl) hfr hlo hd (fun H1 locs1 hP1 hD1 hS1 => ?_)
  rw [hset] at hP1 hD1
  exact k p e s m args below meth c H1 locs1 A ls C hP1 hD1 hS1 h
-- returns
theorem e_iret {v : Int32} (hr : μ.2.2.2 = some .int) (hd : decode μ.2.1 pc = .ok (.ireturn, 1)) (hq : Q (some (.int v)) M) : Ev g μ fr lo pc L [.int v] M Q :=
  fun p e s m args below meth c H locs A ls C hP hD hS h => W.iret C.ex C.by_ (C.re.trans hr) (fun t ht hW => ⟨⟨some (.int v), M, rfl, hq, by rw [ht]; exact hP, va_K.moved hW.alike C.K, hD⟩, hS.F ht⟩) hS.2.2 hd C.lk
theorem e_nret {v : Int32} {ty : FieldType} (hr : μ.2.2.2 = some ty) (hn : narrow ty (.int v) = .int v) (hd : decode μ.2.1 pc = .ok (.ireturn, 1)) (hq : Q (some (.int v)) M) : Ev g μ fr lo pc L [.int v] M Q :=
  fun p e s m args below meth c H locs A ls C hP hD hS h => W.zret C.ex C.by_ (C.re.trans hr) hn (fun t ht hW => ⟨⟨some (.int v), M, rfl, hq, by rw [ht]; exact hP, va_K.moved hW.alike C.K, hD⟩, hS.F ht⟩) hS.2.2 hd C.lk
theorem e_zret {v : Int32} (hr : μ.2.2.2 = some .boolean) (hz : v = 0 ∨ v = 1) (hd : decode μ.2.1 pc = .ok (.ireturn, 1)) (hq : Q (some (.int v)) M) : Ev g μ fr lo pc L [.int v] M Q := by
  rcases hz with rfl | rfl
  · exact e_nret hr (by decide +kernel) hd hq
  · exact e_nret hr (by decide +kernel) hd hq
theorem e_lret {v : Int64} (hr : μ.2.2.2 = some .long) (hd : decode μ.2.1 pc = .ok (.lreturn, 1)) (hq : Q (some (.long v)) M) : Ev g μ fr lo pc L [.long v] M Q :=
  fun p e s m args below meth c H locs A ls C hP hD hS h => W.lret C.ex C.by_ (C.re.trans hr) (fun t ht hW => ⟨⟨some (.long v), M, rfl, hq, by rw [ht]; exact hP, va_K.moved hW.alike C.K, hD⟩, hS.F ht⟩) hS.2.2 hd C.lk
theorem e_vret (hr : μ.2.2.2 = none) (hd : decode μ.2.1 pc = .ok (.return_, 1)) (hq : Q none M) : Ev g μ fr lo pc L [] M Q :=
  fun p e s m args below meth c H locs A ls C hP hD hS h => W.vret C.ex C.by_ (C.re.trans hr) (fun t ht hW => ⟨⟨none, M, rfl, hq, by rw [ht]; exact hP, va_K.moved hW.alike C.K, hD⟩, hS.F ht⟩) hS.2.2 hd C.lk
theorem e_aret {v : Nat} {n : String} (hr : μ.2.2.2 = some (.object n)) (hd : decode μ.2.1 pc = .ok (.areturn, 1)) (hq : Q (some (.ref v)) M) : Ev g μ fr lo pc L [.ref v] M Q :=
  fun p e s m args below meth c H locs A ls C hP hD hS h => W.aret C.ex C.by_ (C.re.trans hr) (Or.inl ⟨n, rfl⟩) (Or.inr ⟨_, rfl⟩) (fun t ht hW => ⟨⟨some (.ref v), M, rfl, hq, by rw [ht]; exact hP, va_K.moved hW.alike C.K, hD⟩, hS.F ht⟩) hS.2.2 hd C.lk
-- calls
theorem map_toList (ρ : Nat → Nat) (r : Option Value) (S : List Value) : (r.map (rv ρ)).toList ++ S.map (rv ρ) = (r.toList ++ S).map (rv ρ) := by cases r <;> rfl
theorem ev_run {p : Program} {e : Env} {s : State} {m : MethodId} {args a : Array Value} {below : List Frame} {meth : Method} {c : Code} {H : Heap} {locs : List Loc} {A : Nat → Prop} {ls : Array Slot} {st0 : List Value} {M0 : Me}
    (C : Cx g μ p s m args meth c A) (hD : va_D A (wd g M0)) (hS : va_S A s.heap H locs) (h : lh (gp g) ls μ.2.2.1 L)
    (hr : va_Run p (gl g) e (headSpec (mws μ) (rmOf fr lo)).room s m args below meth c H locs 0 0 0 0 (F0 m pc ls st0) (S.map (rv (gp g))) (Qof g (fun r M' => Ev g μ fr lo (pc + 3) L (r.toList ++ S) M' Q) (va_A (wd g M0) H.size) a) (va_A (wd g M0) H.size)) :
    W p (gl g) e (headSpec (mws μ) (rmOf fr lo)).room s m args below meth c H locs 0 0 (MQ below (Qof g Q A) args s 0 0 A) (F0 m pc ls st0) := by
  have hF : ∀ q, va_A (wd g M0) H.size q → A q := by
    intro q hq
    rcases hq with ⟨k, e, hq⟩ | hq
    · exact hD.2 k _ hq
    · exact C.A0 q (Nat.le_trans hS.1 hq)
  intro T hT X
  obtain ⟨v, st₀, t, T', L', h0, X', hL, e1, e2, ⟨⟨r, M', hv, hq, hP1, hK1, hD1⟩, hz, hk⟩, st⟩ := hr T hT X
  have hv' : v = r.map (rv (gp g)) := by
    have := Outcome.returned.inj hv
    exact this
  subst hv'
  rw [h0] at hz hk
  have hS' : va_S A s.heap T'.heap (locs ++ L') := ⟨Nat.le_trans hS.1 (by rw [e1]; exact hz), fun q h1 h2 => by rw [e1, hk q (Nat.lt_of_lt_of_le h1 hS.1) (fun z => h2 (hF q z))]; exact hS.2.1 q h1 h2, fun q hq => by
    rcases List.mem_append.mp hq with h | h
    · exact hS.2.2 q h
    · exact hF _ (hL q h)⟩
  have W2 := hq p e s m args below meth c T'.heap (locs ++ L') A ls C (by rw [e1]; exact hP1) (hD1.weaken (fun k q _ z => hF q.1 z)) hS' h
  obtain ⟨t2, a1, b1⟩ := W2 T' rfl X'
  refine ⟨t2, st t2 ?_, b1⟩
  rw [map_toList]
  exact a1
theorem ev_pre {as : List Value} {s : State} {H : Heap} {locs : List Loc} {A : Nat → Prop} {p : Program} {m : MethodId} {args : Array Value} {meth : Method} {c : Code} (C : Cx g μ p s m args meth c A) (hP : va_P (gD g) vwCl (wd g M) H) (hD : va_D A (wd g M)) (hS : va_S A s.heap H locs) :
    PreS s H (va_Pc (as.map (rv (gp g))) (fun U => U.heap.size = H.size ∧ va_P (gD g) vwCl (wd g M) U.heap ∧ va_K (gD g) vwCl (tysG g) U ∧ va_D (fun _ => True) (wd g M) ∧ Sg g (va_A (wd g M) H.size) U U.heap)) (as.map (rv (gp g))) := by
  have hF : ∀ q, va_A (wd g M) H.size q → A q := by
    intro q hq
    rcases hq with ⟨k, e, hq⟩ | hq
    · exact hD.2 k _ hq
    · exact C.A0 q (Nat.le_trans hS.1 hq)
  refine ⟨fun a U f mk q => ?_, fun U hU hW => ⟨rfl, by rw [hU], by rw [hU]; exact hP, va_K.moved hW.alike C.K, hD.weaken (fun _ _ _ _ => trivial), C.G.move hW hU hS hF⟩⟩
  obtain ⟨q0, q1, qP, qK, qD, qG⟩ := q
  exact ⟨q0, q1, qP, va_K.moved (u := U) (U := U.calling f mk a) (Vm.Alike.refl U.vm) qK, qD, qG.calling⟩
def nmOk (y : MethodName) (n : Nat) : Prop := y.cls ≠ "java/lang/invoke/MethodHandle" ∧ y.cls ≠ "java/lang/invoke/VarHandle" ∧ (parseMethodDescriptor y.desc).map (fun d => d.parameters.length) = some n
/-- the words of a call: of a method of an object, of a static one, of a nest mate's static one -/
def CV (own : String) (idx : Nat) (ν : Mt) (n : Nat) : Prop := Cond.methodLink own idx ν.1 ∈ gtb ∧ Cond.instanceMethod ν.1 ∈ gtb ∧ Cond.selects ν.1.cls ν.1 ν.1 ∈ gtb ∧ Cond.initialized ν.1.cls ∈ gtb ∧ Cond.code ν.1 ν.2.1 ν.2.2.1 ν.2.2.2 ∈ gtb ∧ nmOk ν.1 n
def CS (own : String) (idx : Nat) (ν : Mt) (n : Nat) : Prop := Cond.methodLink own idx ν.1 ∈ gtb ∧ Cond.static ν.1 ∈ gtb ∧ Cond.initialized ν.1.cls ∈ gtb ∧ Cond.code ν.1 ν.2.1 ν.2.2.1 ν.2.2.2 ∈ gtb ∧ nmOk ν.1 n
def CN (own : String) (idx : Nat) (ν : Mt) (n : Nat) : Prop := (∃ host, Cond.methodLinkNest own idx ν.1 host ∈ nestW) ∧ Cond.static ν.1 ∈ gtb ∧ Cond.initialized ν.1.cls ∈ gtb ∧ Cond.code ν.1 ν.2.1 ν.2.2.1 ν.2.2.2 ∈ gtb ∧ nmOk ν.1 n
/-- objects of kind K are of this class -/
def Kc (K : Nat) (C : String) : Prop := ∃ (q : Nat × List Nat) (r : vw_C), kO K = some q ∧ vwCl[q.1]? = some r ∧ r.1 = C
theorem e_callV {idx n b K f2 l2 : Nat} {ν : Mt} {as st : List Value} (cv : CV μ.1.cls idx ν n) (ib : Is g b K) (kc : Kc K ν.1.cls) (hR : f2 + 1 ≤ fr ∧ 8 + (ν.2.2.1 + 11) + l2 ≤ lo) (hn : as.length = n) (hst : as.reverse ++ .ref b :: S = st) (h8 : (S.map fun v => v.category).sum ≤ 8) (hd : decode μ.2.1 pc = .ok (.invokevirtual idx, 3)) (hM : EvM g ν f2 l2 (.ref b :: as) M (fun r M' => Ev g μ fr lo (pc + 3) L (r.toList ++ S) M' Q)) : Ev g μ fr lo pc L st M Q := by
  subst hst
  intro p e s m args below meth c H locs A ls C hP hD hS h
  obtain ⟨c1, c2, c3, c4, c5, c6⟩ := cv
  obtain ⟨q, r, k1, k2, k3⟩ := kc
  have he := wd_at (M := M) ib.1
  rw [ib.2, cel_O k1] at he
  have hrec := va_recv C.K hP k2 he
  rw [k3] at hrec
  have hpre := ev_pre (as := .ref b :: as) C hP hD hS
  have hcat : ∀ l : List Value, ((l.map (rv (gp g))).map fun v => v.category) = l.map fun v => v.category := by
    intro l
    rw [List.map_map]
    congr 1
    funext v
    exact rv_cat _ v
  refine ev_run (M0 := M) C hD hS h (va_runV (As := as.map (rv (gp g))) (rest := S.map (rv (gp g))) (C := ν.1.cls) ⟨C.ex, C.by_, C.ml, C.ow, C.ts⟩ (hM H.size) ⟨callB_of n C.ts (mws_good c5) rfl rfl rfl (C.gt c4) (C.gt c1) c6 hR, C.gt c2, C.gt c3⟩ ⟨hpre.1, hrec, hpre.2⟩ rfl (by rw [List.length_map]; exact hn) h.1 ?_ (lv_room (by rw [hcat]; exact h8)) hd ⟨Nat.le_refl _, Nat.le_refl _⟩)
  show (as.reverse ++ .ref b :: S).map (rv (gp g)) = (as.map (rv (gp g))).reverse ++ .ref (gp g b) :: S.map (rv (gp g))
  rw [List.map_append, List.map_reverse]
  rfl
theorem e_callS {idx n f2 l2 : Nat} {ν : Mt} {as st : List Value} (cv : CS μ.1.cls idx ν n) (hR : f2 + 1 ≤ fr ∧ 8 + (ν.2.2.1 + 11) + l2 ≤ lo) (hn : as.length = n) (hst : as.reverse ++ S = st) (h8 : (S.map fun v => v.category).sum ≤ 8) (hd : decode μ.2.1 pc = .ok (.invokestatic idx, 3)) (hM : EvM g ν f2 l2 as M (fun r M' => Ev g μ fr lo (pc + 3) L (r.toList ++ S) M' Q)) : Ev g μ fr lo pc L st M Q := by
  subst hst
  intro p e s m args below meth c H locs A ls C hP hD hS h
  obtain ⟨c1, c2, c4, c5, c6⟩ := cv
  have hpre := ev_pre (as := as) C hP hD hS
  have hcat : ∀ l : List Value, ((l.map (rv (gp g))).map fun v => v.category) = l.map fun v => v.category := by
    intro l
    rw [List.map_map]
    congr 1
    funext v
    exact rv_cat _ v
  refine ev_run (M0 := M) C hD hS h (va_runS (As := as.map (rv (gp g))) (rest := S.map (rv (gp g))) ⟨C.ex, C.by_, C.ml, C.ow, C.ts⟩ (hM H.size) ⟨callB_of n C.ts (mws_good c5) rfl rfl rfl (C.gt c4) (C.gt c1) c6 hR, C.gt c2⟩ hpre rfl (by rw [List.length_map]; exact hn) h.1 ?_ (lv_room (by rw [hcat]; exact h8)) hd ⟨Nat.le_refl _, Nat.le_refl _⟩)
  show (as.reverse ++ S).map (rv (gp g)) = (as.map (rv (gp g))).reverse ++ S.map (rv (gp g))
  rw [List.map_append, List.map_reverse]
theorem e_callN {idx n f2 l2 : Nat} {ν : Mt} {as st : List Value} (cv : CN μ.1.cls idx ν n) (hR : f2 + 1 ≤ fr ∧ 8 + (ν.2.2.1 + 11) + l2 ≤ lo) (hn : as.length = n) (hst : as.reverse ++ S = st) (h8 : (S.map fun v => v.category).sum ≤ 8) (hd : decode μ.2.1 pc = .ok (.invokestatic idx, 3)) (hM : EvM g ν f2 l2 as M (fun r M' => Ev g μ fr lo (pc + 3) L (r.toList ++ S) M' Q)) : Ev g μ fr lo pc L st M Q := by
  subst hst
  intro p e s m args below meth c H locs A ls C hP hD hS h
  obtain ⟨⟨host, c1⟩, c2, c4, c5, c6⟩ := cv
  have hpre := ev_pre (as := as) C hP hD hS
  have hcat : ∀ l : List Value, ((l.map (rv (gp g))).map fun v => v.category) = l.map fun v => v.category := by
    intro l
    rw [List.map_map]
    congr 1
    funext v
    exact rv_cat _ v
  refine ev_run (M0 := M) C hD hS h (va_runSN (As := as.map (rv (gp g))) (rest := S.map (rv (gp g))) ⟨C.ex, C.by_, C.ml, C.ow, C.ts⟩ (hM H.size) ⟨va_cnB n C.ts (mws_good c5) rfl rfl rfl (C.G.1 _ c1) (C.gt c4) c6 hR, C.gt c2, trivial⟩ hpre rfl (by rw [List.length_map]; exact hn) h.1 ?_ (lv_room (by rw [hcat]; exact h8)) hd ⟨Nat.le_refl _, Nat.le_refl _⟩)
  show (as.reverse ++ S).map (rv (gp g)) = (as.map (rv (gp g))).reverse ++ S.map (rv (gp g))
  rw [List.map_append, List.map_reverse]
end EB
end
section
/-! For the functions fp_*: options, loops; rows that name an index; facts of the two worlds -/
def ok {α : Type} (x : Option α) (G : α → Prop) : Prop := ∃ a, x = some a ∧ G a
theorem ok_some {α : Type} {a : α} {G : α → Prop} (h : ok (some a) G) : G a := by
  obtain ⟨b, h1, h2⟩ := h
  cases h1
  exact h2
theorem ok_mk {α : Type} {a : α} {G : α → Prop} {x : Option α} (hx : x = some a) (h : G a) : ok x G := ⟨a, hx, h⟩
theorem ok_bnd {α β : Type} {x : Option α} {f : α → Option β} {G : β → Prop} {P : α → Prop} (h : ok (x.bind f) G) (k : ∀ a, ok (f a) G → P a) : ok x P := by
  obtain ⟨b, h1, h2⟩ := h
  cases x with
  | none => cases h1
  | some a => exact ⟨a, rfl, k a ⟨b, h1, h2⟩⟩
theorem ok_t {β : Type} {c : Prop} [Decidable c] {A B : Option β} {G : β → Prop} (hc : c) (h : ok (if c then A else B) G) : ok A G := by
  rw [if_pos hc] at h
  exact h
theorem ok_f {β : Type} {c : Prop} [Decidable c] {A B : Option β} {G : β → Prop} (hc : ¬ c) (h : ok (if c then A else B) G) : ok B G := by
  rw [if_neg hc] at h
  exact h
def letv {α β : Type} (e : α) (f : α → Option β) : Option β := f e
theorem lv1 {α β : Type} {e : α} {f : α → Option β} {G : β → Prop} {P : α → Prop} (h : ok (letv e f) G) (k : ∀ x, ok (f x) G → P x) : P e := k e h
theorem lv1e {α β : Type} {e : α} {f : α → Option β} {G : β → Prop} {P : Prop} (h : ok (letv e f) G) (k : ∀ x, e = x → ok (f x) G → P) : P := k e rfl h
def inb (i : Int32) (n : Nat) : Option Nat := if i < 0 ∨ n ≤ i.toNatClampNeg then none else some i.toNatClampNeg
theorem ok_inb {β : Type} {i : Int32} {n : Nat} {f : Nat → Option β} {G : β → Prop} {P : Prop} (h : ok ((inb i n).bind f) G) (k : ∀ q, i.toNatClampNeg = q → vp_in i n → ok (f q) G → P) : P := by
  unfold inb at h
  by_cases hc : i < 0 ∨ n ≤ i.toNatClampNeg
  · rw [if_pos hc] at h
    obtain ⟨b, h1, -⟩ := h
    cases h1
  · rw [if_neg hc] at h
    exact k _ rfl hc h
def bz {β : Type} (v : Int32) (x : Option β) : Option β := if v = 0 ∨ v = 1 then x else none
theorem ok_bz {β : Type} {v : Int32} {x : Option β} {G : β → Prop} (h : ok (bz v x) G) : (v = 0 ∨ v = 1) ∧ ok x G := by
  unfold bz at h
  by_cases hc : v = 0 ∨ v = 1
  · rw [if_pos hc] at h
    exact ⟨hc, h⟩
  · rw [if_neg hc] at h
    obtain ⟨b, h1, -⟩ := h
    cases h1
def dvz {β : Type} (v : Int32) (x : Option β) : Option β := if v = 0 then none else x
theorem ok_dvz {β : Type} {v : Int32} {x : Option β} {G : β → Prop} (h : ok (dvz v x) G) : ¬ v = 0 ∧ ok x G := by
  unfold dvz at h
  by_cases hc : v = 0
  · rw [if_pos hc] at h
    obtain ⟨b, h1, -⟩ := h
    cases h1
  · rw [if_neg hc] at h
    exact ⟨hc, h⟩
def cpyc {β : Type} (sp dp n : Int32) (n0 n1 : Nat) (x : Option β) : Option β := if sp < 0 ∨ dp < 0 ∨ n < 0 ∨ n0 < sp.toNatClampNeg + n.toNatClampNeg ∨ n1 < dp.toNatClampNeg + n.toNatClampNeg then none else x
theorem ok_cpy {β : Type} {sp dp n : Int32} {n0 n1 : Nat} {x : Option β} {G : β → Prop} (h : ok (cpyc sp dp n n0 n1 x) G) : ¬ sp < 0 ∧ ¬ dp < 0 ∧ ¬ n < 0 ∧ sp.toNatClampNeg + n.toNatClampNeg ≤ n0 ∧ dp.toNatClampNeg + n.toNatClampNeg ≤ n1 ∧ ok x G := by
  unfold cpyc at h
  by_cases hc : sp < 0 ∨ dp < 0 ∨ n < 0 ∨ n0 < sp.toNatClampNeg + n.toNatClampNeg ∨ n1 < dp.toNatClampNeg + n.toNatClampNeg
  · rw [if_pos hc] at h
    obtain ⟨b, h1, -⟩ := h
    cases h1
  · rw [if_neg hc] at h
    simp only [not_or, Nat.not_lt] at hc
    exact ⟨hc.1, hc.2.1, hc.2.2.1, hc.2.2.2.1, hc.2.2.2.2, h⟩
def jrem (x y : Int32) : Int32 := x - x / y * y
def lp {σ ρ : Type} (step : σ → Option (σ ⊕ ρ)) : Nat → σ → Option ρ
  | 0, _ => none
  | n + 1, s => (step s).bind (fun o => Sum.elim (lp step n) some o)
def FU : Nat := 100000
theorem lp_ind {σ ρ : Type} {step : σ → Option (σ ⊕ ρ)} {E : σ → Prop} {X : ρ → Prop} (hs : ∀ s, ok (step s) (Sum.elim E X) → E s) : ∀ (N : Nat) (s : σ), ok (lp step N s) X → E s
  | 0, s, h => by
    obtain ⟨b, h1, -⟩ := h
    cases h1
  | n + 1, s, h => by
    refine hs s (ok_bnd h (fun o h => ?_))
    rcases o with s' | r
    · exact lp_ind hs n s' h
    · have h2 : X r := ok_some h
      exact h2
theorem leL_0 {b : List (Option Value)} : leL [] b := trivial
theorem leL_n {a b : List (Option Value)} {x : Option Value} (h : leL a b) : leL (none :: a) (x :: b) := h
theorem leL_s {a b : List (Option Value)} {v : Value} (h : leL a b) : leL (some v :: a) (some v :: b) := ⟨rfl, h⟩
section EK
variable {g : Gt} {μ : Mt} {fr lo pc : Nat} {L L' : List (Option Value)} {S : List Value} {M : Me} {Q : Option Value → Me → Prop}
theorem e_ialdK {r n q : Nat} {i : Int32} (ir : Ia g r n) (hin : vp_in i n) (hk : i.toNatClampNeg = q) (hd : decode μ.2.1 pc = .ok (.iaload, 1)) (k : Ev g μ fr lo (pc + 1) L (.int (M.1 r q) :: S) M Q) : Ev g μ fr lo pc L (.int i :: .ref r :: S) M Q := by
  subst hk
  exact e_iald ir hin hd k
theorem e_iastK {r n q : Nat} {i v : Int32} (ir : Ia g r n) (hin : vp_in i n) (hk : i.toNatClampNeg = q) (hd : decode μ.2.1 pc = .ok (.iastore, 1)) (k : Ev g μ fr lo (pc + 1) L S (wrM M r q v) Q) : Ev g μ fr lo pc L (.int v :: .int i :: .ref r :: S) M Q := by
  subst hk
  exact e_iast ir hin hd k
theorem e_aaldK {r r' n b st w q : Nat} {i : Int32} (ir : Ra g r n b st w) (hw : w = 1 ∨ w = 2) (hin : vp_in i n) (hk : i.toNatClampNeg = q) (he : r + b + st * q = r') (hd : decode μ.2.1 pc = .ok (.aaload, 1)) (k : Ev g μ fr lo (pc + 1) L (.ref r' :: S) M Q) : Ev g μ fr lo pc L (.int i :: .ref r :: S) M Q := by
  subst hk
  subst he
  exact e_aald ir hw hin hd k
end EK
-- the two worlds
def kXl : List Nat := [1, 2, 8, 110, 3, 3, 3, 3, 3, 3, 3, 3, 2, 8, 110, 3, 3, 3, 3, 3, 3, 3, 3, 2, 8, 110, 3, 3, 3, 3, 3, 3, 3, 3, 4, 220, 9, 5, 140, 5, 140, 5, 140, 5, 140, 107, 6, 108, 110, 200, 108, 108, 108, 2148, 2148]
def kYl : List Nat := [7, 170, 170, 170, 107, 108, 108, 164, 2148, 140, 108, 220, 104, 104, 260, 140]
def kX (r : Nat) : Nat := kXl.getD r 0
def kY (r : Nat) : Nat := kYl.getD r 0
def wX : Nat × (Nat → Nat) := (55, kX)
def wY : Nat × (Nat → Nat) := (16, kY)
abbrev Zt : Type := (Launch × va_G × (ClassId × ClassId × ClassId)) × (Nat → Nat) × (Nat → Nat) × (Nat → Nat) × Nat
theorem is_X0 {z : Zt} : Is (wX, z) 0 1 := ⟨Nat.le_of_ble_eq_true rfl, rfl⟩
theorem is_X1 {z : Zt} : Is (wX, z) 1 2 := ⟨Nat.le_of_ble_eq_true rfl, rfl⟩
theorem ra_X2 {z : Zt} : Ra (wX, z) 2 8 2 1 1 := ⟨Nat.le_of_ble_eq_true rfl, rfl, rfl⟩
theorem ia_X3 {z : Zt} : Ia (wX, z) 3 10 := ⟨Nat.le_of_ble_eq_true rfl, rfl, rfl, rfl⟩
theorem is_X4 {z : Zt} : Is (wX, z) 4 3 := ⟨Nat.le_of_ble_eq_true rfl, rfl⟩
theorem is_X5 {z : Zt} : Is (wX, z) 5 3 := ⟨Nat.le_of_ble_eq_true rfl, rfl⟩
theorem is_X6 {z : Zt} : Is (wX, z) 6 3 := ⟨Nat.le_of_ble_eq_true rfl, rfl⟩
theorem is_X7 {z : Zt} : Is (wX, z) 7 3 := ⟨Nat.le_of_ble_eq_true rfl, rfl⟩
theorem is_X8 {z : Zt} : Is (wX, z) 8 3 := ⟨Nat.le_of_ble_eq_true rfl, rfl⟩
theorem is_X9 {z : Zt} : Is (wX, z) 9 3 := ⟨Nat.le_of_ble_eq_true rfl, rfl⟩
theorem is_X10 {z : Zt} : Is (wX, z) 10 3 := ⟨Nat.le_of_ble_eq_true rfl, rfl⟩
theorem is_X11 {z : Zt} : Is (wX, z) 11 3 := ⟨Nat.le_of_ble_eq_true rfl, rfl⟩
theorem is_X12 {z : Zt} : Is (wX, z) 12 2 := ⟨Nat.le_of_ble_eq_true rfl, rfl⟩
theorem ra_X13 {z : Zt} : Ra (wX, z) 13 8 2 1 1 := ⟨Nat.le_of_ble_eq_true rfl, rfl, rfl⟩
theorem ia_X14 {z : Zt} : Ia (wX, z) 14 10 := ⟨Nat.le_of_ble_eq_true rfl, rfl, rfl, rfl⟩
theorem is_X15 {z : Zt} : Is (wX, z) 15 3 := ⟨Nat.le_of_ble_eq_true rfl, rfl⟩
theorem is_X16 {z : Zt} : Is (wX, z) 16 3 := ⟨Nat.le_of_ble_eq_true rfl, rfl⟩
theorem is_X17 {z : Zt} : Is (wX, z) 17 3 := ⟨Nat.le_of_ble_eq_true rfl, rfl⟩
theorem is_X18 {z : Zt} : Is (wX, z) 18 3 := ⟨Nat.le_of_ble_eq_true rfl, rfl⟩
theorem is_X19 {z : Zt} : Is (wX, z) 19 3 := ⟨Nat.le_of_ble_eq_true rfl, rfl⟩
theorem is_X20 {z : Zt} : Is (wX, z) 20 3 := ⟨Nat.le_of_ble_eq_true rfl, rfl⟩
theorem is_X21 {z : Zt} : Is (wX, z) 21 3 := ⟨Nat.le_of_ble_eq_true rfl, rfl⟩
theorem is_X22 {z : Zt} : Is (wX, z) 22 3 := ⟨Nat.le_of_ble_eq_true rfl, rfl⟩
theorem is_X23 {z : Zt} : Is (wX, z) 23 2 := ⟨Nat.le_of_ble_eq_true rfl, rfl⟩
theorem ra_X24 {z : Zt} : Ra (wX, z) 24 8 2 1 1 := ⟨Nat.le_of_ble_eq_true rfl, rfl, rfl⟩
theorem ia_X25 {z : Zt} : Ia (wX, z) 25 10 := ⟨Nat.le_of_ble_eq_true rfl, rfl, rfl, rfl⟩
theorem is_X26 {z : Zt} : Is (wX, z) 26 3 := ⟨Nat.le_of_ble_eq_true rfl, rfl⟩
theorem is_X27 {z : Zt} : Is (wX, z) 27 3 := ⟨Nat.le_of_ble_eq_true rfl, rfl⟩
theorem is_X28 {z : Zt} : Is (wX, z) 28 3 := ⟨Nat.le_of_ble_eq_true rfl, rfl⟩
theorem is_X29 {z : Zt} : Is (wX, z) 29 3 := ⟨Nat.le_of_ble_eq_true rfl, rfl⟩
theorem is_X30 {z : Zt} : Is (wX, z) 30 3 := ⟨Nat.le_of_ble_eq_true rfl, rfl⟩
theorem is_X31 {z : Zt} : Is (wX, z) 31 3 := ⟨Nat.le_of_ble_eq_true rfl, rfl⟩
theorem is_X32 {z : Zt} : Is (wX, z) 32 3 := ⟨Nat.le_of_ble_eq_true rfl, rfl⟩
theorem is_X33 {z : Zt} : Is (wX, z) 33 3 := ⟨Nat.le_of_ble_eq_true rfl, rfl⟩
theorem is_X34 {z : Zt} : Is (wX, z) 34 4 := ⟨Nat.le_of_ble_eq_true rfl, rfl⟩
theorem ia_X35 {z : Zt} : Ia (wX, z) 35 120 := ⟨Nat.le_of_ble_eq_true rfl, rfl, rfl, rfl⟩
theorem ra_X36 {z : Zt} : Ra (wX, z) 36 4 1 2 2 := ⟨Nat.le_of_ble_eq_true rfl, rfl, rfl⟩
theorem is_X37 {z : Zt} : Is (wX, z) 37 5 := ⟨Nat.le_of_ble_eq_true rfl, rfl⟩
theorem ia_X38 {z : Zt} : Ia (wX, z) 38 40 := ⟨Nat.le_of_ble_eq_true rfl, rfl, rfl, rfl⟩
theorem is_X39 {z : Zt} : Is (wX, z) 39 5 := ⟨Nat.le_of_ble_eq_true rfl, rfl⟩
theorem ia_X40 {z : Zt} : Ia (wX, z) 40 40 := ⟨Nat.le_of_ble_eq_true rfl, rfl, rfl, rfl⟩
theorem is_X41 {z : Zt} : Is (wX, z) 41 5 := ⟨Nat.le_of_ble_eq_true rfl, rfl⟩
theorem ia_X42 {z : Zt} : Ia (wX, z) 42 40 := ⟨Nat.le_of_ble_eq_true rfl, rfl, rfl, rfl⟩
theorem is_X43 {z : Zt} : Is (wX, z) 43 5 := ⟨Nat.le_of_ble_eq_true rfl, rfl⟩
theorem ia_X44 {z : Zt} : Ia (wX, z) 44 40 := ⟨Nat.le_of_ble_eq_true rfl, rfl, rfl, rfl⟩
theorem ia_X45 {z : Zt} : Ia (wX, z) 45 7 := ⟨Nat.le_of_ble_eq_true rfl, rfl, rfl, rfl⟩
theorem is_X46 {z : Zt} : Is (wX, z) 46 6 := ⟨Nat.le_of_ble_eq_true rfl, rfl⟩
theorem ia_X47 {z : Zt} : Ia (wX, z) 47 8 := ⟨Nat.le_of_ble_eq_true rfl, rfl, rfl, rfl⟩
theorem ia_X48 {z : Zt} : Ia (wX, z) 48 10 := ⟨Nat.le_of_ble_eq_true rfl, rfl, rfl, rfl⟩
theorem ia_X49 {z : Zt} : Ia (wX, z) 49 100 := ⟨Nat.le_of_ble_eq_true rfl, rfl, rfl, rfl⟩
theorem ia_X50 {z : Zt} : Ia (wX, z) 50 8 := ⟨Nat.le_of_ble_eq_true rfl, rfl, rfl, rfl⟩
theorem ia_X51 {z : Zt} : Ia (wX, z) 51 8 := ⟨Nat.le_of_ble_eq_true rfl, rfl, rfl, rfl⟩
theorem ia_X52 {z : Zt} : Ia (wX, z) 52 8 := ⟨Nat.le_of_ble_eq_true rfl, rfl, rfl, rfl⟩
theorem ia_X53 {z : Zt} : Ia (wX, z) 53 2048 := ⟨Nat.le_of_ble_eq_true rfl, rfl, rfl, rfl⟩
theorem ia_X54 {z : Zt} : Ia (wX, z) 54 2048 := ⟨Nat.le_of_ble_eq_true rfl, rfl, rfl, rfl⟩
theorem is_Y0 {z : Zt} : Is (wY, z) 0 7 := ⟨Nat.le_of_ble_eq_true rfl, rfl⟩
theorem ia_Y1 {z : Zt} : Ia (wY, z) 1 70 := ⟨Nat.le_of_ble_eq_true rfl, rfl, rfl, rfl⟩
theorem ia_Y2 {z : Zt} : Ia (wY, z) 2 70 := ⟨Nat.le_of_ble_eq_true rfl, rfl, rfl, rfl⟩
theorem ia_Y3 {z : Zt} : Ia (wY, z) 3 70 := ⟨Nat.le_of_ble_eq_true rfl, rfl, rfl, rfl⟩
theorem ia_Y4 {z : Zt} : Ia (wY, z) 4 7 := ⟨Nat.le_of_ble_eq_true rfl, rfl, rfl, rfl⟩
theorem ia_Y5 {z : Zt} : Ia (wY, z) 5 8 := ⟨Nat.le_of_ble_eq_true rfl, rfl, rfl, rfl⟩
theorem ia_Y6 {z : Zt} : Ia (wY, z) 6 8 := ⟨Nat.le_of_ble_eq_true rfl, rfl, rfl, rfl⟩
theorem ia_Y7 {z : Zt} : Ia (wY, z) 7 64 := ⟨Nat.le_of_ble_eq_true rfl, rfl, rfl, rfl⟩
theorem ia_Y8 {z : Zt} : Ia (wY, z) 8 2048 := ⟨Nat.le_of_ble_eq_true rfl, rfl, rfl, rfl⟩
theorem ia_Y9 {z : Zt} : Ia (wY, z) 9 40 := ⟨Nat.le_of_ble_eq_true rfl, rfl, rfl, rfl⟩
theorem ia_Y10 {z : Zt} : Ia (wY, z) 10 8 := ⟨Nat.le_of_ble_eq_true rfl, rfl, rfl, rfl⟩
theorem ia_Y11 {z : Zt} : Ia (wY, z) 11 120 := ⟨Nat.le_of_ble_eq_true rfl, rfl, rfl, rfl⟩
theorem ia_Y12 {z : Zt} : Ia (wY, z) 12 4 := ⟨Nat.le_of_ble_eq_true rfl, rfl, rfl, rfl⟩
theorem ia_Y13 {z : Zt} : Ia (wY, z) 13 4 := ⟨Nat.le_of_ble_eq_true rfl, rfl, rfl, rfl⟩
theorem ia_Y14 {z : Zt} : Ia (wY, z) 14 160 := ⟨Nat.le_of_ble_eq_true rfl, rfl, rfl, rfl⟩
theorem ia_Y15 {z : Zt} : Ia (wY, z) 15 40 := ⟨Nat.le_of_ble_eq_true rfl, rfl, rfl, rfl⟩
theorem kX_road : ∀ r, r < 55 → kX r = 2 → r + 10 < 55 ∧ kX (r + 1) = 8 ∧ kX (r + 2) = 110 ∧ ∀ k, k < 8 → kX (r + 3 + k) = 3 := by decide +kernel
theorem kX_sheet : ∀ r, r < 55 → kX r = 5 → r + 1 < 55 ∧ kX (r + 1) = 140 := by decide +kernel
theorem rd_pumps {z : Zt} {r : Nat} (h : Is (wX, z) r 2) : Ra (wX, z) (r + 1) 8 2 1 1 := by
  obtain ⟨h1, h2, -, -⟩ := kX_road r h.1 h.2
  exact ⟨by show r + 1 < 55; omega, by show kO (kX (r + 1)) = none; rw [h2]; rfl, by show kR (kX (r + 1)) = _; rw [h2]; rfl⟩
theorem rd_spots {z : Zt} {r : Nat} (h : Is (wX, z) r 2) : Ia (wX, z) (r + 2) 10 := by
  obtain ⟨h1, -, h2, -⟩ := kX_road r h.1 h.2
  exact ⟨by show r + 2 < 55; omega, by show kO (kX (r + 2)) = none; rw [h2]; rfl, by show kR (kX (r + 2)) = none; rw [h2]; rfl, by show kX (r + 2) - 100 = 10; rw [h2]⟩
theorem pm_is {z : Zt} {r q : Nat} {i : Int32} (h : Is (wX, z) r 2) (hin : vp_in i 8) (hk : i.toNatClampNeg = q) : Is (wX, z) (r + 3 + q) 3 := by
  obtain ⟨h1, -, -, h2⟩ := kX_road r h.1 h.2
  have hq : q < 8 := by rw [← hk]; exact Nat.not_le.mp fun z => hin (Or.inr z)
  exact ⟨by show r + 3 + q < 55; omega, h2 q hq⟩
theorem sh_nums {z : Zt} {r : Nat} (h : Is (wX, z) r 5) : Ia (wX, z) (r + 1) 40 := by
  obtain ⟨h1, h2⟩ := kX_sheet r h.1 h.2
  exact ⟨h1, by show kO (kX (r + 1)) = none; rw [h2]; rfl, by show kR (kX (r + 1)) = none; rw [h2]; rfl, by show kX (r + 1) - 100 = 40; rw [h2]⟩
theorem kX_st : ∀ k, k < 4 → 37 + 2 * k < 55 ∧ kX (37 + 2 * k) = 5 := by decide +kernel
theorem st_is {z : Zt} {q : Nat} {i : Int32} (hin : vp_in i 4) (hk : i.toNatClampNeg = q) : Is (wX, z) (37 + 2 * q) 5 := by
  have hq : q < 4 := by rw [← hk]; exact Nat.not_le.mp fun z => hin (Or.inr z)
  exact kX_st q hq
theorem ho_Y {z : Zt} : ∀ a, a ≠ 0 → a < gN (wY, z) → 100 ≤ gk (wY, z) a := by
  show ∀ a, a ≠ 0 → a < 16 → 100 ≤ kY a
  have key : ∀ a, a < 16 → a ≠ 0 → 100 ≤ kY a := by decide +kernel
  exact fun a h1 h2 => key a h2 h1
theorem kc_1 : Kc 1 RX5 := ⟨_, _, rfl, rfl, rfl⟩
theorem kc_2 : Kc 2 RX2 := ⟨_, _, rfl, rfl, rfl⟩
theorem kc_3 : Kc 3 RX1 := ⟨_, _, rfl, rfl, rfl⟩
theorem kc_4 : Kc 4 RX4 := ⟨_, _, rfl, rfl, rfl⟩
theorem kc_5 : Kc 5 RX3 := ⟨_, _, rfl, rfl, rfl⟩
theorem kc_6 : Kc 6 RX0 := ⟨_, _, rfl, rfl, rfl⟩
theorem kc_7 : Kc 7 RX6 := ⟨_, _, rfl, rfl, rfl⟩
theorem inX0 : ∀ w ∈ u_ws RX0 TX0 13, w ∈ gtb := by
  have h : (u_ws RX0 TX0 13).all (fun w => decide (w ∈ lw_tbl) && goodWord w) = true := by decide +kernel
  intro w hw
  have h1 := List.all_eq_true.mp h w hw
  simp only [Bool.and_eq_true, decide_eq_true_eq] at h1
  exact List.mem_filter.mpr h1
theorem inX1 : ∀ w ∈ u_ws RX1 TX1 6, w ∈ gtb := by
  have h : (u_ws RX1 TX1 6).all (fun w => decide (w ∈ lw_tbl) && goodWord w) = true := by decide +kernel
  intro w hw
  have h1 := List.all_eq_true.mp h w hw
  simp only [Bool.and_eq_true, decide_eq_true_eq] at h1
  exact List.mem_filter.mpr h1
theorem inX2 : ∀ w ∈ u_ws RX2 TX2 14, w ∈ gtb := by
  have h : (u_ws RX2 TX2 14).all (fun w => decide (w ∈ lw_tbl) && goodWord w) = true := by decide +kernel
  intro w hw
  have h1 := List.all_eq_true.mp h w hw
  simp only [Bool.and_eq_true, decide_eq_true_eq] at h1
  exact List.mem_filter.mpr h1
theorem inX3 : ∀ w ∈ u_ws RX3 TX3 3, w ∈ gtb := by
  have h : (u_ws RX3 TX3 3).all (fun w => decide (w ∈ lw_tbl) && goodWord w) = true := by decide +kernel
  intro w hw
  have h1 := List.all_eq_true.mp h w hw
  simp only [Bool.and_eq_true, decide_eq_true_eq] at h1
  exact List.mem_filter.mpr h1
theorem inX4 : ∀ w ∈ u_ws RX4 TX4 6, w ∈ gtb := by
  have h : (u_ws RX4 TX4 6).all (fun w => decide (w ∈ lw_tbl) && goodWord w) = true := by decide +kernel
  intro w hw
  have h1 := List.all_eq_true.mp h w hw
  simp only [Bool.and_eq_true, decide_eq_true_eq] at h1
  exact List.mem_filter.mpr h1
theorem inX5 : ∀ w ∈ u_ws RX5 TX5 8, w ∈ gtb := by
  have h : (u_ws RX5 TX5 8).all (fun w => decide (w ∈ lw_tbl) && goodWord w) = true := by decide +kernel
  intro w hw
  have h1 := List.all_eq_true.mp h w hw
  simp only [Bool.and_eq_true, decide_eq_true_eq] at h1
  exact List.mem_filter.mpr h1
theorem inX6 : ∀ w ∈ u_ws RX6 TX6 24, w ∈ gtb := by
  have h : (u_ws RX6 TX6 24).all (fun w => decide (w ∈ lw_tbl) && goodWord w) = true := by decide +kernel
  intro w hw
  have h1 := List.all_eq_true.mp h w hw
  simp only [Bool.and_eq_true, decide_eq_true_eq] at h1
  exact List.mem_filter.mpr h1
end
