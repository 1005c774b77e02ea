section
-- ===== PART A: goes FIRST, ahead of the names: the tables' words, and 'selects' of the private methods out of them =====
/-- a private method of a class that the tables say can be made, by its rows of tables_1 -/
def lw_okq (q : MethodName × Nat) : Prop := (q.1.cls ≠ "java/lang/invoke/MethodHandle" ∧ q.1.cls ≠ "java/lang/invoke/VarHandle") ∧ Cond.instantiable q.1.cls q.2 ∈ tables_1 ∧ Cond.privateMethod q.1 ∈ tables_1 ∧ Cond.instanceMethod q.1 ∈ tables_1
theorem lw_p0 : lw_okq (⟨"BackStairs", "doorsChanged", "()V"⟩, 14) := ⟨⟨by decide +kernel, by decide +kernel⟩, List.mem_of_getElem? (i := 17) (by decide +kernel), List.mem_of_getElem? (i := 390) (by decide +kernel), List.mem_of_getElem? (i := 391) (by decide +kernel)⟩
theorem lw_p1 : lw_okq (⟨"BackStairs$House", "measureFrom", "(IZ[I)V"⟩, 8) := ⟨⟨by decide +kernel, by decide +kernel⟩, List.mem_of_getElem? (i := 25) (by decide +kernel), List.mem_of_getElem? (i := 398) (by decide +kernel), List.mem_of_getElem? (i := 399) (by decide +kernel)⟩
theorem lw_p2 : lw_okq (⟨"BackStairs", "plansChanged", "()V"⟩, 14) := ⟨⟨by decide +kernel, by decide +kernel⟩, List.mem_of_getElem? (i := 17) (by decide +kernel), List.mem_of_getElem? (i := 407) (by decide +kernel), List.mem_of_getElem? (i := 408) (by decide +kernel)⟩
theorem lw_p3 : lw_okq (⟨"BackStairs$Tape", "letter", "(I)I"⟩, 4) := ⟨⟨by decide +kernel, by decide +kernel⟩, List.mem_of_getElem? (i := 180) (by decide +kernel), List.mem_of_getElem? (i := 462) (by decide +kernel), List.mem_of_getElem? (i := 463) (by decide +kernel)⟩
theorem lw_p4 : lw_okq (⟨"BackStairs$Tape", "peek", "()I"⟩, 4) := ⟨⟨by decide +kernel, by decide +kernel⟩, List.mem_of_getElem? (i := 180) (by decide +kernel), List.mem_of_getElem? (i := 466) (by decide +kernel), List.mem_of_getElem? (i := 467) (by decide +kernel)⟩
theorem lw_p5 : lw_okq (⟨"BackStairs$Tape", "fault", "()I"⟩, 4) := ⟨⟨by decide +kernel, by decide +kernel⟩, List.mem_of_getElem? (i := 180) (by decide +kernel), List.mem_of_getElem? (i := 471) (by decide +kernel), List.mem_of_getElem? (i := 472) (by decide +kernel)⟩
theorem lw_p6 : lw_okq (⟨"BackStairs$Tape", "number", "(II)I"⟩, 4) := ⟨⟨by decide +kernel, by decide +kernel⟩, List.mem_of_getElem? (i := 180) (by decide +kernel), List.mem_of_getElem? (i := 475) (by decide +kernel), List.mem_of_getElem? (i := 476) (by decide +kernel)⟩
theorem lw_p7 : lw_okq (⟨"BackStairs$Trips", "comersInto", "(II)I"⟩, 6) := ⟨⟨by decide +kernel, by decide +kernel⟩, List.mem_of_getElem? (i := 222) (by decide +kernel), List.mem_of_getElem? (i := 520) (by decide +kernel), List.mem_of_getElem? (i := 521) (by decide +kernel)⟩
theorem lw_p8 : lw_okq (⟨"BackStairs$Trips", "step", "(IIZ)I"⟩, 6) := ⟨⟨by decide +kernel, by decide +kernel⟩, List.mem_of_getElem? (i := 222) (by decide +kernel), List.mem_of_getElem? (i := 532) (by decide +kernel), List.mem_of_getElem? (i := 533) (by decide +kernel)⟩
theorem lw_p9 : lw_okq (⟨"BackStairs$Trips", "lowest", "(I)I"⟩, 6) := ⟨⟨by decide +kernel, by decide +kernel⟩, List.mem_of_getElem? (i := 222) (by decide +kernel), List.mem_of_getElem? (i := 540) (by decide +kernel), List.mem_of_getElem? (i := 541) (by decide +kernel)⟩
theorem lw_p10 : lw_okq (⟨"BackStairs", "isErrand", "(IIIII)Z"⟩, 14) := ⟨⟨by decide +kernel, by decide +kernel⟩, List.mem_of_getElem? (i := 17) (by decide +kernel), List.mem_of_getElem? (i := 564) (by decide +kernel), List.mem_of_getElem? (i := 565) (by decide +kernel)⟩
theorem lw_p11 : lw_okq (⟨"BackStairs$Planner", "fillEnds", "(I)V"⟩, 12) := ⟨⟨by decide +kernel, by decide +kernel⟩, List.mem_of_getElem? (i := 249) (by decide +kernel), List.mem_of_getElem? (i := 593) (by decide +kernel), List.mem_of_getElem? (i := 594) (by decide +kernel)⟩
theorem lw_p12 : lw_okq (⟨"BackStairs$Planner", "fillLeast", "(I)V"⟩, 12) := ⟨⟨by decide +kernel, by decide +kernel⟩, List.mem_of_getElem? (i := 249) (by decide +kernel), List.mem_of_getElem? (i := 601) (by decide +kernel), List.mem_of_getElem? (i := 602) (by decide +kernel)⟩
theorem lw_p13 : lw_okq (⟨"BackStairs$Planner", "firstOrder", "([I)V"⟩, 12) := ⟨⟨by decide +kernel, by decide +kernel⟩, List.mem_of_getElem? (i := 249) (by decide +kernel), List.mem_of_getElem? (i := 606) (by decide +kernel), List.mem_of_getElem? (i := 607) (by decide +kernel)⟩
theorem lw_p14 : lw_okq (⟨"BackStairs$Planner", "doneAt", "(III)I"⟩, 12) := ⟨⟨by decide +kernel, by decide +kernel⟩, List.mem_of_getElem? (i := 249) (by decide +kernel), List.mem_of_getElem? (i := 610) (by decide +kernel), List.mem_of_getElem? (i := 611) (by decide +kernel)⟩
theorem lw_p15 : lw_okq (⟨"BackStairs$Planner", "takenAt", "(III)I"⟩, 12) := ⟨⟨by decide +kernel, by decide +kernel⟩, List.mem_of_getElem? (i := 249) (by decide +kernel), List.mem_of_getElem? (i := 616) (by decide +kernel), List.mem_of_getElem? (i := 617) (by decide +kernel)⟩
def lw_privs_1 : List (MethodName × Nat) := [(⟨"BackStairs", "doorsChanged", "()V"⟩, 14), (⟨"BackStairs$House", "measureFrom", "(IZ[I)V"⟩, 8), (⟨"BackStairs", "plansChanged", "()V"⟩, 14), (⟨"BackStairs$Tape", "letter", "(I)I"⟩, 4), (⟨"BackStairs$Tape", "peek", "()I"⟩, 4), (⟨"BackStairs$Tape", "fault", "()I"⟩, 4), (⟨"BackStairs$Tape", "number", "(II)I"⟩, 4), (⟨"BackStairs$Trips", "comersInto", "(II)I"⟩, 6), (⟨"BackStairs$Trips", "step", "(IIZ)I"⟩, 6), (⟨"BackStairs$Trips", "lowest", "(I)I"⟩, 6), (⟨"BackStairs", "isErrand", "(IIIII)Z"⟩, 14), (⟨"BackStairs$Planner", "fillEnds", "(I)V"⟩, 12), (⟨"BackStairs$Planner", "fillLeast", "(I)V"⟩, 12), (⟨"BackStairs$Planner", "firstOrder", "([I)V"⟩, 12), (⟨"BackStairs$Planner", "doneAt", "(III)I"⟩, 12), (⟨"BackStairs$Planner", "takenAt", "(III)I"⟩, 12)]
theorem lw_r1 : ∀ q ∈ lw_privs_1, lw_okq q := List.forall_mem_cons.mpr ⟨lw_p0, List.forall_mem_cons.mpr ⟨lw_p1, List.forall_mem_cons.mpr ⟨lw_p2, List.forall_mem_cons.mpr ⟨lw_p3, List.forall_mem_cons.mpr ⟨lw_p4, List.forall_mem_cons.mpr ⟨lw_p5, List.forall_mem_cons.mpr ⟨lw_p6, List.forall_mem_cons.mpr ⟨lw_p7, List.forall_mem_cons.mpr ⟨lw_p8, List.forall_mem_cons.mpr ⟨lw_p9, List.forall_mem_cons.mpr ⟨lw_p10, List.forall_mem_cons.mpr ⟨lw_p11, List.forall_mem_cons.mpr ⟨lw_p12, List.forall_mem_cons.mpr ⟨lw_p13, List.forall_mem_cons.mpr ⟨lw_p14, List.forall_mem_cons.mpr ⟨lw_p15, fun _ h => absurd h List.not_mem_nil⟩⟩⟩⟩⟩⟩⟩⟩⟩⟩⟩⟩⟩⟩⟩⟩
theorem lw_p16 : lw_okq (⟨"BackStairs$Planner", "nextOrder", "([I)Z"⟩, 12) := ⟨⟨by decide +kernel, by decide +kernel⟩, List.mem_of_getElem? (i := 249) (by decide +kernel), List.mem_of_getElem? (i := 625) (by decide +kernel), List.mem_of_getElem? (i := 626) (by decide +kernel)⟩
theorem lw_p17 : lw_okq (⟨"BackStairs$Planner", "swap", "([III)V"⟩, 12) := ⟨⟨by decide +kernel, by decide +kernel⟩, List.mem_of_getElem? (i := 249) (by decide +kernel), List.mem_of_getElem? (i := 629) (by decide +kernel), List.mem_of_getElem? (i := 630) (by decide +kernel)⟩
theorem lw_p18 : lw_okq (⟨"BackStairs$Planner", "makeBest", "(I)V"⟩, 12) := ⟨⟨by decide +kernel, by decide +kernel⟩, List.mem_of_getElem? (i := 249) (by decide +kernel), List.mem_of_getElem? (i := 633) (by decide +kernel), List.mem_of_getElem? (i := 634) (by decide +kernel)⟩
theorem lw_p19 : lw_okq (⟨"BackStairs$Planner", "costOf", "(II)I"⟩, 12) := ⟨⟨by decide +kernel, by decide +kernel⟩, List.mem_of_getElem? (i := 249) (by decide +kernel), List.mem_of_getElem? (i := 641) (by decide +kernel), List.mem_of_getElem? (i := 642) (by decide +kernel)⟩
theorem lw_p20 : lw_okq (⟨"BackStairs$Planner", "follow", "(LBackStairs$Plan;)V"⟩, 12) := ⟨⟨by decide +kernel, by decide +kernel⟩, List.mem_of_getElem? (i := 249) (by decide +kernel), List.mem_of_getElem? (i := 645) (by decide +kernel), List.mem_of_getElem? (i := 646) (by decide +kernel)⟩
theorem lw_p21 : lw_okq (⟨"BackStairs$Planner", "allHome", "()V"⟩, 12) := ⟨⟨by decide +kernel, by decide +kernel⟩, List.mem_of_getElem? (i := 249) (by decide +kernel), List.mem_of_getElem? (i := 649) (by decide +kernel), List.mem_of_getElem? (i := 650) (by decide +kernel)⟩
theorem lw_p22 : lw_okq (⟨"BackStairs$Planner", "carryOut", "(LBackStairs$Plan;I)V"⟩, 12) := ⟨⟨by decide +kernel, by decide +kernel⟩, List.mem_of_getElem? (i := 249) (by decide +kernel), List.mem_of_getElem? (i := 653) (by decide +kernel), List.mem_of_getElem? (i := 654) (by decide +kernel)⟩
theorem lw_p23 : lw_okq (⟨"BackStairs$Planner", "makeRule", "(I)V"⟩, 12) := ⟨⟨by decide +kernel, by decide +kernel⟩, List.mem_of_getElem? (i := 249) (by decide +kernel), List.mem_of_getElem? (i := 657) (by decide +kernel), List.mem_of_getElem? (i := 658) (by decide +kernel)⟩
theorem lw_p24 : lw_okq (⟨"BackStairs$Planner", "isAhead", "(II)Z"⟩, 12) := ⟨⟨by decide +kernel, by decide +kernel⟩, List.mem_of_getElem? (i := 249) (by decide +kernel), List.mem_of_getElem? (i := 661) (by decide +kernel), List.mem_of_getElem? (i := 662) (by decide +kernel)⟩
theorem lw_p25 : lw_okq (⟨"BackStairs$Planner", "soonestFor", "(II)I"⟩, 12) := ⟨⟨by decide +kernel, by decide +kernel⟩, List.mem_of_getElem? (i := 249) (by decide +kernel), List.mem_of_getElem? (i := 665) (by decide +kernel), List.mem_of_getElem? (i := 666) (by decide +kernel)⟩
theorem lw_p26 : lw_okq (⟨"BackStairs$Inquiry", "haveWays", "(II)Z"⟩, 3) := ⟨⟨by decide +kernel, by decide +kernel⟩, List.mem_of_getElem? (i := 325) (by decide +kernel), List.mem_of_getElem? (i := 758) (by decide +kernel), List.mem_of_getElem? (i := 759) (by decide +kernel)⟩
theorem lw_p27 : lw_okq (⟨"BackStairs$Inquiry", "pin", "(III)Z"⟩, 3) := ⟨⟨by decide +kernel, by decide +kernel⟩, List.mem_of_getElem? (i := 325) (by decide +kernel), List.mem_of_getElem? (i := 763) (by decide +kernel), List.mem_of_getElem? (i := 764) (by decide +kernel)⟩
theorem lw_p28 : lw_okq (⟨"BackStairs$Inquiry", "hasWay", "(I)Z"⟩, 3) := ⟨⟨by decide +kernel, by decide +kernel⟩, List.mem_of_getElem? (i := 325) (by decide +kernel), List.mem_of_getElem? (i := 767) (by decide +kernel), List.mem_of_getElem? (i := 768) (by decide +kernel)⟩
theorem lw_p29 : lw_okq (⟨"BackStairs$Inquiry", "wayOf", "(I)[[I"⟩, 3) := ⟨⟨by decide +kernel, by decide +kernel⟩, List.mem_of_getElem? (i := 325) (by decide +kernel), List.mem_of_getElem? (i := 771) (by decide +kernel), List.mem_of_getElem? (i := 772) (by decide +kernel)⟩
theorem lw_p30 : lw_okq (⟨"BackStairs$Inquiry", "othersMayBeElsewhere", "(II)Z"⟩, 3) := ⟨⟨by decide +kernel, by decide +kernel⟩, List.mem_of_getElem? (i := 325) (by decide +kernel), List.mem_of_getElem? (i := 796) (by decide +kernel), List.mem_of_getElem? (i := 797) (by decide +kernel)⟩
theorem lw_p31 : lw_okq (⟨"BackStairsModel", "isRoom", "(I)Z"⟩, 44) := ⟨⟨by decide +kernel, by decide +kernel⟩, List.mem_of_getElem? (i := 880) (by decide +kernel), List.mem_of_getElem? (i := 1027) (by decide +kernel), List.mem_of_getElem? (i := 1028) (by decide +kernel)⟩
def lw_privs_2 : List (MethodName × Nat) := [(⟨"BackStairs$Planner", "nextOrder", "([I)Z"⟩, 12), (⟨"BackStairs$Planner", "swap", "([III)V"⟩, 12), (⟨"BackStairs$Planner", "makeBest", "(I)V"⟩, 12), (⟨"BackStairs$Planner", "costOf", "(II)I"⟩, 12), (⟨"BackStairs$Planner", "follow", "(LBackStairs$Plan;)V"⟩, 12), (⟨"BackStairs$Planner", "allHome", "()V"⟩, 12), (⟨"BackStairs$Planner", "carryOut", "(LBackStairs$Plan;I)V"⟩, 12), (⟨"BackStairs$Planner", "makeRule", "(I)V"⟩, 12), (⟨"BackStairs$Planner", "isAhead", "(II)Z"⟩, 12), (⟨"BackStairs$Planner", "soonestFor", "(II)I"⟩, 12), (⟨"BackStairs$Inquiry", "haveWays", "(II)Z"⟩, 3), (⟨"BackStairs$Inquiry", "pin", "(III)Z"⟩, 3), (⟨"BackStairs$Inquiry", "hasWay", "(I)Z"⟩, 3), (⟨"BackStairs$Inquiry", "wayOf", "(I)[[I"⟩, 3), (⟨"BackStairs$Inquiry", "othersMayBeElsewhere", "(II)Z"⟩, 3), (⟨"BackStairsModel", "isRoom", "(I)Z"⟩, 44)]
theorem lw_r2 : ∀ q ∈ lw_privs_2, lw_okq q := List.forall_mem_cons.mpr ⟨lw_p16, List.forall_mem_cons.mpr ⟨lw_p17, List.forall_mem_cons.mpr ⟨lw_p18, List.forall_mem_cons.mpr ⟨lw_p19, List.forall_mem_cons.mpr ⟨lw_p20, List.forall_mem_cons.mpr ⟨lw_p21, List.forall_mem_cons.mpr ⟨lw_p22, List.forall_mem_cons.mpr ⟨lw_p23, List.forall_mem_cons.mpr ⟨lw_p24, List.forall_mem_cons.mpr ⟨lw_p25, List.forall_mem_cons.mpr ⟨lw_p26, List.forall_mem_cons.mpr ⟨lw_p27, List.forall_mem_cons.mpr ⟨lw_p28, List.forall_mem_cons.mpr ⟨lw_p29, List.forall_mem_cons.mpr ⟨lw_p30, List.forall_mem_cons.mpr ⟨lw_p31, fun _ h => absurd h List.not_mem_nil⟩⟩⟩⟩⟩⟩⟩⟩⟩⟩⟩⟩⟩⟩⟩⟩
theorem lw_p32 : lw_okq (⟨"BackStairsModel", "doorIs", "(III)V"⟩, 44) := ⟨⟨by decide +kernel, by decide +kernel⟩, List.mem_of_getElem? (i := 880) (by decide +kernel), List.mem_of_getElem? (i := 1034) (by decide +kernel), List.mem_of_getElem? (i := 1035) (by decide +kernel)⟩
theorem lw_p33 : lw_okq (⟨"BackStairsModel", "isWalked", "(II)Z"⟩, 44) := ⟨⟨by decide +kernel, by decide +kernel⟩, List.mem_of_getElem? (i := 880) (by decide +kernel), List.mem_of_getElem? (i := 1042) (by decide +kernel), List.mem_of_getElem? (i := 1043) (by decide +kernel)⟩
theorem lw_p34 : lw_okq (⟨"BackStairsModel", "walks", "()V"⟩, 44) := ⟨⟨by decide +kernel, by decide +kernel⟩, List.mem_of_getElem? (i := 880) (by decide +kernel), List.mem_of_getElem? (i := 1058) (by decide +kernel), List.mem_of_getElem? (i := 1059) (by decide +kernel)⟩
theorem lw_p35 : lw_okq (⟨"BackStairsModel", "here", "()I"⟩, 44) := ⟨⟨by decide +kernel, by decide +kernel⟩, List.mem_of_getElem? (i := 880) (by decide +kernel), List.mem_of_getElem? (i := 1062) (by decide +kernel), List.mem_of_getElem? (i := 1063) (by decide +kernel)⟩
theorem lw_p36 : lw_okq (⟨"BackStairsModel", "letter", "(I)I"⟩, 44) := ⟨⟨by decide +kernel, by decide +kernel⟩, List.mem_of_getElem? (i := 880) (by decide +kernel), List.mem_of_getElem? (i := 1066) (by decide +kernel), List.mem_of_getElem? (i := 1067) (by decide +kernel)⟩
theorem lw_p37 : lw_okq (⟨"BackStairsModel", "number", "(II)I"⟩, 44) := ⟨⟨by decide +kernel, by decide +kernel⟩, List.mem_of_getElem? (i := 880) (by decide +kernel), List.mem_of_getElem? (i := 1071) (by decide +kernel), List.mem_of_getElem? (i := 1072) (by decide +kernel)⟩
theorem lw_p38 : lw_okq (⟨"BackStairsModel", "lays", "()V"⟩, 44) := ⟨⟨by decide +kernel, by decide +kernel⟩, List.mem_of_getElem? (i := 880) (by decide +kernel), List.mem_of_getElem? (i := 1090) (by decide +kernel), List.mem_of_getElem? (i := 1091) (by decide +kernel)⟩
theorem lw_p39 : lw_okq (⟨"BackStairsModel", "reaches", "(IIZ)V"⟩, 44) := ⟨⟨by decide +kernel, by decide +kernel⟩, List.mem_of_getElem? (i := 880) (by decide +kernel), List.mem_of_getElem? (i := 1094) (by decide +kernel), List.mem_of_getElem? (i := 1095) (by decide +kernel)⟩
theorem lw_p40 : lw_okq (⟨"BackStairsModel", "isMet", "(II)Z"⟩, 44) := ⟨⟨by decide +kernel, by decide +kernel⟩, List.mem_of_getElem? (i := 880) (by decide +kernel), List.mem_of_getElem? (i := 1098) (by decide +kernel), List.mem_of_getElem? (i := 1099) (by decide +kernel)⟩
theorem lw_p41 : lw_okq (⟨"BackStairsModel", "may", "(IIIZ)Z"⟩, 44) := ⟨⟨by decide +kernel, by decide +kernel⟩, List.mem_of_getElem? (i := 880) (by decide +kernel), List.mem_of_getElem? (i := 1102) (by decide +kernel), List.mem_of_getElem? (i := 1103) (by decide +kernel)⟩
theorem lw_p42 : lw_okq (⟨"BackStairsModel", "endOf", "(IIIZ)I"⟩, 44) := ⟨⟨by decide +kernel, by decide +kernel⟩, List.mem_of_getElem? (i := 880) (by decide +kernel), List.mem_of_getElem? (i := 1106) (by decide +kernel), List.mem_of_getElem? (i := 1107) (by decide +kernel)⟩
theorem lw_p43 : lw_okq (⟨"BackStairsModel", "isErrand", "(IIIII)Z"⟩, 44) := ⟨⟨by decide +kernel, by decide +kernel⟩, List.mem_of_getElem? (i := 880) (by decide +kernel), List.mem_of_getElem? (i := 1126) (by decide +kernel), List.mem_of_getElem? (i := 1127) (by decide +kernel)⟩
theorem lw_p44 : lw_okq (⟨"BackStairsModel", "puts", "(IIIII)V"⟩, 44) := ⟨⟨by decide +kernel, by decide +kernel⟩, List.mem_of_getElem? (i := 880) (by decide +kernel), List.mem_of_getElem? (i := 1131) (by decide +kernel), List.mem_of_getElem? (i := 1132) (by decide +kernel)⟩
theorem lw_p45 : lw_okq (⟨"BackStairsModel", "finds", "(IIII)I"⟩, 44) := ⟨⟨by decide +kernel, by decide +kernel⟩, List.mem_of_getElem? (i := 880) (by decide +kernel), List.mem_of_getElem? (i := 1148) (by decide +kernel), List.mem_of_getElem? (i := 1149) (by decide +kernel)⟩
theorem lw_p46 : lw_okq (⟨"BackStairsModel", "well", "()I"⟩, 44) := ⟨⟨by decide +kernel, by decide +kernel⟩, List.mem_of_getElem? (i := 880) (by decide +kernel), List.mem_of_getElem? (i := 1161) (by decide +kernel), List.mem_of_getElem? (i := 1162) (by decide +kernel)⟩
theorem lw_p47 : lw_okq (⟨"BackStairsModel", "bestDone", "()I"⟩, 44) := ⟨⟨by decide +kernel, by decide +kernel⟩, List.mem_of_getElem? (i := 880) (by decide +kernel), List.mem_of_getElem? (i := 1165) (by decide +kernel), List.mem_of_getElem? (i := 1166) (by decide +kernel)⟩
def lw_privs_3 : List (MethodName × Nat) := [(⟨"BackStairsModel", "doorIs", "(III)V"⟩, 44), (⟨"BackStairsModel", "isWalked", "(II)Z"⟩, 44), (⟨"BackStairsModel", "walks", "()V"⟩, 44), (⟨"BackStairsModel", "here", "()I"⟩, 44), (⟨"BackStairsModel", "letter", "(I)I"⟩, 44), (⟨"BackStairsModel", "number", "(II)I"⟩, 44), (⟨"BackStairsModel", "lays", "()V"⟩, 44), (⟨"BackStairsModel", "reaches", "(IIZ)V"⟩, 44), (⟨"BackStairsModel", "isMet", "(II)Z"⟩, 44), (⟨"BackStairsModel", "may", "(IIIZ)Z"⟩, 44), (⟨"BackStairsModel", "endOf", "(IIIZ)I"⟩, 44), (⟨"BackStairsModel", "isErrand", "(IIIII)Z"⟩, 44), (⟨"BackStairsModel", "puts", "(IIIII)V"⟩, 44), (⟨"BackStairsModel", "finds", "(IIII)I"⟩, 44), (⟨"BackStairsModel", "well", "()I"⟩, 44), (⟨"BackStairsModel", "bestDone", "()I"⟩, 44)]
theorem lw_r3 : ∀ q ∈ lw_privs_3, lw_okq q := List.forall_mem_cons.mpr ⟨lw_p32, List.forall_mem_cons.mpr ⟨lw_p33, List.forall_mem_cons.mpr ⟨lw_p34, List.forall_mem_cons.mpr ⟨lw_p35, List.forall_mem_cons.mpr ⟨lw_p36, List.forall_mem_cons.mpr ⟨lw_p37, List.forall_mem_cons.mpr ⟨lw_p38, List.forall_mem_cons.mpr ⟨lw_p39, List.forall_mem_cons.mpr ⟨lw_p40, List.forall_mem_cons.mpr ⟨lw_p41, List.forall_mem_cons.mpr ⟨lw_p42, List.forall_mem_cons.mpr ⟨lw_p43, List.forall_mem_cons.mpr ⟨lw_p44, List.forall_mem_cons.mpr ⟨lw_p45, List.forall_mem_cons.mpr ⟨lw_p46, List.forall_mem_cons.mpr ⟨lw_p47, fun _ h => absurd h List.not_mem_nil⟩⟩⟩⟩⟩⟩⟩⟩⟩⟩⟩⟩⟩⟩⟩⟩
theorem lw_p48 : lw_okq (⟨"BackStairsModel", "best", "(I)I"⟩, 44) := ⟨⟨by decide +kernel, by decide +kernel⟩, List.mem_of_getElem? (i := 880) (by decide +kernel), List.mem_of_getElem? (i := 1169) (by decide +kernel), List.mem_of_getElem? (i := 1170) (by decide +kernel)⟩
theorem lw_p49 : lw_okq (⟨"BackStairsModel", "rows", "(I)V"⟩, 44) := ⟨⟨by decide +kernel, by decide +kernel⟩, List.mem_of_getElem? (i := 880) (by decide +kernel), List.mem_of_getElem? (i := 1174) (by decide +kernel), List.mem_of_getElem? (i := 1175) (by decide +kernel)⟩
theorem lw_p50 : lw_okq (⟨"BackStairsModel", "sumOf", "()I"⟩, 44) := ⟨⟨by decide +kernel, by decide +kernel⟩, List.mem_of_getElem? (i := 880) (by decide +kernel), List.mem_of_getElem? (i := 1178) (by decide +kernel), List.mem_of_getElem? (i := 1179) (by decide +kernel)⟩
theorem lw_p51 : lw_okq (⟨"BackStairsModel", "wakes", "()V"⟩, 44) := ⟨⟨by decide +kernel, by decide +kernel⟩, List.mem_of_getElem? (i := 880) (by decide +kernel), List.mem_of_getElem? (i := 1182) (by decide +kernel), List.mem_of_getElem? (i := 1183) (by decide +kernel)⟩
theorem lw_p52 : lw_okq (⟨"BackStairsModel", "doIt", "(II)V"⟩, 44) := ⟨⟨by decide +kernel, by decide +kernel⟩, List.mem_of_getElem? (i := 880) (by decide +kernel), List.mem_of_getElem? (i := 1186) (by decide +kernel), List.mem_of_getElem? (i := 1187) (by decide +kernel)⟩
theorem lw_p53 : lw_okq (⟨"BackStairsModel", "wouldBe", "(II)I"⟩, 44) := ⟨⟨by decide +kernel, by decide +kernel⟩, List.mem_of_getElem? (i := 880) (by decide +kernel), List.mem_of_getElem? (i := 1190) (by decide +kernel), List.mem_of_getElem? (i := 1191) (by decide +kernel)⟩
theorem lw_p54 : lw_okq (⟨"BackStairsModel", "costOf", "(I)I"⟩, 44) := ⟨⟨by decide +kernel, by decide +kernel⟩, List.mem_of_getElem? (i := 880) (by decide +kernel), List.mem_of_getElem? (i := 1194) (by decide +kernel), List.mem_of_getElem? (i := 1195) (by decide +kernel)⟩
theorem lw_p55 : lw_okq (⟨"BackStairsModel", "keeps", "()V"⟩, 44) := ⟨⟨by decide +kernel, by decide +kernel⟩, List.mem_of_getElem? (i := 880) (by decide +kernel), List.mem_of_getElem? (i := 1198) (by decide +kernel), List.mem_of_getElem? (i := 1199) (by decide +kernel)⟩
theorem lw_p56 : lw_okq (⟨"BackStairsModel", "ruled", "()I"⟩, 44) := ⟨⟨by decide +kernel, by decide +kernel⟩, List.mem_of_getElem? (i := 880) (by decide +kernel), List.mem_of_getElem? (i := 1206) (by decide +kernel), List.mem_of_getElem? (i := 1207) (by decide +kernel)⟩
theorem lw_p57 : lw_okq (⟨"BackStairsModel", "isOne", "(I)Z"⟩, 44) := ⟨⟨by decide +kernel, by decide +kernel⟩, List.mem_of_getElem? (i := 880) (by decide +kernel), List.mem_of_getElem? (i := 1237) (by decide +kernel), List.mem_of_getElem? (i := 1238) (by decide +kernel)⟩
theorem lw_p58 : lw_okq (⟨"BackStairsModel", "liarsBut", "(I)I"⟩, 44) := ⟨⟨by decide +kernel, by decide +kernel⟩, List.mem_of_getElem? (i := 880) (by decide +kernel), List.mem_of_getElem? (i := 1253) (by decide +kernel), List.mem_of_getElem? (i := 1254) (by decide +kernel)⟩
theorem lw_p59 : lw_okq (⟨"BackStairsModel", "goes", "(III)Z"⟩, 44) := ⟨⟨by decide +kernel, by decide +kernel⟩, List.mem_of_getElem? (i := 880) (by decide +kernel), List.mem_of_getElem? (i := 1257) (by decide +kernel), List.mem_of_getElem? (i := 1258) (by decide +kernel)⟩
theorem lw_p60 : lw_okq (⟨"BackStairsModel", "around", "(II)I"⟩, 44) := ⟨⟨by decide +kernel, by decide +kernel⟩, List.mem_of_getElem? (i := 880) (by decide +kernel), List.mem_of_getElem? (i := 1261) (by decide +kernel), List.mem_of_getElem? (i := 1262) (by decide +kernel)⟩
theorem lw_p61 : lw_okq (⟨"BackStairsModel", "suspectsBut", "(I)I"⟩, 44) := ⟨⟨by decide +kernel, by decide +kernel⟩, List.mem_of_getElem? (i := 880) (by decide +kernel), List.mem_of_getElem? (i := 1277) (by decide +kernel), List.mem_of_getElem? (i := 1278) (by decide +kernel)⟩
def lw_privs_4 : List (MethodName × Nat) := [(⟨"BackStairsModel", "best", "(I)I"⟩, 44), (⟨"BackStairsModel", "rows", "(I)V"⟩, 44), (⟨"BackStairsModel", "sumOf", "()I"⟩, 44), (⟨"BackStairsModel", "wakes", "()V"⟩, 44), (⟨"BackStairsModel", "doIt", "(II)V"⟩, 44), (⟨"BackStairsModel", "wouldBe", "(II)I"⟩, 44), (⟨"BackStairsModel", "costOf", "(I)I"⟩, 44), (⟨"BackStairsModel", "keeps", "()V"⟩, 44), (⟨"BackStairsModel", "ruled", "()I"⟩, 44), (⟨"BackStairsModel", "isOne", "(I)Z"⟩, 44), (⟨"BackStairsModel", "liarsBut", "(I)I"⟩, 44), (⟨"BackStairsModel", "goes", "(III)Z"⟩, 44), (⟨"BackStairsModel", "around", "(II)I"⟩, 44), (⟨"BackStairsModel", "suspectsBut", "(I)I"⟩, 44)]
theorem lw_r4 : ∀ q ∈ lw_privs_4, lw_okq q := List.forall_mem_cons.mpr ⟨lw_p48, List.forall_mem_cons.mpr ⟨lw_p49, List.forall_mem_cons.mpr ⟨lw_p50, List.forall_mem_cons.mpr ⟨lw_p51, List.forall_mem_cons.mpr ⟨lw_p52, List.forall_mem_cons.mpr ⟨lw_p53, List.forall_mem_cons.mpr ⟨lw_p54, List.forall_mem_cons.mpr ⟨lw_p55, List.forall_mem_cons.mpr ⟨lw_p56, List.forall_mem_cons.mpr ⟨lw_p57, List.forall_mem_cons.mpr ⟨lw_p58, List.forall_mem_cons.mpr ⟨lw_p59, List.forall_mem_cons.mpr ⟨lw_p60, List.forall_mem_cons.mpr ⟨lw_p61, fun _ h => absurd h List.not_mem_nil⟩⟩⟩⟩⟩⟩⟩⟩⟩⟩⟩⟩⟩⟩
def lw_privs : List (MethodName × Nat) := lw_privs_1 ++ (lw_privs_2 ++ (lw_privs_3 ++ (lw_privs_4)))
def lw_tbl : List Cond := k2_sels lw_privs ++ tables_1
theorem lw_privs_ok : ∀ q ∈ lw_privs, lw_okq q := by
  show ∀ q ∈ lw_privs_1 ++ (lw_privs_2 ++ (lw_privs_3 ++ (lw_privs_4))), lw_okq q
  exact List.forall_mem_append.mpr ⟨lw_r1, List.forall_mem_append.mpr ⟨lw_r2, List.forall_mem_append.mpr ⟨lw_r3, lw_r4⟩⟩⟩
/-! ===== BEGIN printed: names, fields, word lists, decode rows ===== -/
def RX0 : String := "BackStairs$House"
def TX0 : u_T := fun k => match k with
  | 0 => ("BackStairs$House", "rooms", "I", false)
  | 1 => ("BackStairs$House", "doors", "I", false)
  | 2 => ("BackStairs$House", "guests", "I", false)
  | 3 => ("BackStairs$House", "open", "[I", true)
  | 4 => ("BackStairs$House", "back", "[I", true)
  | 5 => ("BackStairs$House", "paths", "[[I", true)
  | 6 => ("BackStairs$House", "guestWay", "[[I", true)
  | _ => ("BackStairs$House", "servantWay", "[[I", true)
def tyX0 : Nat → FieldType := fun k => match k with
  | 0 => .int
  | 1 => .int
  | 2 => .int
  | 3 => .array .int
  | 4 => .array .int
  | 5 => .array (.array .int)
  | 6 => .array (.array .int)
  | _ => .array (.array .int)
abbrev wsX00 : List Cond := u_ws RX0 TX0 8
theorem nmX0 : ∀ a, a < 8 → ∀ b, b < 8 → a ≠ b → (TX0 a).2.1 ≠ (TX0 b).2.1 := by decide +kernel
theorem tyX0_ok : ∀ k, k < 8 → parseFieldDescriptor (TX0 k).2.2.1 = some (tyX0 k) := by decide +kernel
abbrev cX0_init : ByteArray := prog_2_method_1_code
def yX0_init : MethodName := ⟨RX0, "<init>", "()V"⟩
abbrev cX0_hasRoom : ByteArray := prog_2_method_2_code
def yX0_hasRoom : MethodName := ⟨RX0, "hasRoom", "(I)Z"⟩
abbrev cX0_arePair : ByteArray := prog_2_method_3_code
def yX0_arePair : MethodName := ⟨RX0, "arePair", "(II)Z"⟩
abbrev cX0_doorKind : ByteArray := prog_2_method_4_code
def yX0_doorKind : MethodName := ⟨RX0, "doorKind", "(II)I"⟩
abbrev cX0_putDoor : ByteArray := prog_2_method_5_code
def yX0_putDoor : MethodName := ⟨RX0, "putDoor", "(III)V"⟩
abbrev cX0_takeDoor : ByteArray := prog_2_method_6_code
def yX0_takeDoor : MethodName := ⟨RX0, "takeDoor", "(II)V"⟩
abbrev cX0_isWalked : ByteArray := prog_2_method_7_code
def yX0_isWalked : MethodName := ⟨RX0, "isWalked", "(II)Z"⟩
abbrev cX0_around : ByteArray := prog_2_method_8_code
def yX0_around : MethodName := ⟨RX0, "around", "(IZ)I"⟩
abbrev cX0_measure : ByteArray := prog_2_method_9_code
def yX0_measure : MethodName := ⟨RX0, "measure", "()V"⟩
abbrev cX0_measureFrom : ByteArray := prog_2_method_10_code
def yX0_measureFrom : MethodName := ⟨RX0, "measureFrom", "(IZ[I)V"⟩
abbrev cX0_become : ByteArray := prog_2_method_11_code
def yX0_become : MethodName := ⟨RX0, "become", "(LBackStairs$House;)V"⟩
def RX1 : String := "BackStairs$Inquiry"
def TX1 : u_T := fun k => match k with
  | 0 => ("BackStairs$Inquiry", "house", "LBackStairs$House;", true)
  | 1 => ("BackStairs$Inquiry", "talk", "LBackStairs$Talk;", true)
  | _ => ("BackStairs$Inquiry", "pins", "[[I", true)
def tyX1 : Nat → FieldType := fun k => match k with
  | 0 => .object "BackStairs$House"
  | 1 => .object "BackStairs$Talk"
  | _ => .array (.array .int)
abbrev wsX10 : List Cond := u_ws RX1 TX1 3
theorem nmX1 : ∀ a, a < 3 → ∀ b, b < 3 → a ≠ b → (TX1 a).2.1 ≠ (TX1 b).2.1 := by decide +kernel
theorem tyX1_ok : ∀ k, k < 3 → parseFieldDescriptor (TX1 k).2.2.1 = some (tyX1 k) := by decide +kernel
abbrev cX1_init : ByteArray := prog_3_method_1_code
def yX1_init : MethodName := ⟨RX1, "<init>", "(LBackStairs$House;LBackStairs$Talk;)V"⟩
abbrev cX1_findLiars : ByteArray := prog_3_method_2_code
def yX1_findLiars : MethodName := ⟨RX1, "findLiars", "(I)I"⟩
abbrev cX1_haveWays : ByteArray := prog_3_method_3_code
def yX1_haveWays : MethodName := ⟨RX1, "haveWays", "(II)Z"⟩
abbrev cX1_pin : ByteArray := prog_3_method_4_code
def yX1_pin : MethodName := ⟨RX1, "pin", "(III)Z"⟩
abbrev cX1_wayOf : ByteArray := prog_3_method_5_code
def yX1_wayOf : MethodName := ⟨RX1, "wayOf", "(I)[[I"⟩
abbrev cX1_hasWay : ByteArray := prog_3_method_6_code
def yX1_hasWay : MethodName := ⟨RX1, "hasWay", "(I)Z"⟩
abbrev cX1_roomsOf : ByteArray := prog_3_method_7_code
def yX1_roomsOf : MethodName := ⟨RX1, "roomsOf", "(II)I"⟩
abbrev cX1_isSuspect : ByteArray := prog_3_method_8_code
def yX1_isSuspect : MethodName := ⟨RX1, "isSuspect", "(I)Z"⟩
abbrev cX1_othersMayBeElsewhere : ByteArray := prog_3_method_9_code
def yX1_othersMayBeElsewhere : MethodName := ⟨RX1, "othersMayBeElsewhere", "(II)Z"⟩
def RX2 : String := "BackStairs$Plan"
def TX2 : u_T := fun k => match k with
  | 0 => ("BackStairs$Plan", "sum", "I", false)
  | 1 => ("BackStairs$Plan", "order", "[I", true)
  | 2 => ("BackStairs$Plan", "servantOf", "[I", true)
  | 3 => ("BackStairs$Plan", "done", "[I", true)
  | _ => ("BackStairs$Plan", "taken", "[I", true)
def tyX2 : Nat → FieldType := fun k => match k with
  | 0 => .int
  | 1 => .array .int
  | 2 => .array .int
  | 3 => .array .int
  | _ => .array .int
abbrev wsX20 : List Cond := u_ws RX2 TX2 5
theorem nmX2 : ∀ a, a < 5 → ∀ b, b < 5 → a ≠ b → (TX2 a).2.1 ≠ (TX2 b).2.1 := by decide +kernel
theorem tyX2_ok : ∀ k, k < 5 → parseFieldDescriptor (TX2 k).2.2.1 = some (tyX2 k) := by decide +kernel
abbrev cX2_init : ByteArray := prog_4_method_1_code
def yX2_init : MethodName := ⟨RX2, "<init>", "()V"⟩
abbrev cX2_errandOf : ByteArray := prog_4_method_2_code
def yX2_errandOf : MethodName := ⟨RX2, "errandOf", "(III)I"⟩
def RX3 : String := "BackStairs$Planner"
def TX3 : u_T := fun k => match k with
  | 0 => ("BackStairs$Planner", "house", "LBackStairs$House;", true)
  | 1 => ("BackStairs$Planner", "staff", "LBackStairs$Staff;", true)
  | 2 => ("BackStairs$Planner", "trips", "LBackStairs$Trips;", true)
  | 3 => ("BackStairs$Planner", "fresh", "Z", false)
  | 4 => ("BackStairs$Planner", "best", "LBackStairs$Plan;", true)
  | 5 => ("BackStairs$Planner", "rule", "LBackStairs$Plan;", true)
  | 6 => ("BackStairs$Planner", "ends", "[[I", true)
  | 7 => ("BackStairs$Planner", "least", "[[I", true)
  | 8 => ("BackStairs$Planner", "shares", "[I", true)
  | 9 => ("BackStairs$Planner", "where", "[I", true)
  | 10 => ("BackStairs$Planner", "free", "[I", true)
  | _ => ("BackStairs$Planner", "leastSharing", "I", false)
def tyX3 : Nat → FieldType := fun k => match k with
  | 0 => .object "BackStairs$House"
  | 1 => .object "BackStairs$Staff"
  | 2 => .object "BackStairs$Trips"
  | 3 => .boolean
  | 4 => .object "BackStairs$Plan"
  | 5 => .object "BackStairs$Plan"
  | 6 => .array (.array .int)
  | 7 => .array (.array .int)
  | 8 => .array .int
  | 9 => .array .int
  | 10 => .array .int
  | _ => .int
abbrev wsX30 : List Cond := u_ws RX3 TX3 12
theorem nmX3 : ∀ a, a < 12 → ∀ b, b < 12 → a ≠ b → (TX3 a).2.1 ≠ (TX3 b).2.1 := by decide +kernel
theorem tyX3_ok : ∀ k, k < 12 → parseFieldDescriptor (TX3 k).2.2.1 = some (tyX3 k) := by decide +kernel
abbrev cX3_init : ByteArray := prog_5_method_1_code
def yX3_init : MethodName := ⟨RX3, "<init>", "(LBackStairs$House;LBackStairs$Staff;LBackStairs$Trips;)V"⟩
abbrev cX3_plan : ByteArray := prog_5_method_2_code
def yX3_plan : MethodName := ⟨RX3, "plan", "(I)LBackStairs$Plan;"⟩
abbrev cX3_prepare : ByteArray := prog_5_method_3_code
def yX3_prepare : MethodName := ⟨RX3, "prepare", "()V"⟩
abbrev cX3_fillEnds : ByteArray := prog_5_method_4_code
def yX3_fillEnds : MethodName := ⟨RX3, "fillEnds", "(I)V"⟩
abbrev cX3_takenAt : ByteArray := prog_5_method_5_code
def yX3_takenAt : MethodName := ⟨RX3, "takenAt", "(III)I"⟩
abbrev cX3_doneAt : ByteArray := prog_5_method_6_code
def yX3_doneAt : MethodName := ⟨RX3, "doneAt", "(III)I"⟩
abbrev cX3_firstOrder : ByteArray := prog_5_method_7_code
def yX3_firstOrder : MethodName := ⟨RX3, "firstOrder", "([I)V"⟩
abbrev cX3_nextOrder : ByteArray := prog_5_method_8_code
def yX3_nextOrder : MethodName := ⟨RX3, "nextOrder", "([I)Z"⟩
abbrev cX3_swap : ByteArray := prog_5_method_9_code
def yX3_swap : MethodName := ⟨RX3, "swap", "([III)V"⟩
abbrev cX3_fillLeast : ByteArray := prog_5_method_10_code
def yX3_fillLeast : MethodName := ⟨RX3, "fillLeast", "(I)V"⟩
abbrev cX3_leastWith : ByteArray := prog_5_method_11_code
def yX3_leastWith : MethodName := ⟨RX3, "leastWith", "(I)I"⟩
abbrev cX3_costOf : ByteArray := prog_5_method_12_code
def yX3_costOf : MethodName := ⟨RX3, "costOf", "(II)I"⟩
abbrev cX3_makeBest : ByteArray := prog_5_method_13_code
def yX3_makeBest : MethodName := ⟨RX3, "makeBest", "(I)V"⟩
abbrev cX3_allHome : ByteArray := prog_5_method_14_code
def yX3_allHome : MethodName := ⟨RX3, "allHome", "()V"⟩
abbrev cX3_follow : ByteArray := prog_5_method_15_code
def yX3_follow : MethodName := ⟨RX3, "follow", "(LBackStairs$Plan;)V"⟩
abbrev cX3_carryOut : ByteArray := prog_5_method_16_code
def yX3_carryOut : MethodName := ⟨RX3, "carryOut", "(LBackStairs$Plan;I)V"⟩
abbrev cX3_makeRule : ByteArray := prog_5_method_17_code
def yX3_makeRule : MethodName := ⟨RX3, "makeRule", "(I)V"⟩
abbrev cX3_isAhead : ByteArray := prog_5_method_18_code
def yX3_isAhead : MethodName := ⟨RX3, "isAhead", "(II)Z"⟩
abbrev cX3_soonestFor : ByteArray := prog_5_method_19_code
def yX3_soonestFor : MethodName := ⟨RX3, "soonestFor", "(II)I"⟩
abbrev cX3_fewest : ByteArray := prog_5_method_20_code
def yX3_fewest : MethodName := ⟨RX3, "fewest", "()I"⟩
def RX4 : String := "BackStairs$Sheets"
def TX4 : u_T := fun k => match k with
  | 0 => ("BackStairs$Sheets", "lanes", "[I", true)
  | 1 => ("BackStairs$Sheets", "sizes", "[I", true)
  | _ => ("BackStairs$Sheets", "rows", "[[I", true)
def tyX4 : Nat → FieldType := fun k => match k with
  | 0 => .array .int
  | 1 => .array .int
  | _ => .array (.array .int)
abbrev wsX40 : List Cond := u_ws RX4 TX4 3
theorem nmX4 : ∀ a, a < 3 → ∀ b, b < 3 → a ≠ b → (TX4 a).2.1 ≠ (TX4 b).2.1 := by decide +kernel
theorem tyX4_ok : ∀ k, k < 3 → parseFieldDescriptor (TX4 k).2.2.1 = some (tyX4 k) := by decide +kernel
abbrev cX4_init : ByteArray := prog_6_method_1_code
def yX4_init : MethodName := ⟨RX4, "<init>", "()V"⟩
abbrev cX4_isSheet : ByteArray := prog_6_method_2_code
def yX4_isSheet : MethodName := ⟨RX4, "isSheet", "(I)Z"⟩
abbrev cX4_isLane : ByteArray := prog_6_method_3_code
def yX4_isLane : MethodName := ⟨RX4, "isLane", "(I)Z"⟩
abbrev cX4_isNothing : ByteArray := prog_6_method_4_code
def yX4_isNothing : MethodName := ⟨RX4, "isNothing", "(I)Z"⟩
abbrev cX4_holds : ByteArray := prog_6_method_5_code
def yX4_holds : MethodName := ⟨RX4, "holds", "(III)Z"⟩
abbrev cX4_renew : ByteArray := prog_6_method_6_code
def yX4_renew : MethodName := ⟨RX4, "renew", "(III)V"⟩
abbrev cX4_makeNothing : ByteArray := prog_6_method_7_code
def yX4_makeNothing : MethodName := ⟨RX4, "makeNothing", "(I)V"⟩
abbrev cX4_put : ByteArray := prog_6_method_8_code
def yX4_put : MethodName := ⟨RX4, "put", "(III)V"⟩
def RX5 : String := "BackStairs$Staff"
def TX5 : u_T := fun k => match k with
  | 0 => ("BackStairs$Staff", "servants", "I", false)
  | 1 => ("BackStairs$Staff", "ill", "I", false)
  | 2 => ("BackStairs$Staff", "cellar", "I", false)
  | 3 => ("BackStairs$Staff", "errands", "I", false)
  | 4 => ("BackStairs$Staff", "starts", "[I", true)
  | 5 => ("BackStairs$Staff", "kinds", "[I", true)
  | 6 => ("BackStairs$Staff", "rooms", "[I", true)
  | 7 => ("BackStairs$Staff", "ranks", "[I", true)
  | 8 => ("BackStairs$Staff", "froms", "[I", true)
  | _ => ("BackStairs$Staff", "dues", "[I", true)
def tyX5 : Nat → FieldType := fun k => match k with
  | 0 => .int
  | 1 => .int
  | 2 => .int
  | 3 => .int
  | 4 => .array .int
  | 5 => .array .int
  | 6 => .array .int
  | 7 => .array .int
  | 8 => .array .int
  | _ => .array .int
abbrev wsX50 : List Cond := u_ws RX5 TX5 10
theorem nmX5 : ∀ a, a < 10 → ∀ b, b < 10 → a ≠ b → (TX5 a).2.1 ≠ (TX5 b).2.1 := by decide +kernel
theorem tyX5_ok : ∀ k, k < 10 → parseFieldDescriptor (TX5 k).2.2.1 = some (tyX5 k) := by decide +kernel
abbrev cX5_init : ByteArray := prog_7_method_1_code
def yX5_init : MethodName := ⟨RX5, "<init>", "()V"⟩
abbrev cX5_hasServant : ByteArray := prog_7_method_2_code
def yX5_hasServant : MethodName := ⟨RX5, "hasServant", "(I)Z"⟩
abbrev cX5_hasErrand : ByteArray := prog_7_method_3_code
def yX5_hasErrand : MethodName := ⟨RX5, "hasErrand", "(I)Z"⟩
abbrev cX5_well : ByteArray := prog_7_method_4_code
def yX5_well : MethodName := ⟨RX5, "well", "()I"⟩
abbrev cX5_addErrand : ByteArray := prog_7_method_5_code
def yX5_addErrand : MethodName := ⟨RX5, "addErrand", "(IIIII)V"⟩
abbrev cX5_removeErrand : ByteArray := prog_7_method_6_code
def yX5_removeErrand : MethodName := ⟨RX5, "removeErrand", "(I)V"⟩
abbrev cX5_asTold : ByteArray := prog_7_method_7_code
def yX5_asTold : MethodName := ⟨RX5, "asTold", "(II)I"⟩
abbrev cX5_weight : ByteArray := prog_7_method_8_code
def yX5_weight : MethodName := ⟨RX5, "weight", "(II)I"⟩
abbrev cX5_become : ByteArray := prog_7_method_9_code
def yX5_become : MethodName := ⟨RX5, "become", "(LBackStairs$Staff;)V"⟩
def RX6 : String := "BackStairs$Talk"
def TX6 : u_T := fun k => match k with
  | 0 => ("BackStairs$Talk", "folk", "I", false)
  | 1 => ("BackStairs$Talk", "sayings", "I", false)
  | 2 => ("BackStairs$Talk", "stolen", "Z", false)
  | 3 => ("BackStairs$Talk", "theftRoom", "I", false)
  | 4 => ("BackStairs$Talk", "theftFrom", "I", false)
  | 5 => ("BackStairs$Talk", "theftTo", "I", false)
  | 6 => ("BackStairs$Talk", "kinds", "[I", true)
  | 7 => ("BackStairs$Talk", "speakers", "[I", true)
  | 8 => ("BackStairs$Talk", "seen", "[I", true)
  | 9 => ("BackStairs$Talk", "rooms", "[I", true)
  | _ => ("BackStairs$Talk", "ticks", "[I", true)
def tyX6 : Nat → FieldType := fun k => match k with
  | 0 => .int
  | 1 => .int
  | 2 => .boolean
  | 3 => .int
  | 4 => .int
  | 5 => .int
  | 6 => .array .int
  | 7 => .array .int
  | 8 => .array .int
  | 9 => .array .int
  | _ => .array .int
abbrev wsX60 : List Cond := u_ws RX6 TX6 11
theorem nmX6 : ∀ a, a < 11 → ∀ b, b < 11 → a ≠ b → (TX6 a).2.1 ≠ (TX6 b).2.1 := by decide +kernel
theorem tyX6_ok : ∀ k, k < 11 → parseFieldDescriptor (TX6 k).2.2.1 = some (tyX6 k) := by decide +kernel
abbrev cX6_init : ByteArray := prog_8_method_1_code
def yX6_init : MethodName := ⟨RX6, "<init>", "()V"⟩
abbrev cX6_hasOne : ByteArray := prog_8_method_2_code
def yX6_hasOne : MethodName := ⟨RX6, "hasOne", "(I)Z"⟩
abbrev cX6_addSaying : ByteArray := prog_8_method_3_code
def yX6_addSaying : MethodName := ⟨RX6, "addSaying", "(IIII)V"⟩
abbrev cX6_removeSaying : ByteArray := prog_8_method_4_code
def yX6_removeSaying : MethodName := ⟨RX6, "removeSaying", "(I)V"⟩
abbrev cX6_become : ByteArray := prog_8_method_5_code
def yX6_become : MethodName := ⟨RX6, "become", "(LBackStairs$Talk;)V"⟩
def RX7 : String := "BackStairs$Tape"
def TX7 : u_T := fun k => match k with
  | 0 => ("BackStairs$Tape", "length", "I", false)
  | 1 => ("BackStairs$Tape", "bytes", "[I", true)
  | 2 => ("BackStairs$Tape", "next", "I", false)
  | _ => ("BackStairs$Tape", "place", "I", false)
def tyX7 : Nat → FieldType := fun k => match k with
  | 0 => .int
  | 1 => .array .int
  | 2 => .int
  | _ => .int
abbrev wsX70 : List Cond := u_ws RX7 TX7 4
theorem nmX7 : ∀ a, a < 4 → ∀ b, b < 4 → a ≠ b → (TX7 a).2.1 ≠ (TX7 b).2.1 := by decide +kernel
theorem tyX7_ok : ∀ k, k < 4 → parseFieldDescriptor (TX7 k).2.2.1 = some (tyX7 k) := by decide +kernel
abbrev cX7_init : ByteArray := prog_9_method_1_code
def yX7_init : MethodName := ⟨RX7, "<init>", "()V"⟩
abbrev cX7_add : ByteArray := prog_9_method_2_code
def yX7_add : MethodName := ⟨RX7, "add", "(JI)I"⟩
abbrev cX7_byteOf : ByteArray := prog_9_method_3_code
def yX7_byteOf : MethodName := ⟨RX7, "byteOf", "(JI)I"⟩
abbrev cX7_clear : ByteArray := prog_9_method_4_code
def yX7_clear : MethodName := ⟨RX7, "clear", "()V"⟩
abbrev cX7_readWalk : ByteArray := prog_9_method_5_code
def yX7_readWalk : MethodName := ⟨RX7, "readWalk", "(LBackStairs$House;[I)I"⟩
abbrev cX7_readSayings : ByteArray := prog_9_method_6_code
def yX7_readSayings : MethodName := ⟨RX7, "readSayings", "(II[[I)I"⟩
abbrev cX7_fault : ByteArray := prog_9_method_7_code
def yX7_fault : MethodName := ⟨RX7, "fault", "()I"⟩
abbrev cX7_peek : ByteArray := prog_9_method_8_code
def yX7_peek : MethodName := ⟨RX7, "peek", "()I"⟩
abbrev cX7_letter : ByteArray := prog_9_method_9_code
def yX7_letter : MethodName := ⟨RX7, "letter", "(I)I"⟩
abbrev cX7_number : ByteArray := prog_9_method_10_code
def yX7_number : MethodName := ⟨RX7, "number", "(II)I"⟩
def RX8 : String := "BackStairs$Trips"
def TX8 : u_T := fun k => match k with
  | 0 => ("BackStairs$Trips", "house", "LBackStairs$House;", true)
  | 1 => ("BackStairs$Trips", "fresh", "Z", false)
  | 2 => ("BackStairs$Trips", "guestsIn", "[I", true)
  | 3 => ("BackStairs$Trips", "carry", "[[I", true)
  | 4 => ("BackStairs$Trips", "reached", "[I", true)
  | _ => ("BackStairs$Trips", "useful", "[I", true)
def tyX8 : Nat → FieldType := fun k => match k with
  | 0 => .object "BackStairs$House"
  | 1 => .boolean
  | 2 => .array .int
  | 3 => .array (.array .int)
  | 4 => .array .int
  | _ => .array .int
abbrev wsX80 : List Cond := u_ws RX8 TX8 6
theorem nmX8 : ∀ a, a < 6 → ∀ b, b < 6 → a ≠ b → (TX8 a).2.1 ≠ (TX8 b).2.1 := by decide +kernel
theorem tyX8_ok : ∀ k, k < 6 → parseFieldDescriptor (TX8 k).2.2.1 = some (tyX8 k) := by decide +kernel
abbrev cX8_init : ByteArray := prog_10_method_1_code
def yX8_init : MethodName := ⟨RX8, "<init>", "(LBackStairs$House;)V"⟩
abbrev cX8_prepare : ByteArray := prog_10_method_2_code
def yX8_prepare : MethodName := ⟨RX8, "prepare", "()V"⟩
abbrev cX8_comersInto : ByteArray := prog_10_method_3_code
def yX8_comersInto : MethodName := ⟨RX8, "comersInto", "(II)I"⟩
abbrev cX8_mayBegin : ByteArray := prog_10_method_4_code
def yX8_mayBegin : MethodName := ⟨RX8, "mayBegin", "(IIZ)Z"⟩
abbrev cX8_step : ByteArray := prog_10_method_5_code
def yX8_step : MethodName := ⟨RX8, "step", "(IIZ)I"⟩
abbrev cX8_onward : ByteArray := prog_10_method_6_code
def yX8_onward : MethodName := ⟨RX8, "onward", "(IIZ)I"⟩
abbrev cX8_soonest : ByteArray := prog_10_method_7_code
def yX8_soonest : MethodName := ⟨RX8, "soonest", "(IIIZ)I"⟩
abbrev cX8_roomOnTrip : ByteArray := prog_10_method_8_code
def yX8_roomOnTrip : MethodName := ⟨RX8, "roomOnTrip", "(IIIZI)I"⟩
abbrev cX8_lowest : ByteArray := prog_10_method_9_code
def yX8_lowest : MethodName := ⟨RX8, "lowest", "(I)I"⟩
def RX9 : String := "BackStairs"
def TX9 : u_T := fun k => match k with
  | 0 => ("BackStairs", "house", "LBackStairs$House;", true)
  | 1 => ("BackStairs", "staff", "LBackStairs$Staff;", true)
  | 2 => ("BackStairs", "talk", "LBackStairs$Talk;", true)
  | 3 => ("BackStairs", "keptHouse", "LBackStairs$House;", true)
  | 4 => ("BackStairs", "keptStaff", "LBackStairs$Staff;", true)
  | 5 => ("BackStairs", "keptTalk", "LBackStairs$Talk;", true)
  | 6 => ("BackStairs", "kept", "Z", false)
  | 7 => ("BackStairs", "tape", "LBackStairs$Tape;", true)
  | 8 => ("BackStairs", "sheets", "LBackStairs$Sheets;", true)
  | 9 => ("BackStairs", "trips", "LBackStairs$Trips;", true)
  | 10 => ("BackStairs", "planner", "LBackStairs$Planner;", true)
  | 11 => ("BackStairs", "inquiry", "LBackStairs$Inquiry;", true)
  | 12 => ("BackStairs", "path", "[I", true)
  | _ => ("BackStairs", "clauses", "[[I", true)
def tyX9 : Nat → FieldType := fun k => match k with
  | 0 => .object "BackStairs$House"
  | 1 => .object "BackStairs$Staff"
  | 2 => .object "BackStairs$Talk"
  | 3 => .object "BackStairs$House"
  | 4 => .object "BackStairs$Staff"
  | 5 => .object "BackStairs$Talk"
  | 6 => .boolean
  | 7 => .object "BackStairs$Tape"
  | 8 => .object "BackStairs$Sheets"
  | 9 => .object "BackStairs$Trips"
  | 10 => .object "BackStairs$Planner"
  | 11 => .object "BackStairs$Inquiry"
  | 12 => .array .int
  | _ => .array (.array .int)
abbrev wsX90 : List Cond := u_ws RX9 TX9 14
theorem nmX9 : ∀ a, a < 14 → ∀ b, b < 14 → a ≠ b → (TX9 a).2.1 ≠ (TX9 b).2.1 := by decide +kernel
theorem tyX9_ok : ∀ k, k < 14 → parseFieldDescriptor (TX9 k).2.2.1 = some (tyX9 k) := by decide +kernel
abbrev cX9_init : ByteArray := prog_1_method_1_code
def yX9_init : MethodName := ⟨RX9, "<init>", "()V"⟩
abbrev cX9_room : ByteArray := prog_1_method_2_code
def yX9_room : MethodName := ⟨RX9, "room", "()I"⟩
abbrev cX9_door : ByteArray := prog_1_method_3_code
def yX9_door : MethodName := ⟨RX9, "door", "(III)I"⟩
abbrev cX9_wall : ByteArray := prog_1_method_4_code
def yX9_wall : MethodName := ⟨RX9, "wall", "(II)I"⟩
abbrev cX9_type : ByteArray := prog_1_method_5_code
def yX9_type : MethodName := ⟨RX9, "type", "(JI)I"⟩
abbrev cX9_walk : ByteArray := prog_1_method_6_code
def yX9_walk : MethodName := ⟨RX9, "walk", "()I"⟩
abbrev cX9_guest : ByteArray := prog_1_method_7_code
def yX9_guest : MethodName := ⟨RX9, "guest", "(II)I"⟩
abbrev cX9_trip : ByteArray := prog_1_method_8_code
def yX9_trip : MethodName := ⟨RX9, "trip", "(IIIZI)I"⟩
abbrev cX9_servant : ByteArray := prog_1_method_9_code
def yX9_servant : MethodName := ⟨RX9, "servant", "(I)I"⟩
abbrev cX9_ill : ByteArray := prog_1_method_10_code
def yX9_ill : MethodName := ⟨RX9, "ill", "(IZ)I"⟩
abbrev cX9_cellar : ByteArray := prog_1_method_11_code
def yX9_cellar : MethodName := ⟨RX9, "cellar", "(I)I"⟩
abbrev cX9_errand : ByteArray := prog_1_method_12_code
def yX9_errand : MethodName := ⟨RX9, "errand", "(IIIII)I"⟩
abbrev cX9_told : ByteArray := prog_1_method_13_code
def yX9_told : MethodName := ⟨RX9, "told", "(II)I"⟩
abbrev cX9_drop : ByteArray := prog_1_method_14_code
def yX9_drop : MethodName := ⟨RX9, "drop", "(I)I"⟩
abbrev cX9_cost : ByteArray := prog_1_method_15_code
def yX9_cost : MethodName := ⟨RX9, "cost", "(I)I"⟩
abbrev cX9_does : ByteArray := prog_1_method_16_code
def yX9_does : MethodName := ⟨RX9, "does", "(III)I"⟩
abbrev cX9_enough : ByteArray := prog_1_method_17_code
def yX9_enough : MethodName := ⟨RX9, "enough", "()I"⟩
abbrev cX9_missed : ByteArray := prog_1_method_18_code
def yX9_missed : MethodName := ⟨RX9, "missed", "(I)I"⟩
abbrev cX9_opened : ByteArray := prog_1_method_19_code
def yX9_opened : MethodName := ⟨RX9, "opened", "(II)I"⟩
abbrev cX9_folk : ByteArray := prog_1_method_20_code
def yX9_folk : MethodName := ⟨RX9, "folk", "(I)I"⟩
abbrev cX9_say : ByteArray := prog_1_method_21_code
def yX9_say : MethodName := ⟨RX9, "say", "(IIII)I"⟩
abbrev cX9_sayings : ByteArray := prog_1_method_22_code
def yX9_sayings : MethodName := ⟨RX9, "sayings", "()I"⟩
abbrev cX9_unsay : ByteArray := prog_1_method_23_code
def yX9_unsay : MethodName := ⟨RX9, "unsay", "(I)I"⟩
abbrev cX9_liars : ByteArray := prog_1_method_24_code
def yX9_liars : MethodName := ⟨RX9, "liars", "()I"⟩
abbrev cX9_maybe : ByteArray := prog_1_method_25_code
def yX9_maybe : MethodName := ⟨RX9, "maybe", "(II)I"⟩
abbrev cX9_theft : ByteArray := prog_1_method_26_code
def yX9_theft : MethodName := ⟨RX9, "theft", "(III)I"⟩
abbrev cX9_suspects : ByteArray := prog_1_method_27_code
def yX9_suspects : MethodName := ⟨RX9, "suspects", "()I"⟩
abbrev cX9_clears : ByteArray := prog_1_method_28_code
def yX9_clears : MethodName := ⟨RX9, "clears", "(I)I"⟩
abbrev cX9_count : ByteArray := prog_1_method_29_code
def yX9_count : MethodName := ⟨RX9, "count", "(I)I"⟩
abbrev cX9_image : ByteArray := prog_1_method_30_code
def yX9_image : MethodName := ⟨RX9, "image", "()I"⟩
abbrev cX9_restore : ByteArray := prog_1_method_31_code
def yX9_restore : MethodName := ⟨RX9, "restore", "()I"⟩
abbrev cX9_errands : ByteArray := prog_1_method_32_code
def yX9_errands : MethodName := ⟨RX9, "errands", "(IIII)I"⟩
abbrev cX9_sheet : ByteArray := prog_1_method_33_code
def yX9_sheet : MethodName := ⟨RX9, "sheet", "(III)I"⟩
abbrev cX9_empty : ByteArray := prog_1_method_34_code
def yX9_empty : MethodName := ⟨RX9, "empty", "(I)I"⟩
abbrev cX9_item : ByteArray := prog_1_method_35_code
def yX9_item : MethodName := ⟨RX9, "item", "(IIII)I"⟩
abbrev cX9_copy : ByteArray := prog_1_method_36_code
def yX9_copy : MethodName := ⟨RX9, "copy", "(IIIII)I"⟩
abbrev cX9_isTick : ByteArray := prog_1_method_37_code
def yX9_isTick : MethodName := ⟨RX9, "isTick", "(I)Z"⟩
abbrev cX9_isErrand : ByteArray := prog_1_method_38_code
def yX9_isErrand : MethodName := ⟨RX9, "isErrand", "(IIIII)Z"⟩
abbrev cX9_doorsChanged : ByteArray := prog_1_method_39_code
def yX9_doorsChanged : MethodName := ⟨RX9, "doorsChanged", "()V"⟩
abbrev cX9_plansChanged : ByteArray := prog_1_method_40_code
def yX9_plansChanged : MethodName := ⟨RX9, "plansChanged", "()V"⟩
def RX10 : String := "BackStairsModel"
def TX10 : u_T := fun k => match k with
  | 0 => ("BackStairsModel", "rooms", "I", false)
  | 1 => ("BackStairsModel", "doors", "I", false)
  | 2 => ("BackStairsModel", "doorKind", "[I", true)
  | 3 => ("BackStairsModel", "guests", "I", false)
  | 4 => ("BackStairsModel", "guestAt", "[I", true)
  | 5 => ("BackStairsModel", "cellar", "I", false)
  | 6 => ("BackStairsModel", "tape", "[I", true)
  | 7 => ("BackStairsModel", "taped", "I", false)
  | 8 => ("BackStairsModel", "at", "I", false)
  | 9 => ("BackStairsModel", "wrong", "Z", false)
  | 10 => ("BackStairsModel", "walked", "[I", true)
  | 11 => ("BackStairsModel", "can", "[I", true)
  | 12 => ("BackStairsModel", "ends", "[I", true)
  | 13 => ("BackStairsModel", "laid", "Z", false)
  | 14 => ("BackStairsModel", "servants", "I", false)
  | 15 => ("BackStairsModel", "beginsIn", "[I", true)
  | 16 => ("BackStairsModel", "isIll", "[I", true)
  | 17 => ("BackStairsModel", "errandMany", "I", false)
  | 18 => ("BackStairsModel", "parts", "[I", true)
  | 19 => ("BackStairsModel", "where", "[I", true)
  | 20 => ("BackStairsModel", "free", "[I", true)
  | 21 => ("BackStairsModel", "done", "[I", true)
  | 22 => ("BackStairsModel", "taken", "[I", true)
  | 23 => ("BackStairsModel", "takes", "I", false)
  | 24 => ("BackStairsModel", "bestBy", "[I", true)
  | 25 => ("BackStairsModel", "bestRow", "[I", true)
  | 26 => ("BackStairsModel", "by", "[I", true)
  | 27 => ("BackStairsModel", "row", "[I", true)
  | 28 => ("BackStairsModel", "folkMany", "I", false)
  | 29 => ("BackStairsModel", "folkKind", "[I", true)
  | 30 => ("BackStairsModel", "said", "I", false)
  | 31 => ("BackStairsModel", "sayingParts", "[I", true)
  | 32 => ("BackStairsModel", "theftRoom", "I", false)
  | 33 => ("BackStairsModel", "theftFrom", "I", false)
  | 34 => ("BackStairsModel", "theftTo", "I", false)
  | 35 => ("BackStairsModel", "read", "[I", true)
  | 36 => ("BackStairsModel", "ways", "[I", true)
  | 37 => ("BackStairsModel", "near", "[I", true)
  | 38 => ("BackStairsModel", "image", "[I", true)
  | 39 => ("BackStairsModel", "kept", "Z", false)
  | 40 => ("BackStairsModel", "lanes", "[I", true)
  | 41 => ("BackStairsModel", "sizes", "[I", true)
  | 42 => ("BackStairsModel", "items", "[I", true)
  | _ => ("BackStairsModel", "moved", "[I", true)
def tyX10 : Nat → FieldType := fun k => match k with
  | 0 => .int
  | 1 => .int
  | 2 => .array .int
  | 3 => .int
  | 4 => .array .int
  | 5 => .int
  | 6 => .array .int
  | 7 => .int
  | 8 => .int
  | 9 => .boolean
  | 10 => .array .int
  | 11 => .array .int
  | 12 => .array .int
  | 13 => .boolean
  | 14 => .int
  | 15 => .array .int
  | 16 => .array .int
  | 17 => .int
  | 18 => .array .int
  | 19 => .array .int
  | 20 => .array .int
  | 21 => .array .int
  | 22 => .array .int
  | 23 => .int
  | 24 => .array .int
  | 25 => .array .int
  | 26 => .array .int
  | 27 => .array .int
  | 28 => .int
  | 29 => .array .int
  | 30 => .int
  | 31 => .array .int
  | 32 => .int
  | 33 => .int
  | 34 => .int
  | 35 => .array .int
  | 36 => .array .int
  | 37 => .array .int
  | 38 => .array .int
  | 39 => .boolean
  | 40 => .array .int
  | 41 => .array .int
  | 42 => .array .int
  | _ => .array .int
abbrev wsX100 : List Cond := u_ws RX10 TX10 44
theorem nmX10 : ∀ a, a < 44 → ∀ b, b < 44 → a ≠ b → (TX10 a).2.1 ≠ (TX10 b).2.1 := by decide +kernel
theorem tyX10_ok : ∀ k, k < 44 → parseFieldDescriptor (TX10 k).2.2.1 = some (tyX10 k) := by decide +kernel
abbrev cX10_in : ByteArray := prog_12_method_2_code
def yX10_in : MethodName := ⟨RX10, "in", "(JJJ)Z"⟩
abbrev cX10_init : ByteArray := prog_12_method_3_code
def yX10_init : MethodName := ⟨RX10, "<init>", "()V"⟩
abbrev cX10_isRoom : ByteArray := prog_12_method_4_code
def yX10_isRoom : MethodName := ⟨RX10, "isRoom", "(I)Z"⟩
abbrev cX10_isTick : ByteArray := prog_12_method_5_code
def yX10_isTick : MethodName := ⟨RX10, "isTick", "(I)Z"⟩
abbrev cX10_room : ByteArray := prog_12_method_6_code
def yX10_room : MethodName := ⟨RX10, "room", "()I"⟩
abbrev cX10_doorIs : ByteArray := prog_12_method_7_code
def yX10_doorIs : MethodName := ⟨RX10, "doorIs", "(III)V"⟩
abbrev cX10_door : ByteArray := prog_12_method_8_code
def yX10_door : MethodName := ⟨RX10, "door", "(III)I"⟩
abbrev cX10_isWalked : ByteArray := prog_12_method_9_code
def yX10_isWalked : MethodName := ⟨RX10, "isWalked", "(II)Z"⟩
abbrev cX10_wall : ByteArray := prog_12_method_10_code
def yX10_wall : MethodName := ⟨RX10, "wall", "(II)I"⟩
abbrev cX10_type : ByteArray := prog_12_method_11_code
def yX10_type : MethodName := ⟨RX10, "type", "(JI)I"⟩
abbrev cX10_here : ByteArray := prog_12_method_12_code
def yX10_here : MethodName := ⟨RX10, "here", "()I"⟩
abbrev cX10_letter : ByteArray := prog_12_method_13_code
def yX10_letter : MethodName := ⟨RX10, "letter", "(I)I"⟩
abbrev cX10_number : ByteArray := prog_12_method_14_code
def yX10_number : MethodName := ⟨RX10, "number", "(II)I"⟩
abbrev cX10_walks : ByteArray := prog_12_method_15_code
def yX10_walks : MethodName := ⟨RX10, "walks", "()V"⟩
abbrev cX10_walk : ByteArray := prog_12_method_16_code
def yX10_walk : MethodName := ⟨RX10, "walk", "()I"⟩
abbrev cX10_guest : ByteArray := prog_12_method_17_code
def yX10_guest : MethodName := ⟨RX10, "guest", "(II)I"⟩
abbrev cX10_isMet : ByteArray := prog_12_method_18_code
def yX10_isMet : MethodName := ⟨RX10, "isMet", "(II)Z"⟩
abbrev cX10_may : ByteArray := prog_12_method_19_code
def yX10_may : MethodName := ⟨RX10, "may", "(IIIZ)Z"⟩
abbrev cX10_reaches : ByteArray := prog_12_method_20_code
def yX10_reaches : MethodName := ⟨RX10, "reaches", "(IIZ)V"⟩
abbrev cX10_lays : ByteArray := prog_12_method_21_code
def yX10_lays : MethodName := ⟨RX10, "lays", "()V"⟩
abbrev cX10_endOf : ByteArray := prog_12_method_22_code
def yX10_endOf : MethodName := ⟨RX10, "endOf", "(IIIZ)I"⟩
abbrev cX10_trip : ByteArray := prog_12_method_23_code
def yX10_trip : MethodName := ⟨RX10, "trip", "(IIIZI)I"⟩
abbrev cX10_servant : ByteArray := prog_12_method_24_code
def yX10_servant : MethodName := ⟨RX10, "servant", "(I)I"⟩
abbrev cX10_ill : ByteArray := prog_12_method_25_code
def yX10_ill : MethodName := ⟨RX10, "ill", "(IZ)I"⟩
abbrev cX10_cellar : ByteArray := prog_12_method_26_code
def yX10_cellar : MethodName := ⟨RX10, "cellar", "(I)I"⟩
abbrev cX10_isErrand : ByteArray := prog_12_method_27_code
def yX10_isErrand : MethodName := ⟨RX10, "isErrand", "(IIIII)Z"⟩
abbrev cX10_puts : ByteArray := prog_12_method_28_code
def yX10_puts : MethodName := ⟨RX10, "puts", "(IIIII)V"⟩
abbrev cX10_errand : ByteArray := prog_12_method_29_code
def yX10_errand : MethodName := ⟨RX10, "errand", "(IIIII)I"⟩
abbrev cX10_errands : ByteArray := prog_12_method_30_code
def yX10_errands : MethodName := ⟨RX10, "errands", "(IIII)I"⟩
abbrev cX10_drop : ByteArray := prog_12_method_31_code
def yX10_drop : MethodName := ⟨RX10, "drop", "(I)I"⟩
abbrev cX10_wakes : ByteArray := prog_12_method_32_code
def yX10_wakes : MethodName := ⟨RX10, "wakes", "()V"⟩
abbrev cX10_wouldBe : ByteArray := prog_12_method_33_code
def yX10_wouldBe : MethodName := ⟨RX10, "wouldBe", "(II)I"⟩
abbrev cX10_doIt : ByteArray := prog_12_method_34_code
def yX10_doIt : MethodName := ⟨RX10, "doIt", "(II)V"⟩
abbrev cX10_costOf : ByteArray := prog_12_method_35_code
def yX10_costOf : MethodName := ⟨RX10, "costOf", "(I)I"⟩
abbrev cX10_well : ByteArray := prog_12_method_36_code
def yX10_well : MethodName := ⟨RX10, "well", "()I"⟩
abbrev cX10_size : ByteArray := prog_12_method_37_code
def yX10_size : MethodName := ⟨RX10, "size", "(I)I"⟩
abbrev cX10_sumOf : ByteArray := prog_12_method_38_code
def yX10_sumOf : MethodName := ⟨RX10, "sumOf", "()I"⟩
abbrev cX10_rows : ByteArray := prog_12_method_39_code
def yX10_rows : MethodName := ⟨RX10, "rows", "(I)V"⟩
abbrev cX10_best : ByteArray := prog_12_method_40_code
def yX10_best : MethodName := ⟨RX10, "best", "(I)I"⟩
abbrev cX10_keeps : ByteArray := prog_12_method_41_code
def yX10_keeps : MethodName := ⟨RX10, "keeps", "()V"⟩
abbrev cX10_ruled : ByteArray := prog_12_method_42_code
def yX10_ruled : MethodName := ⟨RX10, "ruled", "()I"⟩
abbrev cX10_bestDone : ByteArray := prog_12_method_43_code
def yX10_bestDone : MethodName := ⟨RX10, "bestDone", "()I"⟩
abbrev cX10_told : ByteArray := prog_12_method_44_code
def yX10_told : MethodName := ⟨RX10, "told", "(II)I"⟩
abbrev cX10_cost : ByteArray := prog_12_method_45_code
def yX10_cost : MethodName := ⟨RX10, "cost", "(I)I"⟩
abbrev cX10_does : ByteArray := prog_12_method_46_code
def yX10_does : MethodName := ⟨RX10, "does", "(III)I"⟩
abbrev cX10_enough : ByteArray := prog_12_method_47_code
def yX10_enough : MethodName := ⟨RX10, "enough", "()I"⟩
abbrev cX10_missed : ByteArray := prog_12_method_48_code
def yX10_missed : MethodName := ⟨RX10, "missed", "(I)I"⟩
abbrev cX10_opened : ByteArray := prog_12_method_49_code
def yX10_opened : MethodName := ⟨RX10, "opened", "(II)I"⟩
abbrev cX10_isOne : ByteArray := prog_12_method_50_code
def yX10_isOne : MethodName := ⟨RX10, "isOne", "(I)Z"⟩
abbrev cX10_folk : ByteArray := prog_12_method_51_code
def yX10_folk : MethodName := ⟨RX10, "folk", "(I)I"⟩
abbrev cX10_say : ByteArray := prog_12_method_52_code
def yX10_say : MethodName := ⟨RX10, "say", "(IIII)I"⟩
abbrev cX10_sayings : ByteArray := prog_12_method_53_code
def yX10_sayings : MethodName := ⟨RX10, "sayings", "()I"⟩
abbrev cX10_unsay : ByteArray := prog_12_method_54_code
def yX10_unsay : MethodName := ⟨RX10, "unsay", "(I)I"⟩
abbrev cX10_goes : ByteArray := prog_12_method_55_code
def yX10_goes : MethodName := ⟨RX10, "goes", "(III)Z"⟩
abbrev cX10_around : ByteArray := prog_12_method_56_code
def yX10_around : MethodName := ⟨RX10, "around", "(II)I"⟩
abbrev cX10_liarsBut : ByteArray := prog_12_method_57_code
def yX10_liarsBut : MethodName := ⟨RX10, "liarsBut", "(I)I"⟩
abbrev cX10_liars : ByteArray := prog_12_method_58_code
def yX10_liars : MethodName := ⟨RX10, "liars", "()I"⟩
abbrev cX10_maybe : ByteArray := prog_12_method_59_code
def yX10_maybe : MethodName := ⟨RX10, "maybe", "(II)I"⟩
abbrev cX10_theft : ByteArray := prog_12_method_60_code
def yX10_theft : MethodName := ⟨RX10, "theft", "(III)I"⟩
abbrev cX10_suspectsBut : ByteArray := prog_12_method_61_code
def yX10_suspectsBut : MethodName := ⟨RX10, "suspectsBut", "(I)I"⟩
abbrev cX10_suspects : ByteArray := prog_12_method_62_code
def yX10_suspects : MethodName := ⟨RX10, "suspects", "()I"⟩
abbrev cX10_clears : ByteArray := prog_12_method_63_code
def yX10_clears : MethodName := ⟨RX10, "clears", "(I)I"⟩
abbrev cX10_count : ByteArray := prog_12_method_64_code
def yX10_count : MethodName := ⟨RX10, "count", "(I)I"⟩
abbrev cX10_saves : ByteArray := prog_12_method_65_code
def yX10_saves : MethodName := ⟨RX10, "saves", "([I[II)I"⟩
abbrev cX10_gives : ByteArray := prog_12_method_66_code
def yX10_gives : MethodName := ⟨RX10, "gives", "([II[I)I"⟩
abbrev cX10_image : ByteArray := prog_12_method_67_code
def yX10_image : MethodName := ⟨RX10, "image", "()I"⟩
abbrev cX10_restore : ByteArray := prog_12_method_68_code
def yX10_restore : MethodName := ⟨RX10, "restore", "()I"⟩
abbrev cX10_isSheet : ByteArray := prog_12_method_69_code
def yX10_isSheet : MethodName := ⟨RX10, "isSheet", "(I)Z"⟩
abbrev cX10_isLane : ByteArray := prog_12_method_70_code
def yX10_isLane : MethodName := ⟨RX10, "isLane", "(I)Z"⟩
abbrev cX10_finds : ByteArray := prog_12_method_71_code
def yX10_finds : MethodName := ⟨RX10, "finds", "(IIII)I"⟩
abbrev cX10_sheet : ByteArray := prog_12_method_72_code
def yX10_sheet : MethodName := ⟨RX10, "sheet", "(III)I"⟩
abbrev cX10_empty : ByteArray := prog_12_method_73_code
def yX10_empty : MethodName := ⟨RX10, "empty", "(I)I"⟩
abbrev cX10_item : ByteArray := prog_12_method_74_code
def yX10_item : MethodName := ⟨RX10, "item", "(IIII)I"⟩
abbrev cX10_copy : ByteArray := prog_12_method_75_code
def yX10_copy : MethodName := ⟨RX10, "copy", "(IIIII)I"⟩
def RJ6 : String := "java/lang/Integer"
def TJ6 : u_T := fun k => match k with
  | _ => ("", "", "", false)
def tyJ6 : Nat → FieldType := fun k => match k with
  | _ => .int
abbrev wsJ60 : List Cond := u_ws RJ6 TJ6 0
theorem nmJ6 : ∀ a, a < 0 → ∀ b, b < 0 → a ≠ b → (TJ6 a).2.1 ≠ (TJ6 b).2.1 := by decide +kernel
theorem tyJ6_ok : ∀ k, k < 0 → parseFieldDescriptor (TJ6 k).2.2.1 = some (tyJ6 k) := by decide +kernel
abbrev cJ6_bitCount_0f7a4 : ByteArray := prog_13_method_49_code
def yJ6_bitCount_0f7a4 : MethodName := ⟨RJ6, "bitCount", "(I)I"⟩
def RJ9 : String := "java/lang/Math"
def TJ9 : u_T := fun k => match k with
  | _ => ("", "", "", false)
def tyJ9 : Nat → FieldType := fun k => match k with
  | _ => .int
abbrev wsJ90 : List Cond := u_ws RJ9 TJ9 0
theorem nmJ9 : ∀ a, a < 0 → ∀ b, b < 0 → a ≠ b → (TJ9 a).2.1 ≠ (TJ9 b).2.1 := by decide +kernel
theorem tyJ9_ok : ∀ k, k < 0 → parseFieldDescriptor (TJ9 k).2.2.1 = some (tyJ9 k) := by decide +kernel
abbrev cJ9_max_7cf53 : ByteArray := prog_14_method_65_code
def yJ9_max_7cf53 : MethodName := ⟨RJ9, "max", "(II)I"⟩
abbrev cJ9_min_7cf53 : ByteArray := prog_14_method_69_code
def yJ9_min_7cf53 : MethodName := ⟨RJ9, "min", "(II)I"⟩
def RJ10 : String := "java/lang/System"
def TJ10 : u_T := fun k => match k with
  | _ => ("", "", "", false)
def tyJ10 : Nat → FieldType := fun k => match k with
  | _ => .int
abbrev wsJ100 : List Cond := u_ws RJ10 TJ10 0
theorem nmJ10 : ∀ a, a < 0 → ∀ b, b < 0 → a ≠ b → (TJ10 a).2.1 ≠ (TJ10 b).2.1 := by decide +kernel
theorem tyJ10_ok : ∀ k, k < 0 → parseFieldDescriptor (TJ10 k).2.2.1 = some (tyJ10 k) := by decide +kernel
def RJ7 : String := "java/util/Arrays"
def TJ7 : u_T := fun k => match k with
  | _ => ("", "", "", false)
def tyJ7 : Nat → FieldType := fun k => match k with
  | _ => .int
abbrev wsJ70 : List Cond := u_ws RJ7 TJ7 0
theorem nmJ7 : ∀ a, a < 0 → ∀ b, b < 0 → a ≠ b → (TJ7 a).2.1 ≠ (TJ7 b).2.1 := by decide +kernel
theorem tyJ7_ok : ∀ k, k < 0 → parseFieldDescriptor (TJ7 k).2.2.1 = some (tyJ7 k) := by decide +kernel
abbrev cJ7_rangeCheck_23922 : ByteArray := prog_16_method_30_code
def yJ7_rangeCheck_23922 : MethodName := ⟨RJ7, "rangeCheck", "(III)V"⟩
abbrev cJ7_fill_53178 : ByteArray := prog_16_method_103_code
def yJ7_fill_53178 : MethodName := ⟨RJ7, "fill", "([II)V"⟩
abbrev cJ7_fill_fda19 : ByteArray := prog_16_method_104_code
def yJ7_fill_fda19 : MethodName := ⟨RJ7, "fill", "([IIII)V"⟩
def RL : String := "BackStairsLaw"
abbrev cL_law : ByteArray := code
def yL_law : MethodName := ⟨RL, "law", "([I)Z"⟩
abbrev vwCl : List vw_C := [(RX0, TX0, 8), (RX1, TX1, 3), (RX2, TX2, 5), (RX3, TX3, 12), (RX4, TX4, 3), (RX5, TX5, 10), (RX6, TX6, 11), (RX7, TX7, 4), (RX8, TX8, 6), (RX9, TX9, 14), (RX10, TX10, 44)]
end
section
/-! The words that every method takes: those of the tables that stay -/
def tb : List Cond := lw_tbl.filter goodWord
theorem tb_good : GoodIn tb tb := fun _ h => ⟨h, good_of_word (List.mem_filter.mp h).2⟩
theorem tb_in {w : Cond} (i : Nat) (h : lw_tbl[i]? = some w) (hg : goodWord w = true) : w ∈ tb := List.mem_filter.mpr ⟨List.mem_of_getElem? h, hg⟩
theorem tb_of {args : Array Value} {s : State} (h : ∀ w ∈ lw_tbl, w.before args s = true) : ∀ w ∈ tb, w.before args s = true := fun w hw => h w (List.mem_filter.mp hw).1
/-! A method: its name, its bytes, its locals, what it answers. A world: how many cells, the kind of each, the references, the numbers. -/
abbrev MD : Type := MethodName × ByteArray × Nat × Option FieldType
abbrev Kd : Type := Nat ⊕ Nat ⊕ Nat
abbrev Mem : Type := Nat → Nat → Int32
abbrev Wd : Type := Nat × (Nat → Kd) × (Nat → Nat → Option Nat) × Mem
abbrev Dg : Type := va_G × ClassId × ClassId
/-- by class: which fields are references -/
def cfl : Nat → List Bool := fun k => match k with
  | 0 => [false, false, false, true, true, true, true, true]
  | 1 => [true, true, true]
  | 2 => [false, true, true, true, true]
  | 3 => [true, true, true, false, true, true, true, true, true, true, true, false]
  | 4 => [true, true, true]
  | 5 => [false, false, false, false, true, true, true, true, true, true]
  | 6 => [false, false, false, false, false, false, true, true, true, true, true]
  | 7 => [false, true, false, false]
  | 8 => [true, false, true, true, true, true]
  | 9 => [true, true, true, true, true, true, false, true, true, true, true, true, true, true]
  | 10 => [false, false, true, false, true, false, true, false, false, false, true, true, true, false, false, true, true, false, true, true, true, true, true, false, true, true, true, true, false, true, false, true, false, false, false, true, true, true, true, false, true, true, true, true]
  | _ => []
def rf (B : Nat) (r : Option Nat) : Value := va_rf (r.map fun c => B + c)
def rv (B : Nat) : Value → Value
  | .ref c => .ref (B + c)
  | v => v
def wF (B : Nat) (w : Wd) (c : Nat) : Nat → List Bool → List Value
  | _, [] => []
  | k, b :: bs => (if b then rf B (w.2.2.1 c k) else .int (w.2.2.2 c k)) :: wF B w c (k + 1) bs
def wE (G : Dg) (B : Nat) (w : Wd) (c : Nat) : va_E := match w.2.1 c with
  | .inl ci => .inr (ci, wF B w c 0 (cfl ci))
  | .inr (.inl n) => .inl (G.2.1, n, .inl (w.2.2.2 c))
  | .inr (.inr n) => .inl (G.2.2, n, .inr (.inr (.inr (.inr (fun j => (w.2.2.1 c j).map fun q => B + q)))))
def wl (G : Dg) (B : Nat) (w : Wd) : va_W := (List.range w.1).map fun c => (B + c, wE G B w c)
def Fr (B : Nat) : Nat → Prop := fun q => B ≤ q
def Rp (G : Dg) (B : Nat) (w : Wd) (H : Heap) : Prop := va_P G.1 vwCl (wl G B w) H ∧ H.size = B + w.1
def KK (G : Dg) (U : State) : Prop := va_K G.1 vwCl [(G.2.1, .int), (G.2.2, .array .int)] U
theorem KK.moved {G : Dg} {u U : State} (h : u.vm.Alike U.vm) (k : KK G u) : KK G U := va_K.moved h k
theorem wl_get {G : Dg} {B : Nat} {w : Wd} {c : Nat} (h : c < w.1) : (wl G B w)[c]? = some (B + c, wE G B w c) := by
  unfold wl
  rw [List.getElem?_map, List.getElem?_range h]
  rfl
theorem wl_len {G : Dg} {B : Nat} {w : Wd} : (wl G B w).length = w.1 := by simp [wl]
theorem wl_D {G : Dg} {B : Nat} {w : Wd} : va_D (Fr B) (wl G B w) := by
  have key : ∀ (i : Nat) (p : Nat × va_E), (wl G B w)[i]? = some p → p.1 = B + i := by
    intro i p h
    have hi : i < w.1 := by
      have := (List.getElem?_eq_some_iff.mp h).1
      rwa [wl_len] at this
    rw [wl_get hi] at h
    cases h
    rfl
  refine ⟨fun i j p q hi hj hpq => ?_, fun k q hk => ?_⟩
  · have h1 := key i p hi
    have h2 := key j q hj
    omega
  · have h1 := key k q hk
    show B ≤ q.1
    omega
theorem wl_set {G : Dg} {B : Nat} {w w' : Wd} {c : Nat} {e : va_E} (h1 : w'.1 = w.1) (h2 : ∀ c', c' ≠ c → wE G B w' c' = wE G B w c') (h3 : wE G B w' c = e) : (wl G B w).set c (B + c, e) = wl G B w' := by
  apply List.ext_getElem?
  intro i
  rw [List.getElem?_set]
  by_cases hi : i < w.1
  · rw [wl_get (show i < w'.1 by omega), wl_len]
    by_cases hc : c = i
    · subst hc
      rw [if_pos rfl, if_pos hi, h3]
    · rw [if_neg hc, wl_get hi, h2 i (fun q => hc q.symm)]
  · have e1 : (wl G B w')[i]? = none := by simp [wl]; omega
    have e2 : (wl G B w)[i]? = none := by simp [wl]; omega
    rw [e1, wl_len, e2]
    by_cases hc : c = i
    · rw [if_pos hc, if_neg (by omega)]
    · rw [if_neg hc]
theorem wF_get {B : Nat} {w : Wd} {c : Nat} (bs : List Bool) : ∀ (k j : Nat), (wF B w c k bs)[j]? = bs[j]?.map fun b => if b then rf B (w.2.2.1 c (k + j)) else .int (w.2.2.2 c (k + j)) := by
  induction bs with
  | nil => intro k j; simp [wF]
  | cons b bs ih =>
    intro k j
    cases j with
    | zero => simp [wF]
    | succ j =>
      simp only [wF, List.getElem?_cons_succ]
      rw [ih (k + 1) j]
      rw [show k + 1 + j = k + (j + 1) by omega]
theorem wF_len {B : Nat} {w : Wd} {c : Nat} (bs : List Bool) : ∀ k : Nat, (wF B w c k bs).length = bs.length := by
  induction bs with
  | nil => intro k; rfl
  | cons b bs ih => intro k; simp [wF, ih]
theorem wF_eq {B : Nat} {w w' : Wd} {c : Nat} {bs : List Bool} {k : Nat} (h : ∀ j, j < bs.length → w'.2.2.1 c (k + j) = w.2.2.1 c (k + j) ∧ w'.2.2.2 c (k + j) = w.2.2.2 c (k + j)) : wF B w' c k bs = wF B w c k bs := by
  apply List.ext_getElem?
  intro i
  rw [wF_get, wF_get]
  cases hb : bs[i]? with
  | none => rfl
  | some b =>
    obtain ⟨h1, h2⟩ := h i (List.getElem?_eq_some_iff.mp hb).1
    rw [h1, h2]
def wr (M : Mem) (c k : Nat) (v : Int32) : Mem := fun c' k' => if c' = c ∧ k' = k then v else M c' k'
def wrR (R : Nat → Nat → Option Nat) (c k : Nat) (v : Option Nat) : Nat → Nat → Option Nat := fun c' k' => if c' = c ∧ k' = k then v else R c' k'
theorem wr_eq (M : Mem) (c k : Nat) (v : Int32) : wr M c k v c k = v := by simp [wr]
theorem wr_nc (M : Mem) {c c' : Nat} (k k' : Nat) (v : Int32) (h : c' ≠ c) : wr M c k v c' k' = M c' k' := by simp [wr, h]
theorem wr_nk (M : Mem) (c c' : Nat) {k k' : Nat} (v : Int32) (h : k' ≠ k) : wr M c k v c' k' = M c' k' := by simp [wr, h]
abbrev wPut (w : Wd) (c k : Nat) (v : Int32) : Wd := (w.1, w.2.1, w.2.2.1, wr w.2.2.2 c k v)
abbrev wPutR (w : Wd) (c k : Nat) (v : Option Nat) : Wd := (w.1, w.2.1, wrR w.2.2.1 c k v, w.2.2.2)
theorem wE_put_ne {G : Dg} {B : Nat} {w : Wd} {c k : Nat} {v : Int32} (c' : Nat) (h : c' ≠ c) : wE G B (wPut w c k v) c' = wE G B w c' := by
  have e : (wPut w c k v).2.2.2 c' = w.2.2.2 c' := funext fun j => wr_nc _ _ _ _ h
  unfold wE
  show (match w.2.1 c' with | .inl ci => _ | .inr (.inl n) => _ | .inr (.inr n) => _) = _
  cases w.2.1 c' with
  | inl ci => exact congrArg (fun x => Sum.inr (ci, x)) (wF_eq (fun j _ => ⟨rfl, congrFun e _⟩))
  | inr x =>
    cases x with
    | inl n => show (Sum.inl _ : va_E) = Sum.inl _; rw [e]
    | inr n => rfl
theorem wE_putR_ne {G : Dg} {B : Nat} {w : Wd} {c k : Nat} {v : Option Nat} (c' : Nat) (h : c' ≠ c) : wE G B (wPutR w c k v) c' = wE G B w c' := by
  have e : (wPutR w c k v).2.2.1 c' = w.2.2.1 c' := funext fun j => by simp [wrR, h]
  unfold wE
  show (match w.2.1 c' with | .inl ci => _ | .inr (.inl n) => _ | .inr (.inr n) => _) = _
  cases w.2.1 c' with
  | inl ci => exact congrArg (fun x => Sum.inr (ci, x)) (wF_eq (fun j _ => ⟨congrFun e _, rfl⟩))
  | inr x =>
    cases x with
    | inl n => rfl
    | inr n => show (Sum.inl _ : va_E) = Sum.inl _; rw [e]
theorem wE_obj {G : Dg} {B : Nat} {w : Wd} {c ci : Nat} (h : w.2.1 c = .inl ci) : wE G B w c = .inr (ci, wF B w c 0 (cfl ci)) := by unfold wE; rw [h]
theorem wE_arr {G : Dg} {B : Nat} {w : Wd} {c n : Nat} (h : w.2.1 c = .inr (.inl n)) : wE G B w c = .inl (G.2.1, n, .inl (w.2.2.2 c)) := by unfold wE; rw [h]
theorem wE_rarr {G : Dg} {B : Nat} {w : Wd} {c n : Nat} (h : w.2.1 c = .inr (.inr n)) : wE G B w c = .inl (G.2.2, n, .inr (.inr (.inr (.inr (fun j => (w.2.2.1 c j).map fun q => B + q))))) := by unfold wE; rw [h]
theorem wF_put {B : Nat} {w : Wd} {c k : Nat} {v : Int32} {bs : List Bool} (hb : bs[k]? = some false) : wF B (wPut w c k v) c 0 bs = (wF B w c 0 bs).set k (.int v) := by
  apply List.ext_getElem?
  intro i
  rw [List.getElem?_set, wF_get, wF_get, wF_len]
  by_cases h : k = i
  · subst h
    rw [if_pos rfl, if_pos (List.getElem?_eq_some_iff.mp hb).1, hb]
    simp [wr]
  · rw [if_neg h]
    cases bs[i]? with
    | none => rfl
    | some b =>
      have h' : ¬ i = k := fun q => h q.symm
      simp [wr, h']
theorem wF_putR {B : Nat} {w : Wd} {c k : Nat} {v : Option Nat} {bs : List Bool} (hb : bs[k]? = some true) : wF B (wPutR w c k v) c 0 bs = (wF B w c 0 bs).set k (rf B v) := by
  apply List.ext_getElem?
  intro i
  rw [List.getElem?_set, wF_get, wF_get, wF_len]
  by_cases h : k = i
  · subst h
    rw [if_pos rfl, if_pos (List.getElem?_eq_some_iff.mp hb).1, hb]
    simp [wrR]
  · rw [if_neg h]
    cases bs[i]? with
    | none => rfl
    | some b =>
      have h' : ¬ i = k := fun q => h q.symm
      simp [wrR, h']
/-! The judgements -/
def rmd (d mc ms : Nat) : Room := { frames := d, cells := mc, slots := ms, locals := 37 * d }
def QQ (G : Dg) (B : Nat) (Q : Option Value → Wd → Prop) : Array Value → State → Outcome → State → Prop := fun _ st o t => (∃ (v : Option Value) (w : Wd), o = .returned (v.map (rv B)) ∧ Q v w ∧ Rp G B w t.heap ∧ KK G t) ∧ va_F (Fr B) st t
abbrev wsM (y : MD) : List Cond := Cond.code y.1 y.2.1 y.2.2.1 y.2.2.2 :: tb
def Call (d mc ms : Nat) (y : MD) (As : List Value) (w : Wd) (Q : Option Value → Wd → Prop) : Prop :=
  ∀ (l : Launch) (G : Dg) (B : Nat), Met l y.1 (wsM y) (rmd d mc ms) (va_Pc (As.map (rv B)) (fun U => Rp G B w U.heap ∧ KK G U)) (QQ G B Q) mc ms (Fr B)
def Cx (p : Program) (s : State) (m : MethodId) (args : Array Value) (meth : Method) (c : Code) (y : MD) : Prop :=
  p.tables.exec = Jvm.exec ∧ c.code = y.2.1 ∧ meth.sig.returnType = y.2.2.2 ∧ c.maxLocals = y.2.2.1 ∧ s.vm.findClass y.1.cls = some m.cls ∧ (∀ w ∈ tb, w.before args s = true) ∧ meth.locks = false ∧ meth.name = y.1.name
def lvm (B : Nat) (lv : List (Nat × Value)) : List (Nat × Value) := lv.map fun q => (q.1, rv B q.2)
def PW (d mc ms : Nat) (y : MD) (nc ns : Nat) (pc : Nat) (lv : List (Nat × Value)) (st : List Value) (w : Wd) (Q : Option Value → Wd → Prop) : Prop :=
  ∀ (p : Program) (l : Launch) (e : Env) (s : State) (m : MethodId) (args : Array Value) (below : List Frame) (meth : Method) (c : Code) (G : Dg) (B : Nat) (H : Heap) (locs : List Loc) (ls : Array Slot),
    Cx p s m args meth c y → KK G s → Rp G B w H → va_S (Fr B) s.heap H locs → B ≤ s.heap.size → lv_has ls y.2.2.1 (lvm B lv) →
    W p l e (rmd d mc ms) s m args below meth c H locs nc ns (MQ below (QQ G B Q) args s mc ms (Fr B)) (F0 m pc ls (st.map (rv B)))
end
section
theorem cat_rv (B : Nat) (v : Value) : (rv B v).category = v.category := by cases v <;> rfl
def lvF (i : Nat) : Nat × Value → Bool := fun q => !(q.1 == i) && !(q.1 + 1 == i && q.2.category == 2)
theorem lvm_F (B i : Nat) (lv : List (Nat × Value)) : (lvm B lv).filter (lvF i) = lvm B (lv.filter (lvF i)) := by
  induction lv with
  | nil => rfl
  | cons q lv ih =>
    have e : lvF i (q.1, rv B q.2) = lvF i q := by simp [lvF, cat_rv]
    show ((q.1, rv B q.2) :: lvm B lv).filter (lvF i) = _
    rw [List.filter_cons, List.filter_cons, e, ih]
    cases lvF i q <;> rfl
theorem lvm_pick (B : Nat) (lv : List (Nat × Value)) (ks : List Nat) : lv_pick (lvm B lv) ks = lvm B (lv_pick lv ks) := by
  unfold lv_pick lvm
  induction ks with
  | nil => rfl
  | cons k ks ih =>
    rw [List.filterMap_cons, List.filterMap_cons, List.getElem?_map]
    cases lv[k]? with
    | none => simpa using ih
    | some q => simpa using ih
theorem lvm_at {B : Nat} {lv : List (Nat × Value)} {k i : Nat} {v : Value} (h : lv[k]? = some (i, v)) : (lvm B lv)[k]? = some (i, rv B v) := by
  unfold lvm
  rw [List.getElem?_map, h]
  rfl
theorem lvm_store {B : Nat} {nL : Nat} {lv lv' : List (Nat × Value)} {i : Nat} {v : Value} {ks : List Nat} {ls : Array Slot} (hl : lv_pick ((i, v) :: lv.filter (lvF i)) ks = lv') (h : lv_has ls nL ((i, rv B v) :: (lvm B lv).filter (lvF i))) : lv_has ls nL (lvm B lv') := by
  refine lv_sub h ks ?_
  rw [lvm_F, ← hl]
  exact lvm_pick B ((i, v) :: lv.filter (lvF i)) ks
section Rows
variable {d mc ms nc ns : Nat} {y : MD} {pc : Nat} {lv : List (Nat × Value)} {st : List Value} {w : Wd} {Q : Option Value → Wd → Prop}
theorem pw_iconst {n : Int} {v : Int32} (hd : decode y.2.1 pc = .ok (.iconst n, 1)) (hv : Int32.ofInt n = v) (k : PW d mc ms y nc ns (pc + 1) lv (.int v :: st) w Q) : PW d mc ms y nc ns pc lv (st) w Q :=
  fun p l e s m args below meth cd G B H locs ls C hK hP hS hB hl => lv_iconst C.1 C.2.1 hd hv (k p l e s m args below meth cd G B H locs ls C hK hP hS hB hl)
theorem pw_bipush {n : Int} {v : Int32} (hd : decode y.2.1 pc = .ok (.bipush n, 2)) (hv : (Int8.ofInt n).toInt32 = v) (k : PW d mc ms y nc ns (pc + 2) lv (.int v :: st) w Q) : PW d mc ms y nc ns pc lv (st) w Q :=
  fun p l e s m args below meth cd G B H locs ls C hK hP hS hB hl => lv_bipush C.1 C.2.1 hd hv (k p l e s m args below meth cd G B H locs ls C hK hP hS hB hl)
theorem pw_sipush {n : Int} {v : Int32} (hd : decode y.2.1 pc = .ok (.sipush n, 3)) (hv : (Int16.ofInt n).toInt32 = v) (k : PW d mc ms y nc ns (pc + 3) lv (.int v :: st) w Q) : PW d mc ms y nc ns pc lv (st) w Q :=
  fun p l e s m args below meth cd G B H locs ls C hK hP hS hB hl => lv_sipush C.1 C.2.1 hd hv (k p l e s m args below meth cd G B H locs ls C hK hP hS hB hl)
theorem pw_lconst {n : Fin 2} {v : Int64} (hd : decode y.2.1 pc = .ok (.lconst n, 1)) (hv : Int64.ofNat (n : Nat) = v) (k : PW d mc ms y nc ns (pc + 1) lv (.long v :: st) w Q) : PW d mc ms y nc ns pc lv (st) w Q :=
  fun p l e s m args below meth cd G B H locs ls C hK hP hS hB hl => lv_lconst C.1 C.2.1 hd hv (k p l e s m args below meth cd G B H locs ls C hK hP hS hB hl)
theorem pw_iload_n {q : Fin 4} {i : Nat} {x : Int32} (j : Nat) (hd : decode y.2.1 pc = .ok (.iload_n q, 1)) (hi : (q : Nat) = i) (hj : lv[j]? = some (i, .int x)) (k : PW d mc ms y nc ns (pc + 1) lv (.int x :: st) w Q) : PW d mc ms y nc ns pc lv st w Q :=
  fun p l e s m args below meth cd G B H locs ls C hK hP hS hB hl => lv_iload_n C.1 C.2.1 hd hi (lv_at hl j (lvm_at hj)) (k p l e s m args below meth cd G B H locs ls C hK hP hS hB hl)
theorem pw_iload {i : Nat} {x : Int32} (j : Nat) (hd : decode y.2.1 pc = .ok (.iload i, 2)) (hj : lv[j]? = some (i, .int x)) (k : PW d mc ms y nc ns (pc + 2) lv (.int x :: st) w Q) : PW d mc ms y nc ns pc lv st w Q :=
  fun p l e s m args below meth cd G B H locs ls C hK hP hS hB hl => lv_iload C.1 C.2.1 hd (lv_at hl j (lvm_at hj)) (k p l e s m args below meth cd G B H locs ls C hK hP hS hB hl)
theorem pw_lload_n {q : Fin 4} {i : Nat} {x : Int64} (j : Nat) (hd : decode y.2.1 pc = .ok (.lload_n q, 1)) (hi : (q : Nat) = i) (hj : lv[j]? = some (i, .long x)) (k : PW d mc ms y nc ns (pc + 1) lv (.long x :: st) w Q) : PW d mc ms y nc ns pc lv st w Q :=
  fun p l e s m args below meth cd G B H locs ls C hK hP hS hB hl => lv_lload_n C.1 C.2.1 hd hi (lv_at hl j (lvm_at hj)) (k p l e s m args below meth cd G B H locs ls C hK hP hS hB hl)
theorem pw_lload {i : Nat} {x : Int64} (j : Nat) (hd : decode y.2.1 pc = .ok (.lload i, 2)) (hj : lv[j]? = some (i, .long x)) (k : PW d mc ms y nc ns (pc + 2) lv (.long x :: st) w Q) : PW d mc ms y nc ns pc lv st w Q :=
  fun p l e s m args below meth cd G B H locs ls C hK hP hS hB hl => lv_lload C.1 C.2.1 hd (lv_at hl j (lvm_at hj)) (k p l e s m args below meth cd G B H locs ls C hK hP hS hB hl)
theorem pw_aload_n {q : Fin 4} {i : Nat} {x : Nat} (j : Nat) (hd : decode y.2.1 pc = .ok (.aload_n q, 1)) (hi : (q : Nat) = i) (hj : lv[j]? = some (i, .ref x)) (k : PW d mc ms y nc ns (pc + 1) lv (.ref x :: st) w Q) : PW d mc ms y nc ns pc lv st w Q :=
  fun p l e s m args below meth cd G B H locs ls C hK hP hS hB hl => lv_aload_n C.1 C.2.1 hd hi (lv_at hl j (lvm_at hj)) (k p l e s m args below meth cd G B H locs ls C hK hP hS hB hl)
theorem pw_aload {i : Nat} {x : Nat} (j : Nat) (hd : decode y.2.1 pc = .ok (.aload i, 2)) (hj : lv[j]? = some (i, .ref x)) (k : PW d mc ms y nc ns (pc + 2) lv (.ref x :: st) w Q) : PW d mc ms y nc ns pc lv st w Q :=
  fun p l e s m args below meth cd G B H locs ls C hK hP hS hB hl => lv_aload C.1 C.2.1 hd (lv_at hl j (lvm_at hj)) (k p l e s m args below meth cd G B H locs ls C hK hP hS hB hl)
theorem pw_istore_n {q : Fin 4} {i : Nat} {x : Int32} {lv' : List (Nat × Value)} (ks : List Nat) (hd : decode y.2.1 pc = .ok (.istore_n q, 1)) (hi : (q : Nat) = i) (hn : i < y.2.2.1) (hv : lv_pick ((i, .int x) :: lv.filter (lvF i)) ks = lv') (k : PW d mc ms y nc ns (pc + 1) lv' st w Q) : PW d mc ms y nc ns pc lv (.int x :: st) w Q :=
  fun p l e s m args below meth c G B H locs ls C hK hP hS hB hl => lv_istore_n C.1 C.2.1 hd hi hl hn rfl (fun ls' h' => k p l e s m args below meth c G B H locs ls' C hK hP hS hB (lvm_store hv h'))
theorem pw_istore {i : Nat} {x : Int32} {lv' : List (Nat × Value)} (ks : List Nat) (hd : decode y.2.1 pc = .ok (.istore i, 2)) (hn : i < y.2.2.1) (hv : lv_pick ((i, .int x) :: lv.filter (lvF i)) ks = lv') (k : PW d mc ms y nc ns (pc + 2) lv' st w Q) : PW d mc ms y nc ns pc lv (.int x :: st) w Q :=
  fun p l e s m args below meth c G B H locs ls C hK hP hS hB hl => lv_istore C.1 C.2.1 hd hl hn rfl (fun ls' h' => k p l e s m args below meth c G B H locs ls' C hK hP hS hB (lvm_store hv h'))
theorem pw_astore_n {q : Fin 4} {i : Nat} {x : Nat} {lv' : List (Nat × Value)} (ks : List Nat) (hd : decode y.2.1 pc = .ok (.astore_n q, 1)) (hi : (q : Nat) = i) (hn : i < y.2.2.1) (hv : lv_pick ((i, .ref x) :: lv.filter (lvF i)) ks = lv') (k : PW d mc ms y nc ns (pc + 1) lv' st w Q) : PW d mc ms y nc ns pc lv (.ref x :: st) w Q :=
  fun p l e s m args below meth c G B H locs ls C hK hP hS hB hl => lv_astore_n C.1 C.2.1 hd hi hl hn rfl (fun ls' h' => k p l e s m args below meth c G B H locs ls' C hK hP hS hB (lvm_store hv h'))
theorem pw_astore {i : Nat} {x : Nat} {lv' : List (Nat × Value)} (ks : List Nat) (hd : decode y.2.1 pc = .ok (.astore i, 2)) (hn : i < y.2.2.1) (hv : lv_pick ((i, .ref x) :: lv.filter (lvF i)) ks = lv') (k : PW d mc ms y nc ns (pc + 2) lv' st w Q) : PW d mc ms y nc ns pc lv (.ref x :: st) w Q :=
  fun p l e s m args below meth c G B H locs ls C hK hP hS hB hl => lv_astore C.1 C.2.1 hd hl hn rfl (fun ls' h' => k p l e s m args below meth c G B H locs ls' C hK hP hS hB (lvm_store hv h'))
theorem pw_iinc {i : Nat} {n : Int} {x v : Int32} {lv' : List (Nat × Value)} (j : Nat) (ks : List Nat) (hd : decode y.2.1 pc = .ok (.iinc i n, 3)) (hj : lv[j]? = some (i, .int x)) (hx : x + Int32.ofInt n = v) (hn : i < y.2.2.1) (hv : lv_pick ((i, .int v) :: lv.filter (lvF i)) ks = lv') (k : PW d mc ms y nc ns (pc + 3) lv' st w Q) : PW d mc ms y nc ns pc lv st w Q :=
  fun p l e s m args below meth c G B H locs ls C hK hP hS hB hl => lv_iinc C.1 C.2.1 hd hl (lvm_at hj) hx hn rfl (fun ls' h' => k p l e s m args below meth c G B H locs ls' C hK hP hS hB (lvm_store (v := .int v) hv h'))
theorem pw_sub {lv' : List (Nat × Value)} (ks : List Nat) (hv : lv_pick lv ks = lv') (k : PW d mc ms y nc ns pc lv' st w Q) : PW d mc ms y nc ns pc lv st w Q :=
  fun p l e s m args below meth c G B H locs ls C hK hP hS hB hl => k p l e s m args below meth c G B H locs ls C hK hP hS hB (lv_sub hl ks (by rw [lvm_pick, hv]))
theorem pw_iadd {x z : Int32} (hd : decode y.2.1 pc = .ok (.iadd, 1)) (k : PW d mc ms y nc ns (pc + 1) lv (.int (x + z) :: st) w Q) : PW d mc ms y nc ns pc lv (.int z :: .int x :: st) w Q :=
  fun p l e s m args below meth cd G B H locs ls C hK hP hS hB hl => lv_iadd C.1 C.2.1 hd (k p l e s m args below meth cd G B H locs ls C hK hP hS hB hl)
theorem pw_isub {x z : Int32} (hd : decode y.2.1 pc = .ok (.isub, 1)) (k : PW d mc ms y nc ns (pc + 1) lv (.int (x - z) :: st) w Q) : PW d mc ms y nc ns pc lv (.int z :: .int x :: st) w Q :=
  fun p l e s m args below meth cd G B H locs ls C hK hP hS hB hl => lv_isub C.1 C.2.1 hd (k p l e s m args below meth cd G B H locs ls C hK hP hS hB hl)
theorem pw_imul {x z : Int32} (hd : decode y.2.1 pc = .ok (.imul, 1)) (k : PW d mc ms y nc ns (pc + 1) lv (.int (x * z) :: st) w Q) : PW d mc ms y nc ns pc lv (.int z :: .int x :: st) w Q :=
  fun p l e s m args below meth cd G B H locs ls C hK hP hS hB hl => lv_imul C.1 C.2.1 hd (k p l e s m args below meth cd G B H locs ls C hK hP hS hB hl)
theorem pw_iand {x z : Int32} (hd : decode y.2.1 pc = .ok (.iand, 1)) (k : PW d mc ms y nc ns (pc + 1) lv (.int (x &&& z) :: st) w Q) : PW d mc ms y nc ns pc lv (.int z :: .int x :: st) w Q :=
  fun p l e s m args below meth cd G B H locs ls C hK hP hS hB hl => lv_iand C.1 C.2.1 hd (k p l e s m args below meth cd G B H locs ls C hK hP hS hB hl)
theorem pw_ior {x z : Int32} (hd : decode y.2.1 pc = .ok (.ior, 1)) (k : PW d mc ms y nc ns (pc + 1) lv (.int (x ||| z) :: st) w Q) : PW d mc ms y nc ns pc lv (.int z :: .int x :: st) w Q :=
  fun p l e s m args below meth cd G B H locs ls C hK hP hS hB hl => lv_ior C.1 C.2.1 hd (k p l e s m args below meth cd G B H locs ls C hK hP hS hB hl)
theorem pw_ixor {x z : Int32} (hd : decode y.2.1 pc = .ok (.ixor, 1)) (k : PW d mc ms y nc ns (pc + 1) lv (.int (x ^^^ z) :: st) w Q) : PW d mc ms y nc ns pc lv (.int z :: .int x :: st) w Q :=
  fun p l e s m args below meth cd G B H locs ls C hK hP hS hB hl => lv_ixor C.1 C.2.1 hd (k p l e s m args below meth cd G B H locs ls C hK hP hS hB hl)
theorem pw_ishl {x z : Int32} (hd : decode y.2.1 pc = .ok (.ishl, 1)) (k : PW d mc ms y nc ns (pc + 1) lv (.int (x <<< (z &&& 31)) :: st) w Q) : PW d mc ms y nc ns pc lv (.int z :: .int x :: st) w Q :=
  fun p l e s m args below meth cd G B H locs ls C hK hP hS hB hl => lv_ishl C.1 C.2.1 hd (k p l e s m args below meth cd G B H locs ls C hK hP hS hB hl)
theorem pw_ishr {x z : Int32} (hd : decode y.2.1 pc = .ok (.ishr, 1)) (k : PW d mc ms y nc ns (pc + 1) lv (.int (x >>> (z &&& 31)) :: st) w Q) : PW d mc ms y nc ns pc lv (.int z :: .int x :: st) w Q :=
  fun p l e s m args below meth cd G B H locs ls C hK hP hS hB hl => lv_ishr C.1 C.2.1 hd (k p l e s m args below meth cd G B H locs ls C hK hP hS hB hl)
theorem pw_idiv {x z : Int32} (hd : decode y.2.1 pc = .ok (.idiv, 1)) (hz : ¬ z = 0) (k : PW d mc ms y nc ns (pc + 1) lv (.int (x / z) :: st) w Q) : PW d mc ms y nc ns pc lv (.int z :: .int x :: st) w Q :=
  fun p l e s m args below meth cd G B H locs ls C hK hP hS hB hl => lv_idiv C.1 C.2.1 hd hz (k p l e s m args below meth cd G B H locs ls C hK hP hS hB hl)
theorem pw_irem {x z : Int32} (hd : decode y.2.1 pc = .ok (.irem, 1)) (hz : ¬ z = 0) (k : PW d mc ms y nc ns (pc + 1) lv (.int (x - x / z * z) :: st) w Q) : PW d mc ms y nc ns pc lv (.int z :: .int x :: st) w Q :=
  fun p l e s m args below meth cd G B H locs ls C hK hP hS hB hl => lv_irem C.1 C.2.1 hd hz (k p l e s m args below meth cd G B H locs ls C hK hP hS hB hl)
theorem pw_iushr {x z v : Int32} (hd : decode y.2.1 pc = .ok (.iushr, 1)) (hv : (x.toUInt32 >>> (z.toUInt32 &&& Int32.toUInt32 31)).toInt32 = v) (k : PW d mc ms y nc ns (pc + 1) lv (.int v :: st) w Q) : PW d mc ms y nc ns pc lv (.int z :: .int x :: st) w Q :=
  fun p l e s m args below meth cd G B H locs ls C hK hP hS hB hl => lv_iushr C.1 C.2.1 hd hv (k p l e s m args below meth cd G B H locs ls C hK hP hS hB hl)
theorem pw_ladd {x z : Int64} (hd : decode y.2.1 pc = .ok (.ladd, 1)) (k : PW d mc ms y nc ns (pc + 1) lv (.long (x + z) :: st) w Q) : PW d mc ms y nc ns pc lv (.long z :: .long x :: st) w Q :=
  fun p l e s m args below meth cd G B H locs ls C hK hP hS hB hl => lv_ladd C.1 C.2.1 hd (k p l e s m args below meth cd G B H locs ls C hK hP hS hB hl)
theorem pw_land {x z : Int64} (hd : decode y.2.1 pc = .ok (.land, 1)) (k : PW d mc ms y nc ns (pc + 1) lv (.long (x &&& z) :: st) w Q) : PW d mc ms y nc ns pc lv (.long z :: .long x :: st) w Q :=
  fun p l e s m args below meth cd G B H locs ls C hK hP hS hB hl => lv_land C.1 C.2.1 hd (k p l e s m args below meth cd G B H locs ls C hK hP hS hB hl)
theorem pw_lor {x z : Int64} (hd : decode y.2.1 pc = .ok (.lor, 1)) (k : PW d mc ms y nc ns (pc + 1) lv (.long (x ||| z) :: st) w Q) : PW d mc ms y nc ns pc lv (.long z :: .long x :: st) w Q :=
  fun p l e s m args below meth cd G B H locs ls C hK hP hS hB hl => lv_lor C.1 C.2.1 hd (k p l e s m args below meth cd G B H locs ls C hK hP hS hB hl)
theorem pw_lshl {x v : Int64} {z : Int32} (hd : decode y.2.1 pc = .ok (.lshl, 1)) (hv : x <<< (z.toInt64 &&& 63) = v) (k : PW d mc ms y nc ns (pc + 1) lv (.long v :: st) w Q) : PW d mc ms y nc ns pc lv (.int z :: .long x :: st) w Q :=
  fun p l e s m args below meth cd G B H locs ls C hK hP hS hB hl => lv_lshl C.1 C.2.1 hd hv (k p l e s m args below meth cd G B H locs ls C hK hP hS hB hl)
theorem pw_lshr {x v : Int64} {z : Int32} (hd : decode y.2.1 pc = .ok (.lshr, 1)) (hv : x >>> (z.toInt64 &&& 63) = v) (k : PW d mc ms y nc ns (pc + 1) lv (.long v :: st) w Q) : PW d mc ms y nc ns pc lv (.int z :: .long x :: st) w Q :=
  fun p l e s m args below meth cd G B H locs ls C hK hP hS hB hl => lv_lshr C.1 C.2.1 hd hv (k p l e s m args below meth cd G B H locs ls C hK hP hS hB hl)
theorem pw_lcmp {x z : Int64} (hd : decode y.2.1 pc = .ok (.lcmp, 1)) (k : PW d mc ms y nc ns (pc + 1) lv (.int (lg_cmp x z) :: st) w Q) : PW d mc ms y nc ns pc lv (.long z :: .long x :: st) w Q :=
  fun p l e s m args below meth cd G B H locs ls C hK hP hS hB hl => W.lcmp C.1 C.2.1 hd (k p l e s m args below meth cd G B H locs ls C hK hP hS hB hl)
theorem pw_i2l {x : Int32} {v : Int64} (hd : decode y.2.1 pc = .ok (.i2l, 1)) (hv : x.toInt64 = v) (k : PW d mc ms y nc ns (pc + 1) lv (.long v :: st) w Q) : PW d mc ms y nc ns pc lv (.int x :: st) w Q :=
  fun p l e s m args below meth cd G B H locs ls C hK hP hS hB hl => lv_i2l C.1 C.2.1 hd hv (k p l e s m args below meth cd G B H locs ls C hK hP hS hB hl)
theorem pw_l2i {x : Int64} {v : Int32} (hd : decode y.2.1 pc = .ok (.l2i, 1)) (hv : x.toInt32 = v) (k : PW d mc ms y nc ns (pc + 1) lv (.int v :: st) w Q) : PW d mc ms y nc ns pc lv (.long x :: st) w Q :=
  fun p l e s m args below meth cd G B H locs ls C hK hP hS hB hl => lv_l2i C.1 C.2.1 hd hv (k p l e s m args below meth cd G B H locs ls C hK hP hS hB hl)
theorem pw_i2b {x v : Int32} (hd : decode y.2.1 pc = .ok (.i2b, 1)) (hv : x.toInt8.toInt32 = v) (k : PW d mc ms y nc ns (pc + 1) lv (.int v :: st) w Q) : PW d mc ms y nc ns pc lv (.int x :: st) w Q :=
  fun p l e s m args below meth cd G B H locs ls C hK hP hS hB hl => lv_i2b C.1 C.2.1 hd hv (k p l e s m args below meth cd G B H locs ls C hK hP hS hB hl)
theorem pw_i2s {x v : Int32} (hd : decode y.2.1 pc = .ok (.i2s, 1)) (hv : x.toInt16.toInt32 = v) (k : PW d mc ms y nc ns (pc + 1) lv (.int v :: st) w Q) : PW d mc ms y nc ns pc lv (.int x :: st) w Q :=
  fun p l e s m args below meth cd G B H locs ls C hK hP hS hB hl => lv_i2s C.1 C.2.1 hd hv (k p l e s m args below meth cd G B H locs ls C hK hP hS hB hl)
theorem pw_dup {v : Value} (hd : decode y.2.1 pc = .ok (.dup, 1)) (hv : v.category = 1) (k : PW d mc ms y nc ns (pc + 1) lv (v :: v :: st) w Q) : PW d mc ms y nc ns pc lv (v :: st) w Q :=
  fun p l e s m args below meth cd G B H locs ls C hK hP hS hB hl => lv_dup C.1 C.2.1 hd ((cat_rv B v).trans hv) (k p l e s m args below meth cd G B H locs ls C hK hP hS hB hl)
theorem pw_pop {v : Value} (hd : decode y.2.1 pc = .ok (.pop, 1)) (hv : v.category = 1) (k : PW d mc ms y nc ns (pc + 1) lv st w Q) : PW d mc ms y nc ns pc lv (v :: st) w Q :=
  fun p l e s m args below meth cd G B H locs ls C hK hP hS hB hl => lv_pop C.1 C.2.1 hd ((cat_rv B v).trans hv) (k p l e s m args below meth cd G B H locs ls C hK hP hS hB hl)
theorem pw_dup2 {v u : Value} (hd : decode y.2.1 pc = .ok (.dup2, 1)) (hv : v.category = 1) (hu : u.category = 1) (k : PW d mc ms y nc ns (pc + 1) lv (v :: u :: v :: u :: st) w Q) : PW d mc ms y nc ns pc lv (v :: u :: st) w Q :=
  fun p l e s m args below meth cd G B H locs ls C hK hP hS hB hl => lv_dup2_11 C.1 C.2.1 hd ((cat_rv B v).trans hv) ((cat_rv B u).trans hu) (k p l e s m args below meth cd G B H locs ls C hK hP hS hB hl)
theorem pw_if_eq {x : Int32} {off : Int} {tgt : Nat} (hd : decode y.2.1 pc = .ok (.ifCond .eq off, 3)) (ht : (pc : Int) + off = (tgt : Int)) (kt : x = 0 → PW d mc ms y nc ns tgt lv st w Q) (kf : ¬ x = 0 → PW d mc ms y nc ns (pc + 3) lv st w Q) : PW d mc ms y nc ns pc lv (.int x :: st) w Q :=
  fun p l e s m args below meth cd G B H locs ls C hK hP hS hB hl => lv_if_eq C.1 C.2.1 hd ht (fun h => kt h p l e s m args below meth cd G B H locs ls C hK hP hS hB hl) (fun h => kf h p l e s m args below meth cd G B H locs ls C hK hP hS hB hl)
theorem pw_icmp_eq {x z : Int32} {off : Int} {tgt : Nat} (hd : decode y.2.1 pc = .ok (.if_icmp .eq off, 3)) (ht : (pc : Int) + off = (tgt : Int)) (kt : x = z → PW d mc ms y nc ns tgt lv st w Q) (kf : ¬ x = z → PW d mc ms y nc ns (pc + 3) lv st w Q) : PW d mc ms y nc ns pc lv (.int z :: .int x :: st) w Q :=
  fun p l e s m args below meth cd G B H locs ls C hK hP hS hB hl => lv_icmp_eq C.1 C.2.1 hd ht (fun h => kt h p l e s m args below meth cd G B H locs ls C hK hP hS hB hl) (fun h => kf h p l e s m args below meth cd G B H locs ls C hK hP hS hB hl)
theorem pw_if_ne {x : Int32} {off : Int} {tgt : Nat} (hd : decode y.2.1 pc = .ok (.ifCond .ne off, 3)) (ht : (pc : Int) + off = (tgt : Int)) (kt : ¬ x = 0 → PW d mc ms y nc ns tgt lv st w Q) (kf : x = 0 → PW d mc ms y nc ns (pc + 3) lv st w Q) : PW d mc ms y nc ns pc lv (.int x :: st) w Q :=
  fun p l e s m args below meth cd G B H locs ls C hK hP hS hB hl => lv_if_ne C.1 C.2.1 hd ht (fun h => kt h p l e s m args below meth cd G B H locs ls C hK hP hS hB hl) (fun h => kf h p l e s m args below meth cd G B H locs ls C hK hP hS hB hl)
theorem pw_icmp_ne {x z : Int32} {off : Int} {tgt : Nat} (hd : decode y.2.1 pc = .ok (.if_icmp .ne off, 3)) (ht : (pc : Int) + off = (tgt : Int)) (kt : ¬ x = z → PW d mc ms y nc ns tgt lv st w Q) (kf : x = z → PW d mc ms y nc ns (pc + 3) lv st w Q) : PW d mc ms y nc ns pc lv (.int z :: .int x :: st) w Q :=
  fun p l e s m args below meth cd G B H locs ls C hK hP hS hB hl => lv_icmp_ne C.1 C.2.1 hd ht (fun h => kt h p l e s m args below meth cd G B H locs ls C hK hP hS hB hl) (fun h => kf h p l e s m args below meth cd G B H locs ls C hK hP hS hB hl)
theorem pw_if_lt {x : Int32} {off : Int} {tgt : Nat} (hd : decode y.2.1 pc = .ok (.ifCond .lt off, 3)) (ht : (pc : Int) + off = (tgt : Int)) (kt : x < 0 → PW d mc ms y nc ns tgt lv st w Q) (kf : ¬ x < 0 → PW d mc ms y nc ns (pc + 3) lv st w Q) : PW d mc ms y nc ns pc lv (.int x :: st) w Q :=
  fun p l e s m args below meth cd G B H locs ls C hK hP hS hB hl => lv_if_lt C.1 C.2.1 hd ht (fun h => kt h p l e s m args below meth cd G B H locs ls C hK hP hS hB hl) (fun h => kf h p l e s m args below meth cd G B H locs ls C hK hP hS hB hl)
theorem pw_icmp_lt {x z : Int32} {off : Int} {tgt : Nat} (hd : decode y.2.1 pc = .ok (.if_icmp .lt off, 3)) (ht : (pc : Int) + off = (tgt : Int)) (kt : x < z → PW d mc ms y nc ns tgt lv st w Q) (kf : ¬ x < z → PW d mc ms y nc ns (pc + 3) lv st w Q) : PW d mc ms y nc ns pc lv (.int z :: .int x :: st) w Q :=
  fun p l e s m args below meth cd G B H locs ls C hK hP hS hB hl => lv_icmp_lt C.1 C.2.1 hd ht (fun h => kt h p l e s m args below meth cd G B H locs ls C hK hP hS hB hl) (fun h => kf h p l e s m args below meth cd G B H locs ls C hK hP hS hB hl)
theorem pw_if_ge {x : Int32} {off : Int} {tgt : Nat} (hd : decode y.2.1 pc = .ok (.ifCond .ge off, 3)) (ht : (pc : Int) + off = (tgt : Int)) (kt : 0 ≤ x → PW d mc ms y nc ns tgt lv st w Q) (kf : ¬ 0 ≤ x → PW d mc ms y nc ns (pc + 3) lv st w Q) : PW d mc ms y nc ns pc lv (.int x :: st) w Q :=
  fun p l e s m args below meth cd G B H locs ls C hK hP hS hB hl => lv_if_ge C.1 C.2.1 hd ht (fun h => kt h p l e s m args below meth cd G B H locs ls C hK hP hS hB hl) (fun h => kf h p l e s m args below meth cd G B H locs ls C hK hP hS hB hl)
theorem pw_icmp_ge {x z : Int32} {off : Int} {tgt : Nat} (hd : decode y.2.1 pc = .ok (.if_icmp .ge off, 3)) (ht : (pc : Int) + off = (tgt : Int)) (kt : z ≤ x → PW d mc ms y nc ns tgt lv st w Q) (kf : ¬ z ≤ x → PW d mc ms y nc ns (pc + 3) lv st w Q) : PW d mc ms y nc ns pc lv (.int z :: .int x :: st) w Q :=
  fun p l e s m args below meth cd G B H locs ls C hK hP hS hB hl => lv_icmp_ge C.1 C.2.1 hd ht (fun h => kt h p l e s m args below meth cd G B H locs ls C hK hP hS hB hl) (fun h => kf h p l e s m args below meth cd G B H locs ls C hK hP hS hB hl)
theorem pw_if_gt {x : Int32} {off : Int} {tgt : Nat} (hd : decode y.2.1 pc = .ok (.ifCond .gt off, 3)) (ht : (pc : Int) + off = (tgt : Int)) (kt : 0 < x → PW d mc ms y nc ns tgt lv st w Q) (kf : ¬ 0 < x → PW d mc ms y nc ns (pc + 3) lv st w Q) : PW d mc ms y nc ns pc lv (.int x :: st) w Q :=
  fun p l e s m args below meth cd G B H locs ls C hK hP hS hB hl => lv_if_gt C.1 C.2.1 hd ht (fun h => kt h p l e s m args below meth cd G B H locs ls C hK hP hS hB hl) (fun h => kf h p l e s m args below meth cd G B H locs ls C hK hP hS hB hl)
theorem pw_icmp_gt {x z : Int32} {off : Int} {tgt : Nat} (hd : decode y.2.1 pc = .ok (.if_icmp .gt off, 3)) (ht : (pc : Int) + off = (tgt : Int)) (kt : z < x → PW d mc ms y nc ns tgt lv st w Q) (kf : ¬ z < x → PW d mc ms y nc ns (pc + 3) lv st w Q) : PW d mc ms y nc ns pc lv (.int z :: .int x :: st) w Q :=
  fun p l e s m args below meth cd G B H locs ls C hK hP hS hB hl => lv_icmp_gt C.1 C.2.1 hd ht (fun h => kt h p l e s m args below meth cd G B H locs ls C hK hP hS hB hl) (fun h => kf h p l e s m args below meth cd G B H locs ls C hK hP hS hB hl)
theorem pw_if_le {x : Int32} {off : Int} {tgt : Nat} (hd : decode y.2.1 pc = .ok (.ifCond .le off, 3)) (ht : (pc : Int) + off = (tgt : Int)) (kt : x ≤ 0 → PW d mc ms y nc ns tgt lv st w Q) (kf : ¬ x ≤ 0 → PW d mc ms y nc ns (pc + 3) lv st w Q) : PW d mc ms y nc ns pc lv (.int x :: st) w Q :=
  fun p l e s m args below meth cd G B H locs ls C hK hP hS hB hl => lv_if_le C.1 C.2.1 hd ht (fun h => kt h p l e s m args below meth cd G B H locs ls C hK hP hS hB hl) (fun h => kf h p l e s m args below meth cd G B H locs ls C hK hP hS hB hl)
theorem pw_icmp_le {x z : Int32} {off : Int} {tgt : Nat} (hd : decode y.2.1 pc = .ok (.if_icmp .le off, 3)) (ht : (pc : Int) + off = (tgt : Int)) (kt : x ≤ z → PW d mc ms y nc ns tgt lv st w Q) (kf : ¬ x ≤ z → PW d mc ms y nc ns (pc + 3) lv st w Q) : PW d mc ms y nc ns pc lv (.int z :: .int x :: st) w Q :=
  fun p l e s m args below meth cd G B H locs ls C hK hP hS hB hl => lv_icmp_le C.1 C.2.1 hd ht (fun h => kt h p l e s m args below meth cd G B H locs ls C hK hP hS hB hl) (fun h => kf h p l e s m args below meth cd G B H locs ls C hK hP hS hB hl)
theorem pw_goto {off : Int} {tgt : Nat} (hd : decode y.2.1 pc = .ok (.goto off, 3)) (ht : (pc : Int) + off = (tgt : Int)) (k : PW d mc ms y nc ns tgt lv st w Q) : PW d mc ms y nc ns pc lv st w Q :=
  fun p l e s m args below meth cd G B H locs ls C hK hP hS hB hl => lv_goto C.1 C.2.1 hd ht (k p l e s m args below meth cd G B H locs ls C hK hP hS hB hl)
theorem pw_tableOut {dflt lo hi : Int} {offs : Array Int} {len : Nat} {x : Int32} {tgt : Nat} (hd : decode y.2.1 pc = .ok (.tableswitch dflt lo hi offs, len)) (h : x.toInt < lo ∨ hi < x.toInt) (ht : (pc : Int) + dflt = (tgt : Int)) (k : PW d mc ms y nc ns tgt lv st w Q) : PW d mc ms y nc ns pc lv (.int x :: st) w Q :=
  fun p l e s m args below meth cd G B H locs ls C hK hP hS hB hl => lv_tableOut C.1 C.2.1 hd h ht (k p l e s m args below meth cd G B H locs ls C hK hP hS hB hl)
theorem pw_tableIn {dflt lo hi : Int} {offs : Array Int} {len : Nat} {x : Int32} {off : Int} {tgt : Nat} (hd : decode y.2.1 pc = .ok (.tableswitch dflt lo hi offs, len)) (h1 : ¬ x.toInt < lo) (h2 : ¬ hi < x.toInt) (ho : offs[(x.toInt - lo).toNat]? = some off) (ht : (pc : Int) + off = (tgt : Int)) (k : PW d mc ms y nc ns tgt lv st w Q) : PW d mc ms y nc ns pc lv (.int x :: st) w Q :=
  fun p l e s m args below meth cd G B H locs ls C hK hP hS hB hl => lv_tableIn C.1 C.2.1 hd h1 h2 ho ht (k p l e s m args below meth cd G B H locs ls C hK hP hS hB hl)
theorem pw_lookup {dflt : Int} {ps : Array (Int × Int)} {len : Nat} {x : Int32} {off : Int} {tgt : Nat} (hd : decode y.2.1 pc = .ok (.lookupswitch dflt ps, len)) (hp : (ps.toList.zip (ps.toList.drop 1)).all (fun (a, next) => a.1 < next.1) = true) (ho : Op.lookupswitch.offset ps.toList dflt x.toInt = off) (ht : (pc : Int) + off = (tgt : Int)) (k : PW d mc ms y nc ns tgt lv st w Q) : PW d mc ms y nc ns pc lv (.int x :: st) w Q :=
  fun p l e s m args below meth cd G B H locs ls C hK hP hS hB hl => lv_lookup C.1 C.2.1 hd hp ho ht (k p l e s m args below meth cd G B H locs ls C hK hP hS hB hl)
theorem pw_ldc {index : Nat} {v : Int32} (hd : decode y.2.1 pc = .ok (.ldc index, 2)) (hc : Cond.constant y.1.cls index v ∈ tb) (k : PW d mc ms y nc ns (pc + 2) lv (.int v :: st) w Q) : PW d mc ms y nc ns pc lv st w Q :=
  fun p l e s m args below meth cd G B H locs ls C hK hP hS hB hl => lv_ldc C.1 C.2.1 C.2.2.2.2.1 (C.2.2.2.2.2.1 _ hc) hd (k p l e s m args below meth cd G B H locs ls C hK hP hS hB hl)
theorem pw_ldcw {index : Nat} {v : Int32} (hd : decode y.2.1 pc = .ok (.ldc_w index, 3)) (hc : Cond.constant y.1.cls index v ∈ tb) (k : PW d mc ms y nc ns (pc + 3) lv (.int v :: st) w Q) : PW d mc ms y nc ns pc lv st w Q :=
  fun p l e s m args below meth cd G B H locs ls C hK hP hS hB hl => lv_ldcw C.1 C.2.1 C.2.2.2.2.1 (C.2.2.2.2.2.1 _ hc) hd (k p l e s m args below meth cd G B H locs ls C hK hP hS hB hl)
theorem pw_ldc2 {index : Nat} {v : Int64} (hd : decode y.2.1 pc = .ok (.ldc2_w index, 3)) (hc : Cond.constantLong y.1.cls index v ∈ tb) (k : PW d mc ms y nc ns (pc + 3) lv (.long v :: st) w Q) : PW d mc ms y nc ns pc lv st w Q :=
  fun p l e s m args below meth cd G B H locs ls C hK hP hS hB hl => lv_ldc2 C.1 C.2.1 C.2.2.2.2.1 (C.2.2.2.2.2.1 _ hc) hd (k p l e s m args below meth cd G B H locs ls C hK hP hS hB hl)
/-- what the tables say of a class's fields -/
def CF (ci : Nat) (C : String) (T : u_T) (N : Nat) (ty : Nat → FieldType) : Prop := vwCl[ci]? = some (C, T, N) ∧ (∀ w ∈ u_ws C T N, w ∈ tb) ∧ (∀ k, k < N → parseFieldDescriptor (T k).2.2.1 = some (ty k)) ∧ (∀ a, a < N → ∀ b, b < N → a ≠ b → (T a).2.1 ≠ (T b).2.1) ∧ (∀ k, k < N → (T k).1 = C)
def FL (own : String) (idx ci k : Nat) (fin : Bool) (fty : FieldType) : Prop := ∃ (C : String) (T : u_T) (N : Nat) (ty : Nat → FieldType), CF ci C T N ty ∧ k < N ∧ Cond.fieldLink own idx C (T k).2.1 (T k).2.2.1 ∈ tb ∧ (T k).2.2.2 = fin ∧ ty k = fty
theorem pw_getI {idx ci k c : Nat} {fin : Bool} {fty : FieldType} (hd : decode y.2.1 pc = .ok (.getfield idx, 3)) (hF : FL y.1.cls idx ci k fin fty) (hc : c < w.1) (hk : w.2.1 c = .inl ci) (hb : (cfl ci)[k]? = some false) (kk : PW d mc ms y nc ns (pc + 3) lv (.int (w.2.2.2 c k) :: st) w Q) : PW d mc ms y nc ns pc lv (.ref c :: st) w Q := by
  intro p l e s m args below meth cd G B H locs ls C hK hP hS hB hl
  obtain ⟨Cn, T, N, ty, ⟨f1, f2, -, -, f5⟩, hkN, hln, -, -⟩ := hF
  refine va_get (v := .int (w.2.2.2 c k)) C.1 C.2.1 C.2.2.2.2.2.1 f2 C.2.2.2.2.1 hK hP.1 c ((wl_get hc).trans (by rw [wE_obj hk])) f1 k hkN (ref := Cn) (C.2.2.2.2.2.1 _ hln) (fun x h => by rw [f5 k hkN] at h; exact h) ?_ hd (kk p l e s m args below meth cd G B H locs ls C hK hP hS hB hl)
  rw [wF_get, hb]
  simp
theorem pw_getR {idx ci k c r : Nat} {fin : Bool} {fty : FieldType} (hd : decode y.2.1 pc = .ok (.getfield idx, 3)) (hF : FL y.1.cls idx ci k fin fty) (hc : c < w.1) (hk : w.2.1 c = .inl ci) (hb : (cfl ci)[k]? = some true) (hr : w.2.2.1 c k = some r) (kk : PW d mc ms y nc ns (pc + 3) lv (.ref r :: st) w Q) : PW d mc ms y nc ns pc lv (.ref c :: st) w Q := by
  intro p l e s m args below meth cd G B H locs ls C hK hP hS hB hl
  obtain ⟨Cn, T, N, ty, ⟨f1, f2, -, -, f5⟩, hkN, hln, -, -⟩ := hF
  refine va_get (v := .ref (B + r)) C.1 C.2.1 C.2.2.2.2.2.1 f2 C.2.2.2.2.1 hK hP.1 c ((wl_get hc).trans (by rw [wE_obj hk])) f1 k hkN (ref := Cn) (C.2.2.2.2.2.1 _ hln) (fun x h => by rw [f5 k hkN] at h; exact h) ?_ hd (kk p l e s m args below meth cd G B H locs ls C hK hP hS hB hl)
  rw [wF_get, hb]
  simp [hr, rf, va_rf]
theorem pw_putI {idx ci k c : Nat} {fty : FieldType} {v : Int32} (hd : decode y.2.1 pc = .ok (.putfield idx, 3)) (hF : FL y.1.cls idx ci k false fty) (hc : c < w.1) (hk : w.2.1 c = .inl ci) (hb : (cfl ci)[k]? = some false) (hn : narrow fty (.int v) = .int v) (hft : fits fty (.int v) = true) (kk : PW d mc ms y nc ns (pc + 3) lv st (wPut w c k v) Q) : PW d mc ms y nc ns pc lv (.int v :: .ref c :: st) w Q := by
  intro p l e s m args below meth cd G B H locs ls C hK hP hS hB hl
  obtain ⟨Cn, T, N, ty, ⟨f1, f2, f3, f4, f5⟩, hkN, hln, hfin, hty⟩ := hF
  subst hty
  have hlen : k < (cfl ci).length := (List.getElem?_eq_some_iff.mp hb).1
  have hz : H.size = B + w.1 := hP.2
  have hap := va_apart (own := y.1.cls) C.2.2.2.2.2.1 f2 ty f3 f4 hK f1
  have he : (wl G B w)[c]? = some (B + c, .inr (ci, wF B w c 0 (cfl ci))) := (wl_get hc).trans (by rw [wE_obj hk])
  obtain ⟨r, h1, cell, q1, q2, q3, q4⟩ := hP.1 c _ he
  have hr : r = (Cn, T, N) := Option.some.inj (h1.symm.trans f1)
  subst hr
  obtain ⟨hSl, hfc, kC, hkC, hkind⟩ := hK.1 ci _ f1
  obtain ⟨cf, kf, fi, f, hi, hsl⟩ := hSl k hkN
  have hlay := C.2.2.2.2.2.1 _ (f2 _ (u_in_lay hkN))
  unfold u_lay at hlay
  rw [if_neg (by rw [hfin]; decide)] at hlay
  have hst := (u_facts hfc hkC (u_lays C.2.2.2.2.2.1 f2 hkN) hi).1
  have h6 := u_store hfc hkC hkind hlay hi (f3 k hkN) hn hft
  have hi2 : s.fieldFound? Cn (T k).2.1 (T k).2.2.1 = some (cf, kf, fi, f) := by rw [f5 k hkN] at hi; exact hi
  refine W.putK C.1 C.2.1 (f := f) ⟨C.2.2.2.2.1, C.2.2.2.2.2.1 _ hln, ⟨_, _, _, hi2⟩, hst⟩ (by rw [q2]; exact h6) q1 q3 (by rw [hsl]; exact k2_hasslot (q4 k hkN)) rfl rfl hd fun H' e1 e2 e3 => ?_
  rw [hsl] at e1 ⊢
  have hset := hP.1.set wl_D he (e := .inr (ci, (wF B w c 0 (cfl ci)).set k (.int v))) ⟨_, f1, t_OB.to (V := updV (vp_V (wF B w c 0 (cfl ci))) k (.int v)) ⟨_, e1, q2, q3, t_set q4 hap hkN (.int v)⟩ (fun j _ => vp_updV_set (by rw [wF_len]; exact hlen) (.int v) j)⟩ e3
  rw [wl_set (w := w) (w' := wPut w c k v) rfl (fun c' h => wE_put_ne c' h) (by rw [wE_obj (by exact hk), wF_put hb])] at hset
  exact kk p l e s m args below meth cd G B H' _ ls C hK ⟨hset, by rw [e2]; exact hz⟩ (hS.put e2 e3 (show B ≤ B + _ by omega)) hB hl
theorem pw_putR {idx ci k c : Nat} {fty : FieldType} {r : Nat} (hd : decode y.2.1 pc = .ok (.putfield idx, 3)) (hF : FL y.1.cls idx ci k true fty) (hc : c < w.1) (hk : w.2.1 c = .inl ci) (hb : (cfl ci)[k]? = some true) (hini : y.1.name = "<init>") (hown : ∀ q : vw_C, vwCl[ci]? = some q → q.1 = y.1.cls) (hn : ∀ a, narrow fty (.ref a) = .ref a) (hft : ∀ a, fits fty (.ref a) = true) (kk : PW d mc ms y nc ns (pc + 3) lv st (wPutR w c k (some r)) Q) : PW d mc ms y nc ns pc lv (.ref r :: .ref c :: st) w Q := by
  intro p l e s m args below meth cd G B H locs ls C hK hP hS hB hl
  obtain ⟨Cn, T, N, ty, ⟨f1, f2, f3, f4, f5⟩, hkN, hln, hfin, hty⟩ := hF
  subst hty
  have hlen : k < (cfl ci).length := (List.getElem?_eq_some_iff.mp hb).1
  have hz : H.size = B + w.1 := hP.2
  have hap := va_apart (own := y.1.cls) C.2.2.2.2.2.1 f2 ty f3 f4 hK f1
  have he : (wl G B w)[c]? = some (B + c, .inr (ci, wF B w c 0 (cfl ci))) := (wl_get hc).trans (by rw [wE_obj hk])
  obtain ⟨q, h1, cell, q1, q2, q3, q4⟩ := hP.1 c _ he
  have hr : q = (Cn, T, N) := Option.some.inj (h1.symm.trans f1)
  subst hr
  obtain ⟨hSl, hfc, kC, hkC, hkind⟩ := hK.1 ci _ f1
  obtain ⟨cf, kf, fi, f, hi, hsl⟩ := hSl k hkN
  have hlay := C.2.2.2.2.2.1 _ (f2 _ (u_in_lay hkN))
  unfold u_lay at hlay
  rw [if_pos hfin] at hlay
  have hst := (u_facts hfc hkC (u_lays C.2.2.2.2.2.1 f2 hkN) hi).1
  have hcf : m.cls = cf := by
    obtain ⟨_, _, c', _, _, _, -, -, hf', -, -, -, hown2, -⟩ := Cond.laysFinal_spec hlay
    have e1 : c' = cf := by have := hi.symm.trans hf'; simp at this; exact this.1.symm
    rw [f5 k hkN, show Cn = y.1.cls from hown _ f1] at hown2
    rw [← e1]; exact Option.some.inj (C.2.2.2.2.1.symm.trans hown2)
  have h6 := u_fits hfc hkC hkind (Or.inr hlay) hi (f3 k hkN) (hn (B + r)) (hft (B + r))
  have hi2 : s.fieldFound? Cn (T k).2.1 (T k).2.2.1 = some (cf, kf, fi, f) := by rw [f5 k hkN] at hi; exact hi
  refine W.putFinK C.1 C.2.1 C.2.2.2.2.1 (C.2.2.2.2.2.1 _ hln) hi2 hst hcf (C.2.2.2.2.2.2.2.trans hini) (by rw [q2]; exact h6) q1 q3 (by rw [hsl]; exact k2_hasslot (q4 k hkN)) rfl rfl hd fun H' e1 e2 e3 => ?_
  rw [hsl] at e1 ⊢
  have hset := hP.1.set wl_D he (e := .inr (ci, (wF B w c 0 (cfl ci)).set k (.ref (B + r)))) ⟨_, f1, t_OB.to (V := updV (vp_V (wF B w c 0 (cfl ci))) k (.ref (B + r))) ⟨_, e1, q2, q3, t_set q4 hap hkN (.ref (B + r))⟩ (fun j _ => vp_updV_set (by rw [wF_len]; exact hlen) (.ref (B + r)) j)⟩ e3
  rw [wl_set (w := w) (w' := wPutR w c k (some r)) rfl (fun c' h => wE_putR_ne c' h) (by rw [wE_obj (by exact hk), wF_putR hb]; rfl)] at hset
  exact kk p l e s m args below meth cd G B H' _ ls C hK ⟨hset, by rw [e2]; exact hz⟩ (hS.put e2 e3 (show B ≤ B + _ by omega)) hB hl
/-! arrays -/
abbrev ix (i : Int32) : Nat := i.toNatClampNeg
theorem pw_iald {c n : Nat} {i : Int32} (hd : decode y.2.1 pc = .ok (.iaload, 1)) (hc : c < w.1) (hk : w.2.1 c = .inr (.inl n)) (hi : vp_in i n) (kk : PW d mc ms y nc ns (pc + 1) lv (.int (w.2.2.2 c (ix i)) :: st) w Q) : PW d mc ms y nc ns pc lv (.int i :: .ref c :: st) w Q := by
  intro p l e s m args below meth cd G B H locs ls C hK hP hS hB hl
  exact va_iald C.1 C.2.1 hK hP.1 c 0 ((wl_get hc).trans (by rw [wE_arr hk])) rfl hi hd (kk p l e s m args below meth cd G B H locs ls C hK hP hS hB hl)
theorem pw_aald {c n r : Nat} {i : Int32} (hd : decode y.2.1 pc = .ok (.aaload, 1)) (hc : c < w.1) (hk : w.2.1 c = .inr (.inr n)) (hi : vp_in i n) (hr : w.2.2.1 c (ix i) = some r) (kk : PW d mc ms y nc ns (pc + 1) lv (.ref r :: st) w Q) : PW d mc ms y nc ns pc lv (.int i :: .ref c :: st) w Q := by
  intro p l e s m args below meth cd G B H locs ls C hK hP hS hB hl
  have hlt : i.toNatClampNeg < n := Nat.not_le.mp fun q => hi (Or.inr q)
  have hcell := hP.1 c _ ((wl_get hc).trans (by rw [wE_rarr hk]))
  refine W.aald (v := .ref (B + r)) (ty := .array .int) C.1 C.2.1 hcell ((hK.2 1 _ rfl).1 n (fun j => va_rf ((w.2.2.1 c j).map fun q => B + q))) rfl (fun q => by cases q) (by show ¬ (i < 0 ∨ (arrV _ _ _).slots.size ≤ _); rw [arrV_size]; exact hi) (by show (arrV _ _ _).slots[_]? = _; rw [arrV_read _ _ hlt]; show some (va_rf ((w.2.2.1 c (ix i)).map fun q => B + q)) = _; rw [hr]; rfl) rfl rfl hd (kk p l e s m args below meth cd G B H locs ls C hK hP hS hB hl)
theorem pw_iast {c n : Nat} {i v : Int32} (hd : decode y.2.1 pc = .ok (.iastore, 1)) (hc : c < w.1) (hk : w.2.1 c = .inr (.inl n)) (hi : vp_in i n) (kk : PW d mc ms y nc ns (pc + 1) lv st (wPut w c (ix i) v) Q) : PW d mc ms y nc ns pc lv (.int v :: .int i :: .ref c :: st) w Q := by
  intro p l e s m args below meth cd G B H locs ls C hK hP hS hB hl
  have hz : H.size = B + w.1 := hP.2
  have ha : (wl G B w)[c]? = some (B + c, .inl (G.2.1, n, .inl (w.2.2.2 c))) := (wl_get hc).trans (by rw [wE_arr hk])
  refine W.iast C.1 C.2.1 (hP.1 c _ ha) ((hK.2 0 _ rfl).1 n (fun j => .int (w.2.2.2 c j))) (fun q => by cases q) (by show ¬ (i < 0 ∨ (arrV _ _ _).slots.size ≤ _); rw [arrV_size]; exact hi) rfl rfl hd fun H1 e1 z oq => ?_
  have hset := hP.1.set wl_D ha (e := .inl (G.2.1, n, .inl (upd (w.2.2.2 c) (ix i) v))) (H1 := H1) (by
    show H1[B + c]? = some (vp_cell _ _)
    rw [e1, vp_cell_i, vp_cell_i, arrV_store]
    congr 2
    funext q
    by_cases hq : q = i.toNatClampNeg
    · subst hq
      simp [updV, upd]
    · simp [updV, upd, hq]) oq
  rw [wl_set (w := w) (w' := wPut w c (ix i) v) rfl (fun c' h => wE_put_ne c' h) (by
    rw [wE_arr (by exact hk)]
    refine congrArg (fun f => (Sum.inl (G.2.1, n, Sum.inl f) : va_E)) (funext fun j => ?_)
    show wr _ _ _ _ _ _ = upd _ _ _ _
    unfold wr upd
    by_cases hj : j = ix i
    · rw [if_pos ⟨rfl, hj⟩, if_pos hj]
    · rw [if_neg (fun q => hj q.2), if_neg hj])] at hset
  exact kk p l e s m args below meth cd G B H1 _ ls C hK ⟨hset, by rw [z]; exact hz⟩ (hS.put z oq (show B ≤ B + _ by omega)) hB hl
theorem pw_alenI {c n : Nat} {v : Int32} (hd : decode y.2.1 pc = .ok (.arraylength, 1)) (hc : c < w.1) (hk : w.2.1 c = .inr (.inl n)) (hv : Int32.ofNat n = v) (kk : PW d mc ms y nc ns (pc + 1) lv (.int v :: st) w Q) : PW d mc ms y nc ns pc lv (.ref c :: st) w Q := by
  intro p l e s m args below meth cd G B H locs ls C hK hP hS hB hl
  exact va_alen C.1 C.2.1 hK hP.1 c 0 ((wl_get hc).trans (by rw [wE_arr hk])) rfl hv hd (kk p l e s m args below meth cd G B H locs ls C hK hP hS hB hl)
/-! ends -/
theorem pw_iret {r : Int32} (hd : decode y.2.1 pc = .ok (.ireturn, 1)) (hr : y.2.2.2 = some .int) (h : Q (some (.int r)) w) : PW d mc ms y mc ms pc lv [.int r] w Q := by
  intro p l e s m args below meth cd G B H locs ls C hK hP hS hB hl
  exact W.iret C.1 C.2.1 (C.2.2.1.trans hr) (fun t ht hW => ⟨⟨some (.int r), w, rfl, h, by rw [ht]; exact hP, KK.moved hW.alike hK⟩, hS.F ht⟩) hS.2.2 hd (hlocks := C.2.2.2.2.2.2.1)
theorem pw_zret {r : Int32} (hd : decode y.2.1 pc = .ok (.ireturn, 1)) (hr : y.2.2.2 = some .boolean) (hn : narrow .boolean (.int r) = .int r) (h : Q (some (.int r)) w) : PW d mc ms y mc ms pc lv [.int r] w Q := by
  intro p l e s m args below meth cd G B H locs ls C hK hP hS hB hl
  exact W.zret C.1 C.2.1 (C.2.2.1.trans hr) hn (fun t ht hW => ⟨⟨some (.int r), w, rfl, h, by rw [ht]; exact hP, KK.moved hW.alike hK⟩, hS.F ht⟩) hS.2.2 hd (hlocks := C.2.2.2.2.2.2.1)
theorem pw_vret (hd : decode y.2.1 pc = .ok (.return_, 1)) (hr : y.2.2.2 = none) (h : Q none w) : PW d mc ms y mc ms pc lv [] w Q := by
  intro p l e s m args below meth cd G B H locs ls C hK hP hS hB hl
  exact W.vret C.1 C.2.1 (C.2.2.1.trans hr) (fun t ht hW => ⟨⟨none, w, rfl, h, by rw [ht]; exact hP, KK.moved hW.alike hK⟩, hS.F ht⟩) hS.2.2 hd (hlocks := C.2.2.2.2.2.2.1)
theorem pw_aret {r : Nat} {rt : FieldType} (hd : decode y.2.1 pc = .ok (.areturn, 1)) (hr : y.2.2.2 = some rt) (hrt : (∃ n, rt = .object n) ∨ ∃ t, rt = .array t) (h : Q (some (.ref r)) w) : PW d mc ms y mc ms pc lv [.ref r] w Q := by
  intro p l e s m args below meth cd G B H locs ls C hK hP hS hB hl
  exact W.aret (v := .ref (B + r)) C.1 C.2.1 (C.2.2.1.trans hr) hrt (Or.inr ⟨_, rfl⟩) (fun t ht hW => ⟨⟨some (.ref r), w, rfl, h, by rw [ht]; exact hP, KK.moved hW.alike hK⟩, hS.F ht⟩) hS.2.2 hd (hlocks := C.2.2.2.2.2.2.1)
theorem pw_widen {a b : Nat} (h1 : nc ≤ a) (h2 : ns ≤ b) (k : PW d mc ms y a b pc lv st w Q) : PW d mc ms y nc ns pc lv st w Q :=
  fun p l e s m args below meth cd G B H locs ls C hK hP hS hB hl => W.widen h1 h2 (k p l e s m args below meth cd G B H locs ls C hK hP hS hB hl)
end Rows
end
section
section Calls9
variable {d mc ms nc ns : Nat} {y : MD} {pc : Nat} {lv : List (Nat × Value)} {st : List Value} {w : Wd} {Q : Option Value → Wd → Prop}
theorem pc_blind {G : Dg} {B : Nat} {w : Wd} {av : List Value} : FrameBlind (va_Pc av (fun U => Rp G B w U.heap ∧ KK G U)) := fun a U g mk q => ⟨q.1, q.2.1, KK.moved (u := U) (U := U.calling g mk a) (Vm.Alike.refl U.vm) q.2.2⟩
/-- a method out of its walk from the entry -/
theorem Call_of {d mc ms : Nat} {y : MD} {As : List Value} {w : Wd} {Q : Option Value → Wd → Prop} (hpl : plainName y.1.cls = true) (hlen : (lg_sl As).length ≤ y.2.2.1) (k : PW d mc ms y 0 0 0 (lv_args 0 As) [] w Q) : Call d mc ms y As w Q := by
  intro l G B
  refine Met.ofW (cc := y.2.1) (maxL := y.2.2.1) (ret := y.2.2.2) hpl rfl ?_
  intro p e s m args below meth c s₁ Bd hml hv
  obtain ⟨rfl, hP, hK⟩ := hv
  have hts := atoms_spec (ws := wsM y) Bd.pre
  have hown : s.vm.findClass y.1.cls = some m.cls := findClass_of_methodNamed Bd.named
  have hin : meth.name = y.1.name := (name_of_methodNamed Bd.named Bd.method).1
  have sl : lg_sl (As.map (rv B)) = (lg_sl As).map (fun z => match z with | .val v => .val (rv B v) | z => z) := by
    clear hlen k hP hts hml Bd
    induction As with
    | nil => rfl
    | cons v vs ih =>
      simp only [lg_sl, List.map_cons, List.flatMap_cons, List.map_append] at ih ⊢
      rw [ih, cat_rv]
      by_cases h : v.category = 2
      · rw [if_pos h, if_pos h]; rfl
      · rw [if_neg h, if_neg h]; rfl
  have ar : ∀ (i : Nat) (vs : List Value), lv_args i (vs.map (rv B)) = lvm B (lv_args i vs) := by
    intro i vs
    induction vs generalizing i with
    | nil => rfl
    | cons v vs ih =>
      simp only [lv_args, List.map_cons, cat_rv]
      rw [ih]
      rfl
  have hl := lv_entry (As.map (rv B)) (n := y.2.2.1) (by rw [sl, List.length_map]; exact hlen)
  rw [ar] at hl
  rw [lg_entry_eq]
  exact k p l e s m _ below meth c G B s.heap [] _ ⟨Bd.exec, Bd.bytes, Bd.returns, hml, hown, fun w hw => hts w (List.mem_cons_of_mem _ hw), Bd.notSynchronized, hin⟩ hK hP va_S.rf (by rw [hP.2]; omega) hl
theorem Call.mono {d mc ms : Nat} {y : MD} {As : List Value} {w : Wd} {Q Q' : Option Value → Wd → Prop} (h : Call d mc ms y As w Q) (hq : ∀ v w', Q v w' → Q' v w') : Call d mc ms y As w Q' := by
  intro l G B p e a1 a2 a3 s m args below a4 a5 a6 a7
  obtain ⟨k, o, h1, h2, h3, ⟨⟨v, w', e1, e2, e3⟩, hF⟩, h5⟩ := h l G B p e a1 a2 a3 s m args below a4 a5 a6 a7
  exact ⟨k, o, h1, h2, h3, ⟨⟨v, w', e1, hq _ _ e2, e3⟩, hF⟩, h5⟩
theorem pw_after {p : Program} {l : Launch} {e : Env} {s : State} {m : MethodId} {args : Array Value} {below : List Frame} {meth : Method} {c : Code} {G : Dg} {B : Nat} {H : Heap} {locs : List Loc} {ls : Array Slot} {mc2 ms2 : Nat} {rest : List Value} {st0 : List Value} {a : Array Value}
    (C : Cx p s m args meth c y) (hK : KK G s) (hS : va_S (Fr B) s.heap H locs) (hB : B ≤ s.heap.size) (hl : lv_has ls y.2.2.1 (lvm B lv))
    (hr : va_Run p l e (rmd d mc ms) s m args below meth c H locs nc ns mc2 ms2 (F0 m pc ls st0) (rest.map (rv B)) (QQ G B (fun v w' => PW d mc ms y (nc + mc2) (ns + ms2) (pc + 3) lv (v.toList ++ rest) w' Q) a) (Fr B)) :
    W p l e (rmd d mc ms) s m args below meth c H locs nc ns (MQ below (QQ G B Q) args s mc ms (Fr B)) (F0 m pc ls st0) := by
  intro T hT X
  obtain ⟨v, st₀, t, T', L, h0, X', hL, e1, e2, ⟨⟨v', w', hv, hq, hRp, hKt⟩, hF⟩, stp⟩ := hr T hT X
  have hv : v = v'.map (rv B) := by cases hv; rfl
  subst hv
  have hS' : va_S (Fr B) s.heap T'.heap (locs ++ L) := ⟨Nat.le_trans hS.1 (by rw [e1]; have := hF.1; rw [h0] at this; exact this), fun q h1 h2 => by
      rw [e1, hF.2 q (by rw [h0]; exact Nat.lt_of_lt_of_le h1 hS.1) h2, h0]; exact hS.2.1 q h1 h2, fun q hq => by
      rcases List.mem_append.mp hq with h | h
      · exact hS.2.2 q h
      · exact hL q h⟩
  obtain ⟨t2, a1, b1⟩ := hq p l e s m args below meth c G B T'.heap (locs ++ L) ls C hK (by rw [e1]; exact hRp) hS' hB hl T' rfl X'
  refine ⟨t2, stp t2 ?_, b1⟩
  have e9 : (v'.toList ++ rest).map (rv B) = (v'.map (rv B)).toList ++ rest.map (rv B) := by cases v' <;> simp
  rw [e9] at a1
  exact a1
/-- a method that may be called: what the tables say of it -/
def CV (y2 : MD) : Prop := Cond.instanceMethod y2.1 ∈ tb ∧ Cond.selects y2.1.cls y2.1 y2.1 ∈ tb ∧ Cond.initialized y2.1.cls ∈ tb ∧ Cond.code y2.1 y2.2.1 y2.2.2.1 y2.2.2.2 ∈ tb ∧ (y2.1.cls ≠ "java/lang/invoke/MethodHandle" ∧ y2.1.cls ≠ "java/lang/invoke/VarHandle") ∧ y2.2.2.1 ≤ 18
def CS (y2 : MD) : Prop := Cond.static y2.1 ∈ tb ∧ Cond.initialized y2.1.cls ∈ tb ∧ Cond.code y2.1 y2.2.1 y2.2.2.1 y2.2.2.2 ∈ tb ∧ (y2.1.cls ≠ "java/lang/invoke/MethodHandle" ∧ y2.1.cls ≠ "java/lang/invoke/VarHandle") ∧ y2.2.2.1 ≤ 18
theorem wsM_good {y2 : MD} (h : Cond.code y2.1 y2.2.1 y2.2.2.1 y2.2.2.2 ∈ tb) : GoodIn tb (wsM y2) := fun w hw => by
  rcases List.mem_cons.mp hw with e | h2
  · rw [e]; exact tb_good _ h
  · exact tb_good _ h2
theorem map_cat (B : Nat) (rest : List Value) : (rest.map (rv B)).map (fun v => v.category) = rest.map (fun v => v.category) := by
  rw [List.map_map]
  exact List.map_congr_left fun v _ => cat_rv B v
theorem pw_callV {d2 mc2 ms2 idx ci : Nat} {y2 : MD} {As rest : List Value} {c : Nat} {cT : vw_C} (n : Nat) (hd : decode y.2.1 pc = .ok (.invokevirtual idx, 3)) (hcv : CV y2) (hlink : Cond.methodLink y.1.cls idx y2.1 ∈ tb) (hlen : (parseMethodDescriptor y2.1.desc).map (fun d => d.parameters.length) = some n) (hAs : As.length = n)
    (hst : st = As.reverse ++ .ref c :: rest) (hdep : d2 + 1 ≤ d) (hcat : (rest.map fun v => v.category).sum ≤ 8) (hc : c < w.1) (hk : w.2.1 c = .inl ci) (hci : vwCl[ci]? = some cT) (hcls : cT.1 = y2.1.cls) (hmc : nc + mc2 ≤ mc) (hms : ns + ms2 ≤ ms)
    (k : Call d2 mc2 ms2 y2 (.ref c :: As) w (fun v w' => PW d mc ms y (nc + mc2) (ns + ms2) (pc + 3) lv (v.toList ++ rest) w' Q)) : PW d mc ms y nc ns pc lv st w Q := by
  intro p l e s m args below meth cd G B H locs ls C hK hP hS hB hl
  subst hst
  obtain ⟨i1, i2, i3, i4, i5, i6⟩ := hcv
  refine pw_after (mc2 := mc2) (ms2 := ms2) (rest := rest) C hK hS hB hl (a := (Value.ref (B + c) :: As.map (rv B)).toArray) ?_
  have ht := C.2.2.2.2.2.1
  have hR : (rmd d2 mc2 ms2).frames + 1 ≤ (rmd d mc ms).frames ∧ 8 + (y2.2.2.1 + 11) + (rmd d2 mc2 ms2).locals ≤ (rmd d mc ms).locals := by
    refine ⟨hdep, ?_⟩
    show 8 + (y2.2.2.1 + 11) + 37 * d2 ≤ 37 * d
    omega
  refine va_runV (Ts := tb) (own := y.1.cls) (C := y2.1.cls) (n := n) (ws := wsM y2) (b := B + c) (bytes := y2.2.1) (maxL := y2.2.2.1) (ret := y2.2.2.2) (rm := rmd d2 mc2 ms2) (As := As.map (rv B)) ⟨C.1, C.2.1, C.2.2.2.1, C.2.2.2.2.1, ht⟩ (k l G B) ⟨callB_of n ht (wsM_good i4) rfl rfl rfl (ht _ i3) (ht _ hlink) ⟨i5.1, i5.2, hlen⟩ hR, ht _ i1, ht _ i2⟩
    ⟨pc_blind, ?_, fun U hU hW => ⟨rfl, by rw [hU]; exact hP, KK.moved hW.alike hK⟩⟩ rfl (by rw [List.length_map]; exact hAs) hl.1 ?_ ?_ hd ⟨hmc, hms⟩
  · have := va_recv hK hP.1 hci ((wl_get hc).trans (by rw [wE_obj hk]))
    rw [hcls] at this
    exact this
  · simp [rv]
  · show 2 * 0 + _ ≤ 8
    rw [map_cat]
    omega
theorem pw_callS {d2 mc2 ms2 idx : Nat} {y2 : MD} {As rest : List Value} (n : Nat) (hd : decode y.2.1 pc = .ok (.invokestatic idx, 3)) (hcv : CS y2) (hlink : Cond.methodLink y.1.cls idx y2.1 ∈ tb) (hlen : (parseMethodDescriptor y2.1.desc).map (fun d => d.parameters.length) = some n) (hAs : As.length = n)
    (hst : st = As.reverse ++ rest) (hdep : d2 + 1 ≤ d) (hcat : (rest.map fun v => v.category).sum ≤ 8) (hmc : nc + mc2 ≤ mc) (hms : ns + ms2 ≤ ms)
    (k : Call d2 mc2 ms2 y2 As w (fun v w' => PW d mc ms y (nc + mc2) (ns + ms2) (pc + 3) lv (v.toList ++ rest) w' Q)) : PW d mc ms y nc ns pc lv st w Q := by
  intro p l e s m args below meth cd G B H locs ls C hK hP hS hB hl
  subst hst
  obtain ⟨i1, i3, i4, i5, i6⟩ := hcv
  refine pw_after (mc2 := mc2) (ms2 := ms2) (rest := rest) C hK hS hB hl (a := (As.map (rv B)).toArray) ?_
  have ht := C.2.2.2.2.2.1
  have hR : (rmd d2 mc2 ms2).frames + 1 ≤ (rmd d mc ms).frames ∧ 8 + (y2.2.2.1 + 11) + (rmd d2 mc2 ms2).locals ≤ (rmd d mc ms).locals := by
    refine ⟨hdep, ?_⟩
    show 8 + (y2.2.2.1 + 11) + 37 * d2 ≤ 37 * d
    omega
  refine va_runS (Ts := tb) (own := y.1.cls) (n := n) (ws := wsM y2) (bytes := y2.2.1) (maxL := y2.2.2.1) (ret := y2.2.2.2) (rm := rmd d2 mc2 ms2) (As := As.map (rv B)) ⟨C.1, C.2.1, C.2.2.2.1, C.2.2.2.2.1, ht⟩ (k l G B) ⟨callB_of n ht (wsM_good i4) rfl rfl rfl (ht _ i3) (ht _ hlink) ⟨i5.1, i5.2, hlen⟩ hR, ht _ i1⟩
    ⟨pc_blind, fun U hU hW => ⟨rfl, by rw [hU]; exact hP, KK.moved hW.alike hK⟩⟩ rfl (by rw [List.length_map]; exact hAs) hl.1 ?_ ?_ hd ⟨hmc, hms⟩
  · simp
  · show 2 * 0 + _ ≤ 8
    rw [map_cat]
    omega
/-- System.arraycopy of ints, where the method makes nothing -/
def wCpy (w : Wd) (c0 c1 sp dp n : Nat) : Wd := (w.1, w.2.1, w.2.2.1, fun c k => if c = c1 ∧ dp ≤ k ∧ k < dp + n then w.2.2.2 c0 (sp + (k - dp)) else w.2.2.2 c k)
theorem pw_copy {idx c0 c1 n0 n1 : Nat} {sp dp n : Int32} {rest : List Value} (hd : decode y.2.1 pc = .ok (.invokestatic idx, 3)) (hlink : Cond.methodLink y.1.cls idx arraycopyName ∈ tb) (hnat : Cond.native arraycopyName ∈ tb) (hstat : Cond.static arraycopyName ∈ tb) (hini : Cond.initialized "java/lang/System" ∈ tb)
    (h0 : c0 < w.1) (h1 : c1 < w.1) (k0 : w.2.1 c0 = .inr (.inl n0)) (k1 : w.2.1 c1 = .inr (.inl n1)) (g1 : ¬ sp < 0) (g2 : ¬ dp < 0) (g3 : ¬ n < 0) (g4 : ix sp + ix n ≤ n0) (g5 : ix dp + ix n ≤ n1) (hdep : 1 ≤ d) (hcat : (rest.map fun v => v.category).sum ≤ 8)
    (kk : PW d mc ms y 0 ns (pc + 3) lv rest (wCpy w c0 c1 (ix sp) (ix dp) (ix n)) Q) : PW d mc ms y 0 ns pc lv (.int n :: .int dp :: .ref c1 :: .int sp :: .ref c0 :: rest) w Q := by
  intro p l e s m args below meth cd G B H locs ls C hK hP hS hB hl
  have ht := C.2.2.2.2.2.1
  intro T hT X
  have hs1 : H.size = s.heap.size := by
    have h1 := X.same.2.1
    have h2 := X.same.2.2.1
    simp only [State.setVm] at h1 h2
    rw [hT] at h1 h2
    omega
  refine va_copyi (ws := wl G B w) (A := Fr B) (ty := .int) C.1 C.2.1 (C.2.2.2.1.trans hl.1.symm) C.2.2.2.2.1 (ht _ hlink) (ht _ hnat) (ht _ hstat) (ht _ hini) hK hP.1 wl_D hS c0 c1 0 0 ((wl_get h0).trans (by rw [wE_arr k0])) ((wl_get h1).trans (by rw [wE_arr k1])) rfl rfl rfl g1 g2 g3 g4 g5 (fun i _ => rfl) hdep ?_ hd (fun H1 locs1 hP1 _ hS1 => ?_) T hT X
  · rw [map_cat]
    show _ + (nativeFrameWords "java/lang/System" "arraycopy" 5 + 11) ≤ 37 * d
    have : nativeFrameWords "java/lang/System" "arraycopy" 5 ≤ 18 := by decide
    omega
  · intro T1 hT1 X1
    have hs2 : H1.size = s.heap.size := by
      have h1 := X1.same.2.1
      have h2 := X1.same.2.2.1
      simp only [State.setVm] at h1 h2
      rw [hT1] at h1 h2
      omega
    have hP2 : va_P G.1 vwCl (wl G B (wCpy w c0 c1 (ix sp) (ix dp) (ix n))) H1 := by
      have hcell : ∀ c', c' ≠ c1 → (wCpy w c0 c1 (ix sp) (ix dp) (ix n)).2.2.2 c' = w.2.2.2 c' := fun c' h => funext fun j => by simp [wCpy, h]
      have e2 : ∀ c', c' ≠ c1 → wE G B (wCpy w c0 c1 (ix sp) (ix dp) (ix n)) c' = wE G B w c' := by
        intro c' h
        have e := hcell c' h
        unfold wE
        show (match w.2.1 c' with | .inl ci => _ | .inr (.inl n) => _ | .inr (.inr n) => _) = _
        cases w.2.1 c' with
        | inl ci => exact congrArg (fun x => Sum.inr (ci, x)) (wF_eq (fun j _ => ⟨rfl, congrFun e _⟩))
        | inr x =>
          cases x with
          | inl n => show (Sum.inl _ : va_E) = Sum.inl _; rw [e]
          | inr n => rfl
      rw [wl_set (w := w) (w' := wCpy w c0 c1 (ix sp) (ix dp) (ix n)) rfl e2 (by
        rw [wE_arr (n := n1) (by exact k1)]
        refine congrArg (fun f => (Sum.inl (G.2.1, n1, Sum.inl f) : va_E)) (funext fun j => ?_)
        show (if c1 = c1 ∧ _ then _ else _) = va_cpy _ _ _ _ _ _
        unfold va_cpy
        simp)] at hP1
      exact hP1
    exact kk p l e s m args below meth cd G B H1 locs1 ls C hK ⟨hP2, by rw [hs2, ← hs1]; exact hP.2⟩ hS1 hB hl T1 hT1 X1
end Calls9
end
