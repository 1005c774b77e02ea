section
-- ===== PART A: goes FIRST, ahead of the names: the tables' words, and 'selects' of the private methods out of them =====
/-- a private method of a class that the tables say can be made, by its rows of tables_1 -/
def lw_okq (q : MethodName × Nat) : Prop := (q.1.cls ≠ "java/lang/invoke/MethodHandle" ∧ q.1.cls ≠ "java/lang/invoke/VarHandle") ∧ Cond.instantiable q.1.cls q.2 ∈ tables_1 ∧ Cond.privateMethod q.1 ∈ tables_1 ∧ Cond.instanceMethod q.1 ∈ tables_1
theorem lw_p0 : lw_okq (⟨"BackStairs", "doorsChanged", "()V"⟩, 14) := ⟨⟨by decide +kernel, by decide +kernel⟩, List.mem_of_getElem? (i := 17) (by decide +kernel), List.mem_of_getElem? (i := 390) (by decide +kernel), List.mem_of_getElem? (i := 391) (by decide +kernel)⟩
theorem lw_p1 : lw_okq (⟨"BackStairs$House", "measureFrom", "(IZ[I)V"⟩, 8) := ⟨⟨by decide +kernel, by decide +kernel⟩, List.mem_of_getElem? (i := 25) (by decide +kernel), List.mem_of_getElem? (i := 398) (by decide +kernel), List.mem_of_getElem? (i := 399) (by decide +kernel)⟩
theorem lw_p2 : lw_okq (⟨"BackStairs", "plansChanged", "()V"⟩, 14) := ⟨⟨by decide +kernel, by decide +kernel⟩, List.mem_of_getElem? (i := 17) (by decide +kernel), List.mem_of_getElem? (i := 407) (by decide +kernel), List.mem_of_getElem? (i := 408) (by decide +kernel)⟩
theorem lw_p3 : lw_okq (⟨"BackStairs$Tape", "letter", "(I)I"⟩, 4) := ⟨⟨by decide +kernel, by decide +kernel⟩, List.mem_of_getElem? (i := 180) (by decide +kernel), List.mem_of_getElem? (i := 462) (by decide +kernel), List.mem_of_getElem? (i := 463) (by decide +kernel)⟩
theorem lw_p4 : lw_okq (⟨"BackStairs$Tape", "peek", "()I"⟩, 4) := ⟨⟨by decide +kernel, by decide +kernel⟩, List.mem_of_getElem? (i := 180) (by decide +kernel), List.mem_of_getElem? (i := 466) (by decide +kernel), List.mem_of_getElem? (i := 467) (by decide +kernel)⟩
theorem lw_p5 : lw_okq (⟨"BackStairs$Tape", "fault", "()I"⟩, 4) := ⟨⟨by decide +kernel, by decide +kernel⟩, List.mem_of_getElem? (i := 180) (by decide +kernel), List.mem_of_getElem? (i := 471) (by decide +kernel), List.mem_of_getElem? (i := 472) (by decide +kernel)⟩
theorem lw_p6 : lw_okq (⟨"BackStairs$Tape", "number", "(II)I"⟩, 4) := ⟨⟨by decide +kernel, by decide +kernel⟩, List.mem_of_getElem? (i := 180) (by decide +kernel), List.mem_of_getElem? (i := 475) (by decide +kernel), List.mem_of_getElem? (i := 476) (by decide +kernel)⟩
theorem lw_p7 : lw_okq (⟨"BackStairs$Trips", "comersInto", "(II)I"⟩, 6) := ⟨⟨by decide +kernel, by decide +kernel⟩, List.mem_of_getElem? (i := 222) (by decide +kernel), List.mem_of_getElem? (i := 520) (by decide +kernel), List.mem_of_getElem? (i := 521) (by decide +kernel)⟩
theorem lw_p8 : lw_okq (⟨"BackStairs$Trips", "step", "(IIZ)I"⟩, 6) := ⟨⟨by decide +kernel, by decide +kernel⟩, List.mem_of_getElem? (i := 222) (by decide +kernel), List.mem_of_getElem? (i := 532) (by decide +kernel), List.mem_of_getElem? (i := 533) (by decide +kernel)⟩
theorem lw_p9 : lw_okq (⟨"BackStairs$Trips", "lowest", "(I)I"⟩, 6) := ⟨⟨by decide +kernel, by decide +kernel⟩, List.mem_of_getElem? (i := 222) (by decide +kernel), List.mem_of_getElem? (i := 540) (by decide +kernel), List.mem_of_getElem? (i := 541) (by decide +kernel)⟩
theorem lw_p10 : lw_okq (⟨"BackStairs", "isErrand", "(IIIII)Z"⟩, 14) := ⟨⟨by decide +kernel, by decide +kernel⟩, List.mem_of_getElem? (i := 17) (by decide +kernel), List.mem_of_getElem? (i := 564) (by decide +kernel), List.mem_of_getElem? (i := 565) (by decide +kernel)⟩
theorem lw_p11 : lw_okq (⟨"BackStairs$Planner", "fillEnds", "(I)V"⟩, 12) := ⟨⟨by decide +kernel, by decide +kernel⟩, List.mem_of_getElem? (i := 249) (by decide +kernel), List.mem_of_getElem? (i := 593) (by decide +kernel), List.mem_of_getElem? (i := 594) (by decide +kernel)⟩
theorem lw_p12 : lw_okq (⟨"BackStairs$Planner", "fillLeast", "(I)V"⟩, 12) := ⟨⟨by decide +kernel, by decide +kernel⟩, List.mem_of_getElem? (i := 249) (by decide +kernel), List.mem_of_getElem? (i := 601) (by decide +kernel), List.mem_of_getElem? (i := 602) (by decide +kernel)⟩
theorem lw_p13 : lw_okq (⟨"BackStairs$Planner", "firstOrder", "([I)V"⟩, 12) := ⟨⟨by decide +kernel, by decide +kernel⟩, List.mem_of_getElem? (i := 249) (by decide +kernel), List.mem_of_getElem? (i := 606) (by decide +kernel), List.mem_of_getElem? (i := 607) (by decide +kernel)⟩
theorem lw_p14 : lw_okq (⟨"BackStairs$Planner", "doneAt", "(III)I"⟩, 12) := ⟨⟨by decide +kernel, by decide +kernel⟩, List.mem_of_getElem? (i := 249) (by decide +kernel), List.mem_of_getElem? (i := 610) (by decide +kernel), List.mem_of_getElem? (i := 611) (by decide +kernel)⟩
theorem lw_p15 : lw_okq (⟨"BackStairs$Planner", "takenAt", "(III)I"⟩, 12) := ⟨⟨by decide +kernel, by decide +kernel⟩, List.mem_of_getElem? (i := 249) (by decide +kernel), List.mem_of_getElem? (i := 616) (by decide +kernel), List.mem_of_getElem? (i := 617) (by decide +kernel)⟩
def lw_privs_1 : List (MethodName × Nat) := [(⟨"BackStairs", "doorsChanged", "()V"⟩, 14), (⟨"BackStairs$House", "measureFrom", "(IZ[I)V"⟩, 8), (⟨"BackStairs", "plansChanged", "()V"⟩, 14), (⟨"BackStairs$Tape", "letter", "(I)I"⟩, 4), (⟨"BackStairs$Tape", "peek", "()I"⟩, 4), (⟨"BackStairs$Tape", "fault", "()I"⟩, 4), (⟨"BackStairs$Tape", "number", "(II)I"⟩, 4), (⟨"BackStairs$Trips", "comersInto", "(II)I"⟩, 6), (⟨"BackStairs$Trips", "step", "(IIZ)I"⟩, 6), (⟨"BackStairs$Trips", "lowest", "(I)I"⟩, 6), (⟨"BackStairs", "isErrand", "(IIIII)Z"⟩, 14), (⟨"BackStairs$Planner", "fillEnds", "(I)V"⟩, 12), (⟨"BackStairs$Planner", "fillLeast", "(I)V"⟩, 12), (⟨"BackStairs$Planner", "firstOrder", "([I)V"⟩, 12), (⟨"BackStairs$Planner", "doneAt", "(III)I"⟩, 12), (⟨"BackStairs$Planner", "takenAt", "(III)I"⟩, 12)]
theorem lw_r1 : ∀ q ∈ lw_privs_1, lw_okq q := List.forall_mem_cons.mpr ⟨lw_p0, List.forall_mem_cons.mpr ⟨lw_p1, List.forall_mem_cons.mpr ⟨lw_p2, List.forall_mem_cons.mpr ⟨lw_p3, List.forall_mem_cons.mpr ⟨lw_p4, List.forall_mem_cons.mpr ⟨lw_p5, List.forall_mem_cons.mpr ⟨lw_p6, List.forall_mem_cons.mpr ⟨lw_p7, List.forall_mem_cons.mpr ⟨lw_p8, List.forall_mem_cons.mpr ⟨lw_p9, List.forall_mem_cons.mpr ⟨lw_p10, List.forall_mem_cons.mpr ⟨lw_p11, List.forall_mem_cons.mpr ⟨lw_p12, List.forall_mem_cons.mpr ⟨lw_p13, List.forall_mem_cons.mpr ⟨lw_p14, List.forall_mem_cons.mpr ⟨lw_p15, fun _ h => absurd h List.not_mem_nil⟩⟩⟩⟩⟩⟩⟩⟩⟩⟩⟩⟩⟩⟩⟩⟩
theorem lw_p16 : lw_okq (⟨"BackStairs$Planner", "nextOrder", "([I)Z"⟩, 12) := ⟨⟨by decide +kernel, by decide +kernel⟩, List.mem_of_getElem? (i := 249) (by decide +kernel), List.mem_of_getElem? (i := 625) (by decide +kernel), List.mem_of_getElem? (i := 626) (by decide +kernel)⟩
theorem lw_p17 : lw_okq (⟨"BackStairs$Planner", "swap", "([III)V"⟩, 12) := ⟨⟨by decide +kernel, by decide +kernel⟩, List.mem_of_getElem? (i := 249) (by decide +kernel), List.mem_of_getElem? (i := 629) (by decide +kernel), List.mem_of_getElem? (i := 630) (by decide +kernel)⟩
theorem lw_p18 : lw_okq (⟨"BackStairs$Planner", "makeBest", "(I)V"⟩, 12) := ⟨⟨by decide +kernel, by decide +kernel⟩, List.mem_of_getElem? (i := 249) (by decide +kernel), List.mem_of_getElem? (i := 633) (by decide +kernel), List.mem_of_getElem? (i := 634) (by decide +kernel)⟩
theorem lw_p19 : lw_okq (⟨"BackStairs$Planner", "costOf", "(II)I"⟩, 12) := ⟨⟨by decide +kernel, by decide +kernel⟩, List.mem_of_getElem? (i := 249) (by decide +kernel), List.mem_of_getElem? (i := 641) (by decide +kernel), List.mem_of_getElem? (i := 642) (by decide +kernel)⟩
theorem lw_p20 : lw_okq (⟨"BackStairs$Planner", "follow", "(LBackStairs$Plan;)V"⟩, 12) := ⟨⟨by decide +kernel, by decide +kernel⟩, List.mem_of_getElem? (i := 249) (by decide +kernel), List.mem_of_getElem? (i := 645) (by decide +kernel), List.mem_of_getElem? (i := 646) (by decide +kernel)⟩
theorem lw_p21 : lw_okq (⟨"BackStairs$Planner", "allHome", "()V"⟩, 12) := ⟨⟨by decide +kernel, by decide +kernel⟩, List.mem_of_getElem? (i := 249) (by decide +kernel), List.mem_of_getElem? (i := 649) (by decide +kernel), List.mem_of_getElem? (i := 650) (by decide +kernel)⟩
theorem lw_p22 : lw_okq (⟨"BackStairs$Planner", "carryOut", "(LBackStairs$Plan;I)V"⟩, 12) := ⟨⟨by decide +kernel, by decide +kernel⟩, List.mem_of_getElem? (i := 249) (by decide +kernel), List.mem_of_getElem? (i := 653) (by decide +kernel), List.mem_of_getElem? (i := 654) (by decide +kernel)⟩
theorem lw_p23 : lw_okq (⟨"BackStairs$Planner", "makeRule", "(I)V"⟩, 12) := ⟨⟨by decide +kernel, by decide +kernel⟩, List.mem_of_getElem? (i := 249) (by decide +kernel), List.mem_of_getElem? (i := 657) (by decide +kernel), List.mem_of_getElem? (i := 658) (by decide +kernel)⟩
theorem lw_p24 : lw_okq (⟨"BackStairs$Planner", "isAhead", "(II)Z"⟩, 12) := ⟨⟨by decide +kernel, by decide +kernel⟩, List.mem_of_getElem? (i := 249) (by decide +kernel), List.mem_of_getElem? (i := 661) (by decide +kernel), List.mem_of_getElem? (i := 662) (by decide +kernel)⟩
theorem lw_p25 : lw_okq (⟨"BackStairs$Planner", "soonestFor", "(II)I"⟩, 12) := ⟨⟨by decide +kernel, by decide +kernel⟩, List.mem_of_getElem? (i := 249) (by decide +kernel), List.mem_of_getElem? (i := 665) (by decide +kernel), List.mem_of_getElem? (i := 666) (by decide +kernel)⟩
theorem lw_p26 : lw_okq (⟨"BackStairs$Inquiry", "haveWays", "(II)Z"⟩, 3) := ⟨⟨by decide +kernel, by decide +kernel⟩, List.mem_of_getElem? (i := 325) (by decide +kernel), List.mem_of_getElem? (i := 758) (by decide +kernel), List.mem_of_getElem? (i := 759) (by decide +kernel)⟩
theorem lw_p27 : lw_okq (⟨"BackStairs$Inquiry", "pin", "(III)Z"⟩, 3) := ⟨⟨by decide +kernel, by decide +kernel⟩, List.mem_of_getElem? (i := 325) (by decide +kernel), List.mem_of_getElem? (i := 763) (by decide +kernel), List.mem_of_getElem? (i := 764) (by decide +kernel)⟩
theorem lw_p28 : lw_okq (⟨"BackStairs$Inquiry", "hasWay", "(I)Z"⟩, 3) := ⟨⟨by decide +kernel, by decide +kernel⟩, List.mem_of_getElem? (i := 325) (by decide +kernel), List.mem_of_getElem? (i := 767) (by decide +kernel), List.mem_of_getElem? (i := 768) (by decide +kernel)⟩
theorem lw_p29 : lw_okq (⟨"BackStairs$Inquiry", "wayOf", "(I)[[I"⟩, 3) := ⟨⟨by decide +kernel, by decide +kernel⟩, List.mem_of_getElem? (i := 325) (by decide +kernel), List.mem_of_getElem? (i := 771) (by decide +kernel), List.mem_of_getElem? (i := 772) (by decide +kernel)⟩
theorem lw_p30 : lw_okq (⟨"BackStairs$Inquiry", "othersMayBeElsewhere", "(II)Z"⟩, 3) := ⟨⟨by decide +kernel, by decide +kernel⟩, List.mem_of_getElem? (i := 325) (by decide +kernel), List.mem_of_getElem? (i := 796) (by decide +kernel), List.mem_of_getElem? (i := 797) (by decide +kernel)⟩
theorem lw_p31 : lw_okq (⟨"BackStairsModel", "isRoom", "(I)Z"⟩, 44) := ⟨⟨by decide +kernel, by decide +kernel⟩, List.mem_of_getElem? (i := 880) (by decide +kernel), List.mem_of_getElem? (i := 1027) (by decide +kernel), List.mem_of_getElem? (i := 1028) (by decide +kernel)⟩
def lw_privs_2 : List (MethodName × Nat) := [(⟨"BackStairs$Planner", "nextOrder", "([I)Z"⟩, 12), (⟨"BackStairs$Planner", "swap", "([III)V"⟩, 12), (⟨"BackStairs$Planner", "makeBest", "(I)V"⟩, 12), (⟨"BackStairs$Planner", "costOf", "(II)I"⟩, 12), (⟨"BackStairs$Planner", "follow", "(LBackStairs$Plan;)V"⟩, 12), (⟨"BackStairs$Planner", "allHome", "()V"⟩, 12), (⟨"BackStairs$Planner", "carryOut", "(LBackStairs$Plan;I)V"⟩, 12), (⟨"BackStairs$Planner", "makeRule", "(I)V"⟩, 12), (⟨"BackStairs$Planner", "isAhead", "(II)Z"⟩, 12), (⟨"BackStairs$Planner", "soonestFor", "(II)I"⟩, 12), (⟨"BackStairs$Inquiry", "haveWays", "(II)Z"⟩, 3), (⟨"BackStairs$Inquiry", "pin", "(III)Z"⟩, 3), (⟨"BackStairs$Inquiry", "hasWay", "(I)Z"⟩, 3), (⟨"BackStairs$Inquiry", "wayOf", "(I)[[I"⟩, 3), (⟨"BackStairs$Inquiry", "othersMayBeElsewhere", "(II)Z"⟩, 3), (⟨"BackStairsModel", "isRoom", "(I)Z"⟩, 44)]
theorem lw_r2 : ∀ q ∈ lw_privs_2, lw_okq q := List.forall_mem_cons.mpr ⟨lw_p16, List.forall_mem_cons.mpr ⟨lw_p17, List.forall_mem_cons.mpr ⟨lw_p18, List.forall_mem_cons.mpr ⟨lw_p19, List.forall_mem_cons.mpr ⟨lw_p20, List.forall_mem_cons.mpr ⟨lw_p21, List.forall_mem_cons.mpr ⟨lw_p22, List.forall_mem_cons.mpr ⟨lw_p23, List.forall_mem_cons.mpr ⟨lw_p24, List.forall_mem_cons.mpr ⟨lw_p25, List.forall_mem_cons.mpr ⟨lw_p26, List.forall_mem_cons.mpr ⟨lw_p27, List.forall_mem_cons.mpr ⟨lw_p28, List.forall_mem_cons.mpr ⟨lw_p29, List.forall_mem_cons.mpr ⟨lw_p30, List.forall_mem_cons.mpr ⟨lw_p31, fun _ h => absurd h List.not_mem_nil⟩⟩⟩⟩⟩⟩⟩⟩⟩⟩⟩⟩⟩⟩⟩⟩
theorem lw_p32 : lw_okq (⟨"BackStairsModel", "doorIs", "(III)V"⟩, 44) := ⟨⟨by decide +kernel, by decide +kernel⟩, List.mem_of_getElem? (i := 880) (by decide +kernel), List.mem_of_getElem? (i := 1034) (by decide +kernel), List.mem_of_getElem? (i := 1035) (by decide +kernel)⟩
theorem lw_p33 : lw_okq (⟨"BackStairsModel", "isWalked", "(II)Z"⟩, 44) := ⟨⟨by decide +kernel, by decide +kernel⟩, List.mem_of_getElem? (i := 880) (by decide +kernel), List.mem_of_getElem? (i := 1042) (by decide +kernel), List.mem_of_getElem? (i := 1043) (by decide +kernel)⟩
theorem lw_p34 : lw_okq (⟨"BackStairsModel", "walks", "()V"⟩, 44) := ⟨⟨by decide +kernel, by decide +kernel⟩, List.mem_of_getElem? (i := 880) (by decide +kernel), List.mem_of_getElem? (i := 1058) (by decide +kernel), List.mem_of_getElem? (i := 1059) (by decide +kernel)⟩
theorem lw_p35 : lw_okq (⟨"BackStairsModel", "here", "()I"⟩, 44) := ⟨⟨by decide +kernel, by decide +kernel⟩, List.mem_of_getElem? (i := 880) (by decide +kernel), List.mem_of_getElem? (i := 1062) (by decide +kernel), List.mem_of_getElem? (i := 1063) (by decide +kernel)⟩
theorem lw_p36 : lw_okq (⟨"BackStairsModel", "letter", "(I)I"⟩, 44) := ⟨⟨by decide +kernel, by decide +kernel⟩, List.mem_of_getElem? (i := 880) (by decide +kernel), List.mem_of_getElem? (i := 1066) (by decide +kernel), List.mem_of_getElem? (i := 1067) (by decide +kernel)⟩
theorem lw_p37 : lw_okq (⟨"BackStairsModel", "number", "(II)I"⟩, 44) := ⟨⟨by decide +kernel, by decide +kernel⟩, List.mem_of_getElem? (i := 880) (by decide +kernel), List.mem_of_getElem? (i := 1071) (by decide +kernel), List.mem_of_getElem? (i := 1072) (by decide +kernel)⟩
theorem lw_p38 : lw_okq (⟨"BackStairsModel", "lays", "()V"⟩, 44) := ⟨⟨by decide +kernel, by decide +kernel⟩, List.mem_of_getElem? (i := 880) (by decide +kernel), List.mem_of_getElem? (i := 1090) (by decide +kernel), List.mem_of_getElem? (i := 1091) (by decide +kernel)⟩
theorem lw_p39 : lw_okq (⟨"BackStairsModel", "reaches", "(IIZ)V"⟩, 44) := ⟨⟨by decide +kernel, by decide +kernel⟩, List.mem_of_getElem? (i := 880) (by decide +kernel), List.mem_of_getElem? (i := 1094) (by decide +kernel), List.mem_of_getElem? (i := 1095) (by decide +kernel)⟩
theorem lw_p40 : lw_okq (⟨"BackStairsModel", "isMet", "(II)Z"⟩, 44) := ⟨⟨by decide +kernel, by decide +kernel⟩, List.mem_of_getElem? (i := 880) (by decide +kernel), List.mem_of_getElem? (i := 1098) (by decide +kernel), List.mem_of_getElem? (i := 1099) (by decide +kernel)⟩
theorem lw_p41 : lw_okq (⟨"BackStairsModel", "may", "(IIIZ)Z"⟩, 44) := ⟨⟨by decide +kernel, by decide +kernel⟩, List.mem_of_getElem? (i := 880) (by decide +kernel), List.mem_of_getElem? (i := 1102) (by decide +kernel), List.mem_of_getElem? (i := 1103) (by decide +kernel)⟩
theorem lw_p42 : lw_okq (⟨"BackStairsModel", "endOf", "(IIIZ)I"⟩, 44) := ⟨⟨by decide +kernel, by decide +kernel⟩, List.mem_of_getElem? (i := 880) (by decide +kernel), List.mem_of_getElem? (i := 1106) (by decide +kernel), List.mem_of_getElem? (i := 1107) (by decide +kernel)⟩
theorem lw_p43 : lw_okq (⟨"BackStairsModel", "isErrand", "(IIIII)Z"⟩, 44) := ⟨⟨by decide +kernel, by decide +kernel⟩, List.mem_of_getElem? (i := 880) (by decide +kernel), List.mem_of_getElem? (i := 1126) (by decide +kernel), List.mem_of_getElem? (i := 1127) (by decide +kernel)⟩
theorem lw_p44 : lw_okq (⟨"BackStairsModel", "puts", "(IIIII)V"⟩, 44) := ⟨⟨by decide +kernel, by decide +kernel⟩, List.mem_of_getElem? (i := 880) (by decide +kernel), List.mem_of_getElem? (i := 1131) (by decide +kernel), List.mem_of_getElem? (i := 1132) (by decide +kernel)⟩
theorem lw_p45 : lw_okq (⟨"BackStairsModel", "finds", "(IIII)I"⟩, 44) := ⟨⟨by decide +kernel, by decide +kernel⟩, List.mem_of_getElem? (i := 880) (by decide +kernel), List.mem_of_getElem? (i := 1148) (by decide +kernel), List.mem_of_getElem? (i := 1149) (by decide +kernel)⟩
theorem lw_p46 : lw_okq (⟨"BackStairsModel", "well", "()I"⟩, 44) := ⟨⟨by decide +kernel, by decide +kernel⟩, List.mem_of_getElem? (i := 880) (by decide +kernel), List.mem_of_getElem? (i := 1161) (by decide +kernel), List.mem_of_getElem? (i := 1162) (by decide +kernel)⟩
theorem lw_p47 : lw_okq (⟨"BackStairsModel", "bestDone", "()I"⟩, 44) := ⟨⟨by decide +kernel, by decide +kernel⟩, List.mem_of_getElem? (i := 880) (by decide +kernel), List.mem_of_getElem? (i := 1165) (by decide +kernel), List.mem_of_getElem? (i := 1166) (by decide +kernel)⟩
def lw_privs_3 : List (MethodName × Nat) := [(⟨"BackStairsModel", "doorIs", "(III)V"⟩, 44), (⟨"BackStairsModel", "isWalked", "(II)Z"⟩, 44), (⟨"BackStairsModel", "walks", "()V"⟩, 44), (⟨"BackStairsModel", "here", "()I"⟩, 44), (⟨"BackStairsModel", "letter", "(I)I"⟩, 44), (⟨"BackStairsModel", "number", "(II)I"⟩, 44), (⟨"BackStairsModel", "lays", "()V"⟩, 44), (⟨"BackStairsModel", "reaches", "(IIZ)V"⟩, 44), (⟨"BackStairsModel", "isMet", "(II)Z"⟩, 44), (⟨"BackStairsModel", "may", "(IIIZ)Z"⟩, 44), (⟨"BackStairsModel", "endOf", "(IIIZ)I"⟩, 44), (⟨"BackStairsModel", "isErrand", "(IIIII)Z"⟩, 44), (⟨"BackStairsModel", "puts", "(IIIII)V"⟩, 44), (⟨"BackStairsModel", "finds", "(IIII)I"⟩, 44), (⟨"BackStairsModel", "well", "()I"⟩, 44), (⟨"BackStairsModel", "bestDone", "()I"⟩, 44)]
theorem lw_r3 : ∀ q ∈ lw_privs_3, lw_okq q := List.forall_mem_cons.mpr ⟨lw_p32, List.forall_mem_cons.mpr ⟨lw_p33, List.forall_mem_cons.mpr ⟨lw_p34, List.forall_mem_cons.mpr ⟨lw_p35, List.forall_mem_cons.mpr ⟨lw_p36, List.forall_mem_cons.mpr ⟨lw_p37, List.forall_mem_cons.mpr ⟨lw_p38, List.forall_mem_cons.mpr ⟨lw_p39, List.forall_mem_cons.mpr ⟨lw_p40, List.forall_mem_cons.mpr ⟨lw_p41, List.forall_mem_cons.mpr ⟨lw_p42, List.forall_mem_cons.mpr ⟨lw_p43, List.forall_mem_cons.mpr ⟨lw_p44, List.forall_mem_cons.mpr ⟨lw_p45, List.forall_mem_cons.mpr ⟨lw_p46, List.forall_mem_cons.mpr ⟨lw_p47, fun _ h => absurd h List.not_mem_nil⟩⟩⟩⟩⟩⟩⟩⟩⟩⟩⟩⟩⟩⟩⟩⟩
theorem lw_p48 : lw_okq (⟨"BackStairsModel", "best", "(I)I"⟩, 44) := ⟨⟨by decide +kernel, by decide +kernel⟩, List.mem_of_getElem? (i := 880) (by decide +kernel), List.mem_of_getElem? (i := 1169) (by decide +kernel), List.mem_of_getElem? (i := 1170) (by decide +kernel)⟩
theorem lw_p49 : lw_okq (⟨"BackStairsModel", "rows", "(I)V"⟩, 44) := ⟨⟨by decide +kernel, by decide +kernel⟩, List.mem_of_getElem? (i := 880) (by decide +kernel), List.mem_of_getElem? (i := 1174) (by decide +kernel), List.mem_of_getElem? (i := 1175) (by decide +kernel)⟩
theorem lw_p50 : lw_okq (⟨"BackStairsModel", "sumOf", "()I"⟩, 44) := ⟨⟨by decide +kernel, by decide +kernel⟩, List.mem_of_getElem? (i := 880) (by decide +kernel), List.mem_of_getElem? (i := 1178) (by decide +kernel), List.mem_of_getElem? (i := 1179) (by decide +kernel)⟩
theorem lw_p51 : lw_okq (⟨"BackStairsModel", "wakes", "()V"⟩, 44) := ⟨⟨by decide +kernel, by decide +kernel⟩, List.mem_of_getElem? (i := 880) (by decide +kernel), List.mem_of_getElem? (i := 1182) (by decide +kernel), List.mem_of_getElem? (i := 1183) (by decide +kernel)⟩
theorem lw_p52 : lw_okq (⟨"BackStairsModel", "doIt", "(II)V"⟩, 44) := ⟨⟨by decide +kernel, by decide +kernel⟩, List.mem_of_getElem? (i := 880) (by decide +kernel), List.mem_of_getElem? (i := 1186) (by decide +kernel), List.mem_of_getElem? (i := 1187) (by decide +kernel)⟩
theorem lw_p53 : lw_okq (⟨"BackStairsModel", "wouldBe", "(II)I"⟩, 44) := ⟨⟨by decide +kernel, by decide +kernel⟩, List.mem_of_getElem? (i := 880) (by decide +kernel), List.mem_of_getElem? (i := 1190) (by decide +kernel), List.mem_of_getElem? (i := 1191) (by decide +kernel)⟩
theorem lw_p54 : lw_okq (⟨"BackStairsModel", "costOf", "(I)I"⟩, 44) := ⟨⟨by decide +kernel, by decide +kernel⟩, List.mem_of_getElem? (i := 880) (by decide +kernel), List.mem_of_getElem? (i := 1194) (by decide +kernel), List.mem_of_getElem? (i := 1195) (by decide +kernel)⟩
theorem lw_p55 : lw_okq (⟨"BackStairsModel", "keeps", "()V"⟩, 44) := ⟨⟨by decide +kernel, by decide +kernel⟩, List.mem_of_getElem? (i := 880) (by decide +kernel), List.mem_of_getElem? (i := 1198) (by decide +kernel), List.mem_of_getElem? (i := 1199) (by decide +kernel)⟩
theorem lw_p56 : lw_okq (⟨"BackStairsModel", "ruled", "()I"⟩, 44) := ⟨⟨by decide +kernel, by decide +kernel⟩, List.mem_of_getElem? (i := 880) (by decide +kernel), List.mem_of_getElem? (i := 1206) (by decide +kernel), List.mem_of_getElem? (i := 1207) (by decide +kernel)⟩
theorem lw_p57 : lw_okq (⟨"BackStairsModel", "isOne", "(I)Z"⟩, 44) := ⟨⟨by decide +kernel, by decide +kernel⟩, List.mem_of_getElem? (i := 880) (by decide +kernel), List.mem_of_getElem? (i := 1237) (by decide +kernel), List.mem_of_getElem? (i := 1238) (by decide +kernel)⟩
theorem lw_p58 : lw_okq (⟨"BackStairsModel", "liarsBut", "(I)I"⟩, 44) := ⟨⟨by decide +kernel, by decide +kernel⟩, List.mem_of_getElem? (i := 880) (by decide +kernel), List.mem_of_getElem? (i := 1253) (by decide +kernel), List.mem_of_getElem? (i := 1254) (by decide +kernel)⟩
theorem lw_p59 : lw_okq (⟨"BackStairsModel", "goes", "(III)Z"⟩, 44) := ⟨⟨by decide +kernel, by decide +kernel⟩, List.mem_of_getElem? (i := 880) (by decide +kernel), List.mem_of_getElem? (i := 1257) (by decide +kernel), List.mem_of_getElem? (i := 1258) (by decide +kernel)⟩
theorem lw_p60 : lw_okq (⟨"BackStairsModel", "around", "(II)I"⟩, 44) := ⟨⟨by decide +kernel, by decide +kernel⟩, List.mem_of_getElem? (i := 880) (by decide +kernel), List.mem_of_getElem? (i := 1261) (by decide +kernel), List.mem_of_getElem? (i := 1262) (by decide +kernel)⟩
theorem lw_p61 : lw_okq (⟨"BackStairsModel", "suspectsBut", "(I)I"⟩, 44) := ⟨⟨by decide +kernel, by decide +kernel⟩, List.mem_of_getElem? (i := 880) (by decide +kernel), List.mem_of_getElem? (i := 1277) (by decide +kernel), List.mem_of_getElem? (i := 1278) (by decide +kernel)⟩
def lw_privs_4 : List (MethodName × Nat) := [(⟨"BackStairsModel", "best", "(I)I"⟩, 44), (⟨"BackStairsModel", "rows", "(I)V"⟩, 44), (⟨"BackStairsModel", "sumOf", "()I"⟩, 44), (⟨"BackStairsModel", "wakes", "()V"⟩, 44), (⟨"BackStairsModel", "doIt", "(II)V"⟩, 44), (⟨"BackStairsModel", "wouldBe", "(II)I"⟩, 44), (⟨"BackStairsModel", "costOf", "(I)I"⟩, 44), (⟨"BackStairsModel", "keeps", "()V"⟩, 44), (⟨"BackStairsModel", "ruled", "()I"⟩, 44), (⟨"BackStairsModel", "isOne", "(I)Z"⟩, 44), (⟨"BackStairsModel", "liarsBut", "(I)I"⟩, 44), (⟨"BackStairsModel", "goes", "(III)Z"⟩, 44), (⟨"BackStairsModel", "around", "(II)I"⟩, 44), (⟨"BackStairsModel", "suspectsBut", "(I)I"⟩, 44)]
theorem lw_r4 : ∀ q ∈ lw_privs_4, lw_okq q := List.forall_mem_cons.mpr ⟨lw_p48, List.forall_mem_cons.mpr ⟨lw_p49, List.forall_mem_cons.mpr ⟨lw_p50, List.forall_mem_cons.mpr ⟨lw_p51, List.forall_mem_cons.mpr ⟨lw_p52, List.forall_mem_cons.mpr ⟨lw_p53, List.forall_mem_cons.mpr ⟨lw_p54, List.forall_mem_cons.mpr ⟨lw_p55, List.forall_mem_cons.mpr ⟨lw_p56, List.forall_mem_cons.mpr ⟨lw_p57, List.forall_mem_cons.mpr ⟨lw_p58, List.forall_mem_cons.mpr ⟨lw_p59, List.forall_mem_cons.mpr ⟨lw_p60, List.forall_mem_cons.mpr ⟨lw_p61, fun _ h => absurd h List.not_mem_nil⟩⟩⟩⟩⟩⟩⟩⟩⟩⟩⟩⟩⟩⟩
def lw_privs : List (MethodName × Nat) := lw_privs_1 ++ (lw_privs_2 ++ (lw_privs_3 ++ (lw_privs_4)))
def lw_tbl : List Cond := k2_sels lw_privs ++ tables_1
theorem lw_privs_ok : ∀ q ∈ lw_privs, lw_okq q := by
  show ∀ q ∈ lw_privs_1 ++ (lw_privs_2 ++ (lw_privs_3 ++ (lw_privs_4))), lw_okq q
  exact List.forall_mem_append.mpr ⟨lw_r1, List.forall_mem_append.mpr ⟨lw_r2, List.forall_mem_append.mpr ⟨lw_r3, lw_r4⟩⟩⟩
/-! ===== BEGIN printed: names, fields, word lists, decode rows ===== -/
def RX0 : String := "BackStairs$House"
def TX0 : u_T := fun k => match k with
  | 0 => ("BackStairs$House", "rooms", "I", false)
  | 1 => ("BackStairs$House", "doors", "I", false)
  | 2 => ("BackStairs$House", "guests", "I", false)
  | 3 => ("BackStairs$House", "open", "[I", true)
  | 4 => ("BackStairs$House", "back", "[I", true)
  | 5 => ("BackStairs$House", "paths", "[[I", true)
  | 6 => ("BackStairs$House", "guestWay", "[[I", true)
  | _ => ("BackStairs$House", "servantWay", "[[I", true)
def tyX0 : Nat → FieldType := fun k => match k with
  | 0 => .int
  | 1 => .int
  | 2 => .int
  | 3 => .array .int
  | 4 => .array .int
  | 5 => .array (.array .int)
  | 6 => .array (.array .int)
  | _ => .array (.array .int)
abbrev wsX00 : List Cond := u_ws RX0 TX0 8
theorem nmX0 : ∀ a, a < 8 → ∀ b, b < 8 → a ≠ b → (TX0 a).2.1 ≠ (TX0 b).2.1 := by decide +kernel
theorem tyX0_ok : ∀ k, k < 8 → parseFieldDescriptor (TX0 k).2.2.1 = some (tyX0 k) := by decide +kernel
abbrev cX0_init : ByteArray := prog_2_method_1_code
def yX0_init : MethodName := ⟨RX0, "<init>", "()V"⟩
abbrev cX0_hasRoom : ByteArray := prog_2_method_2_code
def yX0_hasRoom : MethodName := ⟨RX0, "hasRoom", "(I)Z"⟩
abbrev cX0_arePair : ByteArray := prog_2_method_3_code
def yX0_arePair : MethodName := ⟨RX0, "arePair", "(II)Z"⟩
abbrev cX0_doorKind : ByteArray := prog_2_method_4_code
def yX0_doorKind : MethodName := ⟨RX0, "doorKind", "(II)I"⟩
abbrev cX0_putDoor : ByteArray := prog_2_method_5_code
def yX0_putDoor : MethodName := ⟨RX0, "putDoor", "(III)V"⟩
abbrev cX0_takeDoor : ByteArray := prog_2_method_6_code
def yX0_takeDoor : MethodName := ⟨RX0, "takeDoor", "(II)V"⟩
abbrev cX0_isWalked : ByteArray := prog_2_method_7_code
def yX0_isWalked : MethodName := ⟨RX0, "isWalked", "(II)Z"⟩
abbrev cX0_around : ByteArray := prog_2_method_8_code
def yX0_around : MethodName := ⟨RX0, "around", "(IZ)I"⟩
abbrev cX0_measure : ByteArray := prog_2_method_9_code
def yX0_measure : MethodName := ⟨RX0, "measure", "()V"⟩
abbrev cX0_measureFrom : ByteArray := prog_2_method_10_code
def yX0_measureFrom : MethodName := ⟨RX0, "measureFrom", "(IZ[I)V"⟩
abbrev cX0_become : ByteArray := prog_2_method_11_code
def yX0_become : MethodName := ⟨RX0, "become", "(LBackStairs$House;)V"⟩
def RX1 : String := "BackStairs$Inquiry"
def TX1 : u_T := fun k => match k with
  | 0 => ("BackStairs$Inquiry", "house", "LBackStairs$House;", true)
  | 1 => ("BackStairs$Inquiry", "talk", "LBackStairs$Talk;", true)
  | _ => ("BackStairs$Inquiry", "pins", "[[I", true)
def tyX1 : Nat → FieldType := fun k => match k with
  | 0 => .object "BackStairs$House"
  | 1 => .object "BackStairs$Talk"
  | _ => .array (.array .int)
abbrev wsX10 : List Cond := u_ws RX1 TX1 3
theorem nmX1 : ∀ a, a < 3 → ∀ b, b < 3 → a ≠ b → (TX1 a).2.1 ≠ (TX1 b).2.1 := by decide +kernel
theorem tyX1_ok : ∀ k, k < 3 → parseFieldDescriptor (TX1 k).2.2.1 = some (tyX1 k) := by decide +kernel
abbrev cX1_init : ByteArray := prog_3_method_1_code
def yX1_init : MethodName := ⟨RX1, "<init>", "(LBackStairs$House;LBackStairs$Talk;)V"⟩
abbrev cX1_findLiars : ByteArray := prog_3_method_2_code
def yX1_findLiars : MethodName := ⟨RX1, "findLiars", "(I)I"⟩
abbrev cX1_haveWays : ByteArray := prog_3_method_3_code
def yX1_haveWays : MethodName := ⟨RX1, "haveWays", "(II)Z"⟩
abbrev cX1_pin : ByteArray := prog_3_method_4_code
def yX1_pin : MethodName := ⟨RX1, "pin", "(III)Z"⟩
abbrev cX1_wayOf : ByteArray := prog_3_method_5_code
def yX1_wayOf : MethodName := ⟨RX1, "wayOf", "(I)[[I"⟩
abbrev cX1_hasWay : ByteArray := prog_3_method_6_code
def yX1_hasWay : MethodName := ⟨RX1, "hasWay", "(I)Z"⟩
abbrev cX1_roomsOf : ByteArray := prog_3_method_7_code
def yX1_roomsOf : MethodName := ⟨RX1, "roomsOf", "(II)I"⟩
abbrev cX1_isSuspect : ByteArray := prog_3_method_8_code
def yX1_isSuspect : MethodName := ⟨RX1, "isSuspect", "(I)Z"⟩
abbrev cX1_othersMayBeElsewhere : ByteArray := prog_3_method_9_code
def yX1_othersMayBeElsewhere : MethodName := ⟨RX1, "othersMayBeElsewhere", "(II)Z"⟩
def RX2 : String := "BackStairs$Plan"
def TX2 : u_T := fun k => match k with
  | 0 => ("BackStairs$Plan", "sum", "I", false)
  | 1 => ("BackStairs$Plan", "order", "[I", true)
  | 2 => ("BackStairs$Plan", "servantOf", "[I", true)
  | 3 => ("BackStairs$Plan", "done", "[I", true)
  | _ => ("BackStairs$Plan", "taken", "[I", true)
def tyX2 : Nat → FieldType := fun k => match k with
  | 0 => .int
  | 1 => .array .int
  | 2 => .array .int
  | 3 => .array .int
  | _ => .array .int
abbrev wsX20 : List Cond := u_ws RX2 TX2 5
theorem nmX2 : ∀ a, a < 5 → ∀ b, b < 5 → a ≠ b → (TX2 a).2.1 ≠ (TX2 b).2.1 := by decide +kernel
theorem tyX2_ok : ∀ k, k < 5 → parseFieldDescriptor (TX2 k).2.2.1 = some (tyX2 k) := by decide +kernel
abbrev cX2_init : ByteArray := prog_4_method_1_code
def yX2_init : MethodName := ⟨RX2, "<init>", "()V"⟩
abbrev cX2_errandOf : ByteArray := prog_4_method_2_code
def yX2_errandOf : MethodName := ⟨RX2, "errandOf", "(III)I"⟩
def RX3 : String := "BackStairs$Planner"
def TX3 : u_T := fun k => match k with
  | 0 => ("BackStairs$Planner", "house", "LBackStairs$House;", true)
  | 1 => ("BackStairs$Planner", "staff", "LBackStairs$Staff;", true)
  | 2 => ("BackStairs$Planner", "trips", "LBackStairs$Trips;", true)
  | 3 => ("BackStairs$Planner", "fresh", "Z", false)
  | 4 => ("BackStairs$Planner", "best", "LBackStairs$Plan;", true)
  | 5 => ("BackStairs$Planner", "rule", "LBackStairs$Plan;", true)
  | 6 => ("BackStairs$Planner", "ends", "[[I", true)
  | 7 => ("BackStairs$Planner", "least", "[[I", true)
  | 8 => ("BackStairs$Planner", "shares", "[I", true)
  | 9 => ("BackStairs$Planner", "where", "[I", true)
  | 10 => ("BackStairs$Planner", "free", "[I", true)
  | _ => ("BackStairs$Planner", "leastSharing", "I", false)
def tyX3 : Nat → FieldType := fun k => match k with
  | 0 => .object "BackStairs$House"
  | 1 => .object "BackStairs$Staff"
  | 2 => .object "BackStairs$Trips"
  | 3 => .boolean
  | 4 => .object "BackStairs$Plan"
  | 5 => .object "BackStairs$Plan"
  | 6 => .array (.array .int)
  | 7 => .array (.array .int)
  | 8 => .array .int
  | 9 => .array .int
  | 10 => .array .int
  | _ => .int
abbrev wsX30 : List Cond := u_ws RX3 TX3 12
theorem nmX3 : ∀ a, a < 12 → ∀ b, b < 12 → a ≠ b → (TX3 a).2.1 ≠ (TX3 b).2.1 := by decide +kernel
theorem tyX3_ok : ∀ k, k < 12 → parseFieldDescriptor (TX3 k).2.2.1 = some (tyX3 k) := by decide +kernel
abbrev cX3_init : ByteArray := prog_5_method_1_code
def yX3_init : MethodName := ⟨RX3, "<init>", "(LBackStairs$House;LBackStairs$Staff;LBackStairs$Trips;)V"⟩
abbrev cX3_plan : ByteArray := prog_5_method_2_code
def yX3_plan : MethodName := ⟨RX3, "plan", "(I)LBackStairs$Plan;"⟩
abbrev cX3_prepare : ByteArray := prog_5_method_3_code
def yX3_prepare : MethodName := ⟨RX3, "prepare", "()V"⟩
abbrev cX3_fillEnds : ByteArray := prog_5_method_4_code
def yX3_fillEnds : MethodName := ⟨RX3, "fillEnds", "(I)V"⟩
abbrev cX3_takenAt : ByteArray := prog_5_method_5_code
def yX3_takenAt : MethodName := ⟨RX3, "takenAt", "(III)I"⟩
abbrev cX3_doneAt : ByteArray := prog_5_method_6_code
def yX3_doneAt : MethodName := ⟨RX3, "doneAt", "(III)I"⟩
abbrev cX3_firstOrder : ByteArray := prog_5_method_7_code
def yX3_firstOrder : MethodName := ⟨RX3, "firstOrder", "([I)V"⟩
abbrev cX3_nextOrder : ByteArray := prog_5_method_8_code
def yX3_nextOrder : MethodName := ⟨RX3, "nextOrder", "([I)Z"⟩
abbrev cX3_swap : ByteArray := prog_5_method_9_code
def yX3_swap : MethodName := ⟨RX3, "swap", "([III)V"⟩
abbrev cX3_fillLeast : ByteArray := prog_5_method_10_code
def yX3_fillLeast : MethodName := ⟨RX3, "fillLeast", "(I)V"⟩
abbrev cX3_leastWith : ByteArray := prog_5_method_11_code
def yX3_leastWith : MethodName := ⟨RX3, "leastWith", "(I)I"⟩
abbrev cX3_costOf : ByteArray := prog_5_method_12_code
def yX3_costOf : MethodName := ⟨RX3, "costOf", "(II)I"⟩
abbrev cX3_makeBest : ByteArray := prog_5_method_13_code
def yX3_makeBest : MethodName := ⟨RX3, "makeBest", "(I)V"⟩
abbrev cX3_allHome : ByteArray := prog_5_method_14_code
def yX3_allHome : MethodName := ⟨RX3, "allHome", "()V"⟩
abbrev cX3_follow : ByteArray := prog_5_method_15_code
def yX3_follow : MethodName := ⟨RX3, "follow", "(LBackStairs$Plan;)V"⟩
abbrev cX3_carryOut : ByteArray := prog_5_method_16_code
def yX3_carryOut : MethodName := ⟨RX3, "carryOut", "(LBackStairs$Plan;I)V"⟩
abbrev cX3_makeRule : ByteArray := prog_5_method_17_code
def yX3_makeRule : MethodName := ⟨RX3, "makeRule", "(I)V"⟩
abbrev cX3_isAhead : ByteArray := prog_5_method_18_code
def yX3_isAhead : MethodName := ⟨RX3, "isAhead", "(II)Z"⟩
abbrev cX3_soonestFor : ByteArray := prog_5_method_19_code
def yX3_soonestFor : MethodName := ⟨RX3, "soonestFor", "(II)I"⟩
abbrev cX3_fewest : ByteArray := prog_5_method_20_code
def yX3_fewest : MethodName := ⟨RX3, "fewest", "()I"⟩
def RX4 : String := "BackStairs$Sheets"
def TX4 : u_T := fun k => match k with
  | 0 => ("BackStairs$Sheets", "lanes", "[I", true)
  | 1 => ("BackStairs$Sheets", "sizes", "[I", true)
  | _ => ("BackStairs$Sheets", "rows", "[[I", true)
def tyX4 : Nat → FieldType := fun k => match k with
  | 0 => .array .int
  | 1 => .array .int
  | _ => .array (.array .int)
abbrev wsX40 : List Cond := u_ws RX4 TX4 3
theorem nmX4 : ∀ a, a < 3 → ∀ b, b < 3 → a ≠ b → (TX4 a).2.1 ≠ (TX4 b).2.1 := by decide +kernel
theorem tyX4_ok : ∀ k, k < 3 → parseFieldDescriptor (TX4 k).2.2.1 = some (tyX4 k) := by decide +kernel
abbrev cX4_init : ByteArray := prog_6_method_1_code
def yX4_init : MethodName := ⟨RX4, "<init>", "()V"⟩
abbrev cX4_isSheet : ByteArray := prog_6_method_2_code
def yX4_isSheet : MethodName := ⟨RX4, "isSheet", "(I)Z"⟩
abbrev cX4_isLane : ByteArray := prog_6_method_3_code
def yX4_isLane : MethodName := ⟨RX4, "isLane", "(I)Z"⟩
abbrev cX4_isNothing : ByteArray := prog_6_method_4_code
def yX4_isNothing : MethodName := ⟨RX4, "isNothing", "(I)Z"⟩
abbrev cX4_holds : ByteArray := prog_6_method_5_code
def yX4_holds : MethodName := ⟨RX4, "holds", "(III)Z"⟩
abbrev cX4_renew : ByteArray := prog_6_method_6_code
def yX4_renew : MethodName := ⟨RX4, "renew", "(III)V"⟩
abbrev cX4_makeNothing : ByteArray := prog_6_method_7_code
def yX4_makeNothing : MethodName := ⟨RX4, "makeNothing", "(I)V"⟩
abbrev cX4_put : ByteArray := prog_6_method_8_code
def yX4_put : MethodName := ⟨RX4, "put", "(III)V"⟩
def RX5 : String := "BackStairs$Staff"
def TX5 : u_T := fun k => match k with
  | 0 => ("BackStairs$Staff", "servants", "I", false)
  | 1 => ("BackStairs$Staff", "ill", "I", false)
  | 2 => ("BackStairs$Staff", "cellar", "I", false)
  | 3 => ("BackStairs$Staff", "errands", "I", false)
  | 4 => ("BackStairs$Staff", "starts", "[I", true)
  | 5 => ("BackStairs$Staff", "kinds", "[I", true)
  | 6 => ("BackStairs$Staff", "rooms", "[I", true)
  | 7 => ("BackStairs$Staff", "ranks", "[I", true)
  | 8 => ("BackStairs$Staff", "froms", "[I", true)
  | _ => ("BackStairs$Staff", "dues", "[I", true)
def tyX5 : Nat → FieldType := fun k => match k with
  | 0 => .int
  | 1 => .int
  | 2 => .int
  | 3 => .int
  | 4 => .array .int
  | 5 => .array .int
  | 6 => .array .int
  | 7 => .array .int
  | 8 => .array .int
  | _ => .array .int
abbrev wsX50 : List Cond := u_ws RX5 TX5 10
theorem nmX5 : ∀ a, a < 10 → ∀ b, b < 10 → a ≠ b → (TX5 a).2.1 ≠ (TX5 b).2.1 := by decide +kernel
theorem tyX5_ok : ∀ k, k < 10 → parseFieldDescriptor (TX5 k).2.2.1 = some (tyX5 k) := by decide +kernel
abbrev cX5_init : ByteArray := prog_7_method_1_code
def yX5_init : MethodName := ⟨RX5, "<init>", "()V"⟩
abbrev cX5_hasServant : ByteArray := prog_7_method_2_code
def yX5_hasServant : MethodName := ⟨RX5, "hasServant", "(I)Z"⟩
abbrev cX5_hasErrand : ByteArray := prog_7_method_3_code
def yX5_hasErrand : MethodName := ⟨RX5, "hasErrand", "(I)Z"⟩
abbrev cX5_well : ByteArray := prog_7_method_4_code
def yX5_well : MethodName := ⟨RX5, "well", "()I"⟩
abbrev cX5_addErrand : ByteArray := prog_7_method_5_code
def yX5_addErrand : MethodName := ⟨RX5, "addErrand", "(IIIII)V"⟩
abbrev cX5_removeErrand : ByteArray := prog_7_method_6_code
def yX5_removeErrand : MethodName := ⟨RX5, "removeErrand", "(I)V"⟩
abbrev cX5_asTold : ByteArray := prog_7_method_7_code
def yX5_asTold : MethodName := ⟨RX5, "asTold", "(II)I"⟩
abbrev cX5_weight : ByteArray := prog_7_method_8_code
def yX5_weight : MethodName := ⟨RX5, "weight", "(II)I"⟩
abbrev cX5_become : ByteArray := prog_7_method_9_code
def yX5_become : MethodName := ⟨RX5, "become", "(LBackStairs$Staff;)V"⟩
def RX6 : String := "BackStairs$Talk"
def TX6 : u_T := fun k => match k with
  | 0 => ("BackStairs$Talk", "folk", "I", false)
  | 1 => ("BackStairs$Talk", "sayings", "I", false)
  | 2 => ("BackStairs$Talk", "stolen", "Z", false)
  | 3 => ("BackStairs$Talk", "theftRoom", "I", false)
  | 4 => ("BackStairs$Talk", "theftFrom", "I", false)
  | 5 => ("BackStairs$Talk", "theftTo", "I", false)
  | 6 => ("BackStairs$Talk", "kinds", "[I", true)
  | 7 => ("BackStairs$Talk", "speakers", "[I", true)
  | 8 => ("BackStairs$Talk", "seen", "[I", true)
  | 9 => ("BackStairs$Talk", "rooms", "[I", true)
  | _ => ("BackStairs$Talk", "ticks", "[I", true)
def tyX6 : Nat → FieldType := fun k => match k with
  | 0 => .int
  | 1 => .int
  | 2 => .boolean
  | 3 => .int
  | 4 => .int
  | 5 => .int
  | 6 => .array .int
  | 7 => .array .int
  | 8 => .array .int
  | 9 => .array .int
  | _ => .array .int
abbrev wsX60 : List Cond := u_ws RX6 TX6 11
theorem nmX6 : ∀ a, a < 11 → ∀ b, b < 11 → a ≠ b → (TX6 a).2.1 ≠ (TX6 b).2.1 := by decide +kernel
theorem tyX6_ok : ∀ k, k < 11 → parseFieldDescriptor (TX6 k).2.2.1 = some (tyX6 k) := by decide +kernel
abbrev cX6_init : ByteArray := prog_8_method_1_code
def yX6_init : MethodName := ⟨RX6, "<init>", "()V"⟩
abbrev cX6_hasOne : ByteArray := prog_8_method_2_code
def yX6_hasOne : MethodName := ⟨RX6, "hasOne", "(I)Z"⟩
abbrev cX6_addSaying : ByteArray := prog_8_method_3_code
def yX6_addSaying : MethodName := ⟨RX6, "addSaying", "(IIII)V"⟩
abbrev cX6_removeSaying : ByteArray := prog_8_method_4_code
def yX6_removeSaying : MethodName := ⟨RX6, "removeSaying", "(I)V"⟩
abbrev cX6_become : ByteArray := prog_8_method_5_code
def yX6_become : MethodName := ⟨RX6, "become", "(LBackStairs$Talk;)V"⟩
def RX7 : String := "BackStairs$Tape"
def TX7 : u_T := fun k => match k with
  | 0 => ("BackStairs$Tape", "length", "I", false)
  | 1 => ("BackStairs$Tape", "bytes", "[I", true)
  | 2 => ("BackStairs$Tape", "next", "I", false)
  | _ => ("BackStairs$Tape", "place", "I", false)
def tyX7 : Nat → FieldType := fun k => match k with
  | 0 => .int
  | 1 => .array .int
  | 2 => .int
  | _ => .int
abbrev wsX70 : List Cond := u_ws RX7 TX7 4
theorem nmX7 : ∀ a, a < 4 → ∀ b, b < 4 → a ≠ b → (TX7 a).2.1 ≠ (TX7 b).2.1 := by decide +kernel
theorem tyX7_ok : ∀ k, k < 4 → parseFieldDescriptor (TX7 k).2.2.1 = some (tyX7 k) := by decide +kernel
abbrev cX7_init : ByteArray := prog_9_method_1_code
def yX7_init : MethodName := ⟨RX7, "<init>", "()V"⟩
abbrev cX7_add : ByteArray := prog_9_method_2_code
def yX7_add : MethodName := ⟨RX7, "add", "(JI)I"⟩
abbrev cX7_byteOf : ByteArray := prog_9_method_3_code
def yX7_byteOf : MethodName := ⟨RX7, "byteOf", "(JI)I"⟩
abbrev cX7_clear : ByteArray := prog_9_method_4_code
def yX7_clear : MethodName := ⟨RX7, "clear", "()V"⟩
abbrev cX7_readWalk : ByteArray := prog_9_method_5_code
def yX7_readWalk : MethodName := ⟨RX7, "readWalk", "(LBackStairs$House;[I)I"⟩
abbrev cX7_readSayings : ByteArray := prog_9_method_6_code
def yX7_readSayings : MethodName := ⟨RX7, "readSayings", "(II[[I)I"⟩
abbrev cX7_fault : ByteArray := prog_9_method_7_code
def yX7_fault : MethodName := ⟨RX7, "fault", "()I"⟩
abbrev cX7_peek : ByteArray := prog_9_method_8_code
def yX7_peek : MethodName := ⟨RX7, "peek", "()I"⟩
abbrev cX7_letter : ByteArray := prog_9_method_9_code
def yX7_letter : MethodName := ⟨RX7, "letter", "(I)I"⟩
abbrev cX7_number : ByteArray := prog_9_method_10_code
def yX7_number : MethodName := ⟨RX7, "number", "(II)I"⟩
def RX8 : String := "BackStairs$Trips"
def TX8 : u_T := fun k => match k with
  | 0 => ("BackStairs$Trips", "house", "LBackStairs$House;", true)
  | 1 => ("BackStairs$Trips", "fresh", "Z", false)
  | 2 => ("BackStairs$Trips", "guestsIn", "[I", true)
  | 3 => ("BackStairs$Trips", "carry", "[[I", true)
  | 4 => ("BackStairs$Trips", "reached", "[I", true)
  | _ => ("BackStairs$Trips", "useful", "[I", true)
def tyX8 : Nat → FieldType := fun k => match k with
  | 0 => .object "BackStairs$House"
  | 1 => .boolean
  | 2 => .array .int
  | 3 => .array (.array .int)
  | 4 => .array .int
  | _ => .array .int
abbrev wsX80 : List Cond := u_ws RX8 TX8 6
theorem nmX8 : ∀ a, a < 6 → ∀ b, b < 6 → a ≠ b → (TX8 a).2.1 ≠ (TX8 b).2.1 := by decide +kernel
theorem tyX8_ok : ∀ k, k < 6 → parseFieldDescriptor (TX8 k).2.2.1 = some (tyX8 k) := by decide +kernel
abbrev cX8_init : ByteArray := prog_10_method_1_code
def yX8_init : MethodName := ⟨RX8, "<init>", "(LBackStairs$House;)V"⟩
abbrev cX8_prepare : ByteArray := prog_10_method_2_code
def yX8_prepare : MethodName := ⟨RX8, "prepare", "()V"⟩
abbrev cX8_comersInto : ByteArray := prog_10_method_3_code
def yX8_comersInto : MethodName := ⟨RX8, "comersInto", "(II)I"⟩
abbrev cX8_mayBegin : ByteArray := prog_10_method_4_code
def yX8_mayBegin : MethodName := ⟨RX8, "mayBegin", "(IIZ)Z"⟩
abbrev cX8_step : ByteArray := prog_10_method_5_code
def yX8_step : MethodName := ⟨RX8, "step", "(IIZ)I"⟩
abbrev cX8_onward : ByteArray := prog_10_method_6_code
def yX8_onward : MethodName := ⟨RX8, "onward", "(IIZ)I"⟩
abbrev cX8_soonest : ByteArray := prog_10_method_7_code
def yX8_soonest : MethodName := ⟨RX8, "soonest", "(IIIZ)I"⟩
abbrev cX8_roomOnTrip : ByteArray := prog_10_method_8_code
def yX8_roomOnTrip : MethodName := ⟨RX8, "roomOnTrip", "(IIIZI)I"⟩
abbrev cX8_lowest : ByteArray := prog_10_method_9_code
def yX8_lowest : MethodName := ⟨RX8, "lowest", "(I)I"⟩
def RX9 : String := "BackStairs"
def TX9 : u_T := fun k => match k with
  | 0 => ("BackStairs", "house", "LBackStairs$House;", true)
  | 1 => ("BackStairs", "staff", "LBackStairs$Staff;", true)
  | 2 => ("BackStairs", "talk", "LBackStairs$Talk;", true)
  | 3 => ("BackStairs", "keptHouse", "LBackStairs$House;", true)
  | 4 => ("BackStairs", "keptStaff", "LBackStairs$Staff;", true)
  | 5 => ("BackStairs", "keptTalk", "LBackStairs$Talk;", true)
  | 6 => ("BackStairs", "kept", "Z", false)
  | 7 => ("BackStairs", "tape", "LBackStairs$Tape;", true)
  | 8 => ("BackStairs", "sheets", "LBackStairs$Sheets;", true)
  | 9 => ("BackStairs", "trips", "LBackStairs$Trips;", true)
  | 10 => ("BackStairs", "planner", "LBackStairs$Planner;", true)
  | 11 => ("BackStairs", "inquiry", "LBackStairs$Inquiry;", true)
  | 12 => ("BackStairs", "path", "[I", true)
  | _ => ("BackStairs", "clauses", "[[I", true)
def tyX9 : Nat → FieldType := fun k => match k with
  | 0 => .object "BackStairs$House"
  | 1 => .object "BackStairs$Staff"
  | 2 => .object "BackStairs$Talk"
  | 3 => .object "BackStairs$House"
  | 4 => .object "BackStairs$Staff"
  | 5 => .object "BackStairs$Talk"
  | 6 => .boolean
  | 7 => .object "BackStairs$Tape"
  | 8 => .object "BackStairs$Sheets"
  | 9 => .object "BackStairs$Trips"
  | 10 => .object "BackStairs$Planner"
  | 11 => .object "BackStairs$Inquiry"
  | 12 => .array .int
  | _ => .array (.array .int)
abbrev wsX90 : List Cond := u_ws RX9 TX9 14
theorem nmX9 : ∀ a, a < 14 → ∀ b, b < 14 → a ≠ b → (TX9 a).2.1 ≠ (TX9 b).2.1 := by decide +kernel
theorem tyX9_ok : ∀ k, k < 14 → parseFieldDescriptor (TX9 k).2.2.1 = some (tyX9 k) := by decide +kernel
abbrev cX9_init : ByteArray := prog_1_method_1_code
def yX9_init : MethodName := ⟨RX9, "<init>", "()V"⟩
abbrev cX9_room : ByteArray := prog_1_method_2_code
def yX9_room : MethodName := ⟨RX9, "room", "()I"⟩
abbrev cX9_door : ByteArray := prog_1_method_3_code
def yX9_door : MethodName := ⟨RX9, "door", "(III)I"⟩
abbrev cX9_wall : ByteArray := prog_1_method_4_code
def yX9_wall : MethodName := ⟨RX9, "wall", "(II)I"⟩
abbrev cX9_type : ByteArray := prog_1_method_5_code
def yX9_type : MethodName := ⟨RX9, "type", "(JI)I"⟩
abbrev cX9_walk : ByteArray := prog_1_method_6_code
def yX9_walk : MethodName := ⟨RX9, "walk", "()I"⟩
abbrev cX9_guest : ByteArray := prog_1_method_7_code
def yX9_guest : MethodName := ⟨RX9, "guest", "(II)I"⟩
abbrev cX9_trip : ByteArray := prog_1_method_8_code
def yX9_trip : MethodName := ⟨RX9, "trip", "(IIIZI)I"⟩
abbrev cX9_servant : ByteArray := prog_1_method_9_code
def yX9_servant : MethodName := ⟨RX9, "servant", "(I)I"⟩
abbrev cX9_ill : ByteArray := prog_1_method_10_code
def yX9_ill : MethodName := ⟨RX9, "ill", "(IZ)I"⟩
abbrev cX9_cellar : ByteArray := prog_1_method_11_code
def yX9_cellar : MethodName := ⟨RX9, "cellar", "(I)I"⟩
abbrev cX9_errand : ByteArray := prog_1_method_12_code
def yX9_errand : MethodName := ⟨RX9, "errand", "(IIIII)I"⟩
abbrev cX9_told : ByteArray := prog_1_method_13_code
def yX9_told : MethodName := ⟨RX9, "told", "(II)I"⟩
abbrev cX9_drop : ByteArray := prog_1_method_14_code
def yX9_drop : MethodName := ⟨RX9, "drop", "(I)I"⟩
abbrev cX9_cost : ByteArray := prog_1_method_15_code
def yX9_cost : MethodName := ⟨RX9, "cost", "(I)I"⟩
abbrev cX9_does : ByteArray := prog_1_method_16_code
def yX9_does : MethodName := ⟨RX9, "does", "(III)I"⟩
abbrev cX9_enough : ByteArray := prog_1_method_17_code
def yX9_enough : MethodName := ⟨RX9, "enough", "()I"⟩
abbrev cX9_missed : ByteArray := prog_1_method_18_code
def yX9_missed : MethodName := ⟨RX9, "missed", "(I)I"⟩
abbrev cX9_opened : ByteArray := prog_1_method_19_code
def yX9_opened : MethodName := ⟨RX9, "opened", "(II)I"⟩
abbrev cX9_folk : ByteArray := prog_1_method_20_code
def yX9_folk : MethodName := ⟨RX9, "folk", "(I)I"⟩
abbrev cX9_say : ByteArray := prog_1_method_21_code
def yX9_say : MethodName := ⟨RX9, "say", "(IIII)I"⟩
abbrev cX9_sayings : ByteArray := prog_1_method_22_code
def yX9_sayings : MethodName := ⟨RX9, "sayings", "()I"⟩
abbrev cX9_unsay : ByteArray := prog_1_method_23_code
def yX9_unsay : MethodName := ⟨RX9, "unsay", "(I)I"⟩
abbrev cX9_liars : ByteArray := prog_1_method_24_code
def yX9_liars : MethodName := ⟨RX9, "liars", "()I"⟩
abbrev cX9_maybe : ByteArray := prog_1_method_25_code
def yX9_maybe : MethodName := ⟨RX9, "maybe", "(II)I"⟩
abbrev cX9_theft : ByteArray := prog_1_method_26_code
def yX9_theft : MethodName := ⟨RX9, "theft", "(III)I"⟩
abbrev cX9_suspects : ByteArray := prog_1_method_27_code
def yX9_suspects : MethodName := ⟨RX9, "suspects", "()I"⟩
abbrev cX9_clears : ByteArray := prog_1_method_28_code
def yX9_clears : MethodName := ⟨RX9, "clears", "(I)I"⟩
abbrev cX9_count : ByteArray := prog_1_method_29_code
def yX9_count : MethodName := ⟨RX9, "count", "(I)I"⟩
abbrev cX9_image : ByteArray := prog_1_method_30_code
def yX9_image : MethodName := ⟨RX9, "image", "()I"⟩
abbrev cX9_restore : ByteArray := prog_1_method_31_code
def yX9_restore : MethodName := ⟨RX9, "restore", "()I"⟩
abbrev cX9_errands : ByteArray := prog_1_method_32_code
def yX9_errands : MethodName := ⟨RX9, "errands", "(IIII)I"⟩
abbrev cX9_sheet : ByteArray := prog_1_method_33_code
def yX9_sheet : MethodName := ⟨RX9, "sheet", "(III)I"⟩
abbrev cX9_empty : ByteArray := prog_1_method_34_code
def yX9_empty : MethodName := ⟨RX9, "empty", "(I)I"⟩
abbrev cX9_item : ByteArray := prog_1_method_35_code
def yX9_item : MethodName := ⟨RX9, "item", "(IIII)I"⟩
abbrev cX9_copy : ByteArray := prog_1_method_36_code
def yX9_copy : MethodName := ⟨RX9, "copy", "(IIIII)I"⟩
abbrev cX9_isTick : ByteArray := prog_1_method_37_code
def yX9_isTick : MethodName := ⟨RX9, "isTick", "(I)Z"⟩
abbrev cX9_isErrand : ByteArray := prog_1_method_38_code
def yX9_isErrand : MethodName := ⟨RX9, "isErrand", "(IIIII)Z"⟩
abbrev cX9_doorsChanged : ByteArray := prog_1_method_39_code
def yX9_doorsChanged : MethodName := ⟨RX9, "doorsChanged", "()V"⟩
abbrev cX9_plansChanged : ByteArray := prog_1_method_40_code
def yX9_plansChanged : MethodName := ⟨RX9, "plansChanged", "()V"⟩
def RX10 : String := "BackStairsModel"
def TX10 : u_T := fun k => match k with
  | 0 => ("BackStairsModel", "rooms", "I", false)
  | 1 => ("BackStairsModel", "doors", "I", false)
  | 2 => ("BackStairsModel", "doorKind", "[I", true)
  | 3 => ("BackStairsModel", "guests", "I", false)
  | 4 => ("BackStairsModel", "guestAt", "[I", true)
  | 5 => ("BackStairsModel", "cellar", "I", false)
  | 6 => ("BackStairsModel", "tape", "[I", true)
  | 7 => ("BackStairsModel", "taped", "I", false)
  | 8 => ("BackStairsModel", "at", "I", false)
  | 9 => ("BackStairsModel", "wrong", "Z", false)
  | 10 => ("BackStairsModel", "walked", "[I", true)
  | 11 => ("BackStairsModel", "can", "[I", true)
  | 12 => ("BackStairsModel", "ends", "[I", true)
  | 13 => ("BackStairsModel", "laid", "Z", false)
  | 14 => ("BackStairsModel", "servants", "I", false)
  | 15 => ("BackStairsModel", "beginsIn", "[I", true)
  | 16 => ("BackStairsModel", "isIll", "[I", true)
  | 17 => ("BackStairsModel", "errandMany", "I", false)
  | 18 => ("BackStairsModel", "parts", "[I", true)
  | 19 => ("BackStairsModel", "where", "[I", true)
  | 20 => ("BackStairsModel", "free", "[I", true)
  | 21 => ("BackStairsModel", "done", "[I", true)
  | 22 => ("BackStairsModel", "taken", "[I", true)
  | 23 => ("BackStairsModel", "takes", "I", false)
  | 24 => ("BackStairsModel", "bestBy", "[I", true)
  | 25 => ("BackStairsModel", "bestRow", "[I", true)
  | 26 => ("BackStairsModel", "by", "[I", true)
  | 27 => ("BackStairsModel", "row", "[I", true)
  | 28 => ("BackStairsModel", "folkMany", "I", false)
  | 29 => ("BackStairsModel", "folkKind", "[I", true)
  | 30 => ("BackStairsModel", "said", "I", false)
  | 31 => ("BackStairsModel", "sayingParts", "[I", true)
  | 32 => ("BackStairsModel", "theftRoom", "I", false)
  | 33 => ("BackStairsModel", "theftFrom", "I", false)
  | 34 => ("BackStairsModel", "theftTo", "I", false)
  | 35 => ("BackStairsModel", "read", "[I", true)
  | 36 => ("BackStairsModel", "ways", "[I", true)
  | 37 => ("BackStairsModel", "near", "[I", true)
  | 38 => ("BackStairsModel", "image", "[I", true)
  | 39 => ("BackStairsModel", "kept", "Z", false)
  | 40 => ("BackStairsModel", "lanes", "[I", true)
  | 41 => ("BackStairsModel", "sizes", "[I", true)
  | 42 => ("BackStairsModel", "items", "[I", true)
  | _ => ("BackStairsModel", "moved", "[I", true)
def tyX10 : Nat → FieldType := fun k => match k with
  | 0 => .int
  | 1 => .int
  | 2 => .array .int
  | 3 => .int
  | 4 => .array .int
  | 5 => .int
  | 6 => .array .int
  | 7 => .int
  | 8 => .int
  | 9 => .boolean
  | 10 => .array .int
  | 11 => .array .int
  | 12 => .array .int
  | 13 => .boolean
  | 14 => .int
  | 15 => .array .int
  | 16 => .array .int
  | 17 => .int
  | 18 => .array .int
  | 19 => .array .int
  | 20 => .array .int
  | 21 => .array .int
  | 22 => .array .int
  | 23 => .int
  | 24 => .array .int
  | 25 => .array .int
  | 26 => .array .int
  | 27 => .array .int
  | 28 => .int
  | 29 => .array .int
  | 30 => .int
  | 31 => .array .int
  | 32 => .int
  | 33 => .int
  | 34 => .int
  | 35 => .array .int
  | 36 => .array .int
  | 37 => .array .int
  | 38 => .array .int
  | 39 => .boolean
  | 40 => .array .int
  | 41 => .array .int
  | 42 => .array .int
  | _ => .array .int
abbrev wsX100 : List Cond := u_ws RX10 TX10 44
theorem nmX10 : ∀ a, a < 44 → ∀ b, b < 44 → a ≠ b → (TX10 a).2.1 ≠ (TX10 b).2.1 := by decide +kernel
theorem tyX10_ok : ∀ k, k < 44 → parseFieldDescriptor (TX10 k).2.2.1 = some (tyX10 k) := by decide +kernel
abbrev cX10_in : ByteArray := prog_12_method_2_code
def yX10_in : MethodName := ⟨RX10, "in", "(JJJ)Z"⟩
abbrev cX10_init : ByteArray := prog_12_method_3_code
def yX10_init : MethodName := ⟨RX10, "<init>", "()V"⟩
abbrev cX10_isRoom : ByteArray := prog_12_method_4_code
def yX10_isRoom : MethodName := ⟨RX10, "isRoom", "(I)Z"⟩
abbrev cX10_isTick : ByteArray := prog_12_method_5_code
def yX10_isTick : MethodName := ⟨RX10, "isTick", "(I)Z"⟩
abbrev cX10_room : ByteArray := prog_12_method_6_code
def yX10_room : MethodName := ⟨RX10, "room", "()I"⟩
abbrev cX10_doorIs : ByteArray := prog_12_method_7_code
def yX10_doorIs : MethodName := ⟨RX10, "doorIs", "(III)V"⟩
abbrev cX10_door : ByteArray := prog_12_method_8_code
def yX10_door : MethodName := ⟨RX10, "door", "(III)I"⟩
abbrev cX10_isWalked : ByteArray := prog_12_method_9_code
def yX10_isWalked : MethodName := ⟨RX10, "isWalked", "(II)Z"⟩
abbrev cX10_wall : ByteArray := prog_12_method_10_code
def yX10_wall : MethodName := ⟨RX10, "wall", "(II)I"⟩
abbrev cX10_type : ByteArray := prog_12_method_11_code
def yX10_type : MethodName := ⟨RX10, "type", "(JI)I"⟩
abbrev cX10_here : ByteArray := prog_12_method_12_code
def yX10_here : MethodName := ⟨RX10, "here", "()I"⟩
abbrev cX10_letter : ByteArray := prog_12_method_13_code
def yX10_letter : MethodName := ⟨RX10, "letter", "(I)I"⟩
abbrev cX10_number : ByteArray := prog_12_method_14_code
def yX10_number : MethodName := ⟨RX10, "number", "(II)I"⟩
abbrev cX10_walks : ByteArray := prog_12_method_15_code
def yX10_walks : MethodName := ⟨RX10, "walks", "()V"⟩
abbrev cX10_walk : ByteArray := prog_12_method_16_code
def yX10_walk : MethodName := ⟨RX10, "walk", "()I"⟩
abbrev cX10_guest : ByteArray := prog_12_method_17_code
def yX10_guest : MethodName := ⟨RX10, "guest", "(II)I"⟩
abbrev cX10_isMet : ByteArray := prog_12_method_18_code
def yX10_isMet : MethodName := ⟨RX10, "isMet", "(II)Z"⟩
abbrev cX10_may : ByteArray := prog_12_method_19_code
def yX10_may : MethodName := ⟨RX10, "may", "(IIIZ)Z"⟩
abbrev cX10_reaches : ByteArray := prog_12_method_20_code
def yX10_reaches : MethodName := ⟨RX10, "reaches", "(IIZ)V"⟩
abbrev cX10_lays : ByteArray := prog_12_method_21_code
def yX10_lays : MethodName := ⟨RX10, "lays", "()V"⟩
abbrev cX10_endOf : ByteArray := prog_12_method_22_code
def yX10_endOf : MethodName := ⟨RX10, "endOf", "(IIIZ)I"⟩
abbrev cX10_trip : ByteArray := prog_12_method_23_code
def yX10_trip : MethodName := ⟨RX10, "trip", "(IIIZI)I"⟩
abbrev cX10_servant : ByteArray := prog_12_method_24_code
def yX10_servant : MethodName := ⟨RX10, "servant", "(I)I"⟩
abbrev cX10_ill : ByteArray := prog_12_method_25_code
def yX10_ill : MethodName := ⟨RX10, "ill", "(IZ)I"⟩
abbrev cX10_cellar : ByteArray := prog_12_method_26_code
def yX10_cellar : MethodName := ⟨RX10, "cellar", "(I)I"⟩
abbrev cX10_isErrand : ByteArray := prog_12_method_27_code
def yX10_isErrand : MethodName := ⟨RX10, "isErrand", "(IIIII)Z"⟩
abbrev cX10_puts : ByteArray := prog_12_method_28_code
def yX10_puts : MethodName := ⟨RX10, "puts", "(IIIII)V"⟩
abbrev cX10_errand : ByteArray := prog_12_method_29_code
def yX10_errand : MethodName := ⟨RX10, "errand", "(IIIII)I"⟩
abbrev cX10_errands : ByteArray := prog_12_method_30_code
def yX10_errands : MethodName := ⟨RX10, "errands", "(IIII)I"⟩
abbrev cX10_drop : ByteArray := prog_12_method_31_code
def yX10_drop : MethodName := ⟨RX10, "drop", "(I)I"⟩
abbrev cX10_wakes : ByteArray := prog_12_method_32_code
def yX10_wakes : MethodName := ⟨RX10, "wakes", "()V"⟩
abbrev cX10_wouldBe : ByteArray := prog_12_method_33_code
def yX10_wouldBe : MethodName := ⟨RX10, "wouldBe", "(II)I"⟩
abbrev cX10_doIt : ByteArray := prog_12_method_34_code
def yX10_doIt : MethodName := ⟨RX10, "doIt", "(II)V"⟩
abbrev cX10_costOf : ByteArray := prog_12_method_35_code
def yX10_costOf : MethodName := ⟨RX10, "costOf", "(I)I"⟩
abbrev cX10_well : ByteArray := prog_12_method_36_code
def yX10_well : MethodName := ⟨RX10, "well", "()I"⟩
abbrev cX10_size : ByteArray := prog_12_method_37_code
def yX10_size : MethodName := ⟨RX10, "size", "(I)I"⟩
abbrev cX10_sumOf : ByteArray := prog_12_method_38_code
def yX10_sumOf : MethodName := ⟨RX10, "sumOf", "()I"⟩
abbrev cX10_rows : ByteArray := prog_12_method_39_code
def yX10_rows : MethodName := ⟨RX10, "rows", "(I)V"⟩
abbrev cX10_best : ByteArray := prog_12_method_40_code
def yX10_best : MethodName := ⟨RX10, "best", "(I)I"⟩
abbrev cX10_keeps : ByteArray := prog_12_method_41_code
def yX10_keeps : MethodName := ⟨RX10, "keeps", "()V"⟩
abbrev cX10_ruled : ByteArray := prog_12_method_42_code
def yX10_ruled : MethodName := ⟨RX10, "ruled", "()I"⟩
abbrev cX10_bestDone : ByteArray := prog_12_method_43_code
def yX10_bestDone : MethodName := ⟨RX10, "bestDone", "()I"⟩
abbrev cX10_told : ByteArray := prog_12_method_44_code
def yX10_told : MethodName := ⟨RX10, "told", "(II)I"⟩
abbrev cX10_cost : ByteArray := prog_12_method_45_code
def yX10_cost : MethodName := ⟨RX10, "cost", "(I)I"⟩
abbrev cX10_does : ByteArray := prog_12_method_46_code
def yX10_does : MethodName := ⟨RX10, "does", "(III)I"⟩
abbrev cX10_enough : ByteArray := prog_12_method_47_code
def yX10_enough : MethodName := ⟨RX10, "enough", "()I"⟩
abbrev cX10_missed : ByteArray := prog_12_method_48_code
def yX10_missed : MethodName := ⟨RX10, "missed", "(I)I"⟩
abbrev cX10_opened : ByteArray := prog_12_method_49_code
def yX10_opened : MethodName := ⟨RX10, "opened", "(II)I"⟩
abbrev cX10_isOne : ByteArray := prog_12_method_50_code
def yX10_isOne : MethodName := ⟨RX10, "isOne", "(I)Z"⟩
abbrev cX10_folk : ByteArray := prog_12_method_51_code
def yX10_folk : MethodName := ⟨RX10, "folk", "(I)I"⟩
abbrev cX10_say : ByteArray := prog_12_method_52_code
def yX10_say : MethodName := ⟨RX10, "say", "(IIII)I"⟩
abbrev cX10_sayings : ByteArray := prog_12_method_53_code
def yX10_sayings : MethodName := ⟨RX10, "sayings", "()I"⟩
abbrev cX10_unsay : ByteArray := prog_12_method_54_code
def yX10_unsay : MethodName := ⟨RX10, "unsay", "(I)I"⟩
abbrev cX10_goes : ByteArray := prog_12_method_55_code
def yX10_goes : MethodName := ⟨RX10, "goes", "(III)Z"⟩
abbrev cX10_around : ByteArray := prog_12_method_56_code
def yX10_around : MethodName := ⟨RX10, "around", "(II)I"⟩
abbrev cX10_liarsBut : ByteArray := prog_12_method_57_code
def yX10_liarsBut : MethodName := ⟨RX10, "liarsBut", "(I)I"⟩
abbrev cX10_liars : ByteArray := prog_12_method_58_code
def yX10_liars : MethodName := ⟨RX10, "liars", "()I"⟩
abbrev cX10_maybe : ByteArray := prog_12_method_59_code
def yX10_maybe : MethodName := ⟨RX10, "maybe", "(II)I"⟩
abbrev cX10_theft : ByteArray := prog_12_method_60_code
def yX10_theft : MethodName := ⟨RX10, "theft", "(III)I"⟩
abbrev cX10_suspectsBut : ByteArray := prog_12_method_61_code
def yX10_suspectsBut : MethodName := ⟨RX10, "suspectsBut", "(I)I"⟩
abbrev cX10_suspects : ByteArray := prog_12_method_62_code
def yX10_suspects : MethodName := ⟨RX10, "suspects", "()I"⟩
abbrev cX10_clears : ByteArray := prog_12_method_63_code
def yX10_clears : MethodName := ⟨RX10, "clears", "(I)I"⟩
abbrev cX10_count : ByteArray := prog_12_method_64_code
def yX10_count : MethodName := ⟨RX10, "count", "(I)I"⟩
abbrev cX10_saves : ByteArray := prog_12_method_65_code
def yX10_saves : MethodName := ⟨RX10, "saves", "([I[II)I"⟩
abbrev cX10_gives : ByteArray := prog_12_method_66_code
def yX10_gives : MethodName := ⟨RX10, "gives", "([II[I)I"⟩
abbrev cX10_image : ByteArray := prog_12_method_67_code
def yX10_image : MethodName := ⟨RX10, "image", "()I"⟩
abbrev cX10_restore : ByteArray := prog_12_method_68_code
def yX10_restore : MethodName := ⟨RX10, "restore", "()I"⟩
abbrev cX10_isSheet : ByteArray := prog_12_method_69_code
def yX10_isSheet : MethodName := ⟨RX10, "isSheet", "(I)Z"⟩
abbrev cX10_isLane : ByteArray := prog_12_method_70_code
def yX10_isLane : MethodName := ⟨RX10, "isLane", "(I)Z"⟩
abbrev cX10_finds : ByteArray := prog_12_method_71_code
def yX10_finds : MethodName := ⟨RX10, "finds", "(IIII)I"⟩
abbrev cX10_sheet : ByteArray := prog_12_method_72_code
def yX10_sheet : MethodName := ⟨RX10, "sheet", "(III)I"⟩
abbrev cX10_empty : ByteArray := prog_12_method_73_code
def yX10_empty : MethodName := ⟨RX10, "empty", "(I)I"⟩
abbrev cX10_item : ByteArray := prog_12_method_74_code
def yX10_item : MethodName := ⟨RX10, "item", "(IIII)I"⟩
abbrev cX10_copy : ByteArray := prog_12_method_75_code
def yX10_copy : MethodName := ⟨RX10, "copy", "(IIIII)I"⟩
def RJ6 : String := "java/lang/Integer"
def TJ6 : u_T := fun k => match k with
  | _ => ("", "", "", false)
def tyJ6 : Nat → FieldType := fun k => match k with
  | _ => .int
abbrev wsJ60 : List Cond := u_ws RJ6 TJ6 0
theorem nmJ6 : ∀ a, a < 0 → ∀ b, b < 0 → a ≠ b → (TJ6 a).2.1 ≠ (TJ6 b).2.1 := by decide +kernel
theorem tyJ6_ok : ∀ k, k < 0 → parseFieldDescriptor (TJ6 k).2.2.1 = some (tyJ6 k) := by decide +kernel
abbrev cJ6_bitCount_0f7a4 : ByteArray := prog_13_method_49_code
def yJ6_bitCount_0f7a4 : MethodName := ⟨RJ6, "bitCount", "(I)I"⟩
def RJ9 : String := "java/lang/Math"
def TJ9 : u_T := fun k => match k with
  | _ => ("", "", "", false)
def tyJ9 : Nat → FieldType := fun k => match k with
  | _ => .int
abbrev wsJ90 : List Cond := u_ws RJ9 TJ9 0
theorem nmJ9 : ∀ a, a < 0 → ∀ b, b < 0 → a ≠ b → (TJ9 a).2.1 ≠ (TJ9 b).2.1 := by decide +kernel
theorem tyJ9_ok : ∀ k, k < 0 → parseFieldDescriptor (TJ9 k).2.2.1 = some (tyJ9 k) := by decide +kernel
abbrev cJ9_max_7cf53 : ByteArray := prog_14_method_65_code
def yJ9_max_7cf53 : MethodName := ⟨RJ9, "max", "(II)I"⟩
abbrev cJ9_min_7cf53 : ByteArray := prog_14_method_69_code
def yJ9_min_7cf53 : MethodName := ⟨RJ9, "min", "(II)I"⟩
def RJ10 : String := "java/lang/System"
def TJ10 : u_T := fun k => match k with
  | _ => ("", "", "", false)
def tyJ10 : Nat → FieldType := fun k => match k with
  | _ => .int
abbrev wsJ100 : List Cond := u_ws RJ10 TJ10 0
theorem nmJ10 : ∀ a, a < 0 → ∀ b, b < 0 → a ≠ b → (TJ10 a).2.1 ≠ (TJ10 b).2.1 := by decide +kernel
theorem tyJ10_ok : ∀ k, k < 0 → parseFieldDescriptor (TJ10 k).2.2.1 = some (tyJ10 k) := by decide +kernel
def RJ7 : String := "java/util/Arrays"
def TJ7 : u_T := fun k => match k with
  | _ => ("", "", "", false)
def tyJ7 : Nat → FieldType := fun k => match k with
  | _ => .int
abbrev wsJ70 : List Cond := u_ws RJ7 TJ7 0
theorem nmJ7 : ∀ a, a < 0 → ∀ b, b < 0 → a ≠ b → (TJ7 a).2.1 ≠ (TJ7 b).2.1 := by decide +kernel
theorem tyJ7_ok : ∀ k, k < 0 → parseFieldDescriptor (TJ7 k).2.2.1 = some (tyJ7 k) := by decide +kernel
abbrev cJ7_rangeCheck_23922 : ByteArray := prog_16_method_30_code
def yJ7_rangeCheck_23922 : MethodName := ⟨RJ7, "rangeCheck", "(III)V"⟩
abbrev cJ7_fill_53178 : ByteArray := prog_16_method_103_code
def yJ7_fill_53178 : MethodName := ⟨RJ7, "fill", "([II)V"⟩
abbrev cJ7_fill_fda19 : ByteArray := prog_16_method_104_code
def yJ7_fill_fda19 : MethodName := ⟨RJ7, "fill", "([IIII)V"⟩
def RL : String := "BackStairsLaw"
abbrev cL_law : ByteArray := code
def yL_law : MethodName := ⟨RL, "law", "([I)Z"⟩
abbrev vwCl : List vw_C := [(RX0, TX0, 8), (RX1, TX1, 3), (RX2, TX2, 5), (RX3, TX3, 12), (RX4, TX4, 3), (RX5, TX5, 10), (RX6, TX6, 11), (RX7, TX7, 4), (RX8, TX8, 6), (RX9, TX9, 14), (RX10, TX10, 44)]
end
section
/-! The words that every method takes: those of the tables that stay -/
def tb : List Cond := lw_tbl.filter goodWord
theorem tb_good : GoodIn tb tb := fun _ h => ⟨h, good_of_word (List.mem_filter.mp h).2⟩
theorem tb_in {w : Cond} (i : Nat) (h : lw_tbl[i]? = some w) (hg : goodWord w = true) : w ∈ tb := List.mem_filter.mpr ⟨List.mem_of_getElem? h, hg⟩
theorem tb_of {args : Array Value} {s : State} (h : ∀ w ∈ lw_tbl, w.before args s = true) : ∀ w ∈ tb, w.before args s = true := fun w hw => h w (List.mem_filter.mp hw).1
/-! A method: its name, its bytes, its locals, what it answers. A world: how many cells, the kind of each, the references, the numbers. -/
abbrev MD : Type := MethodName × ByteArray × Nat × Option FieldType
abbrev Kd : Type := Nat ⊕ Nat ⊕ Nat
abbrev Mem : Type := Nat → Nat → Int32
abbrev Wd : Type := Nat × (Nat → Kd) × (Nat → Nat → Option Nat) × Mem
abbrev Dg : Type := va_G × ClassId × ClassId
/-- by class: which fields are references -/
def cfl : Nat → List Bool := fun k => match k with
  | 0 => [false, false, false, true, true, true, true, true]
  | 1 => [true, true, true]
  | 2 => [false, true, true, true, true]
  | 3 => [true, true, true, false, true, true, true, true, true, true, true, false]
  | 4 => [true, true, true]
  | 5 => [false, false, false, false, true, true, true, true, true, true]
  | 6 => [false, false, false, false, false, false, true, true, true, true, true]
  | 7 => [false, true, false, false]
  | 8 => [true, false, true, true, true, true]
  | 9 => [true, true, true, true, true, true, false, true, true, true, true, true, true, true]
  | 10 => [false, false, true, false, true, false, true, false, false, false, true, true, true, false, false, true, true, false, true, true, true, true, true, false, true, true, true, true, false, true, false, true, false, false, false, true, true, true, true, false, true, true, true, true]
  | _ => []
def rf (B : Nat) (r : Option Nat) : Value := va_rf (r.map fun c => B + c)
def rv (B : Nat) : Value → Value
  | .ref c => .ref (B + c)
  | v => v
def wF (B : Nat) (w : Wd) (c : Nat) : Nat → List Bool → List Value
  | _, [] => []
  | k, b :: bs => (if b then rf B (w.2.2.1 c k) else .int (w.2.2.2 c k)) :: wF B w c (k + 1) bs
def wE (G : Dg) (B : Nat) (w : Wd) (c : Nat) : va_E := match w.2.1 c with
  | .inl ci => .inr (ci, wF B w c 0 (cfl ci))
  | .inr (.inl n) => .inl (G.2.1, n, .inl (w.2.2.2 c))
  | .inr (.inr n) => .inl (G.2.2, n, .inr (.inr (.inr (.inr (fun j => (w.2.2.1 c j).map fun q => B + q)))))
def wl (G : Dg) (B : Nat) (w : Wd) : va_W := (List.range w.1).map fun c => (B + c, wE G B w c)
def Fr (B : Nat) : Nat → Prop := fun q => B ≤ q
def Rp (G : Dg) (B : Nat) (w : Wd) (H : Heap) : Prop := va_P G.1 vwCl (wl G B w) H ∧ H.size = B + w.1
def KK (G : Dg) (U : State) : Prop := va_K G.1 vwCl [(G.2.1, .int), (G.2.2, .array .int)] U
theorem KK.moved {G : Dg} {u U : State} (h : u.vm.Alike U.vm) (k : KK G u) : KK G U := va_K.moved h k
theorem wl_get {G : Dg} {B : Nat} {w : Wd} {c : Nat} (h : c < w.1) : (wl G B w)[c]? = some (B + c, wE G B w c) := by
  unfold wl
  rw [List.getElem?_map, List.getElem?_range h]
  rfl
theorem wl_len {G : Dg} {B : Nat} {w : Wd} : (wl G B w).length = w.1 := by simp [wl]
theorem wl_D {G : Dg} {B : Nat} {w : Wd} : va_D (Fr B) (wl G B w) := by
  have key : ∀ (i : Nat) (p : Nat × va_E), (wl G B w)[i]? = some p → p.1 = B + i := by
    intro i p h
    have hi : i < w.1 := by
      have := (List.getElem?_eq_some_iff.mp h).1
      rwa [wl_len] at this
    rw [wl_get hi] at h
    cases h
    rfl
  refine ⟨fun i j p q hi hj hpq => ?_, fun k q hk => ?_⟩
  · have h1 := key i p hi
    have h2 := key j q hj
    omega
  · have h1 := key k q hk
    show B ≤ q.1
    omega
theorem wl_set {G : Dg} {B : Nat} {w w' : Wd} {c : Nat} {e : va_E} (h1 : w'.1 = w.1) (h2 : ∀ c', c' ≠ c → wE G B w' c' = wE G B w c') (h3 : wE G B w' c = e) : (wl G B w).set c (B + c, e) = wl G B w' := by
  apply List.ext_getElem?
  intro i
  rw [List.getElem?_set]
  by_cases hi : i < w.1
  · rw [wl_get (show i < w'.1 by omega), wl_len]
    by_cases hc : c = i
    · subst hc
      rw [if_pos rfl, if_pos hi, h3]
    · rw [if_neg hc, wl_get hi, h2 i (fun q => hc q.symm)]
  · have e1 : (wl G B w')[i]? = none := by simp [wl]; omega
    have e2 : (wl G B w)[i]? = none := by simp [wl]; omega
    rw [e1, wl_len, e2]
    by_cases hc : c = i
    · rw [if_pos hc, if_neg (by omega)]
    · rw [if_neg hc]
theorem wF_get {B : Nat} {w : Wd} {c : Nat} (bs : List Bool) : ∀ (k j : Nat), (wF B w c k bs)[j]? = bs[j]?.map fun b => if b then rf B (w.2.2.1 c (k + j)) else .int (w.2.2.2 c (k + j)) := by
  induction bs with
  | nil => intro k j; simp [wF]
  | cons b bs ih =>
    intro k j
    cases j with
    | zero => simp [wF]
    | succ j =>
      simp only [wF, List.getElem?_cons_succ]
      rw [ih (k + 1) j]
      rw [show k + 1 + j = k + (j + 1) by omega]
theorem wF_len {B : Nat} {w : Wd} {c : Nat} (bs : List Bool) : ∀ k : Nat, (wF B w c k bs).length = bs.length := by
  induction bs with
  | nil => intro k; rfl
  | cons b bs ih => intro k; simp [wF, ih]
theorem wF_eq {B : Nat} {w w' : Wd} {c : Nat} {bs : List Bool} {k : Nat} (h : ∀ j, j < bs.length → w'.2.2.1 c (k + j) = w.2.2.1 c (k + j) ∧ w'.2.2.2 c (k + j) = w.2.2.2 c (k + j)) : wF B w' c k bs = wF B w c k bs := by
  apply List.ext_getElem?
  intro i
  rw [wF_get, wF_get]
  cases hb : bs[i]? with
  | none => rfl
  | some b =>
    obtain ⟨h1, h2⟩ := h i (List.getElem?_eq_some_iff.mp hb).1
    rw [h1, h2]
def wr (M : Mem) (c k : Nat) (v : Int32) : Mem := fun c' k' => if c' = c ∧ k' = k then v else M c' k'
def wrR (R : Nat → Nat → Option Nat) (c k : Nat) (v : Option Nat) : Nat → Nat → Option Nat := fun c' k' => if c' = c ∧ k' = k then v else R c' k'
theorem wr_eq (M : Mem) (c k : Nat) (v : Int32) : wr M c k v c k = v := by simp [wr]
theorem wr_nc (M : Mem) {c c' : Nat} (k k' : Nat) (v : Int32) (h : c' ≠ c) : wr M c k v c' k' = M c' k' := by simp [wr, h]
theorem wr_nk (M : Mem) (c c' : Nat) {k k' : Nat} (v : Int32) (h : k' ≠ k) : wr M c k v c' k' = M c' k' := by simp [wr, h]
abbrev wPut (w : Wd) (c k : Nat) (v : Int32) : Wd := (w.1, w.2.1, w.2.2.1, wr w.2.2.2 c k v)
abbrev wPutR (w : Wd) (c k : Nat) (v : Option Nat) : Wd := (w.1, w.2.1, wrR w.2.2.1 c k v, w.2.2.2)
theorem wE_put_ne {G : Dg} {B : Nat} {w : Wd} {c k : Nat} {v : Int32} (c' : Nat) (h : c' ≠ c) : wE G B (wPut w c k v) c' = wE G B w c' := by
  have e : (wPut w c k v).2.2.2 c' = w.2.2.2 c' := funext fun j => wr_nc _ _ _ _ h
  unfold wE
  show (match w.2.1 c' with | .inl ci => _ | .inr (.inl n) => _ | .inr (.inr n) => _) = _
  cases w.2.1 c' with
  | inl ci => exact congrArg (fun x => Sum.inr (ci, x)) (wF_eq (fun j _ => ⟨rfl, congrFun e _⟩))
  | inr x =>
    cases x with
    | inl n => show (Sum.inl _ : va_E) = Sum.inl _; rw [e]
    | inr n => rfl
theorem wE_putR_ne {G : Dg} {B : Nat} {w : Wd} {c k : Nat} {v : Option Nat} (c' : Nat) (h : c' ≠ c) : wE G B (wPutR w c k v) c' = wE G B w c' := by
  have e : (wPutR w c k v).2.2.1 c' = w.2.2.1 c' := funext fun j => by simp [wrR, h]
  unfold wE
  show (match w.2.1 c' with | .inl ci => _ | .inr (.inl n) => _ | .inr (.inr n) => _) = _
  cases w.2.1 c' with
  | inl ci => exact congrArg (fun x => Sum.inr (ci, x)) (wF_eq (fun j _ => ⟨congrFun e _, rfl⟩))
  | inr x =>
    cases x with
    | inl n => rfl
    | inr n => show (Sum.inl _ : va_E) = Sum.inl _; rw [e]
theorem wE_obj {G : Dg} {B : Nat} {w : Wd} {c ci : Nat} (h : w.2.1 c = .inl ci) : wE G B w c = .inr (ci, wF B w c 0 (cfl ci)) := by unfold wE; rw [h]
theorem wE_arr {G : Dg} {B : Nat} {w : Wd} {c n : Nat} (h : w.2.1 c = .inr (.inl n)) : wE G B w c = .inl (G.2.1, n, .inl (w.2.2.2 c)) := by unfold wE; rw [h]
theorem wE_rarr {G : Dg} {B : Nat} {w : Wd} {c n : Nat} (h : w.2.1 c = .inr (.inr n)) : wE G B w c = .inl (G.2.2, n, .inr (.inr (.inr (.inr (fun j => (w.2.2.1 c j).map fun q => B + q))))) := by unfold wE; rw [h]
theorem wF_put {B : Nat} {w : Wd} {c k : Nat} {v : Int32} {bs : List Bool} (hb : bs[k]? = some false) : wF B (wPut w c k v) c 0 bs = (wF B w c 0 bs).set k (.int v) := by
  apply List.ext_getElem?
  intro i
  rw [List.getElem?_set, wF_get, wF_get, wF_len]
  by_cases h : k = i
  · subst h
    rw [if_pos rfl, if_pos (List.getElem?_eq_some_iff.mp hb).1, hb]
    simp [wr]
  · rw [if_neg h]
    cases bs[i]? with
    | none => rfl
    | some b =>
      have h' : ¬ i = k := fun q => h q.symm
      simp [wr, h']
theorem wF_putR {B : Nat} {w : Wd} {c k : Nat} {v : Option Nat} {bs : List Bool} (hb : bs[k]? = some true) : wF B (wPutR w c k v) c 0 bs = (wF B w c 0 bs).set k (rf B v) := by
  apply List.ext_getElem?
  intro i
  rw [List.getElem?_set, wF_get, wF_get, wF_len]
  by_cases h : k = i
  · subst h
    rw [if_pos rfl, if_pos (List.getElem?_eq_some_iff.mp hb).1, hb]
    simp [wrR]
  · rw [if_neg h]
    cases bs[i]? with
    | none => rfl
    | some b =>
      have h' : ¬ i = k := fun q => h q.symm
      simp [wrR, h']
/-! The judgements -/
def rmd (d mc ms : Nat) : Room := { frames := d, cells := mc, slots := ms, locals := 37 * d }
def QQ (G : Dg) (B : Nat) (Q : Option Value → Wd → Prop) : Array Value → State → Outcome → State → Prop := fun _ st o t => (∃ (v : Option Value) (w : Wd), o = .returned (v.map (rv B)) ∧ Q v w ∧ Rp G B w t.heap ∧ KK G t) ∧ va_F (Fr B) st t
abbrev wsM (y : MD) : List Cond := Cond.code y.1 y.2.1 y.2.2.1 y.2.2.2 :: tb
def Call (d mc ms : Nat) (y : MD) (As : List Value) (w : Wd) (Q : Option Value → Wd → Prop) : Prop :=
  ∀ (l : Launch) (G : Dg) (B : Nat), Met l y.1 (wsM y) (rmd d mc ms) (va_Pc (As.map (rv B)) (fun U => Rp G B w U.heap ∧ KK G U)) (QQ G B Q) mc ms (Fr B)
def Cx (p : Program) (s : State) (m : MethodId) (args : Array Value) (meth : Method) (c : Code) (y : MD) : Prop :=
  p.tables.exec = Jvm.exec ∧ c.code = y.2.1 ∧ meth.sig.returnType = y.2.2.2 ∧ c.maxLocals = y.2.2.1 ∧ s.vm.findClass y.1.cls = some m.cls ∧ (∀ w ∈ tb, w.before args s = true) ∧ meth.locks = false ∧ meth.name = y.1.name
def lvm (B : Nat) (lv : List (Nat × Value)) : List (Nat × Value) := lv.map fun q => (q.1, rv B q.2)
def PW (d mc ms : Nat) (y : MD) (nc ns : Nat) (pc : Nat) (lv : List (Nat × Value)) (st : List Value) (w : Wd) (Q : Option Value → Wd → Prop) : Prop :=
  ∀ (p : Program) (l : Launch) (e : Env) (s : State) (m : MethodId) (args : Array Value) (below : List Frame) (meth : Method) (c : Code) (G : Dg) (B : Nat) (H : Heap) (locs : List Loc) (ls : Array Slot),
    Cx p s m args meth c y → KK G s → Rp G B w H → va_S (Fr B) s.heap H locs → B ≤ s.heap.size → lv_has ls y.2.2.1 (lvm B lv) →
    W p l e (rmd d mc ms) s m args below meth c H locs nc ns (MQ below (QQ G B Q) args s mc ms (Fr B)) (F0 m pc ls (st.map (rv B)))
end
section
theorem cat_rv (B : Nat) (v : Value) : (rv B v).category = v.category := by cases v <;> rfl
def lvF (i : Nat) : Nat × Value → Bool := fun q => !(q.1 == i) && !(q.1 + 1 == i && q.2.category == 2)
theorem lvm_F (B i : Nat) (lv : List (Nat × Value)) : (lvm B lv).filter (lvF i) = lvm B (lv.filter (lvF i)) := by
  induction lv with
  | nil => rfl
  | cons q lv ih =>
    have e : lvF i (q.1, rv B q.2) = lvF i q := by simp [lvF, cat_rv]
    show ((q.1, rv B q.2) :: lvm B lv).filter (lvF i) = _
    rw [List.filter_cons, List.filter_cons, e, ih]
    cases lvF i q <;> rfl
theorem lvm_pick (B : Nat) (lv : List (Nat × Value)) (ks : List Nat) : lv_pick (lvm B lv) ks = lvm B (lv_pick lv ks) := by
  unfold lv_pick lvm
  induction ks with
  | nil => rfl
  | cons k ks ih =>
    rw [List.filterMap_cons, List.filterMap_cons, List.getElem?_map]
    cases lv[k]? with
    | none => simpa using ih
    | some q => simpa using ih
theorem lvm_at {B : Nat} {lv : List (Nat × Value)} {k i : Nat} {v : Value} (h : lv[k]? = some (i, v)) : (lvm B lv)[k]? = some (i, rv B v) := by
  unfold lvm
  rw [List.getElem?_map, h]
  rfl
theorem lvm_store {B : Nat} {nL : Nat} {lv lv' : List (Nat × Value)} {i : Nat} {v : Value} {ks : List Nat} {ls : Array Slot} (hl : lv_pick ((i, v) :: lv.filter (lvF i)) ks = lv') (h : lv_has ls nL ((i, rv B v) :: (lvm B lv).filter (lvF i))) : lv_has ls nL (lvm B lv') := by
  refine lv_sub h ks ?_
  rw [lvm_F, ← hl]
  exact lvm_pick B ((i, v) :: lv.filter (lvF i)) ks
section Rows
variable {d mc ms nc ns : Nat} {y : MD} {pc : Nat} {lv : List (Nat × Value)} {st : List Value} {w : Wd} {Q : Option Value → Wd → Prop}
theorem pw_iconst {n : Int} {v : Int32} (hd : decode y.2.1 pc = .ok (.iconst n, 1)) (hv : Int32.ofInt n = v) (k : PW d mc ms y nc ns (pc + 1) lv (.int v :: st) w Q) : PW d mc ms y nc ns pc lv (st) w Q :=
  fun p l e s m args below meth cd G B H locs ls C hK hP hS hB hl => lv_iconst C.1 C.2.1 hd hv (k p l e s m args below meth cd G B H locs ls C hK hP hS hB hl)
theorem pw_bipush {n : Int} {v : Int32} (hd : decode y.2.1 pc = .ok (.bipush n, 2)) (hv : (Int8.ofInt n).toInt32 = v) (k : PW d mc ms y nc ns (pc + 2) lv (.int v :: st) w Q) : PW d mc ms y nc ns pc lv (st) w Q :=
  fun p l e s m args below meth cd G B H locs ls C hK hP hS hB hl => lv_bipush C.1 C.2.1 hd hv (k p l e s m args below meth cd G B H locs ls C hK hP hS hB hl)
theorem pw_sipush {n : Int} {v : Int32} (hd : decode y.2.1 pc = .ok (.sipush n, 3)) (hv : (Int16.ofInt n).toInt32 = v) (k : PW d mc ms y nc ns (pc + 3) lv (.int v :: st) w Q) : PW d mc ms y nc ns pc lv (st) w Q :=
  fun p l e s m args below meth cd G B H locs ls C hK hP hS hB hl => lv_sipush C.1 C.2.1 hd hv (k p l e s m args below meth cd G B H locs ls C hK hP hS hB hl)
theorem pw_lconst {n : Fin 2} {v : Int64} (hd : decode y.2.1 pc = .ok (.lconst n, 1)) (hv : Int64.ofNat (n : Nat) = v) (k : PW d mc ms y nc ns (pc + 1) lv (.long v :: st) w Q) : PW d mc ms y nc ns pc lv (st) w Q :=
  fun p l e s m args below meth cd G B H locs ls C hK hP hS hB hl => lv_lconst C.1 C.2.1 hd hv (k p l e s m args below meth cd G B H locs ls C hK hP hS hB hl)
theorem pw_iload_n {q : Fin 4} {i : Nat} {x : Int32} (j : Nat) (hd : decode y.2.1 pc = .ok (.iload_n q, 1)) (hi : (q : Nat) = i) (hj : lv[j]? = some (i, .int x)) (k : PW d mc ms y nc ns (pc + 1) lv (.int x :: st) w Q) : PW d mc ms y nc ns pc lv st w Q :=
  fun p l e s m args below meth cd G B H locs ls C hK hP hS hB hl => lv_iload_n C.1 C.2.1 hd hi (lv_at hl j (lvm_at hj)) (k p l e s m args below meth cd G B H locs ls C hK hP hS hB hl)
theorem pw_iload {i : Nat} {x : Int32} (j : Nat) (hd : decode y.2.1 pc = .ok (.iload i, 2)) (hj : lv[j]? = some (i, .int x)) (k : PW d mc ms y nc ns (pc + 2) lv (.int x :: st) w Q) : PW d mc ms y nc ns pc lv st w Q :=
  fun p l e s m args below meth cd G B H locs ls C hK hP hS hB hl => lv_iload C.1 C.2.1 hd (lv_at hl j (lvm_at hj)) (k p l e s m args below meth cd G B H locs ls C hK hP hS hB hl)
theorem pw_lload_n {q : Fin 4} {i : Nat} {x : Int64} (j : Nat) (hd : decode y.2.1 pc = .ok (.lload_n q, 1)) (hi : (q : Nat) = i) (hj : lv[j]? = some (i, .long x)) (k : PW d mc ms y nc ns (pc + 1) lv (.long x :: st) w Q) : PW d mc ms y nc ns pc lv st w Q :=
  fun p l e s m args below meth cd G B H locs ls C hK hP hS hB hl => lv_lload_n C.1 C.2.1 hd hi (lv_at hl j (lvm_at hj)) (k p l e s m args below meth cd G B H locs ls C hK hP hS hB hl)
theorem pw_lload {i : Nat} {x : Int64} (j : Nat) (hd : decode y.2.1 pc = .ok (.lload i, 2)) (hj : lv[j]? = some (i, .long x)) (k : PW d mc ms y nc ns (pc + 2) lv (.long x :: st) w Q) : PW d mc ms y nc ns pc lv st w Q :=
  fun p l e s m args below meth cd G B H locs ls C hK hP hS hB hl => lv_lload C.1 C.2.1 hd (lv_at hl j (lvm_at hj)) (k p l e s m args below meth cd G B H locs ls C hK hP hS hB hl)
theorem pw_aload_n {q : Fin 4} {i : Nat} {x : Nat} (j : Nat) (hd : decode y.2.1 pc = .ok (.aload_n q, 1)) (hi : (q : Nat) = i) (hj : lv[j]? = some (i, .ref x)) (k : PW d mc ms y nc ns (pc + 1) lv (.ref x :: st) w Q) : PW d mc ms y nc ns pc lv st w Q :=
  fun p l e s m args below meth cd G B H locs ls C hK hP hS hB hl => lv_aload_n C.1 C.2.1 hd hi (lv_at hl j (lvm_at hj)) (k p l e s m args below meth cd G B H locs ls C hK hP hS hB hl)
theorem pw_aload {i : Nat} {x : Nat} (j : Nat) (hd : decode y.2.1 pc = .ok (.aload i, 2)) (hj : lv[j]? = some (i, .ref x)) (k : PW d mc ms y nc ns (pc + 2) lv (.ref x :: st) w Q) : PW d mc ms y nc ns pc lv st w Q :=
  fun p l e s m args below meth cd G B H locs ls C hK hP hS hB hl => lv_aload C.1 C.2.1 hd (lv_at hl j (lvm_at hj)) (k p l e s m args below meth cd G B H locs ls C hK hP hS hB hl)
theorem pw_istore_n {q : Fin 4} {i : Nat} {x : Int32} {lv' : List (Nat × Value)} (ks : List Nat) (hd : decode y.2.1 pc = .ok (.istore_n q, 1)) (hi : (q : Nat) = i) (hn : i < y.2.2.1) (hv : lv_pick ((i, .int x) :: lv.filter (lvF i)) ks = lv') (k : PW d mc ms y nc ns (pc + 1) lv' st w Q) : PW d mc ms y nc ns pc lv (.int x :: st) w Q :=
  fun p l e s m args below meth c G B H locs ls C hK hP hS hB hl => lv_istore_n C.1 C.2.1 hd hi hl hn rfl (fun ls' h' => k p l e s m args below meth c G B H locs ls' C hK hP hS hB (lvm_store hv h'))
theorem pw_istore {i : Nat} {x : Int32} {lv' : List (Nat × Value)} (ks : List Nat) (hd : decode y.2.1 pc = .ok (.istore i, 2)) (hn : i < y.2.2.1) (hv : lv_pick ((i, .int x) :: lv.filter (lvF i)) ks = lv') (k : PW d mc ms y nc ns (pc + 2) lv' st w Q) : PW d mc ms y nc ns pc lv (.int x :: st) w Q :=
  fun p l e s m args below meth c G B H locs ls C hK hP hS hB hl => lv_istore C.1 C.2.1 hd hl hn rfl (fun ls' h' => k p l e s m args below meth c G B H locs ls' C hK hP hS hB (lvm_store hv h'))
theorem pw_astore_n {q : Fin 4} {i : Nat} {x : Nat} {lv' : List (Nat × Value)} (ks : List Nat) (hd : decode y.2.1 pc = .ok (.astore_n q, 1)) (hi : (q : Nat) = i) (hn : i < y.2.2.1) (hv : lv_pick ((i, .ref x) :: lv.filter (lvF i)) ks = lv') (k : PW d mc ms y nc ns (pc + 1) lv' st w Q) : PW d mc ms y nc ns pc lv (.ref x :: st) w Q :=
  fun p l e s m args below meth c G B H locs ls C hK hP hS hB hl => lv_astore_n C.1 C.2.1 hd hi hl hn rfl (fun ls' h' => k p l e s m args below meth c G B H locs ls' C hK hP hS hB (lvm_store hv h'))
theorem pw_astore {i : Nat} {x : Nat} {lv' : List (Nat × Value)} (ks : List Nat) (hd : decode y.2.1 pc = .ok (.astore i, 2)) (hn : i < y.2.2.1) (hv : lv_pick ((i, .ref x) :: lv.filter (lvF i)) ks = lv') (k : PW d mc ms y nc ns (pc + 2) lv' st w Q) : PW d mc ms y nc ns pc lv (.ref x :: st) w Q :=
  fun p l e s m args below meth c G B H locs ls C hK hP hS hB hl => lv_astore C.1 C.2.1 hd hl hn rfl (fun ls' h' => k p l e s m args below meth c G B H locs ls' C hK hP hS hB (lvm_store hv h'))
theorem pw_iinc {i : Nat} {n : Int} {x v : Int32} {lv' : List (Nat × Value)} (j : Nat) (ks : List Nat) (hd : decode y.2.1 pc = .ok (.iinc i n, 3)) (hj : lv[j]? = some (i, .int x)) (hx : x + Int32.ofInt n = v) (hn : i < y.2.2.1) (hv : lv_pick ((i, .int v) :: lv.filter (lvF i)) ks = lv') (k : PW d mc ms y nc ns (pc + 3) lv' st w Q) : PW d mc ms y nc ns pc lv st w Q :=
  fun p l e s m args below meth c G B H locs ls C hK hP hS hB hl => lv_iinc C.1 C.2.1 hd hl (lvm_at hj) hx hn rfl (fun ls' h' => k p l e s m args below meth c G B H locs ls' C hK hP hS hB (lvm_store (v := .int v) hv h'))
theorem pw_sub {lv' : List (Nat × Value)} (ks : List Nat) (hv : lv_pick lv ks = lv') (k : PW d mc ms y nc ns pc lv' st w Q) : PW d mc ms y nc ns pc lv st w Q :=
  fun p l e s m args below meth c G B H locs ls C hK hP hS hB hl => k p l e s m args below meth c G B H locs ls C hK hP hS hB (lv_sub hl ks (by rw [lvm_pick, hv]))
theorem pw_iadd {x z : Int32} (hd : decode y.2.1 pc = .ok (.iadd, 1)) (k : PW d mc ms y nc ns (pc + 1) lv (.int (x + z) :: st) w Q) : PW d mc ms y nc ns pc lv (.int z :: .int x :: st) w Q :=
  fun p l e s m args below meth cd G B H locs ls C hK hP hS hB hl => lv_iadd C.1 C.2.1 hd (k p l e s m args below meth cd G B H locs ls C hK hP hS hB hl)
theorem pw_isub {x z : Int32} (hd : decode y.2.1 pc = .ok (.isub, 1)) (k : PW d mc ms y nc ns (pc + 1) lv (.int (x - z) :: st) w Q) : PW d mc ms y nc ns pc lv (.int z :: .int x :: st) w Q :=
  fun p l e s m args below meth cd G B H locs ls C hK hP hS hB hl => lv_isub C.1 C.2.1 hd (k p l e s m args below meth cd G B H locs ls C hK hP hS hB hl)
theorem pw_imul {x z : Int32} (hd : decode y.2.1 pc = .ok (.imul, 1)) (k : PW d mc ms y nc ns (pc + 1) lv (.int (x * z) :: st) w Q) : PW d mc ms y nc ns pc lv (.int z :: .int x :: st) w Q :=
  fun p l e s m args below meth cd G B H locs ls C hK hP hS hB hl => lv_imul C.1 C.2.1 hd (k p l e s m args below meth cd G B H locs ls C hK hP hS hB hl)
theorem pw_iand {x z : Int32} (hd : decode y.2.1 pc = .ok (.iand, 1)) (k : PW d mc ms y nc ns (pc + 1) lv (.int (x &&& z) :: st) w Q) : PW d mc ms y nc ns pc lv (.int z :: .int x :: st) w Q :=
  fun p l e s m args below meth cd G B H locs ls C hK hP hS hB hl => lv_iand C.1 C.2.1 hd (k p l e s m args below meth cd G B H locs ls C hK hP hS hB hl)
theorem pw_ior {x z : Int32} (hd : decode y.2.1 pc = .ok (.ior, 1)) (k : PW d mc ms y nc ns (pc + 1) lv (.int (x ||| z) :: st) w Q) : PW d mc ms y nc ns pc lv (.int z :: .int x :: st) w Q :=
  fun p l e s m args below meth cd G B H locs ls C hK hP hS hB hl => lv_ior C.1 C.2.1 hd (k p l e s m args below meth cd G B H locs ls C hK hP hS hB hl)
theorem pw_ixor {x z : Int32} (hd : decode y.2.1 pc = .ok (.ixor, 1)) (k : PW d mc ms y nc ns (pc + 1) lv (.int (x ^^^ z) :: st) w Q) : PW d mc ms y nc ns pc lv (.int z :: .int x :: st) w Q :=
  fun p l e s m args below meth cd G B H locs ls C hK hP hS hB hl => lv_ixor C.1 C.2.1 hd (k p l e s m args below meth cd G B H locs ls C hK hP hS hB hl)
theorem pw_ishl {x z : Int32} (hd : decode y.2.1 pc = .ok (.ishl, 1)) (k : PW d mc ms y nc ns (pc + 1) lv (.int (x <<< (z &&& 31)) :: st) w Q) : PW d mc ms y nc ns pc lv (.int z :: .int x :: st) w Q :=
  fun p l e s m args below meth cd G B H locs ls C hK hP hS hB hl => lv_ishl C.1 C.2.1 hd (k p l e s m args below meth cd G B H locs ls C hK hP hS hB hl)
theorem pw_ishr {x z : Int32} (hd : decode y.2.1 pc = .ok (.ishr, 1)) (k : PW d mc ms y nc ns (pc + 1) lv (.int (x >>> (z &&& 31)) :: st) w Q) : PW d mc ms y nc ns pc lv (.int z :: .int x :: st) w Q :=
  fun p l e s m args below meth cd G B H locs ls C hK hP hS hB hl => lv_ishr C.1 C.2.1 hd (k p l e s m args below meth cd G B H locs ls C hK hP hS hB hl)
theorem pw_idiv {x z : Int32} (hd : decode y.2.1 pc = .ok (.idiv, 1)) (hz : ¬ z = 0) (k : PW d mc ms y nc ns (pc + 1) lv (.int (x / z) :: st) w Q) : PW d mc ms y nc ns pc lv (.int z :: .int x :: st) w Q :=
  fun p l e s m args below meth cd G B H locs ls C hK hP hS hB hl => lv_idiv C.1 C.2.1 hd hz (k p l e s m args below meth cd G B H locs ls C hK hP hS hB hl)
theorem pw_irem {x z : Int32} (hd : decode y.2.1 pc = .ok (.irem, 1)) (hz : ¬ z = 0) (k : PW d mc ms y nc ns (pc + 1) lv (.int (x - x / z * z) :: st) w Q) : PW d mc ms y nc ns pc lv (.int z :: .int x :: st) w Q :=
  fun p l e s m args below meth cd G B H locs ls C hK hP hS hB hl => lv_irem C.1 C.2.1 hd hz (k p l e s m args below meth cd G B H locs ls C hK hP hS hB hl)
theorem pw_iushr {x z v : Int32} (hd : decode y.2.1 pc = .ok (.iushr, 1)) (hv : (x.toUInt32 >>> (z.toUInt32 &&& Int32.toUInt32 31)).toInt32 = v) (k : PW d mc ms y nc ns (pc + 1) lv (.int v :: st) w Q) : PW d mc ms y nc ns pc lv (.int z :: .int x :: st) w Q :=
  fun p l e s m args below meth cd G B H locs ls C hK hP hS hB hl => lv_iushr C.1 C.2.1 hd hv (k p l e s m args below meth cd G B H locs ls C hK hP hS hB hl)
theorem pw_ladd {x z : Int64} (hd : decode y.2.1 pc = .ok (.ladd, 1)) (k : PW d mc ms y nc ns (pc + 1) lv (.long (x + z) :: st) w Q) : PW d mc ms y nc ns pc lv (.long z :: .long x :: st) w Q :=
  fun p l e s m args below meth cd G B H locs ls C hK hP hS hB hl => lv_ladd C.1 C.2.1 hd (k p l e s m args below meth cd G B H locs ls C hK hP hS hB hl)
theorem pw_land {x z : Int64} (hd : decode y.2.1 pc = .ok (.land, 1)) (k : PW d mc ms y nc ns (pc + 1) lv (.long (x &&& z) :: st) w Q) : PW d mc ms y nc ns pc lv (.long z :: .long x :: st) w Q :=
  fun p l e s m args below meth cd G B H locs ls C hK hP hS hB hl => lv_land C.1 C.2.1 hd (k p l e s m args below meth cd G B H locs ls C hK hP hS hB hl)
theorem pw_lor {x z : Int64} (hd : decode y.2.1 pc = .ok (.lor, 1)) (k : PW d mc ms y nc ns (pc + 1) lv (.long (x ||| z) :: st) w Q) : PW d mc ms y nc ns pc lv (.long z :: .long x :: st) w Q :=
  fun p l e s m args below meth cd G B H locs ls C hK hP hS hB hl => lv_lor C.1 C.2.1 hd (k p l e s m args below meth cd G B H locs ls C hK hP hS hB hl)
theorem pw_lshl {x v : Int64} {z : Int32} (hd : decode y.2.1 pc = .ok (.lshl, 1)) (hv : x <<< (z.toInt64 &&& 63) = v) (k : PW d mc ms y nc ns (pc + 1) lv (.long v :: st) w Q) : PW d mc ms y nc ns pc lv (.int z :: .long x :: st) w Q :=
  fun p l e s m args below meth cd G B H locs ls C hK hP hS hB hl => lv_lshl C.1 C.2.1 hd hv (k p l e s m args below meth cd G B H locs ls C hK hP hS hB hl)
theorem pw_lshr {x v : Int64} {z : Int32} (hd : decode y.2.1 pc = .ok (.lshr, 1)) (hv : x >>> (z.toInt64 &&& 63) = v) (k : PW d mc ms y nc ns (pc + 1) lv (.long v :: st) w Q) : PW d mc ms y nc ns pc lv (.int z :: .long x :: st) w Q :=
  fun p l e s m args below meth cd G B H locs ls C hK hP hS hB hl => lv_lshr C.1 C.2.1 hd hv (k p l e s m args below meth cd G B H locs ls C hK hP hS hB hl)
theorem pw_lcmp {x z : Int64} (hd : decode y.2.1 pc = .ok (.lcmp, 1)) (k : PW d mc ms y nc ns (pc + 1) lv (.int (lg_cmp x z) :: st) w Q) : PW d mc ms y nc ns pc lv (.long z :: .long x :: st) w Q :=
  fun p l e s m args below meth cd G B H locs ls C hK hP hS hB hl => W.lcmp C.1 C.2.1 hd (k p l e s m args below meth cd G B H locs ls C hK hP hS hB hl)
theorem pw_i2l {x : Int32} {v : Int64} (hd : decode y.2.1 pc = .ok (.i2l, 1)) (hv : x.toInt64 = v) (k : PW d mc ms y nc ns (pc + 1) lv (.long v :: st) w Q) : PW d mc ms y nc ns pc lv (.int x :: st) w Q :=
  fun p l e s m args below meth cd G B H locs ls C hK hP hS hB hl => lv_i2l C.1 C.2.1 hd hv (k p l e s m args below meth cd G B H locs ls C hK hP hS hB hl)
theorem pw_l2i {x : Int64} {v : Int32} (hd : decode y.2.1 pc = .ok (.l2i, 1)) (hv : x.toInt32 = v) (k : PW d mc ms y nc ns (pc + 1) lv (.int v :: st) w Q) : PW d mc ms y nc ns pc lv (.long x :: st) w Q :=
  fun p l e s m args below meth cd G B H locs ls C hK hP hS hB hl => lv_l2i C.1 C.2.1 hd hv (k p l e s m args below meth cd G B H locs ls C hK hP hS hB hl)
theorem pw_i2b {x v : Int32} (hd : decode y.2.1 pc = .ok (.i2b, 1)) (hv : x.toInt8.toInt32 = v) (k : PW d mc ms y nc ns (pc + 1) lv (.int v :: st) w Q) : PW d mc ms y nc ns pc lv (.int x :: st) w Q :=
  fun p l e s m args below meth cd G B H locs ls C hK hP hS hB hl => lv_i2b C.1 C.2.1 hd hv (k p l e s m args below meth cd G B H locs ls C hK hP hS hB hl)
theorem pw_i2s {x v : Int32} (hd : decode y.2.1 pc = .ok (.i2s, 1)) (hv : x.toInt16.toInt32 = v) (k : PW d mc ms y nc ns (pc + 1) lv (.int v :: st) w Q) : PW d mc ms y nc ns pc lv (.int x :: st) w Q :=
  fun p l e s m args below meth cd G B H locs ls C hK hP hS hB hl => lv_i2s C.1 C.2.1 hd hv (k p l e s m args below meth cd G B H locs ls C hK hP hS hB hl)
theorem pw_dup {v : Value} (hd : decode y.2.1 pc = .ok (.dup, 1)) (hv : v.category = 1) (k : PW d mc ms y nc ns (pc + 1) lv (v :: v :: st) w Q) : PW d mc ms y nc ns pc lv (v :: st) w Q :=
  fun p l e s m args below meth cd G B H locs ls C hK hP hS hB hl => lv_dup C.1 C.2.1 hd ((cat_rv B v).trans hv) (k p l e s m args below meth cd G B H locs ls C hK hP hS hB hl)
theorem pw_pop {v : Value} (hd : decode y.2.1 pc = .ok (.pop, 1)) (hv : v.category = 1) (k : PW d mc ms y nc ns (pc + 1) lv st w Q) : PW d mc ms y nc ns pc lv (v :: st) w Q :=
  fun p l e s m args below meth cd G B H locs ls C hK hP hS hB hl => lv_pop C.1 C.2.1 hd ((cat_rv B v).trans hv) (k p l e s m args below meth cd G B H locs ls C hK hP hS hB hl)
theorem pw_dup2 {v u : Value} (hd : decode y.2.1 pc = .ok (.dup2, 1)) (hv : v.category = 1) (hu : u.category = 1) (k : PW d mc ms y nc ns (pc + 1) lv (v :: u :: v :: u :: st) w Q) : PW d mc ms y nc ns pc lv (v :: u :: st) w Q :=
  fun p l e s m args below meth cd G B H locs ls C hK hP hS hB hl => lv_dup2_11 C.1 C.2.1 hd ((cat_rv B v).trans hv) ((cat_rv B u).trans hu) (k p l e s m args below meth cd G B H locs ls C hK hP hS hB hl)
theorem pw_if_eq {x : Int32} {off : Int} {tgt : Nat} (hd : decode y.2.1 pc = .ok (.ifCond .eq off, 3)) (ht : (pc : Int) + off = (tgt : Int)) (kt : x = 0 → PW d mc ms y nc ns tgt lv st w Q) (kf : ¬ x = 0 → PW d mc ms y nc ns (pc + 3) lv st w Q) : PW d mc ms y nc ns pc lv (.int x :: st) w Q :=
  fun p l e s m args below meth cd G B H locs ls C hK hP hS hB hl => lv_if_eq C.1 C.2.1 hd ht (fun h => kt h p l e s m args below meth cd G B H locs ls C hK hP hS hB hl) (fun h => kf h p l e s m args below meth cd G B H locs ls C hK hP hS hB hl)
theorem pw_icmp_eq {x z : Int32} {off : Int} {tgt : Nat} (hd : decode y.2.1 pc = .ok (.if_icmp .eq off, 3)) (ht : (pc : Int) + off = (tgt : Int)) (kt : x = z → PW d mc ms y nc ns tgt lv st w Q) (kf : ¬ x = z → PW d mc ms y nc ns (pc + 3) lv st w Q) : PW d mc ms y nc ns pc lv (.int z :: .int x :: st) w Q :=
  fun p l e s m args below meth cd G B H locs ls C hK hP hS hB hl => lv_icmp_eq C.1 C.2.1 hd ht (fun h => kt h p l e s m args below meth cd G B H locs ls C hK hP hS hB hl) (fun h => kf h p l e s m args below meth cd G B H locs ls C hK hP hS hB hl)
theorem pw_if_ne {x : Int32} {off : Int} {tgt : Nat} (hd : decode y.2.1 pc = .ok (.ifCond .ne off, 3)) (ht : (pc : Int) + off = (tgt : Int)) (kt : ¬ x = 0 → PW d mc ms y nc ns tgt lv st w Q) (kf : x = 0 → PW d mc ms y nc ns (pc + 3) lv st w Q) : PW d mc ms y nc ns pc lv (.int x :: st) w Q :=
  fun p l e s m args below meth cd G B H locs ls C hK hP hS hB hl => lv_if_ne C.1 C.2.1 hd ht (fun h => kt h p l e s m args below meth cd G B H locs ls C hK hP hS hB hl) (fun h => kf h p l e s m args below meth cd G B H locs ls C hK hP hS hB hl)
theorem pw_icmp_ne {x z : Int32} {off : Int} {tgt : Nat} (hd : decode y.2.1 pc = .ok (.if_icmp .ne off, 3)) (ht : (pc : Int) + off = (tgt : Int)) (kt : ¬ x = z → PW d mc ms y nc ns tgt lv st w Q) (kf : x = z → PW d mc ms y nc ns (pc + 3) lv st w Q) : PW d mc ms y nc ns pc lv (.int z :: .int x :: st) w Q :=
  fun p l e s m args below meth cd G B H locs ls C hK hP hS hB hl => lv_icmp_ne C.1 C.2.1 hd ht (fun h => kt h p l e s m args below meth cd G B H locs ls C hK hP hS hB hl) (fun h => kf h p l e s m args below meth cd G B H locs ls C hK hP hS hB hl)
theorem pw_if_lt {x : Int32} {off : Int} {tgt : Nat} (hd : decode y.2.1 pc = .ok (.ifCond .lt off, 3)) (ht : (pc : Int) + off = (tgt : Int)) (kt : x < 0 → PW d mc ms y nc ns tgt lv st w Q) (kf : ¬ x < 0 → PW d mc ms y nc ns (pc + 3) lv st w Q) : PW d mc ms y nc ns pc lv (.int x :: st) w Q :=
  fun p l e s m args below meth cd G B H locs ls C hK hP hS hB hl => lv_if_lt C.1 C.2.1 hd ht (fun h => kt h p l e s m args below meth cd G B H locs ls C hK hP hS hB hl) (fun h => kf h p l e s m args below meth cd G B H locs ls C hK hP hS hB hl)
theorem pw_icmp_lt {x z : Int32} {off : Int} {tgt : Nat} (hd : decode y.2.1 pc = .ok (.if_icmp .lt off, 3)) (ht : (pc : Int) + off = (tgt : Int)) (kt : x < z → PW d mc ms y nc ns tgt lv st w Q) (kf : ¬ x < z → PW d mc ms y nc ns (pc + 3) lv st w Q) : PW d mc ms y nc ns pc lv (.int z :: .int x :: st) w Q :=
  fun p l e s m args below meth cd G B H locs ls C hK hP hS hB hl => lv_icmp_lt C.1 C.2.1 hd ht (fun h => kt h p l e s m args below meth cd G B H locs ls C hK hP hS hB hl) (fun h => kf h p l e s m args below meth cd G B H locs ls C hK hP hS hB hl)
theorem pw_if_ge {x : Int32} {off : Int} {tgt : Nat} (hd : decode y.2.1 pc = .ok (.ifCond .ge off, 3)) (ht : (pc : Int) + off = (tgt : Int)) (kt : 0 ≤ x → PW d mc ms y nc ns tgt lv st w Q) (kf : ¬ 0 ≤ x → PW d mc ms y nc ns (pc + 3) lv st w Q) : PW d mc ms y nc ns pc lv (.int x :: st) w Q :=
  fun p l e s m args below meth cd G B H locs ls C hK hP hS hB hl => lv_if_ge C.1 C.2.1 hd ht (fun h => kt h p l e s m args below meth cd G B H locs ls C hK hP hS hB hl) (fun h => kf h p l e s m args below meth cd G B H locs ls C hK hP hS hB hl)
theorem pw_icmp_ge {x z : Int32} {off : Int} {tgt : Nat} (hd : decode y.2.1 pc = .ok (.if_icmp .ge off, 3)) (ht : (pc : Int) + off = (tgt : Int)) (kt : z ≤ x → PW d mc ms y nc ns tgt lv st w Q) (kf : ¬ z ≤ x → PW d mc ms y nc ns (pc + 3) lv st w Q) : PW d mc ms y nc ns pc lv (.int z :: .int x :: st) w Q :=
  fun p l e s m args below meth cd G B H locs ls C hK hP hS hB hl => lv_icmp_ge C.1 C.2.1 hd ht (fun h => kt h p l e s m args below meth cd G B H locs ls C hK hP hS hB hl) (fun h => kf h p l e s m args below meth cd G B H locs ls C hK hP hS hB hl)
theorem pw_if_gt {x : Int32} {off : Int} {tgt : Nat} (hd : decode y.2.1 pc = .ok (.ifCond .gt off, 3)) (ht : (pc : Int) + off = (tgt : Int)) (kt : 0 < x → PW d mc ms y nc ns tgt lv st w Q) (kf : ¬ 0 < x → PW d mc ms y nc ns (pc + 3) lv st w Q) : PW d mc ms y nc ns pc lv (.int x :: st) w Q :=
  fun p l e s m args below meth cd G B H locs ls C hK hP hS hB hl => lv_if_gt C.1 C.2.1 hd ht (fun h => kt h p l e s m args below meth cd G B H locs ls C hK hP hS hB hl) (fun h => kf h p l e s m args below meth cd G B H locs ls C hK hP hS hB hl)
theorem pw_icmp_gt {x z : Int32} {off : Int} {tgt : Nat} (hd : decode y.2.1 pc = .ok (.if_icmp .gt off, 3)) (ht : (pc : Int) + off = (tgt : Int)) (kt : z < x → PW d mc ms y nc ns tgt lv st w Q) (kf : ¬ z < x → PW d mc ms y nc ns (pc + 3) lv st w Q) : PW d mc ms y nc ns pc lv (.int z :: .int x :: st) w Q :=
  fun p l e s m args below meth cd G B H locs ls C hK hP hS hB hl => lv_icmp_gt C.1 C.2.1 hd ht (fun h => kt h p l e s m args below meth cd G B H locs ls C hK hP hS hB hl) (fun h => kf h p l e s m args below meth cd G B H locs ls C hK hP hS hB hl)
theorem pw_if_le {x : Int32} {off : Int} {tgt : Nat} (hd : decode y.2.1 pc = .ok (.ifCond .le off, 3)) (ht : (pc : Int) + off = (tgt : Int)) (kt : x ≤ 0 → PW d mc ms y nc ns tgt lv st w Q) (kf : ¬ x ≤ 0 → PW d mc ms y nc ns (pc + 3) lv st w Q) : PW d mc ms y nc ns pc lv (.int x :: st) w Q :=
  fun p l e s m args below meth cd G B H locs ls C hK hP hS hB hl => lv_if_le C.1 C.2.1 hd ht (fun h => kt h p l e s m args below meth cd G B H locs ls C hK hP hS hB hl) (fun h => kf h p l e s m args below meth cd G B H locs ls C hK hP hS hB hl)
theorem pw_icmp_le {x z : Int32} {off : Int} {tgt : Nat} (hd : decode y.2.1 pc = .ok (.if_icmp .le off, 3)) (ht : (pc : Int) + off = (tgt : Int)) (kt : x ≤ z → PW d mc ms y nc ns tgt lv st w Q) (kf : ¬ x ≤ z → PW d mc ms y nc ns (pc + 3) lv st w Q) : PW d mc ms y nc ns pc lv (.int z :: .int x :: st) w Q :=
  fun p l e s m args below meth cd G B H locs ls C hK hP hS hB hl => lv_icmp_le C.1 C.2.1 hd ht (fun h => kt h p l e s m args below meth cd G B H locs ls C hK hP hS hB hl) (fun h => kf h p l e s m args below meth cd G B H locs ls C hK hP hS hB hl)
theorem pw_goto {off : Int} {tgt : Nat} (hd : decode y.2.1 pc = .ok (.goto off, 3)) (ht : (pc : Int) + off = (tgt : Int)) (k : PW d mc ms y nc ns tgt lv st w Q) : PW d mc ms y nc ns pc lv st w Q :=
  fun p l e s m args below meth cd G B H locs ls C hK hP hS hB hl => lv_goto C.1 C.2.1 hd ht (k p l e s m args below meth cd G B H locs ls C hK hP hS hB hl)
theorem pw_tableOut {dflt lo hi : Int} {offs : Array Int} {len : Nat} {x : Int32} {tgt : Nat} (hd : decode y.2.1 pc = .ok (.tableswitch dflt lo hi offs, len)) (h : x.toInt < lo ∨ hi < x.toInt) (ht : (pc : Int) + dflt = (tgt : Int)) (k : PW d mc ms y nc ns tgt lv st w Q) : PW d mc ms y nc ns pc lv (.int x :: st) w Q :=
  fun p l e s m args below meth cd G B H locs ls C hK hP hS hB hl => lv_tableOut C.1 C.2.1 hd h ht (k p l e s m args below meth cd G B H locs ls C hK hP hS hB hl)
theorem pw_tableIn {dflt lo hi : Int} {offs : Array Int} {len : Nat} {x : Int32} {off : Int} {tgt : Nat} (hd : decode y.2.1 pc = .ok (.tableswitch dflt lo hi offs, len)) (h1 : ¬ x.toInt < lo) (h2 : ¬ hi < x.toInt) (ho : offs[(x.toInt - lo).toNat]? = some off) (ht : (pc : Int) + off = (tgt : Int)) (k : PW d mc ms y nc ns tgt lv st w Q) : PW d mc ms y nc ns pc lv (.int x :: st) w Q :=
  fun p l e s m args below meth cd G B H locs ls C hK hP hS hB hl => lv_tableIn C.1 C.2.1 hd h1 h2 ho ht (k p l e s m args below meth cd G B H locs ls C hK hP hS hB hl)
theorem pw_lookup {dflt : Int} {ps : Array (Int × Int)} {len : Nat} {x : Int32} {off : Int} {tgt : Nat} (hd : decode y.2.1 pc = .ok (.lookupswitch dflt ps, len)) (hp : (ps.toList.zip (ps.toList.drop 1)).all (fun (a, next) => a.1 < next.1) = true) (ho : Op.lookupswitch.offset ps.toList dflt x.toInt = off) (ht : (pc : Int) + off = (tgt : Int)) (k : PW d mc ms y nc ns tgt lv st w Q) : PW d mc ms y nc ns pc lv (.int x :: st) w Q :=
  fun p l e s m args below meth cd G B H locs ls C hK hP hS hB hl => lv_lookup C.1 C.2.1 hd hp ho ht (k p l e s m args below meth cd G B H locs ls C hK hP hS hB hl)
theorem pw_ldc {index : Nat} {v : Int32} (hd : decode y.2.1 pc = .ok (.ldc index, 2)) (hc : Cond.constant y.1.cls index v ∈ tb) (k : PW d mc ms y nc ns (pc + 2) lv (.int v :: st) w Q) : PW d mc ms y nc ns pc lv st w Q :=
  fun p l e s m args below meth cd G B H locs ls C hK hP hS hB hl => lv_ldc C.1 C.2.1 C.2.2.2.2.1 (C.2.2.2.2.2.1 _ hc) hd (k p l e s m args below meth cd G B H locs ls C hK hP hS hB hl)
theorem pw_ldcw {index : Nat} {v : Int32} (hd : decode y.2.1 pc = .ok (.ldc_w index, 3)) (hc : Cond.constant y.1.cls index v ∈ tb) (k : PW d mc ms y nc ns (pc + 3) lv (.int v :: st) w Q) : PW d mc ms y nc ns pc lv st w Q :=
  fun p l e s m args below meth cd G B H locs ls C hK hP hS hB hl => lv_ldcw C.1 C.2.1 C.2.2.2.2.1 (C.2.2.2.2.2.1 _ hc) hd (k p l e s m args below meth cd G B H locs ls C hK hP hS hB hl)
theorem pw_ldc2 {index : Nat} {v : Int64} (hd : decode y.2.1 pc = .ok (.ldc2_w index, 3)) (hc : Cond.constantLong y.1.cls index v ∈ tb) (k : PW d mc ms y nc ns (pc + 3) lv (.long v :: st) w Q) : PW d mc ms y nc ns pc lv st w Q :=
  fun p l e s m args below meth cd G B H locs ls C hK hP hS hB hl => lv_ldc2 C.1 C.2.1 C.2.2.2.2.1 (C.2.2.2.2.2.1 _ hc) hd (k p l e s m args below meth cd G B H locs ls C hK hP hS hB hl)
/-- what the tables say of a class's fields -/
def CF (ci : Nat) (C : String) (T : u_T) (N : Nat) (ty : Nat → FieldType) : Prop := vwCl[ci]? = some (C, T, N) ∧ (∀ w ∈ u_ws C T N, w ∈ tb) ∧ (∀ k, k < N → parseFieldDescriptor (T k).2.2.1 = some (ty k)) ∧ (∀ a, a < N → ∀ b, b < N → a ≠ b → (T a).2.1 ≠ (T b).2.1) ∧ (∀ k, k < N → (T k).1 = C)
def FL (own : String) (idx ci k : Nat) (fin : Bool) (fty : FieldType) : Prop := ∃ (C : String) (T : u_T) (N : Nat) (ty : Nat → FieldType), CF ci C T N ty ∧ k < N ∧ Cond.fieldLink own idx C (T k).2.1 (T k).2.2.1 ∈ tb ∧ (T k).2.2.2 = fin ∧ ty k = fty
theorem pw_getI {idx ci k c : Nat} {fin : Bool} {fty : FieldType} (hd : decode y.2.1 pc = .ok (.getfield idx, 3)) (hF : FL y.1.cls idx ci k fin fty) (hc : c < w.1) (hk : w.2.1 c = .inl ci) (hb : (cfl ci)[k]? = some false) (kk : PW d mc ms y nc ns (pc + 3) lv (.int (w.2.2.2 c k) :: st) w Q) : PW d mc ms y nc ns pc lv (.ref c :: st) w Q := by
  intro p l e s m args below meth cd G B H locs ls C hK hP hS hB hl
  obtain ⟨Cn, T, N, ty, ⟨f1, f2, -, -, f5⟩, hkN, hln, -, -⟩ := hF
  refine va_get (v := .int (w.2.2.2 c k)) C.1 C.2.1 C.2.2.2.2.2.1 f2 C.2.2.2.2.1 hK hP.1 c ((wl_get hc).trans (by rw [wE_obj hk])) f1 k hkN (ref := Cn) (C.2.2.2.2.2.1 _ hln) (fun x h => by rw [f5 k hkN] at h; exact h) ?_ hd (kk p l e s m args below meth cd G B H locs ls C hK hP hS hB hl)
  rw [wF_get, hb]
  simp
theorem pw_getR {idx ci k c r : Nat} {fin : Bool} {fty : FieldType} (hd : decode y.2.1 pc = .ok (.getfield idx, 3)) (hF : FL y.1.cls idx ci k fin fty) (hc : c < w.1) (hk : w.2.1 c = .inl ci) (hb : (cfl ci)[k]? = some true) (hr : w.2.2.1 c k = some r) (kk : PW d mc ms y nc ns (pc + 3) lv (.ref r :: st) w Q) : PW d mc ms y nc ns pc lv (.ref c :: st) w Q := by
  intro p l e s m args below meth cd G B H locs ls C hK hP hS hB hl
  obtain ⟨Cn, T, N, ty, ⟨f1, f2, -, -, f5⟩, hkN, hln, -, -⟩ := hF
  refine va_get (v := .ref (B + r)) C.1 C.2.1 C.2.2.2.2.2.1 f2 C.2.2.2.2.1 hK hP.1 c ((wl_get hc).trans (by rw [wE_obj hk])) f1 k hkN (ref := Cn) (C.2.2.2.2.2.1 _ hln) (fun x h => by rw [f5 k hkN] at h; exact h) ?_ hd (kk p l e s m args below meth cd G B H locs ls C hK hP hS hB hl)
  rw [wF_get, hb]
  simp [hr, rf, va_rf]
theorem pw_putI {idx ci k c : Nat} {fty : FieldType} {v : Int32} (hd : decode y.2.1 pc = .ok (.putfield idx, 3)) (hF : FL y.1.cls idx ci k false fty) (hc : c < w.1) (hk : w.2.1 c = .inl ci) (hb : (cfl ci)[k]? = some false) (hn : narrow fty (.int v) = .int v) (hft : fits fty (.int v) = true) (kk : PW d mc ms y nc ns (pc + 3) lv st (wPut w c k v) Q) : PW d mc ms y nc ns pc lv (.int v :: .ref c :: st) w Q := by
  intro p l e s m args below meth cd G B H locs ls C hK hP hS hB hl
  obtain ⟨Cn, T, N, ty, ⟨f1, f2, f3, f4, f5⟩, hkN, hln, hfin, hty⟩ := hF
  subst hty
  have hlen : k < (cfl ci).length := (List.getElem?_eq_some_iff.mp hb).1
  have hz : H.size = B + w.1 := hP.2
  have hap := va_apart (own := y.1.cls) C.2.2.2.2.2.1 f2 ty f3 f4 hK f1
  have he : (wl G B w)[c]? = some (B + c, .inr (ci, wF B w c 0 (cfl ci))) := (wl_get hc).trans (by rw [wE_obj hk])
  obtain ⟨r, h1, cell, q1, q2, q3, q4⟩ := hP.1 c _ he
  have hr : r = (Cn, T, N) := Option.some.inj (h1.symm.trans f1)
  subst hr
  obtain ⟨hSl, hfc, kC, hkC, hkind⟩ := hK.1 ci _ f1
  obtain ⟨cf, kf, fi, f, hi, hsl⟩ := hSl k hkN
  have hlay := C.2.2.2.2.2.1 _ (f2 _ (u_in_lay hkN))
  unfold u_lay at hlay
  rw [if_neg (by rw [hfin]; decide)] at hlay
  have hst := (u_facts hfc hkC (u_lays C.2.2.2.2.2.1 f2 hkN) hi).1
  have h6 := u_store hfc hkC hkind hlay hi (f3 k hkN) hn hft
  have hi2 : s.fieldFound? Cn (T k).2.1 (T k).2.2.1 = some (cf, kf, fi, f) := by rw [f5 k hkN] at hi; exact hi
  refine W.putK C.1 C.2.1 (f := f) ⟨C.2.2.2.2.1, C.2.2.2.2.2.1 _ hln, ⟨_, _, _, hi2⟩, hst⟩ (by rw [q2]; exact h6) q1 q3 (by rw [hsl]; exact k2_hasslot (q4 k hkN)) rfl rfl hd fun H' e1 e2 e3 => ?_
  rw [hsl] at e1 ⊢
  have hset := hP.1.set wl_D he (e := .inr (ci, (wF B w c 0 (cfl ci)).set k (.int v))) ⟨_, f1, t_OB.to (V := updV (vp_V (wF B w c 0 (cfl ci))) k (.int v)) ⟨_, e1, q2, q3, t_set q4 hap hkN (.int v)⟩ (fun j _ => vp_updV_set (by rw [wF_len]; exact hlen) (.int v) j)⟩ e3
  rw [wl_set (w := w) (w' := wPut w c k v) rfl (fun c' h => wE_put_ne c' h) (by rw [wE_obj (by exact hk), wF_put hb])] at hset
  exact kk p l e s m args below meth cd G B H' _ ls C hK ⟨hset, by rw [e2]; exact hz⟩ (hS.put e2 e3 (show B ≤ B + _ by omega)) hB hl
theorem pw_putR {idx ci k c : Nat} {fty : FieldType} {r : Nat} (hd : decode y.2.1 pc = .ok (.putfield idx, 3)) (hF : FL y.1.cls idx ci k true fty) (hc : c < w.1) (hk : w.2.1 c = .inl ci) (hb : (cfl ci)[k]? = some true) (hini : y.1.name = "<init>") (hown : ∀ q : vw_C, vwCl[ci]? = some q → q.1 = y.1.cls) (hn : ∀ a, narrow fty (.ref a) = .ref a) (hft : ∀ a, fits fty (.ref a) = true) (kk : PW d mc ms y nc ns (pc + 3) lv st (wPutR w c k (some r)) Q) : PW d mc ms y nc ns pc lv (.ref r :: .ref c :: st) w Q := by
  intro p l e s m args below meth cd G B H locs ls C hK hP hS hB hl
  obtain ⟨Cn, T, N, ty, ⟨f1, f2, f3, f4, f5⟩, hkN, hln, hfin, hty⟩ := hF
  subst hty
  have hlen : k < (cfl ci).length := (List.getElem?_eq_some_iff.mp hb).1
  have hz : H.size = B + w.1 := hP.2
  have hap := va_apart (own := y.1.cls) C.2.2.2.2.2.1 f2 ty f3 f4 hK f1
  have he : (wl G B w)[c]? = some (B + c, .inr (ci, wF B w c 0 (cfl ci))) := (wl_get hc).trans (by rw [wE_obj hk])
  obtain ⟨q, h1, cell, q1, q2, q3, q4⟩ := hP.1 c _ he
  have hr : q = (Cn, T, N) := Option.some.inj (h1.symm.trans f1)
  subst hr
  obtain ⟨hSl, hfc, kC, hkC, hkind⟩ := hK.1 ci _ f1
  obtain ⟨cf, kf, fi, f, hi, hsl⟩ := hSl k hkN
  have hlay := C.2.2.2.2.2.1 _ (f2 _ (u_in_lay hkN))
  unfold u_lay at hlay
  rw [if_pos hfin] at hlay
  have hst := (u_facts hfc hkC (u_lays C.2.2.2.2.2.1 f2 hkN) hi).1
  have hcf : m.cls = cf := by
    obtain ⟨_, _, c', _, _, _, -, -, hf', -, -, -, hown2, -⟩ := Cond.laysFinal_spec hlay
    have e1 : c' = cf := by have := hi.symm.trans hf'; simp at this; exact this.1.symm
    rw [f5 k hkN, show Cn = y.1.cls from hown _ f1] at hown2
    rw [← e1]; exact Option.some.inj (C.2.2.2.2.1.symm.trans hown2)
  have h6 := u_fits hfc hkC hkind (Or.inr hlay) hi (f3 k hkN) (hn (B + r)) (hft (B + r))
  have hi2 : s.fieldFound? Cn (T k).2.1 (T k).2.2.1 = some (cf, kf, fi, f) := by rw [f5 k hkN] at hi; exact hi
  refine W.putFinK C.1 C.2.1 C.2.2.2.2.1 (C.2.2.2.2.2.1 _ hln) hi2 hst hcf (C.2.2.2.2.2.2.2.trans hini) (by rw [q2]; exact h6) q1 q3 (by rw [hsl]; exact k2_hasslot (q4 k hkN)) rfl rfl hd fun H' e1 e2 e3 => ?_
  rw [hsl] at e1 ⊢
  have hset := hP.1.set wl_D he (e := .inr (ci, (wF B w c 0 (cfl ci)).set k (.ref (B + r)))) ⟨_, f1, t_OB.to (V := updV (vp_V (wF B w c 0 (cfl ci))) k (.ref (B + r))) ⟨_, e1, q2, q3, t_set q4 hap hkN (.ref (B + r))⟩ (fun j _ => vp_updV_set (by rw [wF_len]; exact hlen) (.ref (B + r)) j)⟩ e3
  rw [wl_set (w := w) (w' := wPutR w c k (some r)) rfl (fun c' h => wE_putR_ne c' h) (by rw [wE_obj (by exact hk), wF_putR hb]; rfl)] at hset
  exact kk p l e s m args below meth cd G B H' _ ls C hK ⟨hset, by rw [e2]; exact hz⟩ (hS.put e2 e3 (show B ≤ B + _ by omega)) hB hl
/-! arrays -/
abbrev ix (i : Int32) : Nat := i.toNatClampNeg
theorem pw_iald {c n : Nat} {i : Int32} (hd : decode y.2.1 pc = .ok (.iaload, 1)) (hc : c < w.1) (hk : w.2.1 c = .inr (.inl n)) (hi : vp_in i n) (kk : PW d mc ms y nc ns (pc + 1) lv (.int (w.2.2.2 c (ix i)) :: st) w Q) : PW d mc ms y nc ns pc lv (.int i :: .ref c :: st) w Q := by
  intro p l e s m args below meth cd G B H locs ls C hK hP hS hB hl
  exact va_iald C.1 C.2.1 hK hP.1 c 0 ((wl_get hc).trans (by rw [wE_arr hk])) rfl hi hd (kk p l e s m args below meth cd G B H locs ls C hK hP hS hB hl)
theorem pw_aald {c n r : Nat} {i : Int32} (hd : decode y.2.1 pc = .ok (.aaload, 1)) (hc : c < w.1) (hk : w.2.1 c = .inr (.inr n)) (hi : vp_in i n) (hr : w.2.2.1 c (ix i) = some r) (kk : PW d mc ms y nc ns (pc + 1) lv (.ref r :: st) w Q) : PW d mc ms y nc ns pc lv (.int i :: .ref c :: st) w Q := by
  intro p l e s m args below meth cd G B H locs ls C hK hP hS hB hl
  have hlt : i.toNatClampNeg < n := Nat.not_le.mp fun q => hi (Or.inr q)
  have hcell := hP.1 c _ ((wl_get hc).trans (by rw [wE_rarr hk]))
  refine W.aald (v := .ref (B + r)) (ty := .array .int) C.1 C.2.1 hcell ((hK.2 1 _ rfl).1 n (fun j => va_rf ((w.2.2.1 c j).map fun q => B + q))) rfl (fun q => by cases q) (by show ¬ (i < 0 ∨ (arrV _ _ _).slots.size ≤ _); rw [arrV_size]; exact hi) (by show (arrV _ _ _).slots[_]? = _; rw [arrV_read _ _ hlt]; show some (va_rf ((w.2.2.1 c (ix i)).map fun q => B + q)) = _; rw [hr]; rfl) rfl rfl hd (kk p l e s m args below meth cd G B H locs ls C hK hP hS hB hl)
theorem pw_iast {c n : Nat} {i v : Int32} (hd : decode y.2.1 pc = .ok (.iastore, 1)) (hc : c < w.1) (hk : w.2.1 c = .inr (.inl n)) (hi : vp_in i n) (kk : PW d mc ms y nc ns (pc + 1) lv st (wPut w c (ix i) v) Q) : PW d mc ms y nc ns pc lv (.int v :: .int i :: .ref c :: st) w Q := by
  intro p l e s m args below meth cd G B H locs ls C hK hP hS hB hl
  have hz : H.size = B + w.1 := hP.2
  have ha : (wl G B w)[c]? = some (B + c, .inl (G.2.1, n, .inl (w.2.2.2 c))) := (wl_get hc).trans (by rw [wE_arr hk])
  refine W.iast C.1 C.2.1 (hP.1 c _ ha) ((hK.2 0 _ rfl).1 n (fun j => .int (w.2.2.2 c j))) (fun q => by cases q) (by show ¬ (i < 0 ∨ (arrV _ _ _).slots.size ≤ _); rw [arrV_size]; exact hi) rfl rfl hd fun H1 e1 z oq => ?_
  have hset := hP.1.set wl_D ha (e := .inl (G.2.1, n, .inl (upd (w.2.2.2 c) (ix i) v))) (H1 := H1) (by
    show H1[B + c]? = some (vp_cell _ _)
    rw [e1, vp_cell_i, vp_cell_i, arrV_store]
    congr 2
    funext q
    by_cases hq : q = i.toNatClampNeg
    · subst hq
      simp [updV, upd]
    · simp [updV, upd, hq]) oq
  rw [wl_set (w := w) (w' := wPut w c (ix i) v) rfl (fun c' h => wE_put_ne c' h) (by
    rw [wE_arr (by exact hk)]
    refine congrArg (fun f => (Sum.inl (G.2.1, n, Sum.inl f) : va_E)) (funext fun j => ?_)
    show wr _ _ _ _ _ _ = upd _ _ _ _
    unfold wr upd
    by_cases hj : j = ix i
    · rw [if_pos ⟨rfl, hj⟩, if_pos hj]
    · rw [if_neg (fun q => hj q.2), if_neg hj])] at hset
  exact kk p l e s m args below meth cd G B H1 _ ls C hK ⟨hset, by rw [z]; exact hz⟩ (hS.put z oq (show B ≤ B + _ by omega)) hB hl
theorem pw_alenI {c n : Nat} {v : Int32} (hd : decode y.2.1 pc = .ok (.arraylength, 1)) (hc : c < w.1) (hk : w.2.1 c = .inr (.inl n)) (hv : Int32.ofNat n = v) (kk : PW d mc ms y nc ns (pc + 1) lv (.int v :: st) w Q) : PW d mc ms y nc ns pc lv (.ref c :: st) w Q := by
  intro p l e s m args below meth cd G B H locs ls C hK hP hS hB hl
  exact va_alen C.1 C.2.1 hK hP.1 c 0 ((wl_get hc).trans (by rw [wE_arr hk])) rfl hv hd (kk p l e s m args below meth cd G B H locs ls C hK hP hS hB hl)
/-! ends -/
theorem pw_iret {r : Int32} (hd : decode y.2.1 pc = .ok (.ireturn, 1)) (hr : y.2.2.2 = some .int) (h : Q (some (.int r)) w) : PW d mc ms y mc ms pc lv [.int r] w Q := by
  intro p l e s m args below meth cd G B H locs ls C hK hP hS hB hl
  exact W.iret C.1 C.2.1 (C.2.2.1.trans hr) (fun t ht hW => ⟨⟨some (.int r), w, rfl, h, by rw [ht]; exact hP, KK.moved hW.alike hK⟩, hS.F ht⟩) hS.2.2 hd (hlocks := C.2.2.2.2.2.2.1)
theorem pw_zret {r : Int32} (hd : decode y.2.1 pc = .ok (.ireturn, 1)) (hr : y.2.2.2 = some .boolean) (hn : narrow .boolean (.int r) = .int r) (h : Q (some (.int r)) w) : PW d mc ms y mc ms pc lv [.int r] w Q := by
  intro p l e s m args below meth cd G B H locs ls C hK hP hS hB hl
  exact W.zret C.1 C.2.1 (C.2.2.1.trans hr) hn (fun t ht hW => ⟨⟨some (.int r), w, rfl, h, by rw [ht]; exact hP, KK.moved hW.alike hK⟩, hS.F ht⟩) hS.2.2 hd (hlocks := C.2.2.2.2.2.2.1)
theorem pw_vret (hd : decode y.2.1 pc = .ok (.return_, 1)) (hr : y.2.2.2 = none) (h : Q none w) : PW d mc ms y mc ms pc lv [] w Q := by
  intro p l e s m args below meth cd G B H locs ls C hK hP hS hB hl
  exact W.vret C.1 C.2.1 (C.2.2.1.trans hr) (fun t ht hW => ⟨⟨none, w, rfl, h, by rw [ht]; exact hP, KK.moved hW.alike hK⟩, hS.F ht⟩) hS.2.2 hd (hlocks := C.2.2.2.2.2.2.1)
theorem pw_aret {r : Nat} {rt : FieldType} (hd : decode y.2.1 pc = .ok (.areturn, 1)) (hr : y.2.2.2 = some rt) (hrt : (∃ n, rt = .object n) ∨ ∃ t, rt = .array t) (h : Q (some (.ref r)) w) : PW d mc ms y mc ms pc lv [.ref r] w Q := by
  intro p l e s m args below meth cd G B H locs ls C hK hP hS hB hl
  exact W.aret (v := .ref (B + r)) C.1 C.2.1 (C.2.2.1.trans hr) hrt (Or.inr ⟨_, rfl⟩) (fun t ht hW => ⟨⟨some (.ref r), w, rfl, h, by rw [ht]; exact hP, KK.moved hW.alike hK⟩, hS.F ht⟩) hS.2.2 hd (hlocks := C.2.2.2.2.2.2.1)
theorem pw_widen {a b : Nat} (h1 : nc ≤ a) (h2 : ns ≤ b) (k : PW d mc ms y a b pc lv st w Q) : PW d mc ms y nc ns pc lv st w Q :=
  fun p l e s m args below meth cd G B H locs ls C hK hP hS hB hl => W.widen h1 h2 (k p l e s m args below meth cd G B H locs ls C hK hP hS hB hl)
end Rows
end
section
section Calls9
variable {d mc ms nc ns : Nat} {y : MD} {pc : Nat} {lv : List (Nat × Value)} {st : List Value} {w : Wd} {Q : Option Value → Wd → Prop}
theorem pc_blind {G : Dg} {B : Nat} {w : Wd} {av : List Value} : FrameBlind (va_Pc av (fun U => Rp G B w U.heap ∧ KK G U)) := fun a U g mk q => ⟨q.1, q.2.1, KK.moved (u := U) (U := U.calling g mk a) (Vm.Alike.refl U.vm) q.2.2⟩
/-- a method out of its walk from the entry -/
theorem Call_of {d mc ms : Nat} {y : MD} {As : List Value} {w : Wd} {Q : Option Value → Wd → Prop} (hpl : plainName y.1.cls = true) (hlen : (lg_sl As).length ≤ y.2.2.1) (k : PW d mc ms y 0 0 0 (lv_args 0 As) [] w Q) : Call d mc ms y As w Q := by
  intro l G B
  refine Met.ofW (cc := y.2.1) (maxL := y.2.2.1) (ret := y.2.2.2) hpl rfl ?_
  intro p e s m args below meth c s₁ Bd hml hv
  obtain ⟨rfl, hP, hK⟩ := hv
  have hts := atoms_spec (ws := wsM y) Bd.pre
  have hown : s.vm.findClass y.1.cls = some m.cls := findClass_of_methodNamed Bd.named
  have hin : meth.name = y.1.name := (name_of_methodNamed Bd.named Bd.method).1
  have sl : lg_sl (As.map (rv B)) = (lg_sl As).map (fun z => match z with | .val v => .val (rv B v) | z => z) := by
    clear hlen k hP hts hml Bd
    induction As with
    | nil => rfl
    | cons v vs ih =>
      simp only [lg_sl, List.map_cons, List.flatMap_cons, List.map_append] at ih ⊢
      rw [ih, cat_rv]
      by_cases h : v.category = 2
      · rw [if_pos h, if_pos h]; rfl
      · rw [if_neg h, if_neg h]; rfl
  have ar : ∀ (i : Nat) (vs : List Value), lv_args i (vs.map (rv B)) = lvm B (lv_args i vs) := by
    intro i vs
    induction vs generalizing i with
    | nil => rfl
    | cons v vs ih =>
      simp only [lv_args, List.map_cons, cat_rv]
      rw [ih]
      rfl
  have hl := lv_entry (As.map (rv B)) (n := y.2.2.1) (by rw [sl, List.length_map]; exact hlen)
  rw [ar] at hl
  rw [lg_entry_eq]
  exact k p l e s m _ below meth c G B s.heap [] _ ⟨Bd.exec, Bd.bytes, Bd.returns, hml, hown, fun w hw => hts w (List.mem_cons_of_mem _ hw), Bd.notSynchronized, hin⟩ hK hP va_S.rf (by rw [hP.2]; omega) hl
theorem Call.mono {d mc ms : Nat} {y : MD} {As : List Value} {w : Wd} {Q Q' : Option Value → Wd → Prop} (h : Call d mc ms y As w Q) (hq : ∀ v w', Q v w' → Q' v w') : Call d mc ms y As w Q' := by
  intro l G B p e a1 a2 a3 s m args below a4 a5 a6 a7
  obtain ⟨k, o, h1, h2, h3, ⟨⟨v, w', e1, e2, e3⟩, hF⟩, h5⟩ := h l G B p e a1 a2 a3 s m args below a4 a5 a6 a7
  exact ⟨k, o, h1, h2, h3, ⟨⟨v, w', e1, hq _ _ e2, e3⟩, hF⟩, h5⟩
theorem pw_after {p : Program} {l : Launch} {e : Env} {s : State} {m : MethodId} {args : Array Value} {below : List Frame} {meth : Method} {c : Code} {G : Dg} {B : Nat} {H : Heap} {locs : List Loc} {ls : Array Slot} {mc2 ms2 : Nat} {rest : List Value} {st0 : List Value} {a : Array Value}
    (C : Cx p s m args meth c y) (hK : KK G s) (hS : va_S (Fr B) s.heap H locs) (hB : B ≤ s.heap.size) (hl : lv_has ls y.2.2.1 (lvm B lv))
    (hr : va_Run p l e (rmd d mc ms) s m args below meth c H locs nc ns mc2 ms2 (F0 m pc ls st0) (rest.map (rv B)) (QQ G B (fun v w' => PW d mc ms y (nc + mc2) (ns + ms2) (pc + 3) lv (v.toList ++ rest) w' Q) a) (Fr B)) :
    W p l e (rmd d mc ms) s m args below meth c H locs nc ns (MQ below (QQ G B Q) args s mc ms (Fr B)) (F0 m pc ls st0) := by
  intro T hT X
  obtain ⟨v, st₀, t, T', L, h0, X', hL, e1, e2, ⟨⟨v', w', hv, hq, hRp, hKt⟩, hF⟩, stp⟩ := hr T hT X
  have hv : v = v'.map (rv B) := by cases hv; rfl
  subst hv
  have hS' : va_S (Fr B) s.heap T'.heap (locs ++ L) := ⟨Nat.le_trans hS.1 (by rw [e1]; have := hF.1; rw [h0] at this; exact this), fun q h1 h2 => by
      rw [e1, hF.2 q (by rw [h0]; exact Nat.lt_of_lt_of_le h1 hS.1) h2, h0]; exact hS.2.1 q h1 h2, fun q hq => by
      rcases List.mem_append.mp hq with h | h
      · exact hS.2.2 q h
      · exact hL q h⟩
  obtain ⟨t2, a1, b1⟩ := hq p l e s m args below meth c G B T'.heap (locs ++ L) ls C hK (by rw [e1]; exact hRp) hS' hB hl T' rfl X'
  refine ⟨t2, stp t2 ?_, b1⟩
  have e9 : (v'.toList ++ rest).map (rv B) = (v'.map (rv B)).toList ++ rest.map (rv B) := by cases v' <;> simp
  rw [e9] at a1
  exact a1
/-- a method that may be called: what the tables say of it -/
def CV (y2 : MD) : Prop := Cond.instanceMethod y2.1 ∈ tb ∧ Cond.selects y2.1.cls y2.1 y2.1 ∈ tb ∧ Cond.initialized y2.1.cls ∈ tb ∧ Cond.code y2.1 y2.2.1 y2.2.2.1 y2.2.2.2 ∈ tb ∧ (y2.1.cls ≠ "java/lang/invoke/MethodHandle" ∧ y2.1.cls ≠ "java/lang/invoke/VarHandle") ∧ y2.2.2.1 ≤ 18
def CS (y2 : MD) : Prop := Cond.static y2.1 ∈ tb ∧ Cond.initialized y2.1.cls ∈ tb ∧ Cond.code y2.1 y2.2.1 y2.2.2.1 y2.2.2.2 ∈ tb ∧ (y2.1.cls ≠ "java/lang/invoke/MethodHandle" ∧ y2.1.cls ≠ "java/lang/invoke/VarHandle") ∧ y2.2.2.1 ≤ 18
theorem wsM_good {y2 : MD} (h : Cond.code y2.1 y2.2.1 y2.2.2.1 y2.2.2.2 ∈ tb) : GoodIn tb (wsM y2) := fun w hw => by
  rcases List.mem_cons.mp hw with e | h2
  · rw [e]; exact tb_good _ h
  · exact tb_good _ h2
theorem map_cat (B : Nat) (rest : List Value) : (rest.map (rv B)).map (fun v => v.category) = rest.map (fun v => v.category) := by
  rw [List.map_map]
  exact List.map_congr_left fun v _ => cat_rv B v
theorem pw_callV {d2 mc2 ms2 idx ci : Nat} {y2 : MD} {As rest : List Value} {c : Nat} {cT : vw_C} (n : Nat) (hd : decode y.2.1 pc = .ok (.invokevirtual idx, 3)) (hcv : CV y2) (hlink : Cond.methodLink y.1.cls idx y2.1 ∈ tb) (hlen : (parseMethodDescriptor y2.1.desc).map (fun d => d.parameters.length) = some n) (hAs : As.length = n)
    (hst : st = As.reverse ++ .ref c :: rest) (hdep : d2 + 1 ≤ d) (hcat : (rest.map fun v => v.category).sum ≤ 8) (hc : c < w.1) (hk : w.2.1 c = .inl ci) (hci : vwCl[ci]? = some cT) (hcls : cT.1 = y2.1.cls) (hmc : nc + mc2 ≤ mc) (hms : ns + ms2 ≤ ms)
    (k : Call d2 mc2 ms2 y2 (.ref c :: As) w (fun v w' => PW d mc ms y (nc + mc2) (ns + ms2) (pc + 3) lv (v.toList ++ rest) w' Q)) : PW d mc ms y nc ns pc lv st w Q := by
  intro p l e s m args below meth cd G B H locs ls C hK hP hS hB hl
  subst hst
  obtain ⟨i1, i2, i3, i4, i5, i6⟩ := hcv
  refine pw_after (mc2 := mc2) (ms2 := ms2) (rest := rest) C hK hS hB hl (a := (Value.ref (B + c) :: As.map (rv B)).toArray) ?_
  have ht := C.2.2.2.2.2.1
  have hR : (rmd d2 mc2 ms2).frames + 1 ≤ (rmd d mc ms).frames ∧ 8 + (y2.2.2.1 + 11) + (rmd d2 mc2 ms2).locals ≤ (rmd d mc ms).locals := by
    refine ⟨hdep, ?_⟩
    show 8 + (y2.2.2.1 + 11) + 37 * d2 ≤ 37 * d
    omega
  refine va_runV (Ts := tb) (own := y.1.cls) (C := y2.1.cls) (n := n) (ws := wsM y2) (b := B + c) (bytes := y2.2.1) (maxL := y2.2.2.1) (ret := y2.2.2.2) (rm := rmd d2 mc2 ms2) (As := As.map (rv B)) ⟨C.1, C.2.1, C.2.2.2.1, C.2.2.2.2.1, ht⟩ (k l G B) ⟨callB_of n ht (wsM_good i4) rfl rfl rfl (ht _ i3) (ht _ hlink) ⟨i5.1, i5.2, hlen⟩ hR, ht _ i1, ht _ i2⟩
    ⟨pc_blind, ?_, fun U hU hW => ⟨rfl, by rw [hU]; exact hP, KK.moved hW.alike hK⟩⟩ rfl (by rw [List.length_map]; exact hAs) hl.1 ?_ ?_ hd ⟨hmc, hms⟩
  · have := va_recv hK hP.1 hci ((wl_get hc).trans (by rw [wE_obj hk]))
    rw [hcls] at this
    exact this
  · simp [rv]
  · show 2 * 0 + _ ≤ 8
    rw [map_cat]
    omega
theorem pw_callS {d2 mc2 ms2 idx : Nat} {y2 : MD} {As rest : List Value} (n : Nat) (hd : decode y.2.1 pc = .ok (.invokestatic idx, 3)) (hcv : CS y2) (hlink : Cond.methodLink y.1.cls idx y2.1 ∈ tb) (hlen : (parseMethodDescriptor y2.1.desc).map (fun d => d.parameters.length) = some n) (hAs : As.length = n)
    (hst : st = As.reverse ++ rest) (hdep : d2 + 1 ≤ d) (hcat : (rest.map fun v => v.category).sum ≤ 8) (hmc : nc + mc2 ≤ mc) (hms : ns + ms2 ≤ ms)
    (k : Call d2 mc2 ms2 y2 As w (fun v w' => PW d mc ms y (nc + mc2) (ns + ms2) (pc + 3) lv (v.toList ++ rest) w' Q)) : PW d mc ms y nc ns pc lv st w Q := by
  intro p l e s m args below meth cd G B H locs ls C hK hP hS hB hl
  subst hst
  obtain ⟨i1, i3, i4, i5, i6⟩ := hcv
  refine pw_after (mc2 := mc2) (ms2 := ms2) (rest := rest) C hK hS hB hl (a := (As.map (rv B)).toArray) ?_
  have ht := C.2.2.2.2.2.1
  have hR : (rmd d2 mc2 ms2).frames + 1 ≤ (rmd d mc ms).frames ∧ 8 + (y2.2.2.1 + 11) + (rmd d2 mc2 ms2).locals ≤ (rmd d mc ms).locals := by
    refine ⟨hdep, ?_⟩
    show 8 + (y2.2.2.1 + 11) + 37 * d2 ≤ 37 * d
    omega
  refine va_runS (Ts := tb) (own := y.1.cls) (n := n) (ws := wsM y2) (bytes := y2.2.1) (maxL := y2.2.2.1) (ret := y2.2.2.2) (rm := rmd d2 mc2 ms2) (As := As.map (rv B)) ⟨C.1, C.2.1, C.2.2.2.1, C.2.2.2.2.1, ht⟩ (k l G B) ⟨callB_of n ht (wsM_good i4) rfl rfl rfl (ht _ i3) (ht _ hlink) ⟨i5.1, i5.2, hlen⟩ hR, ht _ i1⟩
    ⟨pc_blind, fun U hU hW => ⟨rfl, by rw [hU]; exact hP, KK.moved hW.alike hK⟩⟩ rfl (by rw [List.length_map]; exact hAs) hl.1 ?_ ?_ hd ⟨hmc, hms⟩
  · simp
  · show 2 * 0 + _ ≤ 8
    rw [map_cat]
    omega
/-- System.arraycopy of ints, where the method makes nothing -/
def wCpy (w : Wd) (c0 c1 sp dp n : Nat) : Wd := (w.1, w.2.1, w.2.2.1, fun c k => if c = c1 ∧ dp ≤ k ∧ k < dp + n then w.2.2.2 c0 (sp + (k - dp)) else w.2.2.2 c k)
theorem pw_copy {idx c0 c1 n0 n1 : Nat} {sp dp n : Int32} {rest : List Value} (hd : decode y.2.1 pc = .ok (.invokestatic idx, 3)) (hlink : Cond.methodLink y.1.cls idx arraycopyName ∈ tb) (hnat : Cond.native arraycopyName ∈ tb) (hstat : Cond.static arraycopyName ∈ tb) (hini : Cond.initialized "java/lang/System" ∈ tb)
    (h0 : c0 < w.1) (h1 : c1 < w.1) (k0 : w.2.1 c0 = .inr (.inl n0)) (k1 : w.2.1 c1 = .inr (.inl n1)) (g1 : ¬ sp < 0) (g2 : ¬ dp < 0) (g3 : ¬ n < 0) (g4 : ix sp + ix n ≤ n0) (g5 : ix dp + ix n ≤ n1) (hdep : 1 ≤ d) (hcat : (rest.map fun v => v.category).sum ≤ 8)
    (kk : PW d mc ms y 0 ns (pc + 3) lv rest (wCpy w c0 c1 (ix sp) (ix dp) (ix n)) Q) : PW d mc ms y 0 ns pc lv (.int n :: .int dp :: .ref c1 :: .int sp :: .ref c0 :: rest) w Q := by
  intro p l e s m args below meth cd G B H locs ls C hK hP hS hB hl
  have ht := C.2.2.2.2.2.1
  intro T hT X
  have hs1 : H.size = s.heap.size := by
    have h1 := X.same.2.1
    have h2 := X.same.2.2.1
    simp only [State.setVm] at h1 h2
    rw [hT] at h1 h2
    omega
  refine va_copyi (ws := wl G B w) (A := Fr B) (ty := .int) C.1 C.2.1 (C.2.2.2.1.trans hl.1.symm) C.2.2.2.2.1 (ht _ hlink) (ht _ hnat) (ht _ hstat) (ht _ hini) hK hP.1 wl_D hS c0 c1 0 0 ((wl_get h0).trans (by rw [wE_arr k0])) ((wl_get h1).trans (by rw [wE_arr k1])) rfl rfl rfl g1 g2 g3 g4 g5 (fun i _ => rfl) hdep ?_ hd (fun H1 locs1 hP1 _ hS1 => ?_) T hT X
  · rw [map_cat]
    show _ + (nativeFrameWords "java/lang/System" "arraycopy" 5 + 11) ≤ 37 * d
    have : nativeFrameWords "java/lang/System" "arraycopy" 5 ≤ 18 := by decide
    omega
  · intro T1 hT1 X1
    have hs2 : H1.size = s.heap.size := by
      have h1 := X1.same.2.1
      have h2 := X1.same.2.2.1
      simp only [State.setVm] at h1 h2
      rw [hT1] at h1 h2
      omega
    have hP2 : va_P G.1 vwCl (wl G B (wCpy w c0 c1 (ix sp) (ix dp) (ix n))) H1 := by
      have hcell : ∀ c', c' ≠ c1 → (wCpy w c0 c1 (ix sp) (ix dp) (ix n)).2.2.2 c' = w.2.2.2 c' := fun c' h => funext fun j => by simp [wCpy, h]
      have e2 : ∀ c', c' ≠ c1 → wE G B (wCpy w c0 c1 (ix sp) (ix dp) (ix n)) c' = wE G B w c' := by
        intro c' h
        have e := hcell c' h
        unfold wE
        show (match w.2.1 c' with | .inl ci => _ | .inr (.inl n) => _ | .inr (.inr n) => _) = _
        cases w.2.1 c' with
        | inl ci => exact congrArg (fun x => Sum.inr (ci, x)) (wF_eq (fun j _ => ⟨rfl, congrFun e _⟩))
        | inr x =>
          cases x with
          | inl n => show (Sum.inl _ : va_E) = Sum.inl _; rw [e]
          | inr n => rfl
      rw [wl_set (w := w) (w' := wCpy w c0 c1 (ix sp) (ix dp) (ix n)) rfl e2 (by
        rw [wE_arr (n := n1) (by exact k1)]
        refine congrArg (fun f => (Sum.inl (G.2.1, n1, Sum.inl f) : va_E)) (funext fun j => ?_)
        show (if c1 = c1 ∧ _ then _ else _) = va_cpy _ _ _ _ _ _
        unfold va_cpy
        simp)] at hP1
      exact hP1
    exact kk p l e s m args below meth cd G B H1 locs1 ls C hK ⟨hP2, by rw [hs2, ← hs1]; exact hP.2⟩ hS1 hB hl T1 hT1 X1
end Calls9
end
section
abbrev mdX0_init : MD := (yX0_init, cX0_init, 1, none)
abbrev mdX0_hasRoom : MD := (yX0_hasRoom, cX0_hasRoom, 2, (some .boolean))
abbrev mdX0_arePair : MD := (yX0_arePair, cX0_arePair, 3, (some .boolean))
abbrev mdX0_doorKind : MD := (yX0_doorKind, cX0_doorKind, 3, (some .int))
abbrev mdX0_putDoor : MD := (yX0_putDoor, cX0_putDoor, 5, none)
abbrev mdX0_takeDoor : MD := (yX0_takeDoor, cX0_takeDoor, 3, none)
abbrev mdX0_isWalked : MD := (yX0_isWalked, cX0_isWalked, 7, (some .boolean))
abbrev mdX0_around : MD := (yX0_around, cX0_around, 4, (some .int))
abbrev mdX0_measure : MD := (yX0_measure, cX0_measure, 2, none)
abbrev mdX0_measureFrom : MD := (yX0_measureFrom, cX0_measureFrom, 9, none)
abbrev mdX0_become : MD := (yX0_become, cX0_become, 3, none)
abbrev mdX1_init : MD := (yX1_init, cX1_init, 3, none)
abbrev mdX1_findLiars : MD := (yX1_findLiars, cX1_findLiars, 5, (some .int))
abbrev mdX1_haveWays : MD := (yX1_haveWays, cX1_haveWays, 4, (some .boolean))
abbrev mdX1_pin : MD := (yX1_pin, cX1_pin, 5, (some .boolean))
abbrev mdX1_wayOf : MD := (yX1_wayOf, cX1_wayOf, 2, (some (.array (.array .int))))
abbrev mdX1_hasWay : MD := (yX1_hasWay, cX1_hasWay, 6, (some .boolean))
abbrev mdX1_roomsOf : MD := (yX1_roomsOf, cX1_roomsOf, 8, (some .int))
abbrev mdX1_isSuspect : MD := (yX1_isSuspect, cX1_isSuspect, 3, (some .boolean))
abbrev mdX1_othersMayBeElsewhere : MD := (yX1_othersMayBeElsewhere, cX1_othersMayBeElsewhere, 4, (some .boolean))
abbrev mdX2_init : MD := (yX2_init, cX2_init, 1, none)
abbrev mdX2_errandOf : MD := (yX2_errandOf, cX2_errandOf, 6, (some .int))
abbrev mdX3_init : MD := (yX3_init, cX3_init, 4, none)
abbrev mdX3_plan : MD := (yX3_plan, cX3_plan, 2, (some (.object "BackStairs$Plan")))
abbrev mdX3_prepare : MD := (yX3_prepare, cX3_prepare, 3, none)
abbrev mdX3_fillEnds : MD := (yX3_fillEnds, cX3_fillEnds, 8, none)
abbrev mdX3_takenAt : MD := (yX3_takenAt, cX3_takenAt, 7, (some .int))
abbrev mdX3_doneAt : MD := (yX3_doneAt, cX3_doneAt, 5, (some .int))
abbrev mdX3_firstOrder : MD := (yX3_firstOrder, cX3_firstOrder, 3, none)
abbrev mdX3_nextOrder : MD := (yX3_nextOrder, cX3_nextOrder, 7, (some .boolean))
abbrev mdX3_swap : MD := (yX3_swap, cX3_swap, 5, none)
abbrev mdX3_fillLeast : MD := (yX3_fillLeast, cX3_fillLeast, 11, none)
abbrev mdX3_leastWith : MD := (yX3_leastWith, cX3_leastWith, 6, (some .int))
abbrev mdX3_costOf : MD := (yX3_costOf, cX3_costOf, 6, (some .int))
abbrev mdX3_makeBest : MD := (yX3_makeBest, cX3_makeBest, 5, none)
abbrev mdX3_allHome : MD := (yX3_allHome, cX3_allHome, 2, none)
abbrev mdX3_follow : MD := (yX3_follow, cX3_follow, 3, none)
abbrev mdX3_carryOut : MD := (yX3_carryOut, cX3_carryOut, 4, none)
abbrev mdX3_makeRule : MD := (yX3_makeRule, cX3_makeRule, 4, none)
abbrev mdX3_isAhead : MD := (yX3_isAhead, cX3_isAhead, 3, (some .boolean))
abbrev mdX3_soonestFor : MD := (yX3_soonestFor, cX3_soonestFor, 7, (some .int))
abbrev mdX3_fewest : MD := (yX3_fewest, cX3_fewest, 4, (some .int))
abbrev mdX4_init : MD := (yX4_init, cX4_init, 1, none)
abbrev mdX4_isSheet : MD := (yX4_isSheet, cX4_isSheet, 2, (some .boolean))
abbrev mdX4_isLane : MD := (yX4_isLane, cX4_isLane, 2, (some .boolean))
abbrev mdX4_isNothing : MD := (yX4_isNothing, cX4_isNothing, 2, (some .boolean))
abbrev mdX4_holds : MD := (yX4_holds, cX4_holds, 4, (some .boolean))
abbrev mdX4_renew : MD := (yX4_renew, cX4_renew, 4, none)
abbrev mdX4_makeNothing : MD := (yX4_makeNothing, cX4_makeNothing, 2, none)
abbrev mdX4_put : MD := (yX4_put, cX4_put, 4, none)
abbrev mdX5_init : MD := (yX5_init, cX5_init, 1, none)
abbrev mdX5_hasServant : MD := (yX5_hasServant, cX5_hasServant, 2, (some .boolean))
abbrev mdX5_hasErrand : MD := (yX5_hasErrand, cX5_hasErrand, 2, (some .boolean))
abbrev mdX5_well : MD := (yX5_well, cX5_well, 1, (some .int))
abbrev mdX5_addErrand : MD := (yX5_addErrand, cX5_addErrand, 6, none)
abbrev mdX5_removeErrand : MD := (yX5_removeErrand, cX5_removeErrand, 3, none)
abbrev mdX5_asTold : MD := (yX5_asTold, cX5_asTold, 3, (some .int))
abbrev mdX5_weight : MD := (yX5_weight, cX5_weight, 4, (some .int))
abbrev mdX5_become : MD := (yX5_become, cX5_become, 2, none)
abbrev mdX6_init : MD := (yX6_init, cX6_init, 1, none)
abbrev mdX6_hasOne : MD := (yX6_hasOne, cX6_hasOne, 2, (some .boolean))
abbrev mdX6_addSaying : MD := (yX6_addSaying, cX6_addSaying, 5, none)
abbrev mdX6_removeSaying : MD := (yX6_removeSaying, cX6_removeSaying, 3, none)
abbrev mdX6_become : MD := (yX6_become, cX6_become, 2, none)
abbrev mdX7_init : MD := (yX7_init, cX7_init, 1, none)
abbrev mdX7_add : MD := (yX7_add, cX7_add, 6, (some .int))
abbrev mdX7_byteOf : MD := (yX7_byteOf, cX7_byteOf, 3, (some .int))
abbrev mdX7_clear : MD := (yX7_clear, cX7_clear, 1, none)
abbrev mdX7_readWalk : MD := (yX7_readWalk, cX7_readWalk, 8, (some .int))
abbrev mdX7_readSayings : MD := (yX7_readSayings, cX7_readSayings, 7, (some .int))
abbrev mdX7_fault : MD := (yX7_fault, cX7_fault, 1, (some .int))
abbrev mdX7_peek : MD := (yX7_peek, cX7_peek, 1, (some .int))
abbrev mdX7_letter : MD := (yX7_letter, cX7_letter, 3, (some .int))
abbrev mdX7_number : MD := (yX7_number, cX7_number, 4, (some .int))
abbrev mdX8_init : MD := (yX8_init, cX8_init, 2, none)
abbrev mdX8_prepare : MD := (yX8_prepare, cX8_prepare, 3, none)
abbrev mdX8_comersInto : MD := (yX8_comersInto, cX8_comersInto, 5, (some .int))
abbrev mdX8_mayBegin : MD := (yX8_mayBegin, cX8_mayBegin, 4, (some .boolean))
abbrev mdX8_step : MD := (yX8_step, cX8_step, 4, (some .int))
abbrev mdX8_onward : MD := (yX8_onward, cX8_onward, 6, (some .int))
abbrev mdX8_soonest : MD := (yX8_soonest, cX8_soonest, 6, (some .int))
abbrev mdX8_roomOnTrip : MD := (yX8_roomOnTrip, cX8_roomOnTrip, 8, (some .int))
abbrev mdX8_lowest : MD := (yX8_lowest, cX8_lowest, 3, (some .int))
abbrev mdX9_init : MD := (yX9_init, cX9_init, 1, none)
abbrev mdX9_room : MD := (yX9_room, cX9_room, 1, (some .int))
abbrev mdX9_door : MD := (yX9_door, cX9_door, 4, (some .int))
abbrev mdX9_wall : MD := (yX9_wall, cX9_wall, 4, (some .int))
abbrev mdX9_type : MD := (yX9_type, cX9_type, 4, (some .int))
abbrev mdX9_walk : MD := (yX9_walk, cX9_walk, 2, (some .int))
abbrev mdX9_guest : MD := (yX9_guest, cX9_guest, 3, (some .int))
abbrev mdX9_trip : MD := (yX9_trip, cX9_trip, 7, (some .int))
abbrev mdX9_servant : MD := (yX9_servant, cX9_servant, 2, (some .int))
abbrev mdX9_ill : MD := (yX9_ill, cX9_ill, 4, (some .int))
abbrev mdX9_cellar : MD := (yX9_cellar, cX9_cellar, 3, (some .int))
abbrev mdX9_errand : MD := (yX9_errand, cX9_errand, 6, (some .int))
abbrev mdX9_told : MD := (yX9_told, cX9_told, 4, (some .int))
abbrev mdX9_drop : MD := (yX9_drop, cX9_drop, 2, (some .int))
abbrev mdX9_cost : MD := (yX9_cost, cX9_cost, 2, (some .int))
abbrev mdX9_does : MD := (yX9_does, cX9_does, 5, (some .int))
abbrev mdX9_enough : MD := (yX9_enough, cX9_enough, 1, (some .int))
abbrev mdX9_missed : MD := (yX9_missed, cX9_missed, 4, (some .int))
abbrev mdX9_opened : MD := (yX9_opened, cX9_opened, 5, (some .int))
abbrev mdX9_folk : MD := (yX9_folk, cX9_folk, 2, (some .int))
abbrev mdX9_say : MD := (yX9_say, cX9_say, 5, (some .int))
abbrev mdX9_sayings : MD := (yX9_sayings, cX9_sayings, 4, (some .int))
abbrev mdX9_unsay : MD := (yX9_unsay, cX9_unsay, 2, (some .int))
abbrev mdX9_liars : MD := (yX9_liars, cX9_liars, 1, (some .int))
abbrev mdX9_maybe : MD := (yX9_maybe, cX9_maybe, 3, (some .int))
abbrev mdX9_theft : MD := (yX9_theft, cX9_theft, 4, (some .int))
abbrev mdX9_suspects : MD := (yX9_suspects, cX9_suspects, 3, (some .int))
abbrev mdX9_clears : MD := (yX9_clears, cX9_clears, 4, (some .int))
abbrev mdX9_count : MD := (yX9_count, cX9_count, 2, (some .int))
abbrev mdX9_image : MD := (yX9_image, cX9_image, 1, (some .int))
abbrev mdX9_restore : MD := (yX9_restore, cX9_restore, 1, (some .int))
abbrev mdX9_errands : MD := (yX9_errands, cX9_errands, 7, (some .int))
abbrev mdX9_sheet : MD := (yX9_sheet, cX9_sheet, 4, (some .int))
abbrev mdX9_empty : MD := (yX9_empty, cX9_empty, 3, (some .int))
abbrev mdX9_item : MD := (yX9_item, cX9_item, 5, (some .int))
abbrev mdX9_copy : MD := (yX9_copy, cX9_copy, 6, (some .int))
abbrev mdX9_isTick : MD := (yX9_isTick, cX9_isTick, 1, (some .boolean))
abbrev mdX9_isErrand : MD := (yX9_isErrand, cX9_isErrand, 6, (some .boolean))
abbrev mdX9_doorsChanged : MD := (yX9_doorsChanged, cX9_doorsChanged, 1, none)
abbrev mdX9_plansChanged : MD := (yX9_plansChanged, cX9_plansChanged, 1, none)
abbrev mdX10_in : MD := (yX10_in, cX10_in, 6, (some .boolean))
abbrev mdX10_init : MD := (yX10_init, cX10_init, 2, none)
abbrev mdX10_isRoom : MD := (yX10_isRoom, cX10_isRoom, 2, (some .boolean))
abbrev mdX10_isTick : MD := (yX10_isTick, cX10_isTick, 1, (some .boolean))
abbrev mdX10_room : MD := (yX10_room, cX10_room, 1, (some .int))
abbrev mdX10_doorIs : MD := (yX10_doorIs, cX10_doorIs, 4, none)
abbrev mdX10_door : MD := (yX10_door, cX10_door, 4, (some .int))
abbrev mdX10_isWalked : MD := (yX10_isWalked, cX10_isWalked, 8, (some .boolean))
abbrev mdX10_wall : MD := (yX10_wall, cX10_wall, 4, (some .int))
abbrev mdX10_type : MD := (yX10_type, cX10_type, 5, (some .int))
abbrev mdX10_here : MD := (yX10_here, cX10_here, 1, (some .int))
abbrev mdX10_letter : MD := (yX10_letter, cX10_letter, 3, (some .int))
abbrev mdX10_number : MD := (yX10_number, cX10_number, 5, (some .int))
abbrev mdX10_walks : MD := (yX10_walks, cX10_walks, 8, none)
abbrev mdX10_walk : MD := (yX10_walk, cX10_walk, 2, (some .int))
abbrev mdX10_guest : MD := (yX10_guest, cX10_guest, 3, (some .int))
abbrev mdX10_isMet : MD := (yX10_isMet, cX10_isMet, 5, (some .boolean))
abbrev mdX10_may : MD := (yX10_may, cX10_may, 7, (some .boolean))
abbrev mdX10_reaches : MD := (yX10_reaches, cX10_reaches, 7, none)
abbrev mdX10_lays : MD := (yX10_lays, cX10_lays, 7, none)
abbrev mdX10_endOf : MD := (yX10_endOf, cX10_endOf, 5, (some .int))
abbrev mdX10_trip : MD := (yX10_trip, cX10_trip, 11, (some .int))
abbrev mdX10_servant : MD := (yX10_servant, cX10_servant, 2, (some .int))
abbrev mdX10_ill : MD := (yX10_ill, cX10_ill, 4, (some .int))
abbrev mdX10_cellar : MD := (yX10_cellar, cX10_cellar, 3, (some .int))
abbrev mdX10_isErrand : MD := (yX10_isErrand, cX10_isErrand, 6, (some .boolean))
abbrev mdX10_puts : MD := (yX10_puts, cX10_puts, 7, none)
abbrev mdX10_errand : MD := (yX10_errand, cX10_errand, 6, (some .int))
abbrev mdX10_errands : MD := (yX10_errands, cX10_errands, 8, (some .int))
abbrev mdX10_drop : MD := (yX10_drop, cX10_drop, 3, (some .int))
abbrev mdX10_wakes : MD := (yX10_wakes, cX10_wakes, 2, none)
abbrev mdX10_wouldBe : MD := (yX10_wouldBe, cX10_wouldBe, 6, (some .int))
abbrev mdX10_doIt : MD := (yX10_doIt, cX10_doIt, 3, none)
abbrev mdX10_costOf : MD := (yX10_costOf, cX10_costOf, 3, (some .int))
abbrev mdX10_well : MD := (yX10_well, cX10_well, 3, (some .int))
abbrev mdX10_size : MD := (yX10_size, cX10_size, 3, (some .int))
abbrev mdX10_sumOf : MD := (yX10_sumOf, cX10_sumOf, 3, (some .int))
abbrev mdX10_rows : MD := (yX10_rows, cX10_rows, 8, none)
abbrev mdX10_best : MD := (yX10_best, cX10_best, 10, (some .int))
abbrev mdX10_keeps : MD := (yX10_keeps, cX10_keeps, 2, none)
abbrev mdX10_ruled : MD := (yX10_ruled, cX10_ruled, 9, (some .int))
abbrev mdX10_bestDone : MD := (yX10_bestDone, cX10_bestDone, 3, (some .int))
abbrev mdX10_told : MD := (yX10_told, cX10_told, 3, (some .int))
abbrev mdX10_cost : MD := (yX10_cost, cX10_cost, 2, (some .int))
abbrev mdX10_does : MD := (yX10_does, cX10_does, 6, (some .int))
abbrev mdX10_enough : MD := (yX10_enough, cX10_enough, 5, (some .int))
abbrev mdX10_missed : MD := (yX10_missed, cX10_missed, 4, (some .int))
abbrev mdX10_opened : MD := (yX10_opened, cX10_opened, 5, (some .int))
abbrev mdX10_isOne : MD := (yX10_isOne, cX10_isOne, 2, (some .boolean))
abbrev mdX10_folk : MD := (yX10_folk, cX10_folk, 2, (some .int))
abbrev mdX10_say : MD := (yX10_say, cX10_say, 5, (some .int))
abbrev mdX10_sayings : MD := (yX10_sayings, cX10_sayings, 4, (some .int))
abbrev mdX10_unsay : MD := (yX10_unsay, cX10_unsay, 3, (some .int))
abbrev mdX10_goes : MD := (yX10_goes, cX10_goes, 6, (some .boolean))
abbrev mdX10_around : MD := (yX10_around, cX10_around, 6, (some .int))
abbrev mdX10_liarsBut : MD := (yX10_liarsBut, cX10_liarsBut, 6, (some .int))
abbrev mdX10_liars : MD := (yX10_liars, cX10_liars, 1, (some .int))
abbrev mdX10_maybe : MD := (yX10_maybe, cX10_maybe, 3, (some .int))
abbrev mdX10_theft : MD := (yX10_theft, cX10_theft, 4, (some .int))
abbrev mdX10_suspectsBut : MD := (yX10_suspectsBut, cX10_suspectsBut, 8, (some .int))
abbrev mdX10_suspects : MD := (yX10_suspects, cX10_suspects, 1, (some .int))
abbrev mdX10_clears : MD := (yX10_clears, cX10_clears, 4, (some .int))
abbrev mdX10_count : MD := (yX10_count, cX10_count, 2, (some .int))
abbrev mdX10_saves : MD := (yX10_saves, cX10_saves, 4, (some .int))
abbrev mdX10_gives : MD := (yX10_gives, cX10_gives, 4, (some .int))
abbrev mdX10_image : MD := (yX10_image, cX10_image, 2, (some .int))
abbrev mdX10_restore : MD := (yX10_restore, cX10_restore, 2, (some .int))
abbrev mdX10_isSheet : MD := (yX10_isSheet, cX10_isSheet, 1, (some .boolean))
abbrev mdX10_isLane : MD := (yX10_isLane, cX10_isLane, 1, (some .boolean))
abbrev mdX10_finds : MD := (yX10_finds, cX10_finds, 5, (some .int))
abbrev mdX10_sheet : MD := (yX10_sheet, cX10_sheet, 5, (some .int))
abbrev mdX10_empty : MD := (yX10_empty, cX10_empty, 2, (some .int))
abbrev mdX10_item : MD := (yX10_item, cX10_item, 6, (some .int))
abbrev mdX10_copy : MD := (yX10_copy, cX10_copy, 7, (some .int))
abbrev mdJ6_bitCount_0f7a4 : MD := (yJ6_bitCount_0f7a4, cJ6_bitCount_0f7a4, 1, (some .int))
abbrev mdJ9_max_7cf53 : MD := (yJ9_max_7cf53, cJ9_max_7cf53, 2, (some .int))
abbrev mdJ9_min_7cf53 : MD := (yJ9_min_7cf53, cJ9_min_7cf53, 2, (some .int))
abbrev mdJ7_rangeCheck_23922 : MD := (yJ7_rangeCheck_23922, cJ7_rangeCheck_23922, 3, none)
abbrev mdJ7_fill_53178 : MD := (yJ7_fill_53178, cJ7_fill_53178, 4, none)
abbrev mdJ7_fill_fda19 : MD := (yJ7_fill_fda19, cJ7_fill_fda19, 5, none)
theorem cf_0 : CF 0 RX0 TX0 8 tyX0 := ⟨rfl, by decide +kernel, tyX0_ok, nmX0, by decide +kernel⟩
theorem cf_1 : CF 1 RX1 TX1 3 tyX1 := ⟨rfl, by decide +kernel, tyX1_ok, nmX1, by decide +kernel⟩
theorem cf_2 : CF 2 RX2 TX2 5 tyX2 := ⟨rfl, by decide +kernel, tyX2_ok, nmX2, by decide +kernel⟩
theorem cf_3 : CF 3 RX3 TX3 12 tyX3 := ⟨rfl, by decide +kernel, tyX3_ok, nmX3, by decide +kernel⟩
theorem cf_4 : CF 4 RX4 TX4 3 tyX4 := ⟨rfl, by decide +kernel, tyX4_ok, nmX4, by decide +kernel⟩
theorem cf_5 : CF 5 RX5 TX5 10 tyX5 := ⟨rfl, by decide +kernel, tyX5_ok, nmX5, by decide +kernel⟩
theorem cf_6 : CF 6 RX6 TX6 11 tyX6 := ⟨rfl, by decide +kernel, tyX6_ok, nmX6, by decide +kernel⟩
theorem cf_7 : CF 7 RX7 TX7 4 tyX7 := ⟨rfl, by decide +kernel, tyX7_ok, nmX7, by decide +kernel⟩
theorem cf_8 : CF 8 RX8 TX8 6 tyX8 := ⟨rfl, by decide +kernel, tyX8_ok, nmX8, by decide +kernel⟩
theorem cf_9 : CF 9 RX9 TX9 14 tyX9 := ⟨rfl, by decide +kernel, tyX9_ok, nmX9, by decide +kernel⟩
theorem cf_10 : CF 10 RX10 TX10 44 tyX10 := ⟨rfl, by decide +kernel, tyX10_ok, nmX10, by decide +kernel⟩
theorem fl_X0_9 : FL RX0 9 0 3 true (.array .int) := ⟨_, _, _, _, cf_0, by decide, tb_in 105 (by decide +kernel) rfl, rfl, rfl⟩
theorem fl_X0_15 : FL RX0 15 0 4 true (.array .int) := ⟨_, _, _, _, cf_0, by decide, tb_in 106 (by decide +kernel) rfl, rfl, rfl⟩
theorem fl_X0_20 : FL RX0 20 0 5 true (.array (.array .int)) := ⟨_, _, _, _, cf_0, by decide, tb_in 107 (by decide +kernel) rfl, rfl, rfl⟩
theorem fl_X0_23 : FL RX0 23 0 6 true (.array (.array .int)) := ⟨_, _, _, _, cf_0, by decide, tb_in 110 (by decide +kernel) rfl, rfl, rfl⟩
theorem fl_X0_26 : FL RX0 26 0 7 true (.array (.array .int)) := ⟨_, _, _, _, cf_0, by decide, tb_in 112 (by decide +kernel) rfl, rfl, rfl⟩
theorem fl_X0_29 : FL RX0 29 0 0 false .int := ⟨_, _, _, _, cf_0, by decide, tb_in 95 (by decide +kernel) rfl, rfl, rfl⟩
theorem fl_X0_37 : FL RX0 37 0 1 false .int := ⟨_, _, _, _, cf_0, by decide, tb_in 101 (by decide +kernel) rfl, rfl, rfl⟩
theorem fl_X0_40 : FL RX0 40 0 2 false .int := ⟨_, _, _, _, cf_0, by decide, tb_in 104 (by decide +kernel) rfl, rfl, rfl⟩
theorem fl_X1_11 : FL RX1 11 1 2 true (.array (.array .int)) := ⟨_, _, _, _, cf_1, by decide, tb_in 395 (by decide +kernel) rfl, rfl, rfl⟩
theorem fl_X1_16 : FL RX1 16 1 0 true (.object "BackStairs$House") := ⟨_, _, _, _, cf_1, by decide, tb_in 393 (by decide +kernel) rfl, rfl, rfl⟩
theorem fl_X1_20 : FL RX1 20 1 1 true (.object "BackStairs$Talk") := ⟨_, _, _, _, cf_1, by decide, tb_in 394 (by decide +kernel) rfl, rfl, rfl⟩
theorem fl_X1_24 : FL RX1 24 6 1 false .int := ⟨_, _, _, _, cf_6, by decide, tb_in 193 (by decide +kernel) rfl, rfl, rfl⟩
theorem fl_X1_30 : FL RX1 30 6 7 true (.array .int) := ⟨_, _, _, _, cf_6, by decide, tb_in 211 (by decide +kernel) rfl, rfl, rfl⟩
theorem fl_X1_34 : FL RX1 34 6 0 false .int := ⟨_, _, _, _, cf_6, by decide, tb_in 191 (by decide +kernel) rfl, rfl, rfl⟩
theorem fl_X1_53 : FL RX1 53 6 9 true (.array .int) := ⟨_, _, _, _, cf_6, by decide, tb_in 215 (by decide +kernel) rfl, rfl, rfl⟩
theorem fl_X1_56 : FL RX1 56 6 10 true (.array .int) := ⟨_, _, _, _, cf_6, by decide, tb_in 217 (by decide +kernel) rfl, rfl, rfl⟩
theorem fl_X1_63 : FL RX1 63 6 8 true (.array .int) := ⟨_, _, _, _, cf_6, by decide, tb_in 213 (by decide +kernel) rfl, rfl, rfl⟩
theorem fl_X1_70 : FL RX1 70 6 6 true (.array .int) := ⟨_, _, _, _, cf_6, by decide, tb_in 208 (by decide +kernel) rfl, rfl, rfl⟩
theorem fl_X1_73 : FL RX1 73 0 6 true (.array (.array .int)) := ⟨_, _, _, _, cf_0, by decide, tb_in 111 (by decide +kernel) rfl, rfl, rfl⟩
theorem fl_X1_78 : FL RX1 78 0 7 true (.array (.array .int)) := ⟨_, _, _, _, cf_0, by decide, tb_in 113 (by decide +kernel) rfl, rfl, rfl⟩
theorem fl_X1_85 : FL RX1 85 0 0 false .int := ⟨_, _, _, _, cf_0, by decide, tb_in 99 (by decide +kernel) rfl, rfl, rfl⟩
theorem fl_X1_87 : FL RX1 87 6 4 false .int := ⟨_, _, _, _, cf_6, by decide, tb_in 202 (by decide +kernel) rfl, rfl, rfl⟩
theorem fl_X1_90 : FL RX1 90 6 5 false .int := ⟨_, _, _, _, cf_6, by decide, tb_in 205 (by decide +kernel) rfl, rfl, rfl⟩
theorem fl_X1_97 : FL RX1 97 6 3 false .int := ⟨_, _, _, _, cf_6, by decide, tb_in 199 (by decide +kernel) rfl, rfl, rfl⟩
theorem fl_X10_7 : FL RX10 7 10 2 true (.array .int) := ⟨_, _, _, _, cf_10, by decide, tb_in 949 (by decide +kernel) rfl, rfl, rfl⟩
theorem fl_X10_13 : FL RX10 13 10 4 true (.array .int) := ⟨_, _, _, _, cf_10, by decide, tb_in 951 (by decide +kernel) rfl, rfl, rfl⟩
theorem fl_X10_16 : FL RX10 16 10 6 true (.array .int) := ⟨_, _, _, _, cf_10, by decide, tb_in 953 (by decide +kernel) rfl, rfl, rfl⟩
theorem fl_X10_19 : FL RX10 19 10 10 true (.array .int) := ⟨_, _, _, _, cf_10, by decide, tb_in 957 (by decide +kernel) rfl, rfl, rfl⟩
theorem fl_X10_22 : FL RX10 22 10 11 true (.array .int) := ⟨_, _, _, _, cf_10, by decide, tb_in 958 (by decide +kernel) rfl, rfl, rfl⟩
theorem fl_X10_25 : FL RX10 25 10 12 true (.array .int) := ⟨_, _, _, _, cf_10, by decide, tb_in 959 (by decide +kernel) rfl, rfl, rfl⟩
theorem fl_X10_28 : FL RX10 28 10 15 true (.array .int) := ⟨_, _, _, _, cf_10, by decide, tb_in 962 (by decide +kernel) rfl, rfl, rfl⟩
theorem fl_X10_31 : FL RX10 31 10 16 true (.array .int) := ⟨_, _, _, _, cf_10, by decide, tb_in 963 (by decide +kernel) rfl, rfl, rfl⟩
theorem fl_X10_34 : FL RX10 34 10 18 true (.array .int) := ⟨_, _, _, _, cf_10, by decide, tb_in 965 (by decide +kernel) rfl, rfl, rfl⟩
theorem fl_X10_37 : FL RX10 37 10 19 true (.array .int) := ⟨_, _, _, _, cf_10, by decide, tb_in 966 (by decide +kernel) rfl, rfl, rfl⟩
theorem fl_X10_40 : FL RX10 40 10 20 true (.array .int) := ⟨_, _, _, _, cf_10, by decide, tb_in 967 (by decide +kernel) rfl, rfl, rfl⟩
theorem fl_X10_43 : FL RX10 43 10 21 true (.array .int) := ⟨_, _, _, _, cf_10, by decide, tb_in 968 (by decide +kernel) rfl, rfl, rfl⟩
theorem fl_X10_46 : FL RX10 46 10 22 true (.array .int) := ⟨_, _, _, _, cf_10, by decide, tb_in 969 (by decide +kernel) rfl, rfl, rfl⟩
theorem fl_X10_49 : FL RX10 49 10 24 true (.array .int) := ⟨_, _, _, _, cf_10, by decide, tb_in 971 (by decide +kernel) rfl, rfl, rfl⟩
theorem fl_X10_52 : FL RX10 52 10 25 true (.array .int) := ⟨_, _, _, _, cf_10, by decide, tb_in 972 (by decide +kernel) rfl, rfl, rfl⟩
theorem fl_X10_55 : FL RX10 55 10 26 true (.array .int) := ⟨_, _, _, _, cf_10, by decide, tb_in 973 (by decide +kernel) rfl, rfl, rfl⟩
theorem fl_X10_58 : FL RX10 58 10 27 true (.array .int) := ⟨_, _, _, _, cf_10, by decide, tb_in 974 (by decide +kernel) rfl, rfl, rfl⟩
theorem fl_X10_61 : FL RX10 61 10 29 true (.array .int) := ⟨_, _, _, _, cf_10, by decide, tb_in 976 (by decide +kernel) rfl, rfl, rfl⟩
theorem fl_X10_64 : FL RX10 64 10 31 true (.array .int) := ⟨_, _, _, _, cf_10, by decide, tb_in 978 (by decide +kernel) rfl, rfl, rfl⟩
theorem fl_X10_67 : FL RX10 67 10 32 false .int := ⟨_, _, _, _, cf_10, by decide, tb_in 979 (by decide +kernel) rfl, rfl, rfl⟩
theorem fl_X10_71 : FL RX10 71 10 35 true (.array .int) := ⟨_, _, _, _, cf_10, by decide, tb_in 982 (by decide +kernel) rfl, rfl, rfl⟩
theorem fl_X10_74 : FL RX10 74 10 36 true (.array .int) := ⟨_, _, _, _, cf_10, by decide, tb_in 983 (by decide +kernel) rfl, rfl, rfl⟩
theorem fl_X10_77 : FL RX10 77 10 37 true (.array .int) := ⟨_, _, _, _, cf_10, by decide, tb_in 984 (by decide +kernel) rfl, rfl, rfl⟩
theorem fl_X10_80 : FL RX10 80 10 38 true (.array .int) := ⟨_, _, _, _, cf_10, by decide, tb_in 985 (by decide +kernel) rfl, rfl, rfl⟩
theorem fl_X10_83 : FL RX10 83 10 40 true (.array .int) := ⟨_, _, _, _, cf_10, by decide, tb_in 987 (by decide +kernel) rfl, rfl, rfl⟩
theorem fl_X10_86 : FL RX10 86 10 41 true (.array .int) := ⟨_, _, _, _, cf_10, by decide, tb_in 988 (by decide +kernel) rfl, rfl, rfl⟩
theorem fl_X10_89 : FL RX10 89 10 42 true (.array .int) := ⟨_, _, _, _, cf_10, by decide, tb_in 989 (by decide +kernel) rfl, rfl, rfl⟩
theorem fl_X10_92 : FL RX10 92 10 43 true (.array .int) := ⟨_, _, _, _, cf_10, by decide, tb_in 990 (by decide +kernel) rfl, rfl, rfl⟩
theorem fl_X10_95 : FL RX10 95 10 0 false .int := ⟨_, _, _, _, cf_10, by decide, tb_in 947 (by decide +kernel) rfl, rfl, rfl⟩
theorem fl_X10_104 : FL RX10 104 10 13 false .boolean := ⟨_, _, _, _, cf_10, by decide, tb_in 960 (by decide +kernel) rfl, rfl, rfl⟩
theorem fl_X10_112 : FL RX10 112 10 1 false .int := ⟨_, _, _, _, cf_10, by decide, tb_in 948 (by decide +kernel) rfl, rfl, rfl⟩
theorem fl_X10_119 : FL RX10 119 10 3 false .int := ⟨_, _, _, _, cf_10, by decide, tb_in 950 (by decide +kernel) rfl, rfl, rfl⟩
theorem fl_X10_134 : FL RX10 134 10 7 false .int := ⟨_, _, _, _, cf_10, by decide, tb_in 954 (by decide +kernel) rfl, rfl, rfl⟩
theorem fl_X10_137 : FL RX10 137 10 8 false .int := ⟨_, _, _, _, cf_10, by decide, tb_in 955 (by decide +kernel) rfl, rfl, rfl⟩
theorem fl_X10_140 : FL RX10 140 10 9 false .boolean := ⟨_, _, _, _, cf_10, by decide, tb_in 956 (by decide +kernel) rfl, rfl, rfl⟩
theorem fl_X10_187 : FL RX10 187 10 14 false .int := ⟨_, _, _, _, cf_10, by decide, tb_in 961 (by decide +kernel) rfl, rfl, rfl⟩
theorem fl_X10_190 : FL RX10 190 10 5 false .int := ⟨_, _, _, _, cf_10, by decide, tb_in 952 (by decide +kernel) rfl, rfl, rfl⟩
theorem fl_X10_195 : FL RX10 195 10 17 false .int := ⟨_, _, _, _, cf_10, by decide, tb_in 964 (by decide +kernel) rfl, rfl, rfl⟩
theorem fl_X10_218 : FL RX10 218 10 23 false .int := ⟨_, _, _, _, cf_10, by decide, tb_in 970 (by decide +kernel) rfl, rfl, rfl⟩
theorem fl_X10_262 : FL RX10 262 10 28 false .int := ⟨_, _, _, _, cf_10, by decide, tb_in 975 (by decide +kernel) rfl, rfl, rfl⟩
theorem fl_X10_268 : FL RX10 268 10 30 false .int := ⟨_, _, _, _, cf_10, by decide, tb_in 977 (by decide +kernel) rfl, rfl, rfl⟩
theorem fl_X10_281 : FL RX10 281 10 33 false .int := ⟨_, _, _, _, cf_10, by decide, tb_in 980 (by decide +kernel) rfl, rfl, rfl⟩
theorem fl_X10_284 : FL RX10 284 10 34 false .int := ⟨_, _, _, _, cf_10, by decide, tb_in 981 (by decide +kernel) rfl, rfl, rfl⟩
theorem fl_X10_294 : FL RX10 294 10 39 false .boolean := ⟨_, _, _, _, cf_10, by decide, tb_in 986 (by decide +kernel) rfl, rfl, rfl⟩
theorem fl_X2_9 : FL RX2 9 2 1 true (.array .int) := ⟨_, _, _, _, cf_2, by decide, tb_in 324 (by decide +kernel) rfl, rfl, rfl⟩
theorem fl_X2_15 : FL RX2 15 2 2 true (.array .int) := ⟨_, _, _, _, cf_2, by decide, tb_in 326 (by decide +kernel) rfl, rfl, rfl⟩
theorem fl_X2_18 : FL RX2 18 2 3 true (.array .int) := ⟨_, _, _, _, cf_2, by decide, tb_in 329 (by decide +kernel) rfl, rfl, rfl⟩
theorem fl_X2_21 : FL RX2 21 2 4 true (.array .int) := ⟨_, _, _, _, cf_2, by decide, tb_in 332 (by decide +kernel) rfl, rfl, rfl⟩
theorem fl_X3_12 : FL RX3 12 3 4 true (.object "BackStairs$Plan") := ⟨_, _, _, _, cf_3, by decide, tb_in 352 (by decide +kernel) rfl, rfl, rfl⟩
theorem fl_X3_18 : FL RX3 18 3 5 true (.object "BackStairs$Plan") := ⟨_, _, _, _, cf_3, by decide, tb_in 354 (by decide +kernel) rfl, rfl, rfl⟩
theorem fl_X3_23 : FL RX3 23 3 6 true (.array (.array .int)) := ⟨_, _, _, _, cf_3, by decide, tb_in 355 (by decide +kernel) rfl, rfl, rfl⟩
theorem fl_X3_26 : FL RX3 26 3 7 true (.array (.array .int)) := ⟨_, _, _, _, cf_3, by decide, tb_in 356 (by decide +kernel) rfl, rfl, rfl⟩
theorem fl_X3_29 : FL RX3 29 3 8 true (.array .int) := ⟨_, _, _, _, cf_3, by decide, tb_in 357 (by decide +kernel) rfl, rfl, rfl⟩
theorem fl_X3_33 : FL RX3 33 3 9 true (.array .int) := ⟨_, _, _, _, cf_3, by decide, tb_in 358 (by decide +kernel) rfl, rfl, rfl⟩
theorem fl_X3_36 : FL RX3 36 3 10 true (.array .int) := ⟨_, _, _, _, cf_3, by decide, tb_in 359 (by decide +kernel) rfl, rfl, rfl⟩
theorem fl_X3_39 : FL RX3 39 3 0 true (.object "BackStairs$House") := ⟨_, _, _, _, cf_3, by decide, tb_in 347 (by decide +kernel) rfl, rfl, rfl⟩
theorem fl_X3_43 : FL RX3 43 3 1 true (.object "BackStairs$Staff") := ⟨_, _, _, _, cf_3, by decide, tb_in 348 (by decide +kernel) rfl, rfl, rfl⟩
theorem fl_X3_47 : FL RX3 47 3 2 true (.object "BackStairs$Trips") := ⟨_, _, _, _, cf_3, by decide, tb_in 349 (by decide +kernel) rfl, rfl, rfl⟩
theorem fl_X3_51 : FL RX3 51 3 3 false .boolean := ⟨_, _, _, _, cf_3, by decide, tb_in 350 (by decide +kernel) rfl, rfl, rfl⟩
theorem fl_X3_70 : FL RX3 70 5 0 false .int := ⟨_, _, _, _, cf_5, by decide, tb_in 140 (by decide +kernel) rfl, rfl, rfl⟩
theorem fl_X3_89 : FL RX3 89 5 2 false .int := ⟨_, _, _, _, cf_5, by decide, tb_in 144 (by decide +kernel) rfl, rfl, rfl⟩
theorem fl_X3_96 : FL RX3 96 0 0 false .int := ⟨_, _, _, _, cf_0, by decide, tb_in 97 (by decide +kernel) rfl, rfl, rfl⟩
theorem fl_X3_105 : FL RX3 105 5 8 true (.array .int) := ⟨_, _, _, _, cf_5, by decide, tb_in 161 (by decide +kernel) rfl, rfl, rfl⟩
theorem fl_X3_114 : FL RX3 114 5 6 true (.array .int) := ⟨_, _, _, _, cf_5, by decide, tb_in 157 (by decide +kernel) rfl, rfl, rfl⟩
theorem fl_X3_116 : FL RX3 116 0 7 true (.array (.array .int)) := ⟨_, _, _, _, cf_0, by decide, tb_in 114 (by decide +kernel) rfl, rfl, rfl⟩
theorem fl_X3_119 : FL RX3 119 5 5 true (.array .int) := ⟨_, _, _, _, cf_5, by decide, tb_in 154 (by decide +kernel) rfl, rfl, rfl⟩
theorem fl_X3_129 : FL RX3 129 5 3 false .int := ⟨_, _, _, _, cf_5, by decide, tb_in 148 (by decide +kernel) rfl, rfl, rfl⟩
theorem fl_X3_137 : FL RX3 137 2 1 true (.array .int) := ⟨_, _, _, _, cf_2, by decide, tb_in 325 (by decide +kernel) rfl, rfl, rfl⟩
theorem fl_X3_144 : FL RX3 144 5 4 true (.array .int) := ⟨_, _, _, _, cf_5, by decide, tb_in 152 (by decide +kernel) rfl, rfl, rfl⟩
theorem fl_X3_160 : FL RX3 160 3 11 false .int := ⟨_, _, _, _, cf_3, by decide, tb_in 360 (by decide +kernel) rfl, rfl, rfl⟩
theorem fl_X3_167 : FL RX3 167 2 2 true (.array .int) := ⟨_, _, _, _, cf_2, by decide, tb_in 327 (by decide +kernel) rfl, rfl, rfl⟩
theorem fl_X3_174 : FL RX3 174 2 0 false .int := ⟨_, _, _, _, cf_2, by decide, tb_in 322 (by decide +kernel) rfl, rfl, rfl⟩
theorem fl_X3_184 : FL RX3 184 2 3 true (.array .int) := ⟨_, _, _, _, cf_2, by decide, tb_in 331 (by decide +kernel) rfl, rfl, rfl⟩
theorem fl_X3_187 : FL RX3 187 2 4 true (.array .int) := ⟨_, _, _, _, cf_2, by decide, tb_in 334 (by decide +kernel) rfl, rfl, rfl⟩
theorem fl_X3_197 : FL RX3 197 5 7 true (.array .int) := ⟨_, _, _, _, cf_5, by decide, tb_in 159 (by decide +kernel) rfl, rfl, rfl⟩
theorem fl_X4_9 : FL RX4 9 4 0 true (.array .int) := ⟨_, _, _, _, cf_4, by decide, tb_in 270 (by decide +kernel) rfl, rfl, rfl⟩
theorem fl_X4_13 : FL RX4 13 4 1 true (.array .int) := ⟨_, _, _, _, cf_4, by decide, tb_in 272 (by decide +kernel) rfl, rfl, rfl⟩
theorem fl_X4_18 : FL RX4 18 4 2 true (.array (.array .int)) := ⟨_, _, _, _, cf_4, by decide, tb_in 274 (by decide +kernel) rfl, rfl, rfl⟩
theorem fl_X5_9 : FL RX5 9 5 4 true (.array .int) := ⟨_, _, _, _, cf_5, by decide, tb_in 150 (by decide +kernel) rfl, rfl, rfl⟩
theorem fl_X5_15 : FL RX5 15 5 5 true (.array .int) := ⟨_, _, _, _, cf_5, by decide, tb_in 153 (by decide +kernel) rfl, rfl, rfl⟩
theorem fl_X5_18 : FL RX5 18 5 6 true (.array .int) := ⟨_, _, _, _, cf_5, by decide, tb_in 156 (by decide +kernel) rfl, rfl, rfl⟩
theorem fl_X5_21 : FL RX5 21 5 7 true (.array .int) := ⟨_, _, _, _, cf_5, by decide, tb_in 158 (by decide +kernel) rfl, rfl, rfl⟩
theorem fl_X5_24 : FL RX5 24 5 8 true (.array .int) := ⟨_, _, _, _, cf_5, by decide, tb_in 160 (by decide +kernel) rfl, rfl, rfl⟩
theorem fl_X5_27 : FL RX5 27 5 9 true (.array .int) := ⟨_, _, _, _, cf_5, by decide, tb_in 162 (by decide +kernel) rfl, rfl, rfl⟩
theorem fl_X5_30 : FL RX5 30 5 0 false .int := ⟨_, _, _, _, cf_5, by decide, tb_in 139 (by decide +kernel) rfl, rfl, rfl⟩
theorem fl_X5_34 : FL RX5 34 5 3 false .int := ⟨_, _, _, _, cf_5, by decide, tb_in 147 (by decide +kernel) rfl, rfl, rfl⟩
theorem fl_X5_37 : FL RX5 37 5 1 false .int := ⟨_, _, _, _, cf_5, by decide, tb_in 142 (by decide +kernel) rfl, rfl, rfl⟩
theorem fl_X5_46 : FL RX5 46 5 2 false .int := ⟨_, _, _, _, cf_5, by decide, tb_in 145 (by decide +kernel) rfl, rfl, rfl⟩
theorem fl_X6_9 : FL RX6 9 6 6 true (.array .int) := ⟨_, _, _, _, cf_6, by decide, tb_in 207 (by decide +kernel) rfl, rfl, rfl⟩
theorem fl_X6_15 : FL RX6 15 6 7 true (.array .int) := ⟨_, _, _, _, cf_6, by decide, tb_in 210 (by decide +kernel) rfl, rfl, rfl⟩
theorem fl_X6_18 : FL RX6 18 6 8 true (.array .int) := ⟨_, _, _, _, cf_6, by decide, tb_in 212 (by decide +kernel) rfl, rfl, rfl⟩
theorem fl_X6_21 : FL RX6 21 6 9 true (.array .int) := ⟨_, _, _, _, cf_6, by decide, tb_in 214 (by decide +kernel) rfl, rfl, rfl⟩
theorem fl_X6_24 : FL RX6 24 6 10 true (.array .int) := ⟨_, _, _, _, cf_6, by decide, tb_in 216 (by decide +kernel) rfl, rfl, rfl⟩
theorem fl_X6_27 : FL RX6 27 6 0 false .int := ⟨_, _, _, _, cf_6, by decide, tb_in 190 (by decide +kernel) rfl, rfl, rfl⟩
theorem fl_X6_31 : FL RX6 31 6 1 false .int := ⟨_, _, _, _, cf_6, by decide, tb_in 194 (by decide +kernel) rfl, rfl, rfl⟩
theorem fl_X6_34 : FL RX6 34 6 2 false .boolean := ⟨_, _, _, _, cf_6, by decide, tb_in 196 (by decide +kernel) rfl, rfl, rfl⟩
theorem fl_X6_38 : FL RX6 38 6 3 false .int := ⟨_, _, _, _, cf_6, by decide, tb_in 198 (by decide +kernel) rfl, rfl, rfl⟩
theorem fl_X6_41 : FL RX6 41 6 4 false .int := ⟨_, _, _, _, cf_6, by decide, tb_in 201 (by decide +kernel) rfl, rfl, rfl⟩
theorem fl_X6_44 : FL RX6 44 6 5 false .int := ⟨_, _, _, _, cf_6, by decide, tb_in 204 (by decide +kernel) rfl, rfl, rfl⟩
theorem fl_X7_11 : FL RX7 11 7 1 true (.array .int) := ⟨_, _, _, _, cf_7, by decide, tb_in 248 (by decide +kernel) rfl, rfl, rfl⟩
theorem fl_X7_19 : FL RX7 19 7 0 false .int := ⟨_, _, _, _, cf_7, by decide, tb_in 247 (by decide +kernel) rfl, rfl, rfl⟩
theorem fl_X7_23 : FL RX7 23 7 2 false .int := ⟨_, _, _, _, cf_7, by decide, tb_in 249 (by decide +kernel) rfl, rfl, rfl⟩
theorem fl_X7_26 : FL RX7 26 0 0 false .int := ⟨_, _, _, _, cf_0, by decide, tb_in 98 (by decide +kernel) rfl, rfl, rfl⟩
theorem fl_X7_55 : FL RX7 55 7 3 false .int := ⟨_, _, _, _, cf_7, by decide, tb_in 250 (by decide +kernel) rfl, rfl, rfl⟩
theorem fl_X8_9 : FL RX8 9 8 2 true (.array .int) := ⟨_, _, _, _, cf_8, by decide, tb_in 293 (by decide +kernel) rfl, rfl, rfl⟩
theorem fl_X8_17 : FL RX8 17 8 3 true (.array (.array .int)) := ⟨_, _, _, _, cf_8, by decide, tb_in 294 (by decide +kernel) rfl, rfl, rfl⟩
theorem fl_X8_20 : FL RX8 20 8 4 true (.array .int) := ⟨_, _, _, _, cf_8, by decide, tb_in 295 (by decide +kernel) rfl, rfl, rfl⟩
theorem fl_X8_23 : FL RX8 23 8 5 true (.array .int) := ⟨_, _, _, _, cf_8, by decide, tb_in 296 (by decide +kernel) rfl, rfl, rfl⟩
theorem fl_X8_26 : FL RX8 26 8 0 true (.object "BackStairs$House") := ⟨_, _, _, _, cf_8, by decide, tb_in 290 (by decide +kernel) rfl, rfl, rfl⟩
theorem fl_X8_30 : FL RX8 30 8 1 false .boolean := ⟨_, _, _, _, cf_8, by decide, tb_in 291 (by decide +kernel) rfl, rfl, rfl⟩
theorem fl_X8_40 : FL RX8 40 0 2 false .int := ⟨_, _, _, _, cf_0, by decide, tb_in 102 (by decide +kernel) rfl, rfl, rfl⟩
theorem fl_X8_46 : FL RX8 46 0 5 true (.array (.array .int)) := ⟨_, _, _, _, cf_0, by decide, tb_in 108 (by decide +kernel) rfl, rfl, rfl⟩
theorem fl_X8_49 : FL RX8 49 0 0 false .int := ⟨_, _, _, _, cf_0, by decide, tb_in 96 (by decide +kernel) rfl, rfl, rfl⟩
theorem fl_X9_10 : FL RX9 10 9 0 true (.object "BackStairs$House") := ⟨_, _, _, _, cf_9, by decide, tb_in 404 (by decide +kernel) rfl, rfl, rfl⟩
theorem fl_X9_19 : FL RX9 19 9 1 true (.object "BackStairs$Staff") := ⟨_, _, _, _, cf_9, by decide, tb_in 405 (by decide +kernel) rfl, rfl, rfl⟩
theorem fl_X9_26 : FL RX9 26 9 2 true (.object "BackStairs$Talk") := ⟨_, _, _, _, cf_9, by decide, tb_in 406 (by decide +kernel) rfl, rfl, rfl⟩
theorem fl_X9_30 : FL RX9 30 9 3 true (.object "BackStairs$House") := ⟨_, _, _, _, cf_9, by decide, tb_in 407 (by decide +kernel) rfl, rfl, rfl⟩
theorem fl_X9_33 : FL RX9 33 9 4 true (.object "BackStairs$Staff") := ⟨_, _, _, _, cf_9, by decide, tb_in 408 (by decide +kernel) rfl, rfl, rfl⟩
theorem fl_X9_36 : FL RX9 36 9 5 true (.object "BackStairs$Talk") := ⟨_, _, _, _, cf_9, by decide, tb_in 409 (by decide +kernel) rfl, rfl, rfl⟩
theorem fl_X9_42 : FL RX9 42 9 7 true (.object "BackStairs$Tape") := ⟨_, _, _, _, cf_9, by decide, tb_in 411 (by decide +kernel) rfl, rfl, rfl⟩
theorem fl_X9_49 : FL RX9 49 9 8 true (.object "BackStairs$Sheets") := ⟨_, _, _, _, cf_9, by decide, tb_in 412 (by decide +kernel) rfl, rfl, rfl⟩
theorem fl_X9_58 : FL RX9 58 9 9 true (.object "BackStairs$Trips") := ⟨_, _, _, _, cf_9, by decide, tb_in 413 (by decide +kernel) rfl, rfl, rfl⟩
theorem fl_X9_67 : FL RX9 67 9 10 true (.object "BackStairs$Planner") := ⟨_, _, _, _, cf_9, by decide, tb_in 414 (by decide +kernel) rfl, rfl, rfl⟩
theorem fl_X9_76 : FL RX9 76 9 11 true (.object "BackStairs$Inquiry") := ⟨_, _, _, _, cf_9, by decide, tb_in 415 (by decide +kernel) rfl, rfl, rfl⟩
theorem fl_X9_80 : FL RX9 80 9 12 true (.array .int) := ⟨_, _, _, _, cf_9, by decide, tb_in 416 (by decide +kernel) rfl, rfl, rfl⟩
theorem fl_X9_86 : FL RX9 86 9 13 true (.array (.array .int)) := ⟨_, _, _, _, cf_9, by decide, tb_in 417 (by decide +kernel) rfl, rfl, rfl⟩
theorem fl_X9_89 : FL RX9 89 0 0 false .int := ⟨_, _, _, _, cf_0, by decide, tb_in 94 (by decide +kernel) rfl, rfl, rfl⟩
theorem fl_X9_104 : FL RX9 104 0 1 false .int := ⟨_, _, _, _, cf_0, by decide, tb_in 100 (by decide +kernel) rfl, rfl, rfl⟩
theorem fl_X9_129 : FL RX9 129 0 2 false .int := ⟨_, _, _, _, cf_0, by decide, tb_in 103 (by decide +kernel) rfl, rfl, rfl⟩
theorem fl_X9_132 : FL RX9 132 0 5 true (.array (.array .int)) := ⟨_, _, _, _, cf_0, by decide, tb_in 109 (by decide +kernel) rfl, rfl, rfl⟩
theorem fl_X9_159 : FL RX9 159 5 0 false .int := ⟨_, _, _, _, cf_5, by decide, tb_in 141 (by decide +kernel) rfl, rfl, rfl⟩
theorem fl_X9_162 : FL RX9 162 5 4 true (.array .int) := ⟨_, _, _, _, cf_5, by decide, tb_in 151 (by decide +kernel) rfl, rfl, rfl⟩
theorem fl_X9_168 : FL RX9 168 5 1 false .int := ⟨_, _, _, _, cf_5, by decide, tb_in 143 (by decide +kernel) rfl, rfl, rfl⟩
theorem fl_X9_171 : FL RX9 171 5 2 false .int := ⟨_, _, _, _, cf_5, by decide, tb_in 146 (by decide +kernel) rfl, rfl, rfl⟩
theorem fl_X9_178 : FL RX9 178 5 3 false .int := ⟨_, _, _, _, cf_5, by decide, tb_in 149 (by decide +kernel) rfl, rfl, rfl⟩
theorem fl_X9_191 : FL RX9 191 5 5 true (.array .int) := ⟨_, _, _, _, cf_5, by decide, tb_in 155 (by decide +kernel) rfl, rfl, rfl⟩
theorem fl_X9_201 : FL RX9 201 3 4 true (.object "BackStairs$Plan") := ⟨_, _, _, _, cf_3, by decide, tb_in 353 (by decide +kernel) rfl, rfl, rfl⟩
theorem fl_X9_205 : FL RX9 205 2 2 true (.array .int) := ⟨_, _, _, _, cf_2, by decide, tb_in 328 (by decide +kernel) rfl, rfl, rfl⟩
theorem fl_X9_210 : FL RX9 210 2 3 true (.array .int) := ⟨_, _, _, _, cf_2, by decide, tb_in 330 (by decide +kernel) rfl, rfl, rfl⟩
theorem fl_X9_213 : FL RX9 213 2 4 true (.array .int) := ⟨_, _, _, _, cf_2, by decide, tb_in 333 (by decide +kernel) rfl, rfl, rfl⟩
theorem fl_X9_224 : FL RX9 224 2 0 false .int := ⟨_, _, _, _, cf_2, by decide, tb_in 323 (by decide +kernel) rfl, rfl, rfl⟩
theorem fl_X9_243 : FL RX9 243 6 0 false .int := ⟨_, _, _, _, cf_6, by decide, tb_in 192 (by decide +kernel) rfl, rfl, rfl⟩
theorem fl_X9_246 : FL RX9 246 6 6 true (.array .int) := ⟨_, _, _, _, cf_6, by decide, tb_in 209 (by decide +kernel) rfl, rfl, rfl⟩
theorem fl_X9_250 : FL RX9 250 6 1 false .int := ⟨_, _, _, _, cf_6, by decide, tb_in 195 (by decide +kernel) rfl, rfl, rfl⟩
theorem fl_X9_270 : FL RX9 270 6 2 false .boolean := ⟨_, _, _, _, cf_6, by decide, tb_in 197 (by decide +kernel) rfl, rfl, rfl⟩
theorem fl_X9_274 : FL RX9 274 6 3 false .int := ⟨_, _, _, _, cf_6, by decide, tb_in 200 (by decide +kernel) rfl, rfl, rfl⟩
theorem fl_X9_277 : FL RX9 277 6 4 false .int := ⟨_, _, _, _, cf_6, by decide, tb_in 203 (by decide +kernel) rfl, rfl, rfl⟩
theorem fl_X9_280 : FL RX9 280 6 5 false .int := ⟨_, _, _, _, cf_6, by decide, tb_in 206 (by decide +kernel) rfl, rfl, rfl⟩
theorem fl_X9_300 : FL RX9 300 9 6 false .boolean := ⟨_, _, _, _, cf_9, by decide, tb_in 410 (by decide +kernel) rfl, rfl, rfl⟩
theorem fl_X9_312 : FL RX9 312 4 0 true (.array .int) := ⟨_, _, _, _, cf_4, by decide, tb_in 271 (by decide +kernel) rfl, rfl, rfl⟩
theorem fl_X9_319 : FL RX9 319 4 2 true (.array (.array .int)) := ⟨_, _, _, _, cf_4, by decide, tb_in 275 (by decide +kernel) rfl, rfl, rfl⟩
theorem fl_X9_325 : FL RX9 325 4 1 true (.array .int) := ⟨_, _, _, _, cf_4, by decide, tb_in 273 (by decide +kernel) rfl, rfl, rfl⟩
theorem fl_X9_337 : FL RX9 337 8 1 false .boolean := ⟨_, _, _, _, cf_8, by decide, tb_in 292 (by decide +kernel) rfl, rfl, rfl⟩
theorem fl_X9_340 : FL RX9 340 3 3 false .boolean := ⟨_, _, _, _, cf_3, by decide, tb_in 351 (by decide +kernel) rfl, rfl, rfl⟩
theorem ml_J7_13 : Cond.methodLink RJ7 13 yJ7_rangeCheck_23922 ∈ tb := tb_in 549 (by decide +kernel) rfl
theorem ml_L_9 : Cond.methodLink RL 9 yX9_init ∈ tb := tb_in 80 (by decide +kernel) rfl
theorem ml_L_12 : Cond.methodLink RL 12 yX10_init ∈ tb := tb_in 943 (by decide +kernel) rfl
theorem ml_L_13 : Cond.methodLink RL 13 yX9_room ∈ tb := tb_in 447 (by decide +kernel) rfl
theorem ml_L_17 : Cond.methodLink RL 17 yX10_room ∈ tb := tb_in 1080 (by decide +kernel) rfl
theorem ml_L_18 : Cond.methodLink RL 18 yX9_door ∈ tb := tb_in 472 (by decide +kernel) rfl
theorem ml_L_22 : Cond.methodLink RL 22 yX10_door ∈ tb := tb_in 1084 (by decide +kernel) rfl
theorem ml_L_23 : Cond.methodLink RL 23 yX9_wall ∈ tb := tb_in 492 (by decide +kernel) rfl
theorem ml_L_27 : Cond.methodLink RL 27 yX10_wall ∈ tb := tb_in 1099 (by decide +kernel) rfl
theorem ml_L_30 : Cond.methodLink RL 30 yX9_type ∈ tb := tb_in 504 (by decide +kernel) rfl
theorem ml_L_34 : Cond.methodLink RL 34 yX10_type ∈ tb := tb_in 1107 (by decide +kernel) rfl
theorem ml_L_35 : Cond.methodLink RL 35 yX9_walk ∈ tb := tb_in 515 (by decide +kernel) rfl
theorem ml_L_38 : Cond.methodLink RL 38 yX10_walk ∈ tb := tb_in 1115 (by decide +kernel) rfl
theorem ml_L_39 : Cond.methodLink RL 39 yX9_guest ∈ tb := tb_in 559 (by decide +kernel) rfl
theorem ml_L_42 : Cond.methodLink RL 42 yX10_guest ∈ tb := tb_in 1138 (by decide +kernel) rfl
theorem ml_L_43 : Cond.methodLink RL 43 yX9_trip ∈ tb := tb_in 566 (by decide +kernel) rfl
theorem ml_L_47 : Cond.methodLink RL 47 yX10_trip ∈ tb := tb_in 1146 (by decide +kernel) rfl
theorem ml_L_48 : Cond.methodLink RL 48 yX9_servant ∈ tb := tb_in 605 (by decide +kernel) rfl
theorem ml_L_52 : Cond.methodLink RL 52 yX10_servant ∈ tb := tb_in 1171 (by decide +kernel) rfl
theorem ml_L_53 : Cond.methodLink RL 53 yX9_ill ∈ tb := tb_in 609 (by decide +kernel) rfl
theorem ml_L_57 : Cond.methodLink RL 57 yX10_ill ∈ tb := tb_in 1175 (by decide +kernel) rfl
theorem ml_L_58 : Cond.methodLink RL 58 yX9_cellar ∈ tb := tb_in 617 (by decide +kernel) rfl
theorem ml_L_61 : Cond.methodLink RL 61 yX10_cellar ∈ tb := tb_in 1179 (by decide +kernel) rfl
theorem ml_L_62 : Cond.methodLink RL 62 yX9_errand ∈ tb := tb_in 621 (by decide +kernel) rfl
theorem ml_L_66 : Cond.methodLink RL 66 yX10_errand ∈ tb := tb_in 1183 (by decide +kernel) rfl
theorem ml_L_67 : Cond.methodLink RL 67 yX9_told ∈ tb := tb_in 633 (by decide +kernel) rfl
theorem ml_L_70 : Cond.methodLink RL 70 yX10_told ∈ tb := tb_in 1217 (by decide +kernel) rfl
theorem ml_L_71 : Cond.methodLink RL 71 yX9_drop ∈ tb := tb_in 730 (by decide +kernel) rfl
theorem ml_L_74 : Cond.methodLink RL 74 yX10_drop ∈ tb := tb_in 1213 (by decide +kernel) rfl
theorem ml_L_75 : Cond.methodLink RL 75 yX9_cost ∈ tb := tb_in 738 (by decide +kernel) rfl
theorem ml_L_78 : Cond.methodLink RL 78 yX10_cost ∈ tb := tb_in 1263 (by decide +kernel) rfl
theorem ml_L_79 : Cond.methodLink RL 79 yX9_does ∈ tb := tb_in 746 (by decide +kernel) rfl
theorem ml_L_82 : Cond.methodLink RL 82 yX10_does ∈ tb := tb_in 1271 (by decide +kernel) rfl
theorem ml_L_83 : Cond.methodLink RL 83 yX9_enough ∈ tb := tb_in 754 (by decide +kernel) rfl
theorem ml_L_86 : Cond.methodLink RL 86 yX10_enough ∈ tb := tb_in 1275 (by decide +kernel) rfl
theorem ml_L_87 : Cond.methodLink RL 87 yX9_missed ∈ tb := tb_in 768 (by decide +kernel) rfl
theorem ml_L_90 : Cond.methodLink RL 90 yX10_missed ∈ tb := tb_in 1282 (by decide +kernel) rfl
theorem ml_L_91 : Cond.methodLink RL 91 yX9_opened ∈ tb := tb_in 773 (by decide +kernel) rfl
theorem ml_L_94 : Cond.methodLink RL 94 yX10_opened ∈ tb := tb_in 1286 (by decide +kernel) rfl
theorem ml_L_95 : Cond.methodLink RL 95 yX9_folk ∈ tb := tb_in 778 (by decide +kernel) rfl
theorem ml_L_98 : Cond.methodLink RL 98 yX10_folk ∈ tb := tb_in 1290 (by decide +kernel) rfl
theorem ml_L_99 : Cond.methodLink RL 99 yX9_say ∈ tb := tb_in 782 (by decide +kernel) rfl
theorem ml_L_103 : Cond.methodLink RL 103 yX10_say ∈ tb := tb_in 1294 (by decide +kernel) rfl
theorem ml_L_104 : Cond.methodLink RL 104 yX9_sayings ∈ tb := tb_in 794 (by decide +kernel) rfl
theorem ml_L_107 : Cond.methodLink RL 107 yX10_sayings ∈ tb := tb_in 1302 (by decide +kernel) rfl
theorem ml_L_108 : Cond.methodLink RL 108 yX9_unsay ∈ tb := tb_in 802 (by decide +kernel) rfl
theorem ml_L_111 : Cond.methodLink RL 111 yX10_unsay ∈ tb := tb_in 1306 (by decide +kernel) rfl
theorem ml_L_112 : Cond.methodLink RL 112 yX9_liars ∈ tb := tb_in 810 (by decide +kernel) rfl
theorem ml_L_115 : Cond.methodLink RL 115 yX10_liars ∈ tb := tb_in 1310 (by decide +kernel) rfl
theorem ml_L_116 : Cond.methodLink RL 116 yX9_maybe ∈ tb := tb_in 836 (by decide +kernel) rfl
theorem ml_L_119 : Cond.methodLink RL 119 yX10_maybe ∈ tb := tb_in 1326 (by decide +kernel) rfl
theorem ml_L_120 : Cond.methodLink RL 120 yX9_theft ∈ tb := tb_in 844 (by decide +kernel) rfl
theorem ml_L_123 : Cond.methodLink RL 123 yX10_theft ∈ tb := tb_in 1330 (by decide +kernel) rfl
theorem ml_L_124 : Cond.methodLink RL 124 yX9_suspects ∈ tb := tb_in 848 (by decide +kernel) rfl
theorem ml_L_127 : Cond.methodLink RL 127 yX10_suspects ∈ tb := tb_in 1334 (by decide +kernel) rfl
theorem ml_L_128 : Cond.methodLink RL 128 yX9_clears ∈ tb := tb_in 861 (by decide +kernel) rfl
theorem ml_L_131 : Cond.methodLink RL 131 yX10_clears ∈ tb := tb_in 1342 (by decide +kernel) rfl
theorem ml_L_132 : Cond.methodLink RL 132 yX9_count ∈ tb := tb_in 865 (by decide +kernel) rfl
theorem ml_L_135 : Cond.methodLink RL 135 yX10_count ∈ tb := tb_in 1346 (by decide +kernel) rfl
theorem ml_L_136 : Cond.methodLink RL 136 yX9_image ∈ tb := tb_in 870 (by decide +kernel) rfl
theorem ml_L_139 : Cond.methodLink RL 139 yX10_image ∈ tb := tb_in 1350 (by decide +kernel) rfl
theorem ml_L_140 : Cond.methodLink RL 140 yX9_restore ∈ tb := tb_in 889 (by decide +kernel) rfl
theorem ml_L_143 : Cond.methodLink RL 143 yX10_restore ∈ tb := tb_in 1357 (by decide +kernel) rfl
theorem ml_L_144 : Cond.methodLink RL 144 yX9_errands ∈ tb := tb_in 893 (by decide +kernel) rfl
theorem ml_L_147 : Cond.methodLink RL 147 yX10_errands ∈ tb := tb_in 1196 (by decide +kernel) rfl
theorem ml_L_148 : Cond.methodLink RL 148 yX9_sheet ∈ tb := tb_in 913 (by decide +kernel) rfl
theorem ml_L_151 : Cond.methodLink RL 151 yX10_sheet ∈ tb := tb_in 1364 (by decide +kernel) rfl
theorem ml_L_152 : Cond.methodLink RL 152 yX9_empty ∈ tb := tb_in 921 (by decide +kernel) rfl
theorem ml_L_155 : Cond.methodLink RL 155 yX10_empty ∈ tb := tb_in 1368 (by decide +kernel) rfl
theorem ml_L_156 : Cond.methodLink RL 156 yX9_item ∈ tb := tb_in 929 (by decide +kernel) rfl
theorem ml_L_159 : Cond.methodLink RL 159 yX10_item ∈ tb := tb_in 1372 (by decide +kernel) rfl
theorem ml_L_160 : Cond.methodLink RL 160 yX9_copy ∈ tb := tb_in 937 (by decide +kernel) rfl
theorem ml_L_163 : Cond.methodLink RL 163 yX10_copy ∈ tb := tb_in 1376 (by decide +kernel) rfl
theorem ml_X0_3 : Cond.methodLink RX0 3 Lib.objectInit ∈ tb := tb_in 91 (by decide +kernel) rfl
theorem ml_X0_33 : Cond.methodLink RX0 33 yX0_hasRoom ∈ tb := tb_in 480 (by decide +kernel) rfl
theorem ml_X0_43 : Cond.methodLink RX0 43 yX0_measureFrom ∈ tb := tb_in 459 (by decide +kernel) rfl
theorem ml_X0_47 : Cond.methodLink RX0 47 yJ7_fill_53178 ∈ tb := tb_in 463 (by decide +kernel) rfl
theorem ml_X0_53 : Cond.methodLink RX0 53 yX0_around ∈ tb := tb_in 464 (by decide +kernel) rfl
theorem ml_X0_57 : Cond.methodLink RX0 57 arraycopyName ∈ tb := tb_in 878 (by decide +kernel) rfl
theorem ml_X1_3 : Cond.methodLink RX1 3 Lib.objectInit ∈ tb := tb_in 391 (by decide +kernel) rfl
theorem ml_X1_37 : Cond.methodLink RX1 37 yJ6_bitCount_0f7a4 ∈ tb := tb_in 818 (by decide +kernel) rfl
theorem ml_X1_43 : Cond.methodLink RX1 43 yX1_haveWays ∈ tb := tb_in 819 (by decide +kernel) rfl
theorem ml_X1_47 : Cond.methodLink RX1 47 yJ7_fill_53178 ∈ tb := tb_in 823 (by decide +kernel) rfl
theorem ml_X1_59 : Cond.methodLink RX1 59 yX1_pin ∈ tb := tb_in 824 (by decide +kernel) rfl
theorem ml_X1_66 : Cond.methodLink RX1 66 yX1_hasWay ∈ tb := tb_in 828 (by decide +kernel) rfl
theorem ml_X1_81 : Cond.methodLink RX1 81 yX1_wayOf ∈ tb := tb_in 832 (by decide +kernel) rfl
theorem ml_X1_93 : Cond.methodLink RX1 93 yX1_roomsOf ∈ tb := tb_in 856 (by decide +kernel) rfl
theorem ml_X1_100 : Cond.methodLink RX1 100 yX1_othersMayBeElsewhere ∈ tb := tb_in 857 (by decide +kernel) rfl
theorem ml_X10_1 : Cond.methodLink RX10 1 Lib.objectInit ∈ tb := tb_in 946 (by decide +kernel) rfl
theorem ml_X10_98 : Cond.methodLink RX10 98 yX10_in ∈ tb := tb_in 1092 (by decide +kernel) rfl
theorem ml_X10_108 : Cond.methodLink RX10 108 yX10_isRoom ∈ tb := tb_in 1088 (by decide +kernel) rfl
theorem ml_X10_115 : Cond.methodLink RX10 115 yX10_doorIs ∈ tb := tb_in 1095 (by decide +kernel) rfl
theorem ml_X10_122 : Cond.methodLink RX10 122 yX10_isWalked ∈ tb := tb_in 1103 (by decide +kernel) rfl
theorem ml_X10_143 : Cond.methodLink RX10 143 yX10_here ∈ tb := tb_in 1123 (by decide +kernel) rfl
theorem ml_X10_153 : Cond.methodLink RX10 153 yX10_letter ∈ tb := tb_in 1127 (by decide +kernel) rfl
theorem ml_X10_157 : Cond.methodLink RX10 157 yX10_number ∈ tb := tb_in 1132 (by decide +kernel) rfl
theorem ml_X10_161 : Cond.methodLink RX10 161 yX10_walks ∈ tb := tb_in 1119 (by decide +kernel) rfl
theorem ml_X10_164 : Cond.methodLink RX10 164 yX10_isTick ∈ tb := tb_in 1142 (by decide +kernel) rfl
theorem ml_X10_167 : Cond.methodLink RX10 167 yX10_isMet ∈ tb := tb_in 1159 (by decide +kernel) rfl
theorem ml_X10_170 : Cond.methodLink RX10 170 yX10_may ∈ tb := tb_in 1163 (by decide +kernel) rfl
theorem ml_X10_174 : Cond.methodLink RX10 174 yX10_reaches ∈ tb := tb_in 1155 (by decide +kernel) rfl
theorem ml_X10_180 : Cond.methodLink RX10 180 yX10_lays ∈ tb := tb_in 1151 (by decide +kernel) rfl
theorem ml_X10_183 : Cond.methodLink RX10 183 yX10_endOf ∈ tb := tb_in 1167 (by decide +kernel) rfl
theorem ml_X10_198 : Cond.methodLink RX10 198 yX10_isErrand ∈ tb := tb_in 1187 (by decide +kernel) rfl
theorem ml_X10_202 : Cond.methodLink RX10 202 yX10_puts ∈ tb := tb_in 1192 (by decide +kernel) rfl
theorem ml_X10_206 : Cond.methodLink RX10 206 yX10_isSheet ∈ tb := tb_in 1200 (by decide +kernel) rfl
theorem ml_X10_209 : Cond.methodLink RX10 209 yX10_isLane ∈ tb := tb_in 1204 (by decide +kernel) rfl
theorem ml_X10_214 : Cond.methodLink RX10 214 yX10_finds ∈ tb := tb_in 1209 (by decide +kernel) rfl
theorem ml_X10_221 : Cond.methodLink RX10 221 yX10_wouldBe ∈ tb := tb_in 1251 (by decide +kernel) rfl
theorem ml_X10_224 : Cond.methodLink RX10 224 yX10_wakes ∈ tb := tb_in 1243 (by decide +kernel) rfl
theorem ml_X10_227 : Cond.methodLink RX10 227 yX10_doIt ∈ tb := tb_in 1247 (by decide +kernel) rfl
theorem ml_X10_231 : Cond.methodLink RX10 231 yX10_costOf ∈ tb := tb_in 1255 (by decide +kernel) rfl
theorem ml_X10_235 : Cond.methodLink RX10 235 yX10_rows ∈ tb := tb_in 1235 (by decide +kernel) rfl
theorem ml_X10_239 : Cond.methodLink RX10 239 yX10_sumOf ∈ tb := tb_in 1239 (by decide +kernel) rfl
theorem ml_X10_242 : Cond.methodLink RX10 242 yX10_keeps ∈ tb := tb_in 1259 (by decide +kernel) rfl
theorem ml_X10_245 : Cond.methodLink RX10 245 yX10_well ∈ tb := tb_in 1222 (by decide +kernel) rfl
theorem ml_X10_248 : Cond.methodLink RX10 248 yX10_best ∈ tb := tb_in 1230 (by decide +kernel) rfl
theorem ml_X10_253 : Cond.methodLink RX10 253 yX10_bestDone ∈ tb := tb_in 1226 (by decide +kernel) rfl
theorem ml_X10_256 : Cond.methodLink RX10 256 yX10_ruled ∈ tb := tb_in 1267 (by decide +kernel) rfl
theorem ml_X10_259 : Cond.methodLink RX10 259 yX10_size ∈ tb := tb_in 1279 (by decide +kernel) rfl
theorem ml_X10_265 : Cond.methodLink RX10 265 yX10_isOne ∈ tb := tb_in 1298 (by decide +kernel) rfl
theorem ml_X10_271 : Cond.methodLink RX10 271 yX10_around ∈ tb := tb_in 1322 (by decide +kernel) rfl
theorem ml_X10_274 : Cond.methodLink RX10 274 yX10_goes ∈ tb := tb_in 1318 (by decide +kernel) rfl
theorem ml_X10_278 : Cond.methodLink RX10 278 yX10_liarsBut ∈ tb := tb_in 1314 (by decide +kernel) rfl
theorem ml_X10_287 : Cond.methodLink RX10 287 yX10_suspectsBut ∈ tb := tb_in 1338 (by decide +kernel) rfl
theorem ml_X10_290 : Cond.methodLink RX10 290 yX10_saves ∈ tb := tb_in 1354 (by decide +kernel) rfl
theorem ml_X10_297 : Cond.methodLink RX10 297 yX10_gives ∈ tb := tb_in 1361 (by decide +kernel) rfl
theorem ml_X2_3 : Cond.methodLink RX2 3 Lib.objectInit ∈ tb := tb_in 321 (by decide +kernel) rfl
theorem ml_X3_3 : Cond.methodLink RX3 3 Lib.objectInit ∈ tb := tb_in 315 (by decide +kernel) rfl
theorem ml_X3_55 : Cond.methodLink RX3 55 yX8_prepare ∈ tb := tb_in 653 (by decide +kernel) rfl
theorem ml_X3_60 : Cond.methodLink RX3 60 yX3_fillEnds ∈ tb := tb_in 654 (by decide +kernel) rfl
theorem ml_X3_64 : Cond.methodLink RX3 64 yX5_well ∈ tb := tb_in 661 (by decide +kernel) rfl
theorem ml_X3_74 : Cond.methodLink RX3 74 yX3_fillLeast ∈ tb := tb_in 662 (by decide +kernel) rfl
theorem ml_X3_77 : Cond.methodLink RX3 77 yX3_makeBest ∈ tb := tb_in 694 (by decide +kernel) rfl
theorem ml_X3_80 : Cond.methodLink RX3 80 yX3_makeRule ∈ tb := tb_in 718 (by decide +kernel) rfl
theorem ml_X3_83 : Cond.methodLink RX3 83 yJ7_fill_53178 ∈ tb := tb_in 658 (by decide +kernel) rfl
theorem ml_X3_92 : Cond.methodLink RX3 92 yX8_mayBegin ∈ tb := tb_in 659 (by decide +kernel) rfl
theorem ml_X3_101 : Cond.methodLink RX3 101 yX8_onward ∈ tb := tb_in 660 (by decide +kernel) rfl
theorem ml_X3_125 : Cond.methodLink RX3 125 yX3_takenAt ∈ tb := tb_in 677 (by decide +kernel) rfl
theorem ml_X3_132 : Cond.methodLink RX3 132 yX3_swap ∈ tb := tb_in 690 (by decide +kernel) rfl
theorem ml_X3_140 : Cond.methodLink RX3 140 yX3_firstOrder ∈ tb := tb_in 667 (by decide +kernel) rfl
theorem ml_X3_147 : Cond.methodLink RX3 147 yX3_doneAt ∈ tb := tb_in 671 (by decide +kernel) rfl
theorem ml_X3_150 : Cond.methodLink RX3 150 yX5_weight ∈ tb := tb_in 681 (by decide +kernel) rfl
theorem ml_X3_153 : Cond.methodLink RX3 153 yX3_nextOrder ∈ tb := tb_in 686 (by decide +kernel) rfl
theorem ml_X3_157 : Cond.methodLink RX3 157 yX3_costOf ∈ tb := tb_in 702 (by decide +kernel) rfl
theorem ml_X3_163 : Cond.methodLink RX3 163 yX3_leastWith ∈ tb := tb_in 698 (by decide +kernel) rfl
theorem ml_X3_170 : Cond.methodLink RX3 170 yX3_follow ∈ tb := tb_in 706 (by decide +kernel) rfl
theorem ml_X3_177 : Cond.methodLink RX3 177 yX3_allHome ∈ tb := tb_in 710 (by decide +kernel) rfl
theorem ml_X3_180 : Cond.methodLink RX3 180 yX3_carryOut ∈ tb := tb_in 714 (by decide +kernel) rfl
theorem ml_X3_190 : Cond.methodLink RX3 190 yX3_isAhead ∈ tb := tb_in 722 (by decide +kernel) rfl
theorem ml_X3_194 : Cond.methodLink RX3 194 yX3_soonestFor ∈ tb := tb_in 726 (by decide +kernel) rfl
theorem ml_X3_200 : Cond.methodLink RX3 200 yJ6_bitCount_0f7a4 ∈ tb := tb_in 762 (by decide +kernel) rfl
theorem ml_X4_1 : Cond.methodLink RX4 1 Lib.objectInit ∈ tb := tb_in 265 (by decide +kernel) rfl
theorem ml_X4_21 : Cond.methodLink RX4 21 yJ7_fill_53178 ∈ tb := tb_in 267 (by decide +kernel) rfl
theorem ml_X5_3 : Cond.methodLink RX5 3 Lib.objectInit ∈ tb := tb_in 138 (by decide +kernel) rfl
theorem ml_X5_49 : Cond.methodLink RX5 49 arraycopyName ∈ tb := tb_in 883 (by decide +kernel) rfl
theorem ml_X6_3 : Cond.methodLink RX6 3 Lib.objectInit ∈ tb := tb_in 189 (by decide +kernel) rfl
theorem ml_X6_47 : Cond.methodLink RX6 47 arraycopyName ∈ tb := tb_in 888 (by decide +kernel) rfl
theorem ml_X7_3 : Cond.methodLink RX7 3 Lib.objectInit ∈ tb := tb_in 246 (by decide +kernel) rfl
theorem ml_X7_15 : Cond.methodLink RX7 15 yX7_byteOf ∈ tb := tb_in 512 (by decide +kernel) rfl
theorem ml_X7_31 : Cond.methodLink RX7 31 yX7_letter ∈ tb := tb_in 523 (by decide +kernel) rfl
theorem ml_X7_35 : Cond.methodLink RX7 35 yX0_doorKind ∈ tb := tb_in 531 (by decide +kernel) rfl
theorem ml_X7_39 : Cond.methodLink RX7 39 yX7_fault ∈ tb := tb_in 532 (by decide +kernel) rfl
theorem ml_X7_43 : Cond.methodLink RX7 43 yX7_number ∈ tb := tb_in 536 (by decide +kernel) rfl
theorem ml_X7_46 : Cond.methodLink RX7 46 yJ7_fill_fda19 ∈ tb := tb_in 546 (by decide +kernel) rfl
theorem ml_X7_52 : Cond.methodLink RX7 52 yX7_peek ∈ tb := tb_in 527 (by decide +kernel) rfl
theorem ml_X8_3 : Cond.methodLink RX8 3 Lib.objectInit ∈ tb := tb_in 288 (by decide +kernel) rfl
theorem ml_X8_34 : Cond.methodLink RX8 34 yJ7_fill_53178 ∈ tb := tb_in 579 (by decide +kernel) rfl
theorem ml_X8_52 : Cond.methodLink RX8 52 yX0_around ∈ tb := tb_in 580 (by decide +kernel) rfl
theorem ml_X8_56 : Cond.methodLink RX8 56 yX8_comersInto ∈ tb := tb_in 581 (by decide +kernel) rfl
theorem ml_X8_60 : Cond.methodLink RX8 60 yX8_step ∈ tb := tb_in 593 (by decide +kernel) rfl
theorem ml_X8_64 : Cond.methodLink RX8 64 yX8_prepare ∈ tb := tb_in 575 (by decide +kernel) rfl
theorem ml_X8_67 : Cond.methodLink RX8 67 yX8_mayBegin ∈ tb := tb_in 585 (by decide +kernel) rfl
theorem ml_X8_71 : Cond.methodLink RX8 71 yX8_onward ∈ tb := tb_in 589 (by decide +kernel) rfl
theorem ml_X8_74 : Cond.methodLink RX8 74 yX8_lowest ∈ tb := tb_in 601 (by decide +kernel) rfl
theorem ml_X9_1 : Cond.methodLink RX9 1 Lib.objectInit ∈ tb := tb_in 83 (by decide +kernel) rfl
theorem ml_X9_48 : Cond.methodLink RX9 48 yX4_init ∈ tb := tb_in 262 (by decide +kernel) rfl
theorem ml_X9_55 : Cond.methodLink RX9 55 yX8_init ∈ tb := tb_in 285 (by decide +kernel) rfl
theorem ml_X9_64 : Cond.methodLink RX9 64 yX3_init ∈ tb := tb_in 312 (by decide +kernel) rfl
theorem ml_X9_73 : Cond.methodLink RX9 73 yX1_init ∈ tb := tb_in 388 (by decide +kernel) rfl
theorem ml_X9_93 : Cond.methodLink RX9 93 yX9_doorsChanged ∈ tb := tb_in 451 (by decide +kernel) rfl
theorem ml_X9_96 : Cond.methodLink RX9 96 yX0_arePair ∈ tb := tb_in 476 (by decide +kernel) rfl
theorem ml_X9_100 : Cond.methodLink RX9 100 yX0_doorKind ∈ tb := tb_in 484 (by decide +kernel) rfl
theorem ml_X9_107 : Cond.methodLink RX9 107 yX0_putDoor ∈ tb := tb_in 488 (by decide +kernel) rfl
theorem ml_X9_111 : Cond.methodLink RX9 111 yX0_isWalked ∈ tb := tb_in 496 (by decide +kernel) rfl
theorem ml_X9_114 : Cond.methodLink RX9 114 yX0_takeDoor ∈ tb := tb_in 500 (by decide +kernel) rfl
theorem ml_X9_118 : Cond.methodLink RX9 118 yX7_add ∈ tb := tb_in 508 (by decide +kernel) rfl
theorem ml_X9_122 : Cond.methodLink RX9 122 yX7_readWalk ∈ tb := tb_in 519 (by decide +kernel) rfl
theorem ml_X9_126 : Cond.methodLink RX9 126 yX7_clear ∈ tb := tb_in 552 (by decide +kernel) rfl
theorem ml_X9_135 : Cond.methodLink RX9 135 arraycopyName ∈ tb := tb_in 556 (by decide +kernel) rfl
theorem ml_X9_141 : Cond.methodLink RX9 141 yX9_plansChanged ∈ tb := tb_in 468 (by decide +kernel) rfl
theorem ml_X9_144 : Cond.methodLink RX9 144 yX9_isTick ∈ tb := tb_in 563 (by decide +kernel) rfl
theorem ml_X9_148 : Cond.methodLink RX9 148 yX0_hasRoom ∈ tb := tb_in 570 (by decide +kernel) rfl
theorem ml_X9_151 : Cond.methodLink RX9 151 yX8_soonest ∈ tb := tb_in 571 (by decide +kernel) rfl
theorem ml_X9_155 : Cond.methodLink RX9 155 yX8_roomOnTrip ∈ tb := tb_in 597 (by decide +kernel) rfl
theorem ml_X9_165 : Cond.methodLink RX9 165 yX5_hasServant ∈ tb := tb_in 613 (by decide +kernel) rfl
theorem ml_X9_174 : Cond.methodLink RX9 174 yX9_isErrand ∈ tb := tb_in 625 (by decide +kernel) rfl
theorem ml_X9_181 : Cond.methodLink RX9 181 yX5_addErrand ∈ tb := tb_in 629 (by decide +kernel) rfl
theorem ml_X9_185 : Cond.methodLink RX9 185 yX5_hasErrand ∈ tb := tb_in 637 (by decide +kernel) rfl
theorem ml_X9_188 : Cond.methodLink RX9 188 yX5_asTold ∈ tb := tb_in 641 (by decide +kernel) rfl
theorem ml_X9_194 : Cond.methodLink RX9 194 yX5_well ∈ tb := tb_in 645 (by decide +kernel) rfl
theorem ml_X9_198 : Cond.methodLink RX9 198 yX3_prepare ∈ tb := tb_in 649 (by decide +kernel) rfl
theorem ml_X9_216 : Cond.methodLink RX9 216 yX5_removeErrand ∈ tb := tb_in 734 (by decide +kernel) rfl
theorem ml_X9_220 : Cond.methodLink RX9 220 yX3_plan ∈ tb := tb_in 742 (by decide +kernel) rfl
theorem ml_X9_227 : Cond.methodLink RX9 227 yX2_errandOf ∈ tb := tb_in 750 (by decide +kernel) rfl
theorem ml_X9_231 : Cond.methodLink RX9 231 yX3_fewest ∈ tb := tb_in 758 (by decide +kernel) rfl
theorem ml_X9_234 : Cond.methodLink RX9 234 yX3_leastWith ∈ tb := tb_in 772 (by decide +kernel) rfl
theorem ml_X9_247 : Cond.methodLink RX9 247 yX6_hasOne ∈ tb := tb_in 786 (by decide +kernel) rfl
theorem ml_X9_253 : Cond.methodLink RX9 253 yX6_addSaying ∈ tb := tb_in 790 (by decide +kernel) rfl
theorem ml_X9_257 : Cond.methodLink RX9 257 yX7_readSayings ∈ tb := tb_in 798 (by decide +kernel) rfl
theorem ml_X9_261 : Cond.methodLink RX9 261 yX6_removeSaying ∈ tb := tb_in 806 (by decide +kernel) rfl
theorem ml_X9_264 : Cond.methodLink RX9 264 yX1_findLiars ∈ tb := tb_in 814 (by decide +kernel) rfl
theorem ml_X9_267 : Cond.methodLink RX9 267 yX1_roomsOf ∈ tb := tb_in 840 (by decide +kernel) rfl
theorem ml_X9_283 : Cond.methodLink RX9 283 yX1_isSuspect ∈ tb := tb_in 852 (by decide +kernel) rfl
theorem ml_X9_286 : Cond.methodLink RX9 286 yJ6_bitCount_0f7a4 ∈ tb := tb_in 869 (by decide +kernel) rfl
theorem ml_X9_291 : Cond.methodLink RX9 291 yX0_become ∈ tb := tb_in 874 (by decide +kernel) rfl
theorem ml_X9_294 : Cond.methodLink RX9 294 yX5_become ∈ tb := tb_in 879 (by decide +kernel) rfl
theorem ml_X9_297 : Cond.methodLink RX9 297 yX6_become ∈ tb := tb_in 884 (by decide +kernel) rfl
theorem ml_X9_303 : Cond.methodLink RX9 303 yX4_isSheet ∈ tb := tb_in 897 (by decide +kernel) rfl
theorem ml_X9_306 : Cond.methodLink RX9 306 yX4_isLane ∈ tb := tb_in 901 (by decide +kernel) rfl
theorem ml_X9_309 : Cond.methodLink RX9 309 yX4_isNothing ∈ tb := tb_in 905 (by decide +kernel) rfl
theorem ml_X9_315 : Cond.methodLink RX9 315 yX4_holds ∈ tb := tb_in 909 (by decide +kernel) rfl
theorem ml_X9_322 : Cond.methodLink RX9 322 yX4_renew ∈ tb := tb_in 917 (by decide +kernel) rfl
theorem ml_X9_328 : Cond.methodLink RX9 328 yX4_makeNothing ∈ tb := tb_in 925 (by decide +kernel) rfl
theorem ml_X9_331 : Cond.methodLink RX9 331 yX4_put ∈ tb := tb_in 933 (by decide +kernel) rfl
theorem ml_X9_334 : Cond.methodLink RX9 334 yX0_measure ∈ tb := tb_in 455 (by decide +kernel) rfl
theorem cv_X0_hasRoom : CV mdX0_hasRoom := ⟨tb_in 481 (by decide +kernel) rfl, tb_in 482 (by decide +kernel) rfl, tb_in 64 (by decide +kernel) rfl, tb_in 483 (by decide +kernel) rfl, ⟨by decide +kernel, by decide +kernel⟩, by decide⟩
theorem cv_X0_arePair : CV mdX0_arePair := ⟨tb_in 477 (by decide +kernel) rfl, tb_in 478 (by decide +kernel) rfl, tb_in 64 (by decide +kernel) rfl, tb_in 479 (by decide +kernel) rfl, ⟨by decide +kernel, by decide +kernel⟩, by decide⟩
theorem cv_X0_doorKind : CV mdX0_doorKind := ⟨tb_in 485 (by decide +kernel) rfl, tb_in 486 (by decide +kernel) rfl, tb_in 64 (by decide +kernel) rfl, tb_in 487 (by decide +kernel) rfl, ⟨by decide +kernel, by decide +kernel⟩, by decide⟩
theorem cv_X0_putDoor : CV mdX0_putDoor := ⟨tb_in 489 (by decide +kernel) rfl, tb_in 490 (by decide +kernel) rfl, tb_in 64 (by decide +kernel) rfl, tb_in 491 (by decide +kernel) rfl, ⟨by decide +kernel, by decide +kernel⟩, by decide⟩
theorem cv_X0_takeDoor : CV mdX0_takeDoor := ⟨tb_in 501 (by decide +kernel) rfl, tb_in 502 (by decide +kernel) rfl, tb_in 64 (by decide +kernel) rfl, tb_in 503 (by decide +kernel) rfl, ⟨by decide +kernel, by decide +kernel⟩, by decide⟩
theorem cv_X0_isWalked : CV mdX0_isWalked := ⟨tb_in 497 (by decide +kernel) rfl, tb_in 498 (by decide +kernel) rfl, tb_in 64 (by decide +kernel) rfl, tb_in 499 (by decide +kernel) rfl, ⟨by decide +kernel, by decide +kernel⟩, by decide⟩
theorem cv_X0_around : CV mdX0_around := ⟨tb_in 465 (by decide +kernel) rfl, tb_in 466 (by decide +kernel) rfl, tb_in 64 (by decide +kernel) rfl, tb_in 467 (by decide +kernel) rfl, ⟨by decide +kernel, by decide +kernel⟩, by decide⟩
theorem cv_X0_measure : CV mdX0_measure := ⟨tb_in 456 (by decide +kernel) rfl, tb_in 457 (by decide +kernel) rfl, tb_in 64 (by decide +kernel) rfl, tb_in 458 (by decide +kernel) rfl, ⟨by decide +kernel, by decide +kernel⟩, by decide⟩
theorem cv_X0_measureFrom : CV mdX0_measureFrom := ⟨tb_in 461 (by decide +kernel) rfl, tb_in 1 (by decide +kernel) rfl, tb_in 64 (by decide +kernel) rfl, tb_in 462 (by decide +kernel) rfl, ⟨by decide +kernel, by decide +kernel⟩, by decide⟩
theorem cv_X0_become : CV mdX0_become := ⟨tb_in 875 (by decide +kernel) rfl, tb_in 876 (by decide +kernel) rfl, tb_in 64 (by decide +kernel) rfl, tb_in 877 (by decide +kernel) rfl, ⟨by decide +kernel, by decide +kernel⟩, by decide⟩
theorem cv_X1_findLiars : CV mdX1_findLiars := ⟨tb_in 815 (by decide +kernel) rfl, tb_in 816 (by decide +kernel) rfl, tb_in 73 (by decide +kernel) rfl, tb_in 817 (by decide +kernel) rfl, ⟨by decide +kernel, by decide +kernel⟩, by decide⟩
theorem cv_X1_haveWays : CV mdX1_haveWays := ⟨tb_in 821 (by decide +kernel) rfl, tb_in 26 (by decide +kernel) rfl, tb_in 73 (by decide +kernel) rfl, tb_in 822 (by decide +kernel) rfl, ⟨by decide +kernel, by decide +kernel⟩, by decide⟩
theorem cv_X1_pin : CV mdX1_pin := ⟨tb_in 826 (by decide +kernel) rfl, tb_in 27 (by decide +kernel) rfl, tb_in 73 (by decide +kernel) rfl, tb_in 827 (by decide +kernel) rfl, ⟨by decide +kernel, by decide +kernel⟩, by decide⟩
theorem cv_X1_wayOf : CV mdX1_wayOf := ⟨tb_in 834 (by decide +kernel) rfl, tb_in 29 (by decide +kernel) rfl, tb_in 73 (by decide +kernel) rfl, tb_in 835 (by decide +kernel) rfl, ⟨by decide +kernel, by decide +kernel⟩, by decide⟩
theorem cv_X1_hasWay : CV mdX1_hasWay := ⟨tb_in 830 (by decide +kernel) rfl, tb_in 28 (by decide +kernel) rfl, tb_in 73 (by decide +kernel) rfl, tb_in 831 (by decide +kernel) rfl, ⟨by decide +kernel, by decide +kernel⟩, by decide⟩
theorem cv_X1_roomsOf : CV mdX1_roomsOf := ⟨tb_in 841 (by decide +kernel) rfl, tb_in 842 (by decide +kernel) rfl, tb_in 73 (by decide +kernel) rfl, tb_in 843 (by decide +kernel) rfl, ⟨by decide +kernel, by decide +kernel⟩, by decide⟩
theorem cv_X1_isSuspect : CV mdX1_isSuspect := ⟨tb_in 853 (by decide +kernel) rfl, tb_in 854 (by decide +kernel) rfl, tb_in 73 (by decide +kernel) rfl, tb_in 855 (by decide +kernel) rfl, ⟨by decide +kernel, by decide +kernel⟩, by decide⟩
theorem cv_X1_othersMayBeElsewhere : CV mdX1_othersMayBeElsewhere := ⟨tb_in 859 (by decide +kernel) rfl, tb_in 30 (by decide +kernel) rfl, tb_in 73 (by decide +kernel) rfl, tb_in 860 (by decide +kernel) rfl, ⟨by decide +kernel, by decide +kernel⟩, by decide⟩
theorem cv_X2_errandOf : CV mdX2_errandOf := ⟨tb_in 751 (by decide +kernel) rfl, tb_in 752 (by decide +kernel) rfl, tb_in 72 (by decide +kernel) rfl, tb_in 753 (by decide +kernel) rfl, ⟨by decide +kernel, by decide +kernel⟩, by decide⟩
theorem cv_X3_plan : CV mdX3_plan := ⟨tb_in 743 (by decide +kernel) rfl, tb_in 744 (by decide +kernel) rfl, tb_in 71 (by decide +kernel) rfl, tb_in 745 (by decide +kernel) rfl, ⟨by decide +kernel, by decide +kernel⟩, by decide⟩
theorem cv_X3_prepare : CV mdX3_prepare := ⟨tb_in 650 (by decide +kernel) rfl, tb_in 651 (by decide +kernel) rfl, tb_in 71 (by decide +kernel) rfl, tb_in 652 (by decide +kernel) rfl, ⟨by decide +kernel, by decide +kernel⟩, by decide⟩
theorem cv_X3_fillEnds : CV mdX3_fillEnds := ⟨tb_in 656 (by decide +kernel) rfl, tb_in 11 (by decide +kernel) rfl, tb_in 71 (by decide +kernel) rfl, tb_in 657 (by decide +kernel) rfl, ⟨by decide +kernel, by decide +kernel⟩, by decide⟩
theorem cv_X3_takenAt : CV mdX3_takenAt := ⟨tb_in 679 (by decide +kernel) rfl, tb_in 15 (by decide +kernel) rfl, tb_in 71 (by decide +kernel) rfl, tb_in 680 (by decide +kernel) rfl, ⟨by decide +kernel, by decide +kernel⟩, by decide⟩
theorem cv_X3_doneAt : CV mdX3_doneAt := ⟨tb_in 673 (by decide +kernel) rfl, tb_in 14 (by decide +kernel) rfl, tb_in 71 (by decide +kernel) rfl, tb_in 674 (by decide +kernel) rfl, ⟨by decide +kernel, by decide +kernel⟩, by decide⟩
theorem cv_X3_firstOrder : CV mdX3_firstOrder := ⟨tb_in 669 (by decide +kernel) rfl, tb_in 13 (by decide +kernel) rfl, tb_in 71 (by decide +kernel) rfl, tb_in 670 (by decide +kernel) rfl, ⟨by decide +kernel, by decide +kernel⟩, by decide⟩
theorem cv_X3_nextOrder : CV mdX3_nextOrder := ⟨tb_in 688 (by decide +kernel) rfl, tb_in 16 (by decide +kernel) rfl, tb_in 71 (by decide +kernel) rfl, tb_in 689 (by decide +kernel) rfl, ⟨by decide +kernel, by decide +kernel⟩, by decide⟩
theorem cv_X3_swap : CV mdX3_swap := ⟨tb_in 692 (by decide +kernel) rfl, tb_in 17 (by decide +kernel) rfl, tb_in 71 (by decide +kernel) rfl, tb_in 693 (by decide +kernel) rfl, ⟨by decide +kernel, by decide +kernel⟩, by decide⟩
theorem cv_X3_fillLeast : CV mdX3_fillLeast := ⟨tb_in 664 (by decide +kernel) rfl, tb_in 12 (by decide +kernel) rfl, tb_in 71 (by decide +kernel) rfl, tb_in 665 (by decide +kernel) rfl, ⟨by decide +kernel, by decide +kernel⟩, by decide⟩
theorem cv_X3_leastWith : CV mdX3_leastWith := ⟨tb_in 699 (by decide +kernel) rfl, tb_in 700 (by decide +kernel) rfl, tb_in 71 (by decide +kernel) rfl, tb_in 701 (by decide +kernel) rfl, ⟨by decide +kernel, by decide +kernel⟩, by decide⟩
theorem cv_X3_costOf : CV mdX3_costOf := ⟨tb_in 704 (by decide +kernel) rfl, tb_in 19 (by decide +kernel) rfl, tb_in 71 (by decide +kernel) rfl, tb_in 705 (by decide +kernel) rfl, ⟨by decide +kernel, by decide +kernel⟩, by decide⟩
theorem cv_X3_makeBest : CV mdX3_makeBest := ⟨tb_in 696 (by decide +kernel) rfl, tb_in 18 (by decide +kernel) rfl, tb_in 71 (by decide +kernel) rfl, tb_in 697 (by decide +kernel) rfl, ⟨by decide +kernel, by decide +kernel⟩, by decide⟩
theorem cv_X3_allHome : CV mdX3_allHome := ⟨tb_in 712 (by decide +kernel) rfl, tb_in 21 (by decide +kernel) rfl, tb_in 71 (by decide +kernel) rfl, tb_in 713 (by decide +kernel) rfl, ⟨by decide +kernel, by decide +kernel⟩, by decide⟩
theorem cv_X3_follow : CV mdX3_follow := ⟨tb_in 708 (by decide +kernel) rfl, tb_in 20 (by decide +kernel) rfl, tb_in 71 (by decide +kernel) rfl, tb_in 709 (by decide +kernel) rfl, ⟨by decide +kernel, by decide +kernel⟩, by decide⟩
theorem cv_X3_carryOut : CV mdX3_carryOut := ⟨tb_in 716 (by decide +kernel) rfl, tb_in 22 (by decide +kernel) rfl, tb_in 71 (by decide +kernel) rfl, tb_in 717 (by decide +kernel) rfl, ⟨by decide +kernel, by decide +kernel⟩, by decide⟩
theorem cv_X3_makeRule : CV mdX3_makeRule := ⟨tb_in 720 (by decide +kernel) rfl, tb_in 23 (by decide +kernel) rfl, tb_in 71 (by decide +kernel) rfl, tb_in 721 (by decide +kernel) rfl, ⟨by decide +kernel, by decide +kernel⟩, by decide⟩
theorem cv_X3_isAhead : CV mdX3_isAhead := ⟨tb_in 724 (by decide +kernel) rfl, tb_in 24 (by decide +kernel) rfl, tb_in 71 (by decide +kernel) rfl, tb_in 725 (by decide +kernel) rfl, ⟨by decide +kernel, by decide +kernel⟩, by decide⟩
theorem cv_X3_soonestFor : CV mdX3_soonestFor := ⟨tb_in 728 (by decide +kernel) rfl, tb_in 25 (by decide +kernel) rfl, tb_in 71 (by decide +kernel) rfl, tb_in 729 (by decide +kernel) rfl, ⟨by decide +kernel, by decide +kernel⟩, by decide⟩
theorem cv_X3_fewest : CV mdX3_fewest := ⟨tb_in 759 (by decide +kernel) rfl, tb_in 760 (by decide +kernel) rfl, tb_in 71 (by decide +kernel) rfl, tb_in 761 (by decide +kernel) rfl, ⟨by decide +kernel, by decide +kernel⟩, by decide⟩
theorem cv_X4_isSheet : CV mdX4_isSheet := ⟨tb_in 898 (by decide +kernel) rfl, tb_in 899 (by decide +kernel) rfl, tb_in 68 (by decide +kernel) rfl, tb_in 900 (by decide +kernel) rfl, ⟨by decide +kernel, by decide +kernel⟩, by decide⟩
theorem cv_X4_isLane : CV mdX4_isLane := ⟨tb_in 902 (by decide +kernel) rfl, tb_in 903 (by decide +kernel) rfl, tb_in 68 (by decide +kernel) rfl, tb_in 904 (by decide +kernel) rfl, ⟨by decide +kernel, by decide +kernel⟩, by decide⟩
theorem cv_X4_isNothing : CV mdX4_isNothing := ⟨tb_in 906 (by decide +kernel) rfl, tb_in 907 (by decide +kernel) rfl, tb_in 68 (by decide +kernel) rfl, tb_in 908 (by decide +kernel) rfl, ⟨by decide +kernel, by decide +kernel⟩, by decide⟩
theorem cv_X4_holds : CV mdX4_holds := ⟨tb_in 910 (by decide +kernel) rfl, tb_in 911 (by decide +kernel) rfl, tb_in 68 (by decide +kernel) rfl, tb_in 912 (by decide +kernel) rfl, ⟨by decide +kernel, by decide +kernel⟩, by decide⟩
theorem cv_X4_renew : CV mdX4_renew := ⟨tb_in 918 (by decide +kernel) rfl, tb_in 919 (by decide +kernel) rfl, tb_in 68 (by decide +kernel) rfl, tb_in 920 (by decide +kernel) rfl, ⟨by decide +kernel, by decide +kernel⟩, by decide⟩
theorem cv_X4_makeNothing : CV mdX4_makeNothing := ⟨tb_in 926 (by decide +kernel) rfl, tb_in 927 (by decide +kernel) rfl, tb_in 68 (by decide +kernel) rfl, tb_in 928 (by decide +kernel) rfl, ⟨by decide +kernel, by decide +kernel⟩, by decide⟩
theorem cv_X4_put : CV mdX4_put := ⟨tb_in 934 (by decide +kernel) rfl, tb_in 935 (by decide +kernel) rfl, tb_in 68 (by decide +kernel) rfl, tb_in 936 (by decide +kernel) rfl, ⟨by decide +kernel, by decide +kernel⟩, by decide⟩
theorem cv_X5_hasServant : CV mdX5_hasServant := ⟨tb_in 614 (by decide +kernel) rfl, tb_in 615 (by decide +kernel) rfl, tb_in 65 (by decide +kernel) rfl, tb_in 616 (by decide +kernel) rfl, ⟨by decide +kernel, by decide +kernel⟩, by decide⟩
theorem cv_X5_hasErrand : CV mdX5_hasErrand := ⟨tb_in 638 (by decide +kernel) rfl, tb_in 639 (by decide +kernel) rfl, tb_in 65 (by decide +kernel) rfl, tb_in 640 (by decide +kernel) rfl, ⟨by decide +kernel, by decide +kernel⟩, by decide⟩
theorem cv_X5_well : CV mdX5_well := ⟨tb_in 646 (by decide +kernel) rfl, tb_in 647 (by decide +kernel) rfl, tb_in 65 (by decide +kernel) rfl, tb_in 648 (by decide +kernel) rfl, ⟨by decide +kernel, by decide +kernel⟩, by decide⟩
theorem cv_X5_addErrand : CV mdX5_addErrand := ⟨tb_in 630 (by decide +kernel) rfl, tb_in 631 (by decide +kernel) rfl, tb_in 65 (by decide +kernel) rfl, tb_in 632 (by decide +kernel) rfl, ⟨by decide +kernel, by decide +kernel⟩, by decide⟩
theorem cv_X5_removeErrand : CV mdX5_removeErrand := ⟨tb_in 735 (by decide +kernel) rfl, tb_in 736 (by decide +kernel) rfl, tb_in 65 (by decide +kernel) rfl, tb_in 737 (by decide +kernel) rfl, ⟨by decide +kernel, by decide +kernel⟩, by decide⟩
theorem cv_X5_asTold : CV mdX5_asTold := ⟨tb_in 642 (by decide +kernel) rfl, tb_in 643 (by decide +kernel) rfl, tb_in 65 (by decide +kernel) rfl, tb_in 644 (by decide +kernel) rfl, ⟨by decide +kernel, by decide +kernel⟩, by decide⟩
theorem cv_X5_weight : CV mdX5_weight := ⟨tb_in 682 (by decide +kernel) rfl, tb_in 683 (by decide +kernel) rfl, tb_in 65 (by decide +kernel) rfl, tb_in 684 (by decide +kernel) rfl, ⟨by decide +kernel, by decide +kernel⟩, by decide⟩
theorem cv_X5_become : CV mdX5_become := ⟨tb_in 880 (by decide +kernel) rfl, tb_in 881 (by decide +kernel) rfl, tb_in 65 (by decide +kernel) rfl, tb_in 882 (by decide +kernel) rfl, ⟨by decide +kernel, by decide +kernel⟩, by decide⟩
theorem cv_X6_hasOne : CV mdX6_hasOne := ⟨tb_in 787 (by decide +kernel) rfl, tb_in 788 (by decide +kernel) rfl, tb_in 66 (by decide +kernel) rfl, tb_in 789 (by decide +kernel) rfl, ⟨by decide +kernel, by decide +kernel⟩, by decide⟩
theorem cv_X6_addSaying : CV mdX6_addSaying := ⟨tb_in 791 (by decide +kernel) rfl, tb_in 792 (by decide +kernel) rfl, tb_in 66 (by decide +kernel) rfl, tb_in 793 (by decide +kernel) rfl, ⟨by decide +kernel, by decide +kernel⟩, by decide⟩
theorem cv_X6_removeSaying : CV mdX6_removeSaying := ⟨tb_in 807 (by decide +kernel) rfl, tb_in 808 (by decide +kernel) rfl, tb_in 66 (by decide +kernel) rfl, tb_in 809 (by decide +kernel) rfl, ⟨by decide +kernel, by decide +kernel⟩, by decide⟩
theorem cv_X6_become : CV mdX6_become := ⟨tb_in 885 (by decide +kernel) rfl, tb_in 886 (by decide +kernel) rfl, tb_in 66 (by decide +kernel) rfl, tb_in 887 (by decide +kernel) rfl, ⟨by decide +kernel, by decide +kernel⟩, by decide⟩
theorem cv_X7_add : CV mdX7_add := ⟨tb_in 509 (by decide +kernel) rfl, tb_in 510 (by decide +kernel) rfl, tb_in 67 (by decide +kernel) rfl, tb_in 511 (by decide +kernel) rfl, ⟨by decide +kernel, by decide +kernel⟩, by decide⟩
theorem cs_X7_byteOf : CS mdX7_byteOf := ⟨tb_in 513 (by decide +kernel) rfl, tb_in 67 (by decide +kernel) rfl, tb_in 514 (by decide +kernel) rfl, ⟨by decide +kernel, by decide +kernel⟩, by decide⟩
theorem cv_X7_clear : CV mdX7_clear := ⟨tb_in 553 (by decide +kernel) rfl, tb_in 554 (by decide +kernel) rfl, tb_in 67 (by decide +kernel) rfl, tb_in 555 (by decide +kernel) rfl, ⟨by decide +kernel, by decide +kernel⟩, by decide⟩
theorem cv_X7_readWalk : CV mdX7_readWalk := ⟨tb_in 520 (by decide +kernel) rfl, tb_in 521 (by decide +kernel) rfl, tb_in 67 (by decide +kernel) rfl, tb_in 522 (by decide +kernel) rfl, ⟨by decide +kernel, by decide +kernel⟩, by decide⟩
theorem cv_X7_readSayings : CV mdX7_readSayings := ⟨tb_in 799 (by decide +kernel) rfl, tb_in 800 (by decide +kernel) rfl, tb_in 67 (by decide +kernel) rfl, tb_in 801 (by decide +kernel) rfl, ⟨by decide +kernel, by decide +kernel⟩, by decide⟩
theorem cv_X7_fault : CV mdX7_fault := ⟨tb_in 534 (by decide +kernel) rfl, tb_in 5 (by decide +kernel) rfl, tb_in 67 (by decide +kernel) rfl, tb_in 535 (by decide +kernel) rfl, ⟨by decide +kernel, by decide +kernel⟩, by decide⟩
theorem cv_X7_peek : CV mdX7_peek := ⟨tb_in 529 (by decide +kernel) rfl, tb_in 4 (by decide +kernel) rfl, tb_in 67 (by decide +kernel) rfl, tb_in 530 (by decide +kernel) rfl, ⟨by decide +kernel, by decide +kernel⟩, by decide⟩
theorem cv_X7_letter : CV mdX7_letter := ⟨tb_in 525 (by decide +kernel) rfl, tb_in 3 (by decide +kernel) rfl, tb_in 67 (by decide +kernel) rfl, tb_in 526 (by decide +kernel) rfl, ⟨by decide +kernel, by decide +kernel⟩, by decide⟩
theorem cv_X7_number : CV mdX7_number := ⟨tb_in 538 (by decide +kernel) rfl, tb_in 6 (by decide +kernel) rfl, tb_in 67 (by decide +kernel) rfl, tb_in 539 (by decide +kernel) rfl, ⟨by decide +kernel, by decide +kernel⟩, by decide⟩
theorem cv_X8_prepare : CV mdX8_prepare := ⟨tb_in 576 (by decide +kernel) rfl, tb_in 577 (by decide +kernel) rfl, tb_in 70 (by decide +kernel) rfl, tb_in 578 (by decide +kernel) rfl, ⟨by decide +kernel, by decide +kernel⟩, by decide⟩
theorem cv_X8_comersInto : CV mdX8_comersInto := ⟨tb_in 583 (by decide +kernel) rfl, tb_in 7 (by decide +kernel) rfl, tb_in 70 (by decide +kernel) rfl, tb_in 584 (by decide +kernel) rfl, ⟨by decide +kernel, by decide +kernel⟩, by decide⟩
theorem cv_X8_mayBegin : CV mdX8_mayBegin := ⟨tb_in 586 (by decide +kernel) rfl, tb_in 587 (by decide +kernel) rfl, tb_in 70 (by decide +kernel) rfl, tb_in 588 (by decide +kernel) rfl, ⟨by decide +kernel, by decide +kernel⟩, by decide⟩
theorem cv_X8_step : CV mdX8_step := ⟨tb_in 595 (by decide +kernel) rfl, tb_in 8 (by decide +kernel) rfl, tb_in 70 (by decide +kernel) rfl, tb_in 596 (by decide +kernel) rfl, ⟨by decide +kernel, by decide +kernel⟩, by decide⟩
theorem cv_X8_onward : CV mdX8_onward := ⟨tb_in 590 (by decide +kernel) rfl, tb_in 591 (by decide +kernel) rfl, tb_in 70 (by decide +kernel) rfl, tb_in 592 (by decide +kernel) rfl, ⟨by decide +kernel, by decide +kernel⟩, by decide⟩
theorem cv_X8_soonest : CV mdX8_soonest := ⟨tb_in 572 (by decide +kernel) rfl, tb_in 573 (by decide +kernel) rfl, tb_in 70 (by decide +kernel) rfl, tb_in 574 (by decide +kernel) rfl, ⟨by decide +kernel, by decide +kernel⟩, by decide⟩
theorem cv_X8_roomOnTrip : CV mdX8_roomOnTrip := ⟨tb_in 598 (by decide +kernel) rfl, tb_in 599 (by decide +kernel) rfl, tb_in 70 (by decide +kernel) rfl, tb_in 600 (by decide +kernel) rfl, ⟨by decide +kernel, by decide +kernel⟩, by decide⟩
theorem cv_X8_lowest : CV mdX8_lowest := ⟨tb_in 603 (by decide +kernel) rfl, tb_in 9 (by decide +kernel) rfl, tb_in 70 (by decide +kernel) rfl, tb_in 604 (by decide +kernel) rfl, ⟨by decide +kernel, by decide +kernel⟩, by decide⟩
theorem cv_X9_room : CV mdX9_room := ⟨tb_in 448 (by decide +kernel) rfl, tb_in 449 (by decide +kernel) rfl, tb_in 63 (by decide +kernel) rfl, tb_in 450 (by decide +kernel) rfl, ⟨by decide +kernel, by decide +kernel⟩, by decide⟩
theorem cv_X9_door : CV mdX9_door := ⟨tb_in 473 (by decide +kernel) rfl, tb_in 474 (by decide +kernel) rfl, tb_in 63 (by decide +kernel) rfl, tb_in 475 (by decide +kernel) rfl, ⟨by decide +kernel, by decide +kernel⟩, by decide⟩
theorem cv_X9_wall : CV mdX9_wall := ⟨tb_in 493 (by decide +kernel) rfl, tb_in 494 (by decide +kernel) rfl, tb_in 63 (by decide +kernel) rfl, tb_in 495 (by decide +kernel) rfl, ⟨by decide +kernel, by decide +kernel⟩, by decide⟩
theorem cv_X9_type : CV mdX9_type := ⟨tb_in 505 (by decide +kernel) rfl, tb_in 506 (by decide +kernel) rfl, tb_in 63 (by decide +kernel) rfl, tb_in 507 (by decide +kernel) rfl, ⟨by decide +kernel, by decide +kernel⟩, by decide⟩
theorem cv_X9_walk : CV mdX9_walk := ⟨tb_in 516 (by decide +kernel) rfl, tb_in 517 (by decide +kernel) rfl, tb_in 63 (by decide +kernel) rfl, tb_in 518 (by decide +kernel) rfl, ⟨by decide +kernel, by decide +kernel⟩, by decide⟩
theorem cv_X9_guest : CV mdX9_guest := ⟨tb_in 560 (by decide +kernel) rfl, tb_in 561 (by decide +kernel) rfl, tb_in 63 (by decide +kernel) rfl, tb_in 562 (by decide +kernel) rfl, ⟨by decide +kernel, by decide +kernel⟩, by decide⟩
theorem cv_X9_trip : CV mdX9_trip := ⟨tb_in 567 (by decide +kernel) rfl, tb_in 568 (by decide +kernel) rfl, tb_in 63 (by decide +kernel) rfl, tb_in 569 (by decide +kernel) rfl, ⟨by decide +kernel, by decide +kernel⟩, by decide⟩
theorem cv_X9_servant : CV mdX9_servant := ⟨tb_in 606 (by decide +kernel) rfl, tb_in 607 (by decide +kernel) rfl, tb_in 63 (by decide +kernel) rfl, tb_in 608 (by decide +kernel) rfl, ⟨by decide +kernel, by decide +kernel⟩, by decide⟩
theorem cv_X9_ill : CV mdX9_ill := ⟨tb_in 610 (by decide +kernel) rfl, tb_in 611 (by decide +kernel) rfl, tb_in 63 (by decide +kernel) rfl, tb_in 612 (by decide +kernel) rfl, ⟨by decide +kernel, by decide +kernel⟩, by decide⟩
theorem cv_X9_cellar : CV mdX9_cellar := ⟨tb_in 618 (by decide +kernel) rfl, tb_in 619 (by decide +kernel) rfl, tb_in 63 (by decide +kernel) rfl, tb_in 620 (by decide +kernel) rfl, ⟨by decide +kernel, by decide +kernel⟩, by decide⟩
theorem cv_X9_errand : CV mdX9_errand := ⟨tb_in 622 (by decide +kernel) rfl, tb_in 623 (by decide +kernel) rfl, tb_in 63 (by decide +kernel) rfl, tb_in 624 (by decide +kernel) rfl, ⟨by decide +kernel, by decide +kernel⟩, by decide⟩
theorem cv_X9_told : CV mdX9_told := ⟨tb_in 634 (by decide +kernel) rfl, tb_in 635 (by decide +kernel) rfl, tb_in 63 (by decide +kernel) rfl, tb_in 636 (by decide +kernel) rfl, ⟨by decide +kernel, by decide +kernel⟩, by decide⟩
theorem cv_X9_drop : CV mdX9_drop := ⟨tb_in 731 (by decide +kernel) rfl, tb_in 732 (by decide +kernel) rfl, tb_in 63 (by decide +kernel) rfl, tb_in 733 (by decide +kernel) rfl, ⟨by decide +kernel, by decide +kernel⟩, by decide⟩
theorem cv_X9_cost : CV mdX9_cost := ⟨tb_in 739 (by decide +kernel) rfl, tb_in 740 (by decide +kernel) rfl, tb_in 63 (by decide +kernel) rfl, tb_in 741 (by decide +kernel) rfl, ⟨by decide +kernel, by decide +kernel⟩, by decide⟩
theorem cv_X9_does : CV mdX9_does := ⟨tb_in 747 (by decide +kernel) rfl, tb_in 748 (by decide +kernel) rfl, tb_in 63 (by decide +kernel) rfl, tb_in 749 (by decide +kernel) rfl, ⟨by decide +kernel, by decide +kernel⟩, by decide⟩
theorem cv_X9_enough : CV mdX9_enough := ⟨tb_in 755 (by decide +kernel) rfl, tb_in 756 (by decide +kernel) rfl, tb_in 63 (by decide +kernel) rfl, tb_in 757 (by decide +kernel) rfl, ⟨by decide +kernel, by decide +kernel⟩, by decide⟩
theorem cv_X9_missed : CV mdX9_missed := ⟨tb_in 769 (by decide +kernel) rfl, tb_in 770 (by decide +kernel) rfl, tb_in 63 (by decide +kernel) rfl, tb_in 771 (by decide +kernel) rfl, ⟨by decide +kernel, by decide +kernel⟩, by decide⟩
theorem cv_X9_opened : CV mdX9_opened := ⟨tb_in 774 (by decide +kernel) rfl, tb_in 775 (by decide +kernel) rfl, tb_in 63 (by decide +kernel) rfl, tb_in 776 (by decide +kernel) rfl, ⟨by decide +kernel, by decide +kernel⟩, by decide⟩
theorem cv_X9_folk : CV mdX9_folk := ⟨tb_in 779 (by decide +kernel) rfl, tb_in 780 (by decide +kernel) rfl, tb_in 63 (by decide +kernel) rfl, tb_in 781 (by decide +kernel) rfl, ⟨by decide +kernel, by decide +kernel⟩, by decide⟩
theorem cv_X9_say : CV mdX9_say := ⟨tb_in 783 (by decide +kernel) rfl, tb_in 784 (by decide +kernel) rfl, tb_in 63 (by decide +kernel) rfl, tb_in 785 (by decide +kernel) rfl, ⟨by decide +kernel, by decide +kernel⟩, by decide⟩
theorem cv_X9_sayings : CV mdX9_sayings := ⟨tb_in 795 (by decide +kernel) rfl, tb_in 796 (by decide +kernel) rfl, tb_in 63 (by decide +kernel) rfl, tb_in 797 (by decide +kernel) rfl, ⟨by decide +kernel, by decide +kernel⟩, by decide⟩
theorem cv_X9_unsay : CV mdX9_unsay := ⟨tb_in 803 (by decide +kernel) rfl, tb_in 804 (by decide +kernel) rfl, tb_in 63 (by decide +kernel) rfl, tb_in 805 (by decide +kernel) rfl, ⟨by decide +kernel, by decide +kernel⟩, by decide⟩
theorem cv_X9_liars : CV mdX9_liars := ⟨tb_in 811 (by decide +kernel) rfl, tb_in 812 (by decide +kernel) rfl, tb_in 63 (by decide +kernel) rfl, tb_in 813 (by decide +kernel) rfl, ⟨by decide +kernel, by decide +kernel⟩, by decide⟩
theorem cv_X9_maybe : CV mdX9_maybe := ⟨tb_in 837 (by decide +kernel) rfl, tb_in 838 (by decide +kernel) rfl, tb_in 63 (by decide +kernel) rfl, tb_in 839 (by decide +kernel) rfl, ⟨by decide +kernel, by decide +kernel⟩, by decide⟩
theorem cv_X9_theft : CV mdX9_theft := ⟨tb_in 845 (by decide +kernel) rfl, tb_in 846 (by decide +kernel) rfl, tb_in 63 (by decide +kernel) rfl, tb_in 847 (by decide +kernel) rfl, ⟨by decide +kernel, by decide +kernel⟩, by decide⟩
theorem cv_X9_suspects : CV mdX9_suspects := ⟨tb_in 849 (by decide +kernel) rfl, tb_in 850 (by decide +kernel) rfl, tb_in 63 (by decide +kernel) rfl, tb_in 851 (by decide +kernel) rfl, ⟨by decide +kernel, by decide +kernel⟩, by decide⟩
theorem cv_X9_clears : CV mdX9_clears := ⟨tb_in 862 (by decide +kernel) rfl, tb_in 863 (by decide +kernel) rfl, tb_in 63 (by decide +kernel) rfl, tb_in 864 (by decide +kernel) rfl, ⟨by decide +kernel, by decide +kernel⟩, by decide⟩
theorem cv_X9_count : CV mdX9_count := ⟨tb_in 866 (by decide +kernel) rfl, tb_in 867 (by decide +kernel) rfl, tb_in 63 (by decide +kernel) rfl, tb_in 868 (by decide +kernel) rfl, ⟨by decide +kernel, by decide +kernel⟩, by decide⟩
theorem cv_X9_image : CV mdX9_image := ⟨tb_in 871 (by decide +kernel) rfl, tb_in 872 (by decide +kernel) rfl, tb_in 63 (by decide +kernel) rfl, tb_in 873 (by decide +kernel) rfl, ⟨by decide +kernel, by decide +kernel⟩, by decide⟩
theorem cv_X9_restore : CV mdX9_restore := ⟨tb_in 890 (by decide +kernel) rfl, tb_in 891 (by decide +kernel) rfl, tb_in 63 (by decide +kernel) rfl, tb_in 892 (by decide +kernel) rfl, ⟨by decide +kernel, by decide +kernel⟩, by decide⟩
theorem cv_X9_errands : CV mdX9_errands := ⟨tb_in 894 (by decide +kernel) rfl, tb_in 895 (by decide +kernel) rfl, tb_in 63 (by decide +kernel) rfl, tb_in 896 (by decide +kernel) rfl, ⟨by decide +kernel, by decide +kernel⟩, by decide⟩
theorem cv_X9_sheet : CV mdX9_sheet := ⟨tb_in 914 (by decide +kernel) rfl, tb_in 915 (by decide +kernel) rfl, tb_in 63 (by decide +kernel) rfl, tb_in 916 (by decide +kernel) rfl, ⟨by decide +kernel, by decide +kernel⟩, by decide⟩
theorem cv_X9_empty : CV mdX9_empty := ⟨tb_in 922 (by decide +kernel) rfl, tb_in 923 (by decide +kernel) rfl, tb_in 63 (by decide +kernel) rfl, tb_in 924 (by decide +kernel) rfl, ⟨by decide +kernel, by decide +kernel⟩, by decide⟩
theorem cv_X9_item : CV mdX9_item := ⟨tb_in 930 (by decide +kernel) rfl, tb_in 931 (by decide +kernel) rfl, tb_in 63 (by decide +kernel) rfl, tb_in 932 (by decide +kernel) rfl, ⟨by decide +kernel, by decide +kernel⟩, by decide⟩
theorem cv_X9_copy : CV mdX9_copy := ⟨tb_in 938 (by decide +kernel) rfl, tb_in 939 (by decide +kernel) rfl, tb_in 63 (by decide +kernel) rfl, tb_in 940 (by decide +kernel) rfl, ⟨by decide +kernel, by decide +kernel⟩, by decide⟩
theorem cs_X9_isTick : CS mdX9_isTick := ⟨tb_in 564 (by decide +kernel) rfl, tb_in 63 (by decide +kernel) rfl, tb_in 565 (by decide +kernel) rfl, ⟨by decide +kernel, by decide +kernel⟩, by decide⟩
theorem cv_X9_isErrand : CV mdX9_isErrand := ⟨tb_in 627 (by decide +kernel) rfl, tb_in 10 (by decide +kernel) rfl, tb_in 63 (by decide +kernel) rfl, tb_in 628 (by decide +kernel) rfl, ⟨by decide +kernel, by decide +kernel⟩, by decide⟩
theorem cv_X9_doorsChanged : CV mdX9_doorsChanged := ⟨tb_in 453 (by decide +kernel) rfl, tb_in 0 (by decide +kernel) rfl, tb_in 63 (by decide +kernel) rfl, tb_in 454 (by decide +kernel) rfl, ⟨by decide +kernel, by decide +kernel⟩, by decide⟩
theorem cv_X9_plansChanged : CV mdX9_plansChanged := ⟨tb_in 470 (by decide +kernel) rfl, tb_in 2 (by decide +kernel) rfl, tb_in 63 (by decide +kernel) rfl, tb_in 471 (by decide +kernel) rfl, ⟨by decide +kernel, by decide +kernel⟩, by decide⟩
theorem cs_X10_in : CS mdX10_in := ⟨tb_in 1093 (by decide +kernel) rfl, tb_in 74 (by decide +kernel) rfl, tb_in 1094 (by decide +kernel) rfl, ⟨by decide +kernel, by decide +kernel⟩, by decide⟩
theorem cv_X10_isRoom : CV mdX10_isRoom := ⟨tb_in 1090 (by decide +kernel) rfl, tb_in 31 (by decide +kernel) rfl, tb_in 74 (by decide +kernel) rfl, tb_in 1091 (by decide +kernel) rfl, ⟨by decide +kernel, by decide +kernel⟩, by decide⟩
theorem cs_X10_isTick : CS mdX10_isTick := ⟨tb_in 1143 (by decide +kernel) rfl, tb_in 74 (by decide +kernel) rfl, tb_in 1144 (by decide +kernel) rfl, ⟨by decide +kernel, by decide +kernel⟩, by decide⟩
theorem cv_X10_room : CV mdX10_room := ⟨tb_in 1081 (by decide +kernel) rfl, tb_in 1082 (by decide +kernel) rfl, tb_in 74 (by decide +kernel) rfl, tb_in 1083 (by decide +kernel) rfl, ⟨by decide +kernel, by decide +kernel⟩, by decide⟩
theorem cv_X10_doorIs : CV mdX10_doorIs := ⟨tb_in 1097 (by decide +kernel) rfl, tb_in 32 (by decide +kernel) rfl, tb_in 74 (by decide +kernel) rfl, tb_in 1098 (by decide +kernel) rfl, ⟨by decide +kernel, by decide +kernel⟩, by decide⟩
theorem cv_X10_door : CV mdX10_door := ⟨tb_in 1085 (by decide +kernel) rfl, tb_in 1086 (by decide +kernel) rfl, tb_in 74 (by decide +kernel) rfl, tb_in 1087 (by decide +kernel) rfl, ⟨by decide +kernel, by decide +kernel⟩, by decide⟩
theorem cv_X10_isWalked : CV mdX10_isWalked := ⟨tb_in 1105 (by decide +kernel) rfl, tb_in 33 (by decide +kernel) rfl, tb_in 74 (by decide +kernel) rfl, tb_in 1106 (by decide +kernel) rfl, ⟨by decide +kernel, by decide +kernel⟩, by decide⟩
theorem cv_X10_wall : CV mdX10_wall := ⟨tb_in 1100 (by decide +kernel) rfl, tb_in 1101 (by decide +kernel) rfl, tb_in 74 (by decide +kernel) rfl, tb_in 1102 (by decide +kernel) rfl, ⟨by decide +kernel, by decide +kernel⟩, by decide⟩
theorem cv_X10_type : CV mdX10_type := ⟨tb_in 1108 (by decide +kernel) rfl, tb_in 1109 (by decide +kernel) rfl, tb_in 74 (by decide +kernel) rfl, tb_in 1110 (by decide +kernel) rfl, ⟨by decide +kernel, by decide +kernel⟩, by decide⟩
theorem cv_X10_here : CV mdX10_here := ⟨tb_in 1125 (by decide +kernel) rfl, tb_in 35 (by decide +kernel) rfl, tb_in 74 (by decide +kernel) rfl, tb_in 1126 (by decide +kernel) rfl, ⟨by decide +kernel, by decide +kernel⟩, by decide⟩
theorem cv_X10_letter : CV mdX10_letter := ⟨tb_in 1129 (by decide +kernel) rfl, tb_in 36 (by decide +kernel) rfl, tb_in 74 (by decide +kernel) rfl, tb_in 1130 (by decide +kernel) rfl, ⟨by decide +kernel, by decide +kernel⟩, by decide⟩
theorem cv_X10_number : CV mdX10_number := ⟨tb_in 1134 (by decide +kernel) rfl, tb_in 37 (by decide +kernel) rfl, tb_in 74 (by decide +kernel) rfl, tb_in 1135 (by decide +kernel) rfl, ⟨by decide +kernel, by decide +kernel⟩, by decide⟩
theorem cv_X10_walks : CV mdX10_walks := ⟨tb_in 1121 (by decide +kernel) rfl, tb_in 34 (by decide +kernel) rfl, tb_in 74 (by decide +kernel) rfl, tb_in 1122 (by decide +kernel) rfl, ⟨by decide +kernel, by decide +kernel⟩, by decide⟩
theorem cv_X10_walk : CV mdX10_walk := ⟨tb_in 1116 (by decide +kernel) rfl, tb_in 1117 (by decide +kernel) rfl, tb_in 74 (by decide +kernel) rfl, tb_in 1118 (by decide +kernel) rfl, ⟨by decide +kernel, by decide +kernel⟩, by decide⟩
theorem cv_X10_guest : CV mdX10_guest := ⟨tb_in 1139 (by decide +kernel) rfl, tb_in 1140 (by decide +kernel) rfl, tb_in 74 (by decide +kernel) rfl, tb_in 1141 (by decide +kernel) rfl, ⟨by decide +kernel, by decide +kernel⟩, by decide⟩
theorem cv_X10_isMet : CV mdX10_isMet := ⟨tb_in 1161 (by decide +kernel) rfl, tb_in 40 (by decide +kernel) rfl, tb_in 74 (by decide +kernel) rfl, tb_in 1162 (by decide +kernel) rfl, ⟨by decide +kernel, by decide +kernel⟩, by decide⟩
theorem cv_X10_may : CV mdX10_may := ⟨tb_in 1165 (by decide +kernel) rfl, tb_in 41 (by decide +kernel) rfl, tb_in 74 (by decide +kernel) rfl, tb_in 1166 (by decide +kernel) rfl, ⟨by decide +kernel, by decide +kernel⟩, by decide⟩
theorem cv_X10_reaches : CV mdX10_reaches := ⟨tb_in 1157 (by decide +kernel) rfl, tb_in 39 (by decide +kernel) rfl, tb_in 74 (by decide +kernel) rfl, tb_in 1158 (by decide +kernel) rfl, ⟨by decide +kernel, by decide +kernel⟩, by decide⟩
theorem cv_X10_lays : CV mdX10_lays := ⟨tb_in 1153 (by decide +kernel) rfl, tb_in 38 (by decide +kernel) rfl, tb_in 74 (by decide +kernel) rfl, tb_in 1154 (by decide +kernel) rfl, ⟨by decide +kernel, by decide +kernel⟩, by decide⟩
theorem cv_X10_endOf : CV mdX10_endOf := ⟨tb_in 1169 (by decide +kernel) rfl, tb_in 42 (by decide +kernel) rfl, tb_in 74 (by decide +kernel) rfl, tb_in 1170 (by decide +kernel) rfl, ⟨by decide +kernel, by decide +kernel⟩, by decide⟩
theorem cv_X10_trip : CV mdX10_trip := ⟨tb_in 1147 (by decide +kernel) rfl, tb_in 1148 (by decide +kernel) rfl, tb_in 74 (by decide +kernel) rfl, tb_in 1149 (by decide +kernel) rfl, ⟨by decide +kernel, by decide +kernel⟩, by decide⟩
theorem cv_X10_servant : CV mdX10_servant := ⟨tb_in 1172 (by decide +kernel) rfl, tb_in 1173 (by decide +kernel) rfl, tb_in 74 (by decide +kernel) rfl, tb_in 1174 (by decide +kernel) rfl, ⟨by decide +kernel, by decide +kernel⟩, by decide⟩
theorem cv_X10_ill : CV mdX10_ill := ⟨tb_in 1176 (by decide +kernel) rfl, tb_in 1177 (by decide +kernel) rfl, tb_in 74 (by decide +kernel) rfl, tb_in 1178 (by decide +kernel) rfl, ⟨by decide +kernel, by decide +kernel⟩, by decide⟩
theorem cv_X10_cellar : CV mdX10_cellar := ⟨tb_in 1180 (by decide +kernel) rfl, tb_in 1181 (by decide +kernel) rfl, tb_in 74 (by decide +kernel) rfl, tb_in 1182 (by decide +kernel) rfl, ⟨by decide +kernel, by decide +kernel⟩, by decide⟩
theorem cv_X10_isErrand : CV mdX10_isErrand := ⟨tb_in 1189 (by decide +kernel) rfl, tb_in 43 (by decide +kernel) rfl, tb_in 74 (by decide +kernel) rfl, tb_in 1190 (by decide +kernel) rfl, ⟨by decide +kernel, by decide +kernel⟩, by decide⟩
theorem cv_X10_puts : CV mdX10_puts := ⟨tb_in 1194 (by decide +kernel) rfl, tb_in 44 (by decide +kernel) rfl, tb_in 74 (by decide +kernel) rfl, tb_in 1195 (by decide +kernel) rfl, ⟨by decide +kernel, by decide +kernel⟩, by decide⟩
theorem cv_X10_errand : CV mdX10_errand := ⟨tb_in 1184 (by decide +kernel) rfl, tb_in 1185 (by decide +kernel) rfl, tb_in 74 (by decide +kernel) rfl, tb_in 1186 (by decide +kernel) rfl, ⟨by decide +kernel, by decide +kernel⟩, by decide⟩
theorem cv_X10_errands : CV mdX10_errands := ⟨tb_in 1197 (by decide +kernel) rfl, tb_in 1198 (by decide +kernel) rfl, tb_in 74 (by decide +kernel) rfl, tb_in 1199 (by decide +kernel) rfl, ⟨by decide +kernel, by decide +kernel⟩, by decide⟩
theorem cv_X10_drop : CV mdX10_drop := ⟨tb_in 1214 (by decide +kernel) rfl, tb_in 1215 (by decide +kernel) rfl, tb_in 74 (by decide +kernel) rfl, tb_in 1216 (by decide +kernel) rfl, ⟨by decide +kernel, by decide +kernel⟩, by decide⟩
theorem cv_X10_wakes : CV mdX10_wakes := ⟨tb_in 1245 (by decide +kernel) rfl, tb_in 51 (by decide +kernel) rfl, tb_in 74 (by decide +kernel) rfl, tb_in 1246 (by decide +kernel) rfl, ⟨by decide +kernel, by decide +kernel⟩, by decide⟩
theorem cv_X10_wouldBe : CV mdX10_wouldBe := ⟨tb_in 1253 (by decide +kernel) rfl, tb_in 53 (by decide +kernel) rfl, tb_in 74 (by decide +kernel) rfl, tb_in 1254 (by decide +kernel) rfl, ⟨by decide +kernel, by decide +kernel⟩, by decide⟩
theorem cv_X10_doIt : CV mdX10_doIt := ⟨tb_in 1249 (by decide +kernel) rfl, tb_in 52 (by decide +kernel) rfl, tb_in 74 (by decide +kernel) rfl, tb_in 1250 (by decide +kernel) rfl, ⟨by decide +kernel, by decide +kernel⟩, by decide⟩
theorem cv_X10_costOf : CV mdX10_costOf := ⟨tb_in 1257 (by decide +kernel) rfl, tb_in 54 (by decide +kernel) rfl, tb_in 74 (by decide +kernel) rfl, tb_in 1258 (by decide +kernel) rfl, ⟨by decide +kernel, by decide +kernel⟩, by decide⟩
theorem cv_X10_well : CV mdX10_well := ⟨tb_in 1224 (by decide +kernel) rfl, tb_in 46 (by decide +kernel) rfl, tb_in 74 (by decide +kernel) rfl, tb_in 1225 (by decide +kernel) rfl, ⟨by decide +kernel, by decide +kernel⟩, by decide⟩
theorem cs_X10_size : CS mdX10_size := ⟨tb_in 1280 (by decide +kernel) rfl, tb_in 74 (by decide +kernel) rfl, tb_in 1281 (by decide +kernel) rfl, ⟨by decide +kernel, by decide +kernel⟩, by decide⟩
theorem cv_X10_sumOf : CV mdX10_sumOf := ⟨tb_in 1241 (by decide +kernel) rfl, tb_in 50 (by decide +kernel) rfl, tb_in 74 (by decide +kernel) rfl, tb_in 1242 (by decide +kernel) rfl, ⟨by decide +kernel, by decide +kernel⟩, by decide⟩
theorem cv_X10_rows : CV mdX10_rows := ⟨tb_in 1237 (by decide +kernel) rfl, tb_in 49 (by decide +kernel) rfl, tb_in 74 (by decide +kernel) rfl, tb_in 1238 (by decide +kernel) rfl, ⟨by decide +kernel, by decide +kernel⟩, by decide⟩
theorem cv_X10_best : CV mdX10_best := ⟨tb_in 1232 (by decide +kernel) rfl, tb_in 48 (by decide +kernel) rfl, tb_in 74 (by decide +kernel) rfl, tb_in 1233 (by decide +kernel) rfl, ⟨by decide +kernel, by decide +kernel⟩, by decide⟩
theorem cv_X10_keeps : CV mdX10_keeps := ⟨tb_in 1261 (by decide +kernel) rfl, tb_in 55 (by decide +kernel) rfl, tb_in 74 (by decide +kernel) rfl, tb_in 1262 (by decide +kernel) rfl, ⟨by decide +kernel, by decide +kernel⟩, by decide⟩
theorem cv_X10_ruled : CV mdX10_ruled := ⟨tb_in 1269 (by decide +kernel) rfl, tb_in 56 (by decide +kernel) rfl, tb_in 74 (by decide +kernel) rfl, tb_in 1270 (by decide +kernel) rfl, ⟨by decide +kernel, by decide +kernel⟩, by decide⟩
theorem cv_X10_bestDone : CV mdX10_bestDone := ⟨tb_in 1228 (by decide +kernel) rfl, tb_in 47 (by decide +kernel) rfl, tb_in 74 (by decide +kernel) rfl, tb_in 1229 (by decide +kernel) rfl, ⟨by decide +kernel, by decide +kernel⟩, by decide⟩
theorem cv_X10_told : CV mdX10_told := ⟨tb_in 1218 (by decide +kernel) rfl, tb_in 1219 (by decide +kernel) rfl, tb_in 74 (by decide +kernel) rfl, tb_in 1220 (by decide +kernel) rfl, ⟨by decide +kernel, by decide +kernel⟩, by decide⟩
theorem cv_X10_cost : CV mdX10_cost := ⟨tb_in 1264 (by decide +kernel) rfl, tb_in 1265 (by decide +kernel) rfl, tb_in 74 (by decide +kernel) rfl, tb_in 1266 (by decide +kernel) rfl, ⟨by decide +kernel, by decide +kernel⟩, by decide⟩
theorem cv_X10_does : CV mdX10_does := ⟨tb_in 1272 (by decide +kernel) rfl, tb_in 1273 (by decide +kernel) rfl, tb_in 74 (by decide +kernel) rfl, tb_in 1274 (by decide +kernel) rfl, ⟨by decide +kernel, by decide +kernel⟩, by decide⟩
theorem cv_X10_enough : CV mdX10_enough := ⟨tb_in 1276 (by decide +kernel) rfl, tb_in 1277 (by decide +kernel) rfl, tb_in 74 (by decide +kernel) rfl, tb_in 1278 (by decide +kernel) rfl, ⟨by decide +kernel, by decide +kernel⟩, by decide⟩
theorem cv_X10_missed : CV mdX10_missed := ⟨tb_in 1283 (by decide +kernel) rfl, tb_in 1284 (by decide +kernel) rfl, tb_in 74 (by decide +kernel) rfl, tb_in 1285 (by decide +kernel) rfl, ⟨by decide +kernel, by decide +kernel⟩, by decide⟩
theorem cv_X10_opened : CV mdX10_opened := ⟨tb_in 1287 (by decide +kernel) rfl, tb_in 1288 (by decide +kernel) rfl, tb_in 74 (by decide +kernel) rfl, tb_in 1289 (by decide +kernel) rfl, ⟨by decide +kernel, by decide +kernel⟩, by decide⟩
theorem cv_X10_isOne : CV mdX10_isOne := ⟨tb_in 1300 (by decide +kernel) rfl, tb_in 57 (by decide +kernel) rfl, tb_in 74 (by decide +kernel) rfl, tb_in 1301 (by decide +kernel) rfl, ⟨by decide +kernel, by decide +kernel⟩, by decide⟩
theorem cv_X10_folk : CV mdX10_folk := ⟨tb_in 1291 (by decide +kernel) rfl, tb_in 1292 (by decide +kernel) rfl, tb_in 74 (by decide +kernel) rfl, tb_in 1293 (by decide +kernel) rfl, ⟨by decide +kernel, by decide +kernel⟩, by decide⟩
theorem cv_X10_say : CV mdX10_say := ⟨tb_in 1295 (by decide +kernel) rfl, tb_in 1296 (by decide +kernel) rfl, tb_in 74 (by decide +kernel) rfl, tb_in 1297 (by decide +kernel) rfl, ⟨by decide +kernel, by decide +kernel⟩, by decide⟩
theorem cv_X10_sayings : CV mdX10_sayings := ⟨tb_in 1303 (by decide +kernel) rfl, tb_in 1304 (by decide +kernel) rfl, tb_in 74 (by decide +kernel) rfl, tb_in 1305 (by decide +kernel) rfl, ⟨by decide +kernel, by decide +kernel⟩, by decide⟩
theorem cv_X10_unsay : CV mdX10_unsay := ⟨tb_in 1307 (by decide +kernel) rfl, tb_in 1308 (by decide +kernel) rfl, tb_in 74 (by decide +kernel) rfl, tb_in 1309 (by decide +kernel) rfl, ⟨by decide +kernel, by decide +kernel⟩, by decide⟩
theorem cv_X10_goes : CV mdX10_goes := ⟨tb_in 1320 (by decide +kernel) rfl, tb_in 59 (by decide +kernel) rfl, tb_in 74 (by decide +kernel) rfl, tb_in 1321 (by decide +kernel) rfl, ⟨by decide +kernel, by decide +kernel⟩, by decide⟩
theorem cv_X10_around : CV mdX10_around := ⟨tb_in 1324 (by decide +kernel) rfl, tb_in 60 (by decide +kernel) rfl, tb_in 74 (by decide +kernel) rfl, tb_in 1325 (by decide +kernel) rfl, ⟨by decide +kernel, by decide +kernel⟩, by decide⟩
theorem cv_X10_liarsBut : CV mdX10_liarsBut := ⟨tb_in 1316 (by decide +kernel) rfl, tb_in 58 (by decide +kernel) rfl, tb_in 74 (by decide +kernel) rfl, tb_in 1317 (by decide +kernel) rfl, ⟨by decide +kernel, by decide +kernel⟩, by decide⟩
theorem cv_X10_liars : CV mdX10_liars := ⟨tb_in 1311 (by decide +kernel) rfl, tb_in 1312 (by decide +kernel) rfl, tb_in 74 (by decide +kernel) rfl, tb_in 1313 (by decide +kernel) rfl, ⟨by decide +kernel, by decide +kernel⟩, by decide⟩
theorem cv_X10_maybe : CV mdX10_maybe := ⟨tb_in 1327 (by decide +kernel) rfl, tb_in 1328 (by decide +kernel) rfl, tb_in 74 (by decide +kernel) rfl, tb_in 1329 (by decide +kernel) rfl, ⟨by decide +kernel, by decide +kernel⟩, by decide⟩
theorem cv_X10_theft : CV mdX10_theft := ⟨tb_in 1331 (by decide +kernel) rfl, tb_in 1332 (by decide +kernel) rfl, tb_in 74 (by decide +kernel) rfl, tb_in 1333 (by decide +kernel) rfl, ⟨by decide +kernel, by decide +kernel⟩, by decide⟩
theorem cv_X10_suspectsBut : CV mdX10_suspectsBut := ⟨tb_in 1340 (by decide +kernel) rfl, tb_in 61 (by decide +kernel) rfl, tb_in 74 (by decide +kernel) rfl, tb_in 1341 (by decide +kernel) rfl, ⟨by decide +kernel, by decide +kernel⟩, by decide⟩
theorem cv_X10_suspects : CV mdX10_suspects := ⟨tb_in 1335 (by decide +kernel) rfl, tb_in 1336 (by decide +kernel) rfl, tb_in 74 (by decide +kernel) rfl, tb_in 1337 (by decide +kernel) rfl, ⟨by decide +kernel, by decide +kernel⟩, by decide⟩
theorem cv_X10_clears : CV mdX10_clears := ⟨tb_in 1343 (by decide +kernel) rfl, tb_in 1344 (by decide +kernel) rfl, tb_in 74 (by decide +kernel) rfl, tb_in 1345 (by decide +kernel) rfl, ⟨by decide +kernel, by decide +kernel⟩, by decide⟩
theorem cv_X10_count : CV mdX10_count := ⟨tb_in 1347 (by decide +kernel) rfl, tb_in 1348 (by decide +kernel) rfl, tb_in 74 (by decide +kernel) rfl, tb_in 1349 (by decide +kernel) rfl, ⟨by decide +kernel, by decide +kernel⟩, by decide⟩
theorem cs_X10_saves : CS mdX10_saves := ⟨tb_in 1355 (by decide +kernel) rfl, tb_in 74 (by decide +kernel) rfl, tb_in 1356 (by decide +kernel) rfl, ⟨by decide +kernel, by decide +kernel⟩, by decide⟩
theorem cs_X10_gives : CS mdX10_gives := ⟨tb_in 1362 (by decide +kernel) rfl, tb_in 74 (by decide +kernel) rfl, tb_in 1363 (by decide +kernel) rfl, ⟨by decide +kernel, by decide +kernel⟩, by decide⟩
theorem cv_X10_image : CV mdX10_image := ⟨tb_in 1351 (by decide +kernel) rfl, tb_in 1352 (by decide +kernel) rfl, tb_in 74 (by decide +kernel) rfl, tb_in 1353 (by decide +kernel) rfl, ⟨by decide +kernel, by decide +kernel⟩, by decide⟩
theorem cv_X10_restore : CV mdX10_restore := ⟨tb_in 1358 (by decide +kernel) rfl, tb_in 1359 (by decide +kernel) rfl, tb_in 74 (by decide +kernel) rfl, tb_in 1360 (by decide +kernel) rfl, ⟨by decide +kernel, by decide +kernel⟩, by decide⟩
theorem cs_X10_isSheet : CS mdX10_isSheet := ⟨tb_in 1201 (by decide +kernel) rfl, tb_in 74 (by decide +kernel) rfl, tb_in 1202 (by decide +kernel) rfl, ⟨by decide +kernel, by decide +kernel⟩, by decide⟩
theorem cs_X10_isLane : CS mdX10_isLane := ⟨tb_in 1205 (by decide +kernel) rfl, tb_in 74 (by decide +kernel) rfl, tb_in 1206 (by decide +kernel) rfl, ⟨by decide +kernel, by decide +kernel⟩, by decide⟩
theorem cv_X10_finds : CV mdX10_finds := ⟨tb_in 1211 (by decide +kernel) rfl, tb_in 45 (by decide +kernel) rfl, tb_in 74 (by decide +kernel) rfl, tb_in 1212 (by decide +kernel) rfl, ⟨by decide +kernel, by decide +kernel⟩, by decide⟩
theorem cv_X10_sheet : CV mdX10_sheet := ⟨tb_in 1365 (by decide +kernel) rfl, tb_in 1366 (by decide +kernel) rfl, tb_in 74 (by decide +kernel) rfl, tb_in 1367 (by decide +kernel) rfl, ⟨by decide +kernel, by decide +kernel⟩, by decide⟩
theorem cv_X10_empty : CV mdX10_empty := ⟨tb_in 1369 (by decide +kernel) rfl, tb_in 1370 (by decide +kernel) rfl, tb_in 74 (by decide +kernel) rfl, tb_in 1371 (by decide +kernel) rfl, ⟨by decide +kernel, by decide +kernel⟩, by decide⟩
theorem cv_X10_item : CV mdX10_item := ⟨tb_in 1373 (by decide +kernel) rfl, tb_in 1374 (by decide +kernel) rfl, tb_in 74 (by decide +kernel) rfl, tb_in 1375 (by decide +kernel) rfl, ⟨by decide +kernel, by decide +kernel⟩, by decide⟩
theorem cv_X10_copy : CV mdX10_copy := ⟨tb_in 1377 (by decide +kernel) rfl, tb_in 1378 (by decide +kernel) rfl, tb_in 74 (by decide +kernel) rfl, tb_in 1379 (by decide +kernel) rfl, ⟨by decide +kernel, by decide +kernel⟩, by decide⟩
theorem cs_J6_bitCount_0f7a4 : CS mdJ6_bitCount_0f7a4 := ⟨tb_in 763 (by decide +kernel) rfl, tb_in 77 (by decide +kernel) rfl, tb_in 764 (by decide +kernel) rfl, ⟨by decide +kernel, by decide +kernel⟩, by decide⟩
theorem cs_J9_max_7cf53 : CS mdJ9_max_7cf53 := ⟨tb_in 541 (by decide +kernel) rfl, tb_in 75 (by decide +kernel) rfl, tb_in 542 (by decide +kernel) rfl, ⟨by decide +kernel, by decide +kernel⟩, by decide⟩
theorem cs_J9_min_7cf53 : CS mdJ9_min_7cf53 := ⟨tb_in 544 (by decide +kernel) rfl, tb_in 75 (by decide +kernel) rfl, tb_in 545 (by decide +kernel) rfl, ⟨by decide +kernel, by decide +kernel⟩, by decide⟩
theorem cs_J7_rangeCheck_23922 : CS mdJ7_rangeCheck_23922 := ⟨tb_in 550 (by decide +kernel) rfl, tb_in 69 (by decide +kernel) rfl, tb_in 551 (by decide +kernel) rfl, ⟨by decide +kernel, by decide +kernel⟩, by decide⟩
theorem cs_J7_fill_53178 : CS mdJ7_fill_53178 := ⟨tb_in 268 (by decide +kernel) rfl, tb_in 69 (by decide +kernel) rfl, tb_in 269 (by decide +kernel) rfl, ⟨by decide +kernel, by decide +kernel⟩, by decide⟩
theorem cs_J7_fill_fda19 : CS mdJ7_fill_fda19 := ⟨tb_in 547 (by decide +kernel) rfl, tb_in 69 (by decide +kernel) rfl, tb_in 548 (by decide +kernel) rfl, ⟨by decide +kernel, by decide +kernel⟩, by decide⟩
theorem cn_J6_265 : Cond.constant RJ6 265 (1431655765) ∈ tb := tb_in 765 (by decide +kernel) rfl
theorem cn_J6_266 : Cond.constant RJ6 266 (858993459) ∈ tb := tb_in 766 (by decide +kernel) rfl
theorem cn_J6_267 : Cond.constant RJ6 267 (252645135) ∈ tb := tb_in 767 (by decide +kernel) rfl
theorem cn_L_28 : Cond.constantLong RL 28 (4294967295) ∈ tb := tb_in 1380 (by decide +kernel) rfl
theorem cn_X10_102 : Cond.constantLong RX10 102 (23) ∈ tb := tb_in 1145 (by decide +kernel) rfl
theorem cn_X10_126 : Cond.constantLong RX10 126 (8) ∈ tb := tb_in 1111 (by decide +kernel) rfl
theorem cn_X10_128 : Cond.constantLong RX10 128 (255) ∈ tb := tb_in 1112 (by decide +kernel) rfl
theorem cn_X10_130 : Cond.constantLong RX10 130 (32) ∈ tb := tb_in 1113 (by decide +kernel) rfl
theorem cn_X10_132 : Cond.constantLong RX10 132 (126) ∈ tb := tb_in 1114 (by decide +kernel) rfl
theorem cn_X10_147 : Cond.constantLong RX10 147 (97) ∈ tb := tb_in 1131 (by decide +kernel) rfl
theorem cn_X10_149 : Cond.constantLong RX10 149 (48) ∈ tb := tb_in 1136 (by decide +kernel) rfl
theorem cn_X10_151 : Cond.constantLong RX10 151 (57) ∈ tb := tb_in 1137 (by decide +kernel) rfl
theorem cn_X10_178 : Cond.constantLong RX10 178 (-1) ∈ tb := tb_in 1150 (by decide +kernel) rfl
theorem cn_X10_193 : Cond.constantLong RX10 193 (9) ∈ tb := tb_in 1191 (by decide +kernel) rfl
theorem cn_X10_212 : Cond.constantLong RX10 212 (4) ∈ tb := tb_in 1208 (by decide +kernel) rfl
theorem cn_X10_234 : Cond.constant RX10 234 (1000000) ∈ tb := tb_in 1234 (by decide +kernel) rfl
theorem cn_X10_251 : Cond.constantLong RX10 251 (7) ∈ tb := tb_in 1221 (by decide +kernel) rfl
theorem cn_X10_301 : Cond.constantLong RX10 301 (3) ∈ tb := tb_in 1203 (by decide +kernel) rfl
theorem cn_X10_303 : Cond.constantLong RX10 303 (2) ∈ tb := tb_in 1207 (by decide +kernel) rfl
theorem cn_X3_136 : Cond.constant RX3 136 (1000000) ∈ tb := tb_in 666 (by decide +kernel) rfl
theorem ac_nat : Cond.native arraycopyName ∈ tb := tb_in 558 (by decide +kernel) rfl
theorem ac_stat : Cond.static arraycopyName ∈ tb := tb_in 557 (by decide +kernel) rfl
theorem ac_ini : Cond.initialized "java/lang/System" ∈ tb := tb_in 76 (by decide +kernel) rfl
end
