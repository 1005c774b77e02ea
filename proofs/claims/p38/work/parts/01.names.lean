-- ===== PART A: goes FIRST, ahead of the names: the tables' words, and 'selects' of the private methods out of them =====
/-- a private method of a class that the tables say can be made, by its rows of tables_1 -/
def lw_okq (q : MethodName × Nat) : Prop := (q.1.cls ≠ "java/lang/invoke/MethodHandle" ∧ q.1.cls ≠ "java/lang/invoke/VarHandle") ∧ Cond.instantiable q.1.cls q.2 ∈ tables_1 ∧ Cond.privateMethod q.1 ∈ tables_1 ∧ Cond.instanceMethod q.1 ∈ tables_1
theorem lw_p0 : lw_okq (⟨"BackStairs$Trips", "comersInto", "(II)I"⟩, 6) := ⟨⟨by decide +kernel, by decide +kernel⟩, List.mem_of_getElem? (i := 217) (by decide +kernel), List.mem_of_getElem? (i := 405) (by decide +kernel), List.mem_of_getElem? (i := 406) (by decide +kernel)⟩
theorem lw_p1 : lw_okq (⟨"BackStairs$Trips", "step", "(IIZ)I"⟩, 6) := ⟨⟨by decide +kernel, by decide +kernel⟩, List.mem_of_getElem? (i := 217) (by decide +kernel), List.mem_of_getElem? (i := 417) (by decide +kernel), List.mem_of_getElem? (i := 418) (by decide +kernel)⟩
theorem lw_p2 : lw_okq (⟨"BackStairs$Trips", "lowest", "(I)I"⟩, 6) := ⟨⟨by decide +kernel, by decide +kernel⟩, List.mem_of_getElem? (i := 217) (by decide +kernel), List.mem_of_getElem? (i := 425) (by decide +kernel), List.mem_of_getElem? (i := 426) (by decide +kernel)⟩
theorem lw_p3 : lw_okq (⟨"BackStairs", "plansChanged", "()V"⟩, 14) := ⟨⟨by decide +kernel, by decide +kernel⟩, List.mem_of_getElem? (i := 16) (by decide +kernel), List.mem_of_getElem? (i := 437) (by decide +kernel), List.mem_of_getElem? (i := 438) (by decide +kernel)⟩
theorem lw_p4 : lw_okq (⟨"BackStairs$Planner", "fillEnds", "(I)V"⟩, 12) := ⟨⟨by decide +kernel, by decide +kernel⟩, List.mem_of_getElem? (i := 244) (by decide +kernel), List.mem_of_getElem? (i := 466) (by decide +kernel), List.mem_of_getElem? (i := 467) (by decide +kernel)⟩
theorem lw_p5 : lw_okq (⟨"BackStairs$Planner", "fillLeast", "(I)V"⟩, 12) := ⟨⟨by decide +kernel, by decide +kernel⟩, List.mem_of_getElem? (i := 244) (by decide +kernel), List.mem_of_getElem? (i := 474) (by decide +kernel), List.mem_of_getElem? (i := 475) (by decide +kernel)⟩
theorem lw_p6 : lw_okq (⟨"BackStairs$Planner", "firstOrder", "([I)V"⟩, 12) := ⟨⟨by decide +kernel, by decide +kernel⟩, List.mem_of_getElem? (i := 244) (by decide +kernel), List.mem_of_getElem? (i := 479) (by decide +kernel), List.mem_of_getElem? (i := 480) (by decide +kernel)⟩
theorem lw_p7 : lw_okq (⟨"BackStairs$Planner", "doneAt", "(III)I"⟩, 12) := ⟨⟨by decide +kernel, by decide +kernel⟩, List.mem_of_getElem? (i := 244) (by decide +kernel), List.mem_of_getElem? (i := 483) (by decide +kernel), List.mem_of_getElem? (i := 484) (by decide +kernel)⟩
theorem lw_p8 : lw_okq (⟨"BackStairs$Planner", "takenAt", "(III)I"⟩, 12) := ⟨⟨by decide +kernel, by decide +kernel⟩, List.mem_of_getElem? (i := 244) (by decide +kernel), List.mem_of_getElem? (i := 493) (by decide +kernel), List.mem_of_getElem? (i := 494) (by decide +kernel)⟩
theorem lw_p9 : lw_okq (⟨"BackStairs$Planner", "nextOrder", "([I)Z"⟩, 12) := ⟨⟨by decide +kernel, by decide +kernel⟩, List.mem_of_getElem? (i := 244) (by decide +kernel), List.mem_of_getElem? (i := 502) (by decide +kernel), List.mem_of_getElem? (i := 503) (by decide +kernel)⟩
theorem lw_p10 : lw_okq (⟨"BackStairs$Planner", "swap", "([III)V"⟩, 12) := ⟨⟨by decide +kernel, by decide +kernel⟩, List.mem_of_getElem? (i := 244) (by decide +kernel), List.mem_of_getElem? (i := 506) (by decide +kernel), List.mem_of_getElem? (i := 507) (by decide +kernel)⟩
theorem lw_p11 : lw_okq (⟨"BackStairs$Planner", "makeBest", "(I)V"⟩, 12) := ⟨⟨by decide +kernel, by decide +kernel⟩, List.mem_of_getElem? (i := 244) (by decide +kernel), List.mem_of_getElem? (i := 510) (by decide +kernel), List.mem_of_getElem? (i := 511) (by decide +kernel)⟩
theorem lw_p12 : lw_okq (⟨"BackStairs$Planner", "costOf", "(II)I"⟩, 12) := ⟨⟨by decide +kernel, by decide +kernel⟩, List.mem_of_getElem? (i := 244) (by decide +kernel), List.mem_of_getElem? (i := 518) (by decide +kernel), List.mem_of_getElem? (i := 519) (by decide +kernel)⟩
theorem lw_p13 : lw_okq (⟨"BackStairs$Planner", "follow", "(LBackStairs$Plan;)V"⟩, 12) := ⟨⟨by decide +kernel, by decide +kernel⟩, List.mem_of_getElem? (i := 244) (by decide +kernel), List.mem_of_getElem? (i := 522) (by decide +kernel), List.mem_of_getElem? (i := 523) (by decide +kernel)⟩
theorem lw_p14 : lw_okq (⟨"BackStairs$Planner", "allHome", "()V"⟩, 12) := ⟨⟨by decide +kernel, by decide +kernel⟩, List.mem_of_getElem? (i := 244) (by decide +kernel), List.mem_of_getElem? (i := 526) (by decide +kernel), List.mem_of_getElem? (i := 527) (by decide +kernel)⟩
theorem lw_p15 : lw_okq (⟨"BackStairs$Planner", "carryOut", "(LBackStairs$Plan;I)V"⟩, 12) := ⟨⟨by decide +kernel, by decide +kernel⟩, List.mem_of_getElem? (i := 244) (by decide +kernel), List.mem_of_getElem? (i := 530) (by decide +kernel), List.mem_of_getElem? (i := 531) (by decide +kernel)⟩
def lw_privs_1 : List (MethodName × Nat) := [(⟨"BackStairs$Trips", "comersInto", "(II)I"⟩, 6), (⟨"BackStairs$Trips", "step", "(IIZ)I"⟩, 6), (⟨"BackStairs$Trips", "lowest", "(I)I"⟩, 6), (⟨"BackStairs", "plansChanged", "()V"⟩, 14), (⟨"BackStairs$Planner", "fillEnds", "(I)V"⟩, 12), (⟨"BackStairs$Planner", "fillLeast", "(I)V"⟩, 12), (⟨"BackStairs$Planner", "firstOrder", "([I)V"⟩, 12), (⟨"BackStairs$Planner", "doneAt", "(III)I"⟩, 12), (⟨"BackStairs$Planner", "takenAt", "(III)I"⟩, 12), (⟨"BackStairs$Planner", "nextOrder", "([I)Z"⟩, 12), (⟨"BackStairs$Planner", "swap", "([III)V"⟩, 12), (⟨"BackStairs$Planner", "makeBest", "(I)V"⟩, 12), (⟨"BackStairs$Planner", "costOf", "(II)I"⟩, 12), (⟨"BackStairs$Planner", "follow", "(LBackStairs$Plan;)V"⟩, 12), (⟨"BackStairs$Planner", "allHome", "()V"⟩, 12), (⟨"BackStairs$Planner", "carryOut", "(LBackStairs$Plan;I)V"⟩, 12)]
theorem lw_r1 : ∀ q ∈ lw_privs_1, lw_okq q := List.forall_mem_cons.mpr ⟨lw_p0, List.forall_mem_cons.mpr ⟨lw_p1, List.forall_mem_cons.mpr ⟨lw_p2, List.forall_mem_cons.mpr ⟨lw_p3, List.forall_mem_cons.mpr ⟨lw_p4, List.forall_mem_cons.mpr ⟨lw_p5, List.forall_mem_cons.mpr ⟨lw_p6, List.forall_mem_cons.mpr ⟨lw_p7, List.forall_mem_cons.mpr ⟨lw_p8, List.forall_mem_cons.mpr ⟨lw_p9, List.forall_mem_cons.mpr ⟨lw_p10, List.forall_mem_cons.mpr ⟨lw_p11, List.forall_mem_cons.mpr ⟨lw_p12, List.forall_mem_cons.mpr ⟨lw_p13, List.forall_mem_cons.mpr ⟨lw_p14, List.forall_mem_cons.mpr ⟨lw_p15, fun _ h => absurd h List.not_mem_nil⟩⟩⟩⟩⟩⟩⟩⟩⟩⟩⟩⟩⟩⟩⟩⟩
theorem lw_p16 : lw_okq (⟨"BackStairs$Planner", "makeRule", "(I)V"⟩, 12) := ⟨⟨by decide +kernel, by decide +kernel⟩, List.mem_of_getElem? (i := 244) (by decide +kernel), List.mem_of_getElem? (i := 534) (by decide +kernel), List.mem_of_getElem? (i := 535) (by decide +kernel)⟩
theorem lw_p17 : lw_okq (⟨"BackStairs$Planner", "isAhead", "(II)Z"⟩, 12) := ⟨⟨by decide +kernel, by decide +kernel⟩, List.mem_of_getElem? (i := 244) (by decide +kernel), List.mem_of_getElem? (i := 538) (by decide +kernel), List.mem_of_getElem? (i := 539) (by decide +kernel)⟩
theorem lw_p18 : lw_okq (⟨"BackStairs$Planner", "soonestFor", "(II)I"⟩, 12) := ⟨⟨by decide +kernel, by decide +kernel⟩, List.mem_of_getElem? (i := 244) (by decide +kernel), List.mem_of_getElem? (i := 542) (by decide +kernel), List.mem_of_getElem? (i := 543) (by decide +kernel)⟩
theorem lw_p19 : lw_okq (⟨"BackStairs$Inquiry", "haveWays", "(II)Z"⟩, 3) := ⟨⟨by decide +kernel, by decide +kernel⟩, List.mem_of_getElem? (i := 316) (by decide +kernel), List.mem_of_getElem? (i := 580) (by decide +kernel), List.mem_of_getElem? (i := 581) (by decide +kernel)⟩
theorem lw_p20 : lw_okq (⟨"BackStairs$Inquiry", "pin", "(III)Z"⟩, 3) := ⟨⟨by decide +kernel, by decide +kernel⟩, List.mem_of_getElem? (i := 316) (by decide +kernel), List.mem_of_getElem? (i := 585) (by decide +kernel), List.mem_of_getElem? (i := 586) (by decide +kernel)⟩
theorem lw_p21 : lw_okq (⟨"BackStairs$Inquiry", "hasWay", "(I)Z"⟩, 3) := ⟨⟨by decide +kernel, by decide +kernel⟩, List.mem_of_getElem? (i := 316) (by decide +kernel), List.mem_of_getElem? (i := 589) (by decide +kernel), List.mem_of_getElem? (i := 590) (by decide +kernel)⟩
theorem lw_p22 : lw_okq (⟨"BackStairs$Inquiry", "wayOf", "(I)[[I"⟩, 3) := ⟨⟨by decide +kernel, by decide +kernel⟩, List.mem_of_getElem? (i := 316) (by decide +kernel), List.mem_of_getElem? (i := 593) (by decide +kernel), List.mem_of_getElem? (i := 594) (by decide +kernel)⟩
theorem lw_p23 : lw_okq (⟨"BackStairs$Inquiry", "othersMayBeElsewhere", "(II)Z"⟩, 3) := ⟨⟨by decide +kernel, by decide +kernel⟩, List.mem_of_getElem? (i := 316) (by decide +kernel), List.mem_of_getElem? (i := 618) (by decide +kernel), List.mem_of_getElem? (i := 619) (by decide +kernel)⟩
theorem lw_p24 : lw_okq (⟨"BackStairs", "doorsChanged", "()V"⟩, 14) := ⟨⟨by decide +kernel, by decide +kernel⟩, List.mem_of_getElem? (i := 16) (by decide +kernel), List.mem_of_getElem? (i := 656) (by decide +kernel), List.mem_of_getElem? (i := 657) (by decide +kernel)⟩
theorem lw_p25 : lw_okq (⟨"BackStairs$House", "measureFrom", "(IZ[I)V"⟩, 8) := ⟨⟨by decide +kernel, by decide +kernel⟩, List.mem_of_getElem? (i := 24) (by decide +kernel), List.mem_of_getElem? (i := 664) (by decide +kernel), List.mem_of_getElem? (i := 665) (by decide +kernel)⟩
theorem lw_p26 : lw_okq (⟨"BackStairs$Tape", "letter", "(I)I"⟩, 4) := ⟨⟨by decide +kernel, by decide +kernel⟩, List.mem_of_getElem? (i := 178) (by decide +kernel), List.mem_of_getElem? (i := 726) (by decide +kernel), List.mem_of_getElem? (i := 727) (by decide +kernel)⟩
theorem lw_p27 : lw_okq (⟨"BackStairs$Tape", "peek", "()I"⟩, 4) := ⟨⟨by decide +kernel, by decide +kernel⟩, List.mem_of_getElem? (i := 178) (by decide +kernel), List.mem_of_getElem? (i := 730) (by decide +kernel), List.mem_of_getElem? (i := 731) (by decide +kernel)⟩
theorem lw_p28 : lw_okq (⟨"BackStairs$Tape", "fault", "()I"⟩, 4) := ⟨⟨by decide +kernel, by decide +kernel⟩, List.mem_of_getElem? (i := 178) (by decide +kernel), List.mem_of_getElem? (i := 735) (by decide +kernel), List.mem_of_getElem? (i := 736) (by decide +kernel)⟩
theorem lw_p29 : lw_okq (⟨"BackStairs$Tape", "number", "(II)I"⟩, 4) := ⟨⟨by decide +kernel, by decide +kernel⟩, List.mem_of_getElem? (i := 178) (by decide +kernel), List.mem_of_getElem? (i := 739) (by decide +kernel), List.mem_of_getElem? (i := 740) (by decide +kernel)⟩
theorem lw_p30 : lw_okq (⟨"BackStairs", "isErrand", "(IIIII)Z"⟩, 14) := ⟨⟨by decide +kernel, by decide +kernel⟩, List.mem_of_getElem? (i := 16) (by decide +kernel), List.mem_of_getElem? (i := 771) (by decide +kernel), List.mem_of_getElem? (i := 772) (by decide +kernel)⟩
def lw_privs_2 : List (MethodName × Nat) := [(⟨"BackStairs$Planner", "makeRule", "(I)V"⟩, 12), (⟨"BackStairs$Planner", "isAhead", "(II)Z"⟩, 12), (⟨"BackStairs$Planner", "soonestFor", "(II)I"⟩, 12), (⟨"BackStairs$Inquiry", "haveWays", "(II)Z"⟩, 3), (⟨"BackStairs$Inquiry", "pin", "(III)Z"⟩, 3), (⟨"BackStairs$Inquiry", "hasWay", "(I)Z"⟩, 3), (⟨"BackStairs$Inquiry", "wayOf", "(I)[[I"⟩, 3), (⟨"BackStairs$Inquiry", "othersMayBeElsewhere", "(II)Z"⟩, 3), (⟨"BackStairs", "doorsChanged", "()V"⟩, 14), (⟨"BackStairs$House", "measureFrom", "(IZ[I)V"⟩, 8), (⟨"BackStairs$Tape", "letter", "(I)I"⟩, 4), (⟨"BackStairs$Tape", "peek", "()I"⟩, 4), (⟨"BackStairs$Tape", "fault", "()I"⟩, 4), (⟨"BackStairs$Tape", "number", "(II)I"⟩, 4), (⟨"BackStairs", "isErrand", "(IIIII)Z"⟩, 14)]
theorem lw_r2 : ∀ q ∈ lw_privs_2, lw_okq q := List.forall_mem_cons.mpr ⟨lw_p16, List.forall_mem_cons.mpr ⟨lw_p17, List.forall_mem_cons.mpr ⟨lw_p18, List.forall_mem_cons.mpr ⟨lw_p19, List.forall_mem_cons.mpr ⟨lw_p20, List.forall_mem_cons.mpr ⟨lw_p21, List.forall_mem_cons.mpr ⟨lw_p22, List.forall_mem_cons.mpr ⟨lw_p23, List.forall_mem_cons.mpr ⟨lw_p24, List.forall_mem_cons.mpr ⟨lw_p25, List.forall_mem_cons.mpr ⟨lw_p26, List.forall_mem_cons.mpr ⟨lw_p27, List.forall_mem_cons.mpr ⟨lw_p28, List.forall_mem_cons.mpr ⟨lw_p29, List.forall_mem_cons.mpr ⟨lw_p30, fun _ h => absurd h List.not_mem_nil⟩⟩⟩⟩⟩⟩⟩⟩⟩⟩⟩⟩⟩⟩⟩
def lw_privs : List (MethodName × Nat) := lw_privs_1 ++ (lw_privs_2)
def lw_tbl : List Cond := k2_sels lw_privs ++ tables_1
theorem lw_privs_ok : ∀ q ∈ lw_privs, lw_okq q := by
  show ∀ q ∈ lw_privs_1 ++ (lw_privs_2), lw_okq q
  exact List.forall_mem_append.mpr ⟨lw_r1, lw_r2⟩
/-! ===== BEGIN printed: names, fields, word lists, decode rows ===== -/
def RX0 : String := "BackStairs$House"
def TX0 : u_T := fun k => match k with
  | 0 => ("BackStairs$House", "rooms", "I", false)
  | 1 => ("BackStairs$House", "doors", "I", false)
  | 2 => ("BackStairs$House", "guests", "I", false)
  | 3 => ("BackStairs$House", "open", "[I", true)
  | 4 => ("BackStairs$House", "back", "[I", true)
  | 5 => ("BackStairs$House", "paths", "[[I", true)
  | 6 => ("BackStairs$House", "guestWay", "[[I", true)
  | _ => ("BackStairs$House", "servantWay", "[[I", true)
def tyX0 : Nat → FieldType := fun k => match k with
  | 0 => .int
  | 1 => .int
  | 2 => .int
  | 3 => .array .int
  | 4 => .array .int
  | 5 => .array (.array .int)
  | 6 => .array (.array .int)
  | _ => .array (.array .int)
abbrev wsX00 : List Cond := u_ws RX0 TX0 8
theorem nmX0 : ∀ a, a < 8 → ∀ b, b < 8 → a ≠ b → (TX0 a).2.1 ≠ (TX0 b).2.1 := by decide +kernel
theorem tyX0_ok : ∀ k, k < 8 → parseFieldDescriptor (TX0 k).2.2.1 = some (tyX0 k) := by decide +kernel
abbrev cX0_init : ByteArray := prog_2_method_1_code
def yX0_init : MethodName := ⟨RX0, "<init>", "()V"⟩
abbrev cX0_hasRoom : ByteArray := prog_2_method_2_code
def yX0_hasRoom : MethodName := ⟨RX0, "hasRoom", "(I)Z"⟩
abbrev cX0_arePair : ByteArray := prog_2_method_3_code
def yX0_arePair : MethodName := ⟨RX0, "arePair", "(II)Z"⟩
abbrev cX0_doorKind : ByteArray := prog_2_method_4_code
def yX0_doorKind : MethodName := ⟨RX0, "doorKind", "(II)I"⟩
abbrev cX0_putDoor : ByteArray := prog_2_method_5_code
def yX0_putDoor : MethodName := ⟨RX0, "putDoor", "(III)V"⟩
abbrev cX0_around : ByteArray := prog_2_method_8_code
def yX0_around : MethodName := ⟨RX0, "around", "(IZ)I"⟩
abbrev cX0_measure : ByteArray := prog_2_method_9_code
def yX0_measure : MethodName := ⟨RX0, "measure", "()V"⟩
abbrev cX0_measureFrom : ByteArray := prog_2_method_10_code
def yX0_measureFrom : MethodName := ⟨RX0, "measureFrom", "(IZ[I)V"⟩
abbrev cX0_become : ByteArray := prog_2_method_11_code
def yX0_become : MethodName := ⟨RX0, "become", "(LBackStairs$House;)V"⟩
def RX1 : String := "BackStairs$Inquiry"
def TX1 : u_T := fun k => match k with
  | 0 => ("BackStairs$Inquiry", "house", "LBackStairs$House;", true)
  | 1 => ("BackStairs$Inquiry", "talk", "LBackStairs$Talk;", true)
  | _ => ("BackStairs$Inquiry", "pins", "[[I", true)
def tyX1 : Nat → FieldType := fun k => match k with
  | 0 => .object "BackStairs$House"
  | 1 => .object "BackStairs$Talk"
  | _ => .array (.array .int)
abbrev wsX10 : List Cond := u_ws RX1 TX1 3
theorem nmX1 : ∀ a, a < 3 → ∀ b, b < 3 → a ≠ b → (TX1 a).2.1 ≠ (TX1 b).2.1 := by decide +kernel
theorem tyX1_ok : ∀ k, k < 3 → parseFieldDescriptor (TX1 k).2.2.1 = some (tyX1 k) := by decide +kernel
abbrev cX1_init : ByteArray := prog_3_method_1_code
def yX1_init : MethodName := ⟨RX1, "<init>", "(LBackStairs$House;LBackStairs$Talk;)V"⟩
abbrev cX1_findLiars : ByteArray := prog_3_method_2_code
def yX1_findLiars : MethodName := ⟨RX1, "findLiars", "(I)I"⟩
abbrev cX1_haveWays : ByteArray := prog_3_method_3_code
def yX1_haveWays : MethodName := ⟨RX1, "haveWays", "(II)Z"⟩
abbrev cX1_pin : ByteArray := prog_3_method_4_code
def yX1_pin : MethodName := ⟨RX1, "pin", "(III)Z"⟩
abbrev cX1_wayOf : ByteArray := prog_3_method_5_code
def yX1_wayOf : MethodName := ⟨RX1, "wayOf", "(I)[[I"⟩
abbrev cX1_hasWay : ByteArray := prog_3_method_6_code
def yX1_hasWay : MethodName := ⟨RX1, "hasWay", "(I)Z"⟩
abbrev cX1_roomsOf : ByteArray := prog_3_method_7_code
def yX1_roomsOf : MethodName := ⟨RX1, "roomsOf", "(II)I"⟩
abbrev cX1_isSuspect : ByteArray := prog_3_method_8_code
def yX1_isSuspect : MethodName := ⟨RX1, "isSuspect", "(I)Z"⟩
abbrev cX1_othersMayBeElsewhere : ByteArray := prog_3_method_9_code
def yX1_othersMayBeElsewhere : MethodName := ⟨RX1, "othersMayBeElsewhere", "(II)Z"⟩
def RX2 : String := "BackStairs$Plan"
def TX2 : u_T := fun k => match k with
  | 0 => ("BackStairs$Plan", "sum", "I", false)
  | 1 => ("BackStairs$Plan", "order", "[I", true)
  | 2 => ("BackStairs$Plan", "servantOf", "[I", true)
  | 3 => ("BackStairs$Plan", "done", "[I", true)
  | _ => ("BackStairs$Plan", "taken", "[I", true)
def tyX2 : Nat → FieldType := fun k => match k with
  | 0 => .int
  | 1 => .array .int
  | 2 => .array .int
  | 3 => .array .int
  | _ => .array .int
abbrev wsX20 : List Cond := u_ws RX2 TX2 5
theorem nmX2 : ∀ a, a < 5 → ∀ b, b < 5 → a ≠ b → (TX2 a).2.1 ≠ (TX2 b).2.1 := by decide +kernel
theorem tyX2_ok : ∀ k, k < 5 → parseFieldDescriptor (TX2 k).2.2.1 = some (tyX2 k) := by decide +kernel
abbrev cX2_init : ByteArray := prog_4_method_1_code
def yX2_init : MethodName := ⟨RX2, "<init>", "()V"⟩
def RX3 : String := "BackStairs$Planner"
def TX3 : u_T := fun k => match k with
  | 0 => ("BackStairs$Planner", "house", "LBackStairs$House;", true)
  | 1 => ("BackStairs$Planner", "staff", "LBackStairs$Staff;", true)
  | 2 => ("BackStairs$Planner", "trips", "LBackStairs$Trips;", true)
  | 3 => ("BackStairs$Planner", "fresh", "Z", false)
  | 4 => ("BackStairs$Planner", "best", "LBackStairs$Plan;", true)
  | 5 => ("BackStairs$Planner", "rule", "LBackStairs$Plan;", true)
  | 6 => ("BackStairs$Planner", "ends", "[[I", true)
  | 7 => ("BackStairs$Planner", "least", "[[I", true)
  | 8 => ("BackStairs$Planner", "shares", "[I", true)
  | 9 => ("BackStairs$Planner", "where", "[I", true)
  | 10 => ("BackStairs$Planner", "free", "[I", true)
  | _ => ("BackStairs$Planner", "leastSharing", "I", false)
def tyX3 : Nat → FieldType := fun k => match k with
  | 0 => .object "BackStairs$House"
  | 1 => .object "BackStairs$Staff"
  | 2 => .object "BackStairs$Trips"
  | 3 => .boolean
  | 4 => .object "BackStairs$Plan"
  | 5 => .object "BackStairs$Plan"
  | 6 => .array (.array .int)
  | 7 => .array (.array .int)
  | 8 => .array .int
  | 9 => .array .int
  | 10 => .array .int
  | _ => .int
abbrev wsX30 : List Cond := u_ws RX3 TX3 12
theorem nmX3 : ∀ a, a < 12 → ∀ b, b < 12 → a ≠ b → (TX3 a).2.1 ≠ (TX3 b).2.1 := by decide +kernel
theorem tyX3_ok : ∀ k, k < 12 → parseFieldDescriptor (TX3 k).2.2.1 = some (tyX3 k) := by decide +kernel
abbrev cX3_init : ByteArray := prog_5_method_1_code
def yX3_init : MethodName := ⟨RX3, "<init>", "(LBackStairs$House;LBackStairs$Staff;LBackStairs$Trips;)V"⟩
abbrev cX3_plan : ByteArray := prog_5_method_2_code
def yX3_plan : MethodName := ⟨RX3, "plan", "(I)LBackStairs$Plan;"⟩
abbrev cX3_prepare : ByteArray := prog_5_method_3_code
def yX3_prepare : MethodName := ⟨RX3, "prepare", "()V"⟩
abbrev cX3_fillEnds : ByteArray := prog_5_method_4_code
def yX3_fillEnds : MethodName := ⟨RX3, "fillEnds", "(I)V"⟩
abbrev cX3_takenAt : ByteArray := prog_5_method_5_code
def yX3_takenAt : MethodName := ⟨RX3, "takenAt", "(III)I"⟩
abbrev cX3_doneAt : ByteArray := prog_5_method_6_code
def yX3_doneAt : MethodName := ⟨RX3, "doneAt", "(III)I"⟩
abbrev cX3_firstOrder : ByteArray := prog_5_method_7_code
def yX3_firstOrder : MethodName := ⟨RX3, "firstOrder", "([I)V"⟩
abbrev cX3_nextOrder : ByteArray := prog_5_method_8_code
def yX3_nextOrder : MethodName := ⟨RX3, "nextOrder", "([I)Z"⟩
abbrev cX3_swap : ByteArray := prog_5_method_9_code
def yX3_swap : MethodName := ⟨RX3, "swap", "([III)V"⟩
abbrev cX3_fillLeast : ByteArray := prog_5_method_10_code
def yX3_fillLeast : MethodName := ⟨RX3, "fillLeast", "(I)V"⟩
abbrev cX3_leastWith : ByteArray := prog_5_method_11_code
def yX3_leastWith : MethodName := ⟨RX3, "leastWith", "(I)I"⟩
abbrev cX3_costOf : ByteArray := prog_5_method_12_code
def yX3_costOf : MethodName := ⟨RX3, "costOf", "(II)I"⟩
abbrev cX3_makeBest : ByteArray := prog_5_method_13_code
def yX3_makeBest : MethodName := ⟨RX3, "makeBest", "(I)V"⟩
abbrev cX3_allHome : ByteArray := prog_5_method_14_code
def yX3_allHome : MethodName := ⟨RX3, "allHome", "()V"⟩
abbrev cX3_follow : ByteArray := prog_5_method_15_code
def yX3_follow : MethodName := ⟨RX3, "follow", "(LBackStairs$Plan;)V"⟩
abbrev cX3_carryOut : ByteArray := prog_5_method_16_code
def yX3_carryOut : MethodName := ⟨RX3, "carryOut", "(LBackStairs$Plan;I)V"⟩
abbrev cX3_makeRule : ByteArray := prog_5_method_17_code
def yX3_makeRule : MethodName := ⟨RX3, "makeRule", "(I)V"⟩
abbrev cX3_isAhead : ByteArray := prog_5_method_18_code
def yX3_isAhead : MethodName := ⟨RX3, "isAhead", "(II)Z"⟩
abbrev cX3_soonestFor : ByteArray := prog_5_method_19_code
def yX3_soonestFor : MethodName := ⟨RX3, "soonestFor", "(II)I"⟩
def RX4 : String := "BackStairs$Sheets"
def TX4 : u_T := fun k => match k with
  | 0 => ("BackStairs$Sheets", "lanes", "[I", true)
  | 1 => ("BackStairs$Sheets", "sizes", "[I", true)
  | _ => ("BackStairs$Sheets", "rows", "[[I", true)
def tyX4 : Nat → FieldType := fun k => match k with
  | 0 => .array .int
  | 1 => .array .int
  | _ => .array (.array .int)
abbrev wsX40 : List Cond := u_ws RX4 TX4 3
theorem nmX4 : ∀ a, a < 3 → ∀ b, b < 3 → a ≠ b → (TX4 a).2.1 ≠ (TX4 b).2.1 := by decide +kernel
theorem tyX4_ok : ∀ k, k < 3 → parseFieldDescriptor (TX4 k).2.2.1 = some (tyX4 k) := by decide +kernel
abbrev cX4_init : ByteArray := prog_6_method_1_code
def yX4_init : MethodName := ⟨RX4, "<init>", "()V"⟩
def RX5 : String := "BackStairs$Staff"
def TX5 : u_T := fun k => match k with
  | 0 => ("BackStairs$Staff", "servants", "I", false)
  | 1 => ("BackStairs$Staff", "ill", "I", false)
  | 2 => ("BackStairs$Staff", "cellar", "I", false)
  | 3 => ("BackStairs$Staff", "errands", "I", false)
  | 4 => ("BackStairs$Staff", "starts", "[I", true)
  | 5 => ("BackStairs$Staff", "kinds", "[I", true)
  | 6 => ("BackStairs$Staff", "rooms", "[I", true)
  | 7 => ("BackStairs$Staff", "ranks", "[I", true)
  | 8 => ("BackStairs$Staff", "froms", "[I", true)
  | _ => ("BackStairs$Staff", "dues", "[I", true)
def tyX5 : Nat → FieldType := fun k => match k with
  | 0 => .int
  | 1 => .int
  | 2 => .int
  | 3 => .int
  | 4 => .array .int
  | 5 => .array .int
  | 6 => .array .int
  | 7 => .array .int
  | 8 => .array .int
  | _ => .array .int
abbrev wsX50 : List Cond := u_ws RX5 TX5 10
theorem nmX5 : ∀ a, a < 10 → ∀ b, b < 10 → a ≠ b → (TX5 a).2.1 ≠ (TX5 b).2.1 := by decide +kernel
theorem tyX5_ok : ∀ k, k < 10 → parseFieldDescriptor (TX5 k).2.2.1 = some (tyX5 k) := by decide +kernel
abbrev cX5_init : ByteArray := prog_7_method_1_code
def yX5_init : MethodName := ⟨RX5, "<init>", "()V"⟩
abbrev cX5_hasServant : ByteArray := prog_7_method_2_code
def yX5_hasServant : MethodName := ⟨RX5, "hasServant", "(I)Z"⟩
abbrev cX5_hasErrand : ByteArray := prog_7_method_3_code
def yX5_hasErrand : MethodName := ⟨RX5, "hasErrand", "(I)Z"⟩
abbrev cX5_well : ByteArray := prog_7_method_4_code
def yX5_well : MethodName := ⟨RX5, "well", "()I"⟩
abbrev cX5_addErrand : ByteArray := prog_7_method_5_code
def yX5_addErrand : MethodName := ⟨RX5, "addErrand", "(IIIII)V"⟩
abbrev cX5_removeErrand : ByteArray := prog_7_method_6_code
def yX5_removeErrand : MethodName := ⟨RX5, "removeErrand", "(I)V"⟩
abbrev cX5_weight : ByteArray := prog_7_method_8_code
def yX5_weight : MethodName := ⟨RX5, "weight", "(II)I"⟩
abbrev cX5_become : ByteArray := prog_7_method_9_code
def yX5_become : MethodName := ⟨RX5, "become", "(LBackStairs$Staff;)V"⟩
def RX6 : String := "BackStairs$Talk"
def TX6 : u_T := fun k => match k with
  | 0 => ("BackStairs$Talk", "folk", "I", false)
  | 1 => ("BackStairs$Talk", "sayings", "I", false)
  | 2 => ("BackStairs$Talk", "stolen", "Z", false)
  | 3 => ("BackStairs$Talk", "theftRoom", "I", false)
  | 4 => ("BackStairs$Talk", "theftFrom", "I", false)
  | 5 => ("BackStairs$Talk", "theftTo", "I", false)
  | 6 => ("BackStairs$Talk", "kinds", "[I", true)
  | 7 => ("BackStairs$Talk", "speakers", "[I", true)
  | 8 => ("BackStairs$Talk", "seen", "[I", true)
  | 9 => ("BackStairs$Talk", "rooms", "[I", true)
  | _ => ("BackStairs$Talk", "ticks", "[I", true)
def tyX6 : Nat → FieldType := fun k => match k with
  | 0 => .int
  | 1 => .int
  | 2 => .boolean
  | 3 => .int
  | 4 => .int
  | 5 => .int
  | 6 => .array .int
  | 7 => .array .int
  | 8 => .array .int
  | 9 => .array .int
  | _ => .array .int
abbrev wsX60 : List Cond := u_ws RX6 TX6 11
theorem nmX6 : ∀ a, a < 11 → ∀ b, b < 11 → a ≠ b → (TX6 a).2.1 ≠ (TX6 b).2.1 := by decide +kernel
theorem tyX6_ok : ∀ k, k < 11 → parseFieldDescriptor (TX6 k).2.2.1 = some (tyX6 k) := by decide +kernel
abbrev cX6_init : ByteArray := prog_8_method_1_code
def yX6_init : MethodName := ⟨RX6, "<init>", "()V"⟩
abbrev cX6_hasOne : ByteArray := prog_8_method_2_code
def yX6_hasOne : MethodName := ⟨RX6, "hasOne", "(I)Z"⟩
abbrev cX6_addSaying : ByteArray := prog_8_method_3_code
def yX6_addSaying : MethodName := ⟨RX6, "addSaying", "(IIII)V"⟩
abbrev cX6_become : ByteArray := prog_8_method_5_code
def yX6_become : MethodName := ⟨RX6, "become", "(LBackStairs$Talk;)V"⟩
def RX7 : String := "BackStairs$Tape"
def TX7 : u_T := fun k => match k with
  | 0 => ("BackStairs$Tape", "length", "I", false)
  | 1 => ("BackStairs$Tape", "bytes", "[I", true)
  | 2 => ("BackStairs$Tape", "next", "I", false)
  | _ => ("BackStairs$Tape", "place", "I", false)
def tyX7 : Nat → FieldType := fun k => match k with
  | 0 => .int
  | 1 => .array .int
  | 2 => .int
  | _ => .int
abbrev wsX70 : List Cond := u_ws RX7 TX7 4
theorem nmX7 : ∀ a, a < 4 → ∀ b, b < 4 → a ≠ b → (TX7 a).2.1 ≠ (TX7 b).2.1 := by decide +kernel
theorem tyX7_ok : ∀ k, k < 4 → parseFieldDescriptor (TX7 k).2.2.1 = some (tyX7 k) := by decide +kernel
abbrev cX7_init : ByteArray := prog_9_method_1_code
def yX7_init : MethodName := ⟨RX7, "<init>", "()V"⟩
abbrev cX7_add : ByteArray := prog_9_method_2_code
def yX7_add : MethodName := ⟨RX7, "add", "(JI)I"⟩
abbrev cX7_byteOf : ByteArray := prog_9_method_3_code
def yX7_byteOf : MethodName := ⟨RX7, "byteOf", "(JI)I"⟩
abbrev cX7_clear : ByteArray := prog_9_method_4_code
def yX7_clear : MethodName := ⟨RX7, "clear", "()V"⟩
abbrev cX7_readWalk : ByteArray := prog_9_method_5_code
def yX7_readWalk : MethodName := ⟨RX7, "readWalk", "(LBackStairs$House;[I)I"⟩
abbrev cX7_fault : ByteArray := prog_9_method_7_code
def yX7_fault : MethodName := ⟨RX7, "fault", "()I"⟩
abbrev cX7_peek : ByteArray := prog_9_method_8_code
def yX7_peek : MethodName := ⟨RX7, "peek", "()I"⟩
abbrev cX7_letter : ByteArray := prog_9_method_9_code
def yX7_letter : MethodName := ⟨RX7, "letter", "(I)I"⟩
abbrev cX7_number : ByteArray := prog_9_method_10_code
def yX7_number : MethodName := ⟨RX7, "number", "(II)I"⟩
def RX8 : String := "BackStairs$Trips"
def TX8 : u_T := fun k => match k with
  | 0 => ("BackStairs$Trips", "house", "LBackStairs$House;", true)
  | 1 => ("BackStairs$Trips", "fresh", "Z", false)
  | 2 => ("BackStairs$Trips", "guestsIn", "[I", true)
  | 3 => ("BackStairs$Trips", "carry", "[[I", true)
  | 4 => ("BackStairs$Trips", "reached", "[I", true)
  | _ => ("BackStairs$Trips", "useful", "[I", true)
def tyX8 : Nat → FieldType := fun k => match k with
  | 0 => .object "BackStairs$House"
  | 1 => .boolean
  | 2 => .array .int
  | 3 => .array (.array .int)
  | 4 => .array .int
  | _ => .array .int
abbrev wsX80 : List Cond := u_ws RX8 TX8 6
theorem nmX8 : ∀ a, a < 6 → ∀ b, b < 6 → a ≠ b → (TX8 a).2.1 ≠ (TX8 b).2.1 := by decide +kernel
theorem tyX8_ok : ∀ k, k < 6 → parseFieldDescriptor (TX8 k).2.2.1 = some (tyX8 k) := by decide +kernel
abbrev cX8_init : ByteArray := prog_10_method_1_code
def yX8_init : MethodName := ⟨RX8, "<init>", "(LBackStairs$House;)V"⟩
abbrev cX8_prepare : ByteArray := prog_10_method_2_code
def yX8_prepare : MethodName := ⟨RX8, "prepare", "()V"⟩
abbrev cX8_comersInto : ByteArray := prog_10_method_3_code
def yX8_comersInto : MethodName := ⟨RX8, "comersInto", "(II)I"⟩
abbrev cX8_mayBegin : ByteArray := prog_10_method_4_code
def yX8_mayBegin : MethodName := ⟨RX8, "mayBegin", "(IIZ)Z"⟩
abbrev cX8_step : ByteArray := prog_10_method_5_code
def yX8_step : MethodName := ⟨RX8, "step", "(IIZ)I"⟩
abbrev cX8_onward : ByteArray := prog_10_method_6_code
def yX8_onward : MethodName := ⟨RX8, "onward", "(IIZ)I"⟩
abbrev cX8_soonest : ByteArray := prog_10_method_7_code
def yX8_soonest : MethodName := ⟨RX8, "soonest", "(IIIZ)I"⟩
abbrev cX8_roomOnTrip : ByteArray := prog_10_method_8_code
def yX8_roomOnTrip : MethodName := ⟨RX8, "roomOnTrip", "(IIIZI)I"⟩
abbrev cX8_lowest : ByteArray := prog_10_method_9_code
def yX8_lowest : MethodName := ⟨RX8, "lowest", "(I)I"⟩
def RX9 : String := "BackStairs"
def TX9 : u_T := fun k => match k with
  | 0 => ("BackStairs", "house", "LBackStairs$House;", true)
  | 1 => ("BackStairs", "staff", "LBackStairs$Staff;", true)
  | 2 => ("BackStairs", "talk", "LBackStairs$Talk;", true)
  | 3 => ("BackStairs", "keptHouse", "LBackStairs$House;", true)
  | 4 => ("BackStairs", "keptStaff", "LBackStairs$Staff;", true)
  | 5 => ("BackStairs", "keptTalk", "LBackStairs$Talk;", true)
  | 6 => ("BackStairs", "kept", "Z", false)
  | 7 => ("BackStairs", "tape", "LBackStairs$Tape;", true)
  | 8 => ("BackStairs", "sheets", "LBackStairs$Sheets;", true)
  | 9 => ("BackStairs", "trips", "LBackStairs$Trips;", true)
  | 10 => ("BackStairs", "planner", "LBackStairs$Planner;", true)
  | 11 => ("BackStairs", "inquiry", "LBackStairs$Inquiry;", true)
  | 12 => ("BackStairs", "path", "[I", true)
  | _ => ("BackStairs", "clauses", "[[I", true)
def tyX9 : Nat → FieldType := fun k => match k with
  | 0 => .object "BackStairs$House"
  | 1 => .object "BackStairs$Staff"
  | 2 => .object "BackStairs$Talk"
  | 3 => .object "BackStairs$House"
  | 4 => .object "BackStairs$Staff"
  | 5 => .object "BackStairs$Talk"
  | 6 => .boolean
  | 7 => .object "BackStairs$Tape"
  | 8 => .object "BackStairs$Sheets"
  | 9 => .object "BackStairs$Trips"
  | 10 => .object "BackStairs$Planner"
  | 11 => .object "BackStairs$Inquiry"
  | 12 => .array .int
  | _ => .array (.array .int)
abbrev wsX90 : List Cond := u_ws RX9 TX9 14
theorem nmX9 : ∀ a, a < 14 → ∀ b, b < 14 → a ≠ b → (TX9 a).2.1 ≠ (TX9 b).2.1 := by decide +kernel
theorem tyX9_ok : ∀ k, k < 14 → parseFieldDescriptor (TX9 k).2.2.1 = some (tyX9 k) := by decide +kernel
abbrev cX9_init : ByteArray := prog_1_method_1_code
def yX9_init : MethodName := ⟨RX9, "<init>", "()V"⟩
abbrev cX9_room : ByteArray := prog_1_method_2_code
def yX9_room : MethodName := ⟨RX9, "room", "()I"⟩
abbrev cX9_door : ByteArray := prog_1_method_3_code
def yX9_door : MethodName := ⟨RX9, "door", "(III)I"⟩
abbrev cX9_type : ByteArray := prog_1_method_5_code
def yX9_type : MethodName := ⟨RX9, "type", "(JI)I"⟩
abbrev cX9_walk : ByteArray := prog_1_method_6_code
def yX9_walk : MethodName := ⟨RX9, "walk", "()I"⟩
abbrev cX9_guest : ByteArray := prog_1_method_7_code
def yX9_guest : MethodName := ⟨RX9, "guest", "(II)I"⟩
abbrev cX9_trip : ByteArray := prog_1_method_8_code
def yX9_trip : MethodName := ⟨RX9, "trip", "(IIIZI)I"⟩
abbrev cX9_servant : ByteArray := prog_1_method_9_code
def yX9_servant : MethodName := ⟨RX9, "servant", "(I)I"⟩
abbrev cX9_ill : ByteArray := prog_1_method_10_code
def yX9_ill : MethodName := ⟨RX9, "ill", "(IZ)I"⟩
abbrev cX9_cellar : ByteArray := prog_1_method_11_code
def yX9_cellar : MethodName := ⟨RX9, "cellar", "(I)I"⟩
abbrev cX9_errand : ByteArray := prog_1_method_12_code
def yX9_errand : MethodName := ⟨RX9, "errand", "(IIIII)I"⟩
abbrev cX9_drop : ByteArray := prog_1_method_14_code
def yX9_drop : MethodName := ⟨RX9, "drop", "(I)I"⟩
abbrev cX9_cost : ByteArray := prog_1_method_15_code
def yX9_cost : MethodName := ⟨RX9, "cost", "(I)I"⟩
abbrev cX9_folk : ByteArray := prog_1_method_20_code
def yX9_folk : MethodName := ⟨RX9, "folk", "(I)I"⟩
abbrev cX9_say : ByteArray := prog_1_method_21_code
def yX9_say : MethodName := ⟨RX9, "say", "(IIII)I"⟩
abbrev cX9_liars : ByteArray := prog_1_method_24_code
def yX9_liars : MethodName := ⟨RX9, "liars", "()I"⟩
abbrev cX9_maybe : ByteArray := prog_1_method_25_code
def yX9_maybe : MethodName := ⟨RX9, "maybe", "(II)I"⟩
abbrev cX9_theft : ByteArray := prog_1_method_26_code
def yX9_theft : MethodName := ⟨RX9, "theft", "(III)I"⟩
abbrev cX9_suspects : ByteArray := prog_1_method_27_code
def yX9_suspects : MethodName := ⟨RX9, "suspects", "()I"⟩
abbrev cX9_clears : ByteArray := prog_1_method_28_code
def yX9_clears : MethodName := ⟨RX9, "clears", "(I)I"⟩
abbrev cX9_count : ByteArray := prog_1_method_29_code
def yX9_count : MethodName := ⟨RX9, "count", "(I)I"⟩
abbrev cX9_image : ByteArray := prog_1_method_30_code
def yX9_image : MethodName := ⟨RX9, "image", "()I"⟩
abbrev cX9_restore : ByteArray := prog_1_method_31_code
def yX9_restore : MethodName := ⟨RX9, "restore", "()I"⟩
abbrev cX9_isTick : ByteArray := prog_1_method_37_code
def yX9_isTick : MethodName := ⟨RX9, "isTick", "(I)Z"⟩
abbrev cX9_isErrand : ByteArray := prog_1_method_38_code
def yX9_isErrand : MethodName := ⟨RX9, "isErrand", "(IIIII)Z"⟩
abbrev cX9_doorsChanged : ByteArray := prog_1_method_39_code
def yX9_doorsChanged : MethodName := ⟨RX9, "doorsChanged", "()V"⟩
abbrev cX9_plansChanged : ByteArray := prog_1_method_40_code
def yX9_plansChanged : MethodName := ⟨RX9, "plansChanged", "()V"⟩
def RX10 : String := "BackStairsModel"
def TX10 : u_T := fun k => match k with
  | _ => ("", "", "", false)
def tyX10 : Nat → FieldType := fun k => match k with
  | _ => .int
abbrev wsX100 : List Cond := u_ws RX10 TX10 0
theorem nmX10 : ∀ a, a < 0 → ∀ b, b < 0 → a ≠ b → (TX10 a).2.1 ≠ (TX10 b).2.1 := by decide +kernel
theorem tyX10_ok : ∀ k, k < 0 → parseFieldDescriptor (TX10 k).2.2.1 = some (tyX10 k) := by decide +kernel
def RJ6 : String := "java/lang/Integer"
def TJ6 : u_T := fun k => match k with
  | _ => ("", "", "", false)
def tyJ6 : Nat → FieldType := fun k => match k with
  | _ => .int
abbrev wsJ60 : List Cond := u_ws RJ6 TJ6 0
theorem nmJ6 : ∀ a, a < 0 → ∀ b, b < 0 → a ≠ b → (TJ6 a).2.1 ≠ (TJ6 b).2.1 := by decide +kernel
theorem tyJ6_ok : ∀ k, k < 0 → parseFieldDescriptor (TJ6 k).2.2.1 = some (tyJ6 k) := by decide +kernel
abbrev cJ6_bitCount_0f7a4 : ByteArray := prog_13_method_49_code
def yJ6_bitCount_0f7a4 : MethodName := ⟨RJ6, "bitCount", "(I)I"⟩
def RJ9 : String := "java/lang/Math"
def TJ9 : u_T := fun k => match k with
  | _ => ("", "", "", false)
def tyJ9 : Nat → FieldType := fun k => match k with
  | _ => .int
abbrev wsJ90 : List Cond := u_ws RJ9 TJ9 0
theorem nmJ9 : ∀ a, a < 0 → ∀ b, b < 0 → a ≠ b → (TJ9 a).2.1 ≠ (TJ9 b).2.1 := by decide +kernel
theorem tyJ9_ok : ∀ k, k < 0 → parseFieldDescriptor (TJ9 k).2.2.1 = some (tyJ9 k) := by decide +kernel
abbrev cJ9_max_7cf53 : ByteArray := prog_14_method_65_code
def yJ9_max_7cf53 : MethodName := ⟨RJ9, "max", "(II)I"⟩
abbrev cJ9_min_7cf53 : ByteArray := prog_14_method_69_code
def yJ9_min_7cf53 : MethodName := ⟨RJ9, "min", "(II)I"⟩
def RJ10 : String := "java/lang/System"
def TJ10 : u_T := fun k => match k with
  | _ => ("", "", "", false)
def tyJ10 : Nat → FieldType := fun k => match k with
  | _ => .int
abbrev wsJ100 : List Cond := u_ws RJ10 TJ10 0
theorem nmJ10 : ∀ a, a < 0 → ∀ b, b < 0 → a ≠ b → (TJ10 a).2.1 ≠ (TJ10 b).2.1 := by decide +kernel
theorem tyJ10_ok : ∀ k, k < 0 → parseFieldDescriptor (TJ10 k).2.2.1 = some (tyJ10 k) := by decide +kernel
def RJ7 : String := "java/util/Arrays"
def TJ7 : u_T := fun k => match k with
  | _ => ("", "", "", false)
def tyJ7 : Nat → FieldType := fun k => match k with
  | _ => .int
abbrev wsJ70 : List Cond := u_ws RJ7 TJ7 0
theorem nmJ7 : ∀ a, a < 0 → ∀ b, b < 0 → a ≠ b → (TJ7 a).2.1 ≠ (TJ7 b).2.1 := by decide +kernel
theorem tyJ7_ok : ∀ k, k < 0 → parseFieldDescriptor (TJ7 k).2.2.1 = some (tyJ7 k) := by decide +kernel
abbrev cJ7_rangeCheck_23922 : ByteArray := prog_16_method_30_code
def yJ7_rangeCheck_23922 : MethodName := ⟨RJ7, "rangeCheck", "(III)V"⟩
abbrev cJ7_fill_53178 : ByteArray := prog_16_method_103_code
def yJ7_fill_53178 : MethodName := ⟨RJ7, "fill", "([II)V"⟩
abbrev cJ7_fill_fda19 : ByteArray := prog_16_method_104_code
def yJ7_fill_fda19 : MethodName := ⟨RJ7, "fill", "([IIII)V"⟩
def RL : String := "BackStairsLaw"
abbrev cL_cell : ByteArray := method_2_code
def yL_cell : MethodName := ⟨RL, "cell", "([II)I"⟩
abbrev cL_lays : ByteArray := method_3_code
def yL_lays : MethodName := ⟨RL, "lays", "(LBackStairs;[I)I"⟩
abbrev cL_door : ByteArray := method_4_code
def yL_door : MethodName := ⟨RL, "door", "([IIII)I"⟩
abbrev cL_walks : ByteArray := method_5_code
def yL_walks : MethodName := ⟨RL, "walks", "(LBackStairs;[II[I)I"⟩
abbrev cL_hires : ByteArray := method_6_code
def yL_hires : MethodName := ⟨RL, "hires", "(LBackStairs;[II)I"⟩
abbrev cL_law : ByteArray := code
def yL_law : MethodName := ⟨RL, "law", "([I)Z"⟩
abbrev vwCl : List vw_C := [(RX0, TX0, 8), (RX1, TX1, 3), (RX2, TX2, 5), (RX3, TX3, 12), (RX4, TX4, 3), (RX5, TX5, 10), (RX6, TX6, 11), (RX7, TX7, 4), (RX8, TX8, 6), (RX9, TX9, 14)]
