/-! constants -/
theorem cb_m2 : (Int8.ofInt (-2)).toInt32 = (-2) := by decide
theorem cb_m20 : (Int8.ofInt (-20)).toInt32 = (-20) := by decide
theorem cb_m3 : (Int8.ofInt (-3)).toInt32 = (-3) := by decide
theorem cb_m4 : (Int8.ofInt (-4)).toInt32 = (-4) := by decide
theorem cb_10 : (Int8.ofInt (10)).toInt32 = nI 10 := by decide
theorem cb_12 : (Int8.ofInt (12)).toInt32 = nI 12 := by decide
theorem cb_120 : (Int8.ofInt (120)).toInt32 = nI 120 := by decide
theorem cb_126 : (Int8.ofInt (126)).toInt32 = nI 126 := by decide
theorem cb_16 : (Int8.ofInt (16)).toInt32 = nI 16 := by decide
theorem cb_23 : (Int8.ofInt (23)).toInt32 = nI 23 := by decide
theorem cb_24 : (Int8.ofInt (24)).toInt32 = nI 24 := by decide
theorem cb_32 : (Int8.ofInt (32)).toInt32 = nI 32 := by decide
theorem cb_48 : (Int8.ofInt (48)).toInt32 = nI 48 := by decide
theorem cb_57 : (Int8.ofInt (57)).toInt32 = nI 57 := by decide
theorem cb_63 : (Int8.ofInt (63)).toInt32 = nI 63 := by decide
theorem cb_8 : (Int8.ofInt (8)).toInt32 = nI 8 := by decide
theorem cb_80 : (Int8.ofInt (80)).toInt32 = nI 80 := by decide
theorem cb_9 : (Int8.ofInt (9)).toInt32 = nI 9 := by decide
theorem cb_97 : (Int8.ofInt (97)).toInt32 = nI 97 := by decide
theorem ci_m1 : Int32.ofInt (-1) = (-1) := by decide
theorem ci_0 : Int32.ofInt (0) = nI 0 := by decide
theorem ci_1 : Int32.ofInt (1) = nI 1 := by decide
theorem ci_2 : Int32.ofInt (2) = nI 2 := by decide
theorem ci_3 : Int32.ofInt (3) = nI 3 := by decide
theorem ci_4 : Int32.ofInt (4) = nI 4 := by decide
theorem ci_5 : Int32.ofInt (5) = nI 5 := by decide
theorem ii_m1 (x : Int32) : x + Int32.ofInt (-1) = x + (-1) := congrArg (fun z => x + z) (by decide)
theorem ii_1 (x : Int32) : x + Int32.ofInt (1) = x + nI 1 := congrArg (fun z => x + z) (by decide)
theorem cs_1000 : (Int16.ofInt (1000)).toInt32 = nI 1000 := by decide
theorem cs_255 : (Int16.ofInt (255)).toInt32 = nI 255 := by decide
theorem sw_out8 {x : Int32} (h0 : ¬ x = nI 0) (h1 : ¬ x = nI 1) (h2 : ¬ x = nI 2) (h3 : ¬ x = nI 3) (h4 : ¬ x = nI 4) (h5 : ¬ x = nI 5) (h6 : ¬ x = nI 6) (h7 : ¬ x = nI 7) : x.toInt < 0 ∨ 7 < x.toInt := by
  have g0 : ¬ x.toInt = 0 := lv_neT h0 rfl
  have g1 : ¬ x.toInt = 1 := lv_neT h1 rfl
  have g2 : ¬ x.toInt = 2 := lv_neT h2 rfl
  have g3 : ¬ x.toInt = 3 := lv_neT h3 rfl
  have g4 : ¬ x.toInt = 4 := lv_neT h4 rfl
  have g5 : ¬ x.toInt = 5 := lv_neT h5 rfl
  have g6 : ¬ x.toInt = 6 := lv_neT h6 rfl
  have g7 : ¬ x.toInt = 7 := lv_neT h7 rfl
  omega
def C_X9_room (M : Mem)  (Q : Int32 → Mem → Prop) : Prop := CA 4 mdX9_room [.ref 0] M (qI Q)
def C_X9_doorsChanged (M : Mem)  (Q : Mem → Prop) : Prop := CA 3 mdX9_doorsChanged [.ref 0] M (qV Q)
def C_X0_measure_1 (M : Mem)  (Q : Mem → Prop) : Prop := CA 2 mdX0_measure [.ref 1] M (qV Q)
def P_X0_measure_1_2 (M : Mem) (a1 : Int32) (Q : Mem → Prop) : Prop := PS 2 mdX0_measure 2 [(0, .ref 1), (1, .int a1)] [] M (qV Q)
def C_X0_measureFrom_1 (M : Mem) (a1 : Int32) (a2 : Int32) (c3 : Nat) (Q : Mem → Prop) : Prop := CA 1 mdX0_measureFrom [.ref 1, .int a1, .int a2, .ref c3] M (qV Q)
def P_X0_measureFrom_1_17 (M : Mem) (a2 : Int32) (c3 : Nat) (a4 : Int32) (a5 : Int32) (a6 : Int32) (Q : Mem → Prop) : Prop := PS 1 mdX0_measureFrom 17 [(0, .ref 1), (2, .int a2), (3, .ref c3), (4, .int a4), (5, .int a5), (6, .int a6)] [] M (qV Q)
def P_X0_measureFrom_1_35 (M : Mem) (a2 : Int32) (c3 : Nat) (a4 : Int32) (a5 : Int32) (a6 : Int32) (a7 : Int32) (a8 : Int32) (Q : Mem → Prop) : Prop := PS 1 mdX0_measureFrom 35 [(0, .ref 1), (2, .int a2), (3, .ref c3), (4, .int a4), (5, .int a5), (6, .int a6), (7, .int a7), (8, .int a8)] [] M (qV Q)
def C_J7_fill_53178 (M : Mem) (c0 : Nat) (a1 : Int32) (Q : Mem → Prop) : Prop := CA 0 mdJ7_fill_53178 [.ref c0, .int a1] M (qV Q)
def P_J7_fill_53178_5 (M : Mem) (c0 : Nat) (a1 : Int32) (a2 : Int32) (a3 : Int32) (Q : Mem → Prop) : Prop := PS 0 mdJ7_fill_53178 5 [(0, .ref c0), (1, .int a1), (2, .int a2), (3, .int a3)] [] M (qV Q)
def C_X0_around_1 (M : Mem) (a1 : Int32) (a2 : Int32) (Q : Int32 → Mem → Prop) : Prop := CA 0 mdX0_around [.ref 1, .int a1, .int a2] M (qI Q)
def C_X9_plansChanged (M : Mem)  (Q : Mem → Prop) : Prop := CA 0 mdX9_plansChanged [.ref 0] M (qV Q)
def C_X9_door (M : Mem) (a1 : Int32) (a2 : Int32) (a3 : Int32) (Q : Int32 → Mem → Prop) : Prop := CA 4 mdX9_door [.ref 0, .int a1, .int a2, .int a3] M (qI Q)
def C_X0_arePair_1 (M : Mem) (a1 : Int32) (a2 : Int32) (Q : Int32 → Mem → Prop) : Prop := CA 1 mdX0_arePair [.ref 1, .int a1, .int a2] M (qI Q)
def C_X0_hasRoom_1 (M : Mem) (a1 : Int32) (Q : Int32 → Mem → Prop) : Prop := CA 0 mdX0_hasRoom [.ref 1, .int a1] M (qI Q)
def C_X0_doorKind_1 (M : Mem) (a1 : Int32) (a2 : Int32) (Q : Int32 → Mem → Prop) : Prop := CA 0 mdX0_doorKind [.ref 1, .int a1, .int a2] M (qI Q)
def C_X0_putDoor_1 (M : Mem) (a1 : Int32) (a2 : Int32) (a3 : Int32) (Q : Mem → Prop) : Prop := CA 0 mdX0_putDoor [.ref 1, .int a1, .int a2, .int a3] M (qV Q)
def C_X9_type (M : Mem) (a1 : Int64) (a3 : Int32) (Q : Int32 → Mem → Prop) : Prop := CA 2 mdX9_type [.ref 0, .long a1, .int a3] M (qI Q)
def C_X7_add (M : Mem) (a1 : Int64) (a3 : Int32) (Q : Int32 → Mem → Prop) : Prop := CA 1 mdX7_add [.ref 85, .long a1, .int a3] M (qI Q)
def P_X7_add_16 (M : Mem) (a1 : Int64) (a3 : Int32) (a4 : Int32) (Q : Int32 → Mem → Prop) : Prop := PS 1 mdX7_add 16 [(0, .ref 85), (1, .long a1), (3, .int a3), (4, .int a4)] [] M (qI Q)
def P_X7_add_71 (M : Mem) (a1 : Int64) (a4 : Int32) (Q : Int32 → Mem → Prop) : Prop := PS 1 mdX7_add 71 [(0, .ref 85), (1, .long a1), (4, .int a4)] [] M (qI Q)
def C_X7_byteOf (M : Mem) (a0 : Int64) (a2 : Int32) (Q : Int32 → Mem → Prop) : Prop := CA 0 mdX7_byteOf [.long a0, .int a2] M (qI Q)
def C_X9_walk (M : Mem)  (Q : Int32 → Mem → Prop) : Prop := CA 3 mdX9_walk [.ref 0] M (qI Q)
def C_X7_readWalk_1 (M : Mem) (c2 : Nat) (Q : Int32 → Mem → Prop) : Prop := CA 2 mdX7_readWalk [.ref 85, .ref 1, .ref c2] M (qI Q)
def P_X7_readWalk_1_13 (M : Mem) (c2 : Nat) (a3 : Int32) (a4 : Int32) (a5 : Int32) (Q : Int32 → Mem → Prop) : Prop := PS 2 mdX7_readWalk 13 [(0, .ref 85), (1, .ref 1), (2, .ref c2), (3, .int a3), (4, .int a4), (5, .int a5)] [] M (qI Q)
def C_X7_fault (M : Mem)  (Q : Int32 → Mem → Prop) : Prop := CA 0 mdX7_fault [.ref 85] M (qI Q)
def C_X7_letter (M : Mem) (a1 : Int32) (Q : Int32 → Mem → Prop) : Prop := CA 1 mdX7_letter [.ref 85, .int a1] M (qI Q)
def C_X7_peek (M : Mem)  (Q : Int32 → Mem → Prop) : Prop := CA 0 mdX7_peek [.ref 85] M (qI Q)
def P_X7_peek_0 (M : Mem)  (Q : Int32 → Mem → Prop) : Prop := PS 0 mdX7_peek 0 [(0, .ref 85)] [] M (qI Q)
def C_X7_number (M : Mem) (a1 : Int32) (a2 : Int32) (Q : Int32 → Mem → Prop) : Prop := CA 1 mdX7_number [.ref 85, .int a1, .int a2] M (qI Q)
def P_X7_number_7 (M : Mem) (a1 : Int32) (a2 : Int32) (a3 : Int32) (Q : Int32 → Mem → Prop) : Prop := PS 1 mdX7_number 7 [(0, .ref 85), (1, .int a1), (2, .int a2), (3, .int a3)] [] M (qI Q)
def C_J7_fill_fda19 (M : Mem) (c0 : Nat) (a1 : Int32) (a2 : Int32) (a3 : Int32) (Q : Mem → Prop) : Prop := CA 1 mdJ7_fill_fda19 [.ref c0, .int a1, .int a2, .int a3] M (qV Q)
def P_J7_fill_fda19_10 (M : Mem) (c0 : Nat) (a2 : Int32) (a3 : Int32) (a4 : Int32) (Q : Mem → Prop) : Prop := PS 1 mdJ7_fill_fda19 10 [(0, .ref c0), (2, .int a2), (3, .int a3), (4, .int a4)] [] M (qV Q)
def C_J7_rangeCheck_23922 (M : Mem) (a0 : Int32) (a1 : Int32) (a2 : Int32) (Q : Mem → Prop) : Prop := CA 0 mdJ7_rangeCheck_23922 [.int a0, .int a1, .int a2] M (qV Q)
def C_X7_clear (M : Mem)  (Q : Mem → Prop) : Prop := CA 0 mdX7_clear [.ref 85] M (qV Q)
def C_X9_guest (M : Mem) (a1 : Int32) (a2 : Int32) (Q : Int32 → Mem → Prop) : Prop := CA 1 mdX9_guest [.ref 0, .int a1, .int a2] M (qI Q)
def C_X9_isTick (M : Mem) (a0 : Int32) (Q : Int32 → Mem → Prop) : Prop := CA 0 mdX9_isTick [.int a0] M (qI Q)
def C_X9_trip (M : Mem) (a1 : Int32) (a2 : Int32) (a3 : Int32) (a4 : Int32) (a5 : Int32) (Q : Int32 → Mem → Prop) : Prop := CA 4 mdX9_trip [.ref 0, .int a1, .int a2, .int a3, .int a4, .int a5] M (qI Q)
def C_X8_soonest (M : Mem) (a1 : Int32) (a2 : Int32) (a3 : Int32) (a4 : Int32) (Q : Int32 → Mem → Prop) : Prop := CA 3 mdX8_soonest [.ref 95, .int a1, .int a2, .int a3, .int a4] M (qI Q)
def P_X8_soonest_30 (M : Mem) (a3 : Int32) (a4 : Int32) (a5 : Int32) (Q : Int32 → Mem → Prop) : Prop := PS 3 mdX8_soonest 30 [(0, .ref 95), (3, .int a3), (4, .int a4), (5, .int a5)] [] M (qI Q)
def C_X8_prepare (M : Mem)  (Q : Mem → Prop) : Prop := CA 1 mdX8_prepare [.ref 95] M (qV Q)
def P_X8_prepare_18 (M : Mem) (a1 : Int32) (Q : Mem → Prop) : Prop := PS 1 mdX8_prepare 18 [(0, .ref 95), (1, .int a1)] [] M (qV Q)
def P_X8_prepare_31 (M : Mem) (a1 : Int32) (a2 : Int32) (Q : Mem → Prop) : Prop := PS 1 mdX8_prepare 31 [(0, .ref 95), (1, .int a1), (2, .int a2)] [] M (qV Q)
def P_X8_prepare_73 (M : Mem) (a1 : Int32) (Q : Mem → Prop) : Prop := PS 1 mdX8_prepare 73 [(0, .ref 95), (1, .int a1)] [] M (qV Q)
def P_X8_prepare_81 (M : Mem) (a1 : Int32) (a2 : Int32) (Q : Mem → Prop) : Prop := PS 1 mdX8_prepare 81 [(0, .ref 95), (1, .int a1), (2, .int a2)] [] M (qV Q)
def C_X8_comersInto (M : Mem) (a1 : Int32) (a2 : Int32) (Q : Int32 → Mem → Prop) : Prop := CA 0 mdX8_comersInto [.ref 95, .int a1, .int a2] M (qI Q)
def P_X8_comersInto_5 (M : Mem) (a1 : Int32) (a2 : Int32) (a3 : Int32) (a4 : Int32) (Q : Int32 → Mem → Prop) : Prop := PS 0 mdX8_comersInto 5 [(0, .ref 95), (1, .int a1), (2, .int a2), (3, .int a3), (4, .int a4)] [] M (qI Q)
def C_X8_mayBegin (M : Mem) (a1 : Int32) (a2 : Int32) (a3 : Int32) (Q : Int32 → Mem → Prop) : Prop := CA 0 mdX8_mayBegin [.ref 95, .int a1, .int a2, .int a3] M (qI Q)
def C_X8_onward (M : Mem) (a1 : Int32) (a2 : Int32) (a3 : Int32) (Q : Int32 → Mem → Prop) : Prop := CA 2 mdX8_onward [.ref 95, .int a1, .int a2, .int a3] M (qI Q)
def P_X8_onward_6 (M : Mem) (a1 : Int32) (a2 : Int32) (a3 : Int32) (a4 : Int32) (a5 : Int32) (Q : Int32 → Mem → Prop) : Prop := PS 2 mdX8_onward 6 [(0, .ref 95), (1, .int a1), (2, .int a2), (3, .int a3), (4, .int a4), (5, .int a5)] [] M (qI Q)
def C_X8_step (M : Mem) (a1 : Int32) (a2 : Int32) (a3 : Int32) (Q : Int32 → Mem → Prop) : Prop := CA 1 mdX8_step [.ref 95, .int a1, .int a2, .int a3] M (qI Q)
def C_X8_roomOnTrip (M : Mem) (a1 : Int32) (a2 : Int32) (a3 : Int32) (a4 : Int32) (a5 : Int32) (Q : Int32 → Mem → Prop) : Prop := CA 2 mdX8_roomOnTrip [.ref 95, .int a1, .int a2, .int a3, .int a4, .int a5] M (qI Q)
def P_X8_roomOnTrip_5 (M : Mem) (a1 : Int32) (a2 : Int32) (a4 : Int32) (a5 : Int32) (a6 : Int32) (Q : Int32 → Mem → Prop) : Prop := PS 2 mdX8_roomOnTrip 5 [(0, .ref 95), (1, .int a1), (2, .int a2), (4, .int a4), (5, .int a5), (6, .int a6)] [] M (qI Q)
def P_X8_roomOnTrip_22 (M : Mem) (a1 : Int32) (a2 : Int32) (a4 : Int32) (a5 : Int32) (a6 : Int32) (a7 : Int32) (Q : Int32 → Mem → Prop) : Prop := PS 2 mdX8_roomOnTrip 22 [(0, .ref 95), (1, .int a1), (2, .int a2), (4, .int a4), (5, .int a5), (6, .int a6), (7, .int a7)] [] M (qI Q)
def P_X8_roomOnTrip_104 (M : Mem) (a4 : Int32) (a5 : Int32) (a6 : Int32) (a7 : Int32) (Q : Int32 → Mem → Prop) : Prop := PS 2 mdX8_roomOnTrip 104 [(0, .ref 95), (4, .int a4), (5, .int a5), (6, .int a6), (7, .int a7)] [] M (qI Q)
def C_X8_lowest (M : Mem) (a1 : Int32) (Q : Int32 → Mem → Prop) : Prop := CA 0 mdX8_lowest [.ref 95, .int a1] M (qI Q)
def P_X8_lowest_2 (M : Mem) (a1 : Int32) (a2 : Int32) (Q : Int32 → Mem → Prop) : Prop := PS 0 mdX8_lowest 2 [(1, .int a1), (2, .int a2)] [] M (qI Q)
def C_X9_servant (M : Mem) (a1 : Int32) (Q : Int32 → Mem → Prop) : Prop := CA 1 mdX9_servant [.ref 0, .int a1] M (qI Q)
def C_X9_ill (M : Mem) (a1 : Int32) (a2 : Int32) (Q : Int32 → Mem → Prop) : Prop := CA 1 mdX9_ill [.ref 0, .int a1, .int a2] M (qI Q)
def C_X5_hasServant_30 (M : Mem) (a1 : Int32) (Q : Int32 → Mem → Prop) : Prop := CA 0 mdX5_hasServant [.ref 30, .int a1] M (qI Q)
def C_X9_cellar (M : Mem) (a1 : Int32) (Q : Int32 → Mem → Prop) : Prop := CA 1 mdX9_cellar [.ref 0, .int a1] M (qI Q)
def C_X9_errand (M : Mem) (a1 : Int32) (a2 : Int32) (a3 : Int32) (a4 : Int32) (a5 : Int32) (Q : Int32 → Mem → Prop) : Prop := CA 2 mdX9_errand [.ref 0, .int a1, .int a2, .int a3, .int a4, .int a5] M (qI Q)
def C_X9_isErrand (M : Mem) (a1 : Int32) (a2 : Int32) (a3 : Int32) (a4 : Int32) (a5 : Int32) (Q : Int32 → Mem → Prop) : Prop := CA 1 mdX9_isErrand [.ref 0, .int a1, .int a2, .int a3, .int a4, .int a5] M (qI Q)
def C_X5_addErrand_30 (M : Mem) (a1 : Int32) (a2 : Int32) (a3 : Int32) (a4 : Int32) (a5 : Int32) (Q : Mem → Prop) : Prop := CA 0 mdX5_addErrand [.ref 30, .int a1, .int a2, .int a3, .int a4, .int a5] M (qV Q)
def C_X9_drop (M : Mem) (a1 : Int32) (Q : Int32 → Mem → Prop) : Prop := CA 1 mdX9_drop [.ref 0, .int a1] M (qI Q)
def C_X5_hasErrand_30 (M : Mem) (a1 : Int32) (Q : Int32 → Mem → Prop) : Prop := CA 0 mdX5_hasErrand [.ref 30, .int a1] M (qI Q)
def C_X5_removeErrand_30 (M : Mem) (a1 : Int32) (Q : Mem → Prop) : Prop := CA 0 mdX5_removeErrand [.ref 30, .int a1] M (qV Q)
def P_X5_removeErrand_30_12 (M : Mem) (a2 : Int32) (Q : Mem → Prop) : Prop := PS 0 mdX5_removeErrand 12 [(0, .ref 30), (2, .int a2)] [] M (qV Q)
def C_X9_cost (M : Mem) (a1 : Int32) (Q : Int32 → Mem → Prop) : Prop := CA 7 mdX9_cost [.ref 0, .int a1] M (qI Q)
def C_X5_well_30 (M : Mem)  (Q : Int32 → Mem → Prop) : Prop := CA 0 mdX5_well [.ref 30] M (qI Q)
def C_X3_prepare (M : Mem)  (Q : Mem → Prop) : Prop := CA 6 mdX3_prepare [.ref 124] M (qV Q)
def P_X3_prepare_17 (M : Mem) (a1 : Int32) (Q : Mem → Prop) : Prop := PS 6 mdX3_prepare 17 [(0, .ref 124), (1, .int a1)] [] M (qV Q)
def P_X3_prepare_44 (M : Mem) (a1 : Int32) (a2 : Int32) (Q : Mem → Prop) : Prop := PS 6 mdX3_prepare 44 [(0, .ref 124), (1, .int a1), (2, .int a2)] [] M (qV Q)
def C_X3_fillEnds (M : Mem) (a1 : Int32) (Q : Mem → Prop) : Prop := CA 3 mdX3_fillEnds [.ref 124, .int a1] M (qV Q)
def P_X3_fillEnds_52 (M : Mem) (c2 : Nat) (a3 : Int32) (a4 : Int32) (a5 : Int32) (Q : Mem → Prop) : Prop := PS 3 mdX3_fillEnds 52 [(0, .ref 124), (2, .ref c2), (3, .int a3), (4, .int a4), (5, .int a5)] [] M (qV Q)
def P_X3_fillEnds_75 (M : Mem) (c2 : Nat) (a3 : Int32) (a4 : Int32) (a5 : Int32) (a6 : Int32) (a7 : Int32) (Q : Mem → Prop) : Prop := PS 3 mdX3_fillEnds 75 [(0, .ref 124), (2, .ref c2), (3, .int a3), (4, .int a4), (5, .int a5), (6, .int a6), (7, .int a7)] [] M (qV Q)
def C_X3_makeBest (M : Mem) (a1 : Int32) (Q : Mem → Prop) : Prop := CA 5 mdX3_makeBest [.ref 124, .int a1] M (qV Q)
def P_X3_makeBest_22 (M : Mem) (a2 : Int32) (a3 : Int32) (a4 : Int32) (Q : Mem → Prop) : Prop := PS 5 mdX3_makeBest 22 [(0, .ref 124), (2, .int a2), (3, .int a3), (4, .int a4)] [] M (qV Q)
def P_X3_makeBest_64 (M : Mem) (a2 : Int32) (a4 : Int32) (Q : Mem → Prop) : Prop := PS 5 mdX3_makeBest 64 [(0, .ref 124), (2, .int a2), (4, .int a4)] [] M (qV Q)
def C_X3_leastWith (M : Mem) (a1 : Int32) (Q : Int32 → Mem → Prop) : Prop := CA 2 mdX3_leastWith [.ref 124, .int a1] M (qI Q)
def P_X3_leastWith_4 (M : Mem) (a1 : Int32) (a2 : Int32) (a3 : Int32) (Q : Int32 → Mem → Prop) : Prop := PS 2 mdX3_leastWith 4 [(0, .ref 124), (1, .int a1), (2, .int a2), (3, .int a3)] [] M (qI Q)
def P_X3_leastWith_31 (M : Mem) (a1 : Int32) (a2 : Int32) (a3 : Int32) (a4 : Int32) (Q : Int32 → Mem → Prop) : Prop := PS 2 mdX3_leastWith 31 [(0, .ref 124), (1, .int a1), (2, .int a2), (3, .int a3), (4, .int a4)] [] M (qI Q)
def C_X3_costOf (M : Mem) (a1 : Int32) (a2 : Int32) (Q : Int32 → Mem → Prop) : Prop := CA 1 mdX3_costOf [.ref 124, .int a1, .int a2] M (qI Q)
def P_X3_costOf_21 (M : Mem) (a2 : Int32) (a3 : Int32) (a4 : Int32) (Q : Int32 → Mem → Prop) : Prop := PS 1 mdX3_costOf 21 [(0, .ref 124), (2, .int a2), (3, .int a3), (4, .int a4)] [] M (qI Q)
def P_X3_costOf_73 (M : Mem) (a4 : Int32) (a5 : Int32) (Q : Int32 → Mem → Prop) : Prop := PS 1 mdX3_costOf 73 [(0, .ref 124), (4, .int a4), (5, .int a5)] [] M (qI Q)
def C_X3_firstOrder (M : Mem) (c1 : Nat) (Q : Mem → Prop) : Prop := CA 0 mdX3_firstOrder [.ref 124, .ref c1] M (qV Q)
def P_X3_firstOrder_2 (M : Mem) (c1 : Nat) (a2 : Int32) (Q : Mem → Prop) : Prop := PS 0 mdX3_firstOrder 2 [(1, .ref c1), (2, .int a2)] [] M (qV Q)
def C_X3_follow_125 (M : Mem)  (Q : Mem → Prop) : Prop := CA 4 mdX3_follow [.ref 124, .ref 125] M (qV Q)
def P_X3_follow_125_11 (M : Mem) (a2 : Int32) (Q : Mem → Prop) : Prop := PS 4 mdX3_follow 11 [(0, .ref 124), (1, .ref 125), (2, .int a2)] [] M (qV Q)
def C_X3_allHome (M : Mem)  (Q : Mem → Prop) : Prop := CA 0 mdX3_allHome [.ref 124] M (qV Q)
def P_X3_allHome_2 (M : Mem) (a1 : Int32) (Q : Mem → Prop) : Prop := PS 0 mdX3_allHome 2 [(0, .ref 124), (1, .int a1)] [] M (qV Q)
def C_X3_carryOut_125 (M : Mem) (a2 : Int32) (Q : Mem → Prop) : Prop := CA 3 mdX3_carryOut [.ref 124, .ref 125, .int a2] M (qV Q)
def C_X3_doneAt (M : Mem) (a1 : Int32) (a2 : Int32) (a3 : Int32) (Q : Int32 → Mem → Prop) : Prop := CA 2 mdX3_doneAt [.ref 124, .int a1, .int a2, .int a3] M (qI Q)
def C_X3_takenAt (M : Mem) (a1 : Int32) (a2 : Int32) (a3 : Int32) (Q : Int32 → Mem → Prop) : Prop := CA 1 mdX3_takenAt [.ref 124, .int a1, .int a2, .int a3] M (qI Q)
def P_X3_takenAt_48 (M : Mem) (a5 : Int32) (a6 : Int32) (Q : Int32 → Mem → Prop) : Prop := PS 1 mdX3_takenAt 48 [(0, .ref 124), (5, .int a5), (6, .int a6)] [] M (qI Q)
def C_X5_weight_30 (M : Mem) (a1 : Int32) (a2 : Int32) (Q : Int32 → Mem → Prop) : Prop := CA 1 mdX5_weight [.ref 30, .int a1, .int a2] M (qI Q)
def C_X3_nextOrder (M : Mem) (c1 : Nat) (Q : Int32 → Mem → Prop) : Prop := CA 1 mdX3_nextOrder [.ref 124, .ref c1] M (qI Q)
def P_X3_nextOrder_12 (M : Mem) (c1 : Nat) (a2 : Int32) (a3 : Int32) (Q : Int32 → Mem → Prop) : Prop := PS 1 mdX3_nextOrder 12 [(0, .ref 124), (1, .ref c1), (2, .int a2), (3, .int a3)] [] M (qI Q)
def P_X3_nextOrder_44 (M : Mem) (c1 : Nat) (a2 : Int32) (a3 : Int32) (a4 : Int32) (Q : Int32 → Mem → Prop) : Prop := PS 1 mdX3_nextOrder 44 [(0, .ref 124), (1, .ref c1), (2, .int a2), (3, .int a3), (4, .int a4)] [] M (qI Q)
def P_X3_nextOrder_84 (M : Mem) (c1 : Nat) (a5 : Int32) (a6 : Int32) (Q : Int32 → Mem → Prop) : Prop := PS 1 mdX3_nextOrder 84 [(0, .ref 124), (1, .ref c1), (5, .int a5), (6, .int a6)] [] M (qI Q)
def C_X3_swap (M : Mem) (c1 : Nat) (a2 : Int32) (a3 : Int32) (Q : Mem → Prop) : Prop := CA 0 mdX3_swap [.ref 124, .ref c1, .int a2, .int a3] M (qV Q)
def C_X3_makeRule (M : Mem) (a1 : Int32) (Q : Mem → Prop) : Prop := CA 4 mdX3_makeRule [.ref 124, .int a1] M (qV Q)
def P_X3_makeRule_13 (M : Mem) (a1 : Int32) (a2 : Int32) (Q : Mem → Prop) : Prop := PS 4 mdX3_makeRule 13 [(0, .ref 124), (1, .int a1), (2, .int a2)] [] M (qV Q)
def P_X3_makeRule_26 (M : Mem) (a1 : Int32) (a2 : Int32) (a3 : Int32) (Q : Mem → Prop) : Prop := PS 4 mdX3_makeRule 26 [(0, .ref 124), (1, .int a1), (2, .int a2), (3, .int a3)] [] M (qV Q)
def P_X3_makeRule_98 (M : Mem) (a1 : Int32) (a2 : Int32) (Q : Mem → Prop) : Prop := PS 4 mdX3_makeRule 98 [(0, .ref 124), (1, .int a1), (2, .int a2)] [] M (qV Q)
def C_X3_isAhead (M : Mem) (a1 : Int32) (a2 : Int32) (Q : Int32 → Mem → Prop) : Prop := CA 0 mdX3_isAhead [.ref 124, .int a1, .int a2] M (qI Q)
def C_X3_soonestFor (M : Mem) (a1 : Int32) (a2 : Int32) (Q : Int32 → Mem → Prop) : Prop := CA 3 mdX3_soonestFor [.ref 124, .int a1, .int a2] M (qI Q)
def P_X3_soonestFor_9 (M : Mem) (a1 : Int32) (a2 : Int32) (a3 : Int32) (a4 : Int32) (a5 : Int32) (Q : Int32 → Mem → Prop) : Prop := PS 3 mdX3_soonestFor 9 [(0, .ref 124), (1, .int a1), (2, .int a2), (3, .int a3), (4, .int a4), (5, .int a5)] [] M (qI Q)
def C_X3_carryOut_130 (M : Mem) (a2 : Int32) (Q : Mem → Prop) : Prop := CA 3 mdX3_carryOut [.ref 124, .ref 130, .int a2] M (qV Q)
def C_X3_fillLeast (M : Mem) (a1 : Int32) (Q : Mem → Prop) : Prop := CA 3 mdX3_fillLeast [.ref 124, .int a1] M (qV Q)
def P_X3_fillLeast_33 (M : Mem) (a1 : Int32) (c2 : Nat) (c3 : Nat) (a4 : Int32) (Q : Mem → Prop) : Prop := PS 3 mdX3_fillLeast 33 [(0, .ref 124), (1, .int a1), (2, .ref c2), (3, .ref c3), (4, .int a4)] [] M (qV Q)
def P_X3_fillLeast_63 (M : Mem) (a1 : Int32) (c2 : Nat) (c3 : Nat) (a4 : Int32) (a5 : Int32) (a6 : Int32) (a7 : Int32) (a8 : Int32) (a9 : Int32) (Q : Mem → Prop) : Prop := PS 3 mdX3_fillLeast 63 [(0, .ref 124), (1, .int a1), (2, .ref c2), (3, .ref c3), (4, .int a4), (5, .int a5), (6, .int a6), (7, .int a7), (8, .int a8), (9, .int a9)] [] M (qV Q)
def C_X3_plan (M : Mem) (a1 : Int32) (Q : Nat → Mem → Prop) : Prop := CA 0 mdX3_plan [.ref 124, .int a1] M (qR Q)
def C_X9_folk (M : Mem) (a1 : Int32) (Q : Int32 → Mem → Prop) : Prop := CA 0 mdX9_folk [.ref 0, .int a1] M (qI Q)
def C_X9_say (M : Mem) (a1 : Int32) (a2 : Int32) (a3 : Int32) (a4 : Int32) (Q : Int32 → Mem → Prop) : Prop := CA 1 mdX9_say [.ref 0, .int a1, .int a2, .int a3, .int a4] M (qI Q)
def C_X6_hasOne_37 (M : Mem) (a1 : Int32) (Q : Int32 → Mem → Prop) : Prop := CA 0 mdX6_hasOne [.ref 37, .int a1] M (qI Q)
def C_X6_addSaying_37 (M : Mem) (a1 : Int32) (a2 : Int32) (a3 : Int32) (a4 : Int32) (Q : Mem → Prop) : Prop := CA 0 mdX6_addSaying [.ref 37, .int a1, .int a2, .int a3, .int a4] M (qV Q)
def C_X9_liars (M : Mem)  (Q : Int32 → Mem → Prop) : Prop := CA 4 mdX9_liars [.ref 0] M (qI Q)
def C_X1_findLiars (M : Mem) (a1 : Int32) (Q : Int32 → Mem → Prop) : Prop := CA 3 mdX1_findLiars [.ref 167, .int a1] M (qI Q)
def P_X1_findLiars_4 (M : Mem) (a1 : Int32) (a2 : Int32) (a3 : Int32) (Q : Int32 → Mem → Prop) : Prop := PS 3 mdX1_findLiars 4 [(0, .ref 167), (1, .int a1), (2, .int a2), (3, .int a3)] [] M (qI Q)
def P_X1_findLiars_42 (M : Mem) (a1 : Int32) (a2 : Int32) (a3 : Int32) (Q : Int32 → Mem → Prop) : Prop := PS 3 mdX1_findLiars 42 [(0, .ref 167), (1, .int a1), (2, .int a2), (3, .int a3)] [] M (qI Q)
def P_X1_findLiars_56 (M : Mem) (a1 : Int32) (a2 : Int32) (a3 : Int32) (a4 : Int32) (Q : Int32 → Mem → Prop) : Prop := PS 3 mdX1_findLiars 56 [(0, .ref 167), (1, .int a1), (2, .int a2), (3, .int a3), (4, .int a4)] [] M (qI Q)
def C_X1_haveWays (M : Mem) (a1 : Int32) (a2 : Int32) (Q : Int32 → Mem → Prop) : Prop := CA 2 mdX1_haveWays [.ref 167, .int a1, .int a2] M (qI Q)
def P_X1_haveWays_2 (M : Mem) (a1 : Int32) (a2 : Int32) (a3 : Int32) (Q : Int32 → Mem → Prop) : Prop := PS 2 mdX1_haveWays 2 [(0, .ref 167), (1, .int a1), (2, .int a2), (3, .int a3)] [] M (qI Q)
def P_X1_haveWays_31 (M : Mem) (a1 : Int32) (a2 : Int32) (a3 : Int32) (Q : Int32 → Mem → Prop) : Prop := PS 2 mdX1_haveWays 31 [(0, .ref 167), (1, .int a1), (2, .int a2), (3, .int a3)] [] M (qI Q)
def P_X1_haveWays_144 (M : Mem) (a3 : Int32) (Q : Int32 → Mem → Prop) : Prop := PS 2 mdX1_haveWays 144 [(0, .ref 167), (3, .int a3)] [] M (qI Q)
def C_X1_pin (M : Mem) (a1 : Int32) (a2 : Int32) (a3 : Int32) (Q : Int32 → Mem → Prop) : Prop := CA 0 mdX1_pin [.ref 167, .int a1, .int a2, .int a3] M (qI Q)
def C_X1_hasWay (M : Mem) (a1 : Int32) (Q : Int32 → Mem → Prop) : Prop := CA 1 mdX1_hasWay [.ref 167, .int a1] M (qI Q)
def P_X1_hasWay_11 (M : Mem) (a1 : Int32) (c2 : Nat) (a3 : Int32) (a4 : Int32) (Q : Int32 → Mem → Prop) : Prop := PS 1 mdX1_hasWay 11 [(0, .ref 167), (1, .int a1), (2, .ref c2), (3, .int a3), (4, .int a4)] [] M (qI Q)
def C_X1_wayOf (M : Mem) (a1 : Int32) (Q : Nat → Mem → Prop) : Prop := CA 0 mdX1_wayOf [.ref 167, .int a1] M (qR Q)
def C_J6_bitCount_0f7a4 (M : Mem) (a0 : Int32) (Q : Int32 → Mem → Prop) : Prop := CA 0 mdJ6_bitCount_0f7a4 [.int a0] M (qI Q)
def C_X9_maybe (M : Mem) (a1 : Int32) (a2 : Int32) (Q : Int32 → Mem → Prop) : Prop := CA 4 mdX9_maybe [.ref 0, .int a1, .int a2] M (qI Q)
def C_X1_roomsOf (M : Mem) (a1 : Int32) (a2 : Int32) (Q : Int32 → Mem → Prop) : Prop := CA 1 mdX1_roomsOf [.ref 167, .int a1, .int a2] M (qI Q)
def P_X1_roomsOf_2 (M : Mem) (a1 : Int32) (a2 : Int32) (a3 : Int32) (Q : Int32 → Mem → Prop) : Prop := PS 1 mdX1_roomsOf 2 [(0, .ref 167), (1, .int a1), (2, .int a2), (3, .int a3)] [] M (qI Q)
def P_X1_roomsOf_27 (M : Mem) (a1 : Int32) (a2 : Int32) (a3 : Int32) (a4 : Int32) (Q : Int32 → Mem → Prop) : Prop := PS 1 mdX1_roomsOf 27 [(0, .ref 167), (1, .int a1), (2, .int a2), (3, .int a3), (4, .int a4)] [] M (qI Q)
def P_X1_roomsOf_66 (M : Mem) (a1 : Int32) (a2 : Int32) (a3 : Int32) (a4 : Int32) (c5 : Nat) (a6 : Int32) (a7 : Int32) (Q : Int32 → Mem → Prop) : Prop := PS 1 mdX1_roomsOf 66 [(0, .ref 167), (1, .int a1), (2, .int a2), (3, .int a3), (4, .int a4), (5, .ref c5), (6, .int a6), (7, .int a7)] [] M (qI Q)
def C_X9_theft (M : Mem) (a1 : Int32) (a2 : Int32) (a3 : Int32) (Q : Int32 → Mem → Prop) : Prop := CA 1 mdX9_theft [.ref 0, .int a1, .int a2, .int a3] M (qI Q)
def C_X9_suspects (M : Mem)  (Q : Int32 → Mem → Prop) : Prop := CA 4 mdX9_suspects [.ref 0] M (qI Q)
def P_X9_suspects_26 (M : Mem) (a1 : Int32) (a2 : Int32) (Q : Int32 → Mem → Prop) : Prop := PS 4 mdX9_suspects 26 [(0, .ref 0), (1, .int a1), (2, .int a2)] [] M (qI Q)
def C_X1_isSuspect (M : Mem) (a1 : Int32) (Q : Int32 → Mem → Prop) : Prop := CA 3 mdX1_isSuspect [.ref 167, .int a1] M (qI Q)
def P_X1_isSuspect_8 (M : Mem) (a1 : Int32) (a2 : Int32) (Q : Int32 → Mem → Prop) : Prop := PS 3 mdX1_isSuspect 8 [(0, .ref 167), (1, .int a1), (2, .int a2)] [] M (qI Q)
def C_X1_othersMayBeElsewhere (M : Mem) (a1 : Int32) (a2 : Int32) (Q : Int32 → Mem → Prop) : Prop := CA 2 mdX1_othersMayBeElsewhere [.ref 167, .int a1, .int a2] M (qI Q)
def P_X1_othersMayBeElsewhere_2 (M : Mem) (a1 : Int32) (a2 : Int32) (a3 : Int32) (Q : Int32 → Mem → Prop) : Prop := PS 2 mdX1_othersMayBeElsewhere 2 [(0, .ref 167), (1, .int a1), (2, .int a2), (3, .int a3)] [] M (qI Q)
def C_X9_clears (M : Mem) (a1 : Int32) (Q : Int32 → Mem → Prop) : Prop := CA 4 mdX9_clears [.ref 0, .int a1] M (qI Q)
def P_X9_clears_53 (M : Mem) (a1 : Int32) (a2 : Int32) (a3 : Int32) (Q : Int32 → Mem → Prop) : Prop := PS 4 mdX9_clears 53 [(0, .ref 0), (1, .int a1), (2, .int a2), (3, .int a3)] [] M (qI Q)
def C_X9_count (M : Mem) (a1 : Int32) (Q : Int32 → Mem → Prop) : Prop := CA 1 mdX9_count [.ref 0, .int a1] M (qI Q)
def C_X9_image (M : Mem)  (Q : Int32 → Mem → Prop) : Prop := CA 2 mdX9_image [.ref 0] M (qI Q)
def C_X0_become_43_1 (M : Mem)  (Q : Mem → Prop) : Prop := CA 1 mdX0_become [.ref 43, .ref 1] M (qV Q)
def P_X0_become_43_1_56 (M : Mem) (a2 : Int32) (Q : Mem → Prop) : Prop := PS 1 mdX0_become 56 [(0, .ref 43), (1, .ref 1), (2, .int a2)] [] M (qV Q)
def C_X5_become_72_30 (M : Mem)  (Q : Mem → Prop) : Prop := CA 1 mdX5_become [.ref 72, .ref 30] M (qV Q)
def C_X6_become_79_37 (M : Mem)  (Q : Mem → Prop) : Prop := CA 1 mdX6_become [.ref 79, .ref 37] M (qV Q)
def C_X9_restore (M : Mem)  (Q : Int32 → Mem → Prop) : Prop := CA 4 mdX9_restore [.ref 0] M (qI Q)
def C_X0_become_1_43 (M : Mem)  (Q : Mem → Prop) : Prop := CA 1 mdX0_become [.ref 1, .ref 43] M (qV Q)
def P_X0_become_1_43_56 (M : Mem) (a2 : Int32) (Q : Mem → Prop) : Prop := PS 1 mdX0_become 56 [(0, .ref 1), (1, .ref 43), (2, .int a2)] [] M (qV Q)
def C_X5_become_30_72 (M : Mem)  (Q : Mem → Prop) : Prop := CA 1 mdX5_become [.ref 30, .ref 72] M (qV Q)
def C_X6_become_37_79 (M : Mem)  (Q : Mem → Prop) : Prop := CA 1 mdX6_become [.ref 37, .ref 79] M (qV Q)
