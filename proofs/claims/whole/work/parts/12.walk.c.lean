theorem T_X9_room {M : Mem}  {Q : Int32 → Mem → Prop}  (h : ((¬ (M 1 0) = (nI 10)) → (C_X9_doorsChanged (wr M 1 0 ((M 1 0) + (nI 1))) (fun M1 => Q ((M1 1 0) - (nI 1)) M1))) ∧ (((M 1 0) = (nI 10)) → (Q (-3) M))) : C_X9_room M  Q := by
  refine CA_of rfl (Nat.le_of_ble_eq_true rfl) ?_
  show PS _ _ 0 [(0, .ref 0)] [] M _
  refine pw_aload_n (pc' := 1) 0 rfl dX9_room_0 rfl rfl ?_
  refine ps_getR (pc' := 4) (r := 1) rfl dX9_room_1 fl_X9_10 ob_0 rfl rfl ?_
  refine ps_getI (pc' := 7) (v := (M 1 0)) rfl dX9_room_4 fl_X9_89 ob_1 rfl rfl ?_
  refine pw_bipush (pc' := 9) rfl dX9_room_7 cb_10 ?_
  refine pw_icmp_ne (pc' := 12) (tgt := 15) rfl dX9_room_9 (by decide) (fun q0 => ?_) (fun q0 => ?_)
  · have h := h.1 q0
    refine pw_aload_n (pc' := 16) 0 rfl dX9_room_15 rfl rfl ?_
    refine ps_getR (pc' := 19) (r := 1) rfl dX9_room_16 fl_X9_10 ob_0 rfl rfl ?_
    refine pw_dup (pc' := 20) rfl dX9_room_19 rfl ?_
    refine ps_getI (pc' := 23) (v := (M 1 0)) rfl dX9_room_20 fl_X9_89 ob_1 rfl rfl ?_
    refine pw_iconst (pc' := 24) rfl dX9_room_23 ci_1 ?_
    refine pw_iadd (pc' := 25) rfl dX9_room_24 ?_
    refine ps_putI (pc' := 28) rfl dX9_room_25 fl_X9_89 ob_1 rfl ?_
    refine pw_aload_n (pc' := 29) 0 rfl dX9_room_28 rfl rfl ?_
    refine ps_callVV (pc' := 32) (As := []) (rest := []) (cT := (RX9, TX9, 14)) 0 rfl dX9_room_29 cv_X9_doorsChanged ml_X9_93 (by decide) rfl rfl (by decide) (Nat.le_of_ble_eq_true rfl) ob_0 rfl rfl (CA.monoV h ?_)
    intro M1 h
    refine pw_aload_n (pc' := 33) 0 rfl dX9_room_32 rfl rfl ?_
    refine ps_getR (pc' := 36) (r := 1) rfl dX9_room_33 fl_X9_10 ob_0 rfl rfl ?_
    refine ps_getI (pc' := 39) (v := (M1 1 0)) rfl dX9_room_36 fl_X9_89 ob_1 rfl rfl ?_
    refine pw_iconst (pc' := 40) rfl dX9_room_39 ci_1 ?_
    refine pw_isub (pc' := 41) rfl dX9_room_40 ?_
    exact ps_iret dX9_room_41 rfl h
  · have h := h.2 q0
    refine pw_bipush (pc' := 14) rfl dX9_room_12 cb_m3 ?_
    exact ps_iret dX9_room_14 rfl h
theorem T_X9_doorsChanged {M : Mem}  {Q : Mem → Prop}  (h : C_X0_measure_1 M (fun M0 => C_X9_plansChanged M0 (fun M1 => Q M1))) : C_X9_doorsChanged M  Q := by
  refine CA_of rfl (Nat.le_of_ble_eq_true rfl) ?_
  show PS _ _ 0 [(0, .ref 0)] [] M _
  refine pw_aload_n (pc' := 1) 0 rfl dX9_doorsChanged_0 rfl rfl ?_
  refine ps_getR (pc' := 4) (r := 1) rfl dX9_doorsChanged_1 fl_X9_10 ob_0 rfl rfl ?_
  refine ps_callVV (pc' := 7) (As := []) (rest := []) (cT := (RX0, TX0, 8)) 0 rfl dX9_doorsChanged_4 cv_X0_measure ml_X9_334 (by decide) rfl rfl (by decide) (Nat.le_of_ble_eq_true rfl) ob_1 rfl rfl (CA.monoV h ?_)
  intro M0 h
  refine pw_aload_n (pc' := 8) 0 rfl dX9_doorsChanged_7 rfl rfl ?_
  refine ps_callVV (pc' := 11) (As := []) (rest := []) (cT := (RX9, TX9, 14)) 0 rfl dX9_doorsChanged_8 cv_X9_plansChanged ml_X9_141 (by decide) rfl rfl (by decide) (Nat.le_of_ble_eq_true rfl) ob_0 rfl rfl (CA.monoV h ?_)
  intro M1 h
  exact ps_vret dX9_doorsChanged_11 rfl h
theorem T_X9_plansChanged {M : Mem}  {Q : Mem → Prop}  (h : Q (wr (wr M 95 1 (nI 0)) 124 3 (nI 0))) : C_X9_plansChanged M  Q := by
  refine CA_of rfl (Nat.le_of_ble_eq_true rfl) ?_
  show PS _ _ 0 [(0, .ref 0)] [] M _
  refine pw_aload_n (pc' := 1) 0 rfl dX9_plansChanged_0 rfl rfl ?_
  refine ps_getR (pc' := 4) (r := 95) rfl dX9_plansChanged_1 fl_X9_58 ob_0 rfl rfl ?_
  refine pw_iconst (pc' := 5) rfl dX9_plansChanged_4 ci_0 ?_
  refine ps_putZ (pc' := 8) rfl dX9_plansChanged_5 fl_X9_337 ob_95 rfl (by decide) ?_
  refine pw_aload_n (pc' := 9) 0 rfl dX9_plansChanged_8 rfl rfl ?_
  refine ps_getR (pc' := 12) (r := 124) rfl dX9_plansChanged_9 fl_X9_67 ob_0 rfl rfl ?_
  refine pw_iconst (pc' := 13) rfl dX9_plansChanged_12 ci_0 ?_
  refine ps_putZ (pc' := 16) rfl dX9_plansChanged_13 fl_X9_340 ob_124 rfl (by decide) ?_
  exact ps_vret dX9_plansChanged_16 rfl h
theorem T_X9_door {M : Mem} {a1 : Int32} {a2 : Int32} {a3 : Int32} {Q : Int32 → Mem → Prop}  (h : C_X0_arePair_1 M a1 a2 (fun r0 M0 => ((r0 = 0) → (Q (-1) M0)) ∧ ((¬ r0 = 0) → (((a3 < 0) → (Q (-1) M0)) ∧ ((¬ a3 < 0) → (((a3 ≤ (nI 1)) → (C_X0_doorKind_1 M0 a1 a2 (fun r4 M4 => ((r4 = (-1)) → (((¬ (M4 1 1) = (nI 16)) → (C_X0_putDoor_1 M4 a1 a2 a3 (fun M7 => C_X9_doorsChanged M7 (fun M8 => Q (M8 1 1) M8)))) ∧ (((M4 1 1) = (nI 16)) → (Q (-3) M4)))) ∧ ((¬ r4 = (-1)) → (Q (-2) M4))))) ∧ ((¬ a3 ≤ (nI 1)) → (Q (-1) M0)))))))) : C_X9_door M a1 a2 a3 Q := by
  refine CA_of rfl (Nat.le_of_ble_eq_true rfl) ?_
  show PS _ _ 0 [(0, .ref 0), (1, .int a1), (2, .int a2), (3, .int a3)] [] M _
  refine pw_aload_n (pc' := 1) 0 rfl dX9_door_0 rfl rfl ?_
  refine ps_getR (pc' := 4) (r := 1) rfl dX9_door_1 fl_X9_10 ob_0 rfl rfl ?_
  refine pw_iload_n (pc' := 5) 1 rfl dX9_door_4 rfl rfl ?_
  refine pw_iload_n (pc' := 6) 2 rfl dX9_door_5 rfl rfl ?_
  refine ps_callVI (pc' := 9) (As := [.int a1, .int a2]) (rest := []) (cT := (RX0, TX0, 8)) 2 rfl dX9_door_6 cv_X0_arePair ml_X9_96 (by decide) rfl rfl (by decide) (Nat.le_of_ble_eq_true rfl) ob_1 rfl rfl (CA.monoI h ?_)
  intro r0 M0 h
  refine pw_if_eq (pc' := 12) (tgt := 21) rfl dX9_door_9 (by decide) (fun q1 => ?_) (fun q1 => ?_)
  · have h := h.1 q1
    refine pw_iconst (pc' := 22) rfl dX9_door_21 ci_m1 ?_
    exact ps_iret dX9_door_22 rfl h
  · have h := h.2 q1
    refine pw_iload_n (pc' := 13) 3 rfl dX9_door_12 rfl rfl ?_
    refine pw_if_lt (pc' := 16) (tgt := 21) rfl dX9_door_13 (by decide) (fun q2 => ?_) (fun q2 => ?_)
    · have h := h.1 q2
      refine pw_iconst (pc' := 22) rfl dX9_door_21 ci_m1 ?_
      exact ps_iret dX9_door_22 rfl h
    · have h := h.2 q2
      refine pw_iload_n (pc' := 17) 3 rfl dX9_door_16 rfl rfl ?_
      refine pw_iconst (pc' := 18) rfl dX9_door_17 ci_1 ?_
      refine pw_icmp_le (pc' := 21) (tgt := 23) rfl dX9_door_18 (by decide) (fun q3 => ?_) (fun q3 => ?_)
      · have h := h.1 q3
        refine pw_aload_n (pc' := 24) 0 rfl dX9_door_23 rfl rfl ?_
        refine ps_getR (pc' := 27) (r := 1) rfl dX9_door_24 fl_X9_10 ob_0 rfl rfl ?_
        refine pw_iload_n (pc' := 28) 1 rfl dX9_door_27 rfl rfl ?_
        refine pw_iload_n (pc' := 29) 2 rfl dX9_door_28 rfl rfl ?_
        refine ps_callVI (pc' := 32) (As := [.int a1, .int a2]) (rest := []) (cT := (RX0, TX0, 8)) 2 rfl dX9_door_29 cv_X0_doorKind ml_X9_100 (by decide) rfl rfl (by decide) (Nat.le_of_ble_eq_true rfl) ob_1 rfl rfl (CA.monoI h ?_)
        intro r4 M4 h
        refine pw_iconst (pc' := 33) rfl dX9_door_32 ci_m1 ?_
        refine pw_icmp_eq (pc' := 36) (tgt := 39) rfl dX9_door_33 (by decide) (fun q5 => ?_) (fun q5 => ?_)
        · have h := h.1 q5
          refine pw_aload_n (pc' := 40) 0 rfl dX9_door_39 rfl rfl ?_
          refine ps_getR (pc' := 43) (r := 1) rfl dX9_door_40 fl_X9_10 ob_0 rfl rfl ?_
          refine ps_getI (pc' := 46) (v := (M4 1 1)) rfl dX9_door_43 fl_X9_104 ob_1 rfl rfl ?_
          refine pw_bipush (pc' := 48) rfl dX9_door_46 cb_16 ?_
          refine pw_icmp_ne (pc' := 51) (tgt := 54) rfl dX9_door_48 (by decide) (fun q6 => ?_) (fun q6 => ?_)
          · have h := h.1 q6
            refine pw_aload_n (pc' := 55) 0 rfl dX9_door_54 rfl rfl ?_
            refine ps_getR (pc' := 58) (r := 1) rfl dX9_door_55 fl_X9_10 ob_0 rfl rfl ?_
            refine pw_iload_n (pc' := 59) 1 rfl dX9_door_58 rfl rfl ?_
            refine pw_iload_n (pc' := 60) 2 rfl dX9_door_59 rfl rfl ?_
            refine pw_iload_n (pc' := 61) 3 rfl dX9_door_60 rfl rfl ?_
            refine ps_callVV (pc' := 64) (As := [.int a1, .int a2, .int a3]) (rest := []) (cT := (RX0, TX0, 8)) 3 rfl dX9_door_61 cv_X0_putDoor ml_X9_107 (by decide) rfl rfl (by decide) (Nat.le_of_ble_eq_true rfl) ob_1 rfl rfl (CA.monoV h ?_)
            intro M7 h
            refine pw_aload_n (pc' := 65) 0 rfl dX9_door_64 rfl rfl ?_
            refine ps_callVV (pc' := 68) (As := []) (rest := []) (cT := (RX9, TX9, 14)) 0 rfl dX9_door_65 cv_X9_doorsChanged ml_X9_93 (by decide) rfl rfl (by decide) (Nat.le_of_ble_eq_true rfl) ob_0 rfl rfl (CA.monoV h ?_)
            intro M8 h
            refine pw_aload_n (pc' := 69) 0 rfl dX9_door_68 rfl rfl ?_
            refine ps_getR (pc' := 72) (r := 1) rfl dX9_door_69 fl_X9_10 ob_0 rfl rfl ?_
            refine ps_getI (pc' := 75) (v := (M8 1 1)) rfl dX9_door_72 fl_X9_104 ob_1 rfl rfl ?_
            exact ps_iret dX9_door_75 rfl h
          · have h := h.2 q6
            refine pw_bipush (pc' := 53) rfl dX9_door_51 cb_m3 ?_
            exact ps_iret dX9_door_53 rfl h
        · have h := h.2 q5
          refine pw_bipush (pc' := 38) rfl dX9_door_36 cb_m2 ?_
          exact ps_iret dX9_door_38 rfl h
      · have h := h.2 q3
        refine pw_iconst (pc' := 22) rfl dX9_door_21 ci_m1 ?_
        exact ps_iret dX9_door_22 rfl h
theorem T_X9_wall {M : Mem} {a1 : Int32} {a2 : Int32} {Q : Int32 → Mem → Prop}  (h : C_X0_arePair_1 M a1 a2 (fun r0 M0 => ((¬ r0 = 0) → (C_X0_doorKind_1 M0 a1 a2 (fun r2 M2 => ((¬ r2 = (-1)) → (C_X0_isWalked_1 M2 a1 a2 (fun r4 M4 => ((r4 = 0) → (C_X0_takeDoor_1 M4 a1 a2 (fun M6 => C_X9_doorsChanged M6 (fun M7 => Q r2 M7)))) ∧ ((¬ r4 = 0) → (Q (-2) M4))))) ∧ ((r2 = (-1)) → (Q (-4) M2))))) ∧ ((r0 = 0) → (Q (-1) M0)))) : C_X9_wall M a1 a2 Q := by
  refine CA_of rfl (Nat.le_of_ble_eq_true rfl) ?_
  show PS _ _ 0 [(0, .ref 0), (1, .int a1), (2, .int a2)] [] M _
  refine pw_aload_n (pc' := 1) 0 rfl dX9_wall_0 rfl rfl ?_
  refine ps_getR (pc' := 4) (r := 1) rfl dX9_wall_1 fl_X9_10 ob_0 rfl rfl ?_
  refine pw_iload_n (pc' := 5) 1 rfl dX9_wall_4 rfl rfl ?_
  refine pw_iload_n (pc' := 6) 2 rfl dX9_wall_5 rfl rfl ?_
  refine ps_callVI (pc' := 9) (As := [.int a1, .int a2]) (rest := []) (cT := (RX0, TX0, 8)) 2 rfl dX9_wall_6 cv_X0_arePair ml_X9_96 (by decide) rfl rfl (by decide) (Nat.le_of_ble_eq_true rfl) ob_1 rfl rfl (CA.monoI h ?_)
  intro r0 M0 h
  refine pw_if_ne (pc' := 12) (tgt := 14) rfl dX9_wall_9 (by decide) (fun q1 => ?_) (fun q1 => ?_)
  · have h := h.1 q1
    refine pw_aload_n (pc' := 15) 0 rfl dX9_wall_14 rfl rfl ?_
    refine ps_getR (pc' := 18) (r := 1) rfl dX9_wall_15 fl_X9_10 ob_0 rfl rfl ?_
    refine pw_iload_n (pc' := 19) 1 rfl dX9_wall_18 rfl rfl ?_
    refine pw_iload_n (pc' := 20) 2 rfl dX9_wall_19 rfl rfl ?_
    refine ps_callVI (pc' := 23) (As := [.int a1, .int a2]) (rest := []) (cT := (RX0, TX0, 8)) 2 rfl dX9_wall_20 cv_X0_doorKind ml_X9_100 (by decide) rfl rfl (by decide) (Nat.le_of_ble_eq_true rfl) ob_1 rfl rfl (CA.monoI h ?_)
    intro r2 M2 h
    refine pw_istore_n (pc' := 24) (lv' := [(0, .ref 0), (1, .int a1), (2, .int a2), (3, .int r2)]) [1, 2, 3, 0] rfl dX9_wall_23 rfl (by decide) rfl ?_
    refine pw_iload_n (pc' := 25) 3 rfl dX9_wall_24 rfl rfl ?_
    refine pw_iconst (pc' := 26) rfl dX9_wall_25 ci_m1 ?_
    refine pw_icmp_ne (pc' := 29) (tgt := 32) rfl dX9_wall_26 (by decide) (fun q3 => ?_) (fun q3 => ?_)
    · have h := h.1 q3
      refine pw_aload_n (pc' := 33) 0 rfl dX9_wall_32 rfl rfl ?_
      refine ps_getR (pc' := 36) (r := 1) rfl dX9_wall_33 fl_X9_10 ob_0 rfl rfl ?_
      refine pw_iload_n (pc' := 37) 1 rfl dX9_wall_36 rfl rfl ?_
      refine pw_iload_n (pc' := 38) 2 rfl dX9_wall_37 rfl rfl ?_
      refine ps_callVI (pc' := 41) (As := [.int a1, .int a2]) (rest := []) (cT := (RX0, TX0, 8)) 2 rfl dX9_wall_38 cv_X0_isWalked ml_X9_111 (by decide) rfl rfl (by decide) (Nat.le_of_ble_eq_true rfl) ob_1 rfl rfl (CA.monoI h ?_)
      intro r4 M4 h
      refine pw_if_eq (pc' := 44) (tgt := 47) rfl dX9_wall_41 (by decide) (fun q5 => ?_) (fun q5 => ?_)
      · have h := h.1 q5
        refine pw_aload_n (pc' := 48) 0 rfl dX9_wall_47 rfl rfl ?_
        refine ps_getR (pc' := 51) (r := 1) rfl dX9_wall_48 fl_X9_10 ob_0 rfl rfl ?_
        refine pw_iload_n (pc' := 52) 1 rfl dX9_wall_51 rfl rfl ?_
        refine pw_iload_n (pc' := 53) 2 rfl dX9_wall_52 rfl rfl ?_
        refine ps_callVV (pc' := 56) (As := [.int a1, .int a2]) (rest := []) (cT := (RX0, TX0, 8)) 2 rfl dX9_wall_53 cv_X0_takeDoor ml_X9_114 (by decide) rfl rfl (by decide) (Nat.le_of_ble_eq_true rfl) ob_1 rfl rfl (CA.monoV h ?_)
        intro M6 h
        refine pw_aload_n (pc' := 57) 0 rfl dX9_wall_56 rfl rfl ?_
        refine ps_callVV (pc' := 60) (As := []) (rest := []) (cT := (RX9, TX9, 14)) 0 rfl dX9_wall_57 cv_X9_doorsChanged ml_X9_93 (by decide) rfl rfl (by decide) (Nat.le_of_ble_eq_true rfl) ob_0 rfl rfl (CA.monoV h ?_)
        intro M7 h
        refine pw_iload_n (pc' := 61) 3 rfl dX9_wall_60 rfl rfl ?_
        exact ps_iret dX9_wall_61 rfl h
      · have h := h.2 q5
        refine pw_bipush (pc' := 46) rfl dX9_wall_44 cb_m2 ?_
        exact ps_iret dX9_wall_46 rfl h
    · have h := h.2 q3
      refine pw_bipush (pc' := 31) rfl dX9_wall_29 cb_m4 ?_
      exact ps_iret dX9_wall_31 rfl h
  · have h := h.2 q1
    refine pw_iconst (pc' := 13) rfl dX9_wall_12 ci_m1 ?_
    exact ps_iret dX9_wall_13 rfl h
theorem T_X9_type {M : Mem} {a1 : Int64} {a3 : Int32} {Q : Int32 → Mem → Prop}  (h : C_X7_add M a1 a3 (fun r0 M0 => Q r0 M0)) : C_X9_type M a1 a3 Q := by
  refine CA_of rfl (Nat.le_of_ble_eq_true rfl) ?_
  show PS _ _ 0 [(0, .ref 0), (1, .long a1), (3, .int a3)] [] M _
  refine pw_aload_n (pc' := 1) 0 rfl dX9_type_0 rfl rfl ?_
  refine ps_getR (pc' := 4) (r := 85) rfl dX9_type_1 fl_X9_42 ob_0 rfl rfl ?_
  refine pw_lload_n (pc' := 5) 1 rfl dX9_type_4 rfl rfl ?_
  refine pw_iload_n (pc' := 6) 2 rfl dX9_type_5 rfl rfl ?_
  refine ps_callVI (pc' := 9) (As := [.long a1, .int a3]) (rest := []) (cT := (RX7, TX7, 4)) 2 rfl dX9_type_6 cv_X7_add ml_X9_118 (by decide) rfl rfl (by decide) (Nat.le_of_ble_eq_true rfl) ob_85 rfl rfl (CA.monoI h ?_)
  intro r0 M0 h
  exact ps_iret dX9_type_9 rfl h
theorem T_X9_walk {M : Mem}  {Q : Int32 → Mem → Prop}  (h : C_X7_readWalk_1 M 174 (fun r0 M0 => C_X7_clear M0 (fun M1 => ((r0 = 0) → (((¬ (M1 1 2) = (nI 3)) → (vp_in (M1 1 2) 3 ∧ ((¬ (nI 0) < 0 ∧ ¬ (nI 0) < 0 ∧ ¬ (nI 24) < 0 ∧ ix (nI 0) + ix (nI 24) ≤ 24 ∧ ix (nI 0) + ix (nI 24) ≤ 24) ∧ (C_X9_plansChanged (wr (cpy M1 174 (4 + 1 + ix (M1 1 2)) (ix (nI 0)) (ix (nI 0)) (ix (nI 24))) 1 2 (((cpy M1 174 (4 + 1 + ix (M1 1 2)) (ix (nI 0)) (ix (nI 0)) (ix (nI 24))) 1 2) + (nI 1))) (fun M6 => Q ((M6 1 2) - (nI 1)) M6))))) ∧ (((M1 1 2) = (nI 3)) → (Q (-3) M1)))) ∧ ((¬ r0 = 0) → (Q r0 M1))))) : C_X9_walk M  Q := by
  refine CA_of rfl (Nat.le_of_ble_eq_true rfl) ?_
  show PS _ _ 0 [(0, .ref 0)] [] M _
  refine pw_aload_n (pc' := 1) 0 rfl dX9_walk_0 rfl rfl ?_
  refine ps_getR (pc' := 4) (r := 85) rfl dX9_walk_1 fl_X9_42 ob_0 rfl rfl ?_
  refine pw_aload_n (pc' := 5) 0 rfl dX9_walk_4 rfl rfl ?_
  refine ps_getR (pc' := 8) (r := 1) rfl dX9_walk_5 fl_X9_10 ob_0 rfl rfl ?_
  refine pw_aload_n (pc' := 9) 0 rfl dX9_walk_8 rfl rfl ?_
  refine ps_getR (pc' := 12) (r := 174) rfl dX9_walk_9 fl_X9_80 ob_0 rfl rfl ?_
  refine ps_callVI (pc' := 15) (As := [.ref 1, .ref 174]) (rest := []) (cT := (RX7, TX7, 4)) 2 rfl dX9_walk_12 cv_X7_readWalk ml_X9_122 (by decide) rfl rfl (by decide) (Nat.le_of_ble_eq_true rfl) ob_85 rfl rfl (CA.monoI h ?_)
  intro r0 M0 h
  refine pw_istore_n (pc' := 16) (lv' := [(0, .ref 0), (1, .int r0)]) [1, 0] rfl dX9_walk_15 rfl (by decide) rfl ?_
  refine pw_aload_n (pc' := 17) 0 rfl dX9_walk_16 rfl rfl ?_
  refine ps_getR (pc' := 20) (r := 85) rfl dX9_walk_17 fl_X9_42 ob_0 rfl rfl ?_
  refine ps_callVV (pc' := 23) (As := []) (rest := []) (cT := (RX7, TX7, 4)) 0 rfl dX9_walk_20 cv_X7_clear ml_X9_126 (by decide) rfl rfl (by decide) (Nat.le_of_ble_eq_true rfl) ob_85 rfl rfl (CA.monoV h ?_)
  intro M1 h
  refine pw_iload_n (pc' := 24) 1 rfl dX9_walk_23 rfl rfl ?_
  refine pw_if_eq (pc' := 27) (tgt := 29) rfl dX9_walk_24 (by decide) (fun q2 => ?_) (fun q2 => ?_)
  · have h := h.1 q2
    refine pw_aload_n (pc' := 30) 0 rfl dX9_walk_29 rfl rfl ?_
    refine ps_getR (pc' := 33) (r := 1) rfl dX9_walk_30 fl_X9_10 ob_0 rfl rfl ?_
    refine ps_getI (pc' := 36) (v := (M1 1 2)) rfl dX9_walk_33 fl_X9_129 ob_1 rfl rfl ?_
    refine pw_iconst (pc' := 37) rfl dX9_walk_36 ci_3 ?_
    refine pw_icmp_ne (pc' := 40) (tgt := 43) rfl dX9_walk_37 (by decide) (fun q3 => ?_) (fun q3 => ?_)
    · have h := h.1 q3
      refine pw_aload_n (pc' := 44) 0 rfl dX9_walk_43 rfl rfl ?_
      refine ps_getR (pc' := 47) (r := 174) rfl dX9_walk_44 fl_X9_80 ob_0 rfl rfl ?_
      refine pw_iconst (pc' := 48) rfl dX9_walk_47 ci_0 ?_
      refine pw_aload_n (pc' := 49) 0 rfl dX9_walk_48 rfl rfl ?_
      refine ps_getR (pc' := 52) (r := 1) rfl dX9_walk_49 fl_X9_10 ob_0 rfl rfl ?_
      refine ps_getR (pc' := 55) (r := 4) rfl dX9_walk_52 fl_X9_132 ob_1 rfl rfl ?_
      refine pw_aload_n (pc' := 56) 0 rfl dX9_walk_55 rfl rfl ?_
      refine ps_getR (pc' := 59) (r := 1) rfl dX9_walk_56 fl_X9_10 ob_0 rfl rfl ?_
      refine ps_getI (pc' := 62) (v := (M1 1 2)) rfl dX9_walk_59 fl_X9_129 ob_1 rfl rfl ?_
      obtain ⟨b4, h⟩ := h
      refine ps_aald (pc' := 63) rfl dX9_walk_62 ra_4 b4 ?_
      refine pw_iconst (pc' := 64) rfl dX9_walk_63 ci_0 ?_
      refine pw_bipush (pc' := 66) rfl dX9_walk_64 cb_24 ?_
      obtain ⟨g5, h⟩ := h
      refine ps_copy (pc' := 69) rfl dX9_walk_66 ml_X9_135 ia_174 (RA.row ra_4 b4) g5 (by decide) (Nat.le_of_ble_eq_true rfl) ?_
      refine pw_aload_n (pc' := 70) 0 rfl dX9_walk_69 rfl rfl ?_
      refine ps_getR (pc' := 73) (r := 1) rfl dX9_walk_70 fl_X9_10 ob_0 rfl rfl ?_
      refine pw_dup (pc' := 74) rfl dX9_walk_73 rfl ?_
      refine ps_getI (pc' := 77) (v := ((cpy M1 174 (4 + 1 + ix (M1 1 2)) (ix (nI 0)) (ix (nI 0)) (ix (nI 24))) 1 2)) rfl dX9_walk_74 fl_X9_129 ob_1 rfl rfl ?_
      refine pw_iconst (pc' := 78) rfl dX9_walk_77 ci_1 ?_
      refine pw_iadd (pc' := 79) rfl dX9_walk_78 ?_
      refine ps_putI (pc' := 82) rfl dX9_walk_79 fl_X9_129 ob_1 rfl ?_
      refine pw_aload_n (pc' := 83) 0 rfl dX9_walk_82 rfl rfl ?_
      refine ps_callVV (pc' := 86) (As := []) (rest := []) (cT := (RX9, TX9, 14)) 0 rfl dX9_walk_83 cv_X9_plansChanged ml_X9_141 (by decide) rfl rfl (by decide) (Nat.le_of_ble_eq_true rfl) ob_0 rfl rfl (CA.monoV h ?_)
      intro M6 h
      refine pw_aload_n (pc' := 87) 0 rfl dX9_walk_86 rfl rfl ?_
      refine ps_getR (pc' := 90) (r := 1) rfl dX9_walk_87 fl_X9_10 ob_0 rfl rfl ?_
      refine ps_getI (pc' := 93) (v := (M6 1 2)) rfl dX9_walk_90 fl_X9_129 ob_1 rfl rfl ?_
      refine pw_iconst (pc' := 94) rfl dX9_walk_93 ci_1 ?_
      refine pw_isub (pc' := 95) rfl dX9_walk_94 ?_
      exact ps_iret dX9_walk_95 rfl h
    · have h := h.2 q3
      refine pw_bipush (pc' := 42) rfl dX9_walk_40 cb_m3 ?_
      exact ps_iret dX9_walk_42 rfl h
  · have h := h.2 q2
    refine pw_iload_n (pc' := 28) 1 rfl dX9_walk_27 rfl rfl ?_
    exact ps_iret dX9_walk_28 rfl h
theorem T_X9_guest {M : Mem} {a1 : Int32} {a2 : Int32} {Q : Int32 → Mem → Prop}  (h : ((a1 < 0) → (Q (-1) M)) ∧ ((¬ a1 < 0) → ((((M 1 2) ≤ a1) → (Q (-1) M)) ∧ ((¬ (M 1 2) ≤ a1) → (C_X9_isTick M a2 (fun r2 M2 => ((¬ r2 = 0) → (vp_in a1 3 ∧ (vp_in a2 24 ∧ (Q (M2 (4 + 1 + ix a1) (ix a2)) M2)))) ∧ ((r2 = 0) → (Q (-1) M2)))))))) : C_X9_guest M a1 a2 Q := by
  refine CA_of rfl (Nat.le_of_ble_eq_true rfl) ?_
  show PS _ _ 0 [(0, .ref 0), (1, .int a1), (2, .int a2)] [] M _
  refine pw_iload_n (pc' := 1) 1 rfl dX9_guest_0 rfl rfl ?_
  refine pw_if_lt (pc' := 4) (tgt := 22) rfl dX9_guest_1 (by decide) (fun q0 => ?_) (fun q0 => ?_)
  · have h := h.1 q0
    refine pw_iconst (pc' := 23) rfl dX9_guest_22 ci_m1 ?_
    exact ps_iret dX9_guest_23 rfl h
  · have h := h.2 q0
    refine pw_iload_n (pc' := 5) 1 rfl dX9_guest_4 rfl rfl ?_
    refine pw_aload_n (pc' := 6) 0 rfl dX9_guest_5 rfl rfl ?_
    refine ps_getR (pc' := 9) (r := 1) rfl dX9_guest_6 fl_X9_10 ob_0 rfl rfl ?_
    refine ps_getI (pc' := 12) (v := (M 1 2)) rfl dX9_guest_9 fl_X9_129 ob_1 rfl rfl ?_
    refine pw_icmp_ge (pc' := 15) (tgt := 22) rfl dX9_guest_12 (by decide) (fun q1 => ?_) (fun q1 => ?_)
    · have h := h.1 q1
      refine pw_iconst (pc' := 23) rfl dX9_guest_22 ci_m1 ?_
      exact ps_iret dX9_guest_23 rfl h
    · have h := h.2 q1
      refine pw_iload_n (pc' := 16) 2 rfl dX9_guest_15 rfl rfl ?_
      refine ps_callSI (pc' := 19) (As := [.int a2]) (rest := []) 1 rfl dX9_guest_16 cs_X9_isTick ml_X9_144 (by decide) rfl rfl (by decide) (Nat.le_of_ble_eq_true rfl) (CA.monoI h ?_)
      intro r2 M2 h
      refine pw_if_ne (pc' := 22) (tgt := 24) rfl dX9_guest_19 (by decide) (fun q3 => ?_) (fun q3 => ?_)
      · have h := h.1 q3
        refine pw_aload_n (pc' := 25) 0 rfl dX9_guest_24 rfl rfl ?_
        refine ps_getR (pc' := 28) (r := 1) rfl dX9_guest_25 fl_X9_10 ob_0 rfl rfl ?_
        refine ps_getR (pc' := 31) (r := 4) rfl dX9_guest_28 fl_X9_132 ob_1 rfl rfl ?_
        refine pw_iload_n (pc' := 32) 1 rfl dX9_guest_31 rfl rfl ?_
        obtain ⟨b4, h⟩ := h
        refine ps_aald (pc' := 33) rfl dX9_guest_32 ra_4 b4 ?_
        refine pw_iload_n (pc' := 34) 2 rfl dX9_guest_33 rfl rfl ?_
        obtain ⟨b5, h⟩ := h
        refine ps_iald (pc' := 35) (v := (M2 (4 + 1 + ix a1) (ix a2))) rfl dX9_guest_34 (RA.row ra_4 b4) b5 rfl ?_
        exact ps_iret dX9_guest_35 rfl h
      · have h := h.2 q3
        refine pw_iconst (pc' := 23) rfl dX9_guest_22 ci_m1 ?_
        exact ps_iret dX9_guest_23 rfl h
theorem T_X9_isTick {M : Mem} {a0 : Int32} {Q : Int32 → Mem → Prop}  (h : ((a0 < 0) → (Q (nI 0) M)) ∧ ((¬ a0 < 0) → ((((nI 24) ≤ a0) → (Q (nI 0) M)) ∧ ((¬ (nI 24) ≤ a0) → (Q (nI 1) M))))) : C_X9_isTick M a0 Q := by
  refine CA_of rfl (Nat.le_of_ble_eq_true rfl) ?_
  show PS _ _ 0 [(0, .int a0)] [] M _
  refine pw_iload_n (pc' := 1) 0 rfl dX9_isTick_0 rfl rfl ?_
  refine pw_if_lt (pc' := 4) (tgt := 14) rfl dX9_isTick_1 (by decide) (fun q0 => ?_) (fun q0 => ?_)
  · have h := h.1 q0
    refine pw_iconst (pc' := 15) rfl dX9_isTick_14 ci_0 ?_
    exact ps_zret dX9_isTick_15 rfl (by decide) h
  · have h := h.2 q0
    refine pw_iload_n (pc' := 5) 0 rfl dX9_isTick_4 rfl rfl ?_
    refine pw_bipush (pc' := 7) rfl dX9_isTick_5 cb_24 ?_
    refine pw_icmp_ge (pc' := 10) (tgt := 14) rfl dX9_isTick_7 (by decide) (fun q1 => ?_) (fun q1 => ?_)
    · have h := h.1 q1
      refine pw_iconst (pc' := 15) rfl dX9_isTick_14 ci_0 ?_
      exact ps_zret dX9_isTick_15 rfl (by decide) h
    · have h := h.2 q1
      refine pw_iconst (pc' := 11) rfl dX9_isTick_10 ci_1 ?_
      refine pw_goto (tgt := 15) dX9_isTick_11 (by decide) ?_
      exact ps_zret dX9_isTick_15 rfl (by decide) h
theorem T_X9_trip {M : Mem} {a1 : Int32} {a2 : Int32} {a3 : Int32} {a4 : Int32} {a5 : Int32} {Q : Int32 → Mem → Prop}  (h : C_X0_hasRoom_1 M a1 (fun r0 M0 => ((r0 = 0) → (Q (-1) M0)) ∧ ((¬ r0 = 0) → (C_X9_isTick M0 a2 (fun r2 M2 => ((r2 = 0) → (Q (-1) M2)) ∧ ((¬ r2 = 0) → (C_X0_hasRoom_1 M2 a3 (fun r4 M4 => ((r4 = 0) → (Q (-1) M4)) ∧ ((¬ r4 = 0) → (((a5 < (-1)) → (Q (-1) M4)) ∧ ((¬ a5 < (-1)) → (((a5 ≤ (nI 23)) → (C_X8_soonest M4 a1 a2 a3 a4 (fun r8 M8 => ((¬ r8 = (nI 24)) → (((¬ a5 = (-1)) → (((a5 < a2) → (Q (-4) M8)) ∧ ((¬ a5 < a2) → (((a5 ≤ r8) → (C_X8_roomOnTrip M8 a1 a2 r8 a4 a5 (fun r13 M13 => Q r13 M13))) ∧ ((¬ a5 ≤ r8) → (Q (-4) M8)))))) ∧ ((a5 = (-1)) → (Q r8 M8)))) ∧ ((r8 = (nI 24)) → (Q (-4) M8))))) ∧ ((¬ a5 ≤ (nI 23)) → (Q (-1) M4)))))))))))))) : C_X9_trip M a1 a2 a3 a4 a5 Q := by
  refine CA_of rfl (Nat.le_of_ble_eq_true rfl) ?_
  show PS _ _ 0 [(0, .ref 0), (1, .int a1), (2, .int a2), (3, .int a3), (4, .int a4), (5, .int a5)] [] M _
  refine pw_aload_n (pc' := 1) 0 rfl dX9_trip_0 rfl rfl ?_
  refine ps_getR (pc' := 4) (r := 1) rfl dX9_trip_1 fl_X9_10 ob_0 rfl rfl ?_
  refine pw_iload_n (pc' := 5) 1 rfl dX9_trip_4 rfl rfl ?_
  refine ps_callVI (pc' := 8) (As := [.int a1]) (rest := []) (cT := (RX0, TX0, 8)) 1 rfl dX9_trip_5 cv_X0_hasRoom ml_X9_148 (by decide) rfl rfl (by decide) (Nat.le_of_ble_eq_true rfl) ob_1 rfl rfl (CA.monoI h ?_)
  intro r0 M0 h
  refine pw_if_eq (pc' := 11) (tgt := 42) rfl dX9_trip_8 (by decide) (fun q1 => ?_) (fun q1 => ?_)
  · have h := h.1 q1
    refine pw_iconst (pc' := 43) rfl dX9_trip_42 ci_m1 ?_
    exact ps_iret dX9_trip_43 rfl h
  · have h := h.2 q1
    refine pw_iload_n (pc' := 12) 2 rfl dX9_trip_11 rfl rfl ?_
    refine ps_callSI (pc' := 15) (As := [.int a2]) (rest := []) 1 rfl dX9_trip_12 cs_X9_isTick ml_X9_144 (by decide) rfl rfl (by decide) (Nat.le_of_ble_eq_true rfl) (CA.monoI h ?_)
    intro r2 M2 h
    refine pw_if_eq (pc' := 18) (tgt := 42) rfl dX9_trip_15 (by decide) (fun q3 => ?_) (fun q3 => ?_)
    · have h := h.1 q3
      refine pw_iconst (pc' := 43) rfl dX9_trip_42 ci_m1 ?_
      exact ps_iret dX9_trip_43 rfl h
    · have h := h.2 q3
      refine pw_aload_n (pc' := 19) 0 rfl dX9_trip_18 rfl rfl ?_
      refine ps_getR (pc' := 22) (r := 1) rfl dX9_trip_19 fl_X9_10 ob_0 rfl rfl ?_
      refine pw_iload_n (pc' := 23) 3 rfl dX9_trip_22 rfl rfl ?_
      refine ps_callVI (pc' := 26) (As := [.int a3]) (rest := []) (cT := (RX0, TX0, 8)) 1 rfl dX9_trip_23 cv_X0_hasRoom ml_X9_148 (by decide) rfl rfl (by decide) (Nat.le_of_ble_eq_true rfl) ob_1 rfl rfl (CA.monoI h ?_)
      intro r4 M4 h
      refine pw_if_eq (pc' := 29) (tgt := 42) rfl dX9_trip_26 (by decide) (fun q5 => ?_) (fun q5 => ?_)
      · have h := h.1 q5
        refine pw_iconst (pc' := 43) rfl dX9_trip_42 ci_m1 ?_
        exact ps_iret dX9_trip_43 rfl h
      · have h := h.2 q5
        refine pw_iload (pc' := 31) 5 rfl dX9_trip_29 rfl ?_
        refine pw_iconst (pc' := 32) rfl dX9_trip_31 ci_m1 ?_
        refine pw_icmp_lt (pc' := 35) (tgt := 42) rfl dX9_trip_32 (by decide) (fun q6 => ?_) (fun q6 => ?_)
        · have h := h.1 q6
          refine pw_iconst (pc' := 43) rfl dX9_trip_42 ci_m1 ?_
          exact ps_iret dX9_trip_43 rfl h
        · have h := h.2 q6
          refine pw_iload (pc' := 37) 5 rfl dX9_trip_35 rfl ?_
          refine pw_bipush (pc' := 39) rfl dX9_trip_37 cb_23 ?_
          refine pw_icmp_le (pc' := 42) (tgt := 44) rfl dX9_trip_39 (by decide) (fun q7 => ?_) (fun q7 => ?_)
          · have h := h.1 q7
            refine pw_aload_n (pc' := 45) 0 rfl dX9_trip_44 rfl rfl ?_
            refine ps_getR (pc' := 48) (r := 95) rfl dX9_trip_45 fl_X9_58 ob_0 rfl rfl ?_
            refine pw_iload_n (pc' := 49) 1 rfl dX9_trip_48 rfl rfl ?_
            refine pw_iload_n (pc' := 50) 2 rfl dX9_trip_49 rfl rfl ?_
            refine pw_iload_n (pc' := 51) 3 rfl dX9_trip_50 rfl rfl ?_
            refine pw_iload (pc' := 53) 4 rfl dX9_trip_51 rfl ?_
            refine ps_callVI (pc' := 56) (As := [.int a1, .int a2, .int a3, .int a4]) (rest := []) (cT := (RX8, TX8, 6)) 4 rfl dX9_trip_53 cv_X8_soonest ml_X9_151 (by decide) rfl rfl (by decide) (Nat.le_of_ble_eq_true rfl) ob_95 rfl rfl (CA.monoI h ?_)
            intro r8 M8 h
            refine pw_istore (pc' := 58) (lv' := [(0, .ref 0), (1, .int a1), (2, .int a2), (3, .int a3), (4, .int a4), (5, .int a5), (6, .int r8)]) [1, 2, 3, 4, 5, 6, 0] rfl dX9_trip_56 (by decide) rfl ?_
            refine pw_iload (pc' := 60) 6 rfl dX9_trip_58 rfl ?_
            refine pw_bipush (pc' := 62) rfl dX9_trip_60 cb_24 ?_
            refine pw_icmp_ne (pc' := 65) (tgt := 68) rfl dX9_trip_62 (by decide) (fun q9 => ?_) (fun q9 => ?_)
            · have h := h.1 q9
              refine pw_iload (pc' := 70) 5 rfl dX9_trip_68 rfl ?_
              refine pw_iconst (pc' := 71) rfl dX9_trip_70 ci_m1 ?_
              refine pw_icmp_ne (pc' := 74) (tgt := 77) rfl dX9_trip_71 (by decide) (fun q10 => ?_) (fun q10 => ?_)
              · have h := h.1 q10
                refine pw_iload (pc' := 79) 5 rfl dX9_trip_77 rfl ?_
                refine pw_iload_n (pc' := 80) 2 rfl dX9_trip_79 rfl rfl ?_
                refine pw_icmp_lt (pc' := 83) (tgt := 90) rfl dX9_trip_80 (by decide) (fun q11 => ?_) (fun q11 => ?_)
                · have h := h.1 q11
                  refine pw_bipush (pc' := 92) rfl dX9_trip_90 cb_m4 ?_
                  exact ps_iret dX9_trip_92 rfl h
                · have h := h.2 q11
                  refine pw_iload (pc' := 85) 5 rfl dX9_trip_83 rfl ?_
                  refine pw_iload (pc' := 87) 6 rfl dX9_trip_85 rfl ?_
                  refine pw_icmp_le (pc' := 90) (tgt := 93) rfl dX9_trip_87 (by decide) (fun q12 => ?_) (fun q12 => ?_)
                  · have h := h.1 q12
                    refine pw_aload_n (pc' := 94) 0 rfl dX9_trip_93 rfl rfl ?_
                    refine ps_getR (pc' := 97) (r := 95) rfl dX9_trip_94 fl_X9_58 ob_0 rfl rfl ?_
                    refine pw_iload_n (pc' := 98) 1 rfl dX9_trip_97 rfl rfl ?_
                    refine pw_iload_n (pc' := 99) 2 rfl dX9_trip_98 rfl rfl ?_
                    refine pw_iload (pc' := 101) 6 rfl dX9_trip_99 rfl ?_
                    refine pw_iload (pc' := 103) 4 rfl dX9_trip_101 rfl ?_
                    refine pw_iload (pc' := 105) 5 rfl dX9_trip_103 rfl ?_
                    refine ps_callVI (pc' := 108) (As := [.int a1, .int a2, .int r8, .int a4, .int a5]) (rest := []) (cT := (RX8, TX8, 6)) 5 rfl dX9_trip_105 cv_X8_roomOnTrip ml_X9_155 (by decide) rfl rfl (by decide) (Nat.le_of_ble_eq_true rfl) ob_95 rfl rfl (CA.monoI h ?_)
                    intro r13 M13 h
                    exact ps_iret dX9_trip_108 rfl h
                  · have h := h.2 q12
                    refine pw_bipush (pc' := 92) rfl dX9_trip_90 cb_m4 ?_
                    exact ps_iret dX9_trip_92 rfl h
              · have h := h.2 q10
                refine pw_iload (pc' := 76) 6 rfl dX9_trip_74 rfl ?_
                exact ps_iret dX9_trip_76 rfl h
            · have h := h.2 q9
              refine pw_bipush (pc' := 67) rfl dX9_trip_65 cb_m4 ?_
              exact ps_iret dX9_trip_67 rfl h
          · have h := h.2 q7
            refine pw_iconst (pc' := 43) rfl dX9_trip_42 ci_m1 ?_
            exact ps_iret dX9_trip_43 rfl h
theorem T_X9_servant {M : Mem} {a1 : Int32} {Q : Int32 → Mem → Prop}  (h : C_X0_hasRoom_1 M a1 (fun r0 M0 => ((¬ r0 = 0) → (((¬ (M0 30 0) = (nI 3)) → (vp_in (M0 30 0) 3 ∧ (C_X9_plansChanged (wr (wr M0 31 (ix (M0 30 0)) a1) 30 0 ((M0 30 0) + (nI 1))) (fun M4 => Q ((M4 30 0) - (nI 1)) M4)))) ∧ (((M0 30 0) = (nI 3)) → (Q (-3) M0)))) ∧ ((r0 = 0) → (Q (-1) M0)))) : C_X9_servant M a1 Q := by
  refine CA_of rfl (Nat.le_of_ble_eq_true rfl) ?_
  show PS _ _ 0 [(0, .ref 0), (1, .int a1)] [] M _
  refine pw_aload_n (pc' := 1) 0 rfl dX9_servant_0 rfl rfl ?_
  refine ps_getR (pc' := 4) (r := 1) rfl dX9_servant_1 fl_X9_10 ob_0 rfl rfl ?_
  refine pw_iload_n (pc' := 5) 1 rfl dX9_servant_4 rfl rfl ?_
  refine ps_callVI (pc' := 8) (As := [.int a1]) (rest := []) (cT := (RX0, TX0, 8)) 1 rfl dX9_servant_5 cv_X0_hasRoom ml_X9_148 (by decide) rfl rfl (by decide) (Nat.le_of_ble_eq_true rfl) ob_1 rfl rfl (CA.monoI h ?_)
  intro r0 M0 h
  refine pw_if_ne (pc' := 11) (tgt := 13) rfl dX9_servant_8 (by decide) (fun q1 => ?_) (fun q1 => ?_)
  · have h := h.1 q1
    refine pw_aload_n (pc' := 14) 0 rfl dX9_servant_13 rfl rfl ?_
    refine ps_getR (pc' := 17) (r := 30) rfl dX9_servant_14 fl_X9_19 ob_0 rfl rfl ?_
    refine ps_getI (pc' := 20) (v := (M0 30 0)) rfl dX9_servant_17 fl_X9_159 ob_30 rfl rfl ?_
    refine pw_iconst (pc' := 21) rfl dX9_servant_20 ci_3 ?_
    refine pw_icmp_ne (pc' := 24) (tgt := 27) rfl dX9_servant_21 (by decide) (fun q2 => ?_) (fun q2 => ?_)
    · have h := h.1 q2
      refine pw_aload_n (pc' := 28) 0 rfl dX9_servant_27 rfl rfl ?_
      refine ps_getR (pc' := 31) (r := 30) rfl dX9_servant_28 fl_X9_19 ob_0 rfl rfl ?_
      refine ps_getR (pc' := 34) (r := 31) rfl dX9_servant_31 fl_X9_162 ob_30 rfl rfl ?_
      refine pw_aload_n (pc' := 35) 0 rfl dX9_servant_34 rfl rfl ?_
      refine ps_getR (pc' := 38) (r := 30) rfl dX9_servant_35 fl_X9_19 ob_0 rfl rfl ?_
      refine ps_getI (pc' := 41) (v := (M0 30 0)) rfl dX9_servant_38 fl_X9_159 ob_30 rfl rfl ?_
      refine pw_iload_n (pc' := 42) 1 rfl dX9_servant_41 rfl rfl ?_
      obtain ⟨b3, h⟩ := h
      refine ps_iast (pc' := 43) rfl dX9_servant_42 ia_31 b3 ?_
      refine pw_aload_n (pc' := 44) 0 rfl dX9_servant_43 rfl rfl ?_
      refine ps_getR (pc' := 47) (r := 30) rfl dX9_servant_44 fl_X9_19 ob_0 rfl rfl ?_
      refine pw_dup (pc' := 48) rfl dX9_servant_47 rfl ?_
      refine ps_getI (pc' := 51) (v := (M0 30 0)) rfl dX9_servant_48 fl_X9_159 ob_30 rfl rfl ?_
      refine pw_iconst (pc' := 52) rfl dX9_servant_51 ci_1 ?_
      refine pw_iadd (pc' := 53) rfl dX9_servant_52 ?_
      refine ps_putI (pc' := 56) rfl dX9_servant_53 fl_X9_159 ob_30 rfl ?_
      refine pw_aload_n (pc' := 57) 0 rfl dX9_servant_56 rfl rfl ?_
      refine ps_callVV (pc' := 60) (As := []) (rest := []) (cT := (RX9, TX9, 14)) 0 rfl dX9_servant_57 cv_X9_plansChanged ml_X9_141 (by decide) rfl rfl (by decide) (Nat.le_of_ble_eq_true rfl) ob_0 rfl rfl (CA.monoV h ?_)
      intro M4 h
      refine pw_aload_n (pc' := 61) 0 rfl dX9_servant_60 rfl rfl ?_
      refine ps_getR (pc' := 64) (r := 30) rfl dX9_servant_61 fl_X9_19 ob_0 rfl rfl ?_
      refine ps_getI (pc' := 67) (v := (M4 30 0)) rfl dX9_servant_64 fl_X9_159 ob_30 rfl rfl ?_
      refine pw_iconst (pc' := 68) rfl dX9_servant_67 ci_1 ?_
      refine pw_isub (pc' := 69) rfl dX9_servant_68 ?_
      exact ps_iret dX9_servant_69 rfl h
    · have h := h.2 q2
      refine pw_bipush (pc' := 26) rfl dX9_servant_24 cb_m3 ?_
      exact ps_iret dX9_servant_26 rfl h
  · have h := h.2 q1
    refine pw_iconst (pc' := 12) rfl dX9_servant_11 ci_m1 ?_
    exact ps_iret dX9_servant_12 rfl h
theorem T_X9_ill {M : Mem} {a1 : Int32} {a2 : Int32} {Q : Int32 → Mem → Prop}  (h : C_X5_hasServant_30 M a1 (fun r0 M0 => ((¬ r0 = 0) → (((a2 = 0) → (C_X9_plansChanged (wr M0 30 1 ((M0 30 1) &&& (((nI 1) <<< (a1 &&& 31)) ^^^ (-1)))) (fun M3 => Q (((M0 30 1) >>> (a1 &&& 31)) &&& (nI 1)) M3))) ∧ ((¬ a2 = 0) → (C_X9_plansChanged (wr M0 30 1 ((M0 30 1) ||| ((nI 1) <<< (a1 &&& 31)))) (fun M3 => Q (((M0 30 1) >>> (a1 &&& 31)) &&& (nI 1)) M3))))) ∧ ((r0 = 0) → (Q (-1) M0)))) : C_X9_ill M a1 a2 Q := by
  refine CA_of rfl (Nat.le_of_ble_eq_true rfl) ?_
  show PS _ _ 0 [(0, .ref 0), (1, .int a1), (2, .int a2)] [] M _
  refine pw_aload_n (pc' := 1) 0 rfl dX9_ill_0 rfl rfl ?_
  refine ps_getR (pc' := 4) (r := 30) rfl dX9_ill_1 fl_X9_19 ob_0 rfl rfl ?_
  refine pw_iload_n (pc' := 5) 1 rfl dX9_ill_4 rfl rfl ?_
  refine ps_callVI (pc' := 8) (As := [.int a1]) (rest := []) (cT := (RX5, TX5, 10)) 1 rfl dX9_ill_5 cv_X5_hasServant ml_X9_165 (by decide) rfl rfl (by decide) (Nat.le_of_ble_eq_true rfl) ob_30 rfl rfl (CA.monoI h ?_)
  intro r0 M0 h
  refine pw_if_ne (pc' := 11) (tgt := 13) rfl dX9_ill_8 (by decide) (fun q1 => ?_) (fun q1 => ?_)
  · have h := h.1 q1
    refine pw_aload_n (pc' := 14) 0 rfl dX9_ill_13 rfl rfl ?_
    refine ps_getR (pc' := 17) (r := 30) rfl dX9_ill_14 fl_X9_19 ob_0 rfl rfl ?_
    refine ps_getI (pc' := 20) (v := (M0 30 1)) rfl dX9_ill_17 fl_X9_168 ob_30 rfl rfl ?_
    refine pw_iload_n (pc' := 21) 1 rfl dX9_ill_20 rfl rfl ?_
    refine pw_ishr (pc' := 22) rfl dX9_ill_21 ?_
    refine pw_iconst (pc' := 23) rfl dX9_ill_22 ci_1 ?_
    refine pw_iand (pc' := 24) rfl dX9_ill_23 ?_
    refine pw_istore_n (pc' := 25) (lv' := [(0, .ref 0), (1, .int a1), (2, .int a2), (3, .int (((M0 30 1) >>> (a1 &&& 31)) &&& (nI 1)))]) [1, 2, 3, 0] rfl dX9_ill_24 rfl (by decide) rfl ?_
    refine pw_aload_n (pc' := 26) 0 rfl dX9_ill_25 rfl rfl ?_
    refine ps_getR (pc' := 29) (r := 30) rfl dX9_ill_26 fl_X9_19 ob_0 rfl rfl ?_
    refine pw_iload_n (pc' := 30) 2 rfl dX9_ill_29 rfl rfl ?_
    refine pw_if_eq (pc' := 33) (tgt := 47) rfl dX9_ill_30 (by decide) (fun q2 => ?_) (fun q2 => ?_)
    · have h := h.1 q2
      refine pw_aload_n (pc' := 48) 0 rfl dX9_ill_47 rfl rfl ?_
      refine ps_getR (pc' := 51) (r := 30) rfl dX9_ill_48 fl_X9_19 ob_0 rfl rfl ?_
      refine ps_getI (pc' := 54) (v := (M0 30 1)) rfl dX9_ill_51 fl_X9_168 ob_30 rfl rfl ?_
      refine pw_iconst (pc' := 55) rfl dX9_ill_54 ci_1 ?_
      refine pw_iload_n (pc' := 56) 1 rfl dX9_ill_55 rfl rfl ?_
      refine pw_ishl (pc' := 57) rfl dX9_ill_56 ?_
      refine pw_iconst (pc' := 58) rfl dX9_ill_57 ci_m1 ?_
      refine pw_ixor (pc' := 59) rfl dX9_ill_58 ?_
      refine pw_iand (pc' := 60) rfl dX9_ill_59 ?_
      refine ps_putI (pc' := 63) rfl dX9_ill_60 fl_X9_168 ob_30 rfl ?_
      refine pw_aload_n (pc' := 64) 0 rfl dX9_ill_63 rfl rfl ?_
      refine ps_callVV (pc' := 67) (As := []) (rest := []) (cT := (RX9, TX9, 14)) 0 rfl dX9_ill_64 cv_X9_plansChanged ml_X9_141 (by decide) rfl rfl (by decide) (Nat.le_of_ble_eq_true rfl) ob_0 rfl rfl (CA.monoV h ?_)
      intro M3 h
      refine pw_iload_n (pc' := 68) 3 rfl dX9_ill_67 rfl rfl ?_
      exact ps_iret dX9_ill_68 rfl h
    · have h := h.2 q2
      refine pw_aload_n (pc' := 34) 0 rfl dX9_ill_33 rfl rfl ?_
      refine ps_getR (pc' := 37) (r := 30) rfl dX9_ill_34 fl_X9_19 ob_0 rfl rfl ?_
      refine ps_getI (pc' := 40) (v := (M0 30 1)) rfl dX9_ill_37 fl_X9_168 ob_30 rfl rfl ?_
      refine pw_iconst (pc' := 41) rfl dX9_ill_40 ci_1 ?_
      refine pw_iload_n (pc' := 42) 1 rfl dX9_ill_41 rfl rfl ?_
      refine pw_ishl (pc' := 43) rfl dX9_ill_42 ?_
      refine pw_ior (pc' := 44) rfl dX9_ill_43 ?_
      refine pw_goto (tgt := 60) dX9_ill_44 (by decide) ?_
      refine ps_putI (pc' := 63) rfl dX9_ill_60 fl_X9_168 ob_30 rfl ?_
      refine pw_aload_n (pc' := 64) 0 rfl dX9_ill_63 rfl rfl ?_
      refine ps_callVV (pc' := 67) (As := []) (rest := []) (cT := (RX9, TX9, 14)) 0 rfl dX9_ill_64 cv_X9_plansChanged ml_X9_141 (by decide) rfl rfl (by decide) (Nat.le_of_ble_eq_true rfl) ob_0 rfl rfl (CA.monoV h ?_)
      intro M3 h
      refine pw_iload_n (pc' := 68) 3 rfl dX9_ill_67 rfl rfl ?_
      exact ps_iret dX9_ill_68 rfl h
  · have h := h.2 q1
    refine pw_iconst (pc' := 12) rfl dX9_ill_11 ci_m1 ?_
    exact ps_iret dX9_ill_12 rfl h
theorem T_X9_cellar {M : Mem} {a1 : Int32} {Q : Int32 → Mem → Prop}  (h : C_X0_hasRoom_1 M a1 (fun r0 M0 => ((¬ r0 = 0) → (C_X9_plansChanged (wr M0 30 2 a1) (fun M2 => Q (M0 30 2) M2))) ∧ ((r0 = 0) → (Q (-1) M0)))) : C_X9_cellar M a1 Q := by
  refine CA_of rfl (Nat.le_of_ble_eq_true rfl) ?_
  show PS _ _ 0 [(0, .ref 0), (1, .int a1)] [] M _
  refine pw_aload_n (pc' := 1) 0 rfl dX9_cellar_0 rfl rfl ?_
  refine ps_getR (pc' := 4) (r := 1) rfl dX9_cellar_1 fl_X9_10 ob_0 rfl rfl ?_
  refine pw_iload_n (pc' := 5) 1 rfl dX9_cellar_4 rfl rfl ?_
  refine ps_callVI (pc' := 8) (As := [.int a1]) (rest := []) (cT := (RX0, TX0, 8)) 1 rfl dX9_cellar_5 cv_X0_hasRoom ml_X9_148 (by decide) rfl rfl (by decide) (Nat.le_of_ble_eq_true rfl) ob_1 rfl rfl (CA.monoI h ?_)
  intro r0 M0 h
  refine pw_if_ne (pc' := 11) (tgt := 13) rfl dX9_cellar_8 (by decide) (fun q1 => ?_) (fun q1 => ?_)
  · have h := h.1 q1
    refine pw_aload_n (pc' := 14) 0 rfl dX9_cellar_13 rfl rfl ?_
    refine ps_getR (pc' := 17) (r := 30) rfl dX9_cellar_14 fl_X9_19 ob_0 rfl rfl ?_
    refine ps_getI (pc' := 20) (v := (M0 30 2)) rfl dX9_cellar_17 fl_X9_171 ob_30 rfl rfl ?_
    refine pw_istore_n (pc' := 21) (lv' := [(0, .ref 0), (1, .int a1), (2, .int (M0 30 2))]) [1, 2, 0] rfl dX9_cellar_20 rfl (by decide) rfl ?_
    refine pw_aload_n (pc' := 22) 0 rfl dX9_cellar_21 rfl rfl ?_
    refine ps_getR (pc' := 25) (r := 30) rfl dX9_cellar_22 fl_X9_19 ob_0 rfl rfl ?_
    refine pw_iload_n (pc' := 26) 1 rfl dX9_cellar_25 rfl rfl ?_
    refine ps_putI (pc' := 29) rfl dX9_cellar_26 fl_X9_171 ob_30 rfl ?_
    refine pw_aload_n (pc' := 30) 0 rfl dX9_cellar_29 rfl rfl ?_
    refine ps_callVV (pc' := 33) (As := []) (rest := []) (cT := (RX9, TX9, 14)) 0 rfl dX9_cellar_30 cv_X9_plansChanged ml_X9_141 (by decide) rfl rfl (by decide) (Nat.le_of_ble_eq_true rfl) ob_0 rfl rfl (CA.monoV h ?_)
    intro M2 h
    refine pw_iload_n (pc' := 34) 2 rfl dX9_cellar_33 rfl rfl ?_
    exact ps_iret dX9_cellar_34 rfl h
  · have h := h.2 q1
    refine pw_iconst (pc' := 12) rfl dX9_cellar_11 ci_m1 ?_
    exact ps_iret dX9_cellar_12 rfl h
theorem T_X9_errand {M : Mem} {a1 : Int32} {a2 : Int32} {a3 : Int32} {a4 : Int32} {a5 : Int32} {Q : Int32 → Mem → Prop}  (h : C_X9_isErrand M a1 a2 a3 a4 a5 (fun r0 M0 => ((¬ r0 = 0) → (((¬ (M0 30 3) = (nI 5)) → (C_X5_addErrand_30 M0 a1 a2 a3 a4 a5 (fun M3 => C_X9_plansChanged M3 (fun M4 => Q ((M4 30 3) - (nI 1)) M4)))) ∧ (((M0 30 3) = (nI 5)) → (Q (-3) M0)))) ∧ ((r0 = 0) → (Q (-1) M0)))) : C_X9_errand M a1 a2 a3 a4 a5 Q := by
  refine CA_of rfl (Nat.le_of_ble_eq_true rfl) ?_
  show PS _ _ 0 [(0, .ref 0), (1, .int a1), (2, .int a2), (3, .int a3), (4, .int a4), (5, .int a5)] [] M _
  refine pw_aload_n (pc' := 1) 0 rfl dX9_errand_0 rfl rfl ?_
  refine pw_iload_n (pc' := 2) 1 rfl dX9_errand_1 rfl rfl ?_
  refine pw_iload_n (pc' := 3) 2 rfl dX9_errand_2 rfl rfl ?_
  refine pw_iload_n (pc' := 4) 3 rfl dX9_errand_3 rfl rfl ?_
  refine pw_iload (pc' := 6) 4 rfl dX9_errand_4 rfl ?_
  refine pw_iload (pc' := 8) 5 rfl dX9_errand_6 rfl ?_
  refine ps_callVI (pc' := 11) (As := [.int a1, .int a2, .int a3, .int a4, .int a5]) (rest := []) (cT := (RX9, TX9, 14)) 5 rfl dX9_errand_8 cv_X9_isErrand ml_X9_174 (by decide) rfl rfl (by decide) (Nat.le_of_ble_eq_true rfl) ob_0 rfl rfl (CA.monoI h ?_)
  intro r0 M0 h
  refine pw_if_ne (pc' := 14) (tgt := 16) rfl dX9_errand_11 (by decide) (fun q1 => ?_) (fun q1 => ?_)
  · have h := h.1 q1
    refine pw_aload_n (pc' := 17) 0 rfl dX9_errand_16 rfl rfl ?_
    refine ps_getR (pc' := 20) (r := 30) rfl dX9_errand_17 fl_X9_19 ob_0 rfl rfl ?_
    refine ps_getI (pc' := 23) (v := (M0 30 3)) rfl dX9_errand_20 fl_X9_178 ob_30 rfl rfl ?_
    refine pw_iconst (pc' := 24) rfl dX9_errand_23 ci_5 ?_
    refine pw_icmp_ne (pc' := 27) (tgt := 30) rfl dX9_errand_24 (by decide) (fun q2 => ?_) (fun q2 => ?_)
    · have h := h.1 q2
      refine pw_aload_n (pc' := 31) 0 rfl dX9_errand_30 rfl rfl ?_
      refine ps_getR (pc' := 34) (r := 30) rfl dX9_errand_31 fl_X9_19 ob_0 rfl rfl ?_
      refine pw_iload_n (pc' := 35) 1 rfl dX9_errand_34 rfl rfl ?_
      refine pw_iload_n (pc' := 36) 2 rfl dX9_errand_35 rfl rfl ?_
      refine pw_iload_n (pc' := 37) 3 rfl dX9_errand_36 rfl rfl ?_
      refine pw_iload (pc' := 39) 4 rfl dX9_errand_37 rfl ?_
      refine pw_iload (pc' := 41) 5 rfl dX9_errand_39 rfl ?_
      refine ps_callVV (pc' := 44) (As := [.int a1, .int a2, .int a3, .int a4, .int a5]) (rest := []) (cT := (RX5, TX5, 10)) 5 rfl dX9_errand_41 cv_X5_addErrand ml_X9_181 (by decide) rfl rfl (by decide) (Nat.le_of_ble_eq_true rfl) ob_30 rfl rfl (CA.monoV h ?_)
      intro M3 h
      refine pw_aload_n (pc' := 45) 0 rfl dX9_errand_44 rfl rfl ?_
      refine ps_callVV (pc' := 48) (As := []) (rest := []) (cT := (RX9, TX9, 14)) 0 rfl dX9_errand_45 cv_X9_plansChanged ml_X9_141 (by decide) rfl rfl (by decide) (Nat.le_of_ble_eq_true rfl) ob_0 rfl rfl (CA.monoV h ?_)
      intro M4 h
      refine pw_aload_n (pc' := 49) 0 rfl dX9_errand_48 rfl rfl ?_
      refine ps_getR (pc' := 52) (r := 30) rfl dX9_errand_49 fl_X9_19 ob_0 rfl rfl ?_
      refine ps_getI (pc' := 55) (v := (M4 30 3)) rfl dX9_errand_52 fl_X9_178 ob_30 rfl rfl ?_
      refine pw_iconst (pc' := 56) rfl dX9_errand_55 ci_1 ?_
      refine pw_isub (pc' := 57) rfl dX9_errand_56 ?_
      exact ps_iret dX9_errand_57 rfl h
    · have h := h.2 q2
      refine pw_bipush (pc' := 29) rfl dX9_errand_27 cb_m3 ?_
      exact ps_iret dX9_errand_29 rfl h
  · have h := h.2 q1
    refine pw_iconst (pc' := 15) rfl dX9_errand_14 ci_m1 ?_
    exact ps_iret dX9_errand_15 rfl h
theorem T_X9_isErrand {M : Mem} {a1 : Int32} {a2 : Int32} {a3 : Int32} {a4 : Int32} {a5 : Int32} {Q : Int32 → Mem → Prop}  (h : ((a1 = 0) → (C_X0_hasRoom_1 M a2 (fun r1 M1 => ((r1 = 0) → (Q (nI 0) M1)) ∧ ((¬ r1 = 0) → (((a3 < (nI 1)) → (Q (nI 0) M1)) ∧ ((¬ a3 < (nI 1)) → ((((nI 9) < a3) → (Q (nI 0) M1)) ∧ ((¬ (nI 9) < a3) → (C_X9_isTick M1 a4 (fun r5 M5 => ((r5 = 0) → (Q (nI 0) M5)) ∧ ((¬ r5 = 0) → (C_X9_isTick M5 a5 (fun r7 M7 => ((r7 = 0) → (Q (nI 0) M7)) ∧ ((¬ r7 = 0) → (((a5 < a4) → (Q (nI 0) M7)) ∧ ((¬ a5 < a4) → (Q (nI 1) M7))))))))))))))))) ∧ ((¬ a1 = 0) → (((¬ a1 = (nI 1)) → (Q (nI 0) M)) ∧ ((a1 = (nI 1)) → (C_X0_hasRoom_1 M a2 (fun r2 M2 => ((r2 = 0) → (Q (nI 0) M2)) ∧ ((¬ r2 = 0) → (((a3 < (nI 1)) → (Q (nI 0) M2)) ∧ ((¬ a3 < (nI 1)) → ((((nI 9) < a3) → (Q (nI 0) M2)) ∧ ((¬ (nI 9) < a3) → (C_X9_isTick M2 a4 (fun r6 M6 => ((r6 = 0) → (Q (nI 0) M6)) ∧ ((¬ r6 = 0) → (C_X9_isTick M6 a5 (fun r8 M8 => ((r8 = 0) → (Q (nI 0) M8)) ∧ ((¬ r8 = 0) → (((a5 < a4) → (Q (nI 0) M8)) ∧ ((¬ a5 < a4) → (Q (nI 1) M8)))))))))))))))))))) : C_X9_isErrand M a1 a2 a3 a4 a5 Q := by
  refine CA_of rfl (Nat.le_of_ble_eq_true rfl) ?_
  show PS _ _ 0 [(0, .ref 0), (1, .int a1), (2, .int a2), (3, .int a3), (4, .int a4), (5, .int a5)] [] M _
  refine pw_iload_n (pc' := 1) 1 rfl dX9_isErrand_0 rfl rfl ?_
  refine pw_if_eq (pc' := 4) (tgt := 9) rfl dX9_isErrand_1 (by decide) (fun q0 => ?_) (fun q0 => ?_)
  · have h := h.1 q0
    refine pw_aload_n (pc' := 10) 0 rfl dX9_isErrand_9 rfl rfl ?_
    refine ps_getR (pc' := 13) (r := 1) rfl dX9_isErrand_10 fl_X9_10 ob_0 rfl rfl ?_
    refine pw_iload_n (pc' := 14) 2 rfl dX9_isErrand_13 rfl rfl ?_
    refine ps_callVI (pc' := 17) (As := [.int a2]) (rest := []) (cT := (RX0, TX0, 8)) 1 rfl dX9_isErrand_14 cv_X0_hasRoom ml_X9_148 (by decide) rfl rfl (by decide) (Nat.le_of_ble_eq_true rfl) ob_1 rfl rfl (CA.monoI h ?_)
    intro r1 M1 h
    refine pw_if_eq (pc' := 20) (tgt := 58) rfl dX9_isErrand_17 (by decide) (fun q2 => ?_) (fun q2 => ?_)
    · have h := h.1 q2
      refine pw_iconst (pc' := 59) rfl dX9_isErrand_58 ci_0 ?_
      exact ps_zret dX9_isErrand_59 rfl (by decide) h
    · have h := h.2 q2
      refine pw_iload_n (pc' := 21) 3 rfl dX9_isErrand_20 rfl rfl ?_
      refine pw_iconst (pc' := 22) rfl dX9_isErrand_21 ci_1 ?_
      refine pw_icmp_lt (pc' := 25) (tgt := 58) rfl dX9_isErrand_22 (by decide) (fun q3 => ?_) (fun q3 => ?_)
      · have h := h.1 q3
        refine pw_iconst (pc' := 59) rfl dX9_isErrand_58 ci_0 ?_
        exact ps_zret dX9_isErrand_59 rfl (by decide) h
      · have h := h.2 q3
        refine pw_iload_n (pc' := 26) 3 rfl dX9_isErrand_25 rfl rfl ?_
        refine pw_bipush (pc' := 28) rfl dX9_isErrand_26 cb_9 ?_
        refine pw_icmp_gt (pc' := 31) (tgt := 58) rfl dX9_isErrand_28 (by decide) (fun q4 => ?_) (fun q4 => ?_)
        · have h := h.1 q4
          refine pw_iconst (pc' := 59) rfl dX9_isErrand_58 ci_0 ?_
          exact ps_zret dX9_isErrand_59 rfl (by decide) h
        · have h := h.2 q4
          refine pw_iload (pc' := 33) 4 rfl dX9_isErrand_31 rfl ?_
          refine ps_callSI (pc' := 36) (As := [.int a4]) (rest := []) 1 rfl dX9_isErrand_33 cs_X9_isTick ml_X9_144 (by decide) rfl rfl (by decide) (Nat.le_of_ble_eq_true rfl) (CA.monoI h ?_)
          intro r5 M5 h
          refine pw_if_eq (pc' := 39) (tgt := 58) rfl dX9_isErrand_36 (by decide) (fun q6 => ?_) (fun q6 => ?_)
          · have h := h.1 q6
            refine pw_iconst (pc' := 59) rfl dX9_isErrand_58 ci_0 ?_
            exact ps_zret dX9_isErrand_59 rfl (by decide) h
          · have h := h.2 q6
            refine pw_iload (pc' := 41) 5 rfl dX9_isErrand_39 rfl ?_
            refine ps_callSI (pc' := 44) (As := [.int a5]) (rest := []) 1 rfl dX9_isErrand_41 cs_X9_isTick ml_X9_144 (by decide) rfl rfl (by decide) (Nat.le_of_ble_eq_true rfl) (CA.monoI h ?_)
            intro r7 M7 h
            refine pw_if_eq (pc' := 47) (tgt := 58) rfl dX9_isErrand_44 (by decide) (fun q8 => ?_) (fun q8 => ?_)
            · have h := h.1 q8
              refine pw_iconst (pc' := 59) rfl dX9_isErrand_58 ci_0 ?_
              exact ps_zret dX9_isErrand_59 rfl (by decide) h
            · have h := h.2 q8
              refine pw_iload (pc' := 49) 5 rfl dX9_isErrand_47 rfl ?_
              refine pw_iload (pc' := 51) 4 rfl dX9_isErrand_49 rfl ?_
              refine pw_icmp_lt (pc' := 54) (tgt := 58) rfl dX9_isErrand_51 (by decide) (fun q9 => ?_) (fun q9 => ?_)
              · have h := h.1 q9
                refine pw_iconst (pc' := 59) rfl dX9_isErrand_58 ci_0 ?_
                exact ps_zret dX9_isErrand_59 rfl (by decide) h
              · have h := h.2 q9
                refine pw_iconst (pc' := 55) rfl dX9_isErrand_54 ci_1 ?_
                refine pw_goto (tgt := 59) dX9_isErrand_55 (by decide) ?_
                exact ps_zret dX9_isErrand_59 rfl (by decide) h
  · have h := h.2 q0
    refine pw_iload_n (pc' := 5) 1 rfl dX9_isErrand_4 rfl rfl ?_
    refine pw_iconst (pc' := 6) rfl dX9_isErrand_5 ci_1 ?_
    refine pw_icmp_ne (pc' := 9) (tgt := 58) rfl dX9_isErrand_6 (by decide) (fun q1 => ?_) (fun q1 => ?_)
    · have h := h.1 q1
      refine pw_iconst (pc' := 59) rfl dX9_isErrand_58 ci_0 ?_
      exact ps_zret dX9_isErrand_59 rfl (by decide) h
    · have h := h.2 q1
      refine pw_aload_n (pc' := 10) 0 rfl dX9_isErrand_9 rfl rfl ?_
      refine ps_getR (pc' := 13) (r := 1) rfl dX9_isErrand_10 fl_X9_10 ob_0 rfl rfl ?_
      refine pw_iload_n (pc' := 14) 2 rfl dX9_isErrand_13 rfl rfl ?_
      refine ps_callVI (pc' := 17) (As := [.int a2]) (rest := []) (cT := (RX0, TX0, 8)) 1 rfl dX9_isErrand_14 cv_X0_hasRoom ml_X9_148 (by decide) rfl rfl (by decide) (Nat.le_of_ble_eq_true rfl) ob_1 rfl rfl (CA.monoI h ?_)
      intro r2 M2 h
      refine pw_if_eq (pc' := 20) (tgt := 58) rfl dX9_isErrand_17 (by decide) (fun q3 => ?_) (fun q3 => ?_)
      · have h := h.1 q3
        refine pw_iconst (pc' := 59) rfl dX9_isErrand_58 ci_0 ?_
        exact ps_zret dX9_isErrand_59 rfl (by decide) h
      · have h := h.2 q3
        refine pw_iload_n (pc' := 21) 3 rfl dX9_isErrand_20 rfl rfl ?_
        refine pw_iconst (pc' := 22) rfl dX9_isErrand_21 ci_1 ?_
        refine pw_icmp_lt (pc' := 25) (tgt := 58) rfl dX9_isErrand_22 (by decide) (fun q4 => ?_) (fun q4 => ?_)
        · have h := h.1 q4
          refine pw_iconst (pc' := 59) rfl dX9_isErrand_58 ci_0 ?_
          exact ps_zret dX9_isErrand_59 rfl (by decide) h
        · have h := h.2 q4
          refine pw_iload_n (pc' := 26) 3 rfl dX9_isErrand_25 rfl rfl ?_
          refine pw_bipush (pc' := 28) rfl dX9_isErrand_26 cb_9 ?_
          refine pw_icmp_gt (pc' := 31) (tgt := 58) rfl dX9_isErrand_28 (by decide) (fun q5 => ?_) (fun q5 => ?_)
          · have h := h.1 q5
            refine pw_iconst (pc' := 59) rfl dX9_isErrand_58 ci_0 ?_
            exact ps_zret dX9_isErrand_59 rfl (by decide) h
          · have h := h.2 q5
            refine pw_iload (pc' := 33) 4 rfl dX9_isErrand_31 rfl ?_
            refine ps_callSI (pc' := 36) (As := [.int a4]) (rest := []) 1 rfl dX9_isErrand_33 cs_X9_isTick ml_X9_144 (by decide) rfl rfl (by decide) (Nat.le_of_ble_eq_true rfl) (CA.monoI h ?_)
            intro r6 M6 h
            refine pw_if_eq (pc' := 39) (tgt := 58) rfl dX9_isErrand_36 (by decide) (fun q7 => ?_) (fun q7 => ?_)
            · have h := h.1 q7
              refine pw_iconst (pc' := 59) rfl dX9_isErrand_58 ci_0 ?_
              exact ps_zret dX9_isErrand_59 rfl (by decide) h
            · have h := h.2 q7
              refine pw_iload (pc' := 41) 5 rfl dX9_isErrand_39 rfl ?_
              refine ps_callSI (pc' := 44) (As := [.int a5]) (rest := []) 1 rfl dX9_isErrand_41 cs_X9_isTick ml_X9_144 (by decide) rfl rfl (by decide) (Nat.le_of_ble_eq_true rfl) (CA.monoI h ?_)
              intro r8 M8 h
              refine pw_if_eq (pc' := 47) (tgt := 58) rfl dX9_isErrand_44 (by decide) (fun q9 => ?_) (fun q9 => ?_)
              · have h := h.1 q9
                refine pw_iconst (pc' := 59) rfl dX9_isErrand_58 ci_0 ?_
                exact ps_zret dX9_isErrand_59 rfl (by decide) h
              · have h := h.2 q9
                refine pw_iload (pc' := 49) 5 rfl dX9_isErrand_47 rfl ?_
                refine pw_iload (pc' := 51) 4 rfl dX9_isErrand_49 rfl ?_
                refine pw_icmp_lt (pc' := 54) (tgt := 58) rfl dX9_isErrand_51 (by decide) (fun q10 => ?_) (fun q10 => ?_)
                · have h := h.1 q10
                  refine pw_iconst (pc' := 59) rfl dX9_isErrand_58 ci_0 ?_
                  exact ps_zret dX9_isErrand_59 rfl (by decide) h
                · have h := h.2 q10
                  refine pw_iconst (pc' := 55) rfl dX9_isErrand_54 ci_1 ?_
                  refine pw_goto (tgt := 59) dX9_isErrand_55 (by decide) ?_
                  exact ps_zret dX9_isErrand_59 rfl (by decide) h
theorem T_X9_told {M : Mem} {a1 : Int32} {a2 : Int32} {Q : Int32 → Mem → Prop}  (h : C_X5_hasErrand_30 M a1 (fun r0 M0 => ((r0 = 0) → (Q (-1) M0)) ∧ ((¬ r0 = 0) → (((a2 < 0) → (Q (-1) M0)) ∧ ((¬ a2 < 0) → (((a2 ≤ (nI 7)) → ((((nI 5) ≤ a2) → (((¬ a2 = (nI 7)) → (C_X5_well_30 M0 (fun r6 M6 => ((¬ r6 = 0) → (C_X3_prepare M6 (fun M8 => ((¬ a2 = (nI 5)) → (((¬ a2 = (nI 6)) → (vp_in a1 5 ∧ (((¬ (M8 129 (ix a1)) = (nI 24)) → (Q (M8 129 (ix a1)) M8)) ∧ (((M8 129 (ix a1)) = (nI 24)) → (Q (-4) M8))))) ∧ ((a2 = (nI 6)) → (vp_in a1 5 ∧ (((¬ (M8 128 (ix a1)) = (nI 24)) → (Q (M8 128 (ix a1)) M8)) ∧ (((M8 128 (ix a1)) = (nI 24)) → (Q (-4) M8))))))) ∧ ((a2 = (nI 5)) → (vp_in a1 5 ∧ (Q (M8 127 (ix a1)) M8)))))) ∧ ((r6 = 0) → (Q (-2) M6))))) ∧ ((a2 = (nI 7)) → (vp_in a1 5 ∧ ((((M0 32 (ix a1)) = (nI 1)) → (C_X5_well_30 M0 (fun r8 M8 => ((¬ r8 = 0) → (C_X3_prepare M8 (fun M10 => ((¬ a2 = (nI 5)) → (((¬ a2 = (nI 6)) → (((¬ (M10 129 (ix a1)) = (nI 24)) → (Q (M10 129 (ix a1)) M10)) ∧ (((M10 129 (ix a1)) = (nI 24)) → (Q (-4) M10)))) ∧ ((a2 = (nI 6)) → (((¬ (M10 128 (ix a1)) = (nI 24)) → (Q (M10 128 (ix a1)) M10)) ∧ (((M10 128 (ix a1)) = (nI 24)) → (Q (-4) M10)))))) ∧ ((a2 = (nI 5)) → (Q (M10 127 (ix a1)) M10))))) ∧ ((r8 = 0) → (Q (-2) M8))))) ∧ ((¬ (M0 32 (ix a1)) = (nI 1)) → (Q (-12) M0))))))) ∧ ((¬ (nI 5) ≤ a2) → (C_X5_asTold_30 M0 a1 a2 (fun r5 M5 => Q r5 M5))))) ∧ ((¬ a2 ≤ (nI 7)) → (Q (-1) M0)))))))) : C_X9_told M a1 a2 Q := by
  refine CA_of rfl (Nat.le_of_ble_eq_true rfl) ?_
  show PS _ _ 0 [(0, .ref 0), (1, .int a1), (2, .int a2)] [] M _
  refine pw_aload_n (pc' := 1) 0 rfl dX9_told_0 rfl rfl ?_
  refine ps_getR (pc' := 4) (r := 30) rfl dX9_told_1 fl_X9_19 ob_0 rfl rfl ?_
  refine pw_iload_n (pc' := 5) 1 rfl dX9_told_4 rfl rfl ?_
  refine ps_callVI (pc' := 8) (As := [.int a1]) (rest := []) (cT := (RX5, TX5, 10)) 1 rfl dX9_told_5 cv_X5_hasErrand ml_X9_185 (by decide) rfl rfl (by decide) (Nat.le_of_ble_eq_true rfl) ob_30 rfl rfl (CA.monoI h ?_)
  intro r0 M0 h
  refine pw_if_eq (pc' := 11) (tgt := 21) rfl dX9_told_8 (by decide) (fun q1 => ?_) (fun q1 => ?_)
  · have h := h.1 q1
    refine pw_iconst (pc' := 22) rfl dX9_told_21 ci_m1 ?_
    exact ps_iret dX9_told_22 rfl h
  · have h := h.2 q1
    refine pw_iload_n (pc' := 12) 2 rfl dX9_told_11 rfl rfl ?_
    refine pw_if_lt (pc' := 15) (tgt := 21) rfl dX9_told_12 (by decide) (fun q2 => ?_) (fun q2 => ?_)
    · have h := h.1 q2
      refine pw_iconst (pc' := 22) rfl dX9_told_21 ci_m1 ?_
      exact ps_iret dX9_told_22 rfl h
    · have h := h.2 q2
      refine pw_iload_n (pc' := 16) 2 rfl dX9_told_15 rfl rfl ?_
      refine pw_bipush (pc' := 18) rfl dX9_told_16 cb_7 ?_
      refine pw_icmp_le (pc' := 21) (tgt := 23) rfl dX9_told_18 (by decide) (fun q3 => ?_) (fun q3 => ?_)
      · have h := h.1 q3
        refine pw_iload_n (pc' := 24) 2 rfl dX9_told_23 rfl rfl ?_
        refine pw_iconst (pc' := 25) rfl dX9_told_24 ci_5 ?_
        refine pw_icmp_ge (pc' := 28) (tgt := 38) rfl dX9_told_25 (by decide) (fun q4 => ?_) (fun q4 => ?_)
        · have h := h.1 q4
          refine pw_iload_n (pc' := 39) 2 rfl dX9_told_38 rfl rfl ?_
          refine pw_bipush (pc' := 41) rfl dX9_told_39 cb_7 ?_
          refine pw_icmp_ne (pc' := 44) (tgt := 60) rfl dX9_told_41 (by decide) (fun q5 => ?_) (fun q5 => ?_)
          · have h := h.1 q5
            refine pw_aload_n (pc' := 61) 0 rfl dX9_told_60 rfl rfl ?_
            refine ps_getR (pc' := 64) (r := 30) rfl dX9_told_61 fl_X9_19 ob_0 rfl rfl ?_
            refine ps_callVI (pc' := 67) (As := []) (rest := []) (cT := (RX5, TX5, 10)) 0 rfl dX9_told_64 cv_X5_well ml_X9_194 (by decide) rfl rfl (by decide) (Nat.le_of_ble_eq_true rfl) ob_30 rfl rfl (CA.monoI h ?_)
            intro r6 M6 h
            refine pw_if_ne (pc' := 70) (tgt := 73) rfl dX9_told_67 (by decide) (fun q7 => ?_) (fun q7 => ?_)
            · have h := h.1 q7
              refine pw_aload_n (pc' := 74) 0 rfl dX9_told_73 rfl rfl ?_
              refine ps_getR (pc' := 77) (r := 124) rfl dX9_told_74 fl_X9_67 ob_0 rfl rfl ?_
              refine ps_callVV (pc' := 80) (As := []) (rest := []) (cT := (RX3, TX3, 12)) 0 rfl dX9_told_77 cv_X3_prepare ml_X9_198 (by decide) rfl rfl (by decide) (Nat.le_of_ble_eq_true rfl) ob_124 rfl rfl (CA.monoV h ?_)
              intro M8 h
              refine pw_iload_n (pc' := 81) 2 rfl dX9_told_80 rfl rfl ?_
              refine pw_iconst (pc' := 82) rfl dX9_told_81 ci_5 ?_
              refine pw_icmp_ne (pc' := 85) (tgt := 98) rfl dX9_told_82 (by decide) (fun q9 => ?_) (fun q9 => ?_)
              · have h := h.1 q9
                refine pw_iload_n (pc' := 99) 2 rfl dX9_told_98 rfl rfl ?_
                refine pw_bipush (pc' := 101) rfl dX9_told_99 cb_6 ?_
                refine pw_icmp_ne (pc' := 104) (tgt := 119) rfl dX9_told_101 (by decide) (fun q10 => ?_) (fun q10 => ?_)
                · have h := h.1 q10
                  refine pw_aload_n (pc' := 120) 0 rfl dX9_told_119 rfl rfl ?_
                  refine ps_getR (pc' := 123) (r := 124) rfl dX9_told_120 fl_X9_67 ob_0 rfl rfl ?_
                  refine ps_getR (pc' := 126) (r := 125) rfl dX9_told_123 fl_X9_201 ob_124 rfl rfl ?_
                  refine ps_getR (pc' := 129) (r := 129) rfl dX9_told_126 fl_X9_213 ob_125 rfl rfl ?_
                  refine pw_iload_n (pc' := 130) 1 rfl dX9_told_129 rfl rfl ?_
                  obtain ⟨b11, h⟩ := h
                  refine ps_iald (pc' := 131) (v := (M8 129 (ix a1))) rfl dX9_told_130 ia_129 b11 rfl ?_
                  refine pw_istore_n (pc' := 132) (lv' := [(0, .ref 0), (1, .int a1), (2, .int a2), (3, .int (M8 129 (ix a1)))]) [1, 2, 3, 0] rfl dX9_told_131 rfl (by decide) rfl ?_
                  refine pw_iload_n (pc' := 133) 3 rfl dX9_told_132 rfl rfl ?_
                  refine pw_bipush (pc' := 135) rfl dX9_told_133 cb_24 ?_
                  refine pw_icmp_ne (pc' := 138) (tgt := 143) rfl dX9_told_135 (by decide) (fun q12 => ?_) (fun q12 => ?_)
                  · have h := h.1 q12
                    refine pw_iload_n (pc' := 144) 3 rfl dX9_told_143 rfl rfl ?_
                    exact ps_iret dX9_told_144 rfl h
                  · have h := h.2 q12
                    refine pw_bipush (pc' := 140) rfl dX9_told_138 cb_m4 ?_
                    refine pw_goto (tgt := 144) dX9_told_140 (by decide) ?_
                    exact ps_iret dX9_told_144 rfl h
                · have h := h.2 q10
                  refine pw_aload_n (pc' := 105) 0 rfl dX9_told_104 rfl rfl ?_
                  refine ps_getR (pc' := 108) (r := 124) rfl dX9_told_105 fl_X9_67 ob_0 rfl rfl ?_
                  refine ps_getR (pc' := 111) (r := 125) rfl dX9_told_108 fl_X9_201 ob_124 rfl rfl ?_
                  refine ps_getR (pc' := 114) (r := 128) rfl dX9_told_111 fl_X9_210 ob_125 rfl rfl ?_
                  refine pw_iload_n (pc' := 115) 1 rfl dX9_told_114 rfl rfl ?_
                  obtain ⟨b11, h⟩ := h
                  refine ps_iald (pc' := 116) (v := (M8 128 (ix a1))) rfl dX9_told_115 ia_128 b11 rfl ?_
                  refine pw_goto (tgt := 131) dX9_told_116 (by decide) ?_
                  refine pw_istore_n (pc' := 132) (lv' := [(0, .ref 0), (1, .int a1), (2, .int a2), (3, .int (M8 128 (ix a1)))]) [1, 2, 3, 0] rfl dX9_told_131 rfl (by decide) rfl ?_
                  refine pw_iload_n (pc' := 133) 3 rfl dX9_told_132 rfl rfl ?_
                  refine pw_bipush (pc' := 135) rfl dX9_told_133 cb_24 ?_
                  refine pw_icmp_ne (pc' := 138) (tgt := 143) rfl dX9_told_135 (by decide) (fun q12 => ?_) (fun q12 => ?_)
                  · have h := h.1 q12
                    refine pw_iload_n (pc' := 144) 3 rfl dX9_told_143 rfl rfl ?_
                    exact ps_iret dX9_told_144 rfl h
                  · have h := h.2 q12
                    refine pw_bipush (pc' := 140) rfl dX9_told_138 cb_m4 ?_
                    refine pw_goto (tgt := 144) dX9_told_140 (by decide) ?_
                    exact ps_iret dX9_told_144 rfl h
              · have h := h.2 q9
                refine pw_aload_n (pc' := 86) 0 rfl dX9_told_85 rfl rfl ?_
                refine ps_getR (pc' := 89) (r := 124) rfl dX9_told_86 fl_X9_67 ob_0 rfl rfl ?_
                refine ps_getR (pc' := 92) (r := 125) rfl dX9_told_89 fl_X9_201 ob_124 rfl rfl ?_
                refine ps_getR (pc' := 95) (r := 127) rfl dX9_told_92 fl_X9_205 ob_125 rfl rfl ?_
                refine pw_iload_n (pc' := 96) 1 rfl dX9_told_95 rfl rfl ?_
                obtain ⟨b10, h⟩ := h
                refine ps_iald (pc' := 97) (v := (M8 127 (ix a1))) rfl dX9_told_96 ia_127 b10 rfl ?_
                exact ps_iret dX9_told_97 rfl h
            · have h := h.2 q7
              refine pw_bipush (pc' := 72) rfl dX9_told_70 cb_m2 ?_
              exact ps_iret dX9_told_72 rfl h
          · have h := h.2 q5
            refine pw_aload_n (pc' := 45) 0 rfl dX9_told_44 rfl rfl ?_
            refine ps_getR (pc' := 48) (r := 30) rfl dX9_told_45 fl_X9_19 ob_0 rfl rfl ?_
            refine ps_getR (pc' := 51) (r := 32) rfl dX9_told_48 fl_X9_191 ob_30 rfl rfl ?_
            refine pw_iload_n (pc' := 52) 1 rfl dX9_told_51 rfl rfl ?_
            obtain ⟨b6, h⟩ := h
            refine ps_iald (pc' := 53) (v := (M0 32 (ix a1))) rfl dX9_told_52 ia_32 b6 rfl ?_
            refine pw_iconst (pc' := 54) rfl dX9_told_53 ci_1 ?_
            refine pw_icmp_eq (pc' := 57) (tgt := 60) rfl dX9_told_54 (by decide) (fun q7 => ?_) (fun q7 => ?_)
            · have h := h.1 q7
              refine pw_aload_n (pc' := 61) 0 rfl dX9_told_60 rfl rfl ?_
              refine ps_getR (pc' := 64) (r := 30) rfl dX9_told_61 fl_X9_19 ob_0 rfl rfl ?_
              refine ps_callVI (pc' := 67) (As := []) (rest := []) (cT := (RX5, TX5, 10)) 0 rfl dX9_told_64 cv_X5_well ml_X9_194 (by decide) rfl rfl (by decide) (Nat.le_of_ble_eq_true rfl) ob_30 rfl rfl (CA.monoI h ?_)
              intro r8 M8 h
              refine pw_if_ne (pc' := 70) (tgt := 73) rfl dX9_told_67 (by decide) (fun q9 => ?_) (fun q9 => ?_)
              · have h := h.1 q9
                refine pw_aload_n (pc' := 74) 0 rfl dX9_told_73 rfl rfl ?_
                refine ps_getR (pc' := 77) (r := 124) rfl dX9_told_74 fl_X9_67 ob_0 rfl rfl ?_
                refine ps_callVV (pc' := 80) (As := []) (rest := []) (cT := (RX3, TX3, 12)) 0 rfl dX9_told_77 cv_X3_prepare ml_X9_198 (by decide) rfl rfl (by decide) (Nat.le_of_ble_eq_true rfl) ob_124 rfl rfl (CA.monoV h ?_)
                intro M10 h
                refine pw_iload_n (pc' := 81) 2 rfl dX9_told_80 rfl rfl ?_
                refine pw_iconst (pc' := 82) rfl dX9_told_81 ci_5 ?_
                refine pw_icmp_ne (pc' := 85) (tgt := 98) rfl dX9_told_82 (by decide) (fun q11 => ?_) (fun q11 => ?_)
                · have h := h.1 q11
                  refine pw_iload_n (pc' := 99) 2 rfl dX9_told_98 rfl rfl ?_
                  refine pw_bipush (pc' := 101) rfl dX9_told_99 cb_6 ?_
                  refine pw_icmp_ne (pc' := 104) (tgt := 119) rfl dX9_told_101 (by decide) (fun q12 => ?_) (fun q12 => ?_)
                  · have h := h.1 q12
                    refine pw_aload_n (pc' := 120) 0 rfl dX9_told_119 rfl rfl ?_
                    refine ps_getR (pc' := 123) (r := 124) rfl dX9_told_120 fl_X9_67 ob_0 rfl rfl ?_
                    refine ps_getR (pc' := 126) (r := 125) rfl dX9_told_123 fl_X9_201 ob_124 rfl rfl ?_
                    refine ps_getR (pc' := 129) (r := 129) rfl dX9_told_126 fl_X9_213 ob_125 rfl rfl ?_
                    refine pw_iload_n (pc' := 130) 1 rfl dX9_told_129 rfl rfl ?_
                    refine ps_iald (pc' := 131) (v := (M10 129 (ix a1))) rfl dX9_told_130 ia_129 b6 rfl ?_
                    refine pw_istore_n (pc' := 132) (lv' := [(0, .ref 0), (1, .int a1), (2, .int a2), (3, .int (M10 129 (ix a1)))]) [1, 2, 3, 0] rfl dX9_told_131 rfl (by decide) rfl ?_
                    refine pw_iload_n (pc' := 133) 3 rfl dX9_told_132 rfl rfl ?_
                    refine pw_bipush (pc' := 135) rfl dX9_told_133 cb_24 ?_
                    refine pw_icmp_ne (pc' := 138) (tgt := 143) rfl dX9_told_135 (by decide) (fun q14 => ?_) (fun q14 => ?_)
                    · have h := h.1 q14
                      refine pw_iload_n (pc' := 144) 3 rfl dX9_told_143 rfl rfl ?_
                      exact ps_iret dX9_told_144 rfl h
                    · have h := h.2 q14
                      refine pw_bipush (pc' := 140) rfl dX9_told_138 cb_m4 ?_
                      refine pw_goto (tgt := 144) dX9_told_140 (by decide) ?_
                      exact ps_iret dX9_told_144 rfl h
                  · have h := h.2 q12
                    refine pw_aload_n (pc' := 105) 0 rfl dX9_told_104 rfl rfl ?_
                    refine ps_getR (pc' := 108) (r := 124) rfl dX9_told_105 fl_X9_67 ob_0 rfl rfl ?_
                    refine ps_getR (pc' := 111) (r := 125) rfl dX9_told_108 fl_X9_201 ob_124 rfl rfl ?_
                    refine ps_getR (pc' := 114) (r := 128) rfl dX9_told_111 fl_X9_210 ob_125 rfl rfl ?_
                    refine pw_iload_n (pc' := 115) 1 rfl dX9_told_114 rfl rfl ?_
                    refine ps_iald (pc' := 116) (v := (M10 128 (ix a1))) rfl dX9_told_115 ia_128 b6 rfl ?_
                    refine pw_goto (tgt := 131) dX9_told_116 (by decide) ?_
                    refine pw_istore_n (pc' := 132) (lv' := [(0, .ref 0), (1, .int a1), (2, .int a2), (3, .int (M10 128 (ix a1)))]) [1, 2, 3, 0] rfl dX9_told_131 rfl (by decide) rfl ?_
                    refine pw_iload_n (pc' := 133) 3 rfl dX9_told_132 rfl rfl ?_
                    refine pw_bipush (pc' := 135) rfl dX9_told_133 cb_24 ?_
                    refine pw_icmp_ne (pc' := 138) (tgt := 143) rfl dX9_told_135 (by decide) (fun q14 => ?_) (fun q14 => ?_)
                    · have h := h.1 q14
                      refine pw_iload_n (pc' := 144) 3 rfl dX9_told_143 rfl rfl ?_
                      exact ps_iret dX9_told_144 rfl h
                    · have h := h.2 q14
                      refine pw_bipush (pc' := 140) rfl dX9_told_138 cb_m4 ?_
                      refine pw_goto (tgt := 144) dX9_told_140 (by decide) ?_
                      exact ps_iret dX9_told_144 rfl h
                · have h := h.2 q11
                  refine pw_aload_n (pc' := 86) 0 rfl dX9_told_85 rfl rfl ?_
                  refine ps_getR (pc' := 89) (r := 124) rfl dX9_told_86 fl_X9_67 ob_0 rfl rfl ?_
                  refine ps_getR (pc' := 92) (r := 125) rfl dX9_told_89 fl_X9_201 ob_124 rfl rfl ?_
                  refine ps_getR (pc' := 95) (r := 127) rfl dX9_told_92 fl_X9_205 ob_125 rfl rfl ?_
                  refine pw_iload_n (pc' := 96) 1 rfl dX9_told_95 rfl rfl ?_
                  refine ps_iald (pc' := 97) (v := (M10 127 (ix a1))) rfl dX9_told_96 ia_127 b6 rfl ?_
                  exact ps_iret dX9_told_97 rfl h
              · have h := h.2 q9
                refine pw_bipush (pc' := 72) rfl dX9_told_70 cb_m2 ?_
                exact ps_iret dX9_told_72 rfl h
            · have h := h.2 q7
              refine pw_bipush (pc' := 59) rfl dX9_told_57 cb_m12 ?_
              exact ps_iret dX9_told_59 rfl h
        · have h := h.2 q4
          refine pw_aload_n (pc' := 29) 0 rfl dX9_told_28 rfl rfl ?_
          refine ps_getR (pc' := 32) (r := 30) rfl dX9_told_29 fl_X9_19 ob_0 rfl rfl ?_
          refine pw_iload_n (pc' := 33) 1 rfl dX9_told_32 rfl rfl ?_
          refine pw_iload_n (pc' := 34) 2 rfl dX9_told_33 rfl rfl ?_
          refine ps_callVI (pc' := 37) (As := [.int a1, .int a2]) (rest := []) (cT := (RX5, TX5, 10)) 2 rfl dX9_told_34 cv_X5_asTold ml_X9_188 (by decide) rfl rfl (by decide) (Nat.le_of_ble_eq_true rfl) ob_30 rfl rfl (CA.monoI h ?_)
          intro r5 M5 h
          exact ps_iret dX9_told_37 rfl h
      · have h := h.2 q3
        refine pw_iconst (pc' := 22) rfl dX9_told_21 ci_m1 ?_
        exact ps_iret dX9_told_22 rfl h
theorem T_X9_drop {M : Mem} {a1 : Int32} {Q : Int32 → Mem → Prop}  (h : C_X5_hasErrand_30 M a1 (fun r0 M0 => ((¬ r0 = 0) → (C_X5_removeErrand_30 M0 a1 (fun M2 => C_X9_plansChanged M2 (fun M3 => Q (M3 30 3) M3)))) ∧ ((r0 = 0) → (Q (-1) M0)))) : C_X9_drop M a1 Q := by
  refine CA_of rfl (Nat.le_of_ble_eq_true rfl) ?_
  show PS _ _ 0 [(0, .ref 0), (1, .int a1)] [] M _
  refine pw_aload_n (pc' := 1) 0 rfl dX9_drop_0 rfl rfl ?_
  refine ps_getR (pc' := 4) (r := 30) rfl dX9_drop_1 fl_X9_19 ob_0 rfl rfl ?_
  refine pw_iload_n (pc' := 5) 1 rfl dX9_drop_4 rfl rfl ?_
  refine ps_callVI (pc' := 8) (As := [.int a1]) (rest := []) (cT := (RX5, TX5, 10)) 1 rfl dX9_drop_5 cv_X5_hasErrand ml_X9_185 (by decide) rfl rfl (by decide) (Nat.le_of_ble_eq_true rfl) ob_30 rfl rfl (CA.monoI h ?_)
  intro r0 M0 h
  refine pw_if_ne (pc' := 11) (tgt := 13) rfl dX9_drop_8 (by decide) (fun q1 => ?_) (fun q1 => ?_)
  · have h := h.1 q1
    refine pw_aload_n (pc' := 14) 0 rfl dX9_drop_13 rfl rfl ?_
    refine ps_getR (pc' := 17) (r := 30) rfl dX9_drop_14 fl_X9_19 ob_0 rfl rfl ?_
    refine pw_iload_n (pc' := 18) 1 rfl dX9_drop_17 rfl rfl ?_
    refine ps_callVV (pc' := 21) (As := [.int a1]) (rest := []) (cT := (RX5, TX5, 10)) 1 rfl dX9_drop_18 cv_X5_removeErrand ml_X9_216 (by decide) rfl rfl (by decide) (Nat.le_of_ble_eq_true rfl) ob_30 rfl rfl (CA.monoV h ?_)
    intro M2 h
    refine pw_aload_n (pc' := 22) 0 rfl dX9_drop_21 rfl rfl ?_
    refine ps_callVV (pc' := 25) (As := []) (rest := []) (cT := (RX9, TX9, 14)) 0 rfl dX9_drop_22 cv_X9_plansChanged ml_X9_141 (by decide) rfl rfl (by decide) (Nat.le_of_ble_eq_true rfl) ob_0 rfl rfl (CA.monoV h ?_)
    intro M3 h
    refine pw_aload_n (pc' := 26) 0 rfl dX9_drop_25 rfl rfl ?_
    refine ps_getR (pc' := 29) (r := 30) rfl dX9_drop_26 fl_X9_19 ob_0 rfl rfl ?_
    refine ps_getI (pc' := 32) (v := (M3 30 3)) rfl dX9_drop_29 fl_X9_178 ob_30 rfl rfl ?_
    exact ps_iret dX9_drop_32 rfl h
  · have h := h.2 q1
    refine pw_iconst (pc' := 12) rfl dX9_drop_11 ci_m1 ?_
    exact ps_iret dX9_drop_12 rfl h
theorem T_X9_cost {M : Mem} {a1 : Int32} {Q : Int32 → Mem → Prop}  (h : ((a1 < 0) → (Q (-1) M)) ∧ ((¬ a1 < 0) → (((a1 ≤ (nI 1)) → (C_X5_well_30 M (fun r2 M2 => ((¬ r2 = 0) → (C_X3_prepare M2 (fun M4 => C_X3_plan M4 a1 (fun r5 M5 => (r5 = 125 ∧ (Q (M5 125 0) M5)) ∨ (r5 = 130 ∧ (Q (M5 130 0) M5)))))) ∧ ((r2 = 0) → (Q (-2) M2))))) ∧ ((¬ a1 ≤ (nI 1)) → (Q (-1) M))))) : C_X9_cost M a1 Q := by
  refine CA_of rfl (Nat.le_of_ble_eq_true rfl) ?_
  show PS _ _ 0 [(0, .ref 0), (1, .int a1)] [] M _
  refine pw_iload_n (pc' := 1) 1 rfl dX9_cost_0 rfl rfl ?_
  refine pw_if_lt (pc' := 4) (tgt := 9) rfl dX9_cost_1 (by decide) (fun q0 => ?_) (fun q0 => ?_)
  · have h := h.1 q0
    refine pw_iconst (pc' := 10) rfl dX9_cost_9 ci_m1 ?_
    exact ps_iret dX9_cost_10 rfl h
  · have h := h.2 q0
    refine pw_iload_n (pc' := 5) 1 rfl dX9_cost_4 rfl rfl ?_
    refine pw_iconst (pc' := 6) rfl dX9_cost_5 ci_1 ?_
    refine pw_icmp_le (pc' := 9) (tgt := 11) rfl dX9_cost_6 (by decide) (fun q1 => ?_) (fun q1 => ?_)
    · have h := h.1 q1
      refine pw_aload_n (pc' := 12) 0 rfl dX9_cost_11 rfl rfl ?_
      refine ps_getR (pc' := 15) (r := 30) rfl dX9_cost_12 fl_X9_19 ob_0 rfl rfl ?_
      refine ps_callVI (pc' := 18) (As := []) (rest := []) (cT := (RX5, TX5, 10)) 0 rfl dX9_cost_15 cv_X5_well ml_X9_194 (by decide) rfl rfl (by decide) (Nat.le_of_ble_eq_true rfl) ob_30 rfl rfl (CA.monoI h ?_)
      intro r2 M2 h
      refine pw_if_ne (pc' := 21) (tgt := 24) rfl dX9_cost_18 (by decide) (fun q3 => ?_) (fun q3 => ?_)
      · have h := h.1 q3
        refine pw_aload_n (pc' := 25) 0 rfl dX9_cost_24 rfl rfl ?_
        refine ps_getR (pc' := 28) (r := 124) rfl dX9_cost_25 fl_X9_67 ob_0 rfl rfl ?_
        refine ps_callVV (pc' := 31) (As := []) (rest := []) (cT := (RX3, TX3, 12)) 0 rfl dX9_cost_28 cv_X3_prepare ml_X9_198 (by decide) rfl rfl (by decide) (Nat.le_of_ble_eq_true rfl) ob_124 rfl rfl (CA.monoV h ?_)
        intro M4 h
        refine pw_aload_n (pc' := 32) 0 rfl dX9_cost_31 rfl rfl ?_
        refine ps_getR (pc' := 35) (r := 124) rfl dX9_cost_32 fl_X9_67 ob_0 rfl rfl ?_
        refine pw_iload_n (pc' := 36) 1 rfl dX9_cost_35 rfl rfl ?_
        refine ps_callVR (pc' := 39) (As := [.int a1]) (rest := []) (cT := (RX3, TX3, 12)) 1 rfl dX9_cost_36 cv_X3_plan ml_X9_220 (by decide) rfl rfl (by decide) (Nat.le_of_ble_eq_true rfl) ob_124 rfl rfl (CA.monoR h ?_)
        intro r5 M5 h
        rcases h with ⟨rfl, h⟩ | ⟨rfl, h⟩
        · skip
          refine ps_getI (pc' := 42) (v := (M5 125 0)) rfl dX9_cost_39 fl_X9_224 ob_125 rfl rfl ?_
          exact ps_iret dX9_cost_42 rfl h
        · skip
          refine ps_getI (pc' := 42) (v := (M5 130 0)) rfl dX9_cost_39 fl_X9_224 ob_130 rfl rfl ?_
          exact ps_iret dX9_cost_42 rfl h
      · have h := h.2 q3
        refine pw_bipush (pc' := 23) rfl dX9_cost_21 cb_m2 ?_
        exact ps_iret dX9_cost_23 rfl h
    · have h := h.2 q1
      refine pw_iconst (pc' := 10) rfl dX9_cost_9 ci_m1 ?_
      exact ps_iret dX9_cost_10 rfl h
theorem T_X9_does {M : Mem} {a1 : Int32} {a2 : Int32} {a3 : Int32} {Q : Int32 → Mem → Prop}  (h : ((a1 < 0) → (Q (-1) M)) ∧ ((¬ a1 < 0) → ((((nI 1) < a1) → (Q (-1) M)) ∧ ((¬ (nI 1) < a1) → (C_X5_hasServant_30 M a2 (fun r2 M2 => ((r2 = 0) → (Q (-1) M2)) ∧ ((¬ r2 = 0) → (((0 ≤ a3) → (C_X5_well_30 M2 (fun r5 M5 => ((¬ r5 = 0) → (C_X3_prepare M5 (fun M7 => C_X3_plan M7 a1 (fun r8 M8 => (r8 = 125 ∧ (C_X2_errandOf_125 M8 a2 a3 (M8 30 3) (fun r9 M9 => ((0 ≤ r9) → (Q r9 M9)) ∧ ((¬ 0 ≤ r9) → (Q (-4) M9))))) ∨ (r8 = 130 ∧ (C_X2_errandOf_130 M8 a2 a3 (M8 30 3) (fun r9 M9 => ((0 ≤ r9) → (Q r9 M9)) ∧ ((¬ 0 ≤ r9) → (Q (-4) M9))))))))) ∧ ((r5 = 0) → (Q (-2) M5))))) ∧ ((¬ 0 ≤ a3) → (Q (-1) M2)))))))))) : C_X9_does M a1 a2 a3 Q := by
  refine CA_of rfl (Nat.le_of_ble_eq_true rfl) ?_
  show PS _ _ 0 [(0, .ref 0), (1, .int a1), (2, .int a2), (3, .int a3)] [] M _
  refine pw_iload_n (pc' := 1) 1 rfl dX9_does_0 rfl rfl ?_
  refine pw_if_lt (pc' := 4) (tgt := 24) rfl dX9_does_1 (by decide) (fun q0 => ?_) (fun q0 => ?_)
  · have h := h.1 q0
    refine pw_iconst (pc' := 25) rfl dX9_does_24 ci_m1 ?_
    exact ps_iret dX9_does_25 rfl h
  · have h := h.2 q0
    refine pw_iload_n (pc' := 5) 1 rfl dX9_does_4 rfl rfl ?_
    refine pw_iconst (pc' := 6) rfl dX9_does_5 ci_1 ?_
    refine pw_icmp_gt (pc' := 9) (tgt := 24) rfl dX9_does_6 (by decide) (fun q1 => ?_) (fun q1 => ?_)
    · have h := h.1 q1
      refine pw_iconst (pc' := 25) rfl dX9_does_24 ci_m1 ?_
      exact ps_iret dX9_does_25 rfl h
    · have h := h.2 q1
      refine pw_aload_n (pc' := 10) 0 rfl dX9_does_9 rfl rfl ?_
      refine ps_getR (pc' := 13) (r := 30) rfl dX9_does_10 fl_X9_19 ob_0 rfl rfl ?_
      refine pw_iload_n (pc' := 14) 2 rfl dX9_does_13 rfl rfl ?_
      refine ps_callVI (pc' := 17) (As := [.int a2]) (rest := []) (cT := (RX5, TX5, 10)) 1 rfl dX9_does_14 cv_X5_hasServant ml_X9_165 (by decide) rfl rfl (by decide) (Nat.le_of_ble_eq_true rfl) ob_30 rfl rfl (CA.monoI h ?_)
      intro r2 M2 h
      refine pw_if_eq (pc' := 20) (tgt := 24) rfl dX9_does_17 (by decide) (fun q3 => ?_) (fun q3 => ?_)
      · have h := h.1 q3
        refine pw_iconst (pc' := 25) rfl dX9_does_24 ci_m1 ?_
        exact ps_iret dX9_does_25 rfl h
      · have h := h.2 q3
        refine pw_iload_n (pc' := 21) 3 rfl dX9_does_20 rfl rfl ?_
        refine pw_if_ge (pc' := 24) (tgt := 26) rfl dX9_does_21 (by decide) (fun q4 => ?_) (fun q4 => ?_)
        · have h := h.1 q4
          refine pw_aload_n (pc' := 27) 0 rfl dX9_does_26 rfl rfl ?_
          refine ps_getR (pc' := 30) (r := 30) rfl dX9_does_27 fl_X9_19 ob_0 rfl rfl ?_
          refine ps_callVI (pc' := 33) (As := []) (rest := []) (cT := (RX5, TX5, 10)) 0 rfl dX9_does_30 cv_X5_well ml_X9_194 (by decide) rfl rfl (by decide) (Nat.le_of_ble_eq_true rfl) ob_30 rfl rfl (CA.monoI h ?_)
          intro r5 M5 h
          refine pw_if_ne (pc' := 36) (tgt := 39) rfl dX9_does_33 (by decide) (fun q6 => ?_) (fun q6 => ?_)
          · have h := h.1 q6
            refine pw_aload_n (pc' := 40) 0 rfl dX9_does_39 rfl rfl ?_
            refine ps_getR (pc' := 43) (r := 124) rfl dX9_does_40 fl_X9_67 ob_0 rfl rfl ?_
            refine ps_callVV (pc' := 46) (As := []) (rest := []) (cT := (RX3, TX3, 12)) 0 rfl dX9_does_43 cv_X3_prepare ml_X9_198 (by decide) rfl rfl (by decide) (Nat.le_of_ble_eq_true rfl) ob_124 rfl rfl (CA.monoV h ?_)
            intro M7 h
            refine pw_aload_n (pc' := 47) 0 rfl dX9_does_46 rfl rfl ?_
            refine ps_getR (pc' := 50) (r := 124) rfl dX9_does_47 fl_X9_67 ob_0 rfl rfl ?_
            refine pw_iload_n (pc' := 51) 1 rfl dX9_does_50 rfl rfl ?_
            refine ps_callVR (pc' := 54) (As := [.int a1]) (rest := []) (cT := (RX3, TX3, 12)) 1 rfl dX9_does_51 cv_X3_plan ml_X9_220 (by decide) rfl rfl (by decide) (Nat.le_of_ble_eq_true rfl) ob_124 rfl rfl (CA.monoR h ?_)
            intro r8 M8 h
            rcases h with ⟨rfl, h⟩ | ⟨rfl, h⟩
            · skip
              refine pw_iload_n (pc' := 55) 2 rfl dX9_does_54 rfl rfl ?_
              refine pw_iload_n (pc' := 56) 3 rfl dX9_does_55 rfl rfl ?_
              refine pw_aload_n (pc' := 57) 0 rfl dX9_does_56 rfl rfl ?_
              refine ps_getR (pc' := 60) (r := 30) rfl dX9_does_57 fl_X9_19 ob_0 rfl rfl ?_
              refine ps_getI (pc' := 63) (v := (M8 30 3)) rfl dX9_does_60 fl_X9_178 ob_30 rfl rfl ?_
              refine ps_callVI (pc' := 66) (As := [.int a2, .int a3, .int (M8 30 3)]) (rest := []) (cT := (RX2, TX2, 5)) 3 rfl dX9_does_63 cv_X2_errandOf ml_X9_227 (by decide) rfl rfl (by decide) (Nat.le_of_ble_eq_true rfl) ob_125 rfl rfl (CA.monoI h ?_)
              intro r9 M9 h
              refine pw_istore (pc' := 68) (lv' := [(0, .ref 0), (1, .int a1), (2, .int a2), (3, .int a3), (4, .int r9)]) [1, 2, 3, 4, 0] rfl dX9_does_66 (by decide) rfl ?_
              refine pw_iload (pc' := 70) 4 rfl dX9_does_68 rfl ?_
              refine pw_if_ge (pc' := 73) (tgt := 78) rfl dX9_does_70 (by decide) (fun q10 => ?_) (fun q10 => ?_)
              · have h := h.1 q10
                refine pw_iload (pc' := 80) 4 rfl dX9_does_78 rfl ?_
                exact ps_iret dX9_does_80 rfl h
              · have h := h.2 q10
                refine pw_bipush (pc' := 75) rfl dX9_does_73 cb_m4 ?_
                refine pw_goto (tgt := 80) dX9_does_75 (by decide) ?_
                exact ps_iret dX9_does_80 rfl h
            · skip
              refine pw_iload_n (pc' := 55) 2 rfl dX9_does_54 rfl rfl ?_
              refine pw_iload_n (pc' := 56) 3 rfl dX9_does_55 rfl rfl ?_
              refine pw_aload_n (pc' := 57) 0 rfl dX9_does_56 rfl rfl ?_
              refine ps_getR (pc' := 60) (r := 30) rfl dX9_does_57 fl_X9_19 ob_0 rfl rfl ?_
              refine ps_getI (pc' := 63) (v := (M8 30 3)) rfl dX9_does_60 fl_X9_178 ob_30 rfl rfl ?_
              refine ps_callVI (pc' := 66) (As := [.int a2, .int a3, .int (M8 30 3)]) (rest := []) (cT := (RX2, TX2, 5)) 3 rfl dX9_does_63 cv_X2_errandOf ml_X9_227 (by decide) rfl rfl (by decide) (Nat.le_of_ble_eq_true rfl) ob_130 rfl rfl (CA.monoI h ?_)
              intro r9 M9 h
              refine pw_istore (pc' := 68) (lv' := [(0, .ref 0), (1, .int a1), (2, .int a2), (3, .int a3), (4, .int r9)]) [1, 2, 3, 4, 0] rfl dX9_does_66 (by decide) rfl ?_
              refine pw_iload (pc' := 70) 4 rfl dX9_does_68 rfl ?_
              refine pw_if_ge (pc' := 73) (tgt := 78) rfl dX9_does_70 (by decide) (fun q10 => ?_) (fun q10 => ?_)
              · have h := h.1 q10
                refine pw_iload (pc' := 80) 4 rfl dX9_does_78 rfl ?_
                exact ps_iret dX9_does_80 rfl h
              · have h := h.2 q10
                refine pw_bipush (pc' := 75) rfl dX9_does_73 cb_m4 ?_
                refine pw_goto (tgt := 80) dX9_does_75 (by decide) ?_
                exact ps_iret dX9_does_80 rfl h
          · have h := h.2 q6
            refine pw_bipush (pc' := 38) rfl dX9_does_36 cb_m2 ?_
            exact ps_iret dX9_does_38 rfl h
        · have h := h.2 q4
          refine pw_iconst (pc' := 25) rfl dX9_does_24 ci_m1 ?_
          exact ps_iret dX9_does_25 rfl h
theorem T_X9_enough {M : Mem}  {Q : Int32 → Mem → Prop}  (h : C_X5_well_30 M (fun r0 M0 => ((¬ r0 = 0) → (C_X3_prepare M0 (fun M2 => (((M2 125 0) ≤ 0) → (C_X3_fewest M2 (fun r4 M4 => Q r4 M4))) ∧ ((¬ (M2 125 0) ≤ 0) → (Q (-4) M2))))) ∧ ((r0 = 0) → (Q (-2) M0)))) : C_X9_enough M  Q := by
  refine CA_of rfl (Nat.le_of_ble_eq_true rfl) ?_
  show PS _ _ 0 [(0, .ref 0)] [] M _
  refine pw_aload_n (pc' := 1) 0 rfl dX9_enough_0 rfl rfl ?_
  refine ps_getR (pc' := 4) (r := 30) rfl dX9_enough_1 fl_X9_19 ob_0 rfl rfl ?_
  refine ps_callVI (pc' := 7) (As := []) (rest := []) (cT := (RX5, TX5, 10)) 0 rfl dX9_enough_4 cv_X5_well ml_X9_194 (by decide) rfl rfl (by decide) (Nat.le_of_ble_eq_true rfl) ob_30 rfl rfl (CA.monoI h ?_)
  intro r0 M0 h
  refine pw_if_ne (pc' := 10) (tgt := 13) rfl dX9_enough_7 (by decide) (fun q1 => ?_) (fun q1 => ?_)
  · have h := h.1 q1
    refine pw_aload_n (pc' := 14) 0 rfl dX9_enough_13 rfl rfl ?_
    refine ps_getR (pc' := 17) (r := 124) rfl dX9_enough_14 fl_X9_67 ob_0 rfl rfl ?_
    refine ps_callVV (pc' := 20) (As := []) (rest := []) (cT := (RX3, TX3, 12)) 0 rfl dX9_enough_17 cv_X3_prepare ml_X9_198 (by decide) rfl rfl (by decide) (Nat.le_of_ble_eq_true rfl) ob_124 rfl rfl (CA.monoV h ?_)
    intro M2 h
    refine pw_aload_n (pc' := 21) 0 rfl dX9_enough_20 rfl rfl ?_
    refine ps_getR (pc' := 24) (r := 124) rfl dX9_enough_21 fl_X9_67 ob_0 rfl rfl ?_
    refine ps_getR (pc' := 27) (r := 125) rfl dX9_enough_24 fl_X9_201 ob_124 rfl rfl ?_
    refine ps_getI (pc' := 30) (v := (M2 125 0)) rfl dX9_enough_27 fl_X9_224 ob_125 rfl rfl ?_
    refine pw_if_le (pc' := 33) (tgt := 38) rfl dX9_enough_30 (by decide) (fun q3 => ?_) (fun q3 => ?_)
    · have h := h.1 q3
      refine pw_aload_n (pc' := 39) 0 rfl dX9_enough_38 rfl rfl ?_
      refine ps_getR (pc' := 42) (r := 124) rfl dX9_enough_39 fl_X9_67 ob_0 rfl rfl ?_
      refine ps_callVI (pc' := 45) (As := []) (rest := []) (cT := (RX3, TX3, 12)) 0 rfl dX9_enough_42 cv_X3_fewest ml_X9_231 (by decide) rfl rfl (by decide) (Nat.le_of_ble_eq_true rfl) ob_124 rfl rfl (CA.monoI h ?_)
      intro r4 M4 h
      exact ps_iret dX9_enough_45 rfl h
    · have h := h.2 q3
      refine pw_bipush (pc' := 35) rfl dX9_enough_33 cb_m4 ?_
      refine pw_goto (tgt := 45) dX9_enough_35 (by decide) ?_
      exact ps_iret dX9_enough_45 rfl h
  · have h := h.2 q1
    refine pw_bipush (pc' := 12) rfl dX9_enough_10 cb_m2 ?_
    exact ps_iret dX9_enough_12 rfl h
theorem T_X9_missed {M : Mem} {a1 : Int32} {Q : Int32 → Mem → Prop}  (h : C_X5_hasServant_30 M a1 (fun r0 M0 => ((¬ r0 = 0) → (C_X5_well_30 M0 (fun r2 M2 => ((¬ (r2 &&& (((nI 1) <<< (a1 &&& 31)) ^^^ (-1))) = 0) → (((¬ (r2 &&& (((nI 1) <<< (a1 &&& 31)) ^^^ (-1))) = r2) → (C_X3_prepare M2 (fun M5 => C_X3_leastWith M5 (r2 &&& (((nI 1) <<< (a1 &&& 31)) ^^^ (-1))) (fun r6 M6 => Q (r6 - (M6 125 0)) M6)))) ∧ (((r2 &&& (((nI 1) <<< (a1 &&& 31)) ^^^ (-1))) = r2) → (Q (nI 0) M2)))) ∧ (((r2 &&& (((nI 1) <<< (a1 &&& 31)) ^^^ (-1))) = 0) → (Q (-2) M2))))) ∧ ((r0 = 0) → (Q (-1) M0)))) : C_X9_missed M a1 Q := by
  refine CA_of rfl (Nat.le_of_ble_eq_true rfl) ?_
  show PS _ _ 0 [(0, .ref 0), (1, .int a1)] [] M _
  refine pw_aload_n (pc' := 1) 0 rfl dX9_missed_0 rfl rfl ?_
  refine ps_getR (pc' := 4) (r := 30) rfl dX9_missed_1 fl_X9_19 ob_0 rfl rfl ?_
  refine pw_iload_n (pc' := 5) 1 rfl dX9_missed_4 rfl rfl ?_
  refine ps_callVI (pc' := 8) (As := [.int a1]) (rest := []) (cT := (RX5, TX5, 10)) 1 rfl dX9_missed_5 cv_X5_hasServant ml_X9_165 (by decide) rfl rfl (by decide) (Nat.le_of_ble_eq_true rfl) ob_30 rfl rfl (CA.monoI h ?_)
  intro r0 M0 h
  refine pw_if_ne (pc' := 11) (tgt := 13) rfl dX9_missed_8 (by decide) (fun q1 => ?_) (fun q1 => ?_)
  · have h := h.1 q1
    refine pw_aload_n (pc' := 14) 0 rfl dX9_missed_13 rfl rfl ?_
    refine ps_getR (pc' := 17) (r := 30) rfl dX9_missed_14 fl_X9_19 ob_0 rfl rfl ?_
    refine ps_callVI (pc' := 20) (As := []) (rest := []) (cT := (RX5, TX5, 10)) 0 rfl dX9_missed_17 cv_X5_well ml_X9_194 (by decide) rfl rfl (by decide) (Nat.le_of_ble_eq_true rfl) ob_30 rfl rfl (CA.monoI h ?_)
    intro r2 M2 h
    refine pw_istore_n (pc' := 21) (lv' := [(0, .ref 0), (1, .int a1), (2, .int r2)]) [1, 2, 0] rfl dX9_missed_20 rfl (by decide) rfl ?_
    refine pw_iload_n (pc' := 22) 2 rfl dX9_missed_21 rfl rfl ?_
    refine pw_iconst (pc' := 23) rfl dX9_missed_22 ci_1 ?_
    refine pw_iload_n (pc' := 24) 1 rfl dX9_missed_23 rfl rfl ?_
    refine pw_ishl (pc' := 25) rfl dX9_missed_24 ?_
    refine pw_iconst (pc' := 26) rfl dX9_missed_25 ci_m1 ?_
    refine pw_ixor (pc' := 27) rfl dX9_missed_26 ?_
    refine pw_iand (pc' := 28) rfl dX9_missed_27 ?_
    refine pw_istore_n (pc' := 29) (lv' := [(0, .ref 0), (1, .int a1), (2, .int r2), (3, .int (r2 &&& (((nI 1) <<< (a1 &&& 31)) ^^^ (-1))))]) [1, 2, 3, 0] rfl dX9_missed_28 rfl (by decide) rfl ?_
    refine pw_iload_n (pc' := 30) 3 rfl dX9_missed_29 rfl rfl ?_
    refine pw_if_ne (pc' := 33) (tgt := 36) rfl dX9_missed_30 (by decide) (fun q3 => ?_) (fun q3 => ?_)
    · have h := h.1 q3
      refine pw_iload_n (pc' := 37) 3 rfl dX9_missed_36 rfl rfl ?_
      refine pw_iload_n (pc' := 38) 2 rfl dX9_missed_37 rfl rfl ?_
      refine pw_icmp_ne (pc' := 41) (tgt := 43) rfl dX9_missed_38 (by decide) (fun q4 => ?_) (fun q4 => ?_)
      · have h := h.1 q4
        refine pw_aload_n (pc' := 44) 0 rfl dX9_missed_43 rfl rfl ?_
        refine ps_getR (pc' := 47) (r := 124) rfl dX9_missed_44 fl_X9_67 ob_0 rfl rfl ?_
        refine ps_callVV (pc' := 50) (As := []) (rest := []) (cT := (RX3, TX3, 12)) 0 rfl dX9_missed_47 cv_X3_prepare ml_X9_198 (by decide) rfl rfl (by decide) (Nat.le_of_ble_eq_true rfl) ob_124 rfl rfl (CA.monoV h ?_)
        intro M5 h
        refine pw_aload_n (pc' := 51) 0 rfl dX9_missed_50 rfl rfl ?_
        refine ps_getR (pc' := 54) (r := 124) rfl dX9_missed_51 fl_X9_67 ob_0 rfl rfl ?_
        refine pw_iload_n (pc' := 55) 3 rfl dX9_missed_54 rfl rfl ?_
        refine ps_callVI (pc' := 58) (As := [.int (r2 &&& (((nI 1) <<< (a1 &&& 31)) ^^^ (-1)))]) (rest := []) (cT := (RX3, TX3, 12)) 1 rfl dX9_missed_55 cv_X3_leastWith ml_X9_234 (by decide) rfl rfl (by decide) (Nat.le_of_ble_eq_true rfl) ob_124 rfl rfl (CA.monoI h ?_)
        intro r6 M6 h
        refine pw_aload_n (pc' := 59) 0 rfl dX9_missed_58 rfl rfl ?_
        refine ps_getR (pc' := 62) (r := 124) rfl dX9_missed_59 fl_X9_67 ob_0 rfl rfl ?_
        refine ps_getR (pc' := 65) (r := 125) rfl dX9_missed_62 fl_X9_201 ob_124 rfl rfl ?_
        refine ps_getI (pc' := 68) (v := (M6 125 0)) rfl dX9_missed_65 fl_X9_224 ob_125 rfl rfl ?_
        refine pw_isub (pc' := 69) rfl dX9_missed_68 ?_
        exact ps_iret dX9_missed_69 rfl h
      · have h := h.2 q4
        refine pw_iconst (pc' := 42) rfl dX9_missed_41 ci_0 ?_
        exact ps_iret dX9_missed_42 rfl h
    · have h := h.2 q3
      refine pw_bipush (pc' := 35) rfl dX9_missed_33 cb_m2 ?_
      exact ps_iret dX9_missed_35 rfl h
  · have h := h.2 q1
    refine pw_iconst (pc' := 12) rfl dX9_missed_11 ci_m1 ?_
    exact ps_iret dX9_missed_12 rfl h
theorem T_X9_opened {M : Mem} {a1 : Int32} {a2 : Int32} {Q : Int32 → Mem → Prop}  (h : C_X0_arePair_1 M a1 a2 (fun r0 M0 => ((¬ r0 = 0) → (C_X5_well_30 M0 (fun r2 M2 => ((¬ r2 = 0) → (C_X0_doorKind_1 M2 a1 a2 (fun r4 M4 => ((r4 = (-1)) → (C_X3_prepare M4 (fun M6 => C_X0_putDoor_1 M6 a1 a2 (nI 1) (fun M7 => C_X9_doorsChanged M7 (fun M8 => C_X3_prepare M8 (fun M9 => C_X0_takeDoor_1 M9 a1 a2 (fun M10 => C_X9_doorsChanged M10 (fun M11 => Q (jmax (nI 0) ((M6 125 0) - (M9 125 0))) M11)))))))) ∧ ((¬ r4 = (-1)) → (Q (-4) M4))))) ∧ ((r2 = 0) → (Q (-2) M2))))) ∧ ((r0 = 0) → (Q (-1) M0)))) : C_X9_opened M a1 a2 Q := by
  refine CA_of rfl (Nat.le_of_ble_eq_true rfl) ?_
  show PS _ _ 0 [(0, .ref 0), (1, .int a1), (2, .int a2)] [] M _
  refine pw_aload_n (pc' := 1) 0 rfl dX9_opened_0 rfl rfl ?_
  refine ps_getR (pc' := 4) (r := 1) rfl dX9_opened_1 fl_X9_10 ob_0 rfl rfl ?_
  refine pw_iload_n (pc' := 5) 1 rfl dX9_opened_4 rfl rfl ?_
  refine pw_iload_n (pc' := 6) 2 rfl dX9_opened_5 rfl rfl ?_
  refine ps_callVI (pc' := 9) (As := [.int a1, .int a2]) (rest := []) (cT := (RX0, TX0, 8)) 2 rfl dX9_opened_6 cv_X0_arePair ml_X9_96 (by decide) rfl rfl (by decide) (Nat.le_of_ble_eq_true rfl) ob_1 rfl rfl (CA.monoI h ?_)
  intro r0 M0 h
  refine pw_if_ne (pc' := 12) (tgt := 14) rfl dX9_opened_9 (by decide) (fun q1 => ?_) (fun q1 => ?_)
  · have h := h.1 q1
    refine pw_aload_n (pc' := 15) 0 rfl dX9_opened_14 rfl rfl ?_
    refine ps_getR (pc' := 18) (r := 30) rfl dX9_opened_15 fl_X9_19 ob_0 rfl rfl ?_
    refine ps_callVI (pc' := 21) (As := []) (rest := []) (cT := (RX5, TX5, 10)) 0 rfl dX9_opened_18 cv_X5_well ml_X9_194 (by decide) rfl rfl (by decide) (Nat.le_of_ble_eq_true rfl) ob_30 rfl rfl (CA.monoI h ?_)
    intro r2 M2 h
    refine pw_if_ne (pc' := 24) (tgt := 27) rfl dX9_opened_21 (by decide) (fun q3 => ?_) (fun q3 => ?_)
    · have h := h.1 q3
      refine pw_aload_n (pc' := 28) 0 rfl dX9_opened_27 rfl rfl ?_
      refine ps_getR (pc' := 31) (r := 1) rfl dX9_opened_28 fl_X9_10 ob_0 rfl rfl ?_
      refine pw_iload_n (pc' := 32) 1 rfl dX9_opened_31 rfl rfl ?_
      refine pw_iload_n (pc' := 33) 2 rfl dX9_opened_32 rfl rfl ?_
      refine ps_callVI (pc' := 36) (As := [.int a1, .int a2]) (rest := []) (cT := (RX0, TX0, 8)) 2 rfl dX9_opened_33 cv_X0_doorKind ml_X9_100 (by decide) rfl rfl (by decide) (Nat.le_of_ble_eq_true rfl) ob_1 rfl rfl (CA.monoI h ?_)
      intro r4 M4 h
      refine pw_iconst (pc' := 37) rfl dX9_opened_36 ci_m1 ?_
      refine pw_icmp_eq (pc' := 40) (tgt := 43) rfl dX9_opened_37 (by decide) (fun q5 => ?_) (fun q5 => ?_)
      · have h := h.1 q5
        refine pw_aload_n (pc' := 44) 0 rfl dX9_opened_43 rfl rfl ?_
        refine ps_getR (pc' := 47) (r := 124) rfl dX9_opened_44 fl_X9_67 ob_0 rfl rfl ?_
        refine ps_callVV (pc' := 50) (As := []) (rest := []) (cT := (RX3, TX3, 12)) 0 rfl dX9_opened_47 cv_X3_prepare ml_X9_198 (by decide) rfl rfl (by decide) (Nat.le_of_ble_eq_true rfl) ob_124 rfl rfl (CA.monoV h ?_)
        intro M6 h
        refine pw_aload_n (pc' := 51) 0 rfl dX9_opened_50 rfl rfl ?_
        refine ps_getR (pc' := 54) (r := 124) rfl dX9_opened_51 fl_X9_67 ob_0 rfl rfl ?_
        refine ps_getR (pc' := 57) (r := 125) rfl dX9_opened_54 fl_X9_201 ob_124 rfl rfl ?_
        refine ps_getI (pc' := 60) (v := (M6 125 0)) rfl dX9_opened_57 fl_X9_224 ob_125 rfl rfl ?_
        refine pw_istore_n (pc' := 61) (lv' := [(0, .ref 0), (1, .int a1), (2, .int a2), (3, .int (M6 125 0))]) [1, 2, 3, 0] rfl dX9_opened_60 rfl (by decide) rfl ?_
        refine pw_aload_n (pc' := 62) 0 rfl dX9_opened_61 rfl rfl ?_
        refine ps_getR (pc' := 65) (r := 1) rfl dX9_opened_62 fl_X9_10 ob_0 rfl rfl ?_
        refine pw_iload_n (pc' := 66) 1 rfl dX9_opened_65 rfl rfl ?_
        refine pw_iload_n (pc' := 67) 2 rfl dX9_opened_66 rfl rfl ?_
        refine pw_iconst (pc' := 68) rfl dX9_opened_67 ci_1 ?_
        refine ps_callVV (pc' := 71) (As := [.int a1, .int a2, .int (nI 1)]) (rest := []) (cT := (RX0, TX0, 8)) 3 rfl dX9_opened_68 cv_X0_putDoor ml_X9_107 (by decide) rfl rfl (by decide) (Nat.le_of_ble_eq_true rfl) ob_1 rfl rfl (CA.monoV h ?_)
        intro M7 h
        refine pw_aload_n (pc' := 72) 0 rfl dX9_opened_71 rfl rfl ?_
        refine ps_callVV (pc' := 75) (As := []) (rest := []) (cT := (RX9, TX9, 14)) 0 rfl dX9_opened_72 cv_X9_doorsChanged ml_X9_93 (by decide) rfl rfl (by decide) (Nat.le_of_ble_eq_true rfl) ob_0 rfl rfl (CA.monoV h ?_)
        intro M8 h
        refine pw_aload_n (pc' := 76) 0 rfl dX9_opened_75 rfl rfl ?_
        refine ps_getR (pc' := 79) (r := 124) rfl dX9_opened_76 fl_X9_67 ob_0 rfl rfl ?_
        refine ps_callVV (pc' := 82) (As := []) (rest := []) (cT := (RX3, TX3, 12)) 0 rfl dX9_opened_79 cv_X3_prepare ml_X9_198 (by decide) rfl rfl (by decide) (Nat.le_of_ble_eq_true rfl) ob_124 rfl rfl (CA.monoV h ?_)
        intro M9 h
        refine pw_aload_n (pc' := 83) 0 rfl dX9_opened_82 rfl rfl ?_
        refine ps_getR (pc' := 86) (r := 124) rfl dX9_opened_83 fl_X9_67 ob_0 rfl rfl ?_
        refine ps_getR (pc' := 89) (r := 125) rfl dX9_opened_86 fl_X9_201 ob_124 rfl rfl ?_
        refine ps_getI (pc' := 92) (v := (M9 125 0)) rfl dX9_opened_89 fl_X9_224 ob_125 rfl rfl ?_
        refine pw_istore (pc' := 94) (lv' := [(0, .ref 0), (1, .int a1), (2, .int a2), (3, .int (M6 125 0)), (4, .int (M9 125 0))]) [1, 2, 3, 4, 0] rfl dX9_opened_92 (by decide) rfl ?_
        refine pw_aload_n (pc' := 95) 0 rfl dX9_opened_94 rfl rfl ?_
        refine ps_getR (pc' := 98) (r := 1) rfl dX9_opened_95 fl_X9_10 ob_0 rfl rfl ?_
        refine pw_iload_n (pc' := 99) 1 rfl dX9_opened_98 rfl rfl ?_
        refine pw_iload_n (pc' := 100) 2 rfl dX9_opened_99 rfl rfl ?_
        refine ps_callVV (pc' := 103) (As := [.int a1, .int a2]) (rest := []) (cT := (RX0, TX0, 8)) 2 rfl dX9_opened_100 cv_X0_takeDoor ml_X9_114 (by decide) rfl rfl (by decide) (Nat.le_of_ble_eq_true rfl) ob_1 rfl rfl (CA.monoV h ?_)
        intro M10 h
        refine pw_aload_n (pc' := 104) 0 rfl dX9_opened_103 rfl rfl ?_
        refine ps_callVV (pc' := 107) (As := []) (rest := []) (cT := (RX9, TX9, 14)) 0 rfl dX9_opened_104 cv_X9_doorsChanged ml_X9_93 (by decide) rfl rfl (by decide) (Nat.le_of_ble_eq_true rfl) ob_0 rfl rfl (CA.monoV h ?_)
        intro M11 h
        refine pw_iconst (pc' := 108) rfl dX9_opened_107 ci_0 ?_
        refine pw_iload_n (pc' := 109) 3 rfl dX9_opened_108 rfl rfl ?_
        refine pw_iload (pc' := 111) 4 rfl dX9_opened_109 rfl ?_
        refine pw_isub (pc' := 112) rfl dX9_opened_111 ?_
        refine pw_max (pc' := 115) rfl dX9_opened_112 ml_X9_238 mx_max1 mx_ini mx_max3 (by decide) (Nat.le_of_ble_eq_true rfl) (Nat.le_refl 0) (Nat.le_refl 0) ?_
        exact ps_iret dX9_opened_115 rfl h
      · have h := h.2 q5
        refine pw_bipush (pc' := 42) rfl dX9_opened_40 cb_m4 ?_
        exact ps_iret dX9_opened_42 rfl h
    · have h := h.2 q3
      refine pw_bipush (pc' := 26) rfl dX9_opened_24 cb_m2 ?_
      exact ps_iret dX9_opened_26 rfl h
  · have h := h.2 q1
    refine pw_iconst (pc' := 13) rfl dX9_opened_12 ci_m1 ?_
    exact ps_iret dX9_opened_13 rfl h
theorem T_X9_folk {M : Mem} {a1 : Int32} {Q : Int32 → Mem → Prop}  (h : ((a1 < 0) → (Q (-1) M)) ∧ ((¬ a1 < 0) → (((a1 ≤ (nI 1)) → (((¬ (M 37 0) = (nI 5)) → (vp_in (M 37 0) 5 ∧ (Q (((M 37 0) + (nI 1)) - (nI 1)) (wr (wr M 38 (ix (M 37 0)) a1) 37 0 ((M 37 0) + (nI 1)))))) ∧ (((M 37 0) = (nI 5)) → (Q (-3) M)))) ∧ ((¬ a1 ≤ (nI 1)) → (Q (-1) M))))) : C_X9_folk M a1 Q := by
  refine CA_of rfl (Nat.le_of_ble_eq_true rfl) ?_
  show PS _ _ 0 [(0, .ref 0), (1, .int a1)] [] M _
  refine pw_iload_n (pc' := 1) 1 rfl dX9_folk_0 rfl rfl ?_
  refine pw_if_lt (pc' := 4) (tgt := 9) rfl dX9_folk_1 (by decide) (fun q0 => ?_) (fun q0 => ?_)
  · have h := h.1 q0
    refine pw_iconst (pc' := 10) rfl dX9_folk_9 ci_m1 ?_
    exact ps_iret dX9_folk_10 rfl h
  · have h := h.2 q0
    refine pw_iload_n (pc' := 5) 1 rfl dX9_folk_4 rfl rfl ?_
    refine pw_iconst (pc' := 6) rfl dX9_folk_5 ci_1 ?_
    refine pw_icmp_le (pc' := 9) (tgt := 11) rfl dX9_folk_6 (by decide) (fun q1 => ?_) (fun q1 => ?_)
    · have h := h.1 q1
      refine pw_aload_n (pc' := 12) 0 rfl dX9_folk_11 rfl rfl ?_
      refine ps_getR (pc' := 15) (r := 37) rfl dX9_folk_12 fl_X9_26 ob_0 rfl rfl ?_
      refine ps_getI (pc' := 18) (v := (M 37 0)) rfl dX9_folk_15 fl_X9_243 ob_37 rfl rfl ?_
      refine pw_iconst (pc' := 19) rfl dX9_folk_18 ci_5 ?_
      refine pw_icmp_ne (pc' := 22) (tgt := 25) rfl dX9_folk_19 (by decide) (fun q2 => ?_) (fun q2 => ?_)
      · have h := h.1 q2
        refine pw_aload_n (pc' := 26) 0 rfl dX9_folk_25 rfl rfl ?_
        refine ps_getR (pc' := 29) (r := 37) rfl dX9_folk_26 fl_X9_26 ob_0 rfl rfl ?_
        refine ps_getR (pc' := 32) (r := 38) rfl dX9_folk_29 fl_X9_246 ob_37 rfl rfl ?_
        refine pw_aload_n (pc' := 33) 0 rfl dX9_folk_32 rfl rfl ?_
        refine ps_getR (pc' := 36) (r := 37) rfl dX9_folk_33 fl_X9_26 ob_0 rfl rfl ?_
        refine ps_getI (pc' := 39) (v := (M 37 0)) rfl dX9_folk_36 fl_X9_243 ob_37 rfl rfl ?_
        refine pw_iload_n (pc' := 40) 1 rfl dX9_folk_39 rfl rfl ?_
        obtain ⟨b3, h⟩ := h
        refine ps_iast (pc' := 41) rfl dX9_folk_40 ia_38 b3 ?_
        refine pw_aload_n (pc' := 42) 0 rfl dX9_folk_41 rfl rfl ?_
        refine ps_getR (pc' := 45) (r := 37) rfl dX9_folk_42 fl_X9_26 ob_0 rfl rfl ?_
        refine pw_dup (pc' := 46) rfl dX9_folk_45 rfl ?_
        refine ps_getI (pc' := 49) (v := (M 37 0)) rfl dX9_folk_46 fl_X9_243 ob_37 rfl rfl ?_
        refine pw_iconst (pc' := 50) rfl dX9_folk_49 ci_1 ?_
        refine pw_iadd (pc' := 51) rfl dX9_folk_50 ?_
        refine ps_putI (pc' := 54) rfl dX9_folk_51 fl_X9_243 ob_37 rfl ?_
        refine pw_aload_n (pc' := 55) 0 rfl dX9_folk_54 rfl rfl ?_
        refine ps_getR (pc' := 58) (r := 37) rfl dX9_folk_55 fl_X9_26 ob_0 rfl rfl ?_
        refine ps_getI (pc' := 61) (v := ((M 37 0) + (nI 1))) rfl dX9_folk_58 fl_X9_243 ob_37 rfl rfl ?_
        refine pw_iconst (pc' := 62) rfl dX9_folk_61 ci_1 ?_
        refine pw_isub (pc' := 63) rfl dX9_folk_62 ?_
        exact ps_iret dX9_folk_63 rfl h
      · have h := h.2 q2
        refine pw_bipush (pc' := 24) rfl dX9_folk_22 cb_m3 ?_
        exact ps_iret dX9_folk_24 rfl h
    · have h := h.2 q1
      refine pw_iconst (pc' := 10) rfl dX9_folk_9 ci_m1 ?_
      exact ps_iret dX9_folk_10 rfl h
theorem T_X9_say {M : Mem} {a1 : Int32} {a2 : Int32} {a3 : Int32} {a4 : Int32} {Q : Int32 → Mem → Prop}  (h : C_X6_hasOne_37 M a1 (fun r0 M0 => ((r0 = 0) → (Q (-1) M0)) ∧ ((¬ r0 = 0) → (C_X6_hasOne_37 M0 a2 (fun r2 M2 => ((r2 = 0) → (Q (-1) M2)) ∧ ((¬ r2 = 0) → (C_X0_hasRoom_1 M2 a3 (fun r4 M4 => ((r4 = 0) → (Q (-1) M4)) ∧ ((¬ r4 = 0) → (C_X9_isTick M4 a4 (fun r6 M6 => ((¬ r6 = 0) → (((¬ (M6 37 1) = (nI 12)) → (C_X6_addSaying_37 M6 a1 a2 a3 a4 (fun M9 => Q ((M9 37 1) - (nI 1)) M9))) ∧ (((M6 37 1) = (nI 12)) → (Q (-3) M6)))) ∧ ((r6 = 0) → (Q (-1) M6))))))))))))) : C_X9_say M a1 a2 a3 a4 Q := by
  refine CA_of rfl (Nat.le_of_ble_eq_true rfl) ?_
  show PS _ _ 0 [(0, .ref 0), (1, .int a1), (2, .int a2), (3, .int a3), (4, .int a4)] [] M _
  refine pw_aload_n (pc' := 1) 0 rfl dX9_say_0 rfl rfl ?_
  refine ps_getR (pc' := 4) (r := 37) rfl dX9_say_1 fl_X9_26 ob_0 rfl rfl ?_
  refine pw_iload_n (pc' := 5) 1 rfl dX9_say_4 rfl rfl ?_
  refine ps_callVI (pc' := 8) (As := [.int a1]) (rest := []) (cT := (RX6, TX6, 11)) 1 rfl dX9_say_5 cv_X6_hasOne ml_X9_247 (by decide) rfl rfl (by decide) (Nat.le_of_ble_eq_true rfl) ob_37 rfl rfl (CA.monoI h ?_)
  intro r0 M0 h
  refine pw_if_eq (pc' := 11) (tgt := 41) rfl dX9_say_8 (by decide) (fun q1 => ?_) (fun q1 => ?_)
  · have h := h.1 q1
    refine pw_iconst (pc' := 42) rfl dX9_say_41 ci_m1 ?_
    exact ps_iret dX9_say_42 rfl h
  · have h := h.2 q1
    refine pw_aload_n (pc' := 12) 0 rfl dX9_say_11 rfl rfl ?_
    refine ps_getR (pc' := 15) (r := 37) rfl dX9_say_12 fl_X9_26 ob_0 rfl rfl ?_
    refine pw_iload_n (pc' := 16) 2 rfl dX9_say_15 rfl rfl ?_
    refine ps_callVI (pc' := 19) (As := [.int a2]) (rest := []) (cT := (RX6, TX6, 11)) 1 rfl dX9_say_16 cv_X6_hasOne ml_X9_247 (by decide) rfl rfl (by decide) (Nat.le_of_ble_eq_true rfl) ob_37 rfl rfl (CA.monoI h ?_)
    intro r2 M2 h
    refine pw_if_eq (pc' := 22) (tgt := 41) rfl dX9_say_19 (by decide) (fun q3 => ?_) (fun q3 => ?_)
    · have h := h.1 q3
      refine pw_iconst (pc' := 42) rfl dX9_say_41 ci_m1 ?_
      exact ps_iret dX9_say_42 rfl h
    · have h := h.2 q3
      refine pw_aload_n (pc' := 23) 0 rfl dX9_say_22 rfl rfl ?_
      refine ps_getR (pc' := 26) (r := 1) rfl dX9_say_23 fl_X9_10 ob_0 rfl rfl ?_
      refine pw_iload_n (pc' := 27) 3 rfl dX9_say_26 rfl rfl ?_
      refine ps_callVI (pc' := 30) (As := [.int a3]) (rest := []) (cT := (RX0, TX0, 8)) 1 rfl dX9_say_27 cv_X0_hasRoom ml_X9_148 (by decide) rfl rfl (by decide) (Nat.le_of_ble_eq_true rfl) ob_1 rfl rfl (CA.monoI h ?_)
      intro r4 M4 h
      refine pw_if_eq (pc' := 33) (tgt := 41) rfl dX9_say_30 (by decide) (fun q5 => ?_) (fun q5 => ?_)
      · have h := h.1 q5
        refine pw_iconst (pc' := 42) rfl dX9_say_41 ci_m1 ?_
        exact ps_iret dX9_say_42 rfl h
      · have h := h.2 q5
        refine pw_iload (pc' := 35) 4 rfl dX9_say_33 rfl ?_
        refine ps_callSI (pc' := 38) (As := [.int a4]) (rest := []) 1 rfl dX9_say_35 cs_X9_isTick ml_X9_144 (by decide) rfl rfl (by decide) (Nat.le_of_ble_eq_true rfl) (CA.monoI h ?_)
        intro r6 M6 h
        refine pw_if_ne (pc' := 41) (tgt := 43) rfl dX9_say_38 (by decide) (fun q7 => ?_) (fun q7 => ?_)
        · have h := h.1 q7
          refine pw_aload_n (pc' := 44) 0 rfl dX9_say_43 rfl rfl ?_
          refine ps_getR (pc' := 47) (r := 37) rfl dX9_say_44 fl_X9_26 ob_0 rfl rfl ?_
          refine ps_getI (pc' := 50) (v := (M6 37 1)) rfl dX9_say_47 fl_X9_250 ob_37 rfl rfl ?_
          refine pw_bipush (pc' := 52) rfl dX9_say_50 cb_12 ?_
          refine pw_icmp_ne (pc' := 55) (tgt := 58) rfl dX9_say_52 (by decide) (fun q8 => ?_) (fun q8 => ?_)
          · have h := h.1 q8
            refine pw_aload_n (pc' := 59) 0 rfl dX9_say_58 rfl rfl ?_
            refine ps_getR (pc' := 62) (r := 37) rfl dX9_say_59 fl_X9_26 ob_0 rfl rfl ?_
            refine pw_iload_n (pc' := 63) 1 rfl dX9_say_62 rfl rfl ?_
            refine pw_iload_n (pc' := 64) 2 rfl dX9_say_63 rfl rfl ?_
            refine pw_iload_n (pc' := 65) 3 rfl dX9_say_64 rfl rfl ?_
            refine pw_iload (pc' := 67) 4 rfl dX9_say_65 rfl ?_
            refine ps_callVV (pc' := 70) (As := [.int a1, .int a2, .int a3, .int a4]) (rest := []) (cT := (RX6, TX6, 11)) 4 rfl dX9_say_67 cv_X6_addSaying ml_X9_253 (by decide) rfl rfl (by decide) (Nat.le_of_ble_eq_true rfl) ob_37 rfl rfl (CA.monoV h ?_)
            intro M9 h
            refine pw_aload_n (pc' := 71) 0 rfl dX9_say_70 rfl rfl ?_
            refine ps_getR (pc' := 74) (r := 37) rfl dX9_say_71 fl_X9_26 ob_0 rfl rfl ?_
            refine ps_getI (pc' := 77) (v := (M9 37 1)) rfl dX9_say_74 fl_X9_250 ob_37 rfl rfl ?_
            refine pw_iconst (pc' := 78) rfl dX9_say_77 ci_1 ?_
            refine pw_isub (pc' := 79) rfl dX9_say_78 ?_
            exact ps_iret dX9_say_79 rfl h
          · have h := h.2 q8
            refine pw_bipush (pc' := 57) rfl dX9_say_55 cb_m3 ?_
            exact ps_iret dX9_say_57 rfl h
        · have h := h.2 q7
          refine pw_iconst (pc' := 42) rfl dX9_say_41 ci_m1 ?_
          exact ps_iret dX9_say_42 rfl h
theorem T_X9_sayings {M : Mem}  {Q : Int32 → Mem → Prop}  (h : C_X7_readSayings M (M 1 0) (M 37 0) 175 (fun r0 M0 => C_X7_clear M0 (fun M1 => ((0 ≤ r0) → (((((M1 37 1) + r0) ≤ (nI 12)) → (P_X9_sayings_58 M1 r0 (nI 0) Q)) ∧ ((¬ ((M1 37 1) + r0) ≤ (nI 12)) → (Q (-3) M1)))) ∧ ((¬ 0 ≤ r0) → (Q r0 M1))))) : C_X9_sayings M  Q := by
  refine CA_of rfl (Nat.le_of_ble_eq_true rfl) ?_
  show PS _ _ 0 [(0, .ref 0)] [] M _
  refine pw_aload_n (pc' := 1) 0 rfl dX9_sayings_0 rfl rfl ?_
  refine ps_getR (pc' := 4) (r := 85) rfl dX9_sayings_1 fl_X9_42 ob_0 rfl rfl ?_
  refine pw_aload_n (pc' := 5) 0 rfl dX9_sayings_4 rfl rfl ?_
  refine ps_getR (pc' := 8) (r := 1) rfl dX9_sayings_5 fl_X9_10 ob_0 rfl rfl ?_
  refine ps_getI (pc' := 11) (v := (M 1 0)) rfl dX9_sayings_8 fl_X9_89 ob_1 rfl rfl ?_
  refine pw_aload_n (pc' := 12) 0 rfl dX9_sayings_11 rfl rfl ?_
  refine ps_getR (pc' := 15) (r := 37) rfl dX9_sayings_12 fl_X9_26 ob_0 rfl rfl ?_
  refine ps_getI (pc' := 18) (v := (M 37 0)) rfl dX9_sayings_15 fl_X9_243 ob_37 rfl rfl ?_
  refine pw_aload_n (pc' := 19) 0 rfl dX9_sayings_18 rfl rfl ?_
  refine ps_getR (pc' := 22) (r := 175) rfl dX9_sayings_19 fl_X9_86 ob_0 rfl rfl ?_
  refine ps_callVI (pc' := 25) (As := [.int (M 1 0), .int (M 37 0), .ref 175]) (rest := []) (cT := (RX7, TX7, 4)) 3 rfl dX9_sayings_22 cv_X7_readSayings ml_X9_257 (by decide) rfl rfl (by decide) (Nat.le_of_ble_eq_true rfl) ob_85 rfl rfl (CA.monoI h ?_)
  intro r0 M0 h
  refine pw_istore_n (pc' := 26) (lv' := [(0, .ref 0), (1, .int r0)]) [1, 0] rfl dX9_sayings_25 rfl (by decide) rfl ?_
  refine pw_aload_n (pc' := 27) 0 rfl dX9_sayings_26 rfl rfl ?_
  refine ps_getR (pc' := 30) (r := 85) rfl dX9_sayings_27 fl_X9_42 ob_0 rfl rfl ?_
  refine ps_callVV (pc' := 33) (As := []) (rest := []) (cT := (RX7, TX7, 4)) 0 rfl dX9_sayings_30 cv_X7_clear ml_X9_126 (by decide) rfl rfl (by decide) (Nat.le_of_ble_eq_true rfl) ob_85 rfl rfl (CA.monoV h ?_)
  intro M1 h
  refine pw_iload_n (pc' := 34) 1 rfl dX9_sayings_33 rfl rfl ?_
  refine pw_if_ge (pc' := 37) (tgt := 39) rfl dX9_sayings_34 (by decide) (fun q2 => ?_) (fun q2 => ?_)
  · have h := h.1 q2
    refine pw_aload_n (pc' := 40) 0 rfl dX9_sayings_39 rfl rfl ?_
    refine ps_getR (pc' := 43) (r := 37) rfl dX9_sayings_40 fl_X9_26 ob_0 rfl rfl ?_
    refine ps_getI (pc' := 46) (v := (M1 37 1)) rfl dX9_sayings_43 fl_X9_250 ob_37 rfl rfl ?_
    refine pw_iload_n (pc' := 47) 1 rfl dX9_sayings_46 rfl rfl ?_
    refine pw_iadd (pc' := 48) rfl dX9_sayings_47 ?_
    refine pw_bipush (pc' := 50) rfl dX9_sayings_48 cb_12 ?_
    refine pw_icmp_le (pc' := 53) (tgt := 56) rfl dX9_sayings_50 (by decide) (fun q3 => ?_) (fun q3 => ?_)
    · have h := h.1 q3
      refine pw_iconst (pc' := 57) rfl dX9_sayings_56 ci_0 ?_
      refine pw_istore_n (pc' := 58) (lv' := [(0, .ref 0), (1, .int r0), (2, .int (nI 0))]) [1, 2, 0] rfl dX9_sayings_57 rfl (by decide) rfl ?_
      exact pw_sub [0, 1, 2] rfl h
    · have h := h.2 q3
      refine pw_bipush (pc' := 55) rfl dX9_sayings_53 cb_m3 ?_
      exact ps_iret dX9_sayings_55 rfl h
  · have h := h.2 q2
    refine pw_iload_n (pc' := 38) 1 rfl dX9_sayings_37 rfl rfl ?_
    exact ps_iret dX9_sayings_38 rfl h
theorem T_X9_sayings_58 {M : Mem} {a1 : Int32} {a2 : Int32} {Q : Int32 → Mem → Prop}  (h : ((a1 ≤ a2) → (Q a1 M)) ∧ ((¬ a1 ≤ a2) → (vp_in a2 6 ∧ (C_X6_addSaying_37 M (M (175 + 1 + ix a2) (ix (nI 0))) (M (175 + 1 + ix a2) (ix (nI 1))) (M (175 + 1 + ix a2) (ix (nI 2))) (M (175 + 1 + ix a2) (ix (nI 3))) (fun M6 => P_X9_sayings_58 M6 a1 (a2 + (nI 1)) Q))))) : P_X9_sayings_58 M a1 a2 Q := by
  refine pw_iload_n (pc' := 59) 2 rfl dX9_sayings_58 rfl rfl ?_
  refine pw_iload_n (pc' := 60) 1 rfl dX9_sayings_59 rfl rfl ?_
  refine pw_icmp_ge (pc' := 63) (tgt := 95) rfl dX9_sayings_60 (by decide) (fun q0 => ?_) (fun q0 => ?_)
  · have h := h.1 q0
    refine pw_iload_n (pc' := 96) 1 rfl dX9_sayings_95 rfl rfl ?_
    exact ps_iret dX9_sayings_96 rfl h
  · have h := h.2 q0
    refine pw_aload_n (pc' := 64) 0 rfl dX9_sayings_63 rfl rfl ?_
    refine ps_getR (pc' := 67) (r := 175) rfl dX9_sayings_64 fl_X9_86 ob_0 rfl rfl ?_
    refine pw_iload_n (pc' := 68) 2 rfl dX9_sayings_67 rfl rfl ?_
    obtain ⟨b1, h⟩ := h
    refine ps_aald (pc' := 69) rfl dX9_sayings_68 ra_175 b1 ?_
    refine pw_astore_n (pc' := 70) (lv' := [(0, .ref 0), (1, .int a1), (2, .int a2), (3, .ref (175 + 1 + ix a2))]) [1, 2, 3, 0] rfl dX9_sayings_69 rfl (by decide) rfl ?_
    refine pw_aload_n (pc' := 71) 0 rfl dX9_sayings_70 rfl rfl ?_
    refine ps_getR (pc' := 74) (r := 37) rfl dX9_sayings_71 fl_X9_26 ob_0 rfl rfl ?_
    refine pw_aload_n (pc' := 75) 3 rfl dX9_sayings_74 rfl rfl ?_
    refine pw_iconst (pc' := 76) rfl dX9_sayings_75 ci_0 ?_
    refine ps_iald (pc' := 77) (v := (M (175 + 1 + ix a2) (ix (nI 0)))) rfl dX9_sayings_76 (RA.row ra_175 b1) (vp_in_nI (n := 0) (N := 4) (by decide) (by decide)) rfl ?_
    refine pw_aload_n (pc' := 78) 3 rfl dX9_sayings_77 rfl rfl ?_
    refine pw_iconst (pc' := 79) rfl dX9_sayings_78 ci_1 ?_
    refine ps_iald (pc' := 80) (v := (M (175 + 1 + ix a2) (ix (nI 1)))) rfl dX9_sayings_79 (RA.row ra_175 b1) (vp_in_nI (n := 1) (N := 4) (by decide) (by decide)) rfl ?_
    refine pw_aload_n (pc' := 81) 3 rfl dX9_sayings_80 rfl rfl ?_
    refine pw_iconst (pc' := 82) rfl dX9_sayings_81 ci_2 ?_
    refine ps_iald (pc' := 83) (v := (M (175 + 1 + ix a2) (ix (nI 2)))) rfl dX9_sayings_82 (RA.row ra_175 b1) (vp_in_nI (n := 2) (N := 4) (by decide) (by decide)) rfl ?_
    refine pw_aload_n (pc' := 84) 3 rfl dX9_sayings_83 rfl rfl ?_
    refine pw_iconst (pc' := 85) rfl dX9_sayings_84 ci_3 ?_
    refine ps_iald (pc' := 86) (v := (M (175 + 1 + ix a2) (ix (nI 3)))) rfl dX9_sayings_85 (RA.row ra_175 b1) (vp_in_nI (n := 3) (N := 4) (by decide) (by decide)) rfl ?_
    refine ps_callVV (pc' := 89) (As := [.int (M (175 + 1 + ix a2) (ix (nI 0))), .int (M (175 + 1 + ix a2) (ix (nI 1))), .int (M (175 + 1 + ix a2) (ix (nI 2))), .int (M (175 + 1 + ix a2) (ix (nI 3)))]) (rest := []) (cT := (RX6, TX6, 11)) 4 rfl dX9_sayings_86 cv_X6_addSaying ml_X9_253 (by decide) rfl rfl (by decide) (Nat.le_of_ble_eq_true rfl) ob_37 rfl rfl (CA.monoV h ?_)
    intro M6 h
    refine pw_iinc (pc' := 92) (lv' := [(0, .ref 0), (1, .int a1), (2, .int (a2 + (nI 1))), (3, .ref (175 + 1 + ix a2))]) 2 [1, 2, 0, 3] rfl dX9_sayings_89 rfl (ii_1 _) (by decide) rfl ?_
    refine pw_goto (tgt := 58) dX9_sayings_92 (by decide) ?_
    exact pw_sub [0, 1, 2] rfl h
theorem T_X9_unsay {M : Mem} {a1 : Int32} {Q : Int32 → Mem → Prop}  (h : ((a1 < 0) → (Q (-1) M)) ∧ ((¬ a1 < 0) → (((a1 < (M 37 1)) → (C_X6_removeSaying_37 M a1 (fun M2 => Q (M2 37 1) M2))) ∧ ((¬ a1 < (M 37 1)) → (Q (-1) M))))) : C_X9_unsay M a1 Q := by
  refine CA_of rfl (Nat.le_of_ble_eq_true rfl) ?_
  show PS _ _ 0 [(0, .ref 0), (1, .int a1)] [] M _
  refine pw_iload_n (pc' := 1) 1 rfl dX9_unsay_0 rfl rfl ?_
  refine pw_if_lt (pc' := 4) (tgt := 15) rfl dX9_unsay_1 (by decide) (fun q0 => ?_) (fun q0 => ?_)
  · have h := h.1 q0
    refine pw_iconst (pc' := 16) rfl dX9_unsay_15 ci_m1 ?_
    exact ps_iret dX9_unsay_16 rfl h
  · have h := h.2 q0
    refine pw_iload_n (pc' := 5) 1 rfl dX9_unsay_4 rfl rfl ?_
    refine pw_aload_n (pc' := 6) 0 rfl dX9_unsay_5 rfl rfl ?_
    refine ps_getR (pc' := 9) (r := 37) rfl dX9_unsay_6 fl_X9_26 ob_0 rfl rfl ?_
    refine ps_getI (pc' := 12) (v := (M 37 1)) rfl dX9_unsay_9 fl_X9_250 ob_37 rfl rfl ?_
    refine pw_icmp_lt (pc' := 15) (tgt := 17) rfl dX9_unsay_12 (by decide) (fun q1 => ?_) (fun q1 => ?_)
    · have h := h.1 q1
      refine pw_aload_n (pc' := 18) 0 rfl dX9_unsay_17 rfl rfl ?_
      refine ps_getR (pc' := 21) (r := 37) rfl dX9_unsay_18 fl_X9_26 ob_0 rfl rfl ?_
      refine pw_iload_n (pc' := 22) 1 rfl dX9_unsay_21 rfl rfl ?_
      refine ps_callVV (pc' := 25) (As := [.int a1]) (rest := []) (cT := (RX6, TX6, 11)) 1 rfl dX9_unsay_22 cv_X6_removeSaying ml_X9_261 (by decide) rfl rfl (by decide) (Nat.le_of_ble_eq_true rfl) ob_37 rfl rfl (CA.monoV h ?_)
      intro M2 h
      refine pw_aload_n (pc' := 26) 0 rfl dX9_unsay_25 rfl rfl ?_
      refine ps_getR (pc' := 29) (r := 37) rfl dX9_unsay_26 fl_X9_26 ob_0 rfl rfl ?_
      refine ps_getI (pc' := 32) (v := (M2 37 1)) rfl dX9_unsay_29 fl_X9_250 ob_37 rfl rfl ?_
      exact ps_iret dX9_unsay_32 rfl h
    · have h := h.2 q1
      refine pw_iconst (pc' := 16) rfl dX9_unsay_15 ci_m1 ?_
      exact ps_iret dX9_unsay_16 rfl h
theorem T_X9_liars {M : Mem}  {Q : Int32 → Mem → Prop}  (h : ((¬ (M 1 0) = 0) → (C_X1_findLiars M (-1) (fun r1 M1 => Q r1 M1))) ∧ (((M 1 0) = 0) → (Q (-2) M))) : C_X9_liars M  Q := by
  refine CA_of rfl (Nat.le_of_ble_eq_true rfl) ?_
  show PS _ _ 0 [(0, .ref 0)] [] M _
  refine pw_aload_n (pc' := 1) 0 rfl dX9_liars_0 rfl rfl ?_
  refine ps_getR (pc' := 4) (r := 1) rfl dX9_liars_1 fl_X9_10 ob_0 rfl rfl ?_
  refine ps_getI (pc' := 7) (v := (M 1 0)) rfl dX9_liars_4 fl_X9_89 ob_1 rfl rfl ?_
  refine pw_if_ne (pc' := 10) (tgt := 13) rfl dX9_liars_7 (by decide) (fun q0 => ?_) (fun q0 => ?_)
  · have h := h.1 q0
    refine pw_aload_n (pc' := 14) 0 rfl dX9_liars_13 rfl rfl ?_
    refine ps_getR (pc' := 17) (r := 167) rfl dX9_liars_14 fl_X9_76 ob_0 rfl rfl ?_
    refine pw_iconst (pc' := 18) rfl dX9_liars_17 ci_m1 ?_
    refine ps_callVI (pc' := 21) (As := [.int (-1)]) (rest := []) (cT := (RX1, TX1, 3)) 1 rfl dX9_liars_18 cv_X1_findLiars ml_X9_264 (by decide) rfl rfl (by decide) (Nat.le_of_ble_eq_true rfl) ob_167 rfl rfl (CA.monoI h ?_)
    intro r1 M1 h
    exact ps_iret dX9_liars_21 rfl h
  · have h := h.2 q0
    refine pw_bipush (pc' := 12) rfl dX9_liars_10 cb_m2 ?_
    exact ps_iret dX9_liars_12 rfl h
theorem T_X9_maybe {M : Mem} {a1 : Int32} {a2 : Int32} {Q : Int32 → Mem → Prop}  (h : C_X6_hasOne_37 M a1 (fun r0 M0 => ((r0 = 0) → (Q (-1) M0)) ∧ ((¬ r0 = 0) → (C_X9_isTick M0 a2 (fun r2 M2 => ((¬ r2 = 0) → (((¬ (M2 1 0) = 0) → (C_X1_findLiars M2 (-1) (fun r5 M5 => C_X1_roomsOf M5 a1 a2 (fun r6 M6 => Q r6 M6)))) ∧ (((M2 1 0) = 0) → (Q (-2) M2)))) ∧ ((r2 = 0) → (Q (-1) M2))))))) : C_X9_maybe M a1 a2 Q := by
  refine CA_of rfl (Nat.le_of_ble_eq_true rfl) ?_
  show PS _ _ 0 [(0, .ref 0), (1, .int a1), (2, .int a2)] [] M _
  refine pw_aload_n (pc' := 1) 0 rfl dX9_maybe_0 rfl rfl ?_
  refine ps_getR (pc' := 4) (r := 37) rfl dX9_maybe_1 fl_X9_26 ob_0 rfl rfl ?_
  refine pw_iload_n (pc' := 5) 1 rfl dX9_maybe_4 rfl rfl ?_
  refine ps_callVI (pc' := 8) (As := [.int a1]) (rest := []) (cT := (RX6, TX6, 11)) 1 rfl dX9_maybe_5 cv_X6_hasOne ml_X9_247 (by decide) rfl rfl (by decide) (Nat.le_of_ble_eq_true rfl) ob_37 rfl rfl (CA.monoI h ?_)
  intro r0 M0 h
  refine pw_if_eq (pc' := 11) (tgt := 18) rfl dX9_maybe_8 (by decide) (fun q1 => ?_) (fun q1 => ?_)
  · have h := h.1 q1
    refine pw_iconst (pc' := 19) rfl dX9_maybe_18 ci_m1 ?_
    exact ps_iret dX9_maybe_19 rfl h
  · have h := h.2 q1
    refine pw_iload_n (pc' := 12) 2 rfl dX9_maybe_11 rfl rfl ?_
    refine ps_callSI (pc' := 15) (As := [.int a2]) (rest := []) 1 rfl dX9_maybe_12 cs_X9_isTick ml_X9_144 (by decide) rfl rfl (by decide) (Nat.le_of_ble_eq_true rfl) (CA.monoI h ?_)
    intro r2 M2 h
    refine pw_if_ne (pc' := 18) (tgt := 20) rfl dX9_maybe_15 (by decide) (fun q3 => ?_) (fun q3 => ?_)
    · have h := h.1 q3
      refine pw_aload_n (pc' := 21) 0 rfl dX9_maybe_20 rfl rfl ?_
      refine ps_getR (pc' := 24) (r := 1) rfl dX9_maybe_21 fl_X9_10 ob_0 rfl rfl ?_
      refine ps_getI (pc' := 27) (v := (M2 1 0)) rfl dX9_maybe_24 fl_X9_89 ob_1 rfl rfl ?_
      refine pw_if_ne (pc' := 30) (tgt := 33) rfl dX9_maybe_27 (by decide) (fun q4 => ?_) (fun q4 => ?_)
      · have h := h.1 q4
        refine pw_aload_n (pc' := 34) 0 rfl dX9_maybe_33 rfl rfl ?_
        refine ps_getR (pc' := 37) (r := 167) rfl dX9_maybe_34 fl_X9_76 ob_0 rfl rfl ?_
        refine pw_iconst (pc' := 38) rfl dX9_maybe_37 ci_m1 ?_
        refine ps_callVI (pc' := 41) (As := [.int (-1)]) (rest := []) (cT := (RX1, TX1, 3)) 1 rfl dX9_maybe_38 cv_X1_findLiars ml_X9_264 (by decide) rfl rfl (by decide) (Nat.le_of_ble_eq_true rfl) ob_167 rfl rfl (CA.monoI h ?_)
        intro r5 M5 h
        refine pw_pop (pc' := 42) rfl dX9_maybe_41 rfl ?_
        refine pw_aload_n (pc' := 43) 0 rfl dX9_maybe_42 rfl rfl ?_
        refine ps_getR (pc' := 46) (r := 167) rfl dX9_maybe_43 fl_X9_76 ob_0 rfl rfl ?_
        refine pw_iload_n (pc' := 47) 1 rfl dX9_maybe_46 rfl rfl ?_
        refine pw_iload_n (pc' := 48) 2 rfl dX9_maybe_47 rfl rfl ?_
        refine ps_callVI (pc' := 51) (As := [.int a1, .int a2]) (rest := []) (cT := (RX1, TX1, 3)) 2 rfl dX9_maybe_48 cv_X1_roomsOf ml_X9_267 (by decide) rfl rfl (by decide) (Nat.le_of_ble_eq_true rfl) ob_167 rfl rfl (CA.monoI h ?_)
        intro r6 M6 h
        exact ps_iret dX9_maybe_51 rfl h
      · have h := h.2 q4
        refine pw_bipush (pc' := 32) rfl dX9_maybe_30 cb_m2 ?_
        exact ps_iret dX9_maybe_32 rfl h
    · have h := h.2 q3
      refine pw_iconst (pc' := 19) rfl dX9_maybe_18 ci_m1 ?_
      exact ps_iret dX9_maybe_19 rfl h
theorem T_X9_theft {M : Mem} {a1 : Int32} {a2 : Int32} {a3 : Int32} {Q : Int32 → Mem → Prop}  (h : C_X0_hasRoom_1 M a1 (fun r0 M0 => ((r0 = 0) → (Q (-1) M0)) ∧ ((¬ r0 = 0) → (C_X9_isTick M0 a2 (fun r2 M2 => ((r2 = 0) → (Q (-1) M2)) ∧ ((¬ r2 = 0) → (C_X9_isTick M2 a3 (fun r4 M4 => ((r4 = 0) → (Q (-1) M4)) ∧ ((¬ r4 = 0) → (((a2 ≤ a3) → (Q (nI 1) (wr (wr (wr (wr M4 37 2 (nI 1)) 37 3 a1) 37 4 a2) 37 5 a3))) ∧ ((¬ a2 ≤ a3) → (Q (-1) M4)))))))))))) : C_X9_theft M a1 a2 a3 Q := by
  refine CA_of rfl (Nat.le_of_ble_eq_true rfl) ?_
  show PS _ _ 0 [(0, .ref 0), (1, .int a1), (2, .int a2), (3, .int a3)] [] M _
  refine pw_aload_n (pc' := 1) 0 rfl dX9_theft_0 rfl rfl ?_
  refine ps_getR (pc' := 4) (r := 1) rfl dX9_theft_1 fl_X9_10 ob_0 rfl rfl ?_
  refine pw_iload_n (pc' := 5) 1 rfl dX9_theft_4 rfl rfl ?_
  refine ps_callVI (pc' := 8) (As := [.int a1]) (rest := []) (cT := (RX0, TX0, 8)) 1 rfl dX9_theft_5 cv_X0_hasRoom ml_X9_148 (by decide) rfl rfl (by decide) (Nat.le_of_ble_eq_true rfl) ob_1 rfl rfl (CA.monoI h ?_)
  intro r0 M0 h
  refine pw_if_eq (pc' := 11) (tgt := 30) rfl dX9_theft_8 (by decide) (fun q1 => ?_) (fun q1 => ?_)
  · have h := h.1 q1
    refine pw_iconst (pc' := 31) rfl dX9_theft_30 ci_m1 ?_
    exact ps_iret dX9_theft_31 rfl h
  · have h := h.2 q1
    refine pw_iload_n (pc' := 12) 2 rfl dX9_theft_11 rfl rfl ?_
    refine ps_callSI (pc' := 15) (As := [.int a2]) (rest := []) 1 rfl dX9_theft_12 cs_X9_isTick ml_X9_144 (by decide) rfl rfl (by decide) (Nat.le_of_ble_eq_true rfl) (CA.monoI h ?_)
    intro r2 M2 h
    refine pw_if_eq (pc' := 18) (tgt := 30) rfl dX9_theft_15 (by decide) (fun q3 => ?_) (fun q3 => ?_)
    · have h := h.1 q3
      refine pw_iconst (pc' := 31) rfl dX9_theft_30 ci_m1 ?_
      exact ps_iret dX9_theft_31 rfl h
    · have h := h.2 q3
      refine pw_iload_n (pc' := 19) 3 rfl dX9_theft_18 rfl rfl ?_
      refine ps_callSI (pc' := 22) (As := [.int a3]) (rest := []) 1 rfl dX9_theft_19 cs_X9_isTick ml_X9_144 (by decide) rfl rfl (by decide) (Nat.le_of_ble_eq_true rfl) (CA.monoI h ?_)
      intro r4 M4 h
      refine pw_if_eq (pc' := 25) (tgt := 30) rfl dX9_theft_22 (by decide) (fun q5 => ?_) (fun q5 => ?_)
      · have h := h.1 q5
        refine pw_iconst (pc' := 31) rfl dX9_theft_30 ci_m1 ?_
        exact ps_iret dX9_theft_31 rfl h
      · have h := h.2 q5
        refine pw_iload_n (pc' := 26) 3 rfl dX9_theft_25 rfl rfl ?_
        refine pw_iload_n (pc' := 27) 2 rfl dX9_theft_26 rfl rfl ?_
        refine pw_icmp_ge (pc' := 30) (tgt := 32) rfl dX9_theft_27 (by decide) (fun q6 => ?_) (fun q6 => ?_)
        · have h := h.1 q6
          refine pw_aload_n (pc' := 33) 0 rfl dX9_theft_32 rfl rfl ?_
          refine ps_getR (pc' := 36) (r := 37) rfl dX9_theft_33 fl_X9_26 ob_0 rfl rfl ?_
          refine pw_iconst (pc' := 37) rfl dX9_theft_36 ci_1 ?_
          refine ps_putZ (pc' := 40) rfl dX9_theft_37 fl_X9_270 ob_37 rfl (by decide) ?_
          refine pw_aload_n (pc' := 41) 0 rfl dX9_theft_40 rfl rfl ?_
          refine ps_getR (pc' := 44) (r := 37) rfl dX9_theft_41 fl_X9_26 ob_0 rfl rfl ?_
          refine pw_iload_n (pc' := 45) 1 rfl dX9_theft_44 rfl rfl ?_
          refine ps_putI (pc' := 48) rfl dX9_theft_45 fl_X9_274 ob_37 rfl ?_
          refine pw_aload_n (pc' := 49) 0 rfl dX9_theft_48 rfl rfl ?_
          refine ps_getR (pc' := 52) (r := 37) rfl dX9_theft_49 fl_X9_26 ob_0 rfl rfl ?_
          refine pw_iload_n (pc' := 53) 2 rfl dX9_theft_52 rfl rfl ?_
          refine ps_putI (pc' := 56) rfl dX9_theft_53 fl_X9_277 ob_37 rfl ?_
          refine pw_aload_n (pc' := 57) 0 rfl dX9_theft_56 rfl rfl ?_
          refine ps_getR (pc' := 60) (r := 37) rfl dX9_theft_57 fl_X9_26 ob_0 rfl rfl ?_
          refine pw_iload_n (pc' := 61) 3 rfl dX9_theft_60 rfl rfl ?_
          refine ps_putI (pc' := 64) rfl dX9_theft_61 fl_X9_280 ob_37 rfl ?_
          refine pw_iconst (pc' := 65) rfl dX9_theft_64 ci_1 ?_
          exact ps_iret dX9_theft_65 rfl h
        · have h := h.2 q6
          refine pw_iconst (pc' := 31) rfl dX9_theft_30 ci_m1 ?_
          exact ps_iret dX9_theft_31 rfl h
theorem T_X9_suspects {M : Mem}  {Q : Int32 → Mem → Prop}  (h : ((¬ (M 37 2) = 0) → (C_X1_findLiars M (-1) (fun r1 M1 => P_X9_suspects_26 M1 (nI 0) (nI 0) Q))) ∧ (((M 37 2) = 0) → (Q (-2) M))) : C_X9_suspects M  Q := by
  refine CA_of rfl (Nat.le_of_ble_eq_true rfl) ?_
  show PS _ _ 0 [(0, .ref 0)] [] M _
  refine pw_aload_n (pc' := 1) 0 rfl dX9_suspects_0 rfl rfl ?_
  refine ps_getR (pc' := 4) (r := 37) rfl dX9_suspects_1 fl_X9_26 ob_0 rfl rfl ?_
  refine ps_getI (pc' := 7) (v := (M 37 2)) rfl dX9_suspects_4 fl_X9_270 ob_37 rfl rfl ?_
  refine pw_if_ne (pc' := 10) (tgt := 13) rfl dX9_suspects_7 (by decide) (fun q0 => ?_) (fun q0 => ?_)
  · have h := h.1 q0
    refine pw_aload_n (pc' := 14) 0 rfl dX9_suspects_13 rfl rfl ?_
    refine ps_getR (pc' := 17) (r := 167) rfl dX9_suspects_14 fl_X9_76 ob_0 rfl rfl ?_
    refine pw_iconst (pc' := 18) rfl dX9_suspects_17 ci_m1 ?_
    refine ps_callVI (pc' := 21) (As := [.int (-1)]) (rest := []) (cT := (RX1, TX1, 3)) 1 rfl dX9_suspects_18 cv_X1_findLiars ml_X9_264 (by decide) rfl rfl (by decide) (Nat.le_of_ble_eq_true rfl) ob_167 rfl rfl (CA.monoI h ?_)
    intro r1 M1 h
    refine pw_pop (pc' := 22) rfl dX9_suspects_21 rfl ?_
    refine pw_iconst (pc' := 23) rfl dX9_suspects_22 ci_0 ?_
    refine pw_istore_n (pc' := 24) (lv' := [(0, .ref 0), (1, .int (nI 0))]) [1, 0] rfl dX9_suspects_23 rfl (by decide) rfl ?_
    refine pw_iconst (pc' := 25) rfl dX9_suspects_24 ci_0 ?_
    refine pw_istore_n (pc' := 26) (lv' := [(0, .ref 0), (1, .int (nI 0)), (2, .int (nI 0))]) [1, 2, 0] rfl dX9_suspects_25 rfl (by decide) rfl ?_
    exact pw_sub [0, 1, 2] rfl h
  · have h := h.2 q0
    refine pw_bipush (pc' := 12) rfl dX9_suspects_10 cb_m2 ?_
    exact ps_iret dX9_suspects_12 rfl h
theorem T_X9_suspects_26 {M : Mem} {a1 : Int32} {a2 : Int32} {Q : Int32 → Mem → Prop}  (h : (((M 37 0) ≤ a2) → (Q a1 M)) ∧ ((¬ (M 37 0) ≤ a2) → (C_X1_isSuspect M a2 (fun r1 M1 => ((r1 = 0) → (P_X9_suspects_26 M1 a1 (a2 + (nI 1)) Q)) ∧ ((¬ r1 = 0) → (P_X9_suspects_26 M1 (a1 ||| ((nI 1) <<< (a2 &&& 31))) (a2 + (nI 1)) Q)))))) : P_X9_suspects_26 M a1 a2 Q := by
  refine pw_iload_n (pc' := 27) 2 rfl dX9_suspects_26 rfl rfl ?_
  refine pw_aload_n (pc' := 28) 0 rfl dX9_suspects_27 rfl rfl ?_
  refine ps_getR (pc' := 31) (r := 37) rfl dX9_suspects_28 fl_X9_26 ob_0 rfl rfl ?_
  refine ps_getI (pc' := 34) (v := (M 37 0)) rfl dX9_suspects_31 fl_X9_243 ob_37 rfl rfl ?_
  refine pw_icmp_ge (pc' := 37) (tgt := 60) rfl dX9_suspects_34 (by decide) (fun q0 => ?_) (fun q0 => ?_)
  · have h := h.1 q0
    refine pw_iload_n (pc' := 61) 1 rfl dX9_suspects_60 rfl rfl ?_
    exact ps_iret dX9_suspects_61 rfl h
  · have h := h.2 q0
    refine pw_aload_n (pc' := 38) 0 rfl dX9_suspects_37 rfl rfl ?_
    refine ps_getR (pc' := 41) (r := 167) rfl dX9_suspects_38 fl_X9_76 ob_0 rfl rfl ?_
    refine pw_iload_n (pc' := 42) 2 rfl dX9_suspects_41 rfl rfl ?_
    refine ps_callVI (pc' := 45) (As := [.int a2]) (rest := []) (cT := (RX1, TX1, 3)) 1 rfl dX9_suspects_42 cv_X1_isSuspect ml_X9_283 (by decide) rfl rfl (by decide) (Nat.le_of_ble_eq_true rfl) ob_167 rfl rfl (CA.monoI h ?_)
    intro r1 M1 h
    refine pw_if_eq (pc' := 48) (tgt := 54) rfl dX9_suspects_45 (by decide) (fun q2 => ?_) (fun q2 => ?_)
    · have h := h.1 q2
      refine pw_iinc (pc' := 57) (lv' := [(0, .ref 0), (1, .int a1), (2, .int (a2 + (nI 1)))]) 2 [1, 2, 0] rfl dX9_suspects_54 rfl (ii_1 _) (by decide) rfl ?_
      refine pw_goto (tgt := 26) dX9_suspects_57 (by decide) ?_
      exact pw_sub [0, 1, 2] rfl h
    · have h := h.2 q2
      refine pw_iload_n (pc' := 49) 1 rfl dX9_suspects_48 rfl rfl ?_
      refine pw_iconst (pc' := 50) rfl dX9_suspects_49 ci_1 ?_
      refine pw_iload_n (pc' := 51) 2 rfl dX9_suspects_50 rfl rfl ?_
      refine pw_ishl (pc' := 52) rfl dX9_suspects_51 ?_
      refine pw_ior (pc' := 53) rfl dX9_suspects_52 ?_
      refine pw_istore_n (pc' := 54) (lv' := [(0, .ref 0), (1, .int (a1 ||| ((nI 1) <<< (a2 &&& 31)))), (2, .int a2)]) [1, 0, 2] rfl dX9_suspects_53 rfl (by decide) rfl ?_
      refine pw_iinc (pc' := 57) (lv' := [(0, .ref 0), (1, .int (a1 ||| ((nI 1) <<< (a2 &&& 31)))), (2, .int (a2 + (nI 1)))]) 2 [1, 2, 0] rfl dX9_suspects_54 rfl (ii_1 _) (by decide) rfl ?_
      refine pw_goto (tgt := 26) dX9_suspects_57 (by decide) ?_
      exact pw_sub [0, 1, 2] rfl h
theorem T_X9_clears {M : Mem} {a1 : Int32} {Q : Int32 → Mem → Prop}  (h : C_X6_hasOne_37 M a1 (fun r0 M0 => ((¬ r0 = 0) → (((¬ (M0 37 2) = 0) → (C_X1_findLiars M0 (-1) (fun r3 M3 => C_X1_isSuspect M3 a1 (fun r4 M4 => ((r4 = 0) → (P_X9_clears_53 M4 a1 (nI 0) (nI 0) Q)) ∧ ((¬ r4 = 0) → (Q (-4) M4)))))) ∧ (((M0 37 2) = 0) → (Q (-2) M0)))) ∧ ((r0 = 0) → (Q (-1) M0)))) : C_X9_clears M a1 Q := by
  refine CA_of rfl (Nat.le_of_ble_eq_true rfl) ?_
  show PS _ _ 0 [(0, .ref 0), (1, .int a1)] [] M _
  refine pw_aload_n (pc' := 1) 0 rfl dX9_clears_0 rfl rfl ?_
  refine ps_getR (pc' := 4) (r := 37) rfl dX9_clears_1 fl_X9_26 ob_0 rfl rfl ?_
  refine pw_iload_n (pc' := 5) 1 rfl dX9_clears_4 rfl rfl ?_
  refine ps_callVI (pc' := 8) (As := [.int a1]) (rest := []) (cT := (RX6, TX6, 11)) 1 rfl dX9_clears_5 cv_X6_hasOne ml_X9_247 (by decide) rfl rfl (by decide) (Nat.le_of_ble_eq_true rfl) ob_37 rfl rfl (CA.monoI h ?_)
  intro r0 M0 h
  refine pw_if_ne (pc' := 11) (tgt := 13) rfl dX9_clears_8 (by decide) (fun q1 => ?_) (fun q1 => ?_)
  · have h := h.1 q1
    refine pw_aload_n (pc' := 14) 0 rfl dX9_clears_13 rfl rfl ?_
    refine ps_getR (pc' := 17) (r := 37) rfl dX9_clears_14 fl_X9_26 ob_0 rfl rfl ?_
    refine ps_getI (pc' := 20) (v := (M0 37 2)) rfl dX9_clears_17 fl_X9_270 ob_37 rfl rfl ?_
    refine pw_if_ne (pc' := 23) (tgt := 26) rfl dX9_clears_20 (by decide) (fun q2 => ?_) (fun q2 => ?_)
    · have h := h.1 q2
      refine pw_aload_n (pc' := 27) 0 rfl dX9_clears_26 rfl rfl ?_
      refine ps_getR (pc' := 30) (r := 167) rfl dX9_clears_27 fl_X9_76 ob_0 rfl rfl ?_
      refine pw_iconst (pc' := 31) rfl dX9_clears_30 ci_m1 ?_
      refine ps_callVI (pc' := 34) (As := [.int (-1)]) (rest := []) (cT := (RX1, TX1, 3)) 1 rfl dX9_clears_31 cv_X1_findLiars ml_X9_264 (by decide) rfl rfl (by decide) (Nat.le_of_ble_eq_true rfl) ob_167 rfl rfl (CA.monoI h ?_)
      intro r3 M3 h
      refine pw_pop (pc' := 35) rfl dX9_clears_34 rfl ?_
      refine pw_aload_n (pc' := 36) 0 rfl dX9_clears_35 rfl rfl ?_
      refine ps_getR (pc' := 39) (r := 167) rfl dX9_clears_36 fl_X9_76 ob_0 rfl rfl ?_
      refine pw_iload_n (pc' := 40) 1 rfl dX9_clears_39 rfl rfl ?_
      refine ps_callVI (pc' := 43) (As := [.int a1]) (rest := []) (cT := (RX1, TX1, 3)) 1 rfl dX9_clears_40 cv_X1_isSuspect ml_X9_283 (by decide) rfl rfl (by decide) (Nat.le_of_ble_eq_true rfl) ob_167 rfl rfl (CA.monoI h ?_)
      intro r4 M4 h
      refine pw_if_eq (pc' := 46) (tgt := 49) rfl dX9_clears_43 (by decide) (fun q5 => ?_) (fun q5 => ?_)
      · have h := h.1 q5
        refine pw_iconst (pc' := 50) rfl dX9_clears_49 ci_0 ?_
        refine pw_istore_n (pc' := 51) (lv' := [(0, .ref 0), (1, .int a1), (2, .int (nI 0))]) [1, 2, 0] rfl dX9_clears_50 rfl (by decide) rfl ?_
        refine pw_iconst (pc' := 52) rfl dX9_clears_51 ci_0 ?_
        refine pw_istore_n (pc' := 53) (lv' := [(0, .ref 0), (1, .int a1), (2, .int (nI 0)), (3, .int (nI 0))]) [1, 2, 3, 0] rfl dX9_clears_52 rfl (by decide) rfl ?_
        exact pw_sub [0, 1, 2, 3] rfl h
      · have h := h.2 q5
        refine pw_bipush (pc' := 48) rfl dX9_clears_46 cb_m4 ?_
        exact ps_iret dX9_clears_48 rfl h
    · have h := h.2 q2
      refine pw_bipush (pc' := 25) rfl dX9_clears_23 cb_m2 ?_
      exact ps_iret dX9_clears_25 rfl h
  · have h := h.2 q1
    refine pw_iconst (pc' := 12) rfl dX9_clears_11 ci_m1 ?_
    exact ps_iret dX9_clears_12 rfl h
theorem T_X9_clears_53 {M : Mem} {a1 : Int32} {a2 : Int32} {a3 : Int32} {Q : Int32 → Mem → Prop}  (h : (((M 37 1) ≤ a3) → (Q a2 M)) ∧ ((¬ (M 37 1) ≤ a3) → (C_X1_findLiars M a3 (fun r1 M1 => C_X1_isSuspect M1 a1 (fun r2 M2 => ((r2 = 0) → (P_X9_clears_53 M2 a1 a2 (a3 + (nI 1)) Q)) ∧ ((¬ r2 = 0) → (P_X9_clears_53 M2 a1 (a2 ||| ((nI 1) <<< (a3 &&& 31))) (a3 + (nI 1)) Q))))))) : P_X9_clears_53 M a1 a2 a3 Q := by
  refine pw_iload_n (pc' := 54) 3 rfl dX9_clears_53 rfl rfl ?_
  refine pw_aload_n (pc' := 55) 0 rfl dX9_clears_54 rfl rfl ?_
  refine ps_getR (pc' := 58) (r := 37) rfl dX9_clears_55 fl_X9_26 ob_0 rfl rfl ?_
  refine ps_getI (pc' := 61) (v := (M 37 1)) rfl dX9_clears_58 fl_X9_250 ob_37 rfl rfl ?_
  refine pw_icmp_ge (pc' := 64) (tgt := 96) rfl dX9_clears_61 (by decide) (fun q0 => ?_) (fun q0 => ?_)
  · have h := h.1 q0
    refine pw_iload_n (pc' := 97) 2 rfl dX9_clears_96 rfl rfl ?_
    exact ps_iret dX9_clears_97 rfl h
  · have h := h.2 q0
    refine pw_aload_n (pc' := 65) 0 rfl dX9_clears_64 rfl rfl ?_
    refine ps_getR (pc' := 68) (r := 167) rfl dX9_clears_65 fl_X9_76 ob_0 rfl rfl ?_
    refine pw_iload_n (pc' := 69) 3 rfl dX9_clears_68 rfl rfl ?_
    refine ps_callVI (pc' := 72) (As := [.int a3]) (rest := []) (cT := (RX1, TX1, 3)) 1 rfl dX9_clears_69 cv_X1_findLiars ml_X9_264 (by decide) rfl rfl (by decide) (Nat.le_of_ble_eq_true rfl) ob_167 rfl rfl (CA.monoI h ?_)
    intro r1 M1 h
    refine pw_pop (pc' := 73) rfl dX9_clears_72 rfl ?_
    refine pw_aload_n (pc' := 74) 0 rfl dX9_clears_73 rfl rfl ?_
    refine ps_getR (pc' := 77) (r := 167) rfl dX9_clears_74 fl_X9_76 ob_0 rfl rfl ?_
    refine pw_iload_n (pc' := 78) 1 rfl dX9_clears_77 rfl rfl ?_
    refine ps_callVI (pc' := 81) (As := [.int a1]) (rest := []) (cT := (RX1, TX1, 3)) 1 rfl dX9_clears_78 cv_X1_isSuspect ml_X9_283 (by decide) rfl rfl (by decide) (Nat.le_of_ble_eq_true rfl) ob_167 rfl rfl (CA.monoI h ?_)
    intro r2 M2 h
    refine pw_if_eq (pc' := 84) (tgt := 90) rfl dX9_clears_81 (by decide) (fun q3 => ?_) (fun q3 => ?_)
    · have h := h.1 q3
      refine pw_iinc (pc' := 93) (lv' := [(0, .ref 0), (1, .int a1), (2, .int a2), (3, .int (a3 + (nI 1)))]) 3 [1, 2, 3, 0] rfl dX9_clears_90 rfl (ii_1 _) (by decide) rfl ?_
      refine pw_goto (tgt := 53) dX9_clears_93 (by decide) ?_
      exact pw_sub [0, 1, 2, 3] rfl h
    · have h := h.2 q3
      refine pw_iload_n (pc' := 85) 2 rfl dX9_clears_84 rfl rfl ?_
      refine pw_iconst (pc' := 86) rfl dX9_clears_85 ci_1 ?_
      refine pw_iload_n (pc' := 87) 3 rfl dX9_clears_86 rfl rfl ?_
      refine pw_ishl (pc' := 88) rfl dX9_clears_87 ?_
      refine pw_ior (pc' := 89) rfl dX9_clears_88 ?_
      refine pw_istore_n (pc' := 90) (lv' := [(0, .ref 0), (1, .int a1), (2, .int (a2 ||| ((nI 1) <<< (a3 &&& 31)))), (3, .int a3)]) [1, 2, 0, 3] rfl dX9_clears_89 rfl (by decide) rfl ?_
      refine pw_iinc (pc' := 93) (lv' := [(0, .ref 0), (1, .int a1), (2, .int (a2 ||| ((nI 1) <<< (a3 &&& 31)))), (3, .int (a3 + (nI 1)))]) 3 [1, 2, 3, 0] rfl dX9_clears_90 rfl (ii_1 _) (by decide) rfl ?_
      refine pw_goto (tgt := 53) dX9_clears_93 (by decide) ?_
      exact pw_sub [0, 1, 2, 3] rfl h
theorem T_X9_count {M : Mem} {a1 : Int32} {Q : Int32 → Mem → Prop}  (h : (a1 = (nI 0) → (Q (M 1 0) M)) ∧ (a1 = (nI 1) → (Q (M 1 1) M)) ∧ (a1 = (nI 2) → (Q (M 1 2) M)) ∧ (a1 = (nI 3) → (Q (M 30 0) M)) ∧ (a1 = (nI 4) → (C_J6_bitCount_0f7a4 M (M 30 1) (fun r9 M9 => Q r9 M9))) ∧ (a1 = (nI 5) → (Q (M 30 3) M)) ∧ (a1 = (nI 6) → (Q (M 37 0) M)) ∧ (a1 = (nI 7) → (Q (M 37 1) M)) ∧ (¬ a1 = (nI 0) → ¬ a1 = (nI 1) → ¬ a1 = (nI 2) → ¬ a1 = (nI 3) → ¬ a1 = (nI 4) → ¬ a1 = (nI 5) → ¬ a1 = (nI 6) → ¬ a1 = (nI 7) → (Q (-1) M))) : C_X9_count M a1 Q := by
  refine CA_of rfl (Nat.le_of_ble_eq_true rfl) ?_
  show PS _ _ 0 [(0, .ref 0), (1, .int a1)] [] M _
  refine pw_iload_n (pc' := 1) 1 rfl dX9_count_0 rfl rfl ?_
  by_cases q0 : a1 = (nI 0)
  · have h := h.1 q0
    refine pw_tableIn (tgt := 48) dX9_count_1 (by rw [q0] <;> decide) (by rw [q0] <;> decide) (by rw [q0] <;> rfl) (by decide) ?_
    refine pw_aload_n (pc' := 49) 0 rfl dX9_count_48 rfl rfl ?_
    refine ps_getR (pc' := 52) (r := 1) rfl dX9_count_49 fl_X9_10 ob_0 rfl rfl ?_
    refine ps_getI (pc' := 55) (v := (M 1 0)) rfl dX9_count_52 fl_X9_89 ob_1 rfl rfl ?_
    exact ps_iret dX9_count_55 rfl h
  · skip
    by_cases q1 : a1 = (nI 1)
    · have h := h.2.1 q1
      refine pw_tableIn (tgt := 56) dX9_count_1 (by rw [q1] <;> decide) (by rw [q1] <;> decide) (by rw [q1] <;> rfl) (by decide) ?_
      refine pw_aload_n (pc' := 57) 0 rfl dX9_count_56 rfl rfl ?_
      refine ps_getR (pc' := 60) (r := 1) rfl dX9_count_57 fl_X9_10 ob_0 rfl rfl ?_
      refine ps_getI (pc' := 63) (v := (M 1 1)) rfl dX9_count_60 fl_X9_104 ob_1 rfl rfl ?_
      exact ps_iret dX9_count_63 rfl h
    · skip
      by_cases q2 : a1 = (nI 2)
      · have h := h.2.2.1 q2
        refine pw_tableIn (tgt := 64) dX9_count_1 (by rw [q2] <;> decide) (by rw [q2] <;> decide) (by rw [q2] <;> rfl) (by decide) ?_
        refine pw_aload_n (pc' := 65) 0 rfl dX9_count_64 rfl rfl ?_
        refine ps_getR (pc' := 68) (r := 1) rfl dX9_count_65 fl_X9_10 ob_0 rfl rfl ?_
        refine ps_getI (pc' := 71) (v := (M 1 2)) rfl dX9_count_68 fl_X9_129 ob_1 rfl rfl ?_
        exact ps_iret dX9_count_71 rfl h
      · skip
        by_cases q3 : a1 = (nI 3)
        · have h := h.2.2.2.1 q3
          refine pw_tableIn (tgt := 72) dX9_count_1 (by rw [q3] <;> decide) (by rw [q3] <;> decide) (by rw [q3] <;> rfl) (by decide) ?_
          refine pw_aload_n (pc' := 73) 0 rfl dX9_count_72 rfl rfl ?_
          refine ps_getR (pc' := 76) (r := 30) rfl dX9_count_73 fl_X9_19 ob_0 rfl rfl ?_
          refine ps_getI (pc' := 79) (v := (M 30 0)) rfl dX9_count_76 fl_X9_159 ob_30 rfl rfl ?_
          exact ps_iret dX9_count_79 rfl h
        · skip
          by_cases q4 : a1 = (nI 4)
          · have h := h.2.2.2.2.1 q4
            refine pw_tableIn (tgt := 80) dX9_count_1 (by rw [q4] <;> decide) (by rw [q4] <;> decide) (by rw [q4] <;> rfl) (by decide) ?_
            refine pw_aload_n (pc' := 81) 0 rfl dX9_count_80 rfl rfl ?_
            refine ps_getR (pc' := 84) (r := 30) rfl dX9_count_81 fl_X9_19 ob_0 rfl rfl ?_
            refine ps_getI (pc' := 87) (v := (M 30 1)) rfl dX9_count_84 fl_X9_168 ob_30 rfl rfl ?_
            refine ps_callSI (pc' := 90) (As := [.int (M 30 1)]) (rest := []) 1 rfl dX9_count_87 cs_J6_bitCount_0f7a4 ml_X9_286 (by decide) rfl rfl (by decide) (Nat.le_of_ble_eq_true rfl) (CA.monoI h ?_)
            intro r9 M9 h
            exact ps_iret dX9_count_90 rfl h
          · skip
            by_cases q5 : a1 = (nI 5)
            · have h := h.2.2.2.2.2.1 q5
              refine pw_tableIn (tgt := 91) dX9_count_1 (by rw [q5] <;> decide) (by rw [q5] <;> decide) (by rw [q5] <;> rfl) (by decide) ?_
              refine pw_aload_n (pc' := 92) 0 rfl dX9_count_91 rfl rfl ?_
              refine ps_getR (pc' := 95) (r := 30) rfl dX9_count_92 fl_X9_19 ob_0 rfl rfl ?_
              refine ps_getI (pc' := 98) (v := (M 30 3)) rfl dX9_count_95 fl_X9_178 ob_30 rfl rfl ?_
              exact ps_iret dX9_count_98 rfl h
            · skip
              by_cases q6 : a1 = (nI 6)
              · have h := h.2.2.2.2.2.2.1 q6
                refine pw_tableIn (tgt := 99) dX9_count_1 (by rw [q6] <;> decide) (by rw [q6] <;> decide) (by rw [q6] <;> rfl) (by decide) ?_
                refine pw_aload_n (pc' := 100) 0 rfl dX9_count_99 rfl rfl ?_
                refine ps_getR (pc' := 103) (r := 37) rfl dX9_count_100 fl_X9_26 ob_0 rfl rfl ?_
                refine ps_getI (pc' := 106) (v := (M 37 0)) rfl dX9_count_103 fl_X9_243 ob_37 rfl rfl ?_
                exact ps_iret dX9_count_106 rfl h
              · skip
                by_cases q7 : a1 = (nI 7)
                · have h := h.2.2.2.2.2.2.2.1 q7
                  refine pw_tableIn (tgt := 107) dX9_count_1 (by rw [q7] <;> decide) (by rw [q7] <;> decide) (by rw [q7] <;> rfl) (by decide) ?_
                  refine pw_aload_n (pc' := 108) 0 rfl dX9_count_107 rfl rfl ?_
                  refine ps_getR (pc' := 111) (r := 37) rfl dX9_count_108 fl_X9_26 ob_0 rfl rfl ?_
                  refine ps_getI (pc' := 114) (v := (M 37 1)) rfl dX9_count_111 fl_X9_250 ob_37 rfl rfl ?_
                  exact ps_iret dX9_count_114 rfl h
                · skip
                  have h := h.2.2.2.2.2.2.2.2 q0 q1 q2 q3 q4 q5 q6 q7
                  refine pw_tableOut (tgt := 115) dX9_count_1 (sw_out8 q0 q1 q2 q3 q4 q5 q6 q7) (by decide) ?_
                  refine pw_iconst (pc' := 116) rfl dX9_count_115 ci_m1 ?_
                  exact ps_iret dX9_count_116 rfl h
theorem T_X9_image {M : Mem}  {Q : Int32 → Mem → Prop}  (h : C_X0_become_43_1 M (fun M0 => C_X5_become_72_30 M0 (fun M1 => C_X6_become_79_37 M1 (fun M2 => Q (nI 1) (wr M2 0 6 (nI 1)))))) : C_X9_image M  Q := by
  refine CA_of rfl (Nat.le_of_ble_eq_true rfl) ?_
  show PS _ _ 0 [(0, .ref 0)] [] M _
  refine pw_aload_n (pc' := 1) 0 rfl dX9_image_0 rfl rfl ?_
  refine ps_getR (pc' := 4) (r := 43) rfl dX9_image_1 fl_X9_30 ob_0 rfl rfl ?_
  refine pw_aload_n (pc' := 5) 0 rfl dX9_image_4 rfl rfl ?_
  refine ps_getR (pc' := 8) (r := 1) rfl dX9_image_5 fl_X9_10 ob_0 rfl rfl ?_
  refine ps_callVV (pc' := 11) (As := [.ref 1]) (rest := []) (cT := (RX0, TX0, 8)) 1 rfl dX9_image_8 cv_X0_become ml_X9_291 (by decide) rfl rfl (by decide) (Nat.le_of_ble_eq_true rfl) ob_43 rfl rfl (CA.monoV h ?_)
  intro M0 h
  refine pw_aload_n (pc' := 12) 0 rfl dX9_image_11 rfl rfl ?_
  refine ps_getR (pc' := 15) (r := 72) rfl dX9_image_12 fl_X9_33 ob_0 rfl rfl ?_
  refine pw_aload_n (pc' := 16) 0 rfl dX9_image_15 rfl rfl ?_
  refine ps_getR (pc' := 19) (r := 30) rfl dX9_image_16 fl_X9_19 ob_0 rfl rfl ?_
  refine ps_callVV (pc' := 22) (As := [.ref 30]) (rest := []) (cT := (RX5, TX5, 10)) 1 rfl dX9_image_19 cv_X5_become ml_X9_294 (by decide) rfl rfl (by decide) (Nat.le_of_ble_eq_true rfl) ob_72 rfl rfl (CA.monoV h ?_)
  intro M1 h
  refine pw_aload_n (pc' := 23) 0 rfl dX9_image_22 rfl rfl ?_
  refine ps_getR (pc' := 26) (r := 79) rfl dX9_image_23 fl_X9_36 ob_0 rfl rfl ?_
  refine pw_aload_n (pc' := 27) 0 rfl dX9_image_26 rfl rfl ?_
  refine ps_getR (pc' := 30) (r := 37) rfl dX9_image_27 fl_X9_26 ob_0 rfl rfl ?_
  refine ps_callVV (pc' := 33) (As := [.ref 37]) (rest := []) (cT := (RX6, TX6, 11)) 1 rfl dX9_image_30 cv_X6_become ml_X9_297 (by decide) rfl rfl (by decide) (Nat.le_of_ble_eq_true rfl) ob_79 rfl rfl (CA.monoV h ?_)
  intro M2 h
  refine pw_aload_n (pc' := 34) 0 rfl dX9_image_33 rfl rfl ?_
  refine pw_iconst (pc' := 35) rfl dX9_image_34 ci_1 ?_
  refine ps_putZ (pc' := 38) rfl dX9_image_35 fl_X9_300 ob_0 rfl (by decide) ?_
  refine pw_iconst (pc' := 39) rfl dX9_image_38 ci_1 ?_
  exact ps_iret dX9_image_39 rfl h
theorem T_X9_restore {M : Mem}  {Q : Int32 → Mem → Prop}  (h : ((¬ (M 0 6) = 0) → (C_X0_become_1_43 M (fun M1 => C_X5_become_30_72 M1 (fun M2 => C_X6_become_37_79 M2 (fun M3 => C_X9_doorsChanged M3 (fun M4 => Q (nI 1) M4)))))) ∧ (((M 0 6) = 0) → (Q (-4) M))) : C_X9_restore M  Q := by
  refine CA_of rfl (Nat.le_of_ble_eq_true rfl) ?_
  show PS _ _ 0 [(0, .ref 0)] [] M _
  refine pw_aload_n (pc' := 1) 0 rfl dX9_restore_0 rfl rfl ?_
  refine ps_getI (pc' := 4) (v := (M 0 6)) rfl dX9_restore_1 fl_X9_300 ob_0 rfl rfl ?_
  refine pw_if_ne (pc' := 7) (tgt := 10) rfl dX9_restore_4 (by decide) (fun q0 => ?_) (fun q0 => ?_)
  · have h := h.1 q0
    refine pw_aload_n (pc' := 11) 0 rfl dX9_restore_10 rfl rfl ?_
    refine ps_getR (pc' := 14) (r := 1) rfl dX9_restore_11 fl_X9_10 ob_0 rfl rfl ?_
    refine pw_aload_n (pc' := 15) 0 rfl dX9_restore_14 rfl rfl ?_
    refine ps_getR (pc' := 18) (r := 43) rfl dX9_restore_15 fl_X9_30 ob_0 rfl rfl ?_
    refine ps_callVV (pc' := 21) (As := [.ref 43]) (rest := []) (cT := (RX0, TX0, 8)) 1 rfl dX9_restore_18 cv_X0_become ml_X9_291 (by decide) rfl rfl (by decide) (Nat.le_of_ble_eq_true rfl) ob_1 rfl rfl (CA.monoV h ?_)
    intro M1 h
    refine pw_aload_n (pc' := 22) 0 rfl dX9_restore_21 rfl rfl ?_
    refine ps_getR (pc' := 25) (r := 30) rfl dX9_restore_22 fl_X9_19 ob_0 rfl rfl ?_
    refine pw_aload_n (pc' := 26) 0 rfl dX9_restore_25 rfl rfl ?_
    refine ps_getR (pc' := 29) (r := 72) rfl dX9_restore_26 fl_X9_33 ob_0 rfl rfl ?_
    refine ps_callVV (pc' := 32) (As := [.ref 72]) (rest := []) (cT := (RX5, TX5, 10)) 1 rfl dX9_restore_29 cv_X5_become ml_X9_294 (by decide) rfl rfl (by decide) (Nat.le_of_ble_eq_true rfl) ob_30 rfl rfl (CA.monoV h ?_)
    intro M2 h
    refine pw_aload_n (pc' := 33) 0 rfl dX9_restore_32 rfl rfl ?_
    refine ps_getR (pc' := 36) (r := 37) rfl dX9_restore_33 fl_X9_26 ob_0 rfl rfl ?_
    refine pw_aload_n (pc' := 37) 0 rfl dX9_restore_36 rfl rfl ?_
    refine ps_getR (pc' := 40) (r := 79) rfl dX9_restore_37 fl_X9_36 ob_0 rfl rfl ?_
    refine ps_callVV (pc' := 43) (As := [.ref 79]) (rest := []) (cT := (RX6, TX6, 11)) 1 rfl dX9_restore_40 cv_X6_become ml_X9_297 (by decide) rfl rfl (by decide) (Nat.le_of_ble_eq_true rfl) ob_37 rfl rfl (CA.monoV h ?_)
    intro M3 h
    refine pw_aload_n (pc' := 44) 0 rfl dX9_restore_43 rfl rfl ?_
    refine ps_callVV (pc' := 47) (As := []) (rest := []) (cT := (RX9, TX9, 14)) 0 rfl dX9_restore_44 cv_X9_doorsChanged ml_X9_93 (by decide) rfl rfl (by decide) (Nat.le_of_ble_eq_true rfl) ob_0 rfl rfl (CA.monoV h ?_)
    intro M4 h
    refine pw_iconst (pc' := 48) rfl dX9_restore_47 ci_1 ?_
    exact ps_iret dX9_restore_48 rfl h
  · have h := h.2 q0
    refine pw_bipush (pc' := 9) rfl dX9_restore_7 cb_m4 ?_
    exact ps_iret dX9_restore_9 rfl h
theorem T_X9_errands {M : Mem} {a1 : Int32} {a2 : Int32} {a3 : Int32} {a4 : Int32} {Q : Int32 → Mem → Prop}  (h : C_X4_isSheet M a1 (fun r0 M0 => ((r0 = 0) → (Q (-1) M0)) ∧ ((¬ r0 = 0) → (C_X4_isLane M0 a2 (fun r2 M2 => ((r2 = 0) → (Q (-1) M2)) ∧ ((¬ r2 = 0) → (((a4 < (nI 1)) → (Q (-1) M2)) ∧ ((¬ a4 < (nI 1)) → (((a4 ≤ (nI 4)) → (C_X4_isNothing M2 a1 (fun r6 M6 => ((r6 = 0) → (vp_in a1 4 ∧ ((((M6 88 (ix a1)) = a2) → (C_X4_holds M6 a1 a3 ((nI 5) * a4) (fun r10 M10 => ((¬ r10 = 0) → (P_X9_errands_99 M10 a3 a4 (90 + 1 + ix a1) a3 Q)) ∧ ((r10 = 0) → (Q (-13) M10))))) ∧ ((¬ (M6 88 (ix a1)) = a2) → (Q (-12) M6))))) ∧ ((¬ r6 = 0) → (Q (-11) M6))))) ∧ ((¬ a4 ≤ (nI 4)) → (Q (-1) M2))))))))))) : C_X9_errands M a1 a2 a3 a4 Q := by
  refine CA_of rfl (Nat.le_of_ble_eq_true rfl) ?_
  show PS _ _ 0 [(0, .ref 0), (1, .int a1), (2, .int a2), (3, .int a3), (4, .int a4)] [] M _
  refine pw_aload_n (pc' := 1) 0 rfl dX9_errands_0 rfl rfl ?_
  refine ps_getR (pc' := 4) (r := 87) rfl dX9_errands_1 fl_X9_49 ob_0 rfl rfl ?_
  refine pw_iload_n (pc' := 5) 1 rfl dX9_errands_4 rfl rfl ?_
  refine ps_callVI (pc' := 8) (As := [.int a1]) (rest := []) (cT := (RX4, TX4, 3)) 1 rfl dX9_errands_5 cv_X4_isSheet ml_X9_303 (by decide) rfl rfl (by decide) (Nat.le_of_ble_eq_true rfl) ob_87 rfl rfl (CA.monoI h ?_)
  intro r0 M0 h
  refine pw_if_eq (pc' := 11) (tgt := 34) rfl dX9_errands_8 (by decide) (fun q1 => ?_) (fun q1 => ?_)
  · have h := h.1 q1
    refine pw_iconst (pc' := 35) rfl dX9_errands_34 ci_m1 ?_
    exact ps_iret dX9_errands_35 rfl h
  · have h := h.2 q1
    refine pw_aload_n (pc' := 12) 0 rfl dX9_errands_11 rfl rfl ?_
    refine ps_getR (pc' := 15) (r := 87) rfl dX9_errands_12 fl_X9_49 ob_0 rfl rfl ?_
    refine pw_iload_n (pc' := 16) 2 rfl dX9_errands_15 rfl rfl ?_
    refine ps_callVI (pc' := 19) (As := [.int a2]) (rest := []) (cT := (RX4, TX4, 3)) 1 rfl dX9_errands_16 cv_X4_isLane ml_X9_306 (by decide) rfl rfl (by decide) (Nat.le_of_ble_eq_true rfl) ob_87 rfl rfl (CA.monoI h ?_)
    intro r2 M2 h
    refine pw_if_eq (pc' := 22) (tgt := 34) rfl dX9_errands_19 (by decide) (fun q3 => ?_) (fun q3 => ?_)
    · have h := h.1 q3
      refine pw_iconst (pc' := 35) rfl dX9_errands_34 ci_m1 ?_
      exact ps_iret dX9_errands_35 rfl h
    · have h := h.2 q3
      refine pw_iload (pc' := 24) 4 rfl dX9_errands_22 rfl ?_
      refine pw_iconst (pc' := 25) rfl dX9_errands_24 ci_1 ?_
      refine pw_icmp_lt (pc' := 28) (tgt := 34) rfl dX9_errands_25 (by decide) (fun q4 => ?_) (fun q4 => ?_)
      · have h := h.1 q4
        refine pw_iconst (pc' := 35) rfl dX9_errands_34 ci_m1 ?_
        exact ps_iret dX9_errands_35 rfl h
      · have h := h.2 q4
        refine pw_iload (pc' := 30) 4 rfl dX9_errands_28 rfl ?_
        refine pw_iconst (pc' := 31) rfl dX9_errands_30 ci_4 ?_
        refine pw_icmp_le (pc' := 34) (tgt := 36) rfl dX9_errands_31 (by decide) (fun q5 => ?_) (fun q5 => ?_)
        · have h := h.1 q5
          refine pw_aload_n (pc' := 37) 0 rfl dX9_errands_36 rfl rfl ?_
          refine ps_getR (pc' := 40) (r := 87) rfl dX9_errands_37 fl_X9_49 ob_0 rfl rfl ?_
          refine pw_iload_n (pc' := 41) 1 rfl dX9_errands_40 rfl rfl ?_
          refine ps_callVI (pc' := 44) (As := [.int a1]) (rest := []) (cT := (RX4, TX4, 3)) 1 rfl dX9_errands_41 cv_X4_isNothing ml_X9_309 (by decide) rfl rfl (by decide) (Nat.le_of_ble_eq_true rfl) ob_87 rfl rfl (CA.monoI h ?_)
          intro r6 M6 h
          refine pw_if_eq (pc' := 47) (tgt := 50) rfl dX9_errands_44 (by decide) (fun q7 => ?_) (fun q7 => ?_)
          · have h := h.1 q7
            refine pw_aload_n (pc' := 51) 0 rfl dX9_errands_50 rfl rfl ?_
            refine ps_getR (pc' := 54) (r := 87) rfl dX9_errands_51 fl_X9_49 ob_0 rfl rfl ?_
            refine ps_getR (pc' := 57) (r := 88) rfl dX9_errands_54 fl_X9_312 ob_87 rfl rfl ?_
            refine pw_iload_n (pc' := 58) 1 rfl dX9_errands_57 rfl rfl ?_
            obtain ⟨b8, h⟩ := h
            refine ps_iald (pc' := 59) (v := (M6 88 (ix a1))) rfl dX9_errands_58 ia_88 b8 rfl ?_
            refine pw_iload_n (pc' := 60) 2 rfl dX9_errands_59 rfl rfl ?_
            refine pw_icmp_eq (pc' := 63) (tgt := 66) rfl dX9_errands_60 (by decide) (fun q9 => ?_) (fun q9 => ?_)
            · have h := h.1 q9
              refine pw_aload_n (pc' := 67) 0 rfl dX9_errands_66 rfl rfl ?_
              refine ps_getR (pc' := 70) (r := 87) rfl dX9_errands_67 fl_X9_49 ob_0 rfl rfl ?_
              refine pw_iload_n (pc' := 71) 1 rfl dX9_errands_70 rfl rfl ?_
              refine pw_iload_n (pc' := 72) 3 rfl dX9_errands_71 rfl rfl ?_
              refine pw_iconst (pc' := 73) rfl dX9_errands_72 ci_5 ?_
              refine pw_iload (pc' := 75) 4 rfl dX9_errands_73 rfl ?_
              refine pw_imul (pc' := 76) rfl dX9_errands_75 ?_
              refine ps_callVI (pc' := 79) (As := [.int a1, .int a3, .int ((nI 5) * a4)]) (rest := []) (cT := (RX4, TX4, 3)) 3 rfl dX9_errands_76 cv_X4_holds ml_X9_315 (by decide) rfl rfl (by decide) (Nat.le_of_ble_eq_true rfl) ob_87 rfl rfl (CA.monoI h ?_)
              intro r10 M10 h
              refine pw_if_ne (pc' := 82) (tgt := 85) rfl dX9_errands_79 (by decide) (fun q11 => ?_) (fun q11 => ?_)
              · have h := h.1 q11
                refine pw_aload_n (pc' := 86) 0 rfl dX9_errands_85 rfl rfl ?_
                refine ps_getR (pc' := 89) (r := 87) rfl dX9_errands_86 fl_X9_49 ob_0 rfl rfl ?_
                refine ps_getR (pc' := 92) (r := 90) rfl dX9_errands_89 fl_X9_319 ob_87 rfl rfl ?_
                refine pw_iload_n (pc' := 93) 1 rfl dX9_errands_92 rfl rfl ?_
                refine ps_aald (pc' := 94) rfl dX9_errands_93 ra_90 b8 ?_
                refine pw_astore (pc' := 96) (lv' := [(0, .ref 0), (1, .int a1), (2, .int a2), (3, .int a3), (4, .int a4), (5, .ref (90 + 1 + ix a1))]) [1, 2, 3, 4, 5, 0] rfl dX9_errands_94 (by decide) rfl ?_
                refine pw_iload_n (pc' := 97) 3 rfl dX9_errands_96 rfl rfl ?_
                refine pw_istore (pc' := 99) (lv' := [(0, .ref 0), (1, .int a1), (2, .int a2), (3, .int a3), (4, .int a4), (5, .ref (90 + 1 + ix a1)), (6, .int a3)]) [1, 2, 3, 4, 5, 6, 0] rfl dX9_errands_97 (by decide) rfl ?_
                exact pw_sub [0, 3, 4, 5, 6] rfl h
              · have h := h.2 q11
                refine pw_bipush (pc' := 84) rfl dX9_errands_82 cb_m13 ?_
                exact ps_iret dX9_errands_84 rfl h
            · have h := h.2 q9
              refine pw_bipush (pc' := 65) rfl dX9_errands_63 cb_m12 ?_
              exact ps_iret dX9_errands_65 rfl h
          · have h := h.2 q7
            refine pw_bipush (pc' := 49) rfl dX9_errands_47 cb_m11 ?_
            exact ps_iret dX9_errands_49 rfl h
        · have h := h.2 q5
          refine pw_iconst (pc' := 35) rfl dX9_errands_34 ci_m1 ?_
          exact ps_iret dX9_errands_35 rfl h
theorem T_X9_errands_99 {M : Mem} {a3 : Int32} {a4 : Int32} {c5 : Nat} {a6 : Int32} {Q : Int32 → Mem → Prop} (hc5 : IA c5 24) (h : (((a3 + ((nI 5) * a4)) ≤ a6) → (((((M 30 3) + a4) ≤ (nI 5)) → (P_X9_errands_179 M a3 a4 c5 a3 Q)) ∧ ((¬ ((M 30 3) + a4) ≤ (nI 5)) → (Q (-3) M)))) ∧ ((¬ (a3 + ((nI 5) * a4)) ≤ a6) → (vp_in a6 24 ∧ (vp_in (a6 + (nI 1)) 24 ∧ (vp_in (a6 + (nI 2)) 24 ∧ (vp_in (a6 + (nI 3)) 24 ∧ (vp_in (a6 + (nI 4)) 24 ∧ (C_X9_isErrand M (M c5 (ix a6)) (M c5 (ix (a6 + (nI 1)))) (M c5 (ix (a6 + (nI 2)))) (M c5 (ix (a6 + (nI 3)))) (M c5 (ix (a6 + (nI 4)))) (fun r6 M6 => ((¬ r6 = 0) → (P_X9_errands_99 M6 a3 a4 c5 (a6 + (nI 5)) Q)) ∧ ((r6 = 0) → (Q (-2) M6))))))))))) : P_X9_errands_99 M a3 a4 c5 a6 Q := by
  refine pw_iload (pc' := 101) 4 rfl dX9_errands_99 rfl ?_
  refine pw_iload_n (pc' := 102) 1 rfl dX9_errands_101 rfl rfl ?_
  refine pw_iconst (pc' := 103) rfl dX9_errands_102 ci_5 ?_
  refine pw_iload (pc' := 105) 2 rfl dX9_errands_103 rfl ?_
  refine pw_imul (pc' := 106) rfl dX9_errands_105 ?_
  refine pw_iadd (pc' := 107) rfl dX9_errands_106 ?_
  refine pw_icmp_ge (pc' := 110) (tgt := 159) rfl dX9_errands_107 (by decide) (fun q0 => ?_) (fun q0 => ?_)
  · have h := h.1 q0
    refine pw_aload_n (pc' := 160) 0 rfl dX9_errands_159 rfl rfl ?_
    refine ps_getR (pc' := 163) (r := 30) rfl dX9_errands_160 fl_X9_19 ob_0 rfl rfl ?_
    refine ps_getI (pc' := 166) (v := (M 30 3)) rfl dX9_errands_163 fl_X9_178 ob_30 rfl rfl ?_
    refine pw_iload (pc' := 168) 2 rfl dX9_errands_166 rfl ?_
    refine pw_iadd (pc' := 169) rfl dX9_errands_168 ?_
    refine pw_iconst (pc' := 170) rfl dX9_errands_169 ci_5 ?_
    refine pw_icmp_le (pc' := 173) (tgt := 176) rfl dX9_errands_170 (by decide) (fun q1 => ?_) (fun q1 => ?_)
    · have h := h.1 q1
      refine pw_iload_n (pc' := 177) 1 rfl dX9_errands_176 rfl rfl ?_
      refine pw_istore (pc' := 179) (lv' := [(0, .ref 0), (3, .int a3), (4, .int a4), (5, .ref c5), (6, .int a3)]) [1, 2, 3, 4, 0] rfl dX9_errands_177 (by decide) rfl ?_
      exact pw_sub [0, 1, 2, 3, 4] rfl h
    · have h := h.2 q1
      refine pw_bipush (pc' := 175) rfl dX9_errands_173 cb_m3 ?_
      exact ps_iret dX9_errands_175 rfl h
  · have h := h.2 q0
    refine pw_aload_n (pc' := 111) 0 rfl dX9_errands_110 rfl rfl ?_
    refine pw_aload (pc' := 113) 3 rfl dX9_errands_111 rfl ?_
    refine pw_iload (pc' := 115) 4 rfl dX9_errands_113 rfl ?_
    obtain ⟨b1, h⟩ := h
    refine ps_iald (pc' := 116) (v := (M c5 (ix a6))) rfl dX9_errands_115 hc5 b1 rfl ?_
    refine pw_aload (pc' := 118) 3 rfl dX9_errands_116 rfl ?_
    refine pw_iload (pc' := 120) 4 rfl dX9_errands_118 rfl ?_
    refine pw_iconst (pc' := 121) rfl dX9_errands_120 ci_1 ?_
    refine pw_iadd (pc' := 122) rfl dX9_errands_121 ?_
    obtain ⟨b2, h⟩ := h
    refine ps_iald (pc' := 123) (v := (M c5 (ix (a6 + (nI 1))))) rfl dX9_errands_122 hc5 b2 rfl ?_
    refine pw_aload (pc' := 125) 3 rfl dX9_errands_123 rfl ?_
    refine pw_iload (pc' := 127) 4 rfl dX9_errands_125 rfl ?_
    refine pw_iconst (pc' := 128) rfl dX9_errands_127 ci_2 ?_
    refine pw_iadd (pc' := 129) rfl dX9_errands_128 ?_
    obtain ⟨b3, h⟩ := h
    refine ps_iald (pc' := 130) (v := (M c5 (ix (a6 + (nI 2))))) rfl dX9_errands_129 hc5 b3 rfl ?_
    refine pw_aload (pc' := 132) 3 rfl dX9_errands_130 rfl ?_
    refine pw_iload (pc' := 134) 4 rfl dX9_errands_132 rfl ?_
    refine pw_iconst (pc' := 135) rfl dX9_errands_134 ci_3 ?_
    refine pw_iadd (pc' := 136) rfl dX9_errands_135 ?_
    obtain ⟨b4, h⟩ := h
    refine ps_iald (pc' := 137) (v := (M c5 (ix (a6 + (nI 3))))) rfl dX9_errands_136 hc5 b4 rfl ?_
    refine pw_aload (pc' := 139) 3 rfl dX9_errands_137 rfl ?_
    refine pw_iload (pc' := 141) 4 rfl dX9_errands_139 rfl ?_
    refine pw_iconst (pc' := 142) rfl dX9_errands_141 ci_4 ?_
    refine pw_iadd (pc' := 143) rfl dX9_errands_142 ?_
    obtain ⟨b5, h⟩ := h
    refine ps_iald (pc' := 144) (v := (M c5 (ix (a6 + (nI 4))))) rfl dX9_errands_143 hc5 b5 rfl ?_
    refine ps_callVI (pc' := 147) (As := [.int (M c5 (ix a6)), .int (M c5 (ix (a6 + (nI 1)))), .int (M c5 (ix (a6 + (nI 2)))), .int (M c5 (ix (a6 + (nI 3)))), .int (M c5 (ix (a6 + (nI 4))))]) (rest := []) (cT := (RX9, TX9, 14)) 5 rfl dX9_errands_144 cv_X9_isErrand ml_X9_174 (by decide) rfl rfl (by decide) (Nat.le_of_ble_eq_true rfl) ob_0 rfl rfl (CA.monoI h ?_)
    intro r6 M6 h
    refine pw_if_ne (pc' := 150) (tgt := 153) rfl dX9_errands_147 (by decide) (fun q7 => ?_) (fun q7 => ?_)
    · have h := h.1 q7
      refine pw_iinc (pc' := 156) (lv' := [(0, .ref 0), (3, .int a3), (4, .int a4), (5, .ref c5), (6, .int (a6 + (nI 5)))]) 4 [1, 2, 3, 4, 0] rfl dX9_errands_153 rfl (ii_5 _) (by decide) rfl ?_
      refine pw_goto (tgt := 99) dX9_errands_156 (by decide) ?_
      exact pw_sub [0, 1, 2, 3, 4] rfl h
    · have h := h.2 q7
      refine pw_bipush (pc' := 152) rfl dX9_errands_150 cb_m2 ?_
      exact ps_iret dX9_errands_152 rfl h
theorem T_X9_errands_179 {M : Mem} {a3 : Int32} {a4 : Int32} {c5 : Nat} {a6 : Int32} {Q : Int32 → Mem → Prop} (hc5 : IA c5 24) (h : (((a3 + ((nI 5) * a4)) ≤ a6) → (C_X9_plansChanged M (fun M1 => Q (M1 30 3) M1))) ∧ ((¬ (a3 + ((nI 5) * a4)) ≤ a6) → (vp_in a6 24 ∧ (vp_in (a6 + (nI 1)) 24 ∧ (vp_in (a6 + (nI 2)) 24 ∧ (vp_in (a6 + (nI 3)) 24 ∧ (vp_in (a6 + (nI 4)) 24 ∧ (C_X5_addErrand_30 M (M c5 (ix a6)) (M c5 (ix (a6 + (nI 1)))) (M c5 (ix (a6 + (nI 2)))) (M c5 (ix (a6 + (nI 3)))) (M c5 (ix (a6 + (nI 4)))) (fun M6 => P_X9_errands_179 M6 a3 a4 c5 (a6 + (nI 5)) Q))))))))) : P_X9_errands_179 M a3 a4 c5 a6 Q := by
  refine pw_iload (pc' := 181) 4 rfl dX9_errands_179 rfl ?_
  refine pw_iload_n (pc' := 182) 1 rfl dX9_errands_181 rfl rfl ?_
  refine pw_iconst (pc' := 183) rfl dX9_errands_182 ci_5 ?_
  refine pw_iload (pc' := 185) 2 rfl dX9_errands_183 rfl ?_
  refine pw_imul (pc' := 186) rfl dX9_errands_185 ?_
  refine pw_iadd (pc' := 187) rfl dX9_errands_186 ?_
  refine pw_icmp_ge (pc' := 190) (tgt := 236) rfl dX9_errands_187 (by decide) (fun q0 => ?_) (fun q0 => ?_)
  · have h := h.1 q0
    refine pw_aload_n (pc' := 237) 0 rfl dX9_errands_236 rfl rfl ?_
    refine ps_callVV (pc' := 240) (As := []) (rest := []) (cT := (RX9, TX9, 14)) 0 rfl dX9_errands_237 cv_X9_plansChanged ml_X9_141 (by decide) rfl rfl (by decide) (Nat.le_of_ble_eq_true rfl) ob_0 rfl rfl (CA.monoV h ?_)
    intro M1 h
    refine pw_aload_n (pc' := 241) 0 rfl dX9_errands_240 rfl rfl ?_
    refine ps_getR (pc' := 244) (r := 30) rfl dX9_errands_241 fl_X9_19 ob_0 rfl rfl ?_
    refine ps_getI (pc' := 247) (v := (M1 30 3)) rfl dX9_errands_244 fl_X9_178 ob_30 rfl rfl ?_
    exact ps_iret dX9_errands_247 rfl h
  · have h := h.2 q0
    refine pw_aload_n (pc' := 191) 0 rfl dX9_errands_190 rfl rfl ?_
    refine ps_getR (pc' := 194) (r := 30) rfl dX9_errands_191 fl_X9_19 ob_0 rfl rfl ?_
    refine pw_aload (pc' := 196) 3 rfl dX9_errands_194 rfl ?_
    refine pw_iload (pc' := 198) 4 rfl dX9_errands_196 rfl ?_
    obtain ⟨b1, h⟩ := h
    refine ps_iald (pc' := 199) (v := (M c5 (ix a6))) rfl dX9_errands_198 hc5 b1 rfl ?_
    refine pw_aload (pc' := 201) 3 rfl dX9_errands_199 rfl ?_
    refine pw_iload (pc' := 203) 4 rfl dX9_errands_201 rfl ?_
    refine pw_iconst (pc' := 204) rfl dX9_errands_203 ci_1 ?_
    refine pw_iadd (pc' := 205) rfl dX9_errands_204 ?_
    obtain ⟨b2, h⟩ := h
    refine ps_iald (pc' := 206) (v := (M c5 (ix (a6 + (nI 1))))) rfl dX9_errands_205 hc5 b2 rfl ?_
    refine pw_aload (pc' := 208) 3 rfl dX9_errands_206 rfl ?_
    refine pw_iload (pc' := 210) 4 rfl dX9_errands_208 rfl ?_
    refine pw_iconst (pc' := 211) rfl dX9_errands_210 ci_2 ?_
    refine pw_iadd (pc' := 212) rfl dX9_errands_211 ?_
    obtain ⟨b3, h⟩ := h
    refine ps_iald (pc' := 213) (v := (M c5 (ix (a6 + (nI 2))))) rfl dX9_errands_212 hc5 b3 rfl ?_
    refine pw_aload (pc' := 215) 3 rfl dX9_errands_213 rfl ?_
    refine pw_iload (pc' := 217) 4 rfl dX9_errands_215 rfl ?_
    refine pw_iconst (pc' := 218) rfl dX9_errands_217 ci_3 ?_
    refine pw_iadd (pc' := 219) rfl dX9_errands_218 ?_
    obtain ⟨b4, h⟩ := h
    refine ps_iald (pc' := 220) (v := (M c5 (ix (a6 + (nI 3))))) rfl dX9_errands_219 hc5 b4 rfl ?_
    refine pw_aload (pc' := 222) 3 rfl dX9_errands_220 rfl ?_
    refine pw_iload (pc' := 224) 4 rfl dX9_errands_222 rfl ?_
    refine pw_iconst (pc' := 225) rfl dX9_errands_224 ci_4 ?_
    refine pw_iadd (pc' := 226) rfl dX9_errands_225 ?_
    obtain ⟨b5, h⟩ := h
    refine ps_iald (pc' := 227) (v := (M c5 (ix (a6 + (nI 4))))) rfl dX9_errands_226 hc5 b5 rfl ?_
    refine ps_callVV (pc' := 230) (As := [.int (M c5 (ix a6)), .int (M c5 (ix (a6 + (nI 1)))), .int (M c5 (ix (a6 + (nI 2)))), .int (M c5 (ix (a6 + (nI 3)))), .int (M c5 (ix (a6 + (nI 4))))]) (rest := []) (cT := (RX5, TX5, 10)) 5 rfl dX9_errands_227 cv_X5_addErrand ml_X9_181 (by decide) rfl rfl (by decide) (Nat.le_of_ble_eq_true rfl) ob_30 rfl rfl (CA.monoV h ?_)
    intro M6 h
    refine pw_iinc (pc' := 233) (lv' := [(0, .ref 0), (3, .int a3), (4, .int a4), (5, .ref c5), (6, .int (a6 + (nI 5)))]) 4 [1, 2, 3, 4, 0] rfl dX9_errands_230 rfl (ii_5 _) (by decide) rfl ?_
    refine pw_goto (tgt := 179) dX9_errands_233 (by decide) ?_
    exact pw_sub [0, 1, 2, 3, 4] rfl h
theorem T_X9_sheet {M : Mem} {a1 : Int32} {a2 : Int32} {a3 : Int32} {Q : Int32 → Mem → Prop}  (h : C_X4_isSheet M a1 (fun r0 M0 => ((r0 = 0) → (Q (-1) M0)) ∧ ((¬ r0 = 0) → (C_X4_isLane M0 a2 (fun r2 M2 => ((r2 = 0) → (Q (-1) M2)) ∧ ((¬ r2 = 0) → (((a3 ≤ (nI 24)) → (((0 ≤ a3) → (C_X4_renew M2 a1 a2 a3 (fun M6 => Q a3 M6))) ∧ ((¬ 0 ≤ a3) → (Q (-14) M2)))) ∧ ((¬ a3 ≤ (nI 24)) → (Q (-1) M2))))))))) : C_X9_sheet M a1 a2 a3 Q := by
  refine CA_of rfl (Nat.le_of_ble_eq_true rfl) ?_
  show PS _ _ 0 [(0, .ref 0), (1, .int a1), (2, .int a2), (3, .int a3)] [] M _
  refine pw_aload_n (pc' := 1) 0 rfl dX9_sheet_0 rfl rfl ?_
  refine ps_getR (pc' := 4) (r := 87) rfl dX9_sheet_1 fl_X9_49 ob_0 rfl rfl ?_
  refine pw_iload_n (pc' := 5) 1 rfl dX9_sheet_4 rfl rfl ?_
  refine ps_callVI (pc' := 8) (As := [.int a1]) (rest := []) (cT := (RX4, TX4, 3)) 1 rfl dX9_sheet_5 cv_X4_isSheet ml_X9_303 (by decide) rfl rfl (by decide) (Nat.le_of_ble_eq_true rfl) ob_87 rfl rfl (CA.monoI h ?_)
  intro r0 M0 h
  refine pw_if_eq (pc' := 11) (tgt := 28) rfl dX9_sheet_8 (by decide) (fun q1 => ?_) (fun q1 => ?_)
  · have h := h.1 q1
    refine pw_iconst (pc' := 29) rfl dX9_sheet_28 ci_m1 ?_
    exact ps_iret dX9_sheet_29 rfl h
  · have h := h.2 q1
    refine pw_aload_n (pc' := 12) 0 rfl dX9_sheet_11 rfl rfl ?_
    refine ps_getR (pc' := 15) (r := 87) rfl dX9_sheet_12 fl_X9_49 ob_0 rfl rfl ?_
    refine pw_iload_n (pc' := 16) 2 rfl dX9_sheet_15 rfl rfl ?_
    refine ps_callVI (pc' := 19) (As := [.int a2]) (rest := []) (cT := (RX4, TX4, 3)) 1 rfl dX9_sheet_16 cv_X4_isLane ml_X9_306 (by decide) rfl rfl (by decide) (Nat.le_of_ble_eq_true rfl) ob_87 rfl rfl (CA.monoI h ?_)
    intro r2 M2 h
    refine pw_if_eq (pc' := 22) (tgt := 28) rfl dX9_sheet_19 (by decide) (fun q3 => ?_) (fun q3 => ?_)
    · have h := h.1 q3
      refine pw_iconst (pc' := 29) rfl dX9_sheet_28 ci_m1 ?_
      exact ps_iret dX9_sheet_29 rfl h
    · have h := h.2 q3
      refine pw_iload_n (pc' := 23) 3 rfl dX9_sheet_22 rfl rfl ?_
      refine pw_bipush (pc' := 25) rfl dX9_sheet_23 cb_24 ?_
      refine pw_icmp_le (pc' := 28) (tgt := 30) rfl dX9_sheet_25 (by decide) (fun q4 => ?_) (fun q4 => ?_)
      · have h := h.1 q4
        refine pw_iload_n (pc' := 31) 3 rfl dX9_sheet_30 rfl rfl ?_
        refine pw_if_ge (pc' := 34) (tgt := 37) rfl dX9_sheet_31 (by decide) (fun q5 => ?_) (fun q5 => ?_)
        · have h := h.1 q5
          refine pw_aload_n (pc' := 38) 0 rfl dX9_sheet_37 rfl rfl ?_
          refine ps_getR (pc' := 41) (r := 87) rfl dX9_sheet_38 fl_X9_49 ob_0 rfl rfl ?_
          refine pw_iload_n (pc' := 42) 1 rfl dX9_sheet_41 rfl rfl ?_
          refine pw_iload_n (pc' := 43) 2 rfl dX9_sheet_42 rfl rfl ?_
          refine pw_iload_n (pc' := 44) 3 rfl dX9_sheet_43 rfl rfl ?_
          refine ps_callVV (pc' := 47) (As := [.int a1, .int a2, .int a3]) (rest := []) (cT := (RX4, TX4, 3)) 3 rfl dX9_sheet_44 cv_X4_renew ml_X9_322 (by decide) rfl rfl (by decide) (Nat.le_of_ble_eq_true rfl) ob_87 rfl rfl (CA.monoV h ?_)
          intro M6 h
          refine pw_iload_n (pc' := 48) 3 rfl dX9_sheet_47 rfl rfl ?_
          exact ps_iret dX9_sheet_48 rfl h
        · have h := h.2 q5
          refine pw_bipush (pc' := 36) rfl dX9_sheet_34 cb_m14 ?_
          exact ps_iret dX9_sheet_36 rfl h
      · have h := h.2 q4
        refine pw_iconst (pc' := 29) rfl dX9_sheet_28 ci_m1 ?_
        exact ps_iret dX9_sheet_29 rfl h
theorem T_X9_empty {M : Mem} {a1 : Int32} {Q : Int32 → Mem → Prop}  (h : C_X4_isSheet M a1 (fun r0 M0 => ((¬ r0 = 0) → (C_X4_isNothing M0 a1 (fun r2 M2 => ((r2 = 0) → (vp_in a1 4 ∧ (C_X4_makeNothing M2 a1 (fun M5 => Q (M2 89 (ix a1)) M5)))) ∧ ((¬ r2 = 0) → (Q (-11) M2))))) ∧ ((r0 = 0) → (Q (-1) M0)))) : C_X9_empty M a1 Q := by
  refine CA_of rfl (Nat.le_of_ble_eq_true rfl) ?_
  show PS _ _ 0 [(0, .ref 0), (1, .int a1)] [] M _
  refine pw_aload_n (pc' := 1) 0 rfl dX9_empty_0 rfl rfl ?_
  refine ps_getR (pc' := 4) (r := 87) rfl dX9_empty_1 fl_X9_49 ob_0 rfl rfl ?_
  refine pw_iload_n (pc' := 5) 1 rfl dX9_empty_4 rfl rfl ?_
  refine ps_callVI (pc' := 8) (As := [.int a1]) (rest := []) (cT := (RX4, TX4, 3)) 1 rfl dX9_empty_5 cv_X4_isSheet ml_X9_303 (by decide) rfl rfl (by decide) (Nat.le_of_ble_eq_true rfl) ob_87 rfl rfl (CA.monoI h ?_)
  intro r0 M0 h
  refine pw_if_ne (pc' := 11) (tgt := 13) rfl dX9_empty_8 (by decide) (fun q1 => ?_) (fun q1 => ?_)
  · have h := h.1 q1
    refine pw_aload_n (pc' := 14) 0 rfl dX9_empty_13 rfl rfl ?_
    refine ps_getR (pc' := 17) (r := 87) rfl dX9_empty_14 fl_X9_49 ob_0 rfl rfl ?_
    refine pw_iload_n (pc' := 18) 1 rfl dX9_empty_17 rfl rfl ?_
    refine ps_callVI (pc' := 21) (As := [.int a1]) (rest := []) (cT := (RX4, TX4, 3)) 1 rfl dX9_empty_18 cv_X4_isNothing ml_X9_309 (by decide) rfl rfl (by decide) (Nat.le_of_ble_eq_true rfl) ob_87 rfl rfl (CA.monoI h ?_)
    intro r2 M2 h
    refine pw_if_eq (pc' := 24) (tgt := 27) rfl dX9_empty_21 (by decide) (fun q3 => ?_) (fun q3 => ?_)
    · have h := h.1 q3
      refine pw_aload_n (pc' := 28) 0 rfl dX9_empty_27 rfl rfl ?_
      refine ps_getR (pc' := 31) (r := 87) rfl dX9_empty_28 fl_X9_49 ob_0 rfl rfl ?_
      refine ps_getR (pc' := 34) (r := 89) rfl dX9_empty_31 fl_X9_325 ob_87 rfl rfl ?_
      refine pw_iload_n (pc' := 35) 1 rfl dX9_empty_34 rfl rfl ?_
      obtain ⟨b4, h⟩ := h
      refine ps_iald (pc' := 36) (v := (M2 89 (ix a1))) rfl dX9_empty_35 ia_89 b4 rfl ?_
      refine pw_istore_n (pc' := 37) (lv' := [(0, .ref 0), (1, .int a1), (2, .int (M2 89 (ix a1)))]) [1, 2, 0] rfl dX9_empty_36 rfl (by decide) rfl ?_
      refine pw_aload_n (pc' := 38) 0 rfl dX9_empty_37 rfl rfl ?_
      refine ps_getR (pc' := 41) (r := 87) rfl dX9_empty_38 fl_X9_49 ob_0 rfl rfl ?_
      refine pw_iload_n (pc' := 42) 1 rfl dX9_empty_41 rfl rfl ?_
      refine ps_callVV (pc' := 45) (As := [.int a1]) (rest := []) (cT := (RX4, TX4, 3)) 1 rfl dX9_empty_42 cv_X4_makeNothing ml_X9_328 (by decide) rfl rfl (by decide) (Nat.le_of_ble_eq_true rfl) ob_87 rfl rfl (CA.monoV h ?_)
      intro M5 h
      refine pw_iload_n (pc' := 46) 2 rfl dX9_empty_45 rfl rfl ?_
      exact ps_iret dX9_empty_46 rfl h
    · have h := h.2 q3
      refine pw_bipush (pc' := 26) rfl dX9_empty_24 cb_m11 ?_
      exact ps_iret dX9_empty_26 rfl h
  · have h := h.2 q1
    refine pw_iconst (pc' := 12) rfl dX9_empty_11 ci_m1 ?_
    exact ps_iret dX9_empty_12 rfl h
theorem T_X9_item {M : Mem} {a1 : Int32} {a2 : Int32} {a3 : Int32} {a4 : Int32} {Q : Int32 → Mem → Prop}  (h : C_X4_isSheet M a1 (fun r0 M0 => ((r0 = 0) → (Q (-1) M0)) ∧ ((¬ r0 = 0) → (C_X4_isLane M0 a2 (fun r2 M2 => ((¬ r2 = 0) → (C_X4_isNothing M2 a1 (fun r4 M4 => ((r4 = 0) → (vp_in a1 4 ∧ ((((M4 88 (ix a1)) = a2) → (C_X4_holds M4 a1 a3 (nI 1) (fun r8 M8 => ((¬ r8 = 0) → (C_X4_put M8 a1 a3 a4 (fun M10 => Q (nI 1) M10))) ∧ ((r8 = 0) → (Q (-13) M8))))) ∧ ((¬ (M4 88 (ix a1)) = a2) → (Q (-12) M4))))) ∧ ((¬ r4 = 0) → (Q (-11) M4))))) ∧ ((r2 = 0) → (Q (-1) M2))))))) : C_X9_item M a1 a2 a3 a4 Q := by
  refine CA_of rfl (Nat.le_of_ble_eq_true rfl) ?_
  show PS _ _ 0 [(0, .ref 0), (1, .int a1), (2, .int a2), (3, .int a3), (4, .int a4)] [] M _
  refine pw_aload_n (pc' := 1) 0 rfl dX9_item_0 rfl rfl ?_
  refine ps_getR (pc' := 4) (r := 87) rfl dX9_item_1 fl_X9_49 ob_0 rfl rfl ?_
  refine pw_iload_n (pc' := 5) 1 rfl dX9_item_4 rfl rfl ?_
  refine ps_callVI (pc' := 8) (As := [.int a1]) (rest := []) (cT := (RX4, TX4, 3)) 1 rfl dX9_item_5 cv_X4_isSheet ml_X9_303 (by decide) rfl rfl (by decide) (Nat.le_of_ble_eq_true rfl) ob_87 rfl rfl (CA.monoI h ?_)
  intro r0 M0 h
  refine pw_if_eq (pc' := 11) (tgt := 22) rfl dX9_item_8 (by decide) (fun q1 => ?_) (fun q1 => ?_)
  · have h := h.1 q1
    refine pw_iconst (pc' := 23) rfl dX9_item_22 ci_m1 ?_
    exact ps_iret dX9_item_23 rfl h
  · have h := h.2 q1
    refine pw_aload_n (pc' := 12) 0 rfl dX9_item_11 rfl rfl ?_
    refine ps_getR (pc' := 15) (r := 87) rfl dX9_item_12 fl_X9_49 ob_0 rfl rfl ?_
    refine pw_iload_n (pc' := 16) 2 rfl dX9_item_15 rfl rfl ?_
    refine ps_callVI (pc' := 19) (As := [.int a2]) (rest := []) (cT := (RX4, TX4, 3)) 1 rfl dX9_item_16 cv_X4_isLane ml_X9_306 (by decide) rfl rfl (by decide) (Nat.le_of_ble_eq_true rfl) ob_87 rfl rfl (CA.monoI h ?_)
    intro r2 M2 h
    refine pw_if_ne (pc' := 22) (tgt := 24) rfl dX9_item_19 (by decide) (fun q3 => ?_) (fun q3 => ?_)
    · have h := h.1 q3
      refine pw_aload_n (pc' := 25) 0 rfl dX9_item_24 rfl rfl ?_
      refine ps_getR (pc' := 28) (r := 87) rfl dX9_item_25 fl_X9_49 ob_0 rfl rfl ?_
      refine pw_iload_n (pc' := 29) 1 rfl dX9_item_28 rfl rfl ?_
      refine ps_callVI (pc' := 32) (As := [.int a1]) (rest := []) (cT := (RX4, TX4, 3)) 1 rfl dX9_item_29 cv_X4_isNothing ml_X9_309 (by decide) rfl rfl (by decide) (Nat.le_of_ble_eq_true rfl) ob_87 rfl rfl (CA.monoI h ?_)
      intro r4 M4 h
      refine pw_if_eq (pc' := 35) (tgt := 38) rfl dX9_item_32 (by decide) (fun q5 => ?_) (fun q5 => ?_)
      · have h := h.1 q5
        refine pw_aload_n (pc' := 39) 0 rfl dX9_item_38 rfl rfl ?_
        refine ps_getR (pc' := 42) (r := 87) rfl dX9_item_39 fl_X9_49 ob_0 rfl rfl ?_
        refine ps_getR (pc' := 45) (r := 88) rfl dX9_item_42 fl_X9_312 ob_87 rfl rfl ?_
        refine pw_iload_n (pc' := 46) 1 rfl dX9_item_45 rfl rfl ?_
        obtain ⟨b6, h⟩ := h
        refine ps_iald (pc' := 47) (v := (M4 88 (ix a1))) rfl dX9_item_46 ia_88 b6 rfl ?_
        refine pw_iload_n (pc' := 48) 2 rfl dX9_item_47 rfl rfl ?_
        refine pw_icmp_eq (pc' := 51) (tgt := 54) rfl dX9_item_48 (by decide) (fun q7 => ?_) (fun q7 => ?_)
        · have h := h.1 q7
          refine pw_aload_n (pc' := 55) 0 rfl dX9_item_54 rfl rfl ?_
          refine ps_getR (pc' := 58) (r := 87) rfl dX9_item_55 fl_X9_49 ob_0 rfl rfl ?_
          refine pw_iload_n (pc' := 59) 1 rfl dX9_item_58 rfl rfl ?_
          refine pw_iload_n (pc' := 60) 3 rfl dX9_item_59 rfl rfl ?_
          refine pw_iconst (pc' := 61) rfl dX9_item_60 ci_1 ?_
          refine ps_callVI (pc' := 64) (As := [.int a1, .int a3, .int (nI 1)]) (rest := []) (cT := (RX4, TX4, 3)) 3 rfl dX9_item_61 cv_X4_holds ml_X9_315 (by decide) rfl rfl (by decide) (Nat.le_of_ble_eq_true rfl) ob_87 rfl rfl (CA.monoI h ?_)
          intro r8 M8 h
          refine pw_if_ne (pc' := 67) (tgt := 70) rfl dX9_item_64 (by decide) (fun q9 => ?_) (fun q9 => ?_)
          · have h := h.1 q9
            refine pw_aload_n (pc' := 71) 0 rfl dX9_item_70 rfl rfl ?_
            refine ps_getR (pc' := 74) (r := 87) rfl dX9_item_71 fl_X9_49 ob_0 rfl rfl ?_
            refine pw_iload_n (pc' := 75) 1 rfl dX9_item_74 rfl rfl ?_
            refine pw_iload_n (pc' := 76) 3 rfl dX9_item_75 rfl rfl ?_
            refine pw_iload (pc' := 78) 4 rfl dX9_item_76 rfl ?_
            refine ps_callVV (pc' := 81) (As := [.int a1, .int a3, .int a4]) (rest := []) (cT := (RX4, TX4, 3)) 3 rfl dX9_item_78 cv_X4_put ml_X9_331 (by decide) rfl rfl (by decide) (Nat.le_of_ble_eq_true rfl) ob_87 rfl rfl (CA.monoV h ?_)
            intro M10 h
            refine pw_iconst (pc' := 82) rfl dX9_item_81 ci_1 ?_
            exact ps_iret dX9_item_82 rfl h
          · have h := h.2 q9
            refine pw_bipush (pc' := 69) rfl dX9_item_67 cb_m13 ?_
            exact ps_iret dX9_item_69 rfl h
        · have h := h.2 q7
          refine pw_bipush (pc' := 53) rfl dX9_item_51 cb_m12 ?_
          exact ps_iret dX9_item_53 rfl h
      · have h := h.2 q5
        refine pw_bipush (pc' := 37) rfl dX9_item_35 cb_m11 ?_
        exact ps_iret dX9_item_37 rfl h
    · have h := h.2 q3
      refine pw_iconst (pc' := 23) rfl dX9_item_22 ci_m1 ?_
      exact ps_iret dX9_item_23 rfl h
theorem T_X9_copy {M : Mem} {a1 : Int32} {a2 : Int32} {a3 : Int32} {a4 : Int32} {a5 : Int32} {Q : Int32 → Mem → Prop}  (h : C_X4_isSheet M a1 (fun r0 M0 => ((r0 = 0) → (Q (-1) M0)) ∧ ((¬ r0 = 0) → (C_X4_isSheet M0 a3 (fun r2 M2 => ((¬ r2 = 0) → (C_X4_isNothing M2 a1 (fun r4 M4 => ((¬ r4 = 0) → (Q (-11) M4)) ∧ ((r4 = 0) → (C_X4_isNothing M4 a3 (fun r6 M6 => ((r6 = 0) → (vp_in a1 4 ∧ (vp_in a3 4 ∧ ((((M6 88 (ix a1)) = (M6 88 (ix a3))) → (C_X4_holds M6 a1 a2 a5 (fun r11 M11 => ((r11 = 0) → (Q (-13) M11)) ∧ ((¬ r11 = 0) → (C_X4_holds M11 a3 a4 a5 (fun r13 M13 => ((¬ r13 = 0) → ((¬ a2 < 0 ∧ ¬ a4 < 0 ∧ ¬ a5 < 0 ∧ ix a2 + ix a5 ≤ 24 ∧ ix a4 + ix a5 ≤ 24) ∧ (Q a5 (cpy M13 (90 + 1 + ix a1) (90 + 1 + ix a3) (ix a2) (ix a4) (ix a5))))) ∧ ((r13 = 0) → (Q (-13) M13)))))))) ∧ ((¬ (M6 88 (ix a1)) = (M6 88 (ix a3))) → (Q (-12) M6)))))) ∧ ((¬ r6 = 0) → (Q (-11) M6)))))))) ∧ ((r2 = 0) → (Q (-1) M2))))))) : C_X9_copy M a1 a2 a3 a4 a5 Q := by
  refine CA_of rfl (Nat.le_of_ble_eq_true rfl) ?_
  show PS _ _ 0 [(0, .ref 0), (1, .int a1), (2, .int a2), (3, .int a3), (4, .int a4), (5, .int a5)] [] M _
  refine pw_aload_n (pc' := 1) 0 rfl dX9_copy_0 rfl rfl ?_
  refine ps_getR (pc' := 4) (r := 87) rfl dX9_copy_1 fl_X9_49 ob_0 rfl rfl ?_
  refine pw_iload_n (pc' := 5) 1 rfl dX9_copy_4 rfl rfl ?_
  refine ps_callVI (pc' := 8) (As := [.int a1]) (rest := []) (cT := (RX4, TX4, 3)) 1 rfl dX9_copy_5 cv_X4_isSheet ml_X9_303 (by decide) rfl rfl (by decide) (Nat.le_of_ble_eq_true rfl) ob_87 rfl rfl (CA.monoI h ?_)
  intro r0 M0 h
  refine pw_if_eq (pc' := 11) (tgt := 22) rfl dX9_copy_8 (by decide) (fun q1 => ?_) (fun q1 => ?_)
  · have h := h.1 q1
    refine pw_iconst (pc' := 23) rfl dX9_copy_22 ci_m1 ?_
    exact ps_iret dX9_copy_23 rfl h
  · have h := h.2 q1
    refine pw_aload_n (pc' := 12) 0 rfl dX9_copy_11 rfl rfl ?_
    refine ps_getR (pc' := 15) (r := 87) rfl dX9_copy_12 fl_X9_49 ob_0 rfl rfl ?_
    refine pw_iload_n (pc' := 16) 3 rfl dX9_copy_15 rfl rfl ?_
    refine ps_callVI (pc' := 19) (As := [.int a3]) (rest := []) (cT := (RX4, TX4, 3)) 1 rfl dX9_copy_16 cv_X4_isSheet ml_X9_303 (by decide) rfl rfl (by decide) (Nat.le_of_ble_eq_true rfl) ob_87 rfl rfl (CA.monoI h ?_)
    intro r2 M2 h
    refine pw_if_ne (pc' := 22) (tgt := 24) rfl dX9_copy_19 (by decide) (fun q3 => ?_) (fun q3 => ?_)
    · have h := h.1 q3
      refine pw_aload_n (pc' := 25) 0 rfl dX9_copy_24 rfl rfl ?_
      refine ps_getR (pc' := 28) (r := 87) rfl dX9_copy_25 fl_X9_49 ob_0 rfl rfl ?_
      refine pw_iload_n (pc' := 29) 1 rfl dX9_copy_28 rfl rfl ?_
      refine ps_callVI (pc' := 32) (As := [.int a1]) (rest := []) (cT := (RX4, TX4, 3)) 1 rfl dX9_copy_29 cv_X4_isNothing ml_X9_309 (by decide) rfl rfl (by decide) (Nat.le_of_ble_eq_true rfl) ob_87 rfl rfl (CA.monoI h ?_)
      intro r4 M4 h
      refine pw_if_ne (pc' := 35) (tgt := 46) rfl dX9_copy_32 (by decide) (fun q5 => ?_) (fun q5 => ?_)
      · have h := h.1 q5
        refine pw_bipush (pc' := 48) rfl dX9_copy_46 cb_m11 ?_
        exact ps_iret dX9_copy_48 rfl h
      · have h := h.2 q5
        refine pw_aload_n (pc' := 36) 0 rfl dX9_copy_35 rfl rfl ?_
        refine ps_getR (pc' := 39) (r := 87) rfl dX9_copy_36 fl_X9_49 ob_0 rfl rfl ?_
        refine pw_iload_n (pc' := 40) 3 rfl dX9_copy_39 rfl rfl ?_
        refine ps_callVI (pc' := 43) (As := [.int a3]) (rest := []) (cT := (RX4, TX4, 3)) 1 rfl dX9_copy_40 cv_X4_isNothing ml_X9_309 (by decide) rfl rfl (by decide) (Nat.le_of_ble_eq_true rfl) ob_87 rfl rfl (CA.monoI h ?_)
        intro r6 M6 h
        refine pw_if_eq (pc' := 46) (tgt := 49) rfl dX9_copy_43 (by decide) (fun q7 => ?_) (fun q7 => ?_)
        · have h := h.1 q7
          refine pw_aload_n (pc' := 50) 0 rfl dX9_copy_49 rfl rfl ?_
          refine ps_getR (pc' := 53) (r := 87) rfl dX9_copy_50 fl_X9_49 ob_0 rfl rfl ?_
          refine ps_getR (pc' := 56) (r := 88) rfl dX9_copy_53 fl_X9_312 ob_87 rfl rfl ?_
          refine pw_iload_n (pc' := 57) 1 rfl dX9_copy_56 rfl rfl ?_
          obtain ⟨b8, h⟩ := h
          refine ps_iald (pc' := 58) (v := (M6 88 (ix a1))) rfl dX9_copy_57 ia_88 b8 rfl ?_
          refine pw_aload_n (pc' := 59) 0 rfl dX9_copy_58 rfl rfl ?_
          refine ps_getR (pc' := 62) (r := 87) rfl dX9_copy_59 fl_X9_49 ob_0 rfl rfl ?_
          refine ps_getR (pc' := 65) (r := 88) rfl dX9_copy_62 fl_X9_312 ob_87 rfl rfl ?_
          refine pw_iload_n (pc' := 66) 3 rfl dX9_copy_65 rfl rfl ?_
          obtain ⟨b9, h⟩ := h
          refine ps_iald (pc' := 67) (v := (M6 88 (ix a3))) rfl dX9_copy_66 ia_88 b9 rfl ?_
          refine pw_icmp_eq (pc' := 70) (tgt := 73) rfl dX9_copy_67 (by decide) (fun q10 => ?_) (fun q10 => ?_)
          · have h := h.1 q10
            refine pw_aload_n (pc' := 74) 0 rfl dX9_copy_73 rfl rfl ?_
            refine ps_getR (pc' := 77) (r := 87) rfl dX9_copy_74 fl_X9_49 ob_0 rfl rfl ?_
            refine pw_iload_n (pc' := 78) 1 rfl dX9_copy_77 rfl rfl ?_
            refine pw_iload_n (pc' := 79) 2 rfl dX9_copy_78 rfl rfl ?_
            refine pw_iload (pc' := 81) 5 rfl dX9_copy_79 rfl ?_
            refine ps_callVI (pc' := 84) (As := [.int a1, .int a2, .int a5]) (rest := []) (cT := (RX4, TX4, 3)) 3 rfl dX9_copy_81 cv_X4_holds ml_X9_315 (by decide) rfl rfl (by decide) (Nat.le_of_ble_eq_true rfl) ob_87 rfl rfl (CA.monoI h ?_)
            intro r11 M11 h
            refine pw_if_eq (pc' := 87) (tgt := 102) rfl dX9_copy_84 (by decide) (fun q12 => ?_) (fun q12 => ?_)
            · have h := h.1 q12
              refine pw_bipush (pc' := 104) rfl dX9_copy_102 cb_m13 ?_
              exact ps_iret dX9_copy_104 rfl h
            · have h := h.2 q12
              refine pw_aload_n (pc' := 88) 0 rfl dX9_copy_87 rfl rfl ?_
              refine ps_getR (pc' := 91) (r := 87) rfl dX9_copy_88 fl_X9_49 ob_0 rfl rfl ?_
              refine pw_iload_n (pc' := 92) 3 rfl dX9_copy_91 rfl rfl ?_
              refine pw_iload (pc' := 94) 4 rfl dX9_copy_92 rfl ?_
              refine pw_iload (pc' := 96) 5 rfl dX9_copy_94 rfl ?_
              refine ps_callVI (pc' := 99) (As := [.int a3, .int a4, .int a5]) (rest := []) (cT := (RX4, TX4, 3)) 3 rfl dX9_copy_96 cv_X4_holds ml_X9_315 (by decide) rfl rfl (by decide) (Nat.le_of_ble_eq_true rfl) ob_87 rfl rfl (CA.monoI h ?_)
              intro r13 M13 h
              refine pw_if_ne (pc' := 102) (tgt := 105) rfl dX9_copy_99 (by decide) (fun q14 => ?_) (fun q14 => ?_)
              · have h := h.1 q14
                refine pw_aload_n (pc' := 106) 0 rfl dX9_copy_105 rfl rfl ?_
                refine ps_getR (pc' := 109) (r := 87) rfl dX9_copy_106 fl_X9_49 ob_0 rfl rfl ?_
                refine ps_getR (pc' := 112) (r := 90) rfl dX9_copy_109 fl_X9_319 ob_87 rfl rfl ?_
                refine pw_iload_n (pc' := 113) 1 rfl dX9_copy_112 rfl rfl ?_
                refine ps_aald (pc' := 114) rfl dX9_copy_113 ra_90 b8 ?_
                refine pw_iload_n (pc' := 115) 2 rfl dX9_copy_114 rfl rfl ?_
                refine pw_aload_n (pc' := 116) 0 rfl dX9_copy_115 rfl rfl ?_
                refine ps_getR (pc' := 119) (r := 87) rfl dX9_copy_116 fl_X9_49 ob_0 rfl rfl ?_
                refine ps_getR (pc' := 122) (r := 90) rfl dX9_copy_119 fl_X9_319 ob_87 rfl rfl ?_
                refine pw_iload_n (pc' := 123) 3 rfl dX9_copy_122 rfl rfl ?_
                refine ps_aald (pc' := 124) rfl dX9_copy_123 ra_90 b9 ?_
                refine pw_iload (pc' := 126) 4 rfl dX9_copy_124 rfl ?_
                refine pw_iload (pc' := 128) 5 rfl dX9_copy_126 rfl ?_
                obtain ⟨g17, h⟩ := h
                refine ps_copy (pc' := 131) rfl dX9_copy_128 ml_X9_135 (RA.row ra_90 b8) (RA.row ra_90 b9) g17 (by decide) (Nat.le_of_ble_eq_true rfl) ?_
                refine pw_iload (pc' := 133) 5 rfl dX9_copy_131 rfl ?_
                exact ps_iret dX9_copy_133 rfl h
              · have h := h.2 q14
                refine pw_bipush (pc' := 104) rfl dX9_copy_102 cb_m13 ?_
                exact ps_iret dX9_copy_104 rfl h
          · have h := h.2 q10
            refine pw_bipush (pc' := 72) rfl dX9_copy_70 cb_m12 ?_
            exact ps_iret dX9_copy_72 rfl h
        · have h := h.2 q7
          refine pw_bipush (pc' := 48) rfl dX9_copy_46 cb_m11 ?_
          exact ps_iret dX9_copy_48 rfl h
    · have h := h.2 q3
      refine pw_iconst (pc' := 23) rfl dX9_copy_22 ci_m1 ?_
      exact ps_iret dX9_copy_23 rfl h
