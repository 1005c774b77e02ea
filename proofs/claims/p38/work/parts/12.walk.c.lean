theorem T_X9_room {M : Mem}  {Q : Int32 → Mem → Prop}  (h : ((¬ (M 1 0) = (nI 10)) → (C_X9_doorsChanged (wr M 1 0 ((M 1 0) + (nI 1))) (fun M1 => Q ((M1 1 0) - (nI 1)) M1))) ∧ (((M 1 0) = (nI 10)) → (Q (-3) M))) : C_X9_room M  Q := by
  refine CA_of rfl (Nat.le_of_ble_eq_true rfl) ?_
  show PS _ _ 0 [(0, .ref 0)] [] M _
  refine pw_aload_n (pc' := 1) 0 rfl dX9_room_0 rfl rfl ?_
  refine ps_getR (pc' := 4) (r := 1) rfl dX9_room_1 fl_X9_10 ob_0 rfl rfl ?_
  refine ps_getI (pc' := 7) (v := (M 1 0)) rfl dX9_room_4 fl_X9_89 ob_1 rfl rfl ?_
  refine pw_bipush (pc' := 9) rfl dX9_room_7 cb_10 ?_
  refine pw_icmp_ne (pc' := 12) (tgt := 15) rfl dX9_room_9 (by decide) (fun q0 => ?_) (fun q0 => ?_)
  · have h := h.1 q0
    refine pw_aload_n (pc' := 16) 0 rfl dX9_room_15 rfl rfl ?_
    refine ps_getR (pc' := 19) (r := 1) rfl dX9_room_16 fl_X9_10 ob_0 rfl rfl ?_
    refine pw_dup (pc' := 20) rfl dX9_room_19 rfl ?_
    refine ps_getI (pc' := 23) (v := (M 1 0)) rfl dX9_room_20 fl_X9_89 ob_1 rfl rfl ?_
    refine pw_iconst (pc' := 24) rfl dX9_room_23 ci_1 ?_
    refine pw_iadd (pc' := 25) rfl dX9_room_24 ?_
    refine ps_putI (pc' := 28) rfl dX9_room_25 fl_X9_89 ob_1 rfl ?_
    refine pw_aload_n (pc' := 29) 0 rfl dX9_room_28 rfl rfl ?_
    refine ps_callVV (pc' := 32) (As := []) (rest := []) (cT := (RX9, TX9, 14)) 0 rfl dX9_room_29 cv_X9_doorsChanged ml_X9_93 (by decide) rfl rfl (by decide) (Nat.le_of_ble_eq_true rfl) ob_0 rfl rfl (CA.monoV h ?_)
    intro M1 h
    refine pw_aload_n (pc' := 33) 0 rfl dX9_room_32 rfl rfl ?_
    refine ps_getR (pc' := 36) (r := 1) rfl dX9_room_33 fl_X9_10 ob_0 rfl rfl ?_
    refine ps_getI (pc' := 39) (v := (M1 1 0)) rfl dX9_room_36 fl_X9_89 ob_1 rfl rfl ?_
    refine pw_iconst (pc' := 40) rfl dX9_room_39 ci_1 ?_
    refine pw_isub (pc' := 41) rfl dX9_room_40 ?_
    exact ps_iret dX9_room_41 rfl h
  · have h := h.2 q0
    refine pw_bipush (pc' := 14) rfl dX9_room_12 cb_m3 ?_
    exact ps_iret dX9_room_14 rfl h
theorem T_X9_doorsChanged {M : Mem}  {Q : Mem → Prop}  (h : C_X0_measure_1 M (fun M0 => C_X9_plansChanged M0 (fun M1 => Q M1))) : C_X9_doorsChanged M  Q := by
  refine CA_of rfl (Nat.le_of_ble_eq_true rfl) ?_
  show PS _ _ 0 [(0, .ref 0)] [] M _
  refine pw_aload_n (pc' := 1) 0 rfl dX9_doorsChanged_0 rfl rfl ?_
  refine ps_getR (pc' := 4) (r := 1) rfl dX9_doorsChanged_1 fl_X9_10 ob_0 rfl rfl ?_
  refine ps_callVV (pc' := 7) (As := []) (rest := []) (cT := (RX0, TX0, 8)) 0 rfl dX9_doorsChanged_4 cv_X0_measure ml_X9_334 (by decide) rfl rfl (by decide) (Nat.le_of_ble_eq_true rfl) ob_1 rfl rfl (CA.monoV h ?_)
  intro M0 h
  refine pw_aload_n (pc' := 8) 0 rfl dX9_doorsChanged_7 rfl rfl ?_
  refine ps_callVV (pc' := 11) (As := []) (rest := []) (cT := (RX9, TX9, 14)) 0 rfl dX9_doorsChanged_8 cv_X9_plansChanged ml_X9_141 (by decide) rfl rfl (by decide) (Nat.le_of_ble_eq_true rfl) ob_0 rfl rfl (CA.monoV h ?_)
  intro M1 h
  exact ps_vret dX9_doorsChanged_11 rfl h
theorem T_X9_plansChanged {M : Mem}  {Q : Mem → Prop}  (h : Q (wr (wr M 95 1 (nI 0)) 124 3 (nI 0))) : C_X9_plansChanged M  Q := by
  refine CA_of rfl (Nat.le_of_ble_eq_true rfl) ?_
  show PS _ _ 0 [(0, .ref 0)] [] M _
  refine pw_aload_n (pc' := 1) 0 rfl dX9_plansChanged_0 rfl rfl ?_
  refine ps_getR (pc' := 4) (r := 95) rfl dX9_plansChanged_1 fl_X9_58 ob_0 rfl rfl ?_
  refine pw_iconst (pc' := 5) rfl dX9_plansChanged_4 ci_0 ?_
  refine ps_putZ (pc' := 8) rfl dX9_plansChanged_5 fl_X9_337 ob_95 rfl (by decide) ?_
  refine pw_aload_n (pc' := 9) 0 rfl dX9_plansChanged_8 rfl rfl ?_
  refine ps_getR (pc' := 12) (r := 124) rfl dX9_plansChanged_9 fl_X9_67 ob_0 rfl rfl ?_
  refine pw_iconst (pc' := 13) rfl dX9_plansChanged_12 ci_0 ?_
  refine ps_putZ (pc' := 16) rfl dX9_plansChanged_13 fl_X9_340 ob_124 rfl (by decide) ?_
  exact ps_vret dX9_plansChanged_16 rfl h
theorem T_X9_door {M : Mem} {a1 : Int32} {a2 : Int32} {a3 : Int32} {Q : Int32 → Mem → Prop}  (h : C_X0_arePair_1 M a1 a2 (fun r0 M0 => ((r0 = 0) → (Q (-1) M0)) ∧ ((¬ r0 = 0) → (((a3 < 0) → (Q (-1) M0)) ∧ ((¬ a3 < 0) → (((a3 ≤ (nI 1)) → (C_X0_doorKind_1 M0 a1 a2 (fun r4 M4 => ((r4 = (-1)) → (((¬ (M4 1 1) = (nI 16)) → (C_X0_putDoor_1 M4 a1 a2 a3 (fun M7 => C_X9_doorsChanged M7 (fun M8 => Q (M8 1 1) M8)))) ∧ (((M4 1 1) = (nI 16)) → (Q (-3) M4)))) ∧ ((¬ r4 = (-1)) → (Q (-2) M4))))) ∧ ((¬ a3 ≤ (nI 1)) → (Q (-1) M0)))))))) : C_X9_door M a1 a2 a3 Q := by
  refine CA_of rfl (Nat.le_of_ble_eq_true rfl) ?_
  show PS _ _ 0 [(0, .ref 0), (1, .int a1), (2, .int a2), (3, .int a3)] [] M _
  refine pw_aload_n (pc' := 1) 0 rfl dX9_door_0 rfl rfl ?_
  refine ps_getR (pc' := 4) (r := 1) rfl dX9_door_1 fl_X9_10 ob_0 rfl rfl ?_
  refine pw_iload_n (pc' := 5) 1 rfl dX9_door_4 rfl rfl ?_
  refine pw_iload_n (pc' := 6) 2 rfl dX9_door_5 rfl rfl ?_
  refine ps_callVI (pc' := 9) (As := [.int a1, .int a2]) (rest := []) (cT := (RX0, TX0, 8)) 2 rfl dX9_door_6 cv_X0_arePair ml_X9_96 (by decide) rfl rfl (by decide) (Nat.le_of_ble_eq_true rfl) ob_1 rfl rfl (CA.monoI h ?_)
  intro r0 M0 h
  refine pw_if_eq (pc' := 12) (tgt := 21) rfl dX9_door_9 (by decide) (fun q1 => ?_) (fun q1 => ?_)
  · have h := h.1 q1
    refine pw_iconst (pc' := 22) rfl dX9_door_21 ci_m1 ?_
    exact ps_iret dX9_door_22 rfl h
  · have h := h.2 q1
    refine pw_iload_n (pc' := 13) 3 rfl dX9_door_12 rfl rfl ?_
    refine pw_if_lt (pc' := 16) (tgt := 21) rfl dX9_door_13 (by decide) (fun q2 => ?_) (fun q2 => ?_)
    · have h := h.1 q2
      refine pw_iconst (pc' := 22) rfl dX9_door_21 ci_m1 ?_
      exact ps_iret dX9_door_22 rfl h
    · have h := h.2 q2
      refine pw_iload_n (pc' := 17) 3 rfl dX9_door_16 rfl rfl ?_
      refine pw_iconst (pc' := 18) rfl dX9_door_17 ci_1 ?_
      refine pw_icmp_le (pc' := 21) (tgt := 23) rfl dX9_door_18 (by decide) (fun q3 => ?_) (fun q3 => ?_)
      · have h := h.1 q3
        refine pw_aload_n (pc' := 24) 0 rfl dX9_door_23 rfl rfl ?_
        refine ps_getR (pc' := 27) (r := 1) rfl dX9_door_24 fl_X9_10 ob_0 rfl rfl ?_
        refine pw_iload_n (pc' := 28) 1 rfl dX9_door_27 rfl rfl ?_
        refine pw_iload_n (pc' := 29) 2 rfl dX9_door_28 rfl rfl ?_
        refine ps_callVI (pc' := 32) (As := [.int a1, .int a2]) (rest := []) (cT := (RX0, TX0, 8)) 2 rfl dX9_door_29 cv_X0_doorKind ml_X9_100 (by decide) rfl rfl (by decide) (Nat.le_of_ble_eq_true rfl) ob_1 rfl rfl (CA.monoI h ?_)
        intro r4 M4 h
        refine pw_iconst (pc' := 33) rfl dX9_door_32 ci_m1 ?_
        refine pw_icmp_eq (pc' := 36) (tgt := 39) rfl dX9_door_33 (by decide) (fun q5 => ?_) (fun q5 => ?_)
        · have h := h.1 q5
          refine pw_aload_n (pc' := 40) 0 rfl dX9_door_39 rfl rfl ?_
          refine ps_getR (pc' := 43) (r := 1) rfl dX9_door_40 fl_X9_10 ob_0 rfl rfl ?_
          refine ps_getI (pc' := 46) (v := (M4 1 1)) rfl dX9_door_43 fl_X9_104 ob_1 rfl rfl ?_
          refine pw_bipush (pc' := 48) rfl dX9_door_46 cb_16 ?_
          refine pw_icmp_ne (pc' := 51) (tgt := 54) rfl dX9_door_48 (by decide) (fun q6 => ?_) (fun q6 => ?_)
          · have h := h.1 q6
            refine pw_aload_n (pc' := 55) 0 rfl dX9_door_54 rfl rfl ?_
            refine ps_getR (pc' := 58) (r := 1) rfl dX9_door_55 fl_X9_10 ob_0 rfl rfl ?_
            refine pw_iload_n (pc' := 59) 1 rfl dX9_door_58 rfl rfl ?_
            refine pw_iload_n (pc' := 60) 2 rfl dX9_door_59 rfl rfl ?_
            refine pw_iload_n (pc' := 61) 3 rfl dX9_door_60 rfl rfl ?_
            refine ps_callVV (pc' := 64) (As := [.int a1, .int a2, .int a3]) (rest := []) (cT := (RX0, TX0, 8)) 3 rfl dX9_door_61 cv_X0_putDoor ml_X9_107 (by decide) rfl rfl (by decide) (Nat.le_of_ble_eq_true rfl) ob_1 rfl rfl (CA.monoV h ?_)
            intro M7 h
            refine pw_aload_n (pc' := 65) 0 rfl dX9_door_64 rfl rfl ?_
            refine ps_callVV (pc' := 68) (As := []) (rest := []) (cT := (RX9, TX9, 14)) 0 rfl dX9_door_65 cv_X9_doorsChanged ml_X9_93 (by decide) rfl rfl (by decide) (Nat.le_of_ble_eq_true rfl) ob_0 rfl rfl (CA.monoV h ?_)
            intro M8 h
            refine pw_aload_n (pc' := 69) 0 rfl dX9_door_68 rfl rfl ?_
            refine ps_getR (pc' := 72) (r := 1) rfl dX9_door_69 fl_X9_10 ob_0 rfl rfl ?_
            refine ps_getI (pc' := 75) (v := (M8 1 1)) rfl dX9_door_72 fl_X9_104 ob_1 rfl rfl ?_
            exact ps_iret dX9_door_75 rfl h
          · have h := h.2 q6
            refine pw_bipush (pc' := 53) rfl dX9_door_51 cb_m3 ?_
            exact ps_iret dX9_door_53 rfl h
        · have h := h.2 q5
          refine pw_bipush (pc' := 38) rfl dX9_door_36 cb_m2 ?_
          exact ps_iret dX9_door_38 rfl h
      · have h := h.2 q3
        refine pw_iconst (pc' := 22) rfl dX9_door_21 ci_m1 ?_
        exact ps_iret dX9_door_22 rfl h
theorem T_X9_type {M : Mem} {a1 : Int64} {a3 : Int32} {Q : Int32 → Mem → Prop}  (h : C_X7_add M a1 a3 (fun r0 M0 => Q r0 M0)) : C_X9_type M a1 a3 Q := by
  refine CA_of rfl (Nat.le_of_ble_eq_true rfl) ?_
  show PS _ _ 0 [(0, .ref 0), (1, .long a1), (3, .int a3)] [] M _
  refine pw_aload_n (pc' := 1) 0 rfl dX9_type_0 rfl rfl ?_
  refine ps_getR (pc' := 4) (r := 85) rfl dX9_type_1 fl_X9_42 ob_0 rfl rfl ?_
  refine pw_lload_n (pc' := 5) 1 rfl dX9_type_4 rfl rfl ?_
  refine pw_iload_n (pc' := 6) 2 rfl dX9_type_5 rfl rfl ?_
  refine ps_callVI (pc' := 9) (As := [.long a1, .int a3]) (rest := []) (cT := (RX7, TX7, 4)) 2 rfl dX9_type_6 cv_X7_add ml_X9_118 (by decide) rfl rfl (by decide) (Nat.le_of_ble_eq_true rfl) ob_85 rfl rfl (CA.monoI h ?_)
  intro r0 M0 h
  exact ps_iret dX9_type_9 rfl h
theorem T_X9_walk {M : Mem}  {Q : Int32 → Mem → Prop}  (h : C_X7_readWalk_1 M 174 (fun r0 M0 => C_X7_clear M0 (fun M1 => ((r0 = 0) → (((¬ (M1 1 2) = (nI 3)) → (vp_in (M1 1 2) 3 ∧ ((¬ (nI 0) < 0 ∧ ¬ (nI 0) < 0 ∧ ¬ (nI 24) < 0 ∧ ix (nI 0) + ix (nI 24) ≤ 24 ∧ ix (nI 0) + ix (nI 24) ≤ 24) ∧ (C_X9_plansChanged (wr (cpy M1 174 (4 + 1 + ix (M1 1 2)) (ix (nI 0)) (ix (nI 0)) (ix (nI 24))) 1 2 (((cpy M1 174 (4 + 1 + ix (M1 1 2)) (ix (nI 0)) (ix (nI 0)) (ix (nI 24))) 1 2) + (nI 1))) (fun M6 => Q ((M6 1 2) - (nI 1)) M6))))) ∧ (((M1 1 2) = (nI 3)) → (Q (-3) M1)))) ∧ ((¬ r0 = 0) → (Q r0 M1))))) : C_X9_walk M  Q := by
  refine CA_of rfl (Nat.le_of_ble_eq_true rfl) ?_
  show PS _ _ 0 [(0, .ref 0)] [] M _
  refine pw_aload_n (pc' := 1) 0 rfl dX9_walk_0 rfl rfl ?_
  refine ps_getR (pc' := 4) (r := 85) rfl dX9_walk_1 fl_X9_42 ob_0 rfl rfl ?_
  refine pw_aload_n (pc' := 5) 0 rfl dX9_walk_4 rfl rfl ?_
  refine ps_getR (pc' := 8) (r := 1) rfl dX9_walk_5 fl_X9_10 ob_0 rfl rfl ?_
  refine pw_aload_n (pc' := 9) 0 rfl dX9_walk_8 rfl rfl ?_
  refine ps_getR (pc' := 12) (r := 174) rfl dX9_walk_9 fl_X9_80 ob_0 rfl rfl ?_
  refine ps_callVI (pc' := 15) (As := [.ref 1, .ref 174]) (rest := []) (cT := (RX7, TX7, 4)) 2 rfl dX9_walk_12 cv_X7_readWalk ml_X9_122 (by decide) rfl rfl (by decide) (Nat.le_of_ble_eq_true rfl) ob_85 rfl rfl (CA.monoI h ?_)
  intro r0 M0 h
  refine pw_istore_n (pc' := 16) (lv' := [(0, .ref 0), (1, .int r0)]) [1, 0] rfl dX9_walk_15 rfl (by decide) rfl ?_
  refine pw_aload_n (pc' := 17) 0 rfl dX9_walk_16 rfl rfl ?_
  refine ps_getR (pc' := 20) (r := 85) rfl dX9_walk_17 fl_X9_42 ob_0 rfl rfl ?_
  refine ps_callVV (pc' := 23) (As := []) (rest := []) (cT := (RX7, TX7, 4)) 0 rfl dX9_walk_20 cv_X7_clear ml_X9_126 (by decide) rfl rfl (by decide) (Nat.le_of_ble_eq_true rfl) ob_85 rfl rfl (CA.monoV h ?_)
  intro M1 h
  refine pw_iload_n (pc' := 24) 1 rfl dX9_walk_23 rfl rfl ?_
  refine pw_if_eq (pc' := 27) (tgt := 29) rfl dX9_walk_24 (by decide) (fun q2 => ?_) (fun q2 => ?_)
  · have h := h.1 q2
    refine pw_aload_n (pc' := 30) 0 rfl dX9_walk_29 rfl rfl ?_
    refine ps_getR (pc' := 33) (r := 1) rfl dX9_walk_30 fl_X9_10 ob_0 rfl rfl ?_
    refine ps_getI (pc' := 36) (v := (M1 1 2)) rfl dX9_walk_33 fl_X9_129 ob_1 rfl rfl ?_
    refine pw_iconst (pc' := 37) rfl dX9_walk_36 ci_3 ?_
    refine pw_icmp_ne (pc' := 40) (tgt := 43) rfl dX9_walk_37 (by decide) (fun q3 => ?_) (fun q3 => ?_)
    · have h := h.1 q3
      refine pw_aload_n (pc' := 44) 0 rfl dX9_walk_43 rfl rfl ?_
      refine ps_getR (pc' := 47) (r := 174) rfl dX9_walk_44 fl_X9_80 ob_0 rfl rfl ?_
      refine pw_iconst (pc' := 48) rfl dX9_walk_47 ci_0 ?_
      refine pw_aload_n (pc' := 49) 0 rfl dX9_walk_48 rfl rfl ?_
      refine ps_getR (pc' := 52) (r := 1) rfl dX9_walk_49 fl_X9_10 ob_0 rfl rfl ?_
      refine ps_getR (pc' := 55) (r := 4) rfl dX9_walk_52 fl_X9_132 ob_1 rfl rfl ?_
      refine pw_aload_n (pc' := 56) 0 rfl dX9_walk_55 rfl rfl ?_
      refine ps_getR (pc' := 59) (r := 1) rfl dX9_walk_56 fl_X9_10 ob_0 rfl rfl ?_
      refine ps_getI (pc' := 62) (v := (M1 1 2)) rfl dX9_walk_59 fl_X9_129 ob_1 rfl rfl ?_
      obtain ⟨b4, h⟩ := h
      refine ps_aald (pc' := 63) rfl dX9_walk_62 ra_4 b4 ?_
      refine pw_iconst (pc' := 64) rfl dX9_walk_63 ci_0 ?_
      refine pw_bipush (pc' := 66) rfl dX9_walk_64 cb_24 ?_
      obtain ⟨g5, h⟩ := h
      refine ps_copy (pc' := 69) rfl dX9_walk_66 ml_X9_135 ia_174 (RA.row ra_4 b4) g5 (by decide) (Nat.le_of_ble_eq_true rfl) ?_
      refine pw_aload_n (pc' := 70) 0 rfl dX9_walk_69 rfl rfl ?_
      refine ps_getR (pc' := 73) (r := 1) rfl dX9_walk_70 fl_X9_10 ob_0 rfl rfl ?_
      refine pw_dup (pc' := 74) rfl dX9_walk_73 rfl ?_
      refine ps_getI (pc' := 77) (v := ((cpy M1 174 (4 + 1 + ix (M1 1 2)) (ix (nI 0)) (ix (nI 0)) (ix (nI 24))) 1 2)) rfl dX9_walk_74 fl_X9_129 ob_1 rfl rfl ?_
      refine pw_iconst (pc' := 78) rfl dX9_walk_77 ci_1 ?_
      refine pw_iadd (pc' := 79) rfl dX9_walk_78 ?_
      refine ps_putI (pc' := 82) rfl dX9_walk_79 fl_X9_129 ob_1 rfl ?_
      refine pw_aload_n (pc' := 83) 0 rfl dX9_walk_82 rfl rfl ?_
      refine ps_callVV (pc' := 86) (As := []) (rest := []) (cT := (RX9, TX9, 14)) 0 rfl dX9_walk_83 cv_X9_plansChanged ml_X9_141 (by decide) rfl rfl (by decide) (Nat.le_of_ble_eq_true rfl) ob_0 rfl rfl (CA.monoV h ?_)
      intro M6 h
      refine pw_aload_n (pc' := 87) 0 rfl dX9_walk_86 rfl rfl ?_
      refine ps_getR (pc' := 90) (r := 1) rfl dX9_walk_87 fl_X9_10 ob_0 rfl rfl ?_
      refine ps_getI (pc' := 93) (v := (M6 1 2)) rfl dX9_walk_90 fl_X9_129 ob_1 rfl rfl ?_
      refine pw_iconst (pc' := 94) rfl dX9_walk_93 ci_1 ?_
      refine pw_isub (pc' := 95) rfl dX9_walk_94 ?_
      exact ps_iret dX9_walk_95 rfl h
    · have h := h.2 q3
      refine pw_bipush (pc' := 42) rfl dX9_walk_40 cb_m3 ?_
      exact ps_iret dX9_walk_42 rfl h
  · have h := h.2 q2
    refine pw_iload_n (pc' := 28) 1 rfl dX9_walk_27 rfl rfl ?_
    exact ps_iret dX9_walk_28 rfl h
theorem T_X9_guest {M : Mem} {a1 : Int32} {a2 : Int32} {Q : Int32 → Mem → Prop}  (h : ((a1 < 0) → (Q (-1) M)) ∧ ((¬ a1 < 0) → ((((M 1 2) ≤ a1) → (Q (-1) M)) ∧ ((¬ (M 1 2) ≤ a1) → (C_X9_isTick M a2 (fun r2 M2 => ((¬ r2 = 0) → (vp_in a1 3 ∧ (vp_in a2 24 ∧ (Q (M2 (4 + 1 + ix a1) (ix a2)) M2)))) ∧ ((r2 = 0) → (Q (-1) M2)))))))) : C_X9_guest M a1 a2 Q := by
  refine CA_of rfl (Nat.le_of_ble_eq_true rfl) ?_
  show PS _ _ 0 [(0, .ref 0), (1, .int a1), (2, .int a2)] [] M _
  refine pw_iload_n (pc' := 1) 1 rfl dX9_guest_0 rfl rfl ?_
  refine pw_if_lt (pc' := 4) (tgt := 22) rfl dX9_guest_1 (by decide) (fun q0 => ?_) (fun q0 => ?_)
  · have h := h.1 q0
    refine pw_iconst (pc' := 23) rfl dX9_guest_22 ci_m1 ?_
    exact ps_iret dX9_guest_23 rfl h
  · have h := h.2 q0
    refine pw_iload_n (pc' := 5) 1 rfl dX9_guest_4 rfl rfl ?_
    refine pw_aload_n (pc' := 6) 0 rfl dX9_guest_5 rfl rfl ?_
    refine ps_getR (pc' := 9) (r := 1) rfl dX9_guest_6 fl_X9_10 ob_0 rfl rfl ?_
    refine ps_getI (pc' := 12) (v := (M 1 2)) rfl dX9_guest_9 fl_X9_129 ob_1 rfl rfl ?_
    refine pw_icmp_ge (pc' := 15) (tgt := 22) rfl dX9_guest_12 (by decide) (fun q1 => ?_) (fun q1 => ?_)
    · have h := h.1 q1
      refine pw_iconst (pc' := 23) rfl dX9_guest_22 ci_m1 ?_
      exact ps_iret dX9_guest_23 rfl h
    · have h := h.2 q1
      refine pw_iload_n (pc' := 16) 2 rfl dX9_guest_15 rfl rfl ?_
      refine ps_callSI (pc' := 19) (As := [.int a2]) (rest := []) 1 rfl dX9_guest_16 cs_X9_isTick ml_X9_144 (by decide) rfl rfl (by decide) (Nat.le_of_ble_eq_true rfl) (CA.monoI h ?_)
      intro r2 M2 h
      refine pw_if_ne (pc' := 22) (tgt := 24) rfl dX9_guest_19 (by decide) (fun q3 => ?_) (fun q3 => ?_)
      · have h := h.1 q3
        refine pw_aload_n (pc' := 25) 0 rfl dX9_guest_24 rfl rfl ?_
        refine ps_getR (pc' := 28) (r := 1) rfl dX9_guest_25 fl_X9_10 ob_0 rfl rfl ?_
        refine ps_getR (pc' := 31) (r := 4) rfl dX9_guest_28 fl_X9_132 ob_1 rfl rfl ?_
        refine pw_iload_n (pc' := 32) 1 rfl dX9_guest_31 rfl rfl ?_
        obtain ⟨b4, h⟩ := h
        refine ps_aald (pc' := 33) rfl dX9_guest_32 ra_4 b4 ?_
        refine pw_iload_n (pc' := 34) 2 rfl dX9_guest_33 rfl rfl ?_
        obtain ⟨b5, h⟩ := h
        refine ps_iald (pc' := 35) (v := (M2 (4 + 1 + ix a1) (ix a2))) rfl dX9_guest_34 (RA.row ra_4 b4) b5 rfl ?_
        exact ps_iret dX9_guest_35 rfl h
      · have h := h.2 q3
        refine pw_iconst (pc' := 23) rfl dX9_guest_22 ci_m1 ?_
        exact ps_iret dX9_guest_23 rfl h
theorem T_X9_isTick {M : Mem} {a0 : Int32} {Q : Int32 → Mem → Prop}  (h : ((a0 < 0) → (Q (nI 0) M)) ∧ ((¬ a0 < 0) → ((((nI 24) ≤ a0) → (Q (nI 0) M)) ∧ ((¬ (nI 24) ≤ a0) → (Q (nI 1) M))))) : C_X9_isTick M a0 Q := by
  refine CA_of rfl (Nat.le_of_ble_eq_true rfl) ?_
  show PS _ _ 0 [(0, .int a0)] [] M _
  refine pw_iload_n (pc' := 1) 0 rfl dX9_isTick_0 rfl rfl ?_
  refine pw_if_lt (pc' := 4) (tgt := 14) rfl dX9_isTick_1 (by decide) (fun q0 => ?_) (fun q0 => ?_)
  · have h := h.1 q0
    refine pw_iconst (pc' := 15) rfl dX9_isTick_14 ci_0 ?_
    exact ps_zret dX9_isTick_15 rfl (by decide) h
  · have h := h.2 q0
    refine pw_iload_n (pc' := 5) 0 rfl dX9_isTick_4 rfl rfl ?_
    refine pw_bipush (pc' := 7) rfl dX9_isTick_5 cb_24 ?_
    refine pw_icmp_ge (pc' := 10) (tgt := 14) rfl dX9_isTick_7 (by decide) (fun q1 => ?_) (fun q1 => ?_)
    · have h := h.1 q1
      refine pw_iconst (pc' := 15) rfl dX9_isTick_14 ci_0 ?_
      exact ps_zret dX9_isTick_15 rfl (by decide) h
    · have h := h.2 q1
      refine pw_iconst (pc' := 11) rfl dX9_isTick_10 ci_1 ?_
      refine pw_goto (tgt := 15) dX9_isTick_11 (by decide) ?_
      exact ps_zret dX9_isTick_15 rfl (by decide) h
theorem T_X9_trip {M : Mem} {a1 : Int32} {a2 : Int32} {a3 : Int32} {a4 : Int32} {a5 : Int32} {Q : Int32 → Mem → Prop}  (h : C_X0_hasRoom_1 M a1 (fun r0 M0 => ((r0 = 0) → (Q (-1) M0)) ∧ ((¬ r0 = 0) → (C_X9_isTick M0 a2 (fun r2 M2 => ((r2 = 0) → (Q (-1) M2)) ∧ ((¬ r2 = 0) → (C_X0_hasRoom_1 M2 a3 (fun r4 M4 => ((r4 = 0) → (Q (-1) M4)) ∧ ((¬ r4 = 0) → (((a5 < (-1)) → (Q (-1) M4)) ∧ ((¬ a5 < (-1)) → (((a5 ≤ (nI 23)) → (C_X8_soonest M4 a1 a2 a3 a4 (fun r8 M8 => ((¬ r8 = (nI 24)) → (((¬ a5 = (-1)) → (((a5 < a2) → (Q (-4) M8)) ∧ ((¬ a5 < a2) → (((a5 ≤ r8) → (C_X8_roomOnTrip M8 a1 a2 r8 a4 a5 (fun r13 M13 => Q r13 M13))) ∧ ((¬ a5 ≤ r8) → (Q (-4) M8)))))) ∧ ((a5 = (-1)) → (Q r8 M8)))) ∧ ((r8 = (nI 24)) → (Q (-4) M8))))) ∧ ((¬ a5 ≤ (nI 23)) → (Q (-1) M4)))))))))))))) : C_X9_trip M a1 a2 a3 a4 a5 Q := by
  refine CA_of rfl (Nat.le_of_ble_eq_true rfl) ?_
  show PS _ _ 0 [(0, .ref 0), (1, .int a1), (2, .int a2), (3, .int a3), (4, .int a4), (5, .int a5)] [] M _
  refine pw_aload_n (pc' := 1) 0 rfl dX9_trip_0 rfl rfl ?_
  refine ps_getR (pc' := 4) (r := 1) rfl dX9_trip_1 fl_X9_10 ob_0 rfl rfl ?_
  refine pw_iload_n (pc' := 5) 1 rfl dX9_trip_4 rfl rfl ?_
  refine ps_callVI (pc' := 8) (As := [.int a1]) (rest := []) (cT := (RX0, TX0, 8)) 1 rfl dX9_trip_5 cv_X0_hasRoom ml_X9_148 (by decide) rfl rfl (by decide) (Nat.le_of_ble_eq_true rfl) ob_1 rfl rfl (CA.monoI h ?_)
  intro r0 M0 h
  refine pw_if_eq (pc' := 11) (tgt := 42) rfl dX9_trip_8 (by decide) (fun q1 => ?_) (fun q1 => ?_)
  · have h := h.1 q1
    refine pw_iconst (pc' := 43) rfl dX9_trip_42 ci_m1 ?_
    exact ps_iret dX9_trip_43 rfl h
  · have h := h.2 q1
    refine pw_iload_n (pc' := 12) 2 rfl dX9_trip_11 rfl rfl ?_
    refine ps_callSI (pc' := 15) (As := [.int a2]) (rest := []) 1 rfl dX9_trip_12 cs_X9_isTick ml_X9_144 (by decide) rfl rfl (by decide) (Nat.le_of_ble_eq_true rfl) (CA.monoI h ?_)
    intro r2 M2 h
    refine pw_if_eq (pc' := 18) (tgt := 42) rfl dX9_trip_15 (by decide) (fun q3 => ?_) (fun q3 => ?_)
    · have h := h.1 q3
      refine pw_iconst (pc' := 43) rfl dX9_trip_42 ci_m1 ?_
      exact ps_iret dX9_trip_43 rfl h
    · have h := h.2 q3
      refine pw_aload_n (pc' := 19) 0 rfl dX9_trip_18 rfl rfl ?_
      refine ps_getR (pc' := 22) (r := 1) rfl dX9_trip_19 fl_X9_10 ob_0 rfl rfl ?_
      refine pw_iload_n (pc' := 23) 3 rfl dX9_trip_22 rfl rfl ?_
      refine ps_callVI (pc' := 26) (As := [.int a3]) (rest := []) (cT := (RX0, TX0, 8)) 1 rfl dX9_trip_23 cv_X0_hasRoom ml_X9_148 (by decide) rfl rfl (by decide) (Nat.le_of_ble_eq_true rfl) ob_1 rfl rfl (CA.monoI h ?_)
      intro r4 M4 h
      refine pw_if_eq (pc' := 29) (tgt := 42) rfl dX9_trip_26 (by decide) (fun q5 => ?_) (fun q5 => ?_)
      · have h := h.1 q5
        refine pw_iconst (pc' := 43) rfl dX9_trip_42 ci_m1 ?_
        exact ps_iret dX9_trip_43 rfl h
      · have h := h.2 q5
        refine pw_iload (pc' := 31) 5 rfl dX9_trip_29 rfl ?_
        refine pw_iconst (pc' := 32) rfl dX9_trip_31 ci_m1 ?_
        refine pw_icmp_lt (pc' := 35) (tgt := 42) rfl dX9_trip_32 (by decide) (fun q6 => ?_) (fun q6 => ?_)
        · have h := h.1 q6
          refine pw_iconst (pc' := 43) rfl dX9_trip_42 ci_m1 ?_
          exact ps_iret dX9_trip_43 rfl h
        · have h := h.2 q6
          refine pw_iload (pc' := 37) 5 rfl dX9_trip_35 rfl ?_
          refine pw_bipush (pc' := 39) rfl dX9_trip_37 cb_23 ?_
          refine pw_icmp_le (pc' := 42) (tgt := 44) rfl dX9_trip_39 (by decide) (fun q7 => ?_) (fun q7 => ?_)
          · have h := h.1 q7
            refine pw_aload_n (pc' := 45) 0 rfl dX9_trip_44 rfl rfl ?_
            refine ps_getR (pc' := 48) (r := 95) rfl dX9_trip_45 fl_X9_58 ob_0 rfl rfl ?_
            refine pw_iload_n (pc' := 49) 1 rfl dX9_trip_48 rfl rfl ?_
            refine pw_iload_n (pc' := 50) 2 rfl dX9_trip_49 rfl rfl ?_
            refine pw_iload_n (pc' := 51) 3 rfl dX9_trip_50 rfl rfl ?_
            refine pw_iload (pc' := 53) 4 rfl dX9_trip_51 rfl ?_
            refine ps_callVI (pc' := 56) (As := [.int a1, .int a2, .int a3, .int a4]) (rest := []) (cT := (RX8, TX8, 6)) 4 rfl dX9_trip_53 cv_X8_soonest ml_X9_151 (by decide) rfl rfl (by decide) (Nat.le_of_ble_eq_true rfl) ob_95 rfl rfl (CA.monoI h ?_)
            intro r8 M8 h
            refine pw_istore (pc' := 58) (lv' := [(0, .ref 0), (1, .int a1), (2, .int a2), (3, .int a3), (4, .int a4), (5, .int a5), (6, .int r8)]) [1, 2, 3, 4, 5, 6, 0] rfl dX9_trip_56 (by decide) rfl ?_
            refine pw_iload (pc' := 60) 6 rfl dX9_trip_58 rfl ?_
            refine pw_bipush (pc' := 62) rfl dX9_trip_60 cb_24 ?_
            refine pw_icmp_ne (pc' := 65) (tgt := 68) rfl dX9_trip_62 (by decide) (fun q9 => ?_) (fun q9 => ?_)
            · have h := h.1 q9
              refine pw_iload (pc' := 70) 5 rfl dX9_trip_68 rfl ?_
              refine pw_iconst (pc' := 71) rfl dX9_trip_70 ci_m1 ?_
              refine pw_icmp_ne (pc' := 74) (tgt := 77) rfl dX9_trip_71 (by decide) (fun q10 => ?_) (fun q10 => ?_)
              · have h := h.1 q10
                refine pw_iload (pc' := 79) 5 rfl dX9_trip_77 rfl ?_
                refine pw_iload_n (pc' := 80) 2 rfl dX9_trip_79 rfl rfl ?_
                refine pw_icmp_lt (pc' := 83) (tgt := 90) rfl dX9_trip_80 (by decide) (fun q11 => ?_) (fun q11 => ?_)
                · have h := h.1 q11
                  refine pw_bipush (pc' := 92) rfl dX9_trip_90 cb_m4 ?_
                  exact ps_iret dX9_trip_92 rfl h
                · have h := h.2 q11
                  refine pw_iload (pc' := 85) 5 rfl dX9_trip_83 rfl ?_
                  refine pw_iload (pc' := 87) 6 rfl dX9_trip_85 rfl ?_
                  refine pw_icmp_le (pc' := 90) (tgt := 93) rfl dX9_trip_87 (by decide) (fun q12 => ?_) (fun q12 => ?_)
                  · have h := h.1 q12
                    refine pw_aload_n (pc' := 94) 0 rfl dX9_trip_93 rfl rfl ?_
                    refine ps_getR (pc' := 97) (r := 95) rfl dX9_trip_94 fl_X9_58 ob_0 rfl rfl ?_
                    refine pw_iload_n (pc' := 98) 1 rfl dX9_trip_97 rfl rfl ?_
                    refine pw_iload_n (pc' := 99) 2 rfl dX9_trip_98 rfl rfl ?_
                    refine pw_iload (pc' := 101) 6 rfl dX9_trip_99 rfl ?_
                    refine pw_iload (pc' := 103) 4 rfl dX9_trip_101 rfl ?_
                    refine pw_iload (pc' := 105) 5 rfl dX9_trip_103 rfl ?_
                    refine ps_callVI (pc' := 108) (As := [.int a1, .int a2, .int r8, .int a4, .int a5]) (rest := []) (cT := (RX8, TX8, 6)) 5 rfl dX9_trip_105 cv_X8_roomOnTrip ml_X9_155 (by decide) rfl rfl (by decide) (Nat.le_of_ble_eq_true rfl) ob_95 rfl rfl (CA.monoI h ?_)
                    intro r13 M13 h
                    exact ps_iret dX9_trip_108 rfl h
                  · have h := h.2 q12
                    refine pw_bipush (pc' := 92) rfl dX9_trip_90 cb_m4 ?_
                    exact ps_iret dX9_trip_92 rfl h
              · have h := h.2 q10
                refine pw_iload (pc' := 76) 6 rfl dX9_trip_74 rfl ?_
                exact ps_iret dX9_trip_76 rfl h
            · have h := h.2 q9
              refine pw_bipush (pc' := 67) rfl dX9_trip_65 cb_m4 ?_
              exact ps_iret dX9_trip_67 rfl h
          · have h := h.2 q7
            refine pw_iconst (pc' := 43) rfl dX9_trip_42 ci_m1 ?_
            exact ps_iret dX9_trip_43 rfl h
theorem T_X9_servant {M : Mem} {a1 : Int32} {Q : Int32 → Mem → Prop}  (h : C_X0_hasRoom_1 M a1 (fun r0 M0 => ((¬ r0 = 0) → (((¬ (M0 30 0) = (nI 3)) → (vp_in (M0 30 0) 3 ∧ (C_X9_plansChanged (wr (wr M0 31 (ix (M0 30 0)) a1) 30 0 ((M0 30 0) + (nI 1))) (fun M4 => Q ((M4 30 0) - (nI 1)) M4)))) ∧ (((M0 30 0) = (nI 3)) → (Q (-3) M0)))) ∧ ((r0 = 0) → (Q (-1) M0)))) : C_X9_servant M a1 Q := by
  refine CA_of rfl (Nat.le_of_ble_eq_true rfl) ?_
  show PS _ _ 0 [(0, .ref 0), (1, .int a1)] [] M _
  refine pw_aload_n (pc' := 1) 0 rfl dX9_servant_0 rfl rfl ?_
  refine ps_getR (pc' := 4) (r := 1) rfl dX9_servant_1 fl_X9_10 ob_0 rfl rfl ?_
  refine pw_iload_n (pc' := 5) 1 rfl dX9_servant_4 rfl rfl ?_
  refine ps_callVI (pc' := 8) (As := [.int a1]) (rest := []) (cT := (RX0, TX0, 8)) 1 rfl dX9_servant_5 cv_X0_hasRoom ml_X9_148 (by decide) rfl rfl (by decide) (Nat.le_of_ble_eq_true rfl) ob_1 rfl rfl (CA.monoI h ?_)
  intro r0 M0 h
  refine pw_if_ne (pc' := 11) (tgt := 13) rfl dX9_servant_8 (by decide) (fun q1 => ?_) (fun q1 => ?_)
  · have h := h.1 q1
    refine pw_aload_n (pc' := 14) 0 rfl dX9_servant_13 rfl rfl ?_
    refine ps_getR (pc' := 17) (r := 30) rfl dX9_servant_14 fl_X9_19 ob_0 rfl rfl ?_
    refine ps_getI (pc' := 20) (v := (M0 30 0)) rfl dX9_servant_17 fl_X9_159 ob_30 rfl rfl ?_
    refine pw_iconst (pc' := 21) rfl dX9_servant_20 ci_3 ?_
    refine pw_icmp_ne (pc' := 24) (tgt := 27) rfl dX9_servant_21 (by decide) (fun q2 => ?_) (fun q2 => ?_)
    · have h := h.1 q2
      refine pw_aload_n (pc' := 28) 0 rfl dX9_servant_27 rfl rfl ?_
      refine ps_getR (pc' := 31) (r := 30) rfl dX9_servant_28 fl_X9_19 ob_0 rfl rfl ?_
      refine ps_getR (pc' := 34) (r := 31) rfl dX9_servant_31 fl_X9_162 ob_30 rfl rfl ?_
      refine pw_aload_n (pc' := 35) 0 rfl dX9_servant_34 rfl rfl ?_
      refine ps_getR (pc' := 38) (r := 30) rfl dX9_servant_35 fl_X9_19 ob_0 rfl rfl ?_
      refine ps_getI (pc' := 41) (v := (M0 30 0)) rfl dX9_servant_38 fl_X9_159 ob_30 rfl rfl ?_
      refine pw_iload_n (pc' := 42) 1 rfl dX9_servant_41 rfl rfl ?_
      obtain ⟨b3, h⟩ := h
      refine ps_iast (pc' := 43) rfl dX9_servant_42 ia_31 b3 ?_
      refine pw_aload_n (pc' := 44) 0 rfl dX9_servant_43 rfl rfl ?_
      refine ps_getR (pc' := 47) (r := 30) rfl dX9_servant_44 fl_X9_19 ob_0 rfl rfl ?_
      refine pw_dup (pc' := 48) rfl dX9_servant_47 rfl ?_
      refine ps_getI (pc' := 51) (v := (M0 30 0)) rfl dX9_servant_48 fl_X9_159 ob_30 rfl rfl ?_
      refine pw_iconst (pc' := 52) rfl dX9_servant_51 ci_1 ?_
      refine pw_iadd (pc' := 53) rfl dX9_servant_52 ?_
      refine ps_putI (pc' := 56) rfl dX9_servant_53 fl_X9_159 ob_30 rfl ?_
      refine pw_aload_n (pc' := 57) 0 rfl dX9_servant_56 rfl rfl ?_
      refine ps_callVV (pc' := 60) (As := []) (rest := []) (cT := (RX9, TX9, 14)) 0 rfl dX9_servant_57 cv_X9_plansChanged ml_X9_141 (by decide) rfl rfl (by decide) (Nat.le_of_ble_eq_true rfl) ob_0 rfl rfl (CA.monoV h ?_)
      intro M4 h
      refine pw_aload_n (pc' := 61) 0 rfl dX9_servant_60 rfl rfl ?_
      refine ps_getR (pc' := 64) (r := 30) rfl dX9_servant_61 fl_X9_19 ob_0 rfl rfl ?_
      refine ps_getI (pc' := 67) (v := (M4 30 0)) rfl dX9_servant_64 fl_X9_159 ob_30 rfl rfl ?_
      refine pw_iconst (pc' := 68) rfl dX9_servant_67 ci_1 ?_
      refine pw_isub (pc' := 69) rfl dX9_servant_68 ?_
      exact ps_iret dX9_servant_69 rfl h
    · have h := h.2 q2
      refine pw_bipush (pc' := 26) rfl dX9_servant_24 cb_m3 ?_
      exact ps_iret dX9_servant_26 rfl h
  · have h := h.2 q1
    refine pw_iconst (pc' := 12) rfl dX9_servant_11 ci_m1 ?_
    exact ps_iret dX9_servant_12 rfl h
theorem T_X9_ill {M : Mem} {a1 : Int32} {a2 : Int32} {Q : Int32 → Mem → Prop}  (h : C_X5_hasServant_30 M a1 (fun r0 M0 => ((¬ r0 = 0) → (((a2 = 0) → (C_X9_plansChanged (wr M0 30 1 ((M0 30 1) &&& (((nI 1) <<< (a1 &&& 31)) ^^^ (-1)))) (fun M3 => Q (((M0 30 1) >>> (a1 &&& 31)) &&& (nI 1)) M3))) ∧ ((¬ a2 = 0) → (C_X9_plansChanged (wr M0 30 1 ((M0 30 1) ||| ((nI 1) <<< (a1 &&& 31)))) (fun M3 => Q (((M0 30 1) >>> (a1 &&& 31)) &&& (nI 1)) M3))))) ∧ ((r0 = 0) → (Q (-1) M0)))) : C_X9_ill M a1 a2 Q := by
  refine CA_of rfl (Nat.le_of_ble_eq_true rfl) ?_
  show PS _ _ 0 [(0, .ref 0), (1, .int a1), (2, .int a2)] [] M _
  refine pw_aload_n (pc' := 1) 0 rfl dX9_ill_0 rfl rfl ?_
  refine ps_getR (pc' := 4) (r := 30) rfl dX9_ill_1 fl_X9_19 ob_0 rfl rfl ?_
  refine pw_iload_n (pc' := 5) 1 rfl dX9_ill_4 rfl rfl ?_
  refine ps_callVI (pc' := 8) (As := [.int a1]) (rest := []) (cT := (RX5, TX5, 10)) 1 rfl dX9_ill_5 cv_X5_hasServant ml_X9_165 (by decide) rfl rfl (by decide) (Nat.le_of_ble_eq_true rfl) ob_30 rfl rfl (CA.monoI h ?_)
  intro r0 M0 h
  refine pw_if_ne (pc' := 11) (tgt := 13) rfl dX9_ill_8 (by decide) (fun q1 => ?_) (fun q1 => ?_)
  · have h := h.1 q1
    refine pw_aload_n (pc' := 14) 0 rfl dX9_ill_13 rfl rfl ?_
    refine ps_getR (pc' := 17) (r := 30) rfl dX9_ill_14 fl_X9_19 ob_0 rfl rfl ?_
    refine ps_getI (pc' := 20) (v := (M0 30 1)) rfl dX9_ill_17 fl_X9_168 ob_30 rfl rfl ?_
    refine pw_iload_n (pc' := 21) 1 rfl dX9_ill_20 rfl rfl ?_
    refine pw_ishr (pc' := 22) rfl dX9_ill_21 ?_
    refine pw_iconst (pc' := 23) rfl dX9_ill_22 ci_1 ?_
    refine pw_iand (pc' := 24) rfl dX9_ill_23 ?_
    refine pw_istore_n (pc' := 25) (lv' := [(0, .ref 0), (1, .int a1), (2, .int a2), (3, .int (((M0 30 1) >>> (a1 &&& 31)) &&& (nI 1)))]) [1, 2, 3, 0] rfl dX9_ill_24 rfl (by decide) rfl ?_
    refine pw_aload_n (pc' := 26) 0 rfl dX9_ill_25 rfl rfl ?_
    refine ps_getR (pc' := 29) (r := 30) rfl dX9_ill_26 fl_X9_19 ob_0 rfl rfl ?_
    refine pw_iload_n (pc' := 30) 2 rfl dX9_ill_29 rfl rfl ?_
    refine pw_if_eq (pc' := 33) (tgt := 47) rfl dX9_ill_30 (by decide) (fun q2 => ?_) (fun q2 => ?_)
    · have h := h.1 q2
      refine pw_aload_n (pc' := 48) 0 rfl dX9_ill_47 rfl rfl ?_
      refine ps_getR (pc' := 51) (r := 30) rfl dX9_ill_48 fl_X9_19 ob_0 rfl rfl ?_
      refine ps_getI (pc' := 54) (v := (M0 30 1)) rfl dX9_ill_51 fl_X9_168 ob_30 rfl rfl ?_
      refine pw_iconst (pc' := 55) rfl dX9_ill_54 ci_1 ?_
      refine pw_iload_n (pc' := 56) 1 rfl dX9_ill_55 rfl rfl ?_
      refine pw_ishl (pc' := 57) rfl dX9_ill_56 ?_
      refine pw_iconst (pc' := 58) rfl dX9_ill_57 ci_m1 ?_
      refine pw_ixor (pc' := 59) rfl dX9_ill_58 ?_
      refine pw_iand (pc' := 60) rfl dX9_ill_59 ?_
      refine ps_putI (pc' := 63) rfl dX9_ill_60 fl_X9_168 ob_30 rfl ?_
      refine pw_aload_n (pc' := 64) 0 rfl dX9_ill_63 rfl rfl ?_
      refine ps_callVV (pc' := 67) (As := []) (rest := []) (cT := (RX9, TX9, 14)) 0 rfl dX9_ill_64 cv_X9_plansChanged ml_X9_141 (by decide) rfl rfl (by decide) (Nat.le_of_ble_eq_true rfl) ob_0 rfl rfl (CA.monoV h ?_)
      intro M3 h
      refine pw_iload_n (pc' := 68) 3 rfl dX9_ill_67 rfl rfl ?_
      exact ps_iret dX9_ill_68 rfl h
    · have h := h.2 q2
      refine pw_aload_n (pc' := 34) 0 rfl dX9_ill_33 rfl rfl ?_
      refine ps_getR (pc' := 37) (r := 30) rfl dX9_ill_34 fl_X9_19 ob_0 rfl rfl ?_
      refine ps_getI (pc' := 40) (v := (M0 30 1)) rfl dX9_ill_37 fl_X9_168 ob_30 rfl rfl ?_
      refine pw_iconst (pc' := 41) rfl dX9_ill_40 ci_1 ?_
      refine pw_iload_n (pc' := 42) 1 rfl dX9_ill_41 rfl rfl ?_
      refine pw_ishl (pc' := 43) rfl dX9_ill_42 ?_
      refine pw_ior (pc' := 44) rfl dX9_ill_43 ?_
      refine pw_goto (tgt := 60) dX9_ill_44 (by decide) ?_
      refine ps_putI (pc' := 63) rfl dX9_ill_60 fl_X9_168 ob_30 rfl ?_
      refine pw_aload_n (pc' := 64) 0 rfl dX9_ill_63 rfl rfl ?_
      refine ps_callVV (pc' := 67) (As := []) (rest := []) (cT := (RX9, TX9, 14)) 0 rfl dX9_ill_64 cv_X9_plansChanged ml_X9_141 (by decide) rfl rfl (by decide) (Nat.le_of_ble_eq_true rfl) ob_0 rfl rfl (CA.monoV h ?_)
      intro M3 h
      refine pw_iload_n (pc' := 68) 3 rfl dX9_ill_67 rfl rfl ?_
      exact ps_iret dX9_ill_68 rfl h
  · have h := h.2 q1
    refine pw_iconst (pc' := 12) rfl dX9_ill_11 ci_m1 ?_
    exact ps_iret dX9_ill_12 rfl h
theorem T_X9_cellar {M : Mem} {a1 : Int32} {Q : Int32 → Mem → Prop}  (h : C_X0_hasRoom_1 M a1 (fun r0 M0 => ((¬ r0 = 0) → (C_X9_plansChanged (wr M0 30 2 a1) (fun M2 => Q (M0 30 2) M2))) ∧ ((r0 = 0) → (Q (-1) M0)))) : C_X9_cellar M a1 Q := by
  refine CA_of rfl (Nat.le_of_ble_eq_true rfl) ?_
  show PS _ _ 0 [(0, .ref 0), (1, .int a1)] [] M _
  refine pw_aload_n (pc' := 1) 0 rfl dX9_cellar_0 rfl rfl ?_
  refine ps_getR (pc' := 4) (r := 1) rfl dX9_cellar_1 fl_X9_10 ob_0 rfl rfl ?_
  refine pw_iload_n (pc' := 5) 1 rfl dX9_cellar_4 rfl rfl ?_
  refine ps_callVI (pc' := 8) (As := [.int a1]) (rest := []) (cT := (RX0, TX0, 8)) 1 rfl dX9_cellar_5 cv_X0_hasRoom ml_X9_148 (by decide) rfl rfl (by decide) (Nat.le_of_ble_eq_true rfl) ob_1 rfl rfl (CA.monoI h ?_)
  intro r0 M0 h
  refine pw_if_ne (pc' := 11) (tgt := 13) rfl dX9_cellar_8 (by decide) (fun q1 => ?_) (fun q1 => ?_)
  · have h := h.1 q1
    refine pw_aload_n (pc' := 14) 0 rfl dX9_cellar_13 rfl rfl ?_
    refine ps_getR (pc' := 17) (r := 30) rfl dX9_cellar_14 fl_X9_19 ob_0 rfl rfl ?_
    refine ps_getI (pc' := 20) (v := (M0 30 2)) rfl dX9_cellar_17 fl_X9_171 ob_30 rfl rfl ?_
    refine pw_istore_n (pc' := 21) (lv' := [(0, .ref 0), (1, .int a1), (2, .int (M0 30 2))]) [1, 2, 0] rfl dX9_cellar_20 rfl (by decide) rfl ?_
    refine pw_aload_n (pc' := 22) 0 rfl dX9_cellar_21 rfl rfl ?_
    refine ps_getR (pc' := 25) (r := 30) rfl dX9_cellar_22 fl_X9_19 ob_0 rfl rfl ?_
    refine pw_iload_n (pc' := 26) 1 rfl dX9_cellar_25 rfl rfl ?_
    refine ps_putI (pc' := 29) rfl dX9_cellar_26 fl_X9_171 ob_30 rfl ?_
    refine pw_aload_n (pc' := 30) 0 rfl dX9_cellar_29 rfl rfl ?_
    refine ps_callVV (pc' := 33) (As := []) (rest := []) (cT := (RX9, TX9, 14)) 0 rfl dX9_cellar_30 cv_X9_plansChanged ml_X9_141 (by decide) rfl rfl (by decide) (Nat.le_of_ble_eq_true rfl) ob_0 rfl rfl (CA.monoV h ?_)
    intro M2 h
    refine pw_iload_n (pc' := 34) 2 rfl dX9_cellar_33 rfl rfl ?_
    exact ps_iret dX9_cellar_34 rfl h
  · have h := h.2 q1
    refine pw_iconst (pc' := 12) rfl dX9_cellar_11 ci_m1 ?_
    exact ps_iret dX9_cellar_12 rfl h
theorem T_X9_errand {M : Mem} {a1 : Int32} {a2 : Int32} {a3 : Int32} {a4 : Int32} {a5 : Int32} {Q : Int32 → Mem → Prop}  (h : C_X9_isErrand M a1 a2 a3 a4 a5 (fun r0 M0 => ((¬ r0 = 0) → (((¬ (M0 30 3) = (nI 5)) → (C_X5_addErrand_30 M0 a1 a2 a3 a4 a5 (fun M3 => C_X9_plansChanged M3 (fun M4 => Q ((M4 30 3) - (nI 1)) M4)))) ∧ (((M0 30 3) = (nI 5)) → (Q (-3) M0)))) ∧ ((r0 = 0) → (Q (-1) M0)))) : C_X9_errand M a1 a2 a3 a4 a5 Q := by
  refine CA_of rfl (Nat.le_of_ble_eq_true rfl) ?_
  show PS _ _ 0 [(0, .ref 0), (1, .int a1), (2, .int a2), (3, .int a3), (4, .int a4), (5, .int a5)] [] M _
  refine pw_aload_n (pc' := 1) 0 rfl dX9_errand_0 rfl rfl ?_
  refine pw_iload_n (pc' := 2) 1 rfl dX9_errand_1 rfl rfl ?_
  refine pw_iload_n (pc' := 3) 2 rfl dX9_errand_2 rfl rfl ?_
  refine pw_iload_n (pc' := 4) 3 rfl dX9_errand_3 rfl rfl ?_
  refine pw_iload (pc' := 6) 4 rfl dX9_errand_4 rfl ?_
  refine pw_iload (pc' := 8) 5 rfl dX9_errand_6 rfl ?_
  refine ps_callVI (pc' := 11) (As := [.int a1, .int a2, .int a3, .int a4, .int a5]) (rest := []) (cT := (RX9, TX9, 14)) 5 rfl dX9_errand_8 cv_X9_isErrand ml_X9_174 (by decide) rfl rfl (by decide) (Nat.le_of_ble_eq_true rfl) ob_0 rfl rfl (CA.monoI h ?_)
  intro r0 M0 h
  refine pw_if_ne (pc' := 14) (tgt := 16) rfl dX9_errand_11 (by decide) (fun q1 => ?_) (fun q1 => ?_)
  · have h := h.1 q1
    refine pw_aload_n (pc' := 17) 0 rfl dX9_errand_16 rfl rfl ?_
    refine ps_getR (pc' := 20) (r := 30) rfl dX9_errand_17 fl_X9_19 ob_0 rfl rfl ?_
    refine ps_getI (pc' := 23) (v := (M0 30 3)) rfl dX9_errand_20 fl_X9_178 ob_30 rfl rfl ?_
    refine pw_iconst (pc' := 24) rfl dX9_errand_23 ci_5 ?_
    refine pw_icmp_ne (pc' := 27) (tgt := 30) rfl dX9_errand_24 (by decide) (fun q2 => ?_) (fun q2 => ?_)
    · have h := h.1 q2
      refine pw_aload_n (pc' := 31) 0 rfl dX9_errand_30 rfl rfl ?_
      refine ps_getR (pc' := 34) (r := 30) rfl dX9_errand_31 fl_X9_19 ob_0 rfl rfl ?_
      refine pw_iload_n (pc' := 35) 1 rfl dX9_errand_34 rfl rfl ?_
      refine pw_iload_n (pc' := 36) 2 rfl dX9_errand_35 rfl rfl ?_
      refine pw_iload_n (pc' := 37) 3 rfl dX9_errand_36 rfl rfl ?_
      refine pw_iload (pc' := 39) 4 rfl dX9_errand_37 rfl ?_
      refine pw_iload (pc' := 41) 5 rfl dX9_errand_39 rfl ?_
      refine ps_callVV (pc' := 44) (As := [.int a1, .int a2, .int a3, .int a4, .int a5]) (rest := []) (cT := (RX5, TX5, 10)) 5 rfl dX9_errand_41 cv_X5_addErrand ml_X9_181 (by decide) rfl rfl (by decide) (Nat.le_of_ble_eq_true rfl) ob_30 rfl rfl (CA.monoV h ?_)
      intro M3 h
      refine pw_aload_n (pc' := 45) 0 rfl dX9_errand_44 rfl rfl ?_
      refine ps_callVV (pc' := 48) (As := []) (rest := []) (cT := (RX9, TX9, 14)) 0 rfl dX9_errand_45 cv_X9_plansChanged ml_X9_141 (by decide) rfl rfl (by decide) (Nat.le_of_ble_eq_true rfl) ob_0 rfl rfl (CA.monoV h ?_)
      intro M4 h
      refine pw_aload_n (pc' := 49) 0 rfl dX9_errand_48 rfl rfl ?_
      refine ps_getR (pc' := 52) (r := 30) rfl dX9_errand_49 fl_X9_19 ob_0 rfl rfl ?_
      refine ps_getI (pc' := 55) (v := (M4 30 3)) rfl dX9_errand_52 fl_X9_178 ob_30 rfl rfl ?_
      refine pw_iconst (pc' := 56) rfl dX9_errand_55 ci_1 ?_
      refine pw_isub (pc' := 57) rfl dX9_errand_56 ?_
      exact ps_iret dX9_errand_57 rfl h
    · have h := h.2 q2
      refine pw_bipush (pc' := 29) rfl dX9_errand_27 cb_m3 ?_
      exact ps_iret dX9_errand_29 rfl h
  · have h := h.2 q1
    refine pw_iconst (pc' := 15) rfl dX9_errand_14 ci_m1 ?_
    exact ps_iret dX9_errand_15 rfl h
theorem T_X9_isErrand {M : Mem} {a1 : Int32} {a2 : Int32} {a3 : Int32} {a4 : Int32} {a5 : Int32} {Q : Int32 → Mem → Prop}  (h : ((a1 = 0) → (C_X0_hasRoom_1 M a2 (fun r1 M1 => ((r1 = 0) → (Q (nI 0) M1)) ∧ ((¬ r1 = 0) → (((a3 < (nI 1)) → (Q (nI 0) M1)) ∧ ((¬ a3 < (nI 1)) → ((((nI 9) < a3) → (Q (nI 0) M1)) ∧ ((¬ (nI 9) < a3) → (C_X9_isTick M1 a4 (fun r5 M5 => ((r5 = 0) → (Q (nI 0) M5)) ∧ ((¬ r5 = 0) → (C_X9_isTick M5 a5 (fun r7 M7 => ((r7 = 0) → (Q (nI 0) M7)) ∧ ((¬ r7 = 0) → (((a5 < a4) → (Q (nI 0) M7)) ∧ ((¬ a5 < a4) → (Q (nI 1) M7))))))))))))))))) ∧ ((¬ a1 = 0) → (((¬ a1 = (nI 1)) → (Q (nI 0) M)) ∧ ((a1 = (nI 1)) → (C_X0_hasRoom_1 M a2 (fun r2 M2 => ((r2 = 0) → (Q (nI 0) M2)) ∧ ((¬ r2 = 0) → (((a3 < (nI 1)) → (Q (nI 0) M2)) ∧ ((¬ a3 < (nI 1)) → ((((nI 9) < a3) → (Q (nI 0) M2)) ∧ ((¬ (nI 9) < a3) → (C_X9_isTick M2 a4 (fun r6 M6 => ((r6 = 0) → (Q (nI 0) M6)) ∧ ((¬ r6 = 0) → (C_X9_isTick M6 a5 (fun r8 M8 => ((r8 = 0) → (Q (nI 0) M8)) ∧ ((¬ r8 = 0) → (((a5 < a4) → (Q (nI 0) M8)) ∧ ((¬ a5 < a4) → (Q (nI 1) M8)))))))))))))))))))) : C_X9_isErrand M a1 a2 a3 a4 a5 Q := by
  refine CA_of rfl (Nat.le_of_ble_eq_true rfl) ?_
  show PS _ _ 0 [(0, .ref 0), (1, .int a1), (2, .int a2), (3, .int a3), (4, .int a4), (5, .int a5)] [] M _
  refine pw_iload_n (pc' := 1) 1 rfl dX9_isErrand_0 rfl rfl ?_
  refine pw_if_eq (pc' := 4) (tgt := 9) rfl dX9_isErrand_1 (by decide) (fun q0 => ?_) (fun q0 => ?_)
  · have h := h.1 q0
    refine pw_aload_n (pc' := 10) 0 rfl dX9_isErrand_9 rfl rfl ?_
    refine ps_getR (pc' := 13) (r := 1) rfl dX9_isErrand_10 fl_X9_10 ob_0 rfl rfl ?_
    refine pw_iload_n (pc' := 14) 2 rfl dX9_isErrand_13 rfl rfl ?_
    refine ps_callVI (pc' := 17) (As := [.int a2]) (rest := []) (cT := (RX0, TX0, 8)) 1 rfl dX9_isErrand_14 cv_X0_hasRoom ml_X9_148 (by decide) rfl rfl (by decide) (Nat.le_of_ble_eq_true rfl) ob_1 rfl rfl (CA.monoI h ?_)
    intro r1 M1 h
    refine pw_if_eq (pc' := 20) (tgt := 58) rfl dX9_isErrand_17 (by decide) (fun q2 => ?_) (fun q2 => ?_)
    · have h := h.1 q2
      refine pw_iconst (pc' := 59) rfl dX9_isErrand_58 ci_0 ?_
      exact ps_zret dX9_isErrand_59 rfl (by decide) h
    · have h := h.2 q2
      refine pw_iload_n (pc' := 21) 3 rfl dX9_isErrand_20 rfl rfl ?_
      refine pw_iconst (pc' := 22) rfl dX9_isErrand_21 ci_1 ?_
      refine pw_icmp_lt (pc' := 25) (tgt := 58) rfl dX9_isErrand_22 (by decide) (fun q3 => ?_) (fun q3 => ?_)
      · have h := h.1 q3
        refine pw_iconst (pc' := 59) rfl dX9_isErrand_58 ci_0 ?_
        exact ps_zret dX9_isErrand_59 rfl (by decide) h
      · have h := h.2 q3
        refine pw_iload_n (pc' := 26) 3 rfl dX9_isErrand_25 rfl rfl ?_
        refine pw_bipush (pc' := 28) rfl dX9_isErrand_26 cb_9 ?_
        refine pw_icmp_gt (pc' := 31) (tgt := 58) rfl dX9_isErrand_28 (by decide) (fun q4 => ?_) (fun q4 => ?_)
        · have h := h.1 q4
          refine pw_iconst (pc' := 59) rfl dX9_isErrand_58 ci_0 ?_
          exact ps_zret dX9_isErrand_59 rfl (by decide) h
        · have h := h.2 q4
          refine pw_iload (pc' := 33) 4 rfl dX9_isErrand_31 rfl ?_
          refine ps_callSI (pc' := 36) (As := [.int a4]) (rest := []) 1 rfl dX9_isErrand_33 cs_X9_isTick ml_X9_144 (by decide) rfl rfl (by decide) (Nat.le_of_ble_eq_true rfl) (CA.monoI h ?_)
          intro r5 M5 h
          refine pw_if_eq (pc' := 39) (tgt := 58) rfl dX9_isErrand_36 (by decide) (fun q6 => ?_) (fun q6 => ?_)
          · have h := h.1 q6
            refine pw_iconst (pc' := 59) rfl dX9_isErrand_58 ci_0 ?_
            exact ps_zret dX9_isErrand_59 rfl (by decide) h
          · have h := h.2 q6
            refine pw_iload (pc' := 41) 5 rfl dX9_isErrand_39 rfl ?_
            refine ps_callSI (pc' := 44) (As := [.int a5]) (rest := []) 1 rfl dX9_isErrand_41 cs_X9_isTick ml_X9_144 (by decide) rfl rfl (by decide) (Nat.le_of_ble_eq_true rfl) (CA.monoI h ?_)
            intro r7 M7 h
            refine pw_if_eq (pc' := 47) (tgt := 58) rfl dX9_isErrand_44 (by decide) (fun q8 => ?_) (fun q8 => ?_)
            · have h := h.1 q8
              refine pw_iconst (pc' := 59) rfl dX9_isErrand_58 ci_0 ?_
              exact ps_zret dX9_isErrand_59 rfl (by decide) h
            · have h := h.2 q8
              refine pw_iload (pc' := 49) 5 rfl dX9_isErrand_47 rfl ?_
              refine pw_iload (pc' := 51) 4 rfl dX9_isErrand_49 rfl ?_
              refine pw_icmp_lt (pc' := 54) (tgt := 58) rfl dX9_isErrand_51 (by decide) (fun q9 => ?_) (fun q9 => ?_)
              · have h := h.1 q9
                refine pw_iconst (pc' := 59) rfl dX9_isErrand_58 ci_0 ?_
                exact ps_zret dX9_isErrand_59 rfl (by decide) h
              · have h := h.2 q9
                refine pw_iconst (pc' := 55) rfl dX9_isErrand_54 ci_1 ?_
                refine pw_goto (tgt := 59) dX9_isErrand_55 (by decide) ?_
                exact ps_zret dX9_isErrand_59 rfl (by decide) h
  · have h := h.2 q0
    refine pw_iload_n (pc' := 5) 1 rfl dX9_isErrand_4 rfl rfl ?_
    refine pw_iconst (pc' := 6) rfl dX9_isErrand_5 ci_1 ?_
    refine pw_icmp_ne (pc' := 9) (tgt := 58) rfl dX9_isErrand_6 (by decide) (fun q1 => ?_) (fun q1 => ?_)
    · have h := h.1 q1
      refine pw_iconst (pc' := 59) rfl dX9_isErrand_58 ci_0 ?_
      exact ps_zret dX9_isErrand_59 rfl (by decide) h
    · have h := h.2 q1
      refine pw_aload_n (pc' := 10) 0 rfl dX9_isErrand_9 rfl rfl ?_
      refine ps_getR (pc' := 13) (r := 1) rfl dX9_isErrand_10 fl_X9_10 ob_0 rfl rfl ?_
      refine pw_iload_n (pc' := 14) 2 rfl dX9_isErrand_13 rfl rfl ?_
      refine ps_callVI (pc' := 17) (As := [.int a2]) (rest := []) (cT := (RX0, TX0, 8)) 1 rfl dX9_isErrand_14 cv_X0_hasRoom ml_X9_148 (by decide) rfl rfl (by decide) (Nat.le_of_ble_eq_true rfl) ob_1 rfl rfl (CA.monoI h ?_)
      intro r2 M2 h
      refine pw_if_eq (pc' := 20) (tgt := 58) rfl dX9_isErrand_17 (by decide) (fun q3 => ?_) (fun q3 => ?_)
      · have h := h.1 q3
        refine pw_iconst (pc' := 59) rfl dX9_isErrand_58 ci_0 ?_
        exact ps_zret dX9_isErrand_59 rfl (by decide) h
      · have h := h.2 q3
        refine pw_iload_n (pc' := 21) 3 rfl dX9_isErrand_20 rfl rfl ?_
        refine pw_iconst (pc' := 22) rfl dX9_isErrand_21 ci_1 ?_
        refine pw_icmp_lt (pc' := 25) (tgt := 58) rfl dX9_isErrand_22 (by decide) (fun q4 => ?_) (fun q4 => ?_)
        · have h := h.1 q4
          refine pw_iconst (pc' := 59) rfl dX9_isErrand_58 ci_0 ?_
          exact ps_zret dX9_isErrand_59 rfl (by decide) h
        · have h := h.2 q4
          refine pw_iload_n (pc' := 26) 3 rfl dX9_isErrand_25 rfl rfl ?_
          refine pw_bipush (pc' := 28) rfl dX9_isErrand_26 cb_9 ?_
          refine pw_icmp_gt (pc' := 31) (tgt := 58) rfl dX9_isErrand_28 (by decide) (fun q5 => ?_) (fun q5 => ?_)
          · have h := h.1 q5
            refine pw_iconst (pc' := 59) rfl dX9_isErrand_58 ci_0 ?_
            exact ps_zret dX9_isErrand_59 rfl (by decide) h
          · have h := h.2 q5
            refine pw_iload (pc' := 33) 4 rfl dX9_isErrand_31 rfl ?_
            refine ps_callSI (pc' := 36) (As := [.int a4]) (rest := []) 1 rfl dX9_isErrand_33 cs_X9_isTick ml_X9_144 (by decide) rfl rfl (by decide) (Nat.le_of_ble_eq_true rfl) (CA.monoI h ?_)
            intro r6 M6 h
            refine pw_if_eq (pc' := 39) (tgt := 58) rfl dX9_isErrand_36 (by decide) (fun q7 => ?_) (fun q7 => ?_)
            · have h := h.1 q7
              refine pw_iconst (pc' := 59) rfl dX9_isErrand_58 ci_0 ?_
              exact ps_zret dX9_isErrand_59 rfl (by decide) h
            · have h := h.2 q7
              refine pw_iload (pc' := 41) 5 rfl dX9_isErrand_39 rfl ?_
              refine ps_callSI (pc' := 44) (As := [.int a5]) (rest := []) 1 rfl dX9_isErrand_41 cs_X9_isTick ml_X9_144 (by decide) rfl rfl (by decide) (Nat.le_of_ble_eq_true rfl) (CA.monoI h ?_)
              intro r8 M8 h
              refine pw_if_eq (pc' := 47) (tgt := 58) rfl dX9_isErrand_44 (by decide) (fun q9 => ?_) (fun q9 => ?_)
              · have h := h.1 q9
                refine pw_iconst (pc' := 59) rfl dX9_isErrand_58 ci_0 ?_
                exact ps_zret dX9_isErrand_59 rfl (by decide) h
              · have h := h.2 q9
                refine pw_iload (pc' := 49) 5 rfl dX9_isErrand_47 rfl ?_
                refine pw_iload (pc' := 51) 4 rfl dX9_isErrand_49 rfl ?_
                refine pw_icmp_lt (pc' := 54) (tgt := 58) rfl dX9_isErrand_51 (by decide) (fun q10 => ?_) (fun q10 => ?_)
                · have h := h.1 q10
                  refine pw_iconst (pc' := 59) rfl dX9_isErrand_58 ci_0 ?_
                  exact ps_zret dX9_isErrand_59 rfl (by decide) h
                · have h := h.2 q10
                  refine pw_iconst (pc' := 55) rfl dX9_isErrand_54 ci_1 ?_
                  refine pw_goto (tgt := 59) dX9_isErrand_55 (by decide) ?_
                  exact ps_zret dX9_isErrand_59 rfl (by decide) h
theorem T_X9_drop {M : Mem} {a1 : Int32} {Q : Int32 → Mem → Prop}  (h : C_X5_hasErrand_30 M a1 (fun r0 M0 => ((¬ r0 = 0) → (C_X5_removeErrand_30 M0 a1 (fun M2 => C_X9_plansChanged M2 (fun M3 => Q (M3 30 3) M3)))) ∧ ((r0 = 0) → (Q (-1) M0)))) : C_X9_drop M a1 Q := by
  refine CA_of rfl (Nat.le_of_ble_eq_true rfl) ?_
  show PS _ _ 0 [(0, .ref 0), (1, .int a1)] [] M _
  refine pw_aload_n (pc' := 1) 0 rfl dX9_drop_0 rfl rfl ?_
  refine ps_getR (pc' := 4) (r := 30) rfl dX9_drop_1 fl_X9_19 ob_0 rfl rfl ?_
  refine pw_iload_n (pc' := 5) 1 rfl dX9_drop_4 rfl rfl ?_
  refine ps_callVI (pc' := 8) (As := [.int a1]) (rest := []) (cT := (RX5, TX5, 10)) 1 rfl dX9_drop_5 cv_X5_hasErrand ml_X9_185 (by decide) rfl rfl (by decide) (Nat.le_of_ble_eq_true rfl) ob_30 rfl rfl (CA.monoI h ?_)
  intro r0 M0 h
  refine pw_if_ne (pc' := 11) (tgt := 13) rfl dX9_drop_8 (by decide) (fun q1 => ?_) (fun q1 => ?_)
  · have h := h.1 q1
    refine pw_aload_n (pc' := 14) 0 rfl dX9_drop_13 rfl rfl ?_
    refine ps_getR (pc' := 17) (r := 30) rfl dX9_drop_14 fl_X9_19 ob_0 rfl rfl ?_
    refine pw_iload_n (pc' := 18) 1 rfl dX9_drop_17 rfl rfl ?_
    refine ps_callVV (pc' := 21) (As := [.int a1]) (rest := []) (cT := (RX5, TX5, 10)) 1 rfl dX9_drop_18 cv_X5_removeErrand ml_X9_216 (by decide) rfl rfl (by decide) (Nat.le_of_ble_eq_true rfl) ob_30 rfl rfl (CA.monoV h ?_)
    intro M2 h
    refine pw_aload_n (pc' := 22) 0 rfl dX9_drop_21 rfl rfl ?_
    refine ps_callVV (pc' := 25) (As := []) (rest := []) (cT := (RX9, TX9, 14)) 0 rfl dX9_drop_22 cv_X9_plansChanged ml_X9_141 (by decide) rfl rfl (by decide) (Nat.le_of_ble_eq_true rfl) ob_0 rfl rfl (CA.monoV h ?_)
    intro M3 h
    refine pw_aload_n (pc' := 26) 0 rfl dX9_drop_25 rfl rfl ?_
    refine ps_getR (pc' := 29) (r := 30) rfl dX9_drop_26 fl_X9_19 ob_0 rfl rfl ?_
    refine ps_getI (pc' := 32) (v := (M3 30 3)) rfl dX9_drop_29 fl_X9_178 ob_30 rfl rfl ?_
    exact ps_iret dX9_drop_32 rfl h
  · have h := h.2 q1
    refine pw_iconst (pc' := 12) rfl dX9_drop_11 ci_m1 ?_
    exact ps_iret dX9_drop_12 rfl h
theorem T_X9_cost {M : Mem} {a1 : Int32} {Q : Int32 → Mem → Prop}  (h : ((a1 < 0) → (Q (-1) M)) ∧ ((¬ a1 < 0) → (((a1 ≤ (nI 1)) → (C_X5_well_30 M (fun r2 M2 => ((¬ r2 = 0) → (C_X3_prepare M2 (fun M4 => C_X3_plan M4 a1 (fun r5 M5 => (r5 = 125 ∧ (Q (M5 125 0) M5)) ∨ (r5 = 130 ∧ (Q (M5 130 0) M5)))))) ∧ ((r2 = 0) → (Q (-2) M2))))) ∧ ((¬ a1 ≤ (nI 1)) → (Q (-1) M))))) : C_X9_cost M a1 Q := by
  refine CA_of rfl (Nat.le_of_ble_eq_true rfl) ?_
  show PS _ _ 0 [(0, .ref 0), (1, .int a1)] [] M _
  refine pw_iload_n (pc' := 1) 1 rfl dX9_cost_0 rfl rfl ?_
  refine pw_if_lt (pc' := 4) (tgt := 9) rfl dX9_cost_1 (by decide) (fun q0 => ?_) (fun q0 => ?_)
  · have h := h.1 q0
    refine pw_iconst (pc' := 10) rfl dX9_cost_9 ci_m1 ?_
    exact ps_iret dX9_cost_10 rfl h
  · have h := h.2 q0
    refine pw_iload_n (pc' := 5) 1 rfl dX9_cost_4 rfl rfl ?_
    refine pw_iconst (pc' := 6) rfl dX9_cost_5 ci_1 ?_
    refine pw_icmp_le (pc' := 9) (tgt := 11) rfl dX9_cost_6 (by decide) (fun q1 => ?_) (fun q1 => ?_)
    · have h := h.1 q1
      refine pw_aload_n (pc' := 12) 0 rfl dX9_cost_11 rfl rfl ?_
      refine ps_getR (pc' := 15) (r := 30) rfl dX9_cost_12 fl_X9_19 ob_0 rfl rfl ?_
      refine ps_callVI (pc' := 18) (As := []) (rest := []) (cT := (RX5, TX5, 10)) 0 rfl dX9_cost_15 cv_X5_well ml_X9_194 (by decide) rfl rfl (by decide) (Nat.le_of_ble_eq_true rfl) ob_30 rfl rfl (CA.monoI h ?_)
      intro r2 M2 h
      refine pw_if_ne (pc' := 21) (tgt := 24) rfl dX9_cost_18 (by decide) (fun q3 => ?_) (fun q3 => ?_)
      · have h := h.1 q3
        refine pw_aload_n (pc' := 25) 0 rfl dX9_cost_24 rfl rfl ?_
        refine ps_getR (pc' := 28) (r := 124) rfl dX9_cost_25 fl_X9_67 ob_0 rfl rfl ?_
        refine ps_callVV (pc' := 31) (As := []) (rest := []) (cT := (RX3, TX3, 12)) 0 rfl dX9_cost_28 cv_X3_prepare ml_X9_198 (by decide) rfl rfl (by decide) (Nat.le_of_ble_eq_true rfl) ob_124 rfl rfl (CA.monoV h ?_)
        intro M4 h
        refine pw_aload_n (pc' := 32) 0 rfl dX9_cost_31 rfl rfl ?_
        refine ps_getR (pc' := 35) (r := 124) rfl dX9_cost_32 fl_X9_67 ob_0 rfl rfl ?_
        refine pw_iload_n (pc' := 36) 1 rfl dX9_cost_35 rfl rfl ?_
        refine ps_callVR (pc' := 39) (As := [.int a1]) (rest := []) (cT := (RX3, TX3, 12)) 1 rfl dX9_cost_36 cv_X3_plan ml_X9_220 (by decide) rfl rfl (by decide) (Nat.le_of_ble_eq_true rfl) ob_124 rfl rfl (CA.monoR h ?_)
        intro r5 M5 h
        rcases h with ⟨rfl, h⟩ | ⟨rfl, h⟩
        · skip
          refine ps_getI (pc' := 42) (v := (M5 125 0)) rfl dX9_cost_39 fl_X9_224 ob_125 rfl rfl ?_
          exact ps_iret dX9_cost_42 rfl h
        · skip
          refine ps_getI (pc' := 42) (v := (M5 130 0)) rfl dX9_cost_39 fl_X9_224 ob_130 rfl rfl ?_
          exact ps_iret dX9_cost_42 rfl h
      · have h := h.2 q3
        refine pw_bipush (pc' := 23) rfl dX9_cost_21 cb_m2 ?_
        exact ps_iret dX9_cost_23 rfl h
    · have h := h.2 q1
      refine pw_iconst (pc' := 10) rfl dX9_cost_9 ci_m1 ?_
      exact ps_iret dX9_cost_10 rfl h
theorem T_X9_folk {M : Mem} {a1 : Int32} {Q : Int32 → Mem → Prop}  (h : ((a1 < 0) → (Q (-1) M)) ∧ ((¬ a1 < 0) → (((a1 ≤ (nI 1)) → (((¬ (M 37 0) = (nI 5)) → (vp_in (M 37 0) 5 ∧ (Q (((M 37 0) + (nI 1)) - (nI 1)) (wr (wr M 38 (ix (M 37 0)) a1) 37 0 ((M 37 0) + (nI 1)))))) ∧ (((M 37 0) = (nI 5)) → (Q (-3) M)))) ∧ ((¬ a1 ≤ (nI 1)) → (Q (-1) M))))) : C_X9_folk M a1 Q := by
  refine CA_of rfl (Nat.le_of_ble_eq_true rfl) ?_
  show PS _ _ 0 [(0, .ref 0), (1, .int a1)] [] M _
  refine pw_iload_n (pc' := 1) 1 rfl dX9_folk_0 rfl rfl ?_
  refine pw_if_lt (pc' := 4) (tgt := 9) rfl dX9_folk_1 (by decide) (fun q0 => ?_) (fun q0 => ?_)
  · have h := h.1 q0
    refine pw_iconst (pc' := 10) rfl dX9_folk_9 ci_m1 ?_
    exact ps_iret dX9_folk_10 rfl h
  · have h := h.2 q0
    refine pw_iload_n (pc' := 5) 1 rfl dX9_folk_4 rfl rfl ?_
    refine pw_iconst (pc' := 6) rfl dX9_folk_5 ci_1 ?_
    refine pw_icmp_le (pc' := 9) (tgt := 11) rfl dX9_folk_6 (by decide) (fun q1 => ?_) (fun q1 => ?_)
    · have h := h.1 q1
      refine pw_aload_n (pc' := 12) 0 rfl dX9_folk_11 rfl rfl ?_
      refine ps_getR (pc' := 15) (r := 37) rfl dX9_folk_12 fl_X9_26 ob_0 rfl rfl ?_
      refine ps_getI (pc' := 18) (v := (M 37 0)) rfl dX9_folk_15 fl_X9_243 ob_37 rfl rfl ?_
      refine pw_iconst (pc' := 19) rfl dX9_folk_18 ci_5 ?_
      refine pw_icmp_ne (pc' := 22) (tgt := 25) rfl dX9_folk_19 (by decide) (fun q2 => ?_) (fun q2 => ?_)
      · have h := h.1 q2
        refine pw_aload_n (pc' := 26) 0 rfl dX9_folk_25 rfl rfl ?_
        refine ps_getR (pc' := 29) (r := 37) rfl dX9_folk_26 fl_X9_26 ob_0 rfl rfl ?_
        refine ps_getR (pc' := 32) (r := 38) rfl dX9_folk_29 fl_X9_246 ob_37 rfl rfl ?_
        refine pw_aload_n (pc' := 33) 0 rfl dX9_folk_32 rfl rfl ?_
        refine ps_getR (pc' := 36) (r := 37) rfl dX9_folk_33 fl_X9_26 ob_0 rfl rfl ?_
        refine ps_getI (pc' := 39) (v := (M 37 0)) rfl dX9_folk_36 fl_X9_243 ob_37 rfl rfl ?_
        refine pw_iload_n (pc' := 40) 1 rfl dX9_folk_39 rfl rfl ?_
        obtain ⟨b3, h⟩ := h
        refine ps_iast (pc' := 41) rfl dX9_folk_40 ia_38 b3 ?_
        refine pw_aload_n (pc' := 42) 0 rfl dX9_folk_41 rfl rfl ?_
        refine ps_getR (pc' := 45) (r := 37) rfl dX9_folk_42 fl_X9_26 ob_0 rfl rfl ?_
        refine pw_dup (pc' := 46) rfl dX9_folk_45 rfl ?_
        refine ps_getI (pc' := 49) (v := (M 37 0)) rfl dX9_folk_46 fl_X9_243 ob_37 rfl rfl ?_
        refine pw_iconst (pc' := 50) rfl dX9_folk_49 ci_1 ?_
        refine pw_iadd (pc' := 51) rfl dX9_folk_50 ?_
        refine ps_putI (pc' := 54) rfl dX9_folk_51 fl_X9_243 ob_37 rfl ?_
        refine pw_aload_n (pc' := 55) 0 rfl dX9_folk_54 rfl rfl ?_
        refine ps_getR (pc' := 58) (r := 37) rfl dX9_folk_55 fl_X9_26 ob_0 rfl rfl ?_
        refine ps_getI (pc' := 61) (v := ((M 37 0) + (nI 1))) rfl dX9_folk_58 fl_X9_243 ob_37 rfl rfl ?_
        refine pw_iconst (pc' := 62) rfl dX9_folk_61 ci_1 ?_
        refine pw_isub (pc' := 63) rfl dX9_folk_62 ?_
        exact ps_iret dX9_folk_63 rfl h
      · have h := h.2 q2
        refine pw_bipush (pc' := 24) rfl dX9_folk_22 cb_m3 ?_
        exact ps_iret dX9_folk_24 rfl h
    · have h := h.2 q1
      refine pw_iconst (pc' := 10) rfl dX9_folk_9 ci_m1 ?_
      exact ps_iret dX9_folk_10 rfl h
theorem T_X9_say {M : Mem} {a1 : Int32} {a2 : Int32} {a3 : Int32} {a4 : Int32} {Q : Int32 → Mem → Prop}  (h : C_X6_hasOne_37 M a1 (fun r0 M0 => ((r0 = 0) → (Q (-1) M0)) ∧ ((¬ r0 = 0) → (C_X6_hasOne_37 M0 a2 (fun r2 M2 => ((r2 = 0) → (Q (-1) M2)) ∧ ((¬ r2 = 0) → (C_X0_hasRoom_1 M2 a3 (fun r4 M4 => ((r4 = 0) → (Q (-1) M4)) ∧ ((¬ r4 = 0) → (C_X9_isTick M4 a4 (fun r6 M6 => ((¬ r6 = 0) → (((¬ (M6 37 1) = (nI 12)) → (C_X6_addSaying_37 M6 a1 a2 a3 a4 (fun M9 => Q ((M9 37 1) - (nI 1)) M9))) ∧ (((M6 37 1) = (nI 12)) → (Q (-3) M6)))) ∧ ((r6 = 0) → (Q (-1) M6))))))))))))) : C_X9_say M a1 a2 a3 a4 Q := by
  refine CA_of rfl (Nat.le_of_ble_eq_true rfl) ?_
  show PS _ _ 0 [(0, .ref 0), (1, .int a1), (2, .int a2), (3, .int a3), (4, .int a4)] [] M _
  refine pw_aload_n (pc' := 1) 0 rfl dX9_say_0 rfl rfl ?_
  refine ps_getR (pc' := 4) (r := 37) rfl dX9_say_1 fl_X9_26 ob_0 rfl rfl ?_
  refine pw_iload_n (pc' := 5) 1 rfl dX9_say_4 rfl rfl ?_
  refine ps_callVI (pc' := 8) (As := [.int a1]) (rest := []) (cT := (RX6, TX6, 11)) 1 rfl dX9_say_5 cv_X6_hasOne ml_X9_247 (by decide) rfl rfl (by decide) (Nat.le_of_ble_eq_true rfl) ob_37 rfl rfl (CA.monoI h ?_)
  intro r0 M0 h
  refine pw_if_eq (pc' := 11) (tgt := 41) rfl dX9_say_8 (by decide) (fun q1 => ?_) (fun q1 => ?_)
  · have h := h.1 q1
    refine pw_iconst (pc' := 42) rfl dX9_say_41 ci_m1 ?_
    exact ps_iret dX9_say_42 rfl h
  · have h := h.2 q1
    refine pw_aload_n (pc' := 12) 0 rfl dX9_say_11 rfl rfl ?_
    refine ps_getR (pc' := 15) (r := 37) rfl dX9_say_12 fl_X9_26 ob_0 rfl rfl ?_
    refine pw_iload_n (pc' := 16) 2 rfl dX9_say_15 rfl rfl ?_
    refine ps_callVI (pc' := 19) (As := [.int a2]) (rest := []) (cT := (RX6, TX6, 11)) 1 rfl dX9_say_16 cv_X6_hasOne ml_X9_247 (by decide) rfl rfl (by decide) (Nat.le_of_ble_eq_true rfl) ob_37 rfl rfl (CA.monoI h ?_)
    intro r2 M2 h
    refine pw_if_eq (pc' := 22) (tgt := 41) rfl dX9_say_19 (by decide) (fun q3 => ?_) (fun q3 => ?_)
    · have h := h.1 q3
      refine pw_iconst (pc' := 42) rfl dX9_say_41 ci_m1 ?_
      exact ps_iret dX9_say_42 rfl h
    · have h := h.2 q3
      refine pw_aload_n (pc' := 23) 0 rfl dX9_say_22 rfl rfl ?_
      refine ps_getR (pc' := 26) (r := 1) rfl dX9_say_23 fl_X9_10 ob_0 rfl rfl ?_
      refine pw_iload_n (pc' := 27) 3 rfl dX9_say_26 rfl rfl ?_
      refine ps_callVI (pc' := 30) (As := [.int a3]) (rest := []) (cT := (RX0, TX0, 8)) 1 rfl dX9_say_27 cv_X0_hasRoom ml_X9_148 (by decide) rfl rfl (by decide) (Nat.le_of_ble_eq_true rfl) ob_1 rfl rfl (CA.monoI h ?_)
      intro r4 M4 h
      refine pw_if_eq (pc' := 33) (tgt := 41) rfl dX9_say_30 (by decide) (fun q5 => ?_) (fun q5 => ?_)
      · have h := h.1 q5
        refine pw_iconst (pc' := 42) rfl dX9_say_41 ci_m1 ?_
        exact ps_iret dX9_say_42 rfl h
      · have h := h.2 q5
        refine pw_iload (pc' := 35) 4 rfl dX9_say_33 rfl ?_
        refine ps_callSI (pc' := 38) (As := [.int a4]) (rest := []) 1 rfl dX9_say_35 cs_X9_isTick ml_X9_144 (by decide) rfl rfl (by decide) (Nat.le_of_ble_eq_true rfl) (CA.monoI h ?_)
        intro r6 M6 h
        refine pw_if_ne (pc' := 41) (tgt := 43) rfl dX9_say_38 (by decide) (fun q7 => ?_) (fun q7 => ?_)
        · have h := h.1 q7
          refine pw_aload_n (pc' := 44) 0 rfl dX9_say_43 rfl rfl ?_
          refine ps_getR (pc' := 47) (r := 37) rfl dX9_say_44 fl_X9_26 ob_0 rfl rfl ?_
          refine ps_getI (pc' := 50) (v := (M6 37 1)) rfl dX9_say_47 fl_X9_250 ob_37 rfl rfl ?_
          refine pw_bipush (pc' := 52) rfl dX9_say_50 cb_12 ?_
          refine pw_icmp_ne (pc' := 55) (tgt := 58) rfl dX9_say_52 (by decide) (fun q8 => ?_) (fun q8 => ?_)
          · have h := h.1 q8
            refine pw_aload_n (pc' := 59) 0 rfl dX9_say_58 rfl rfl ?_
            refine ps_getR (pc' := 62) (r := 37) rfl dX9_say_59 fl_X9_26 ob_0 rfl rfl ?_
            refine pw_iload_n (pc' := 63) 1 rfl dX9_say_62 rfl rfl ?_
            refine pw_iload_n (pc' := 64) 2 rfl dX9_say_63 rfl rfl ?_
            refine pw_iload_n (pc' := 65) 3 rfl dX9_say_64 rfl rfl ?_
            refine pw_iload (pc' := 67) 4 rfl dX9_say_65 rfl ?_
            refine ps_callVV (pc' := 70) (As := [.int a1, .int a2, .int a3, .int a4]) (rest := []) (cT := (RX6, TX6, 11)) 4 rfl dX9_say_67 cv_X6_addSaying ml_X9_253 (by decide) rfl rfl (by decide) (Nat.le_of_ble_eq_true rfl) ob_37 rfl rfl (CA.monoV h ?_)
            intro M9 h
            refine pw_aload_n (pc' := 71) 0 rfl dX9_say_70 rfl rfl ?_
            refine ps_getR (pc' := 74) (r := 37) rfl dX9_say_71 fl_X9_26 ob_0 rfl rfl ?_
            refine ps_getI (pc' := 77) (v := (M9 37 1)) rfl dX9_say_74 fl_X9_250 ob_37 rfl rfl ?_
            refine pw_iconst (pc' := 78) rfl dX9_say_77 ci_1 ?_
            refine pw_isub (pc' := 79) rfl dX9_say_78 ?_
            exact ps_iret dX9_say_79 rfl h
          · have h := h.2 q8
            refine pw_bipush (pc' := 57) rfl dX9_say_55 cb_m3 ?_
            exact ps_iret dX9_say_57 rfl h
        · have h := h.2 q7
          refine pw_iconst (pc' := 42) rfl dX9_say_41 ci_m1 ?_
          exact ps_iret dX9_say_42 rfl h
theorem T_X9_liars {M : Mem}  {Q : Int32 → Mem → Prop}  (h : ((¬ (M 1 0) = 0) → (C_X1_findLiars M (-1) (fun r1 M1 => Q r1 M1))) ∧ (((M 1 0) = 0) → (Q (-2) M))) : C_X9_liars M  Q := by
  refine CA_of rfl (Nat.le_of_ble_eq_true rfl) ?_
  show PS _ _ 0 [(0, .ref 0)] [] M _
  refine pw_aload_n (pc' := 1) 0 rfl dX9_liars_0 rfl rfl ?_
  refine ps_getR (pc' := 4) (r := 1) rfl dX9_liars_1 fl_X9_10 ob_0 rfl rfl ?_
  refine ps_getI (pc' := 7) (v := (M 1 0)) rfl dX9_liars_4 fl_X9_89 ob_1 rfl rfl ?_
  refine pw_if_ne (pc' := 10) (tgt := 13) rfl dX9_liars_7 (by decide) (fun q0 => ?_) (fun q0 => ?_)
  · have h := h.1 q0
    refine pw_aload_n (pc' := 14) 0 rfl dX9_liars_13 rfl rfl ?_
    refine ps_getR (pc' := 17) (r := 167) rfl dX9_liars_14 fl_X9_76 ob_0 rfl rfl ?_
    refine pw_iconst (pc' := 18) rfl dX9_liars_17 ci_m1 ?_
    refine ps_callVI (pc' := 21) (As := [.int (-1)]) (rest := []) (cT := (RX1, TX1, 3)) 1 rfl dX9_liars_18 cv_X1_findLiars ml_X9_264 (by decide) rfl rfl (by decide) (Nat.le_of_ble_eq_true rfl) ob_167 rfl rfl (CA.monoI h ?_)
    intro r1 M1 h
    exact ps_iret dX9_liars_21 rfl h
  · have h := h.2 q0
    refine pw_bipush (pc' := 12) rfl dX9_liars_10 cb_m2 ?_
    exact ps_iret dX9_liars_12 rfl h
theorem T_X9_maybe {M : Mem} {a1 : Int32} {a2 : Int32} {Q : Int32 → Mem → Prop}  (h : C_X6_hasOne_37 M a1 (fun r0 M0 => ((r0 = 0) → (Q (-1) M0)) ∧ ((¬ r0 = 0) → (C_X9_isTick M0 a2 (fun r2 M2 => ((¬ r2 = 0) → (((¬ (M2 1 0) = 0) → (C_X1_findLiars M2 (-1) (fun r5 M5 => C_X1_roomsOf M5 a1 a2 (fun r6 M6 => Q r6 M6)))) ∧ (((M2 1 0) = 0) → (Q (-2) M2)))) ∧ ((r2 = 0) → (Q (-1) M2))))))) : C_X9_maybe M a1 a2 Q := by
  refine CA_of rfl (Nat.le_of_ble_eq_true rfl) ?_
  show PS _ _ 0 [(0, .ref 0), (1, .int a1), (2, .int a2)] [] M _
  refine pw_aload_n (pc' := 1) 0 rfl dX9_maybe_0 rfl rfl ?_
  refine ps_getR (pc' := 4) (r := 37) rfl dX9_maybe_1 fl_X9_26 ob_0 rfl rfl ?_
  refine pw_iload_n (pc' := 5) 1 rfl dX9_maybe_4 rfl rfl ?_
  refine ps_callVI (pc' := 8) (As := [.int a1]) (rest := []) (cT := (RX6, TX6, 11)) 1 rfl dX9_maybe_5 cv_X6_hasOne ml_X9_247 (by decide) rfl rfl (by decide) (Nat.le_of_ble_eq_true rfl) ob_37 rfl rfl (CA.monoI h ?_)
  intro r0 M0 h
  refine pw_if_eq (pc' := 11) (tgt := 18) rfl dX9_maybe_8 (by decide) (fun q1 => ?_) (fun q1 => ?_)
  · have h := h.1 q1
    refine pw_iconst (pc' := 19) rfl dX9_maybe_18 ci_m1 ?_
    exact ps_iret dX9_maybe_19 rfl h
  · have h := h.2 q1
    refine pw_iload_n (pc' := 12) 2 rfl dX9_maybe_11 rfl rfl ?_
    refine ps_callSI (pc' := 15) (As := [.int a2]) (rest := []) 1 rfl dX9_maybe_12 cs_X9_isTick ml_X9_144 (by decide) rfl rfl (by decide) (Nat.le_of_ble_eq_true rfl) (CA.monoI h ?_)
    intro r2 M2 h
    refine pw_if_ne (pc' := 18) (tgt := 20) rfl dX9_maybe_15 (by decide) (fun q3 => ?_) (fun q3 => ?_)
    · have h := h.1 q3
      refine pw_aload_n (pc' := 21) 0 rfl dX9_maybe_20 rfl rfl ?_
      refine ps_getR (pc' := 24) (r := 1) rfl dX9_maybe_21 fl_X9_10 ob_0 rfl rfl ?_
      refine ps_getI (pc' := 27) (v := (M2 1 0)) rfl dX9_maybe_24 fl_X9_89 ob_1 rfl rfl ?_
      refine pw_if_ne (pc' := 30) (tgt := 33) rfl dX9_maybe_27 (by decide) (fun q4 => ?_) (fun q4 => ?_)
      · have h := h.1 q4
        refine pw_aload_n (pc' := 34) 0 rfl dX9_maybe_33 rfl rfl ?_
        refine ps_getR (pc' := 37) (r := 167) rfl dX9_maybe_34 fl_X9_76 ob_0 rfl rfl ?_
        refine pw_iconst (pc' := 38) rfl dX9_maybe_37 ci_m1 ?_
        refine ps_callVI (pc' := 41) (As := [.int (-1)]) (rest := []) (cT := (RX1, TX1, 3)) 1 rfl dX9_maybe_38 cv_X1_findLiars ml_X9_264 (by decide) rfl rfl (by decide) (Nat.le_of_ble_eq_true rfl) ob_167 rfl rfl (CA.monoI h ?_)
        intro r5 M5 h
        refine pw_pop (pc' := 42) rfl dX9_maybe_41 rfl ?_
        refine pw_aload_n (pc' := 43) 0 rfl dX9_maybe_42 rfl rfl ?_
        refine ps_getR (pc' := 46) (r := 167) rfl dX9_maybe_43 fl_X9_76 ob_0 rfl rfl ?_
        refine pw_iload_n (pc' := 47) 1 rfl dX9_maybe_46 rfl rfl ?_
        refine pw_iload_n (pc' := 48) 2 rfl dX9_maybe_47 rfl rfl ?_
        refine ps_callVI (pc' := 51) (As := [.int a1, .int a2]) (rest := []) (cT := (RX1, TX1, 3)) 2 rfl dX9_maybe_48 cv_X1_roomsOf ml_X9_267 (by decide) rfl rfl (by decide) (Nat.le_of_ble_eq_true rfl) ob_167 rfl rfl (CA.monoI h ?_)
        intro r6 M6 h
        exact ps_iret dX9_maybe_51 rfl h
      · have h := h.2 q4
        refine pw_bipush (pc' := 32) rfl dX9_maybe_30 cb_m2 ?_
        exact ps_iret dX9_maybe_32 rfl h
    · have h := h.2 q3
      refine pw_iconst (pc' := 19) rfl dX9_maybe_18 ci_m1 ?_
      exact ps_iret dX9_maybe_19 rfl h
theorem T_X9_theft {M : Mem} {a1 : Int32} {a2 : Int32} {a3 : Int32} {Q : Int32 → Mem → Prop}  (h : C_X0_hasRoom_1 M a1 (fun r0 M0 => ((r0 = 0) → (Q (-1) M0)) ∧ ((¬ r0 = 0) → (C_X9_isTick M0 a2 (fun r2 M2 => ((r2 = 0) → (Q (-1) M2)) ∧ ((¬ r2 = 0) → (C_X9_isTick M2 a3 (fun r4 M4 => ((r4 = 0) → (Q (-1) M4)) ∧ ((¬ r4 = 0) → (((a2 ≤ a3) → (Q (nI 1) (wr (wr (wr (wr M4 37 2 (nI 1)) 37 3 a1) 37 4 a2) 37 5 a3))) ∧ ((¬ a2 ≤ a3) → (Q (-1) M4)))))))))))) : C_X9_theft M a1 a2 a3 Q := by
  refine CA_of rfl (Nat.le_of_ble_eq_true rfl) ?_
  show PS _ _ 0 [(0, .ref 0), (1, .int a1), (2, .int a2), (3, .int a3)] [] M _
  refine pw_aload_n (pc' := 1) 0 rfl dX9_theft_0 rfl rfl ?_
  refine ps_getR (pc' := 4) (r := 1) rfl dX9_theft_1 fl_X9_10 ob_0 rfl rfl ?_
  refine pw_iload_n (pc' := 5) 1 rfl dX9_theft_4 rfl rfl ?_
  refine ps_callVI (pc' := 8) (As := [.int a1]) (rest := []) (cT := (RX0, TX0, 8)) 1 rfl dX9_theft_5 cv_X0_hasRoom ml_X9_148 (by decide) rfl rfl (by decide) (Nat.le_of_ble_eq_true rfl) ob_1 rfl rfl (CA.monoI h ?_)
  intro r0 M0 h
  refine pw_if_eq (pc' := 11) (tgt := 30) rfl dX9_theft_8 (by decide) (fun q1 => ?_) (fun q1 => ?_)
  · have h := h.1 q1
    refine pw_iconst (pc' := 31) rfl dX9_theft_30 ci_m1 ?_
    exact ps_iret dX9_theft_31 rfl h
  · have h := h.2 q1
    refine pw_iload_n (pc' := 12) 2 rfl dX9_theft_11 rfl rfl ?_
    refine ps_callSI (pc' := 15) (As := [.int a2]) (rest := []) 1 rfl dX9_theft_12 cs_X9_isTick ml_X9_144 (by decide) rfl rfl (by decide) (Nat.le_of_ble_eq_true rfl) (CA.monoI h ?_)
    intro r2 M2 h
    refine pw_if_eq (pc' := 18) (tgt := 30) rfl dX9_theft_15 (by decide) (fun q3 => ?_) (fun q3 => ?_)
    · have h := h.1 q3
      refine pw_iconst (pc' := 31) rfl dX9_theft_30 ci_m1 ?_
      exact ps_iret dX9_theft_31 rfl h
    · have h := h.2 q3
      refine pw_iload_n (pc' := 19) 3 rfl dX9_theft_18 rfl rfl ?_
      refine ps_callSI (pc' := 22) (As := [.int a3]) (rest := []) 1 rfl dX9_theft_19 cs_X9_isTick ml_X9_144 (by decide) rfl rfl (by decide) (Nat.le_of_ble_eq_true rfl) (CA.monoI h ?_)
      intro r4 M4 h
      refine pw_if_eq (pc' := 25) (tgt := 30) rfl dX9_theft_22 (by decide) (fun q5 => ?_) (fun q5 => ?_)
      · have h := h.1 q5
        refine pw_iconst (pc' := 31) rfl dX9_theft_30 ci_m1 ?_
        exact ps_iret dX9_theft_31 rfl h
      · have h := h.2 q5
        refine pw_iload_n (pc' := 26) 3 rfl dX9_theft_25 rfl rfl ?_
        refine pw_iload_n (pc' := 27) 2 rfl dX9_theft_26 rfl rfl ?_
        refine pw_icmp_ge (pc' := 30) (tgt := 32) rfl dX9_theft_27 (by decide) (fun q6 => ?_) (fun q6 => ?_)
        · have h := h.1 q6
          refine pw_aload_n (pc' := 33) 0 rfl dX9_theft_32 rfl rfl ?_
          refine ps_getR (pc' := 36) (r := 37) rfl dX9_theft_33 fl_X9_26 ob_0 rfl rfl ?_
          refine pw_iconst (pc' := 37) rfl dX9_theft_36 ci_1 ?_
          refine ps_putZ (pc' := 40) rfl dX9_theft_37 fl_X9_270 ob_37 rfl (by decide) ?_
          refine pw_aload_n (pc' := 41) 0 rfl dX9_theft_40 rfl rfl ?_
          refine ps_getR (pc' := 44) (r := 37) rfl dX9_theft_41 fl_X9_26 ob_0 rfl rfl ?_
          refine pw_iload_n (pc' := 45) 1 rfl dX9_theft_44 rfl rfl ?_
          refine ps_putI (pc' := 48) rfl dX9_theft_45 fl_X9_274 ob_37 rfl ?_
          refine pw_aload_n (pc' := 49) 0 rfl dX9_theft_48 rfl rfl ?_
          refine ps_getR (pc' := 52) (r := 37) rfl dX9_theft_49 fl_X9_26 ob_0 rfl rfl ?_
          refine pw_iload_n (pc' := 53) 2 rfl dX9_theft_52 rfl rfl ?_
          refine ps_putI (pc' := 56) rfl dX9_theft_53 fl_X9_277 ob_37 rfl ?_
          refine pw_aload_n (pc' := 57) 0 rfl dX9_theft_56 rfl rfl ?_
          refine ps_getR (pc' := 60) (r := 37) rfl dX9_theft_57 fl_X9_26 ob_0 rfl rfl ?_
          refine pw_iload_n (pc' := 61) 3 rfl dX9_theft_60 rfl rfl ?_
          refine ps_putI (pc' := 64) rfl dX9_theft_61 fl_X9_280 ob_37 rfl ?_
          refine pw_iconst (pc' := 65) rfl dX9_theft_64 ci_1 ?_
          exact ps_iret dX9_theft_65 rfl h
        · have h := h.2 q6
          refine pw_iconst (pc' := 31) rfl dX9_theft_30 ci_m1 ?_
          exact ps_iret dX9_theft_31 rfl h
theorem T_X9_suspects {M : Mem}  {Q : Int32 → Mem → Prop}  (h : ((¬ (M 37 2) = 0) → (C_X1_findLiars M (-1) (fun r1 M1 => P_X9_suspects_26 M1 (nI 0) (nI 0) Q))) ∧ (((M 37 2) = 0) → (Q (-2) M))) : C_X9_suspects M  Q := by
  refine CA_of rfl (Nat.le_of_ble_eq_true rfl) ?_
  show PS _ _ 0 [(0, .ref 0)] [] M _
  refine pw_aload_n (pc' := 1) 0 rfl dX9_suspects_0 rfl rfl ?_
  refine ps_getR (pc' := 4) (r := 37) rfl dX9_suspects_1 fl_X9_26 ob_0 rfl rfl ?_
  refine ps_getI (pc' := 7) (v := (M 37 2)) rfl dX9_suspects_4 fl_X9_270 ob_37 rfl rfl ?_
  refine pw_if_ne (pc' := 10) (tgt := 13) rfl dX9_suspects_7 (by decide) (fun q0 => ?_) (fun q0 => ?_)
  · have h := h.1 q0
    refine pw_aload_n (pc' := 14) 0 rfl dX9_suspects_13 rfl rfl ?_
    refine ps_getR (pc' := 17) (r := 167) rfl dX9_suspects_14 fl_X9_76 ob_0 rfl rfl ?_
    refine pw_iconst (pc' := 18) rfl dX9_suspects_17 ci_m1 ?_
    refine ps_callVI (pc' := 21) (As := [.int (-1)]) (rest := []) (cT := (RX1, TX1, 3)) 1 rfl dX9_suspects_18 cv_X1_findLiars ml_X9_264 (by decide) rfl rfl (by decide) (Nat.le_of_ble_eq_true rfl) ob_167 rfl rfl (CA.monoI h ?_)
    intro r1 M1 h
    refine pw_pop (pc' := 22) rfl dX9_suspects_21 rfl ?_
    refine pw_iconst (pc' := 23) rfl dX9_suspects_22 ci_0 ?_
    refine pw_istore_n (pc' := 24) (lv' := [(0, .ref 0), (1, .int (nI 0))]) [1, 0] rfl dX9_suspects_23 rfl (by decide) rfl ?_
    refine pw_iconst (pc' := 25) rfl dX9_suspects_24 ci_0 ?_
    refine pw_istore_n (pc' := 26) (lv' := [(0, .ref 0), (1, .int (nI 0)), (2, .int (nI 0))]) [1, 2, 0] rfl dX9_suspects_25 rfl (by decide) rfl ?_
    exact pw_sub [0, 1, 2] rfl h
  · have h := h.2 q0
    refine pw_bipush (pc' := 12) rfl dX9_suspects_10 cb_m2 ?_
    exact ps_iret dX9_suspects_12 rfl h
theorem T_X9_suspects_26 {M : Mem} {a1 : Int32} {a2 : Int32} {Q : Int32 → Mem → Prop}  (h : (((M 37 0) ≤ a2) → (Q a1 M)) ∧ ((¬ (M 37 0) ≤ a2) → (C_X1_isSuspect M a2 (fun r1 M1 => ((r1 = 0) → (P_X9_suspects_26 M1 a1 (a2 + (nI 1)) Q)) ∧ ((¬ r1 = 0) → (P_X9_suspects_26 M1 (a1 ||| ((nI 1) <<< (a2 &&& 31))) (a2 + (nI 1)) Q)))))) : P_X9_suspects_26 M a1 a2 Q := by
  refine pw_iload_n (pc' := 27) 2 rfl dX9_suspects_26 rfl rfl ?_
  refine pw_aload_n (pc' := 28) 0 rfl dX9_suspects_27 rfl rfl ?_
  refine ps_getR (pc' := 31) (r := 37) rfl dX9_suspects_28 fl_X9_26 ob_0 rfl rfl ?_
  refine ps_getI (pc' := 34) (v := (M 37 0)) rfl dX9_suspects_31 fl_X9_243 ob_37 rfl rfl ?_
  refine pw_icmp_ge (pc' := 37) (tgt := 60) rfl dX9_suspects_34 (by decide) (fun q0 => ?_) (fun q0 => ?_)
  · have h := h.1 q0
    refine pw_iload_n (pc' := 61) 1 rfl dX9_suspects_60 rfl rfl ?_
    exact ps_iret dX9_suspects_61 rfl h
  · have h := h.2 q0
    refine pw_aload_n (pc' := 38) 0 rfl dX9_suspects_37 rfl rfl ?_
    refine ps_getR (pc' := 41) (r := 167) rfl dX9_suspects_38 fl_X9_76 ob_0 rfl rfl ?_
    refine pw_iload_n (pc' := 42) 2 rfl dX9_suspects_41 rfl rfl ?_
    refine ps_callVI (pc' := 45) (As := [.int a2]) (rest := []) (cT := (RX1, TX1, 3)) 1 rfl dX9_suspects_42 cv_X1_isSuspect ml_X9_283 (by decide) rfl rfl (by decide) (Nat.le_of_ble_eq_true rfl) ob_167 rfl rfl (CA.monoI h ?_)
    intro r1 M1 h
    refine pw_if_eq (pc' := 48) (tgt := 54) rfl dX9_suspects_45 (by decide) (fun q2 => ?_) (fun q2 => ?_)
    · have h := h.1 q2
      refine pw_iinc (pc' := 57) (lv' := [(0, .ref 0), (1, .int a1), (2, .int (a2 + (nI 1)))]) 2 [1, 2, 0] rfl dX9_suspects_54 rfl (ii_1 _) (by decide) rfl ?_
      refine pw_goto (tgt := 26) dX9_suspects_57 (by decide) ?_
      exact pw_sub [0, 1, 2] rfl h
    · have h := h.2 q2
      refine pw_iload_n (pc' := 49) 1 rfl dX9_suspects_48 rfl rfl ?_
      refine pw_iconst (pc' := 50) rfl dX9_suspects_49 ci_1 ?_
      refine pw_iload_n (pc' := 51) 2 rfl dX9_suspects_50 rfl rfl ?_
      refine pw_ishl (pc' := 52) rfl dX9_suspects_51 ?_
      refine pw_ior (pc' := 53) rfl dX9_suspects_52 ?_
      refine pw_istore_n (pc' := 54) (lv' := [(0, .ref 0), (1, .int (a1 ||| ((nI 1) <<< (a2 &&& 31)))), (2, .int a2)]) [1, 0, 2] rfl dX9_suspects_53 rfl (by decide) rfl ?_
      refine pw_iinc (pc' := 57) (lv' := [(0, .ref 0), (1, .int (a1 ||| ((nI 1) <<< (a2 &&& 31)))), (2, .int (a2 + (nI 1)))]) 2 [1, 2, 0] rfl dX9_suspects_54 rfl (ii_1 _) (by decide) rfl ?_
      refine pw_goto (tgt := 26) dX9_suspects_57 (by decide) ?_
      exact pw_sub [0, 1, 2] rfl h
theorem T_X9_clears {M : Mem} {a1 : Int32} {Q : Int32 → Mem → Prop}  (h : C_X6_hasOne_37 M a1 (fun r0 M0 => ((¬ r0 = 0) → (((¬ (M0 37 2) = 0) → (C_X1_findLiars M0 (-1) (fun r3 M3 => C_X1_isSuspect M3 a1 (fun r4 M4 => ((r4 = 0) → (P_X9_clears_53 M4 a1 (nI 0) (nI 0) Q)) ∧ ((¬ r4 = 0) → (Q (-4) M4)))))) ∧ (((M0 37 2) = 0) → (Q (-2) M0)))) ∧ ((r0 = 0) → (Q (-1) M0)))) : C_X9_clears M a1 Q := by
  refine CA_of rfl (Nat.le_of_ble_eq_true rfl) ?_
  show PS _ _ 0 [(0, .ref 0), (1, .int a1)] [] M _
  refine pw_aload_n (pc' := 1) 0 rfl dX9_clears_0 rfl rfl ?_
  refine ps_getR (pc' := 4) (r := 37) rfl dX9_clears_1 fl_X9_26 ob_0 rfl rfl ?_
  refine pw_iload_n (pc' := 5) 1 rfl dX9_clears_4 rfl rfl ?_
  refine ps_callVI (pc' := 8) (As := [.int a1]) (rest := []) (cT := (RX6, TX6, 11)) 1 rfl dX9_clears_5 cv_X6_hasOne ml_X9_247 (by decide) rfl rfl (by decide) (Nat.le_of_ble_eq_true rfl) ob_37 rfl rfl (CA.monoI h ?_)
  intro r0 M0 h
  refine pw_if_ne (pc' := 11) (tgt := 13) rfl dX9_clears_8 (by decide) (fun q1 => ?_) (fun q1 => ?_)
  · have h := h.1 q1
    refine pw_aload_n (pc' := 14) 0 rfl dX9_clears_13 rfl rfl ?_
    refine ps_getR (pc' := 17) (r := 37) rfl dX9_clears_14 fl_X9_26 ob_0 rfl rfl ?_
    refine ps_getI (pc' := 20) (v := (M0 37 2)) rfl dX9_clears_17 fl_X9_270 ob_37 rfl rfl ?_
    refine pw_if_ne (pc' := 23) (tgt := 26) rfl dX9_clears_20 (by decide) (fun q2 => ?_) (fun q2 => ?_)
    · have h := h.1 q2
      refine pw_aload_n (pc' := 27) 0 rfl dX9_clears_26 rfl rfl ?_
      refine ps_getR (pc' := 30) (r := 167) rfl dX9_clears_27 fl_X9_76 ob_0 rfl rfl ?_
      refine pw_iconst (pc' := 31) rfl dX9_clears_30 ci_m1 ?_
      refine ps_callVI (pc' := 34) (As := [.int (-1)]) (rest := []) (cT := (RX1, TX1, 3)) 1 rfl dX9_clears_31 cv_X1_findLiars ml_X9_264 (by decide) rfl rfl (by decide) (Nat.le_of_ble_eq_true rfl) ob_167 rfl rfl (CA.monoI h ?_)
      intro r3 M3 h
      refine pw_pop (pc' := 35) rfl dX9_clears_34 rfl ?_
      refine pw_aload_n (pc' := 36) 0 rfl dX9_clears_35 rfl rfl ?_
      refine ps_getR (pc' := 39) (r := 167) rfl dX9_clears_36 fl_X9_76 ob_0 rfl rfl ?_
      refine pw_iload_n (pc' := 40) 1 rfl dX9_clears_39 rfl rfl ?_
      refine ps_callVI (pc' := 43) (As := [.int a1]) (rest := []) (cT := (RX1, TX1, 3)) 1 rfl dX9_clears_40 cv_X1_isSuspect ml_X9_283 (by decide) rfl rfl (by decide) (Nat.le_of_ble_eq_true rfl) ob_167 rfl rfl (CA.monoI h ?_)
      intro r4 M4 h
      refine pw_if_eq (pc' := 46) (tgt := 49) rfl dX9_clears_43 (by decide) (fun q5 => ?_) (fun q5 => ?_)
      · have h := h.1 q5
        refine pw_iconst (pc' := 50) rfl dX9_clears_49 ci_0 ?_
        refine pw_istore_n (pc' := 51) (lv' := [(0, .ref 0), (1, .int a1), (2, .int (nI 0))]) [1, 2, 0] rfl dX9_clears_50 rfl (by decide) rfl ?_
        refine pw_iconst (pc' := 52) rfl dX9_clears_51 ci_0 ?_
        refine pw_istore_n (pc' := 53) (lv' := [(0, .ref 0), (1, .int a1), (2, .int (nI 0)), (3, .int (nI 0))]) [1, 2, 3, 0] rfl dX9_clears_52 rfl (by decide) rfl ?_
        exact pw_sub [0, 1, 2, 3] rfl h
      · have h := h.2 q5
        refine pw_bipush (pc' := 48) rfl dX9_clears_46 cb_m4 ?_
        exact ps_iret dX9_clears_48 rfl h
    · have h := h.2 q2
      refine pw_bipush (pc' := 25) rfl dX9_clears_23 cb_m2 ?_
      exact ps_iret dX9_clears_25 rfl h
  · have h := h.2 q1
    refine pw_iconst (pc' := 12) rfl dX9_clears_11 ci_m1 ?_
    exact ps_iret dX9_clears_12 rfl h
theorem T_X9_clears_53 {M : Mem} {a1 : Int32} {a2 : Int32} {a3 : Int32} {Q : Int32 → Mem → Prop}  (h : (((M 37 1) ≤ a3) → (Q a2 M)) ∧ ((¬ (M 37 1) ≤ a3) → (C_X1_findLiars M a3 (fun r1 M1 => C_X1_isSuspect M1 a1 (fun r2 M2 => ((r2 = 0) → (P_X9_clears_53 M2 a1 a2 (a3 + (nI 1)) Q)) ∧ ((¬ r2 = 0) → (P_X9_clears_53 M2 a1 (a2 ||| ((nI 1) <<< (a3 &&& 31))) (a3 + (nI 1)) Q))))))) : P_X9_clears_53 M a1 a2 a3 Q := by
  refine pw_iload_n (pc' := 54) 3 rfl dX9_clears_53 rfl rfl ?_
  refine pw_aload_n (pc' := 55) 0 rfl dX9_clears_54 rfl rfl ?_
  refine ps_getR (pc' := 58) (r := 37) rfl dX9_clears_55 fl_X9_26 ob_0 rfl rfl ?_
  refine ps_getI (pc' := 61) (v := (M 37 1)) rfl dX9_clears_58 fl_X9_250 ob_37 rfl rfl ?_
  refine pw_icmp_ge (pc' := 64) (tgt := 96) rfl dX9_clears_61 (by decide) (fun q0 => ?_) (fun q0 => ?_)
  · have h := h.1 q0
    refine pw_iload_n (pc' := 97) 2 rfl dX9_clears_96 rfl rfl ?_
    exact ps_iret dX9_clears_97 rfl h
  · have h := h.2 q0
    refine pw_aload_n (pc' := 65) 0 rfl dX9_clears_64 rfl rfl ?_
    refine ps_getR (pc' := 68) (r := 167) rfl dX9_clears_65 fl_X9_76 ob_0 rfl rfl ?_
    refine pw_iload_n (pc' := 69) 3 rfl dX9_clears_68 rfl rfl ?_
    refine ps_callVI (pc' := 72) (As := [.int a3]) (rest := []) (cT := (RX1, TX1, 3)) 1 rfl dX9_clears_69 cv_X1_findLiars ml_X9_264 (by decide) rfl rfl (by decide) (Nat.le_of_ble_eq_true rfl) ob_167 rfl rfl (CA.monoI h ?_)
    intro r1 M1 h
    refine pw_pop (pc' := 73) rfl dX9_clears_72 rfl ?_
    refine pw_aload_n (pc' := 74) 0 rfl dX9_clears_73 rfl rfl ?_
    refine ps_getR (pc' := 77) (r := 167) rfl dX9_clears_74 fl_X9_76 ob_0 rfl rfl ?_
    refine pw_iload_n (pc' := 78) 1 rfl dX9_clears_77 rfl rfl ?_
    refine ps_callVI (pc' := 81) (As := [.int a1]) (rest := []) (cT := (RX1, TX1, 3)) 1 rfl dX9_clears_78 cv_X1_isSuspect ml_X9_283 (by decide) rfl rfl (by decide) (Nat.le_of_ble_eq_true rfl) ob_167 rfl rfl (CA.monoI h ?_)
    intro r2 M2 h
    refine pw_if_eq (pc' := 84) (tgt := 90) rfl dX9_clears_81 (by decide) (fun q3 => ?_) (fun q3 => ?_)
    · have h := h.1 q3
      refine pw_iinc (pc' := 93) (lv' := [(0, .ref 0), (1, .int a1), (2, .int a2), (3, .int (a3 + (nI 1)))]) 3 [1, 2, 3, 0] rfl dX9_clears_90 rfl (ii_1 _) (by decide) rfl ?_
      refine pw_goto (tgt := 53) dX9_clears_93 (by decide) ?_
      exact pw_sub [0, 1, 2, 3] rfl h
    · have h := h.2 q3
      refine pw_iload_n (pc' := 85) 2 rfl dX9_clears_84 rfl rfl ?_
      refine pw_iconst (pc' := 86) rfl dX9_clears_85 ci_1 ?_
      refine pw_iload_n (pc' := 87) 3 rfl dX9_clears_86 rfl rfl ?_
      refine pw_ishl (pc' := 88) rfl dX9_clears_87 ?_
      refine pw_ior (pc' := 89) rfl dX9_clears_88 ?_
      refine pw_istore_n (pc' := 90) (lv' := [(0, .ref 0), (1, .int a1), (2, .int (a2 ||| ((nI 1) <<< (a3 &&& 31)))), (3, .int a3)]) [1, 2, 0, 3] rfl dX9_clears_89 rfl (by decide) rfl ?_
      refine pw_iinc (pc' := 93) (lv' := [(0, .ref 0), (1, .int a1), (2, .int (a2 ||| ((nI 1) <<< (a3 &&& 31)))), (3, .int (a3 + (nI 1)))]) 3 [1, 2, 3, 0] rfl dX9_clears_90 rfl (ii_1 _) (by decide) rfl ?_
      refine pw_goto (tgt := 53) dX9_clears_93 (by decide) ?_
      exact pw_sub [0, 1, 2, 3] rfl h
theorem T_X9_count {M : Mem} {a1 : Int32} {Q : Int32 → Mem → Prop}  (h : (a1 = (nI 0) → (Q (M 1 0) M)) ∧ (a1 = (nI 1) → (Q (M 1 1) M)) ∧ (a1 = (nI 2) → (Q (M 1 2) M)) ∧ (a1 = (nI 3) → (Q (M 30 0) M)) ∧ (a1 = (nI 4) → (C_J6_bitCount_0f7a4 M (M 30 1) (fun r9 M9 => Q r9 M9))) ∧ (a1 = (nI 5) → (Q (M 30 3) M)) ∧ (a1 = (nI 6) → (Q (M 37 0) M)) ∧ (a1 = (nI 7) → (Q (M 37 1) M)) ∧ (¬ a1 = (nI 0) → ¬ a1 = (nI 1) → ¬ a1 = (nI 2) → ¬ a1 = (nI 3) → ¬ a1 = (nI 4) → ¬ a1 = (nI 5) → ¬ a1 = (nI 6) → ¬ a1 = (nI 7) → (Q (-1) M))) : C_X9_count M a1 Q := by
  refine CA_of rfl (Nat.le_of_ble_eq_true rfl) ?_
  show PS _ _ 0 [(0, .ref 0), (1, .int a1)] [] M _
  refine pw_iload_n (pc' := 1) 1 rfl dX9_count_0 rfl rfl ?_
  by_cases q0 : a1 = (nI 0)
  · have h := h.1 q0
    refine pw_tableIn (tgt := 48) dX9_count_1 (by rw [q0] <;> decide) (by rw [q0] <;> decide) (by rw [q0] <;> rfl) (by decide) ?_
    refine pw_aload_n (pc' := 49) 0 rfl dX9_count_48 rfl rfl ?_
    refine ps_getR (pc' := 52) (r := 1) rfl dX9_count_49 fl_X9_10 ob_0 rfl rfl ?_
    refine ps_getI (pc' := 55) (v := (M 1 0)) rfl dX9_count_52 fl_X9_89 ob_1 rfl rfl ?_
    exact ps_iret dX9_count_55 rfl h
  · skip
    by_cases q1 : a1 = (nI 1)
    · have h := h.2.1 q1
      refine pw_tableIn (tgt := 56) dX9_count_1 (by rw [q1] <;> decide) (by rw [q1] <;> decide) (by rw [q1] <;> rfl) (by decide) ?_
      refine pw_aload_n (pc' := 57) 0 rfl dX9_count_56 rfl rfl ?_
      refine ps_getR (pc' := 60) (r := 1) rfl dX9_count_57 fl_X9_10 ob_0 rfl rfl ?_
      refine ps_getI (pc' := 63) (v := (M 1 1)) rfl dX9_count_60 fl_X9_104 ob_1 rfl rfl ?_
      exact ps_iret dX9_count_63 rfl h
    · skip
      by_cases q2 : a1 = (nI 2)
      · have h := h.2.2.1 q2
        refine pw_tableIn (tgt := 64) dX9_count_1 (by rw [q2] <;> decide) (by rw [q2] <;> decide) (by rw [q2] <;> rfl) (by decide) ?_
        refine pw_aload_n (pc' := 65) 0 rfl dX9_count_64 rfl rfl ?_
        refine ps_getR (pc' := 68) (r := 1) rfl dX9_count_65 fl_X9_10 ob_0 rfl rfl ?_
        refine ps_getI (pc' := 71) (v := (M 1 2)) rfl dX9_count_68 fl_X9_129 ob_1 rfl rfl ?_
        exact ps_iret dX9_count_71 rfl h
      · skip
        by_cases q3 : a1 = (nI 3)
        · have h := h.2.2.2.1 q3
          refine pw_tableIn (tgt := 72) dX9_count_1 (by rw [q3] <;> decide) (by rw [q3] <;> decide) (by rw [q3] <;> rfl) (by decide) ?_
          refine pw_aload_n (pc' := 73) 0 rfl dX9_count_72 rfl rfl ?_
          refine ps_getR (pc' := 76) (r := 30) rfl dX9_count_73 fl_X9_19 ob_0 rfl rfl ?_
          refine ps_getI (pc' := 79) (v := (M 30 0)) rfl dX9_count_76 fl_X9_159 ob_30 rfl rfl ?_
          exact ps_iret dX9_count_79 rfl h
        · skip
          by_cases q4 : a1 = (nI 4)
          · have h := h.2.2.2.2.1 q4
            refine pw_tableIn (tgt := 80) dX9_count_1 (by rw [q4] <;> decide) (by rw [q4] <;> decide) (by rw [q4] <;> rfl) (by decide) ?_
            refine pw_aload_n (pc' := 81) 0 rfl dX9_count_80 rfl rfl ?_
            refine ps_getR (pc' := 84) (r := 30) rfl dX9_count_81 fl_X9_19 ob_0 rfl rfl ?_
            refine ps_getI (pc' := 87) (v := (M 30 1)) rfl dX9_count_84 fl_X9_168 ob_30 rfl rfl ?_
            refine ps_callSI (pc' := 90) (As := [.int (M 30 1)]) (rest := []) 1 rfl dX9_count_87 cs_J6_bitCount_0f7a4 ml_X9_286 (by decide) rfl rfl (by decide) (Nat.le_of_ble_eq_true rfl) (CA.monoI h ?_)
            intro r9 M9 h
            exact ps_iret dX9_count_90 rfl h
          · skip
            by_cases q5 : a1 = (nI 5)
            · have h := h.2.2.2.2.2.1 q5
              refine pw_tableIn (tgt := 91) dX9_count_1 (by rw [q5] <;> decide) (by rw [q5] <;> decide) (by rw [q5] <;> rfl) (by decide) ?_
              refine pw_aload_n (pc' := 92) 0 rfl dX9_count_91 rfl rfl ?_
              refine ps_getR (pc' := 95) (r := 30) rfl dX9_count_92 fl_X9_19 ob_0 rfl rfl ?_
              refine ps_getI (pc' := 98) (v := (M 30 3)) rfl dX9_count_95 fl_X9_178 ob_30 rfl rfl ?_
              exact ps_iret dX9_count_98 rfl h
            · skip
              by_cases q6 : a1 = (nI 6)
              · have h := h.2.2.2.2.2.2.1 q6
                refine pw_tableIn (tgt := 99) dX9_count_1 (by rw [q6] <;> decide) (by rw [q6] <;> decide) (by rw [q6] <;> rfl) (by decide) ?_
                refine pw_aload_n (pc' := 100) 0 rfl dX9_count_99 rfl rfl ?_
                refine ps_getR (pc' := 103) (r := 37) rfl dX9_count_100 fl_X9_26 ob_0 rfl rfl ?_
                refine ps_getI (pc' := 106) (v := (M 37 0)) rfl dX9_count_103 fl_X9_243 ob_37 rfl rfl ?_
                exact ps_iret dX9_count_106 rfl h
              · skip
                by_cases q7 : a1 = (nI 7)
                · have h := h.2.2.2.2.2.2.2.1 q7
                  refine pw_tableIn (tgt := 107) dX9_count_1 (by rw [q7] <;> decide) (by rw [q7] <;> decide) (by rw [q7] <;> rfl) (by decide) ?_
                  refine pw_aload_n (pc' := 108) 0 rfl dX9_count_107 rfl rfl ?_
                  refine ps_getR (pc' := 111) (r := 37) rfl dX9_count_108 fl_X9_26 ob_0 rfl rfl ?_
                  refine ps_getI (pc' := 114) (v := (M 37 1)) rfl dX9_count_111 fl_X9_250 ob_37 rfl rfl ?_
                  exact ps_iret dX9_count_114 rfl h
                · skip
                  have h := h.2.2.2.2.2.2.2.2 q0 q1 q2 q3 q4 q5 q6 q7
                  refine pw_tableOut (tgt := 115) dX9_count_1 (sw_out8 q0 q1 q2 q3 q4 q5 q6 q7) (by decide) ?_
                  refine pw_iconst (pc' := 116) rfl dX9_count_115 ci_m1 ?_
                  exact ps_iret dX9_count_116 rfl h
theorem T_X9_image {M : Mem}  {Q : Int32 → Mem → Prop}  (h : C_X0_become_43_1 M (fun M0 => C_X5_become_72_30 M0 (fun M1 => C_X6_become_79_37 M1 (fun M2 => Q (nI 1) (wr M2 0 6 (nI 1)))))) : C_X9_image M  Q := by
  refine CA_of rfl (Nat.le_of_ble_eq_true rfl) ?_
  show PS _ _ 0 [(0, .ref 0)] [] M _
  refine pw_aload_n (pc' := 1) 0 rfl dX9_image_0 rfl rfl ?_
  refine ps_getR (pc' := 4) (r := 43) rfl dX9_image_1 fl_X9_30 ob_0 rfl rfl ?_
  refine pw_aload_n (pc' := 5) 0 rfl dX9_image_4 rfl rfl ?_
  refine ps_getR (pc' := 8) (r := 1) rfl dX9_image_5 fl_X9_10 ob_0 rfl rfl ?_
  refine ps_callVV (pc' := 11) (As := [.ref 1]) (rest := []) (cT := (RX0, TX0, 8)) 1 rfl dX9_image_8 cv_X0_become ml_X9_291 (by decide) rfl rfl (by decide) (Nat.le_of_ble_eq_true rfl) ob_43 rfl rfl (CA.monoV h ?_)
  intro M0 h
  refine pw_aload_n (pc' := 12) 0 rfl dX9_image_11 rfl rfl ?_
  refine ps_getR (pc' := 15) (r := 72) rfl dX9_image_12 fl_X9_33 ob_0 rfl rfl ?_
  refine pw_aload_n (pc' := 16) 0 rfl dX9_image_15 rfl rfl ?_
  refine ps_getR (pc' := 19) (r := 30) rfl dX9_image_16 fl_X9_19 ob_0 rfl rfl ?_
  refine ps_callVV (pc' := 22) (As := [.ref 30]) (rest := []) (cT := (RX5, TX5, 10)) 1 rfl dX9_image_19 cv_X5_become ml_X9_294 (by decide) rfl rfl (by decide) (Nat.le_of_ble_eq_true rfl) ob_72 rfl rfl (CA.monoV h ?_)
  intro M1 h
  refine pw_aload_n (pc' := 23) 0 rfl dX9_image_22 rfl rfl ?_
  refine ps_getR (pc' := 26) (r := 79) rfl dX9_image_23 fl_X9_36 ob_0 rfl rfl ?_
  refine pw_aload_n (pc' := 27) 0 rfl dX9_image_26 rfl rfl ?_
  refine ps_getR (pc' := 30) (r := 37) rfl dX9_image_27 fl_X9_26 ob_0 rfl rfl ?_
  refine ps_callVV (pc' := 33) (As := [.ref 37]) (rest := []) (cT := (RX6, TX6, 11)) 1 rfl dX9_image_30 cv_X6_become ml_X9_297 (by decide) rfl rfl (by decide) (Nat.le_of_ble_eq_true rfl) ob_79 rfl rfl (CA.monoV h ?_)
  intro M2 h
  refine pw_aload_n (pc' := 34) 0 rfl dX9_image_33 rfl rfl ?_
  refine pw_iconst (pc' := 35) rfl dX9_image_34 ci_1 ?_
  refine ps_putZ (pc' := 38) rfl dX9_image_35 fl_X9_300 ob_0 rfl (by decide) ?_
  refine pw_iconst (pc' := 39) rfl dX9_image_38 ci_1 ?_
  exact ps_iret dX9_image_39 rfl h
theorem T_X9_restore {M : Mem}  {Q : Int32 → Mem → Prop}  (h : ((¬ (M 0 6) = 0) → (C_X0_become_1_43 M (fun M1 => C_X5_become_30_72 M1 (fun M2 => C_X6_become_37_79 M2 (fun M3 => C_X9_doorsChanged M3 (fun M4 => Q (nI 1) M4)))))) ∧ (((M 0 6) = 0) → (Q (-4) M))) : C_X9_restore M  Q := by
  refine CA_of rfl (Nat.le_of_ble_eq_true rfl) ?_
  show PS _ _ 0 [(0, .ref 0)] [] M _
  refine pw_aload_n (pc' := 1) 0 rfl dX9_restore_0 rfl rfl ?_
  refine ps_getI (pc' := 4) (v := (M 0 6)) rfl dX9_restore_1 fl_X9_300 ob_0 rfl rfl ?_
  refine pw_if_ne (pc' := 7) (tgt := 10) rfl dX9_restore_4 (by decide) (fun q0 => ?_) (fun q0 => ?_)
  · have h := h.1 q0
    refine pw_aload_n (pc' := 11) 0 rfl dX9_restore_10 rfl rfl ?_
    refine ps_getR (pc' := 14) (r := 1) rfl dX9_restore_11 fl_X9_10 ob_0 rfl rfl ?_
    refine pw_aload_n (pc' := 15) 0 rfl dX9_restore_14 rfl rfl ?_
    refine ps_getR (pc' := 18) (r := 43) rfl dX9_restore_15 fl_X9_30 ob_0 rfl rfl ?_
    refine ps_callVV (pc' := 21) (As := [.ref 43]) (rest := []) (cT := (RX0, TX0, 8)) 1 rfl dX9_restore_18 cv_X0_become ml_X9_291 (by decide) rfl rfl (by decide) (Nat.le_of_ble_eq_true rfl) ob_1 rfl rfl (CA.monoV h ?_)
    intro M1 h
    refine pw_aload_n (pc' := 22) 0 rfl dX9_restore_21 rfl rfl ?_
    refine ps_getR (pc' := 25) (r := 30) rfl dX9_restore_22 fl_X9_19 ob_0 rfl rfl ?_
    refine pw_aload_n (pc' := 26) 0 rfl dX9_restore_25 rfl rfl ?_
    refine ps_getR (pc' := 29) (r := 72) rfl dX9_restore_26 fl_X9_33 ob_0 rfl rfl ?_
    refine ps_callVV (pc' := 32) (As := [.ref 72]) (rest := []) (cT := (RX5, TX5, 10)) 1 rfl dX9_restore_29 cv_X5_become ml_X9_294 (by decide) rfl rfl (by decide) (Nat.le_of_ble_eq_true rfl) ob_30 rfl rfl (CA.monoV h ?_)
    intro M2 h
    refine pw_aload_n (pc' := 33) 0 rfl dX9_restore_32 rfl rfl ?_
    refine ps_getR (pc' := 36) (r := 37) rfl dX9_restore_33 fl_X9_26 ob_0 rfl rfl ?_
    refine pw_aload_n (pc' := 37) 0 rfl dX9_restore_36 rfl rfl ?_
    refine ps_getR (pc' := 40) (r := 79) rfl dX9_restore_37 fl_X9_36 ob_0 rfl rfl ?_
    refine ps_callVV (pc' := 43) (As := [.ref 79]) (rest := []) (cT := (RX6, TX6, 11)) 1 rfl dX9_restore_40 cv_X6_become ml_X9_297 (by decide) rfl rfl (by decide) (Nat.le_of_ble_eq_true rfl) ob_37 rfl rfl (CA.monoV h ?_)
    intro M3 h
    refine pw_aload_n (pc' := 44) 0 rfl dX9_restore_43 rfl rfl ?_
    refine ps_callVV (pc' := 47) (As := []) (rest := []) (cT := (RX9, TX9, 14)) 0 rfl dX9_restore_44 cv_X9_doorsChanged ml_X9_93 (by decide) rfl rfl (by decide) (Nat.le_of_ble_eq_true rfl) ob_0 rfl rfl (CA.monoV h ?_)
    intro M4 h
    refine pw_iconst (pc' := 48) rfl dX9_restore_47 ci_1 ?_
    exact ps_iret dX9_restore_48 rfl h
  · have h := h.2 q0
    refine pw_bipush (pc' := 9) rfl dX9_restore_7 cb_m4 ?_
    exact ps_iret dX9_restore_9 rfl h
