theorem T_X10_room {M : Mem}  {Q : Int32 → Mem → Prop}  (h : ((¬ (M 182 0) = (nI 10)) → (Q (((M 182 0) + (nI 1)) - (nI 1)) (wr (wr M 182 0 ((M 182 0) + (nI 1))) 182 13 (nI 0)))) ∧ (((M 182 0) = (nI 10)) → (Q (-3) M))) : C_X10_room M  Q := by
  refine CA_of rfl (Nat.le_of_ble_eq_true rfl) ?_
  show PS _ _ 0 [(0, .ref 182)] [] M _
  refine pw_aload_n (pc' := 1) 0 rfl dX10_room_0 rfl rfl ?_
  refine ps_getI (pc' := 4) (v := (M 182 0)) rfl dX10_room_1 fl_X10_95 ob_182 rfl rfl ?_
  refine pw_bipush (pc' := 6) rfl dX10_room_4 cb_10 ?_
  refine pw_icmp_ne (pc' := 9) (tgt := 12) rfl dX10_room_6 (by decide) (fun q0 => ?_) (fun q0 => ?_)
  · have h := h.1 q0
    refine pw_aload_n (pc' := 13) 0 rfl dX10_room_12 rfl rfl ?_
    refine pw_dup (pc' := 14) rfl dX10_room_13 rfl ?_
    refine ps_getI (pc' := 17) (v := (M 182 0)) rfl dX10_room_14 fl_X10_95 ob_182 rfl rfl ?_
    refine pw_iconst (pc' := 18) rfl dX10_room_17 ci_1 ?_
    refine pw_iadd (pc' := 19) rfl dX10_room_18 ?_
    refine ps_putI (pc' := 22) rfl dX10_room_19 fl_X10_95 ob_182 rfl ?_
    refine pw_aload_n (pc' := 23) 0 rfl dX10_room_22 rfl rfl ?_
    refine pw_iconst (pc' := 24) rfl dX10_room_23 ci_0 ?_
    refine ps_putZ (pc' := 27) rfl dX10_room_24 fl_X10_104 ob_182 rfl (by decide) ?_
    refine pw_aload_n (pc' := 28) 0 rfl dX10_room_27 rfl rfl ?_
    refine ps_getI (pc' := 31) (v := ((M 182 0) + (nI 1))) rfl dX10_room_28 fl_X10_95 ob_182 rfl rfl ?_
    refine pw_iconst (pc' := 32) rfl dX10_room_31 ci_1 ?_
    refine pw_isub (pc' := 33) rfl dX10_room_32 ?_
    exact ps_iret dX10_room_33 rfl h
  · have h := h.2 q0
    refine pw_bipush (pc' := 11) rfl dX10_room_9 cb_m3 ?_
    exact ps_iret dX10_room_11 rfl h
theorem T_X10_door {M : Mem} {a1 : Int32} {a2 : Int32} {a3 : Int32} {Q : Int32 → Mem → Prop}  (h : C_X10_isRoom M a1 (fun r0 M0 => ((r0 = 0) → (Q (-1) M0)) ∧ ((¬ r0 = 0) → (C_X10_isRoom M0 a2 (fun r2 M2 => ((r2 = 0) → (Q (-1) M2)) ∧ ((¬ r2 = 0) → (((a1 = a2) → (Q (-1) M2)) ∧ ((¬ a1 = a2) → (C_X10_in M2 (a3.toInt64) (0 : Int64) (1 : Int64) (fun r5 M5 => ((¬ r5 = 0) → (vp_in (((nI 10) * a1) + a2) 100 ∧ ((((M5 183 (ix (((nI 10) * a1) + a2))) < 0) → (((¬ (M5 182 1) = (nI 16)) → (C_X10_doorIs M5 a1 a2 a3 (fun M10 => Q ((M10 182 1) + (nI 1)) (wr M10 182 1 ((M10 182 1) + (nI 1)))))) ∧ (((M5 182 1) = (nI 16)) → (Q (-3) M5)))) ∧ ((¬ (M5 183 (ix (((nI 10) * a1) + a2))) < 0) → (Q (-2) M5))))) ∧ ((r5 = 0) → (Q (-1) M5)))))))))))) : C_X10_door M a1 a2 a3 Q := by
  refine CA_of rfl (Nat.le_of_ble_eq_true rfl) ?_
  show PS _ _ 0 [(0, .ref 182), (1, .int a1), (2, .int a2), (3, .int a3)] [] M _
  refine pw_aload_n (pc' := 1) 0 rfl dX10_door_0 rfl rfl ?_
  refine pw_iload_n (pc' := 2) 1 rfl dX10_door_1 rfl rfl ?_
  refine ps_callVI (pc' := 5) (As := [.int a1]) (rest := []) (cT := (RX10, TX10, 44)) 1 rfl dX10_door_2 cv_X10_isRoom ml_X10_108 (by decide) rfl rfl (by decide) (Nat.le_of_ble_eq_true rfl) ob_182 rfl rfl (CA.monoI h ?_)
  intro r0 M0 h
  refine pw_if_eq (pc' := 8) (tgt := 31) rfl dX10_door_5 (by decide) (fun q1 => ?_) (fun q1 => ?_)
  · have h := h.1 q1
    refine pw_iconst (pc' := 32) rfl dX10_door_31 ci_m1 ?_
    exact ps_iret dX10_door_32 rfl h
  · have h := h.2 q1
    refine pw_aload_n (pc' := 9) 0 rfl dX10_door_8 rfl rfl ?_
    refine pw_iload_n (pc' := 10) 2 rfl dX10_door_9 rfl rfl ?_
    refine ps_callVI (pc' := 13) (As := [.int a2]) (rest := []) (cT := (RX10, TX10, 44)) 1 rfl dX10_door_10 cv_X10_isRoom ml_X10_108 (by decide) rfl rfl (by decide) (Nat.le_of_ble_eq_true rfl) ob_182 rfl rfl (CA.monoI h ?_)
    intro r2 M2 h
    refine pw_if_eq (pc' := 16) (tgt := 31) rfl dX10_door_13 (by decide) (fun q3 => ?_) (fun q3 => ?_)
    · have h := h.1 q3
      refine pw_iconst (pc' := 32) rfl dX10_door_31 ci_m1 ?_
      exact ps_iret dX10_door_32 rfl h
    · have h := h.2 q3
      refine pw_iload_n (pc' := 17) 1 rfl dX10_door_16 rfl rfl ?_
      refine pw_iload_n (pc' := 18) 2 rfl dX10_door_17 rfl rfl ?_
      refine pw_icmp_eq (pc' := 21) (tgt := 31) rfl dX10_door_18 (by decide) (fun q4 => ?_) (fun q4 => ?_)
      · have h := h.1 q4
        refine pw_iconst (pc' := 32) rfl dX10_door_31 ci_m1 ?_
        exact ps_iret dX10_door_32 rfl h
      · have h := h.2 q4
        refine pw_iload_n (pc' := 22) 3 rfl dX10_door_21 rfl rfl ?_
        refine pw_i2l (pc' := 23) rfl dX10_door_22 rfl ?_
        refine pw_lconst (pc' := 24) rfl dX10_door_23 rfl ?_
        refine pw_lconst (pc' := 25) rfl dX10_door_24 rfl ?_
        refine ps_callSI (pc' := 28) (As := [.long (a3.toInt64), .long (0 : Int64), .long (1 : Int64)]) (rest := []) 3 rfl dX10_door_25 cs_X10_in ml_X10_98 (by decide) rfl rfl (by decide) (Nat.le_of_ble_eq_true rfl) (CA.monoI h ?_)
        intro r5 M5 h
        refine pw_if_ne (pc' := 31) (tgt := 33) rfl dX10_door_28 (by decide) (fun q6 => ?_) (fun q6 => ?_)
        · have h := h.1 q6
          refine pw_aload_n (pc' := 34) 0 rfl dX10_door_33 rfl rfl ?_
          refine ps_getR (pc' := 37) (r := 183) rfl dX10_door_34 fl_X10_7 ob_182 rfl rfl ?_
          refine pw_bipush (pc' := 39) rfl dX10_door_37 cb_10 ?_
          refine pw_iload_n (pc' := 40) 1 rfl dX10_door_39 rfl rfl ?_
          refine pw_imul (pc' := 41) rfl dX10_door_40 ?_
          refine pw_iload_n (pc' := 42) 2 rfl dX10_door_41 rfl rfl ?_
          refine pw_iadd (pc' := 43) rfl dX10_door_42 ?_
          obtain ⟨b7, h⟩ := h
          refine ps_iald (pc' := 44) (v := (M5 183 (ix (((nI 10) * a1) + a2)))) rfl dX10_door_43 ia_183 b7 rfl ?_
          refine pw_if_lt (pc' := 47) (tgt := 50) rfl dX10_door_44 (by decide) (fun q8 => ?_) (fun q8 => ?_)
          · have h := h.1 q8
            refine pw_aload_n (pc' := 51) 0 rfl dX10_door_50 rfl rfl ?_
            refine ps_getI (pc' := 54) (v := (M5 182 1)) rfl dX10_door_51 fl_X10_112 ob_182 rfl rfl ?_
            refine pw_bipush (pc' := 56) rfl dX10_door_54 cb_16 ?_
            refine pw_icmp_ne (pc' := 59) (tgt := 62) rfl dX10_door_56 (by decide) (fun q9 => ?_) (fun q9 => ?_)
            · have h := h.1 q9
              refine pw_aload_n (pc' := 63) 0 rfl dX10_door_62 rfl rfl ?_
              refine pw_iload_n (pc' := 64) 1 rfl dX10_door_63 rfl rfl ?_
              refine pw_iload_n (pc' := 65) 2 rfl dX10_door_64 rfl rfl ?_
              refine pw_iload_n (pc' := 66) 3 rfl dX10_door_65 rfl rfl ?_
              refine ps_callVV (pc' := 69) (As := [.int a1, .int a2, .int a3]) (rest := []) (cT := (RX10, TX10, 44)) 3 rfl dX10_door_66 cv_X10_doorIs ml_X10_115 (by decide) rfl rfl (by decide) (Nat.le_of_ble_eq_true rfl) ob_182 rfl rfl (CA.monoV h ?_)
              intro M10 h
              refine pw_aload_n (pc' := 70) 0 rfl dX10_door_69 rfl rfl ?_
              refine pw_dup (pc' := 71) rfl dX10_door_70 rfl ?_
              refine ps_getI (pc' := 74) (v := (M10 182 1)) rfl dX10_door_71 fl_X10_112 ob_182 rfl rfl ?_
              refine pw_iconst (pc' := 75) rfl dX10_door_74 ci_1 ?_
              refine pw_iadd (pc' := 76) rfl dX10_door_75 ?_
              refine ps_putI (pc' := 79) rfl dX10_door_76 fl_X10_112 ob_182 rfl ?_
              refine pw_aload_n (pc' := 80) 0 rfl dX10_door_79 rfl rfl ?_
              refine ps_getI (pc' := 83) (v := ((M10 182 1) + (nI 1))) rfl dX10_door_80 fl_X10_112 ob_182 rfl rfl ?_
              exact ps_iret dX10_door_83 rfl h
            · have h := h.2 q9
              refine pw_bipush (pc' := 61) rfl dX10_door_59 cb_m3 ?_
              exact ps_iret dX10_door_61 rfl h
          · have h := h.2 q8
            refine pw_bipush (pc' := 49) rfl dX10_door_47 cb_m2 ?_
            exact ps_iret dX10_door_49 rfl h
        · have h := h.2 q6
          refine pw_iconst (pc' := 32) rfl dX10_door_31 ci_m1 ?_
          exact ps_iret dX10_door_32 rfl h
theorem T_X10_isRoom {M : Mem} {a1 : Int32} {Q : Int32 → Mem → Prop}  (h : C_X10_in M (a1.toInt64) (0 : Int64) (((M 182 0) - (nI 1)).toInt64) (fun r0 M0 => (r0 = 0 ∨ r0 = 1) ∧ Q r0 M0)) : C_X10_isRoom M a1 Q := by
  refine CA_of rfl (Nat.le_of_ble_eq_true rfl) ?_
  show PS _ _ 0 [(0, .ref 182), (1, .int a1)] [] M _
  refine pw_iload_n (pc' := 1) 1 rfl dX10_isRoom_0 rfl rfl ?_
  refine pw_i2l (pc' := 2) rfl dX10_isRoom_1 rfl ?_
  refine pw_lconst (pc' := 3) rfl dX10_isRoom_2 rfl ?_
  refine pw_aload_n (pc' := 4) 0 rfl dX10_isRoom_3 rfl rfl ?_
  refine ps_getI (pc' := 7) (v := (M 182 0)) rfl dX10_isRoom_4 fl_X10_95 ob_182 rfl rfl ?_
  refine pw_iconst (pc' := 8) rfl dX10_isRoom_7 ci_1 ?_
  refine pw_isub (pc' := 9) rfl dX10_isRoom_8 ?_
  refine pw_i2l (pc' := 10) rfl dX10_isRoom_9 rfl ?_
  refine ps_callSI (pc' := 13) (As := [.long (a1.toInt64), .long (0 : Int64), .long (((M 182 0) - (nI 1)).toInt64)]) (rest := []) 3 rfl dX10_isRoom_10 cs_X10_in ml_X10_98 (by decide) rfl rfl (by decide) (Nat.le_of_ble_eq_true rfl) (CA.monoI h ?_)
  intro r0 M0 h
  exact ps_zret dX10_isRoom_13 rfl h.1 h.2
theorem T_X10_in {M : Mem} {a0 : Int64} {a2 : Int64} {a4 : Int64} {Q : Int32 → Mem → Prop}  (h : (((lg_cmp a0 a2) < 0) → (Q (nI 0) M)) ∧ ((¬ (lg_cmp a0 a2) < 0) → (((0 < (lg_cmp a0 a4)) → (Q (nI 0) M)) ∧ ((¬ 0 < (lg_cmp a0 a4)) → (Q (nI 1) M))))) : C_X10_in M a0 a2 a4 Q := by
  refine CA_of rfl (Nat.le_of_ble_eq_true rfl) ?_
  show PS _ _ 0 [(0, .long a0), (2, .long a2), (4, .long a4)] [] M _
  refine pw_lload_n (pc' := 1) 0 rfl dX10_in_0 rfl rfl ?_
  refine pw_lload_n (pc' := 2) 1 rfl dX10_in_1 rfl rfl ?_
  refine pw_lcmp (pc' := 3) rfl dX10_in_2 ?_
  refine pw_if_lt (pc' := 6) (tgt := 17) rfl dX10_in_3 (by decide) (fun q0 => ?_) (fun q0 => ?_)
  · have h := h.1 q0
    refine pw_iconst (pc' := 18) rfl dX10_in_17 ci_0 ?_
    exact ps_zret dX10_in_18 rfl (by decide) h
  · have h := h.2 q0
    refine pw_lload_n (pc' := 7) 0 rfl dX10_in_6 rfl rfl ?_
    refine pw_lload (pc' := 9) 2 rfl dX10_in_7 rfl ?_
    refine pw_lcmp (pc' := 10) rfl dX10_in_9 ?_
    refine pw_if_gt (pc' := 13) (tgt := 17) rfl dX10_in_10 (by decide) (fun q1 => ?_) (fun q1 => ?_)
    · have h := h.1 q1
      refine pw_iconst (pc' := 18) rfl dX10_in_17 ci_0 ?_
      exact ps_zret dX10_in_18 rfl (by decide) h
    · have h := h.2 q1
      refine pw_iconst (pc' := 14) rfl dX10_in_13 ci_1 ?_
      refine pw_goto (tgt := 18) dX10_in_14 (by decide) ?_
      exact ps_zret dX10_in_18 rfl (by decide) h
theorem T_X10_doorIs {M : Mem} {a1 : Int32} {a2 : Int32} {a3 : Int32} {Q : Mem → Prop}  (h : vp_in (((nI 10) * a1) + a2) 100 ∧ (vp_in (((nI 10) * a2) + a1) 100 ∧ (Q (wr (wr (wr M 183 (ix (((nI 10) * a1) + a2)) a3) 183 (ix (((nI 10) * a2) + a1)) a3) 182 13 (nI 0))))) : C_X10_doorIs M a1 a2 a3 Q := by
  refine CA_of rfl (Nat.le_of_ble_eq_true rfl) ?_
  show PS _ _ 0 [(0, .ref 182), (1, .int a1), (2, .int a2), (3, .int a3)] [] M _
  refine pw_aload_n (pc' := 1) 0 rfl dX10_doorIs_0 rfl rfl ?_
  refine ps_getR (pc' := 4) (r := 183) rfl dX10_doorIs_1 fl_X10_7 ob_182 rfl rfl ?_
  refine pw_bipush (pc' := 6) rfl dX10_doorIs_4 cb_10 ?_
  refine pw_iload_n (pc' := 7) 1 rfl dX10_doorIs_6 rfl rfl ?_
  refine pw_imul (pc' := 8) rfl dX10_doorIs_7 ?_
  refine pw_iload_n (pc' := 9) 2 rfl dX10_doorIs_8 rfl rfl ?_
  refine pw_iadd (pc' := 10) rfl dX10_doorIs_9 ?_
  refine pw_iload_n (pc' := 11) 3 rfl dX10_doorIs_10 rfl rfl ?_
  obtain ⟨b0, h⟩ := h
  refine ps_iast (pc' := 12) rfl dX10_doorIs_11 ia_183 b0 ?_
  refine pw_aload_n (pc' := 13) 0 rfl dX10_doorIs_12 rfl rfl ?_
  refine ps_getR (pc' := 16) (r := 183) rfl dX10_doorIs_13 fl_X10_7 ob_182 rfl rfl ?_
  refine pw_bipush (pc' := 18) rfl dX10_doorIs_16 cb_10 ?_
  refine pw_iload_n (pc' := 19) 2 rfl dX10_doorIs_18 rfl rfl ?_
  refine pw_imul (pc' := 20) rfl dX10_doorIs_19 ?_
  refine pw_iload_n (pc' := 21) 1 rfl dX10_doorIs_20 rfl rfl ?_
  refine pw_iadd (pc' := 22) rfl dX10_doorIs_21 ?_
  refine pw_iload_n (pc' := 23) 3 rfl dX10_doorIs_22 rfl rfl ?_
  obtain ⟨b1, h⟩ := h
  refine ps_iast (pc' := 24) rfl dX10_doorIs_23 ia_183 b1 ?_
  refine pw_aload_n (pc' := 25) 0 rfl dX10_doorIs_24 rfl rfl ?_
  refine pw_iconst (pc' := 26) rfl dX10_doorIs_25 ci_0 ?_
  refine ps_putZ (pc' := 29) rfl dX10_doorIs_26 fl_X10_104 ob_182 rfl (by decide) ?_
  exact ps_vret dX10_doorIs_29 rfl h
theorem T_X10_wall {M : Mem} {a1 : Int32} {a2 : Int32} {Q : Int32 → Mem → Prop}  (h : C_X10_isRoom M a1 (fun r0 M0 => ((r0 = 0) → (Q (-1) M0)) ∧ ((¬ r0 = 0) → (C_X10_isRoom M0 a2 (fun r2 M2 => ((r2 = 0) → (Q (-1) M2)) ∧ ((¬ r2 = 0) → (((¬ a1 = a2) → (vp_in (((nI 10) * a1) + a2) 100 ∧ (((0 ≤ (M2 183 (ix (((nI 10) * a1) + a2)))) → (C_X10_isWalked M2 a1 a2 (fun r7 M7 => ((r7 = 0) → (C_X10_doorIs M7 a1 a2 (-4) (fun M9 => Q (M2 183 (ix (((nI 10) * a1) + a2))) (wr M9 182 1 ((M9 182 1) - (nI 1)))))) ∧ ((¬ r7 = 0) → (Q (-2) M7))))) ∧ ((¬ 0 ≤ (M2 183 (ix (((nI 10) * a1) + a2)))) → (Q (-4) M2))))) ∧ ((a1 = a2) → (Q (-1) M2))))))))) : C_X10_wall M a1 a2 Q := by
  refine CA_of rfl (Nat.le_of_ble_eq_true rfl) ?_
  show PS _ _ 0 [(0, .ref 182), (1, .int a1), (2, .int a2)] [] M _
  refine pw_aload_n (pc' := 1) 0 rfl dX10_wall_0 rfl rfl ?_
  refine pw_iload_n (pc' := 2) 1 rfl dX10_wall_1 rfl rfl ?_
  refine ps_callVI (pc' := 5) (As := [.int a1]) (rest := []) (cT := (RX10, TX10, 44)) 1 rfl dX10_wall_2 cv_X10_isRoom ml_X10_108 (by decide) rfl rfl (by decide) (Nat.le_of_ble_eq_true rfl) ob_182 rfl rfl (CA.monoI h ?_)
  intro r0 M0 h
  refine pw_if_eq (pc' := 8) (tgt := 21) rfl dX10_wall_5 (by decide) (fun q1 => ?_) (fun q1 => ?_)
  · have h := h.1 q1
    refine pw_iconst (pc' := 22) rfl dX10_wall_21 ci_m1 ?_
    exact ps_iret dX10_wall_22 rfl h
  · have h := h.2 q1
    refine pw_aload_n (pc' := 9) 0 rfl dX10_wall_8 rfl rfl ?_
    refine pw_iload_n (pc' := 10) 2 rfl dX10_wall_9 rfl rfl ?_
    refine ps_callVI (pc' := 13) (As := [.int a2]) (rest := []) (cT := (RX10, TX10, 44)) 1 rfl dX10_wall_10 cv_X10_isRoom ml_X10_108 (by decide) rfl rfl (by decide) (Nat.le_of_ble_eq_true rfl) ob_182 rfl rfl (CA.monoI h ?_)
    intro r2 M2 h
    refine pw_if_eq (pc' := 16) (tgt := 21) rfl dX10_wall_13 (by decide) (fun q3 => ?_) (fun q3 => ?_)
    · have h := h.1 q3
      refine pw_iconst (pc' := 22) rfl dX10_wall_21 ci_m1 ?_
      exact ps_iret dX10_wall_22 rfl h
    · have h := h.2 q3
      refine pw_iload_n (pc' := 17) 1 rfl dX10_wall_16 rfl rfl ?_
      refine pw_iload_n (pc' := 18) 2 rfl dX10_wall_17 rfl rfl ?_
      refine pw_icmp_ne (pc' := 21) (tgt := 23) rfl dX10_wall_18 (by decide) (fun q4 => ?_) (fun q4 => ?_)
      · have h := h.1 q4
        refine pw_aload_n (pc' := 24) 0 rfl dX10_wall_23 rfl rfl ?_
        refine ps_getR (pc' := 27) (r := 183) rfl dX10_wall_24 fl_X10_7 ob_182 rfl rfl ?_
        refine pw_bipush (pc' := 29) rfl dX10_wall_27 cb_10 ?_
        refine pw_iload_n (pc' := 30) 1 rfl dX10_wall_29 rfl rfl ?_
        refine pw_imul (pc' := 31) rfl dX10_wall_30 ?_
        refine pw_iload_n (pc' := 32) 2 rfl dX10_wall_31 rfl rfl ?_
        refine pw_iadd (pc' := 33) rfl dX10_wall_32 ?_
        obtain ⟨b5, h⟩ := h
        refine ps_iald (pc' := 34) (v := (M2 183 (ix (((nI 10) * a1) + a2)))) rfl dX10_wall_33 ia_183 b5 rfl ?_
        refine pw_istore_n (pc' := 35) (lv' := [(0, .ref 182), (1, .int a1), (2, .int a2), (3, .int (M2 183 (ix (((nI 10) * a1) + a2))))]) [1, 2, 3, 0] rfl dX10_wall_34 rfl (by decide) rfl ?_
        refine pw_iload_n (pc' := 36) 3 rfl dX10_wall_35 rfl rfl ?_
        refine pw_if_ge (pc' := 39) (tgt := 42) rfl dX10_wall_36 (by decide) (fun q6 => ?_) (fun q6 => ?_)
        · have h := h.1 q6
          refine pw_aload_n (pc' := 43) 0 rfl dX10_wall_42 rfl rfl ?_
          refine pw_iload_n (pc' := 44) 1 rfl dX10_wall_43 rfl rfl ?_
          refine pw_iload_n (pc' := 45) 2 rfl dX10_wall_44 rfl rfl ?_
          refine ps_callVI (pc' := 48) (As := [.int a1, .int a2]) (rest := []) (cT := (RX10, TX10, 44)) 2 rfl dX10_wall_45 cv_X10_isWalked ml_X10_122 (by decide) rfl rfl (by decide) (Nat.le_of_ble_eq_true rfl) ob_182 rfl rfl (CA.monoI h ?_)
          intro r7 M7 h
          refine pw_if_eq (pc' := 51) (tgt := 54) rfl dX10_wall_48 (by decide) (fun q8 => ?_) (fun q8 => ?_)
          · have h := h.1 q8
            refine pw_aload_n (pc' := 55) 0 rfl dX10_wall_54 rfl rfl ?_
            refine pw_iload_n (pc' := 56) 1 rfl dX10_wall_55 rfl rfl ?_
            refine pw_iload_n (pc' := 57) 2 rfl dX10_wall_56 rfl rfl ?_
            refine pw_bipush (pc' := 59) rfl dX10_wall_57 cb_m4 ?_
            refine ps_callVV (pc' := 62) (As := [.int a1, .int a2, .int (-4)]) (rest := []) (cT := (RX10, TX10, 44)) 3 rfl dX10_wall_59 cv_X10_doorIs ml_X10_115 (by decide) rfl rfl (by decide) (Nat.le_of_ble_eq_true rfl) ob_182 rfl rfl (CA.monoV h ?_)
            intro M9 h
            refine pw_aload_n (pc' := 63) 0 rfl dX10_wall_62 rfl rfl ?_
            refine pw_dup (pc' := 64) rfl dX10_wall_63 rfl ?_
            refine ps_getI (pc' := 67) (v := (M9 182 1)) rfl dX10_wall_64 fl_X10_112 ob_182 rfl rfl ?_
            refine pw_iconst (pc' := 68) rfl dX10_wall_67 ci_1 ?_
            refine pw_isub (pc' := 69) rfl dX10_wall_68 ?_
            refine ps_putI (pc' := 72) rfl dX10_wall_69 fl_X10_112 ob_182 rfl ?_
            refine pw_iload_n (pc' := 73) 3 rfl dX10_wall_72 rfl rfl ?_
            exact ps_iret dX10_wall_73 rfl h
          · have h := h.2 q8
            refine pw_bipush (pc' := 53) rfl dX10_wall_51 cb_m2 ?_
            exact ps_iret dX10_wall_53 rfl h
        · have h := h.2 q6
          refine pw_bipush (pc' := 41) rfl dX10_wall_39 cb_m4 ?_
          exact ps_iret dX10_wall_41 rfl h
      · have h := h.2 q4
        refine pw_iconst (pc' := 22) rfl dX10_wall_21 ci_m1 ?_
        exact ps_iret dX10_wall_22 rfl h
theorem T_X10_isWalked {M : Mem} {a1 : Int32} {a2 : Int32} {Q : Int32 → Mem → Prop}  (h : P_X10_isWalked_5 M a1 a2 (nI 0) (nI 0) Q) : C_X10_isWalked M a1 a2 Q := by
  refine CA_of rfl (Nat.le_of_ble_eq_true rfl) ?_
  show PS _ _ 0 [(0, .ref 182), (1, .int a1), (2, .int a2)] [] M _
  refine pw_iconst (pc' := 1) rfl dX10_isWalked_0 ci_0 ?_
  refine pw_istore_n (pc' := 2) (lv' := [(0, .ref 182), (1, .int a1), (2, .int a2), (3, .int (nI 0))]) [1, 2, 3, 0] rfl dX10_isWalked_1 rfl (by decide) rfl ?_
  refine pw_iconst (pc' := 3) rfl dX10_isWalked_2 ci_0 ?_
  refine pw_istore (pc' := 5) (lv' := [(0, .ref 182), (1, .int a1), (2, .int a2), (3, .int (nI 0)), (4, .int (nI 0))]) [1, 2, 3, 4, 0] rfl dX10_isWalked_3 (by decide) rfl ?_
  exact pw_sub [0, 1, 2, 3, 4] rfl h
theorem T_X10_isWalked_5 {M : Mem} {a1 : Int32} {a2 : Int32} {a3 : Int32} {a4 : Int32} {Q : Int32 → Mem → Prop}  (h : (((M 182 3) ≤ a4) → ((a3 = 0 ∨ a3 = 1) ∧ Q a3 M)) ∧ ((¬ (M 182 3) ≤ a4) → (P_X10_isWalked_17 M a1 a2 a3 a4 (nI 0) Q))) : P_X10_isWalked_5 M a1 a2 a3 a4 Q := by
  refine pw_iload (pc' := 7) 4 rfl dX10_isWalked_5 rfl ?_
  refine pw_aload_n (pc' := 8) 0 rfl dX10_isWalked_7 rfl rfl ?_
  refine ps_getI (pc' := 11) (v := (M 182 3)) rfl dX10_isWalked_8 fl_X10_119 ob_182 rfl rfl ?_
  refine pw_icmp_ge (pc' := 14) (tgt := 102) rfl dX10_isWalked_11 (by decide) (fun q0 => ?_) (fun q0 => ?_)
  · have h := h.1 q0
    refine pw_iload_n (pc' := 103) 3 rfl dX10_isWalked_102 rfl rfl ?_
    exact ps_zret dX10_isWalked_103 rfl h.1 h.2
  · have h := h.2 q0
    refine pw_iconst (pc' := 15) rfl dX10_isWalked_14 ci_0 ?_
    refine pw_istore (pc' := 17) (lv' := [(0, .ref 182), (1, .int a1), (2, .int a2), (3, .int a3), (4, .int a4), (5, .int (nI 0))]) [1, 2, 3, 4, 5, 0] rfl dX10_isWalked_15 (by decide) rfl ?_
    exact pw_sub [0, 1, 2, 3, 4, 5] rfl h
theorem T_X10_isWalked_17 {M : Mem} {a1 : Int32} {a2 : Int32} {a3 : Int32} {a4 : Int32} {a5 : Int32} {Q : Int32 → Mem → Prop}  (h : (((nI 23) ≤ a5) → (P_X10_isWalked_5 M a1 a2 a3 (a4 + (nI 1)) Q)) ∧ ((¬ (nI 23) ≤ a5) → (vp_in (((nI 24) * a4) + a5) 72 ∧ (vp_in ((((nI 24) * a4) + a5) + (nI 1)) 72 ∧ (((¬ a3 = 0) → (P_X10_isWalked_17 M a1 a2 (nI 1) a4 (a5 + (nI 1)) Q)) ∧ ((a3 = 0) → (((¬ (M 184 (ix (((nI 24) * a4) + a5))) = a1) → (((¬ (M 184 (ix (((nI 24) * a4) + a5))) = a2) → (P_X10_isWalked_17 M a1 a2 (nI 0) a4 (a5 + (nI 1)) Q)) ∧ (((M 184 (ix (((nI 24) * a4) + a5))) = a2) → (((¬ (M 184 (ix ((((nI 24) * a4) + a5) + (nI 1)))) = a1) → (P_X10_isWalked_17 M a1 a2 (nI 0) a4 (a5 + (nI 1)) Q)) ∧ (((M 184 (ix ((((nI 24) * a4) + a5) + (nI 1)))) = a1) → (P_X10_isWalked_17 M a1 a2 (nI 1) a4 (a5 + (nI 1)) Q)))))) ∧ (((M 184 (ix (((nI 24) * a4) + a5))) = a1) → ((((M 184 (ix ((((nI 24) * a4) + a5) + (nI 1)))) = a2) → (P_X10_isWalked_17 M a1 a2 (nI 1) a4 (a5 + (nI 1)) Q)) ∧ ((¬ (M 184 (ix ((((nI 24) * a4) + a5) + (nI 1)))) = a2) → (((¬ (M 184 (ix (((nI 24) * a4) + a5))) = a2) → (P_X10_isWalked_17 M a1 a2 (nI 0) a4 (a5 + (nI 1)) Q)) ∧ (((M 184 (ix (((nI 24) * a4) + a5))) = a2) → (((¬ (M 184 (ix ((((nI 24) * a4) + a5) + (nI 1)))) = a1) → (P_X10_isWalked_17 M a1 a2 (nI 0) a4 (a5 + (nI 1)) Q)) ∧ (((M 184 (ix ((((nI 24) * a4) + a5) + (nI 1)))) = a1) → (P_X10_isWalked_17 M a1 a2 (nI 1) a4 (a5 + (nI 1)) Q))))))))))))))) : P_X10_isWalked_17 M a1 a2 a3 a4 a5 Q := by
  refine pw_iload (pc' := 19) 5 rfl dX10_isWalked_17 rfl ?_
  refine pw_bipush (pc' := 21) rfl dX10_isWalked_19 cb_23 ?_
  refine pw_icmp_ge (pc' := 24) (tgt := 96) rfl dX10_isWalked_21 (by decide) (fun q0 => ?_) (fun q0 => ?_)
  · have h := h.1 q0
    refine pw_iinc (pc' := 99) (lv' := [(0, .ref 182), (1, .int a1), (2, .int a2), (3, .int a3), (4, .int (a4 + (nI 1))), (5, .int a5)]) 4 [1, 2, 3, 4, 0, 5] rfl dX10_isWalked_96 rfl (ii_1 _) (by decide) rfl ?_
    refine pw_goto (tgt := 5) dX10_isWalked_99 (by decide) ?_
    exact pw_sub [0, 1, 2, 3, 4] rfl h
  · have h := h.2 q0
    refine pw_aload_n (pc' := 25) 0 rfl dX10_isWalked_24 rfl rfl ?_
    refine ps_getR (pc' := 28) (r := 184) rfl dX10_isWalked_25 fl_X10_13 ob_182 rfl rfl ?_
    refine pw_bipush (pc' := 30) rfl dX10_isWalked_28 cb_24 ?_
    refine pw_iload (pc' := 32) 4 rfl dX10_isWalked_30 rfl ?_
    refine pw_imul (pc' := 33) rfl dX10_isWalked_32 ?_
    refine pw_iload (pc' := 35) 5 rfl dX10_isWalked_33 rfl ?_
    refine pw_iadd (pc' := 36) rfl dX10_isWalked_35 ?_
    obtain ⟨b1, h⟩ := h
    refine ps_iald (pc' := 37) (v := (M 184 (ix (((nI 24) * a4) + a5)))) rfl dX10_isWalked_36 ia_184 b1 rfl ?_
    refine pw_istore (pc' := 39) (lv' := [(0, .ref 182), (1, .int a1), (2, .int a2), (3, .int a3), (4, .int a4), (5, .int a5), (6, .int (M 184 (ix (((nI 24) * a4) + a5))))]) [1, 2, 3, 4, 5, 6, 0] rfl dX10_isWalked_37 (by decide) rfl ?_
    refine pw_aload_n (pc' := 40) 0 rfl dX10_isWalked_39 rfl rfl ?_
    refine ps_getR (pc' := 43) (r := 184) rfl dX10_isWalked_40 fl_X10_13 ob_182 rfl rfl ?_
    refine pw_bipush (pc' := 45) rfl dX10_isWalked_43 cb_24 ?_
    refine pw_iload (pc' := 47) 4 rfl dX10_isWalked_45 rfl ?_
    refine pw_imul (pc' := 48) rfl dX10_isWalked_47 ?_
    refine pw_iload (pc' := 50) 5 rfl dX10_isWalked_48 rfl ?_
    refine pw_iadd (pc' := 51) rfl dX10_isWalked_50 ?_
    refine pw_iconst (pc' := 52) rfl dX10_isWalked_51 ci_1 ?_
    refine pw_iadd (pc' := 53) rfl dX10_isWalked_52 ?_
    obtain ⟨b2, h⟩ := h
    refine ps_iald (pc' := 54) (v := (M 184 (ix ((((nI 24) * a4) + a5) + (nI 1))))) rfl dX10_isWalked_53 ia_184 b2 rfl ?_
    refine pw_istore (pc' := 56) (lv' := [(0, .ref 182), (1, .int a1), (2, .int a2), (3, .int a3), (4, .int a4), (5, .int a5), (6, .int (M 184 (ix (((nI 24) * a4) + a5)))), (7, .int (M 184 (ix ((((nI 24) * a4) + a5) + (nI 1)))))]) [1, 2, 3, 4, 5, 6, 7, 0] rfl dX10_isWalked_54 (by decide) rfl ?_
    refine pw_iload_n (pc' := 57) 3 rfl dX10_isWalked_56 rfl rfl ?_
    refine pw_if_ne (pc' := 60) (tgt := 84) rfl dX10_isWalked_57 (by decide) (fun q3 => ?_) (fun q3 => ?_)
    · have h := h.1 q3
      refine pw_iconst (pc' := 85) rfl dX10_isWalked_84 ci_1 ?_
      refine pw_goto (tgt := 89) dX10_isWalked_85 (by decide) ?_
      refine pw_istore_n (pc' := 90) (lv' := [(0, .ref 182), (1, .int a1), (2, .int a2), (3, .int (nI 1)), (4, .int a4), (5, .int a5), (6, .int (M 184 (ix (((nI 24) * a4) + a5)))), (7, .int (M 184 (ix ((((nI 24) * a4) + a5) + (nI 1)))))]) [1, 2, 3, 0, 4, 5, 6, 7] rfl dX10_isWalked_89 rfl (by decide) rfl ?_
      refine pw_iinc (pc' := 93) (lv' := [(0, .ref 182), (1, .int a1), (2, .int a2), (3, .int (nI 1)), (4, .int a4), (5, .int (a5 + (nI 1))), (6, .int (M 184 (ix (((nI 24) * a4) + a5)))), (7, .int (M 184 (ix ((((nI 24) * a4) + a5) + (nI 1)))))]) 5 [1, 2, 3, 4, 5, 0, 6, 7] rfl dX10_isWalked_90 rfl (ii_1 _) (by decide) rfl ?_
      refine pw_goto (tgt := 17) dX10_isWalked_93 (by decide) ?_
      exact pw_sub [0, 1, 2, 3, 4, 5] rfl h
    · have h := h.2 q3
      refine pw_iload (pc' := 62) 6 rfl dX10_isWalked_60 rfl ?_
      refine pw_iload_n (pc' := 63) 1 rfl dX10_isWalked_62 rfl rfl ?_
      refine pw_icmp_ne (pc' := 66) (tgt := 72) rfl dX10_isWalked_63 (by decide) (fun q4 => ?_) (fun q4 => ?_)
      · have h := h.1 q4
        refine pw_iload (pc' := 74) 6 rfl dX10_isWalked_72 rfl ?_
        refine pw_iload_n (pc' := 75) 2 rfl dX10_isWalked_74 rfl rfl ?_
        refine pw_icmp_ne (pc' := 78) (tgt := 88) rfl dX10_isWalked_75 (by decide) (fun q5 => ?_) (fun q5 => ?_)
        · have h := h.1 q5
          refine pw_iconst (pc' := 89) rfl dX10_isWalked_88 ci_0 ?_
          refine pw_istore_n (pc' := 90) (lv' := [(0, .ref 182), (1, .int a1), (2, .int a2), (3, .int (nI 0)), (4, .int a4), (5, .int a5), (6, .int (M 184 (ix (((nI 24) * a4) + a5)))), (7, .int (M 184 (ix ((((nI 24) * a4) + a5) + (nI 1)))))]) [1, 2, 3, 0, 4, 5, 6, 7] rfl dX10_isWalked_89 rfl (by decide) rfl ?_
          refine pw_iinc (pc' := 93) (lv' := [(0, .ref 182), (1, .int a1), (2, .int a2), (3, .int (nI 0)), (4, .int a4), (5, .int (a5 + (nI 1))), (6, .int (M 184 (ix (((nI 24) * a4) + a5)))), (7, .int (M 184 (ix ((((nI 24) * a4) + a5) + (nI 1)))))]) 5 [1, 2, 3, 4, 5, 0, 6, 7] rfl dX10_isWalked_90 rfl (ii_1 _) (by decide) rfl ?_
          refine pw_goto (tgt := 17) dX10_isWalked_93 (by decide) ?_
          exact pw_sub [0, 1, 2, 3, 4, 5] rfl h
        · have h := h.2 q5
          refine pw_iload (pc' := 80) 7 rfl dX10_isWalked_78 rfl ?_
          refine pw_iload_n (pc' := 81) 1 rfl dX10_isWalked_80 rfl rfl ?_
          refine pw_icmp_ne (pc' := 84) (tgt := 88) rfl dX10_isWalked_81 (by decide) (fun q6 => ?_) (fun q6 => ?_)
          · have h := h.1 q6
            refine pw_iconst (pc' := 89) rfl dX10_isWalked_88 ci_0 ?_
            refine pw_istore_n (pc' := 90) (lv' := [(0, .ref 182), (1, .int a1), (2, .int a2), (3, .int (nI 0)), (4, .int a4), (5, .int a5), (6, .int (M 184 (ix (((nI 24) * a4) + a5)))), (7, .int (M 184 (ix ((((nI 24) * a4) + a5) + (nI 1)))))]) [1, 2, 3, 0, 4, 5, 6, 7] rfl dX10_isWalked_89 rfl (by decide) rfl ?_
            refine pw_iinc (pc' := 93) (lv' := [(0, .ref 182), (1, .int a1), (2, .int a2), (3, .int (nI 0)), (4, .int a4), (5, .int (a5 + (nI 1))), (6, .int (M 184 (ix (((nI 24) * a4) + a5)))), (7, .int (M 184 (ix ((((nI 24) * a4) + a5) + (nI 1)))))]) 5 [1, 2, 3, 4, 5, 0, 6, 7] rfl dX10_isWalked_90 rfl (ii_1 _) (by decide) rfl ?_
            refine pw_goto (tgt := 17) dX10_isWalked_93 (by decide) ?_
            exact pw_sub [0, 1, 2, 3, 4, 5] rfl h
          · have h := h.2 q6
            refine pw_iconst (pc' := 85) rfl dX10_isWalked_84 ci_1 ?_
            refine pw_goto (tgt := 89) dX10_isWalked_85 (by decide) ?_
            refine pw_istore_n (pc' := 90) (lv' := [(0, .ref 182), (1, .int a1), (2, .int a2), (3, .int (nI 1)), (4, .int a4), (5, .int a5), (6, .int (M 184 (ix (((nI 24) * a4) + a5)))), (7, .int (M 184 (ix ((((nI 24) * a4) + a5) + (nI 1)))))]) [1, 2, 3, 0, 4, 5, 6, 7] rfl dX10_isWalked_89 rfl (by decide) rfl ?_
            refine pw_iinc (pc' := 93) (lv' := [(0, .ref 182), (1, .int a1), (2, .int a2), (3, .int (nI 1)), (4, .int a4), (5, .int (a5 + (nI 1))), (6, .int (M 184 (ix (((nI 24) * a4) + a5)))), (7, .int (M 184 (ix ((((nI 24) * a4) + a5) + (nI 1)))))]) 5 [1, 2, 3, 4, 5, 0, 6, 7] rfl dX10_isWalked_90 rfl (ii_1 _) (by decide) rfl ?_
            refine pw_goto (tgt := 17) dX10_isWalked_93 (by decide) ?_
            exact pw_sub [0, 1, 2, 3, 4, 5] rfl h
      · have h := h.2 q4
        refine pw_iload (pc' := 68) 7 rfl dX10_isWalked_66 rfl ?_
        refine pw_iload_n (pc' := 69) 2 rfl dX10_isWalked_68 rfl rfl ?_
        refine pw_icmp_eq (pc' := 72) (tgt := 84) rfl dX10_isWalked_69 (by decide) (fun q5 => ?_) (fun q5 => ?_)
        · have h := h.1 q5
          refine pw_iconst (pc' := 85) rfl dX10_isWalked_84 ci_1 ?_
          refine pw_goto (tgt := 89) dX10_isWalked_85 (by decide) ?_
          refine pw_istore_n (pc' := 90) (lv' := [(0, .ref 182), (1, .int a1), (2, .int a2), (3, .int (nI 1)), (4, .int a4), (5, .int a5), (6, .int (M 184 (ix (((nI 24) * a4) + a5)))), (7, .int (M 184 (ix ((((nI 24) * a4) + a5) + (nI 1)))))]) [1, 2, 3, 0, 4, 5, 6, 7] rfl dX10_isWalked_89 rfl (by decide) rfl ?_
          refine pw_iinc (pc' := 93) (lv' := [(0, .ref 182), (1, .int a1), (2, .int a2), (3, .int (nI 1)), (4, .int a4), (5, .int (a5 + (nI 1))), (6, .int (M 184 (ix (((nI 24) * a4) + a5)))), (7, .int (M 184 (ix ((((nI 24) * a4) + a5) + (nI 1)))))]) 5 [1, 2, 3, 4, 5, 0, 6, 7] rfl dX10_isWalked_90 rfl (ii_1 _) (by decide) rfl ?_
          refine pw_goto (tgt := 17) dX10_isWalked_93 (by decide) ?_
          exact pw_sub [0, 1, 2, 3, 4, 5] rfl h
        · have h := h.2 q5
          refine pw_iload (pc' := 74) 6 rfl dX10_isWalked_72 rfl ?_
          refine pw_iload_n (pc' := 75) 2 rfl dX10_isWalked_74 rfl rfl ?_
          refine pw_icmp_ne (pc' := 78) (tgt := 88) rfl dX10_isWalked_75 (by decide) (fun q6 => ?_) (fun q6 => ?_)
          · have h := h.1 q6
            refine pw_iconst (pc' := 89) rfl dX10_isWalked_88 ci_0 ?_
            refine pw_istore_n (pc' := 90) (lv' := [(0, .ref 182), (1, .int a1), (2, .int a2), (3, .int (nI 0)), (4, .int a4), (5, .int a5), (6, .int (M 184 (ix (((nI 24) * a4) + a5)))), (7, .int (M 184 (ix ((((nI 24) * a4) + a5) + (nI 1)))))]) [1, 2, 3, 0, 4, 5, 6, 7] rfl dX10_isWalked_89 rfl (by decide) rfl ?_
            refine pw_iinc (pc' := 93) (lv' := [(0, .ref 182), (1, .int a1), (2, .int a2), (3, .int (nI 0)), (4, .int a4), (5, .int (a5 + (nI 1))), (6, .int (M 184 (ix (((nI 24) * a4) + a5)))), (7, .int (M 184 (ix ((((nI 24) * a4) + a5) + (nI 1)))))]) 5 [1, 2, 3, 4, 5, 0, 6, 7] rfl dX10_isWalked_90 rfl (ii_1 _) (by decide) rfl ?_
            refine pw_goto (tgt := 17) dX10_isWalked_93 (by decide) ?_
            exact pw_sub [0, 1, 2, 3, 4, 5] rfl h
          · have h := h.2 q6
            refine pw_iload (pc' := 80) 7 rfl dX10_isWalked_78 rfl ?_
            refine pw_iload_n (pc' := 81) 1 rfl dX10_isWalked_80 rfl rfl ?_
            refine pw_icmp_ne (pc' := 84) (tgt := 88) rfl dX10_isWalked_81 (by decide) (fun q7 => ?_) (fun q7 => ?_)
            · have h := h.1 q7
              refine pw_iconst (pc' := 89) rfl dX10_isWalked_88 ci_0 ?_
              refine pw_istore_n (pc' := 90) (lv' := [(0, .ref 182), (1, .int a1), (2, .int a2), (3, .int (nI 0)), (4, .int a4), (5, .int a5), (6, .int (M 184 (ix (((nI 24) * a4) + a5)))), (7, .int (M 184 (ix ((((nI 24) * a4) + a5) + (nI 1)))))]) [1, 2, 3, 0, 4, 5, 6, 7] rfl dX10_isWalked_89 rfl (by decide) rfl ?_
              refine pw_iinc (pc' := 93) (lv' := [(0, .ref 182), (1, .int a1), (2, .int a2), (3, .int (nI 0)), (4, .int a4), (5, .int (a5 + (nI 1))), (6, .int (M 184 (ix (((nI 24) * a4) + a5)))), (7, .int (M 184 (ix ((((nI 24) * a4) + a5) + (nI 1)))))]) 5 [1, 2, 3, 4, 5, 0, 6, 7] rfl dX10_isWalked_90 rfl (ii_1 _) (by decide) rfl ?_
              refine pw_goto (tgt := 17) dX10_isWalked_93 (by decide) ?_
              exact pw_sub [0, 1, 2, 3, 4, 5] rfl h
            · have h := h.2 q7
              refine pw_iconst (pc' := 85) rfl dX10_isWalked_84 ci_1 ?_
              refine pw_goto (tgt := 89) dX10_isWalked_85 (by decide) ?_
              refine pw_istore_n (pc' := 90) (lv' := [(0, .ref 182), (1, .int a1), (2, .int a2), (3, .int (nI 1)), (4, .int a4), (5, .int a5), (6, .int (M 184 (ix (((nI 24) * a4) + a5)))), (7, .int (M 184 (ix ((((nI 24) * a4) + a5) + (nI 1)))))]) [1, 2, 3, 0, 4, 5, 6, 7] rfl dX10_isWalked_89 rfl (by decide) rfl ?_
              refine pw_iinc (pc' := 93) (lv' := [(0, .ref 182), (1, .int a1), (2, .int a2), (3, .int (nI 1)), (4, .int a4), (5, .int (a5 + (nI 1))), (6, .int (M 184 (ix (((nI 24) * a4) + a5)))), (7, .int (M 184 (ix ((((nI 24) * a4) + a5) + (nI 1)))))]) 5 [1, 2, 3, 4, 5, 0, 6, 7] rfl dX10_isWalked_90 rfl (ii_1 _) (by decide) rfl ?_
              refine pw_goto (tgt := 17) dX10_isWalked_93 (by decide) ?_
              exact pw_sub [0, 1, 2, 3, 4, 5] rfl h
theorem T_X10_type {M : Mem} {a1 : Int64} {a3 : Int32} {Q : Int32 → Mem → Prop}  (h : C_X10_in M (a3.toInt64) (1 : Int64) (8 : Int64) (fun r0 M0 => ((¬ r0 = 0) → (P_X10_type_17 M0 a1 a3 (nI 0) Q)) ∧ ((r0 = 0) → (Q (-1) M0)))) : C_X10_type M a1 a3 Q := by
  refine CA_of rfl (Nat.le_of_ble_eq_true rfl) ?_
  show PS _ _ 0 [(0, .ref 182), (1, .long a1), (3, .int a3)] [] M _
  refine pw_iload_n (pc' := 1) 2 rfl dX10_type_0 rfl rfl ?_
  refine pw_i2l (pc' := 2) rfl dX10_type_1 rfl ?_
  refine pw_lconst (pc' := 3) rfl dX10_type_2 rfl ?_
  refine pw_ldc2 (pc' := 6) rfl dX10_type_3 cn_X10_126 ?_
  refine ps_callSI (pc' := 9) (As := [.long (a3.toInt64), .long (1 : Int64), .long (8 : Int64)]) (rest := []) 3 rfl dX10_type_6 cs_X10_in ml_X10_98 (by decide) rfl rfl (by decide) (Nat.le_of_ble_eq_true rfl) (CA.monoI h ?_)
  intro r0 M0 h
  refine pw_if_ne (pc' := 12) (tgt := 14) rfl dX10_type_9 (by decide) (fun q1 => ?_) (fun q1 => ?_)
  · have h := h.1 q1
    refine pw_iconst (pc' := 15) rfl dX10_type_14 ci_0 ?_
    refine pw_istore (pc' := 17) (lv' := [(0, .ref 182), (1, .long a1), (3, .int a3), (4, .int (nI 0))]) [1, 2, 3, 0] rfl dX10_type_15 (by decide) rfl ?_
    exact pw_sub [0, 1, 2, 3] rfl h
  · have h := h.2 q1
    refine pw_iconst (pc' := 13) rfl dX10_type_12 ci_m1 ?_
    exact ps_iret dX10_type_13 rfl h
theorem T_X10_type_17 {M : Mem} {a1 : Int64} {a3 : Int32} {a4 : Int32} {Q : Int32 → Mem → Prop}  (h : ((a3 ≤ a4) → (((((M 182 7) + a3) ≤ (nI 80)) → (P_X10_type_73 M a1 (a3 - (nI 1)) Q)) ∧ ((¬ ((M 182 7) + a3) ≤ (nI 80)) → (Q (-3) M)))) ∧ ((¬ a3 ≤ a4) → (C_X10_in M ((a1 >>> (((nI 8) * a4).toInt64 &&& 63)) &&& (255 : Int64)) (32 : Int64) (126 : Int64) (fun r1 M1 => ((¬ r1 = 0) → (P_X10_type_17 M1 a1 a3 (a4 + (nI 1)) Q)) ∧ ((r1 = 0) → (Q (-1) M1)))))) : P_X10_type_17 M a1 a3 a4 Q := by
  refine pw_iload (pc' := 19) 3 rfl dX10_type_17 rfl ?_
  refine pw_iload_n (pc' := 20) 2 rfl dX10_type_19 rfl rfl ?_
  refine pw_icmp_ge (pc' := 23) (tgt := 54) rfl dX10_type_20 (by decide) (fun q0 => ?_) (fun q0 => ?_)
  · have h := h.1 q0
    refine pw_aload_n (pc' := 55) 0 rfl dX10_type_54 rfl rfl ?_
    refine ps_getI (pc' := 58) (v := (M 182 7)) rfl dX10_type_55 fl_X10_134 ob_182 rfl rfl ?_
    refine pw_iload_n (pc' := 59) 2 rfl dX10_type_58 rfl rfl ?_
    refine pw_iadd (pc' := 60) rfl dX10_type_59 ?_
    refine pw_bipush (pc' := 62) rfl dX10_type_60 cb_80 ?_
    refine pw_icmp_le (pc' := 65) (tgt := 68) rfl dX10_type_62 (by decide) (fun q1 => ?_) (fun q1 => ?_)
    · have h := h.1 q1
      refine pw_iload_n (pc' := 69) 2 rfl dX10_type_68 rfl rfl ?_
      refine pw_iconst (pc' := 70) rfl dX10_type_69 ci_1 ?_
      refine pw_isub (pc' := 71) rfl dX10_type_70 ?_
      refine pw_istore (pc' := 73) (lv' := [(0, .ref 182), (1, .long a1), (3, .int a3), (4, .int (a3 - (nI 1)))]) [1, 2, 3, 0] rfl dX10_type_71 (by decide) rfl ?_
      exact pw_sub [0, 1, 3] rfl h
    · have h := h.2 q1
      refine pw_bipush (pc' := 67) rfl dX10_type_65 cb_m3 ?_
      exact ps_iret dX10_type_67 rfl h
  · have h := h.2 q0
    refine pw_lload_n (pc' := 24) 1 rfl dX10_type_23 rfl rfl ?_
    refine pw_bipush (pc' := 26) rfl dX10_type_24 cb_8 ?_
    refine pw_iload (pc' := 28) 3 rfl dX10_type_26 rfl ?_
    refine pw_imul (pc' := 29) rfl dX10_type_28 ?_
    refine pw_lshr (pc' := 30) rfl dX10_type_29 rfl ?_
    refine pw_ldc2 (pc' := 33) rfl dX10_type_30 cn_X10_128 ?_
    refine pw_land (pc' := 34) rfl dX10_type_33 ?_
    refine pw_ldc2 (pc' := 37) rfl dX10_type_34 cn_X10_130 ?_
    refine pw_ldc2 (pc' := 40) rfl dX10_type_37 cn_X10_132 ?_
    refine ps_callSI (pc' := 43) (As := [.long ((a1 >>> (((nI 8) * a4).toInt64 &&& 63)) &&& (255 : Int64)), .long (32 : Int64), .long (126 : Int64)]) (rest := []) 3 rfl dX10_type_40 cs_X10_in ml_X10_98 (by decide) rfl rfl (by decide) (Nat.le_of_ble_eq_true rfl) (CA.monoI h ?_)
    intro r1 M1 h
    refine pw_if_ne (pc' := 46) (tgt := 48) rfl dX10_type_43 (by decide) (fun q2 => ?_) (fun q2 => ?_)
    · have h := h.1 q2
      refine pw_iinc (pc' := 51) (lv' := [(0, .ref 182), (1, .long a1), (3, .int a3), (4, .int (a4 + (nI 1)))]) 3 [1, 2, 3, 0] rfl dX10_type_48 rfl (ii_1 _) (by decide) rfl ?_
      refine pw_goto (tgt := 17) dX10_type_51 (by decide) ?_
      exact pw_sub [0, 1, 2, 3] rfl h
    · have h := h.2 q2
      refine pw_iconst (pc' := 47) rfl dX10_type_46 ci_m1 ?_
      exact ps_iret dX10_type_47 rfl h
theorem T_X10_type_73 {M : Mem} {a1 : Int64} {a4 : Int32} {Q : Int32 → Mem → Prop}  (h : ((a4 < 0) → (Q (M 182 7) M)) ∧ ((¬ a4 < 0) → (vp_in (M 182 7) 80 ∧ (P_X10_type_73 (wr (wr M 185 (ix (M 182 7)) (((a1 >>> (((nI 8) * a4).toInt64 &&& 63)) &&& (255 : Int64)).toInt32)) 182 7 ((M 182 7) + (nI 1))) a1 (a4 + (-1)) Q)))) : P_X10_type_73 M a1 a4 Q := by
  refine pw_iload (pc' := 75) 2 rfl dX10_type_73 rfl ?_
  refine pw_if_lt (pc' := 78) (tgt := 115) rfl dX10_type_75 (by decide) (fun q0 => ?_) (fun q0 => ?_)
  · have h := h.1 q0
    refine pw_aload_n (pc' := 116) 0 rfl dX10_type_115 rfl rfl ?_
    refine ps_getI (pc' := 119) (v := (M 182 7)) rfl dX10_type_116 fl_X10_134 ob_182 rfl rfl ?_
    exact ps_iret dX10_type_119 rfl h
  · have h := h.2 q0
    refine pw_aload_n (pc' := 79) 0 rfl dX10_type_78 rfl rfl ?_
    refine ps_getR (pc' := 82) (r := 185) rfl dX10_type_79 fl_X10_16 ob_182 rfl rfl ?_
    refine pw_aload_n (pc' := 83) 0 rfl dX10_type_82 rfl rfl ?_
    refine ps_getI (pc' := 86) (v := (M 182 7)) rfl dX10_type_83 fl_X10_134 ob_182 rfl rfl ?_
    refine pw_lload_n (pc' := 87) 1 rfl dX10_type_86 rfl rfl ?_
    refine pw_bipush (pc' := 89) rfl dX10_type_87 cb_8 ?_
    refine pw_iload (pc' := 91) 2 rfl dX10_type_89 rfl ?_
    refine pw_imul (pc' := 92) rfl dX10_type_91 ?_
    refine pw_lshr (pc' := 93) rfl dX10_type_92 rfl ?_
    refine pw_ldc2 (pc' := 96) rfl dX10_type_93 cn_X10_128 ?_
    refine pw_land (pc' := 97) rfl dX10_type_96 ?_
    refine pw_l2i (pc' := 98) rfl dX10_type_97 rfl ?_
    obtain ⟨b1, h⟩ := h
    refine ps_iast (pc' := 99) rfl dX10_type_98 ia_185 b1 ?_
    refine pw_aload_n (pc' := 100) 0 rfl dX10_type_99 rfl rfl ?_
    refine pw_dup (pc' := 101) rfl dX10_type_100 rfl ?_
    refine ps_getI (pc' := 104) (v := (M 182 7)) rfl dX10_type_101 fl_X10_134 ob_182 rfl rfl ?_
    refine pw_iconst (pc' := 105) rfl dX10_type_104 ci_1 ?_
    refine pw_iadd (pc' := 106) rfl dX10_type_105 ?_
    refine ps_putI (pc' := 109) rfl dX10_type_106 fl_X10_134 ob_182 rfl ?_
    refine pw_iinc (pc' := 112) (lv' := [(0, .ref 182), (1, .long a1), (4, .int (a4 + (-1)))]) 2 [1, 2, 0] rfl dX10_type_109 rfl (ii_m1 _) (by decide) rfl ?_
    refine pw_goto (tgt := 73) dX10_type_112 (by decide) ?_
    exact pw_sub [0, 1, 2] rfl h
theorem T_X10_walk {M : Mem}  {Q : Int32 → Mem → Prop}  (h : C_X10_walks M (fun M0 => (((M0 182 9) = 0) → (((¬ (M0 182 3) = (nI 3)) → (P_X10_walk_37 (wr M0 182 7 (nI 0)) (nI 0) Q)) ∧ (((M0 182 3) = (nI 3)) → (Q (-3) (wr M0 182 7 (nI 0)))))) ∧ ((¬ (M0 182 9) = 0) → (Q ((-20) - (M0 182 8)) (wr M0 182 7 (nI 0)))))) : C_X10_walk M  Q := by
  refine CA_of rfl (Nat.le_of_ble_eq_true rfl) ?_
  show PS _ _ 0 [(0, .ref 182)] [] M _
  refine pw_aload_n (pc' := 1) 0 rfl dX10_walk_0 rfl rfl ?_
  refine ps_callVV (pc' := 4) (As := []) (rest := []) (cT := (RX10, TX10, 44)) 0 rfl dX10_walk_1 cv_X10_walks ml_X10_161 (by decide) rfl rfl (by decide) (Nat.le_of_ble_eq_true rfl) ob_182 rfl rfl (CA.monoV h ?_)
  intro M0 h
  refine pw_aload_n (pc' := 5) 0 rfl dX10_walk_4 rfl rfl ?_
  refine pw_iconst (pc' := 6) rfl dX10_walk_5 ci_0 ?_
  refine ps_putI (pc' := 9) rfl dX10_walk_6 fl_X10_134 ob_182 rfl ?_
  refine pw_aload_n (pc' := 10) 0 rfl dX10_walk_9 rfl rfl ?_
  refine ps_getI (pc' := 13) (v := (M0 182 9)) rfl dX10_walk_10 fl_X10_140 ob_182 rfl rfl ?_
  refine pw_if_eq (pc' := 16) (tgt := 24) rfl dX10_walk_13 (by decide) (fun q1 => ?_) (fun q1 => ?_)
  · have h := h.1 q1
    refine pw_aload_n (pc' := 25) 0 rfl dX10_walk_24 rfl rfl ?_
    refine ps_getI (pc' := 28) (v := (M0 182 3)) rfl dX10_walk_25 fl_X10_119 ob_182 rfl rfl ?_
    refine pw_iconst (pc' := 29) rfl dX10_walk_28 ci_3 ?_
    refine pw_icmp_ne (pc' := 32) (tgt := 35) rfl dX10_walk_29 (by decide) (fun q2 => ?_) (fun q2 => ?_)
    · have h := h.1 q2
      refine pw_iconst (pc' := 36) rfl dX10_walk_35 ci_0 ?_
      refine pw_istore_n (pc' := 37) (lv' := [(0, .ref 182), (1, .int (nI 0))]) [1, 0] rfl dX10_walk_36 rfl (by decide) rfl ?_
      exact pw_sub [0, 1] rfl h
    · have h := h.2 q2
      refine pw_bipush (pc' := 34) rfl dX10_walk_32 cb_m3 ?_
      exact ps_iret dX10_walk_34 rfl h
  · have h := h.2 q1
    refine pw_bipush (pc' := 18) rfl dX10_walk_16 cb_m20 ?_
    refine pw_aload_n (pc' := 19) 0 rfl dX10_walk_18 rfl rfl ?_
    refine ps_getI (pc' := 22) (v := (M0 182 8)) rfl dX10_walk_19 fl_X10_137 ob_182 rfl rfl ?_
    refine pw_isub (pc' := 23) rfl dX10_walk_22 ?_
    exact ps_iret dX10_walk_23 rfl h
theorem T_X10_walk_37 {M : Mem} {a1 : Int32} {Q : Int32 → Mem → Prop}  (h : (((nI 24) ≤ a1) → (Q (((M 182 3) + (nI 1)) - (nI 1)) (wr (wr M 182 3 ((M 182 3) + (nI 1))) 182 13 (nI 0)))) ∧ ((¬ (nI 24) ≤ a1) → (vp_in a1 24 ∧ (vp_in (((nI 24) * (M 182 3)) + a1) 72 ∧ (P_X10_walk_37 (wr M 184 (ix (((nI 24) * (M 182 3)) + a1)) (M 186 (ix a1))) (a1 + (nI 1)) Q))))) : P_X10_walk_37 M a1 Q := by
  refine pw_iload_n (pc' := 38) 1 rfl dX10_walk_37 rfl rfl ?_
  refine pw_bipush (pc' := 40) rfl dX10_walk_38 cb_24 ?_
  refine pw_icmp_ge (pc' := 43) (tgt := 69) rfl dX10_walk_40 (by decide) (fun q0 => ?_) (fun q0 => ?_)
  · have h := h.1 q0
    refine pw_aload_n (pc' := 70) 0 rfl dX10_walk_69 rfl rfl ?_
    refine pw_dup (pc' := 71) rfl dX10_walk_70 rfl ?_
    refine ps_getI (pc' := 74) (v := (M 182 3)) rfl dX10_walk_71 fl_X10_119 ob_182 rfl rfl ?_
    refine pw_iconst (pc' := 75) rfl dX10_walk_74 ci_1 ?_
    refine pw_iadd (pc' := 76) rfl dX10_walk_75 ?_
    refine ps_putI (pc' := 79) rfl dX10_walk_76 fl_X10_119 ob_182 rfl ?_
    refine pw_aload_n (pc' := 80) 0 rfl dX10_walk_79 rfl rfl ?_
    refine pw_iconst (pc' := 81) rfl dX10_walk_80 ci_0 ?_
    refine ps_putZ (pc' := 84) rfl dX10_walk_81 fl_X10_104 ob_182 rfl (by decide) ?_
    refine pw_aload_n (pc' := 85) 0 rfl dX10_walk_84 rfl rfl ?_
    refine ps_getI (pc' := 88) (v := ((M 182 3) + (nI 1))) rfl dX10_walk_85 fl_X10_119 ob_182 rfl rfl ?_
    refine pw_iconst (pc' := 89) rfl dX10_walk_88 ci_1 ?_
    refine pw_isub (pc' := 90) rfl dX10_walk_89 ?_
    exact ps_iret dX10_walk_90 rfl h
  · have h := h.2 q0
    refine pw_aload_n (pc' := 44) 0 rfl dX10_walk_43 rfl rfl ?_
    refine ps_getR (pc' := 47) (r := 184) rfl dX10_walk_44 fl_X10_13 ob_182 rfl rfl ?_
    refine pw_bipush (pc' := 49) rfl dX10_walk_47 cb_24 ?_
    refine pw_aload_n (pc' := 50) 0 rfl dX10_walk_49 rfl rfl ?_
    refine ps_getI (pc' := 53) (v := (M 182 3)) rfl dX10_walk_50 fl_X10_119 ob_182 rfl rfl ?_
    refine pw_imul (pc' := 54) rfl dX10_walk_53 ?_
    refine pw_iload_n (pc' := 55) 1 rfl dX10_walk_54 rfl rfl ?_
    refine pw_iadd (pc' := 56) rfl dX10_walk_55 ?_
    refine pw_aload_n (pc' := 57) 0 rfl dX10_walk_56 rfl rfl ?_
    refine ps_getR (pc' := 60) (r := 186) rfl dX10_walk_57 fl_X10_19 ob_182 rfl rfl ?_
    refine pw_iload_n (pc' := 61) 1 rfl dX10_walk_60 rfl rfl ?_
    obtain ⟨b1, h⟩ := h
    refine ps_iald (pc' := 62) (v := (M 186 (ix a1))) rfl dX10_walk_61 ia_186 b1 rfl ?_
    obtain ⟨b2, h⟩ := h
    refine ps_iast (pc' := 63) rfl dX10_walk_62 ia_184 b2 ?_
    refine pw_iinc (pc' := 66) (lv' := [(0, .ref 182), (1, .int (a1 + (nI 1)))]) 1 [1, 0] rfl dX10_walk_63 rfl (ii_1 _) (by decide) rfl ?_
    refine pw_goto (tgt := 37) dX10_walk_66 (by decide) ?_
    exact pw_sub [0, 1] rfl h
theorem T_X10_walks {M : Mem}  {Q : Mem → Prop}  (h : P_X10_walks_17 (wr (wr M 182 8 (nI 0)) 182 9 (nI 0)) (nI 0) (-4) (nI 0) Q) : C_X10_walks M  Q := by
  refine CA_of rfl (Nat.le_of_ble_eq_true rfl) ?_
  show PS _ _ 0 [(0, .ref 182)] [] M _
  refine pw_aload_n (pc' := 1) 0 rfl dX10_walks_0 rfl rfl ?_
  refine pw_iconst (pc' := 2) rfl dX10_walks_1 ci_0 ?_
  refine ps_putI (pc' := 5) rfl dX10_walks_2 fl_X10_137 ob_182 rfl ?_
  refine pw_aload_n (pc' := 6) 0 rfl dX10_walks_5 rfl rfl ?_
  refine pw_iconst (pc' := 7) rfl dX10_walks_6 ci_0 ?_
  refine ps_putZ (pc' := 10) rfl dX10_walks_7 fl_X10_140 ob_182 rfl (by decide) ?_
  refine pw_iconst (pc' := 11) rfl dX10_walks_10 ci_0 ?_
  refine pw_istore_n (pc' := 12) (lv' := [(0, .ref 182), (1, .int (nI 0))]) [1, 0] rfl dX10_walks_11 rfl (by decide) rfl ?_
  refine pw_bipush (pc' := 14) rfl dX10_walks_12 cb_m4 ?_
  refine pw_istore_n (pc' := 15) (lv' := [(0, .ref 182), (1, .int (nI 0)), (2, .int (-4))]) [1, 2, 0] rfl dX10_walks_14 rfl (by decide) rfl ?_
  refine pw_iconst (pc' := 16) rfl dX10_walks_15 ci_0 ?_
  refine pw_istore_n (pc' := 17) (lv' := [(0, .ref 182), (1, .int (nI 0)), (2, .int (-4)), (3, .int (nI 0))]) [1, 2, 3, 0] rfl dX10_walks_16 rfl (by decide) rfl ?_
  exact pw_sub [0, 1, 2, 3] rfl h
theorem T_X10_walks_17 {M : Mem} {a1 : Int32} {a2 : Int32} {a3 : Int32} {Q : Mem → Prop}  (h : ((a3 = 0) → (C_X10_here M (fun r1 M1 => ((¬ (M1 182 9) = 0) → (P_X10_walks_65 M1 a1 a2 a3 (M1 182 8) (nI 1) Q)) ∧ (((M1 182 9) = 0) → (((¬ a3 = (nI 8)) → (P_X10_walks_65 M1 a1 a2 a3 (M1 182 8) (nI 0) Q)) ∧ ((a3 = (nI 8)) → (P_X10_walks_65 M1 a1 a2 a3 (M1 182 8) (nI 1) Q))))))) ∧ ((¬ a3 = 0) → (((¬ (M 182 9) = 0) → (P_X10_walks_171 M a2 a1 Q)) ∧ (((M 182 9) = 0) → (C_X10_here M (fun r2 M2 => ((r2 = 0) → (P_X10_walks_171 M2 a2 a1 Q)) ∧ ((¬ r2 = 0) → (C_X10_here M2 (fun r4 M4 => ((¬ (M4 182 9) = 0) → (P_X10_walks_65 M4 a1 a2 a3 (M4 182 8) (nI 1) Q)) ∧ (((M4 182 9) = 0) → (((¬ a3 = (nI 8)) → (P_X10_walks_65 M4 a1 a2 a3 (M4 182 8) (nI 0) Q)) ∧ ((a3 = (nI 8)) → (P_X10_walks_65 M4 a1 a2 a3 (M4 182 8) (nI 1) Q))))))))))))) : P_X10_walks_17 M a1 a2 a3 Q := by
  refine pw_iload_n (pc' := 18) 3 rfl dX10_walks_17 rfl rfl ?_
  refine pw_if_eq (pc' := 21) (tgt := 35) rfl dX10_walks_18 (by decide) (fun q0 => ?_) (fun q0 => ?_)
  · have h := h.1 q0
    refine pw_aload_n (pc' := 36) 0 rfl dX10_walks_35 rfl rfl ?_
    refine ps_callVI (pc' := 39) (As := []) (rest := []) (cT := (RX10, TX10, 44)) 0 rfl dX10_walks_36 cv_X10_here ml_X10_143 (by decide) rfl rfl (by decide) (Nat.le_of_ble_eq_true rfl) ob_182 rfl rfl (CA.monoI h ?_)
    intro r1 M1 h
    refine pw_pop (pc' := 40) rfl dX10_walks_39 rfl ?_
    refine pw_aload_n (pc' := 41) 0 rfl dX10_walks_40 rfl rfl ?_
    refine ps_getI (pc' := 44) (v := (M1 182 8)) rfl dX10_walks_41 fl_X10_137 ob_182 rfl rfl ?_
    refine pw_istore (pc' := 46) (lv' := [(0, .ref 182), (1, .int a1), (2, .int a2), (3, .int a3), (4, .int (M1 182 8))]) [1, 2, 3, 4, 0] rfl dX10_walks_44 (by decide) rfl ?_
    refine pw_aload_n (pc' := 47) 0 rfl dX10_walks_46 rfl rfl ?_
    refine pw_aload_n (pc' := 48) 0 rfl dX10_walks_47 rfl rfl ?_
    refine ps_getI (pc' := 51) (v := (M1 182 9)) rfl dX10_walks_48 fl_X10_140 ob_182 rfl rfl ?_
    refine pw_if_ne (pc' := 54) (tgt := 60) rfl dX10_walks_51 (by decide) (fun q2 => ?_) (fun q2 => ?_)
    · have h := h.1 q2
      refine pw_iconst (pc' := 61) rfl dX10_walks_60 ci_1 ?_
      refine pw_goto (tgt := 65) dX10_walks_61 (by decide) ?_
      exact pw_sub [0, 1, 2, 3, 4] rfl h
    · have h := h.2 q2
      refine pw_iload_n (pc' := 55) 3 rfl dX10_walks_54 rfl rfl ?_
      refine pw_bipush (pc' := 57) rfl dX10_walks_55 cb_8 ?_
      refine pw_icmp_ne (pc' := 60) (tgt := 64) rfl dX10_walks_57 (by decide) (fun q3 => ?_) (fun q3 => ?_)
      · have h := h.1 q3
        refine pw_iconst (pc' := 65) rfl dX10_walks_64 ci_0 ?_
        exact pw_sub [0, 1, 2, 3, 4] rfl h
      · have h := h.2 q3
        refine pw_iconst (pc' := 61) rfl dX10_walks_60 ci_1 ?_
        refine pw_goto (tgt := 65) dX10_walks_61 (by decide) ?_
        exact pw_sub [0, 1, 2, 3, 4] rfl h
  · have h := h.2 q0
    refine pw_aload_n (pc' := 22) 0 rfl dX10_walks_21 rfl rfl ?_
    refine ps_getI (pc' := 25) (v := (M 182 9)) rfl dX10_walks_22 fl_X10_140 ob_182 rfl rfl ?_
    refine pw_if_ne (pc' := 28) (tgt := 169) rfl dX10_walks_25 (by decide) (fun q1 => ?_) (fun q1 => ?_)
    · have h := h.1 q1
      refine pw_iload_n (pc' := 170) 1 rfl dX10_walks_169 rfl rfl ?_
      refine pw_istore_n (pc' := 171) (lv' := [(0, .ref 182), (1, .int a1), (2, .int a2), (3, .int a1)]) [1, 2, 3, 0] rfl dX10_walks_170 rfl (by decide) rfl ?_
      exact pw_sub [0, 2, 3] rfl h
    · have h := h.2 q1
      refine pw_aload_n (pc' := 29) 0 rfl dX10_walks_28 rfl rfl ?_
      refine ps_callVI (pc' := 32) (As := []) (rest := []) (cT := (RX10, TX10, 44)) 0 rfl dX10_walks_29 cv_X10_here ml_X10_143 (by decide) rfl rfl (by decide) (Nat.le_of_ble_eq_true rfl) ob_182 rfl rfl (CA.monoI h ?_)
      intro r2 M2 h
      refine pw_if_eq (pc' := 35) (tgt := 169) rfl dX10_walks_32 (by decide) (fun q3 => ?_) (fun q3 => ?_)
      · have h := h.1 q3
        refine pw_iload_n (pc' := 170) 1 rfl dX10_walks_169 rfl rfl ?_
        refine pw_istore_n (pc' := 171) (lv' := [(0, .ref 182), (1, .int a1), (2, .int a2), (3, .int a1)]) [1, 2, 3, 0] rfl dX10_walks_170 rfl (by decide) rfl ?_
        exact pw_sub [0, 2, 3] rfl h
      · have h := h.2 q3
        refine pw_aload_n (pc' := 36) 0 rfl dX10_walks_35 rfl rfl ?_
        refine ps_callVI (pc' := 39) (As := []) (rest := []) (cT := (RX10, TX10, 44)) 0 rfl dX10_walks_36 cv_X10_here ml_X10_143 (by decide) rfl rfl (by decide) (Nat.le_of_ble_eq_true rfl) ob_182 rfl rfl (CA.monoI h ?_)
        intro r4 M4 h
        refine pw_pop (pc' := 40) rfl dX10_walks_39 rfl ?_
        refine pw_aload_n (pc' := 41) 0 rfl dX10_walks_40 rfl rfl ?_
        refine ps_getI (pc' := 44) (v := (M4 182 8)) rfl dX10_walks_41 fl_X10_137 ob_182 rfl rfl ?_
        refine pw_istore (pc' := 46) (lv' := [(0, .ref 182), (1, .int a1), (2, .int a2), (3, .int a3), (4, .int (M4 182 8))]) [1, 2, 3, 4, 0] rfl dX10_walks_44 (by decide) rfl ?_
        refine pw_aload_n (pc' := 47) 0 rfl dX10_walks_46 rfl rfl ?_
        refine pw_aload_n (pc' := 48) 0 rfl dX10_walks_47 rfl rfl ?_
        refine ps_getI (pc' := 51) (v := (M4 182 9)) rfl dX10_walks_48 fl_X10_140 ob_182 rfl rfl ?_
        refine pw_if_ne (pc' := 54) (tgt := 60) rfl dX10_walks_51 (by decide) (fun q5 => ?_) (fun q5 => ?_)
        · have h := h.1 q5
          refine pw_iconst (pc' := 61) rfl dX10_walks_60 ci_1 ?_
          refine pw_goto (tgt := 65) dX10_walks_61 (by decide) ?_
          exact pw_sub [0, 1, 2, 3, 4] rfl h
        · have h := h.2 q5
          refine pw_iload_n (pc' := 55) 3 rfl dX10_walks_54 rfl rfl ?_
          refine pw_bipush (pc' := 57) rfl dX10_walks_55 cb_8 ?_
          refine pw_icmp_ne (pc' := 60) (tgt := 64) rfl dX10_walks_57 (by decide) (fun q6 => ?_) (fun q6 => ?_)
          · have h := h.1 q6
            refine pw_iconst (pc' := 65) rfl dX10_walks_64 ci_0 ?_
            exact pw_sub [0, 1, 2, 3, 4] rfl h
          · have h := h.2 q6
            refine pw_iconst (pc' := 61) rfl dX10_walks_60 ci_1 ?_
            refine pw_goto (tgt := 65) dX10_walks_61 (by decide) ?_
            exact pw_sub [0, 1, 2, 3, 4] rfl h
theorem T_X10_walks_65 {M : Mem} {a1 : Int32} {a2 : Int32} {a3 : Int32} {a4 : Int32} {s1 : Int32} {Q : Mem → Prop}  (h : (s1 = 0 ∨ s1 = 1) ∧ (C_X10_letter (wr M 182 9 s1) (M 182 0) (fun r1 M1 => ((¬ (M1 182 9) = 0) → (P_X10_walks_115 M1 a1 a3 r1 Q)) ∧ (((M1 182 9) = 0) → (((a2 < 0) → (P_X10_walks_115 M1 a1 a3 r1 Q)) ∧ ((¬ a2 < 0) → (vp_in (((nI 10) * a2) + r1) 100 ∧ ((((M1 183 (ix (((nI 10) * a2) + r1))) = 0) → (P_X10_walks_115 M1 a1 a3 r1 Q)) ∧ ((¬ (M1 183 (ix (((nI 10) * a2) + r1))) = 0) → (P_X10_walks_115 (wr (wr M1 182 9 (nI 1)) 182 8 a4) a1 a3 r1 Q)))))))))) : P_X10_walks_65 M a1 a2 a3 a4 s1 Q := by
  obtain ⟨z0, h⟩ := h
  refine ps_putZ (pc' := 68) rfl dX10_walks_65 fl_X10_140 ob_182 rfl z0 ?_
  refine pw_aload_n (pc' := 69) 0 rfl dX10_walks_68 rfl rfl ?_
  refine pw_aload_n (pc' := 70) 0 rfl dX10_walks_69 rfl rfl ?_
  refine ps_getI (pc' := 73) (v := (M 182 0)) rfl dX10_walks_70 fl_X10_95 ob_182 rfl rfl ?_
  refine ps_callVI (pc' := 76) (As := [.int (M 182 0)]) (rest := []) (cT := (RX10, TX10, 44)) 1 rfl dX10_walks_73 cv_X10_letter ml_X10_153 (by decide) rfl rfl (by decide) (Nat.le_of_ble_eq_true rfl) ob_182 rfl rfl (CA.monoI h ?_)
  intro r1 M1 h
  refine pw_istore (pc' := 78) (lv' := [(0, .ref 182), (1, .int a1), (2, .int a2), (3, .int a3), (4, .int a4), (5, .int r1)]) [1, 2, 3, 4, 5, 0] rfl dX10_walks_76 (by decide) rfl ?_
  refine pw_aload_n (pc' := 79) 0 rfl dX10_walks_78 rfl rfl ?_
  refine ps_getI (pc' := 82) (v := (M1 182 9)) rfl dX10_walks_79 fl_X10_140 ob_182 rfl rfl ?_
  refine pw_if_ne (pc' := 85) (tgt := 115) rfl dX10_walks_82 (by decide) (fun q2 => ?_) (fun q2 => ?_)
  · have h := h.1 q2
    exact pw_sub [0, 1, 3, 5] rfl h
  · have h := h.2 q2
    refine pw_iload_n (pc' := 86) 2 rfl dX10_walks_85 rfl rfl ?_
    refine pw_if_lt (pc' := 89) (tgt := 115) rfl dX10_walks_86 (by decide) (fun q3 => ?_) (fun q3 => ?_)
    · have h := h.1 q3
      exact pw_sub [0, 1, 3, 5] rfl h
    · have h := h.2 q3
      refine pw_aload_n (pc' := 90) 0 rfl dX10_walks_89 rfl rfl ?_
      refine ps_getR (pc' := 93) (r := 183) rfl dX10_walks_90 fl_X10_7 ob_182 rfl rfl ?_
      refine pw_bipush (pc' := 95) rfl dX10_walks_93 cb_10 ?_
      refine pw_iload_n (pc' := 96) 2 rfl dX10_walks_95 rfl rfl ?_
      refine pw_imul (pc' := 97) rfl dX10_walks_96 ?_
      refine pw_iload (pc' := 99) 5 rfl dX10_walks_97 rfl ?_
      refine pw_iadd (pc' := 100) rfl dX10_walks_99 ?_
      obtain ⟨b4, h⟩ := h
      refine ps_iald (pc' := 101) (v := (M1 183 (ix (((nI 10) * a2) + r1)))) rfl dX10_walks_100 ia_183 b4 rfl ?_
      refine pw_if_eq (pc' := 104) (tgt := 115) rfl dX10_walks_101 (by decide) (fun q5 => ?_) (fun q5 => ?_)
      · have h := h.1 q5
        exact pw_sub [0, 1, 3, 5] rfl h
      · have h := h.2 q5
        refine pw_aload_n (pc' := 105) 0 rfl dX10_walks_104 rfl rfl ?_
        refine pw_iconst (pc' := 106) rfl dX10_walks_105 ci_1 ?_
        refine ps_putZ (pc' := 109) rfl dX10_walks_106 fl_X10_140 ob_182 rfl (by decide) ?_
        refine pw_aload_n (pc' := 110) 0 rfl dX10_walks_109 rfl rfl ?_
        refine pw_iload (pc' := 112) 4 rfl dX10_walks_110 rfl ?_
        refine ps_putI (pc' := 115) rfl dX10_walks_112 fl_X10_137 ob_182 rfl ?_
        exact pw_sub [0, 1, 3, 5] rfl h
theorem T_X10_walks_115 {M : Mem} {a1 : Int32} {a3 : Int32} {a5 : Int32} {Q : Mem → Prop}  (h : C_X10_number M (nI 1) ((nI 24) - a1) (fun r0 M0 => P_X10_walks_129 M0 a1 a3 a5 r0 (nI 0) Q)) : P_X10_walks_115 M a1 a3 a5 Q := by
  refine pw_aload_n (pc' := 116) 0 rfl dX10_walks_115 rfl rfl ?_
  refine pw_iconst (pc' := 117) rfl dX10_walks_116 ci_1 ?_
  refine pw_bipush (pc' := 119) rfl dX10_walks_117 cb_24 ?_
  refine pw_iload_n (pc' := 120) 1 rfl dX10_walks_119 rfl rfl ?_
  refine pw_isub (pc' := 121) rfl dX10_walks_120 ?_
  refine ps_callVI (pc' := 124) (As := [.int (nI 1), .int ((nI 24) - a1)]) (rest := []) (cT := (RX10, TX10, 44)) 2 rfl dX10_walks_121 cv_X10_number ml_X10_157 (by decide) rfl rfl (by decide) (Nat.le_of_ble_eq_true rfl) ob_182 rfl rfl (CA.monoI h ?_)
  intro r0 M0 h
  refine pw_istore (pc' := 126) (lv' := [(0, .ref 182), (1, .int a1), (3, .int a3), (5, .int a5), (6, .int r0)]) [1, 2, 3, 4, 0] rfl dX10_walks_124 (by decide) rfl ?_
  refine pw_iconst (pc' := 127) rfl dX10_walks_126 ci_0 ?_
  refine pw_istore (pc' := 129) (lv' := [(0, .ref 182), (1, .int a1), (3, .int a3), (5, .int a5), (6, .int r0), (7, .int (nI 0))]) [1, 2, 3, 4, 5, 0] rfl dX10_walks_127 (by decide) rfl ?_
  exact pw_sub [0, 1, 2, 3, 4, 5] rfl h
theorem T_X10_walks_129 {M : Mem} {a1 : Int32} {a3 : Int32} {a5 : Int32} {a6 : Int32} {a7 : Int32} {Q : Mem → Prop}  (h : ((a6 ≤ a7) → (P_X10_walks_17 M a1 a5 (a3 + (nI 1)) Q)) ∧ ((¬ a6 ≤ a7) → (((¬ (M 182 9) = 0) → (P_X10_walks_17 M a1 a5 (a3 + (nI 1)) Q)) ∧ (((M 182 9) = 0) → (vp_in a1 24 ∧ (P_X10_walks_129 (wr M 186 (ix a1) a5) (a1 + (nI 1)) a3 a5 a6 (a7 + (nI 1)) Q)))))) : P_X10_walks_129 M a1 a3 a5 a6 a7 Q := by
  refine pw_iload (pc' := 131) 5 rfl dX10_walks_129 rfl ?_
  refine pw_iload (pc' := 133) 4 rfl dX10_walks_131 rfl ?_
  refine pw_icmp_ge (pc' := 136) (tgt := 160) rfl dX10_walks_133 (by decide) (fun q0 => ?_) (fun q0 => ?_)
  · have h := h.1 q0
    refine pw_iload (pc' := 162) 3 rfl dX10_walks_160 rfl ?_
    refine pw_istore_n (pc' := 163) (lv' := [(0, .ref 182), (1, .int a1), (2, .int a5), (3, .int a3), (5, .int a5), (6, .int a6), (7, .int a7)]) [1, 2, 0, 3, 4, 5, 6] rfl dX10_walks_162 rfl (by decide) rfl ?_
    refine pw_iinc (pc' := 166) (lv' := [(0, .ref 182), (1, .int a1), (2, .int a5), (3, .int (a3 + (nI 1))), (5, .int a5), (6, .int a6), (7, .int a7)]) 3 [1, 2, 3, 0, 4, 5, 6] rfl dX10_walks_163 rfl (ii_1 _) (by decide) rfl ?_
    refine pw_goto (tgt := 17) dX10_walks_166 (by decide) ?_
    exact pw_sub [0, 1, 2, 3] rfl h
  · have h := h.2 q0
    refine pw_aload_n (pc' := 137) 0 rfl dX10_walks_136 rfl rfl ?_
    refine ps_getI (pc' := 140) (v := (M 182 9)) rfl dX10_walks_137 fl_X10_140 ob_182 rfl rfl ?_
    refine pw_if_ne (pc' := 143) (tgt := 160) rfl dX10_walks_140 (by decide) (fun q1 => ?_) (fun q1 => ?_)
    · have h := h.1 q1
      refine pw_iload (pc' := 162) 3 rfl dX10_walks_160 rfl ?_
      refine pw_istore_n (pc' := 163) (lv' := [(0, .ref 182), (1, .int a1), (2, .int a5), (3, .int a3), (5, .int a5), (6, .int a6), (7, .int a7)]) [1, 2, 0, 3, 4, 5, 6] rfl dX10_walks_162 rfl (by decide) rfl ?_
      refine pw_iinc (pc' := 166) (lv' := [(0, .ref 182), (1, .int a1), (2, .int a5), (3, .int (a3 + (nI 1))), (5, .int a5), (6, .int a6), (7, .int a7)]) 3 [1, 2, 3, 0, 4, 5, 6] rfl dX10_walks_163 rfl (ii_1 _) (by decide) rfl ?_
      refine pw_goto (tgt := 17) dX10_walks_166 (by decide) ?_
      exact pw_sub [0, 1, 2, 3] rfl h
    · have h := h.2 q1
      refine pw_aload_n (pc' := 144) 0 rfl dX10_walks_143 rfl rfl ?_
      refine ps_getR (pc' := 147) (r := 186) rfl dX10_walks_144 fl_X10_19 ob_182 rfl rfl ?_
      refine pw_iload_n (pc' := 148) 1 rfl dX10_walks_147 rfl rfl ?_
      refine pw_iload (pc' := 150) 3 rfl dX10_walks_148 rfl ?_
      obtain ⟨b2, h⟩ := h
      refine ps_iast (pc' := 151) rfl dX10_walks_150 ia_186 b2 ?_
      refine pw_iinc (pc' := 154) (lv' := [(0, .ref 182), (1, .int (a1 + (nI 1))), (3, .int a3), (5, .int a5), (6, .int a6), (7, .int a7)]) 1 [1, 0, 2, 3, 4, 5] rfl dX10_walks_151 rfl (ii_1 _) (by decide) rfl ?_
      refine pw_iinc (pc' := 157) (lv' := [(0, .ref 182), (1, .int (a1 + (nI 1))), (3, .int a3), (5, .int a5), (6, .int a6), (7, .int (a7 + (nI 1)))]) 5 [1, 2, 3, 4, 5, 0] rfl dX10_walks_154 rfl (ii_1 _) (by decide) rfl ?_
      refine pw_goto (tgt := 129) dX10_walks_157 (by decide) ?_
      exact pw_sub [0, 1, 2, 3, 4, 5] rfl h
theorem T_X10_walks_171 {M : Mem} {a2 : Int32} {a3 : Int32} {Q : Mem → Prop}  (h : (((nI 24) ≤ a3) → (Q M)) ∧ ((¬ (nI 24) ≤ a3) → (((¬ (M 182 9) = 0) → (Q M)) ∧ (((M 182 9) = 0) → (vp_in a3 24 ∧ (P_X10_walks_171 (wr M 186 (ix a3) a2) a2 (a3 + (nI 1)) Q)))))) : P_X10_walks_171 M a2 a3 Q := by
  refine pw_iload_n (pc' := 172) 2 rfl dX10_walks_171 rfl rfl ?_
  refine pw_bipush (pc' := 174) rfl dX10_walks_172 cb_24 ?_
  refine pw_icmp_ge (pc' := 177) (tgt := 197) rfl dX10_walks_174 (by decide) (fun q0 => ?_) (fun q0 => ?_)
  · have h := h.1 q0
    exact ps_vret dX10_walks_197 rfl h
  · have h := h.2 q0
    refine pw_aload_n (pc' := 178) 0 rfl dX10_walks_177 rfl rfl ?_
    refine ps_getI (pc' := 181) (v := (M 182 9)) rfl dX10_walks_178 fl_X10_140 ob_182 rfl rfl ?_
    refine pw_if_ne (pc' := 184) (tgt := 197) rfl dX10_walks_181 (by decide) (fun q1 => ?_) (fun q1 => ?_)
    · have h := h.1 q1
      exact ps_vret dX10_walks_197 rfl h
    · have h := h.2 q1
      refine pw_aload_n (pc' := 185) 0 rfl dX10_walks_184 rfl rfl ?_
      refine ps_getR (pc' := 188) (r := 186) rfl dX10_walks_185 fl_X10_19 ob_182 rfl rfl ?_
      refine pw_iload_n (pc' := 189) 2 rfl dX10_walks_188 rfl rfl ?_
      refine pw_iload_n (pc' := 190) 1 rfl dX10_walks_189 rfl rfl ?_
      obtain ⟨b2, h⟩ := h
      refine ps_iast (pc' := 191) rfl dX10_walks_190 ia_186 b2 ?_
      refine pw_iinc (pc' := 194) (lv' := [(0, .ref 182), (2, .int a2), (3, .int (a3 + (nI 1)))]) 2 [1, 2, 0] rfl dX10_walks_191 rfl (ii_1 _) (by decide) rfl ?_
      refine pw_goto (tgt := 171) dX10_walks_194 (by decide) ?_
      exact pw_sub [0, 1, 2] rfl h
theorem T_X10_here {M : Mem}  {Q : Int32 → Mem → Prop}  (h : (((M 182 7) ≤ (M 182 8)) → ((((M 182 7) ≤ (M 182 8)) → (Q (nI 0) M)) ∧ ((¬ (M 182 7) ≤ (M 182 8)) → (vp_in (M 182 8) 80 ∧ (Q (M 185 (ix (M 182 8))) M))))) ∧ ((¬ (M 182 7) ≤ (M 182 8)) → (vp_in (M 182 8) 80 ∧ (((¬ (M 185 (ix (M 182 8))) = (nI 32)) → ((((M 182 7) ≤ (M 182 8)) → (Q (nI 0) M)) ∧ ((¬ (M 182 7) ≤ (M 182 8)) → (Q (M 185 (ix (M 182 8))) M)))) ∧ (((M 185 (ix (M 182 8))) = (nI 32)) → (P_X10_here_0 (wr M 182 8 ((M 182 8) + (nI 1))) Q)))))) : C_X10_here M  Q := by
  refine CA_of rfl (Nat.le_of_ble_eq_true rfl) ?_
  show PS _ _ 0 [(0, .ref 182)] [] M _
  refine pw_aload_n (pc' := 1) 0 rfl dX10_here_0 rfl rfl ?_
  refine ps_getI (pc' := 4) (v := (M 182 8)) rfl dX10_here_1 fl_X10_137 ob_182 rfl rfl ?_
  refine pw_aload_n (pc' := 5) 0 rfl dX10_here_4 rfl rfl ?_
  refine ps_getI (pc' := 8) (v := (M 182 7)) rfl dX10_here_5 fl_X10_134 ob_182 rfl rfl ?_
  refine pw_icmp_ge (pc' := 11) (tgt := 38) rfl dX10_here_8 (by decide) (fun q0 => ?_) (fun q0 => ?_)
  · have h := h.1 q0
    refine pw_aload_n (pc' := 39) 0 rfl dX10_here_38 rfl rfl ?_
    refine ps_getI (pc' := 42) (v := (M 182 8)) rfl dX10_here_39 fl_X10_137 ob_182 rfl rfl ?_
    refine pw_aload_n (pc' := 43) 0 rfl dX10_here_42 rfl rfl ?_
    refine ps_getI (pc' := 46) (v := (M 182 7)) rfl dX10_here_43 fl_X10_134 ob_182 rfl rfl ?_
    refine pw_icmp_ge (pc' := 49) (tgt := 61) rfl dX10_here_46 (by decide) (fun q1 => ?_) (fun q1 => ?_)
    · have h := h.1 q1
      refine pw_iconst (pc' := 62) rfl dX10_here_61 ci_0 ?_
      exact ps_iret dX10_here_62 rfl h
    · have h := h.2 q1
      refine pw_aload_n (pc' := 50) 0 rfl dX10_here_49 rfl rfl ?_
      refine ps_getR (pc' := 53) (r := 185) rfl dX10_here_50 fl_X10_16 ob_182 rfl rfl ?_
      refine pw_aload_n (pc' := 54) 0 rfl dX10_here_53 rfl rfl ?_
      refine ps_getI (pc' := 57) (v := (M 182 8)) rfl dX10_here_54 fl_X10_137 ob_182 rfl rfl ?_
      obtain ⟨b2, h⟩ := h
      refine ps_iald (pc' := 58) (v := (M 185 (ix (M 182 8)))) rfl dX10_here_57 ia_185 b2 rfl ?_
      refine pw_goto (tgt := 62) dX10_here_58 (by decide) ?_
      exact ps_iret dX10_here_62 rfl h
  · have h := h.2 q0
    refine pw_aload_n (pc' := 12) 0 rfl dX10_here_11 rfl rfl ?_
    refine ps_getR (pc' := 15) (r := 185) rfl dX10_here_12 fl_X10_16 ob_182 rfl rfl ?_
    refine pw_aload_n (pc' := 16) 0 rfl dX10_here_15 rfl rfl ?_
    refine ps_getI (pc' := 19) (v := (M 182 8)) rfl dX10_here_16 fl_X10_137 ob_182 rfl rfl ?_
    obtain ⟨b1, h⟩ := h
    refine ps_iald (pc' := 20) (v := (M 185 (ix (M 182 8)))) rfl dX10_here_19 ia_185 b1 rfl ?_
    refine pw_bipush (pc' := 22) rfl dX10_here_20 cb_32 ?_
    refine pw_icmp_ne (pc' := 25) (tgt := 38) rfl dX10_here_22 (by decide) (fun q2 => ?_) (fun q2 => ?_)
    · have h := h.1 q2
      refine pw_aload_n (pc' := 39) 0 rfl dX10_here_38 rfl rfl ?_
      refine ps_getI (pc' := 42) (v := (M 182 8)) rfl dX10_here_39 fl_X10_137 ob_182 rfl rfl ?_
      refine pw_aload_n (pc' := 43) 0 rfl dX10_here_42 rfl rfl ?_
      refine ps_getI (pc' := 46) (v := (M 182 7)) rfl dX10_here_43 fl_X10_134 ob_182 rfl rfl ?_
      refine pw_icmp_ge (pc' := 49) (tgt := 61) rfl dX10_here_46 (by decide) (fun q3 => ?_) (fun q3 => ?_)
      · have h := h.1 q3
        refine pw_iconst (pc' := 62) rfl dX10_here_61 ci_0 ?_
        exact ps_iret dX10_here_62 rfl h
      · have h := h.2 q3
        refine pw_aload_n (pc' := 50) 0 rfl dX10_here_49 rfl rfl ?_
        refine ps_getR (pc' := 53) (r := 185) rfl dX10_here_50 fl_X10_16 ob_182 rfl rfl ?_
        refine pw_aload_n (pc' := 54) 0 rfl dX10_here_53 rfl rfl ?_
        refine ps_getI (pc' := 57) (v := (M 182 8)) rfl dX10_here_54 fl_X10_137 ob_182 rfl rfl ?_
        refine ps_iald (pc' := 58) (v := (M 185 (ix (M 182 8)))) rfl dX10_here_57 ia_185 b1 rfl ?_
        refine pw_goto (tgt := 62) dX10_here_58 (by decide) ?_
        exact ps_iret dX10_here_62 rfl h
    · have h := h.2 q2
      refine pw_aload_n (pc' := 26) 0 rfl dX10_here_25 rfl rfl ?_
      refine pw_dup (pc' := 27) rfl dX10_here_26 rfl ?_
      refine ps_getI (pc' := 30) (v := (M 182 8)) rfl dX10_here_27 fl_X10_137 ob_182 rfl rfl ?_
      refine pw_iconst (pc' := 31) rfl dX10_here_30 ci_1 ?_
      refine pw_iadd (pc' := 32) rfl dX10_here_31 ?_
      refine ps_putI (pc' := 35) rfl dX10_here_32 fl_X10_137 ob_182 rfl ?_
      refine pw_goto (tgt := 0) dX10_here_35 (by decide) ?_
      exact pw_sub [0] rfl h
theorem T_X10_here_0 {M : Mem}  {Q : Int32 → Mem → Prop}  (h : (((M 182 7) ≤ (M 182 8)) → ((((M 182 7) ≤ (M 182 8)) → (Q (nI 0) M)) ∧ ((¬ (M 182 7) ≤ (M 182 8)) → (vp_in (M 182 8) 80 ∧ (Q (M 185 (ix (M 182 8))) M))))) ∧ ((¬ (M 182 7) ≤ (M 182 8)) → (vp_in (M 182 8) 80 ∧ (((¬ (M 185 (ix (M 182 8))) = (nI 32)) → ((((M 182 7) ≤ (M 182 8)) → (Q (nI 0) M)) ∧ ((¬ (M 182 7) ≤ (M 182 8)) → (Q (M 185 (ix (M 182 8))) M)))) ∧ (((M 185 (ix (M 182 8))) = (nI 32)) → (P_X10_here_0 (wr M 182 8 ((M 182 8) + (nI 1))) Q)))))) : P_X10_here_0 M  Q := by
  refine pw_aload_n (pc' := 1) 0 rfl dX10_here_0 rfl rfl ?_
  refine ps_getI (pc' := 4) (v := (M 182 8)) rfl dX10_here_1 fl_X10_137 ob_182 rfl rfl ?_
  refine pw_aload_n (pc' := 5) 0 rfl dX10_here_4 rfl rfl ?_
  refine ps_getI (pc' := 8) (v := (M 182 7)) rfl dX10_here_5 fl_X10_134 ob_182 rfl rfl ?_
  refine pw_icmp_ge (pc' := 11) (tgt := 38) rfl dX10_here_8 (by decide) (fun q0 => ?_) (fun q0 => ?_)
  · have h := h.1 q0
    refine pw_aload_n (pc' := 39) 0 rfl dX10_here_38 rfl rfl ?_
    refine ps_getI (pc' := 42) (v := (M 182 8)) rfl dX10_here_39 fl_X10_137 ob_182 rfl rfl ?_
    refine pw_aload_n (pc' := 43) 0 rfl dX10_here_42 rfl rfl ?_
    refine ps_getI (pc' := 46) (v := (M 182 7)) rfl dX10_here_43 fl_X10_134 ob_182 rfl rfl ?_
    refine pw_icmp_ge (pc' := 49) (tgt := 61) rfl dX10_here_46 (by decide) (fun q1 => ?_) (fun q1 => ?_)
    · have h := h.1 q1
      refine pw_iconst (pc' := 62) rfl dX10_here_61 ci_0 ?_
      exact ps_iret dX10_here_62 rfl h
    · have h := h.2 q1
      refine pw_aload_n (pc' := 50) 0 rfl dX10_here_49 rfl rfl ?_
      refine ps_getR (pc' := 53) (r := 185) rfl dX10_here_50 fl_X10_16 ob_182 rfl rfl ?_
      refine pw_aload_n (pc' := 54) 0 rfl dX10_here_53 rfl rfl ?_
      refine ps_getI (pc' := 57) (v := (M 182 8)) rfl dX10_here_54 fl_X10_137 ob_182 rfl rfl ?_
      obtain ⟨b2, h⟩ := h
      refine ps_iald (pc' := 58) (v := (M 185 (ix (M 182 8)))) rfl dX10_here_57 ia_185 b2 rfl ?_
      refine pw_goto (tgt := 62) dX10_here_58 (by decide) ?_
      exact ps_iret dX10_here_62 rfl h
  · have h := h.2 q0
    refine pw_aload_n (pc' := 12) 0 rfl dX10_here_11 rfl rfl ?_
    refine ps_getR (pc' := 15) (r := 185) rfl dX10_here_12 fl_X10_16 ob_182 rfl rfl ?_
    refine pw_aload_n (pc' := 16) 0 rfl dX10_here_15 rfl rfl ?_
    refine ps_getI (pc' := 19) (v := (M 182 8)) rfl dX10_here_16 fl_X10_137 ob_182 rfl rfl ?_
    obtain ⟨b1, h⟩ := h
    refine ps_iald (pc' := 20) (v := (M 185 (ix (M 182 8)))) rfl dX10_here_19 ia_185 b1 rfl ?_
    refine pw_bipush (pc' := 22) rfl dX10_here_20 cb_32 ?_
    refine pw_icmp_ne (pc' := 25) (tgt := 38) rfl dX10_here_22 (by decide) (fun q2 => ?_) (fun q2 => ?_)
    · have h := h.1 q2
      refine pw_aload_n (pc' := 39) 0 rfl dX10_here_38 rfl rfl ?_
      refine ps_getI (pc' := 42) (v := (M 182 8)) rfl dX10_here_39 fl_X10_137 ob_182 rfl rfl ?_
      refine pw_aload_n (pc' := 43) 0 rfl dX10_here_42 rfl rfl ?_
      refine ps_getI (pc' := 46) (v := (M 182 7)) rfl dX10_here_43 fl_X10_134 ob_182 rfl rfl ?_
      refine pw_icmp_ge (pc' := 49) (tgt := 61) rfl dX10_here_46 (by decide) (fun q3 => ?_) (fun q3 => ?_)
      · have h := h.1 q3
        refine pw_iconst (pc' := 62) rfl dX10_here_61 ci_0 ?_
        exact ps_iret dX10_here_62 rfl h
      · have h := h.2 q3
        refine pw_aload_n (pc' := 50) 0 rfl dX10_here_49 rfl rfl ?_
        refine ps_getR (pc' := 53) (r := 185) rfl dX10_here_50 fl_X10_16 ob_182 rfl rfl ?_
        refine pw_aload_n (pc' := 54) 0 rfl dX10_here_53 rfl rfl ?_
        refine ps_getI (pc' := 57) (v := (M 182 8)) rfl dX10_here_54 fl_X10_137 ob_182 rfl rfl ?_
        refine ps_iald (pc' := 58) (v := (M 185 (ix (M 182 8)))) rfl dX10_here_57 ia_185 b1 rfl ?_
        refine pw_goto (tgt := 62) dX10_here_58 (by decide) ?_
        exact ps_iret dX10_here_62 rfl h
    · have h := h.2 q2
      refine pw_aload_n (pc' := 26) 0 rfl dX10_here_25 rfl rfl ?_
      refine pw_dup (pc' := 27) rfl dX10_here_26 rfl ?_
      refine ps_getI (pc' := 30) (v := (M 182 8)) rfl dX10_here_27 fl_X10_137 ob_182 rfl rfl ?_
      refine pw_iconst (pc' := 31) rfl dX10_here_30 ci_1 ?_
      refine pw_iadd (pc' := 32) rfl dX10_here_31 ?_
      refine ps_putI (pc' := 35) rfl dX10_here_32 fl_X10_137 ob_182 rfl ?_
      refine pw_goto (tgt := 0) dX10_here_35 (by decide) ?_
      exact pw_sub [0] rfl h
theorem T_X10_letter {M : Mem} {a1 : Int32} {Q : Int32 → Mem → Prop}  (h : ((¬ (M 182 9) = 0) → ((((nI 1) = 0) → (C_X10_here (wr M 182 9 (nI 1)) (fun r2 M2 => (((M2 182 9) = 0) → (Q (r2 - (nI 97)) (wr M2 182 8 ((M2 182 8) + (nI 1))))) ∧ ((¬ (M2 182 9) = 0) → (Q (r2 - (nI 97)) (wr M2 182 8 ((M2 182 8) + (nI 0)))))))) ∧ ((¬ (nI 1) = 0) → ((((nI 1) = 0) → (Q (nI 0) (wr (wr M 182 9 (nI 1)) 182 8 ((M 182 8) + (nI 1))))) ∧ ((¬ (nI 1) = 0) → (Q (nI 0) (wr (wr M 182 9 (nI 1)) 182 8 ((M 182 8) + (nI 0))))))))) ∧ (((M 182 9) = 0) → (C_X10_here M (fun r1 M1 => C_X10_in M1 (r1.toInt64) (97 : Int64) (((nI 96) + a1).toInt64) (fun r2 M2 => ((¬ r2 = 0) → ((((nI 0) = 0) → (C_X10_here (wr M2 182 9 (nI 0)) (fun r5 M5 => (((M5 182 9) = 0) → (Q (r5 - (nI 97)) (wr M5 182 8 ((M5 182 8) + (nI 1))))) ∧ ((¬ (M5 182 9) = 0) → (Q (r5 - (nI 97)) (wr M5 182 8 ((M5 182 8) + (nI 0)))))))) ∧ ((¬ (nI 0) = 0) → ((((nI 0) = 0) → (Q (nI 0) (wr (wr M2 182 9 (nI 0)) 182 8 ((M2 182 8) + (nI 1))))) ∧ ((¬ (nI 0) = 0) → (Q (nI 0) (wr (wr M2 182 9 (nI 0)) 182 8 ((M2 182 8) + (nI 0))))))))) ∧ ((r2 = 0) → ((((nI 1) = 0) → (C_X10_here (wr M2 182 9 (nI 1)) (fun r5 M5 => (((M5 182 9) = 0) → (Q (r5 - (nI 97)) (wr M5 182 8 ((M5 182 8) + (nI 1))))) ∧ ((¬ (M5 182 9) = 0) → (Q (r5 - (nI 97)) (wr M5 182 8 ((M5 182 8) + (nI 0)))))))) ∧ ((¬ (nI 1) = 0) → ((((nI 1) = 0) → (Q (nI 0) (wr (wr M2 182 9 (nI 1)) 182 8 ((M2 182 8) + (nI 1))))) ∧ ((¬ (nI 1) = 0) → (Q (nI 0) (wr (wr M2 182 9 (nI 1)) 182 8 ((M2 182 8) + (nI 0)))))))))))))) : C_X10_letter M a1 Q := by
  refine CA_of rfl (Nat.le_of_ble_eq_true rfl) ?_
  show PS _ _ 0 [(0, .ref 182), (1, .int a1)] [] M _
  refine pw_aload_n (pc' := 1) 0 rfl dX10_letter_0 rfl rfl ?_
  refine pw_aload_n (pc' := 2) 0 rfl dX10_letter_1 rfl rfl ?_
  refine ps_getI (pc' := 5) (v := (M 182 9)) rfl dX10_letter_2 fl_X10_140 ob_182 rfl rfl ?_
  refine pw_if_ne (pc' := 8) (tgt := 27) rfl dX10_letter_5 (by decide) (fun q0 => ?_) (fun q0 => ?_)
  · have h := h.1 q0
    refine pw_iconst (pc' := 28) rfl dX10_letter_27 ci_1 ?_
    refine pw_goto (tgt := 32) dX10_letter_28 (by decide) ?_
    refine ps_putZ (pc' := 35) rfl dX10_letter_32 fl_X10_140 ob_182 rfl (by decide) ?_
    refine pw_aload_n (pc' := 36) 0 rfl dX10_letter_35 rfl rfl ?_
    refine ps_getI (pc' := 39) (v := (nI 1)) rfl dX10_letter_36 fl_X10_140 ob_182 rfl rfl ?_
    refine pw_if_eq (pc' := 42) (tgt := 46) rfl dX10_letter_39 (by decide) (fun q1 => ?_) (fun q1 => ?_)
    · have h := h.1 q1
      refine pw_aload_n (pc' := 47) 0 rfl dX10_letter_46 rfl rfl ?_
      refine ps_callVI (pc' := 50) (As := []) (rest := []) (cT := (RX10, TX10, 44)) 0 rfl dX10_letter_47 cv_X10_here ml_X10_143 (by decide) rfl rfl (by decide) (Nat.le_of_ble_eq_true rfl) ob_182 rfl rfl (CA.monoI h ?_)
      intro r2 M2 h
      refine pw_bipush (pc' := 52) rfl dX10_letter_50 cb_97 ?_
      refine pw_isub (pc' := 53) rfl dX10_letter_52 ?_
      refine pw_istore_n (pc' := 54) (lv' := [(0, .ref 182), (1, .int a1), (2, .int (r2 - (nI 97)))]) [1, 2, 0] rfl dX10_letter_53 rfl (by decide) rfl ?_
      refine pw_aload_n (pc' := 55) 0 rfl dX10_letter_54 rfl rfl ?_
      refine pw_dup (pc' := 56) rfl dX10_letter_55 rfl ?_
      refine ps_getI (pc' := 59) (v := (M2 182 8)) rfl dX10_letter_56 fl_X10_137 ob_182 rfl rfl ?_
      refine pw_aload_n (pc' := 60) 0 rfl dX10_letter_59 rfl rfl ?_
      refine ps_getI (pc' := 63) (v := (M2 182 9)) rfl dX10_letter_60 fl_X10_140 ob_182 rfl rfl ?_
      refine pw_if_eq (pc' := 66) (tgt := 70) rfl dX10_letter_63 (by decide) (fun q3 => ?_) (fun q3 => ?_)
      · have h := h.1 q3
        refine pw_iconst (pc' := 71) rfl dX10_letter_70 ci_1 ?_
        refine pw_iadd (pc' := 72) rfl dX10_letter_71 ?_
        refine ps_putI (pc' := 75) rfl dX10_letter_72 fl_X10_137 ob_182 rfl ?_
        refine pw_iload_n (pc' := 76) 2 rfl dX10_letter_75 rfl rfl ?_
        exact ps_iret dX10_letter_76 rfl h
      · have h := h.2 q3
        refine pw_iconst (pc' := 67) rfl dX10_letter_66 ci_0 ?_
        refine pw_goto (tgt := 71) dX10_letter_67 (by decide) ?_
        refine pw_iadd (pc' := 72) rfl dX10_letter_71 ?_
        refine ps_putI (pc' := 75) rfl dX10_letter_72 fl_X10_137 ob_182 rfl ?_
        refine pw_iload_n (pc' := 76) 2 rfl dX10_letter_75 rfl rfl ?_
        exact ps_iret dX10_letter_76 rfl h
    · have h := h.2 q1
      refine pw_iconst (pc' := 43) rfl dX10_letter_42 ci_0 ?_
      refine pw_goto (tgt := 53) dX10_letter_43 (by decide) ?_
      refine pw_istore_n (pc' := 54) (lv' := [(0, .ref 182), (1, .int a1), (2, .int (nI 0))]) [1, 2, 0] rfl dX10_letter_53 rfl (by decide) rfl ?_
      refine pw_aload_n (pc' := 55) 0 rfl dX10_letter_54 rfl rfl ?_
      refine pw_dup (pc' := 56) rfl dX10_letter_55 rfl ?_
      refine ps_getI (pc' := 59) (v := (M 182 8)) rfl dX10_letter_56 fl_X10_137 ob_182 rfl rfl ?_
      refine pw_aload_n (pc' := 60) 0 rfl dX10_letter_59 rfl rfl ?_
      refine ps_getI (pc' := 63) (v := (nI 1)) rfl dX10_letter_60 fl_X10_140 ob_182 rfl rfl ?_
      refine pw_if_eq (pc' := 66) (tgt := 70) rfl dX10_letter_63 (by decide) (fun q2 => ?_) (fun q2 => ?_)
      · have h := h.1 q2
        refine pw_iconst (pc' := 71) rfl dX10_letter_70 ci_1 ?_
        refine pw_iadd (pc' := 72) rfl dX10_letter_71 ?_
        refine ps_putI (pc' := 75) rfl dX10_letter_72 fl_X10_137 ob_182 rfl ?_
        refine pw_iload_n (pc' := 76) 2 rfl dX10_letter_75 rfl rfl ?_
        exact ps_iret dX10_letter_76 rfl h
      · have h := h.2 q2
        refine pw_iconst (pc' := 67) rfl dX10_letter_66 ci_0 ?_
        refine pw_goto (tgt := 71) dX10_letter_67 (by decide) ?_
        refine pw_iadd (pc' := 72) rfl dX10_letter_71 ?_
        refine ps_putI (pc' := 75) rfl dX10_letter_72 fl_X10_137 ob_182 rfl ?_
        refine pw_iload_n (pc' := 76) 2 rfl dX10_letter_75 rfl rfl ?_
        exact ps_iret dX10_letter_76 rfl h
  · have h := h.2 q0
    refine pw_aload_n (pc' := 9) 0 rfl dX10_letter_8 rfl rfl ?_
    refine ps_callVI (pc' := 12) (As := []) (rest := [.ref 182]) (cT := (RX10, TX10, 44)) 0 rfl dX10_letter_9 cv_X10_here ml_X10_143 (by decide) rfl rfl (by decide) (Nat.le_of_ble_eq_true rfl) ob_182 rfl rfl (CA.monoI h ?_)
    intro r1 M1 h
    refine pw_i2l (pc' := 13) rfl dX10_letter_12 rfl ?_
    refine pw_ldc2 (pc' := 16) rfl dX10_letter_13 cn_X10_147 ?_
    refine pw_bipush (pc' := 18) rfl dX10_letter_16 cb_96 ?_
    refine pw_iload_n (pc' := 19) 1 rfl dX10_letter_18 rfl rfl ?_
    refine pw_iadd (pc' := 20) rfl dX10_letter_19 ?_
    refine pw_i2l (pc' := 21) rfl dX10_letter_20 rfl ?_
    refine ps_callSI (pc' := 24) (As := [.long (r1.toInt64), .long (97 : Int64), .long (((nI 96) + a1).toInt64)]) (rest := [.ref 182]) 3 rfl dX10_letter_21 cs_X10_in ml_X10_98 (by decide) rfl rfl (by decide) (Nat.le_of_ble_eq_true rfl) (CA.monoI h ?_)
    intro r2 M2 h
    refine pw_if_ne (pc' := 27) (tgt := 31) rfl dX10_letter_24 (by decide) (fun q3 => ?_) (fun q3 => ?_)
    · have h := h.1 q3
      refine pw_iconst (pc' := 32) rfl dX10_letter_31 ci_0 ?_
      refine ps_putZ (pc' := 35) rfl dX10_letter_32 fl_X10_140 ob_182 rfl (by decide) ?_
      refine pw_aload_n (pc' := 36) 0 rfl dX10_letter_35 rfl rfl ?_
      refine ps_getI (pc' := 39) (v := (nI 0)) rfl dX10_letter_36 fl_X10_140 ob_182 rfl rfl ?_
      refine pw_if_eq (pc' := 42) (tgt := 46) rfl dX10_letter_39 (by decide) (fun q4 => ?_) (fun q4 => ?_)
      · have h := h.1 q4
        refine pw_aload_n (pc' := 47) 0 rfl dX10_letter_46 rfl rfl ?_
        refine ps_callVI (pc' := 50) (As := []) (rest := []) (cT := (RX10, TX10, 44)) 0 rfl dX10_letter_47 cv_X10_here ml_X10_143 (by decide) rfl rfl (by decide) (Nat.le_of_ble_eq_true rfl) ob_182 rfl rfl (CA.monoI h ?_)
        intro r5 M5 h
        refine pw_bipush (pc' := 52) rfl dX10_letter_50 cb_97 ?_
        refine pw_isub (pc' := 53) rfl dX10_letter_52 ?_
        refine pw_istore_n (pc' := 54) (lv' := [(0, .ref 182), (1, .int a1), (2, .int (r5 - (nI 97)))]) [1, 2, 0] rfl dX10_letter_53 rfl (by decide) rfl ?_
        refine pw_aload_n (pc' := 55) 0 rfl dX10_letter_54 rfl rfl ?_
        refine pw_dup (pc' := 56) rfl dX10_letter_55 rfl ?_
        refine ps_getI (pc' := 59) (v := (M5 182 8)) rfl dX10_letter_56 fl_X10_137 ob_182 rfl rfl ?_
        refine pw_aload_n (pc' := 60) 0 rfl dX10_letter_59 rfl rfl ?_
        refine ps_getI (pc' := 63) (v := (M5 182 9)) rfl dX10_letter_60 fl_X10_140 ob_182 rfl rfl ?_
        refine pw_if_eq (pc' := 66) (tgt := 70) rfl dX10_letter_63 (by decide) (fun q6 => ?_) (fun q6 => ?_)
        · have h := h.1 q6
          refine pw_iconst (pc' := 71) rfl dX10_letter_70 ci_1 ?_
          refine pw_iadd (pc' := 72) rfl dX10_letter_71 ?_
          refine ps_putI (pc' := 75) rfl dX10_letter_72 fl_X10_137 ob_182 rfl ?_
          refine pw_iload_n (pc' := 76) 2 rfl dX10_letter_75 rfl rfl ?_
          exact ps_iret dX10_letter_76 rfl h
        · have h := h.2 q6
          refine pw_iconst (pc' := 67) rfl dX10_letter_66 ci_0 ?_
          refine pw_goto (tgt := 71) dX10_letter_67 (by decide) ?_
          refine pw_iadd (pc' := 72) rfl dX10_letter_71 ?_
          refine ps_putI (pc' := 75) rfl dX10_letter_72 fl_X10_137 ob_182 rfl ?_
          refine pw_iload_n (pc' := 76) 2 rfl dX10_letter_75 rfl rfl ?_
          exact ps_iret dX10_letter_76 rfl h
      · have h := h.2 q4
        refine pw_iconst (pc' := 43) rfl dX10_letter_42 ci_0 ?_
        refine pw_goto (tgt := 53) dX10_letter_43 (by decide) ?_
        refine pw_istore_n (pc' := 54) (lv' := [(0, .ref 182), (1, .int a1), (2, .int (nI 0))]) [1, 2, 0] rfl dX10_letter_53 rfl (by decide) rfl ?_
        refine pw_aload_n (pc' := 55) 0 rfl dX10_letter_54 rfl rfl ?_
        refine pw_dup (pc' := 56) rfl dX10_letter_55 rfl ?_
        refine ps_getI (pc' := 59) (v := (M2 182 8)) rfl dX10_letter_56 fl_X10_137 ob_182 rfl rfl ?_
        refine pw_aload_n (pc' := 60) 0 rfl dX10_letter_59 rfl rfl ?_
        refine ps_getI (pc' := 63) (v := (nI 0)) rfl dX10_letter_60 fl_X10_140 ob_182 rfl rfl ?_
        refine pw_if_eq (pc' := 66) (tgt := 70) rfl dX10_letter_63 (by decide) (fun q5 => ?_) (fun q5 => ?_)
        · have h := h.1 q5
          refine pw_iconst (pc' := 71) rfl dX10_letter_70 ci_1 ?_
          refine pw_iadd (pc' := 72) rfl dX10_letter_71 ?_
          refine ps_putI (pc' := 75) rfl dX10_letter_72 fl_X10_137 ob_182 rfl ?_
          refine pw_iload_n (pc' := 76) 2 rfl dX10_letter_75 rfl rfl ?_
          exact ps_iret dX10_letter_76 rfl h
        · have h := h.2 q5
          refine pw_iconst (pc' := 67) rfl dX10_letter_66 ci_0 ?_
          refine pw_goto (tgt := 71) dX10_letter_67 (by decide) ?_
          refine pw_iadd (pc' := 72) rfl dX10_letter_71 ?_
          refine ps_putI (pc' := 75) rfl dX10_letter_72 fl_X10_137 ob_182 rfl ?_
          refine pw_iload_n (pc' := 76) 2 rfl dX10_letter_75 rfl rfl ?_
          exact ps_iret dX10_letter_76 rfl h
    · have h := h.2 q3
      refine pw_iconst (pc' := 28) rfl dX10_letter_27 ci_1 ?_
      refine pw_goto (tgt := 32) dX10_letter_28 (by decide) ?_
      refine ps_putZ (pc' := 35) rfl dX10_letter_32 fl_X10_140 ob_182 rfl (by decide) ?_
      refine pw_aload_n (pc' := 36) 0 rfl dX10_letter_35 rfl rfl ?_
      refine ps_getI (pc' := 39) (v := (nI 1)) rfl dX10_letter_36 fl_X10_140 ob_182 rfl rfl ?_
      refine pw_if_eq (pc' := 42) (tgt := 46) rfl dX10_letter_39 (by decide) (fun q4 => ?_) (fun q4 => ?_)
      · have h := h.1 q4
        refine pw_aload_n (pc' := 47) 0 rfl dX10_letter_46 rfl rfl ?_
        refine ps_callVI (pc' := 50) (As := []) (rest := []) (cT := (RX10, TX10, 44)) 0 rfl dX10_letter_47 cv_X10_here ml_X10_143 (by decide) rfl rfl (by decide) (Nat.le_of_ble_eq_true rfl) ob_182 rfl rfl (CA.monoI h ?_)
        intro r5 M5 h
        refine pw_bipush (pc' := 52) rfl dX10_letter_50 cb_97 ?_
        refine pw_isub (pc' := 53) rfl dX10_letter_52 ?_
        refine pw_istore_n (pc' := 54) (lv' := [(0, .ref 182), (1, .int a1), (2, .int (r5 - (nI 97)))]) [1, 2, 0] rfl dX10_letter_53 rfl (by decide) rfl ?_
        refine pw_aload_n (pc' := 55) 0 rfl dX10_letter_54 rfl rfl ?_
        refine pw_dup (pc' := 56) rfl dX10_letter_55 rfl ?_
        refine ps_getI (pc' := 59) (v := (M5 182 8)) rfl dX10_letter_56 fl_X10_137 ob_182 rfl rfl ?_
        refine pw_aload_n (pc' := 60) 0 rfl dX10_letter_59 rfl rfl ?_
        refine ps_getI (pc' := 63) (v := (M5 182 9)) rfl dX10_letter_60 fl_X10_140 ob_182 rfl rfl ?_
        refine pw_if_eq (pc' := 66) (tgt := 70) rfl dX10_letter_63 (by decide) (fun q6 => ?_) (fun q6 => ?_)
        · have h := h.1 q6
          refine pw_iconst (pc' := 71) rfl dX10_letter_70 ci_1 ?_
          refine pw_iadd (pc' := 72) rfl dX10_letter_71 ?_
          refine ps_putI (pc' := 75) rfl dX10_letter_72 fl_X10_137 ob_182 rfl ?_
          refine pw_iload_n (pc' := 76) 2 rfl dX10_letter_75 rfl rfl ?_
          exact ps_iret dX10_letter_76 rfl h
        · have h := h.2 q6
          refine pw_iconst (pc' := 67) rfl dX10_letter_66 ci_0 ?_
          refine pw_goto (tgt := 71) dX10_letter_67 (by decide) ?_
          refine pw_iadd (pc' := 72) rfl dX10_letter_71 ?_
          refine ps_putI (pc' := 75) rfl dX10_letter_72 fl_X10_137 ob_182 rfl ?_
          refine pw_iload_n (pc' := 76) 2 rfl dX10_letter_75 rfl rfl ?_
          exact ps_iret dX10_letter_76 rfl h
      · have h := h.2 q4
        refine pw_iconst (pc' := 43) rfl dX10_letter_42 ci_0 ?_
        refine pw_goto (tgt := 53) dX10_letter_43 (by decide) ?_
        refine pw_istore_n (pc' := 54) (lv' := [(0, .ref 182), (1, .int a1), (2, .int (nI 0))]) [1, 2, 0] rfl dX10_letter_53 rfl (by decide) rfl ?_
        refine pw_aload_n (pc' := 55) 0 rfl dX10_letter_54 rfl rfl ?_
        refine pw_dup (pc' := 56) rfl dX10_letter_55 rfl ?_
        refine ps_getI (pc' := 59) (v := (M2 182 8)) rfl dX10_letter_56 fl_X10_137 ob_182 rfl rfl ?_
        refine pw_aload_n (pc' := 60) 0 rfl dX10_letter_59 rfl rfl ?_
        refine ps_getI (pc' := 63) (v := (nI 1)) rfl dX10_letter_60 fl_X10_140 ob_182 rfl rfl ?_
        refine pw_if_eq (pc' := 66) (tgt := 70) rfl dX10_letter_63 (by decide) (fun q5 => ?_) (fun q5 => ?_)
        · have h := h.1 q5
          refine pw_iconst (pc' := 71) rfl dX10_letter_70 ci_1 ?_
          refine pw_iadd (pc' := 72) rfl dX10_letter_71 ?_
          refine ps_putI (pc' := 75) rfl dX10_letter_72 fl_X10_137 ob_182 rfl ?_
          refine pw_iload_n (pc' := 76) 2 rfl dX10_letter_75 rfl rfl ?_
          exact ps_iret dX10_letter_76 rfl h
        · have h := h.2 q5
          refine pw_iconst (pc' := 67) rfl dX10_letter_66 ci_0 ?_
          refine pw_goto (tgt := 71) dX10_letter_67 (by decide) ?_
          refine pw_iadd (pc' := 72) rfl dX10_letter_71 ?_
          refine ps_putI (pc' := 75) rfl dX10_letter_72 fl_X10_137 ob_182 rfl ?_
          refine pw_iload_n (pc' := 76) 2 rfl dX10_letter_75 rfl rfl ?_
          exact ps_iret dX10_letter_76 rfl h
theorem T_X10_number {M : Mem} {a1 : Int32} {a2 : Int32} {Q : Int32 → Mem → Prop}  (h : ((¬ (M 182 9) = 0) → (Q (nI 0) (wr M 182 9 (nI 1)))) ∧ (((M 182 9) = 0) → (C_X10_here M (fun r1 M1 => C_X10_in M1 (r1.toInt64) (48 : Int64) (57 : Int64) (fun r2 M2 => ((¬ r2 = 0) → (P_X10_number_39 M2 a1 a2 (M2 182 8) (nI 0) Q)) ∧ ((r2 = 0) → (Q (nI 0) (wr M2 182 9 (nI 1))))))))) : C_X10_number M a1 a2 Q := by
  refine CA_of rfl (Nat.le_of_ble_eq_true rfl) ?_
  show PS _ _ 0 [(0, .ref 182), (1, .int a1), (2, .int a2)] [] M _
  refine pw_aload_n (pc' := 1) 0 rfl dX10_number_0 rfl rfl ?_
  refine ps_getI (pc' := 4) (v := (M 182 9)) rfl dX10_number_1 fl_X10_140 ob_182 rfl rfl ?_
  refine pw_if_ne (pc' := 7) (tgt := 24) rfl dX10_number_4 (by decide) (fun q0 => ?_) (fun q0 => ?_)
  · have h := h.1 q0
    refine pw_aload_n (pc' := 25) 0 rfl dX10_number_24 rfl rfl ?_
    refine pw_iconst (pc' := 26) rfl dX10_number_25 ci_1 ?_
    refine ps_putZ (pc' := 29) rfl dX10_number_26 fl_X10_140 ob_182 rfl (by decide) ?_
    refine pw_iconst (pc' := 30) rfl dX10_number_29 ci_0 ?_
    exact ps_iret dX10_number_30 rfl h
  · have h := h.2 q0
    refine pw_aload_n (pc' := 8) 0 rfl dX10_number_7 rfl rfl ?_
    refine ps_callVI (pc' := 11) (As := []) (rest := []) (cT := (RX10, TX10, 44)) 0 rfl dX10_number_8 cv_X10_here ml_X10_143 (by decide) rfl rfl (by decide) (Nat.le_of_ble_eq_true rfl) ob_182 rfl rfl (CA.monoI h ?_)
    intro r1 M1 h
    refine pw_i2l (pc' := 12) rfl dX10_number_11 rfl ?_
    refine pw_ldc2 (pc' := 15) rfl dX10_number_12 cn_X10_149 ?_
    refine pw_ldc2 (pc' := 18) rfl dX10_number_15 cn_X10_151 ?_
    refine ps_callSI (pc' := 21) (As := [.long (r1.toInt64), .long (48 : Int64), .long (57 : Int64)]) (rest := []) 3 rfl dX10_number_18 cs_X10_in ml_X10_98 (by decide) rfl rfl (by decide) (Nat.le_of_ble_eq_true rfl) (CA.monoI h ?_)
    intro r2 M2 h
    refine pw_if_ne (pc' := 24) (tgt := 31) rfl dX10_number_21 (by decide) (fun q3 => ?_) (fun q3 => ?_)
    · have h := h.1 q3
      refine pw_aload_n (pc' := 32) 0 rfl dX10_number_31 rfl rfl ?_
      refine ps_getI (pc' := 35) (v := (M2 182 8)) rfl dX10_number_32 fl_X10_137 ob_182 rfl rfl ?_
      refine pw_istore_n (pc' := 36) (lv' := [(0, .ref 182), (1, .int a1), (2, .int a2), (3, .int (M2 182 8))]) [1, 2, 3, 0] rfl dX10_number_35 rfl (by decide) rfl ?_
      refine pw_iconst (pc' := 37) rfl dX10_number_36 ci_0 ?_
      refine pw_istore (pc' := 39) (lv' := [(0, .ref 182), (1, .int a1), (2, .int a2), (3, .int (M2 182 8)), (4, .int (nI 0))]) [1, 2, 3, 4, 0] rfl dX10_number_37 (by decide) rfl ?_
      exact pw_sub [0, 1, 2, 3, 4] rfl h
    · have h := h.2 q3
      refine pw_aload_n (pc' := 25) 0 rfl dX10_number_24 rfl rfl ?_
      refine pw_iconst (pc' := 26) rfl dX10_number_25 ci_1 ?_
      refine ps_putZ (pc' := 29) rfl dX10_number_26 fl_X10_140 ob_182 rfl (by decide) ?_
      refine pw_iconst (pc' := 30) rfl dX10_number_29 ci_0 ?_
      exact ps_iret dX10_number_30 rfl h
theorem T_X10_number_39 {M : Mem} {a1 : Int32} {a2 : Int32} {a3 : Int32} {a4 : Int32} {Q : Int32 → Mem → Prop}  (h : (((M 182 7) ≤ (M 182 8)) → (C_X10_in M (a4.toInt64) (a1.toInt64) (a2.toInt64) (fun r1 M1 => ((¬ r1 = 0) → ((((nI 0) = 0) → (Q a4 (wr (wr M1 182 9 (nI 0)) 182 8 (M1 182 8)))) ∧ ((¬ (nI 0) = 0) → (Q a4 (wr (wr M1 182 9 (nI 0)) 182 8 a3))))) ∧ ((r1 = 0) → ((((nI 1) = 0) → (Q a4 (wr (wr M1 182 9 (nI 1)) 182 8 (M1 182 8)))) ∧ ((¬ (nI 1) = 0) → (Q a4 (wr (wr M1 182 9 (nI 1)) 182 8 a3)))))))) ∧ ((¬ (M 182 7) ≤ (M 182 8)) → (vp_in (M 182 8) 80 ∧ (C_X10_in M ((M 185 (ix (M 182 8))).toInt64) (48 : Int64) (57 : Int64) (fun r2 M2 => ((r2 = 0) → (C_X10_in M2 (a4.toInt64) (a1.toInt64) (a2.toInt64) (fun r4 M4 => ((¬ r4 = 0) → ((((nI 0) = 0) → (Q a4 (wr (wr M4 182 9 (nI 0)) 182 8 (M4 182 8)))) ∧ ((¬ (nI 0) = 0) → (Q a4 (wr (wr M4 182 9 (nI 0)) 182 8 a3))))) ∧ ((r4 = 0) → ((((nI 1) = 0) → (Q a4 (wr (wr M4 182 9 (nI 1)) 182 8 (M4 182 8)))) ∧ ((¬ (nI 1) = 0) → (Q a4 (wr (wr M4 182 9 (nI 1)) 182 8 a3)))))))) ∧ ((¬ r2 = 0) → (((a4 ≤ (nI 999)) → (vp_in (M2 182 8) 80 ∧ (P_X10_number_39 (wr M2 182 8 ((M2 182 8) + (nI 1))) a1 a2 a3 ((((nI 10) * a4) + (M2 185 (ix (M2 182 8)))) - (nI 48)) Q))) ∧ ((¬ a4 ≤ (nI 999)) → (P_X10_number_39 (wr M2 182 8 ((M2 182 8) + (nI 1))) a1 a2 a3 a4 Q))))))))) : P_X10_number_39 M a1 a2 a3 a4 Q := by
  refine pw_aload_n (pc' := 40) 0 rfl dX10_number_39 rfl rfl ?_
  refine ps_getI (pc' := 43) (v := (M 182 8)) rfl dX10_number_40 fl_X10_137 ob_182 rfl rfl ?_
  refine pw_aload_n (pc' := 44) 0 rfl dX10_number_43 rfl rfl ?_
  refine ps_getI (pc' := 47) (v := (M 182 7)) rfl dX10_number_44 fl_X10_134 ob_182 rfl rfl ?_
  refine pw_icmp_ge (pc' := 50) (tgt := 118) rfl dX10_number_47 (by decide) (fun q0 => ?_) (fun q0 => ?_)
  · have h := h.1 q0
    refine pw_aload_n (pc' := 119) 0 rfl dX10_number_118 rfl rfl ?_
    refine pw_iload (pc' := 121) 4 rfl dX10_number_119 rfl ?_
    refine pw_i2l (pc' := 122) rfl dX10_number_121 rfl ?_
    refine pw_iload_n (pc' := 123) 1 rfl dX10_number_122 rfl rfl ?_
    refine pw_i2l (pc' := 124) rfl dX10_number_123 rfl ?_
    refine pw_iload_n (pc' := 125) 2 rfl dX10_number_124 rfl rfl ?_
    refine pw_i2l (pc' := 126) rfl dX10_number_125 rfl ?_
    refine ps_callSI (pc' := 129) (As := [.long (a4.toInt64), .long (a1.toInt64), .long (a2.toInt64)]) (rest := [.ref 182]) 3 rfl dX10_number_126 cs_X10_in ml_X10_98 (by decide) rfl rfl (by decide) (Nat.le_of_ble_eq_true rfl) (CA.monoI h ?_)
    intro r1 M1 h
    refine pw_if_ne (pc' := 132) (tgt := 136) rfl dX10_number_129 (by decide) (fun q2 => ?_) (fun q2 => ?_)
    · have h := h.1 q2
      refine pw_iconst (pc' := 137) rfl dX10_number_136 ci_0 ?_
      refine ps_putZ (pc' := 140) rfl dX10_number_137 fl_X10_140 ob_182 rfl (by decide) ?_
      refine pw_aload_n (pc' := 141) 0 rfl dX10_number_140 rfl rfl ?_
      refine pw_aload_n (pc' := 142) 0 rfl dX10_number_141 rfl rfl ?_
      refine ps_getI (pc' := 145) (v := (nI 0)) rfl dX10_number_142 fl_X10_140 ob_182 rfl rfl ?_
      refine pw_if_eq (pc' := 148) (tgt := 152) rfl dX10_number_145 (by decide) (fun q3 => ?_) (fun q3 => ?_)
      · have h := h.1 q3
        refine pw_aload_n (pc' := 153) 0 rfl dX10_number_152 rfl rfl ?_
        refine ps_getI (pc' := 156) (v := (M1 182 8)) rfl dX10_number_153 fl_X10_137 ob_182 rfl rfl ?_
        refine ps_putI (pc' := 159) rfl dX10_number_156 fl_X10_137 ob_182 rfl ?_
        refine pw_iload (pc' := 161) 4 rfl dX10_number_159 rfl ?_
        exact ps_iret dX10_number_161 rfl h
      · have h := h.2 q3
        refine pw_iload_n (pc' := 149) 3 rfl dX10_number_148 rfl rfl ?_
        refine pw_goto (tgt := 156) dX10_number_149 (by decide) ?_
        refine ps_putI (pc' := 159) rfl dX10_number_156 fl_X10_137 ob_182 rfl ?_
        refine pw_iload (pc' := 161) 4 rfl dX10_number_159 rfl ?_
        exact ps_iret dX10_number_161 rfl h
    · have h := h.2 q2
      refine pw_iconst (pc' := 133) rfl dX10_number_132 ci_1 ?_
      refine pw_goto (tgt := 137) dX10_number_133 (by decide) ?_
      refine ps_putZ (pc' := 140) rfl dX10_number_137 fl_X10_140 ob_182 rfl (by decide) ?_
      refine pw_aload_n (pc' := 141) 0 rfl dX10_number_140 rfl rfl ?_
      refine pw_aload_n (pc' := 142) 0 rfl dX10_number_141 rfl rfl ?_
      refine ps_getI (pc' := 145) (v := (nI 1)) rfl dX10_number_142 fl_X10_140 ob_182 rfl rfl ?_
      refine pw_if_eq (pc' := 148) (tgt := 152) rfl dX10_number_145 (by decide) (fun q3 => ?_) (fun q3 => ?_)
      · have h := h.1 q3
        refine pw_aload_n (pc' := 153) 0 rfl dX10_number_152 rfl rfl ?_
        refine ps_getI (pc' := 156) (v := (M1 182 8)) rfl dX10_number_153 fl_X10_137 ob_182 rfl rfl ?_
        refine ps_putI (pc' := 159) rfl dX10_number_156 fl_X10_137 ob_182 rfl ?_
        refine pw_iload (pc' := 161) 4 rfl dX10_number_159 rfl ?_
        exact ps_iret dX10_number_161 rfl h
      · have h := h.2 q3
        refine pw_iload_n (pc' := 149) 3 rfl dX10_number_148 rfl rfl ?_
        refine pw_goto (tgt := 156) dX10_number_149 (by decide) ?_
        refine ps_putI (pc' := 159) rfl dX10_number_156 fl_X10_137 ob_182 rfl ?_
        refine pw_iload (pc' := 161) 4 rfl dX10_number_159 rfl ?_
        exact ps_iret dX10_number_161 rfl h
  · have h := h.2 q0
    refine pw_aload_n (pc' := 51) 0 rfl dX10_number_50 rfl rfl ?_
    refine ps_getR (pc' := 54) (r := 185) rfl dX10_number_51 fl_X10_16 ob_182 rfl rfl ?_
    refine pw_aload_n (pc' := 55) 0 rfl dX10_number_54 rfl rfl ?_
    refine ps_getI (pc' := 58) (v := (M 182 8)) rfl dX10_number_55 fl_X10_137 ob_182 rfl rfl ?_
    obtain ⟨b1, h⟩ := h
    refine ps_iald (pc' := 59) (v := (M 185 (ix (M 182 8)))) rfl dX10_number_58 ia_185 b1 rfl ?_
    refine pw_i2l (pc' := 60) rfl dX10_number_59 rfl ?_
    refine pw_ldc2 (pc' := 63) rfl dX10_number_60 cn_X10_149 ?_
    refine pw_ldc2 (pc' := 66) rfl dX10_number_63 cn_X10_151 ?_
    refine ps_callSI (pc' := 69) (As := [.long ((M 185 (ix (M 182 8))).toInt64), .long (48 : Int64), .long (57 : Int64)]) (rest := []) 3 rfl dX10_number_66 cs_X10_in ml_X10_98 (by decide) rfl rfl (by decide) (Nat.le_of_ble_eq_true rfl) (CA.monoI h ?_)
    intro r2 M2 h
    refine pw_if_eq (pc' := 72) (tgt := 118) rfl dX10_number_69 (by decide) (fun q3 => ?_) (fun q3 => ?_)
    · have h := h.1 q3
      refine pw_aload_n (pc' := 119) 0 rfl dX10_number_118 rfl rfl ?_
      refine pw_iload (pc' := 121) 4 rfl dX10_number_119 rfl ?_
      refine pw_i2l (pc' := 122) rfl dX10_number_121 rfl ?_
      refine pw_iload_n (pc' := 123) 1 rfl dX10_number_122 rfl rfl ?_
      refine pw_i2l (pc' := 124) rfl dX10_number_123 rfl ?_
      refine pw_iload_n (pc' := 125) 2 rfl dX10_number_124 rfl rfl ?_
      refine pw_i2l (pc' := 126) rfl dX10_number_125 rfl ?_
      refine ps_callSI (pc' := 129) (As := [.long (a4.toInt64), .long (a1.toInt64), .long (a2.toInt64)]) (rest := [.ref 182]) 3 rfl dX10_number_126 cs_X10_in ml_X10_98 (by decide) rfl rfl (by decide) (Nat.le_of_ble_eq_true rfl) (CA.monoI h ?_)
      intro r4 M4 h
      refine pw_if_ne (pc' := 132) (tgt := 136) rfl dX10_number_129 (by decide) (fun q5 => ?_) (fun q5 => ?_)
      · have h := h.1 q5
        refine pw_iconst (pc' := 137) rfl dX10_number_136 ci_0 ?_
        refine ps_putZ (pc' := 140) rfl dX10_number_137 fl_X10_140 ob_182 rfl (by decide) ?_
        refine pw_aload_n (pc' := 141) 0 rfl dX10_number_140 rfl rfl ?_
        refine pw_aload_n (pc' := 142) 0 rfl dX10_number_141 rfl rfl ?_
        refine ps_getI (pc' := 145) (v := (nI 0)) rfl dX10_number_142 fl_X10_140 ob_182 rfl rfl ?_
        refine pw_if_eq (pc' := 148) (tgt := 152) rfl dX10_number_145 (by decide) (fun q6 => ?_) (fun q6 => ?_)
        · have h := h.1 q6
          refine pw_aload_n (pc' := 153) 0 rfl dX10_number_152 rfl rfl ?_
          refine ps_getI (pc' := 156) (v := (M4 182 8)) rfl dX10_number_153 fl_X10_137 ob_182 rfl rfl ?_
          refine ps_putI (pc' := 159) rfl dX10_number_156 fl_X10_137 ob_182 rfl ?_
          refine pw_iload (pc' := 161) 4 rfl dX10_number_159 rfl ?_
          exact ps_iret dX10_number_161 rfl h
        · have h := h.2 q6
          refine pw_iload_n (pc' := 149) 3 rfl dX10_number_148 rfl rfl ?_
          refine pw_goto (tgt := 156) dX10_number_149 (by decide) ?_
          refine ps_putI (pc' := 159) rfl dX10_number_156 fl_X10_137 ob_182 rfl ?_
          refine pw_iload (pc' := 161) 4 rfl dX10_number_159 rfl ?_
          exact ps_iret dX10_number_161 rfl h
      · have h := h.2 q5
        refine pw_iconst (pc' := 133) rfl dX10_number_132 ci_1 ?_
        refine pw_goto (tgt := 137) dX10_number_133 (by decide) ?_
        refine ps_putZ (pc' := 140) rfl dX10_number_137 fl_X10_140 ob_182 rfl (by decide) ?_
        refine pw_aload_n (pc' := 141) 0 rfl dX10_number_140 rfl rfl ?_
        refine pw_aload_n (pc' := 142) 0 rfl dX10_number_141 rfl rfl ?_
        refine ps_getI (pc' := 145) (v := (nI 1)) rfl dX10_number_142 fl_X10_140 ob_182 rfl rfl ?_
        refine pw_if_eq (pc' := 148) (tgt := 152) rfl dX10_number_145 (by decide) (fun q6 => ?_) (fun q6 => ?_)
        · have h := h.1 q6
          refine pw_aload_n (pc' := 153) 0 rfl dX10_number_152 rfl rfl ?_
          refine ps_getI (pc' := 156) (v := (M4 182 8)) rfl dX10_number_153 fl_X10_137 ob_182 rfl rfl ?_
          refine ps_putI (pc' := 159) rfl dX10_number_156 fl_X10_137 ob_182 rfl ?_
          refine pw_iload (pc' := 161) 4 rfl dX10_number_159 rfl ?_
          exact ps_iret dX10_number_161 rfl h
        · have h := h.2 q6
          refine pw_iload_n (pc' := 149) 3 rfl dX10_number_148 rfl rfl ?_
          refine pw_goto (tgt := 156) dX10_number_149 (by decide) ?_
          refine ps_putI (pc' := 159) rfl dX10_number_156 fl_X10_137 ob_182 rfl ?_
          refine pw_iload (pc' := 161) 4 rfl dX10_number_159 rfl ?_
          exact ps_iret dX10_number_161 rfl h
    · have h := h.2 q3
      refine pw_iload (pc' := 74) 4 rfl dX10_number_72 rfl ?_
      refine pw_sipush (pc' := 77) rfl dX10_number_74 cs_999 ?_
      refine pw_icmp_le (pc' := 80) (tgt := 85) rfl dX10_number_77 (by decide) (fun q4 => ?_) (fun q4 => ?_)
      · have h := h.1 q4
        refine pw_bipush (pc' := 87) rfl dX10_number_85 cb_10 ?_
        refine pw_iload (pc' := 89) 4 rfl dX10_number_87 rfl ?_
        refine pw_imul (pc' := 90) rfl dX10_number_89 ?_
        refine pw_aload_n (pc' := 91) 0 rfl dX10_number_90 rfl rfl ?_
        refine ps_getR (pc' := 94) (r := 185) rfl dX10_number_91 fl_X10_16 ob_182 rfl rfl ?_
        refine pw_aload_n (pc' := 95) 0 rfl dX10_number_94 rfl rfl ?_
        refine ps_getI (pc' := 98) (v := (M2 182 8)) rfl dX10_number_95 fl_X10_137 ob_182 rfl rfl ?_
        obtain ⟨b5, h⟩ := h
        refine ps_iald (pc' := 99) (v := (M2 185 (ix (M2 182 8)))) rfl dX10_number_98 ia_185 b5 rfl ?_
        refine pw_iadd (pc' := 100) rfl dX10_number_99 ?_
        refine pw_bipush (pc' := 102) rfl dX10_number_100 cb_48 ?_
        refine pw_isub (pc' := 103) rfl dX10_number_102 ?_
        refine pw_istore (pc' := 105) (lv' := [(0, .ref 182), (1, .int a1), (2, .int a2), (3, .int a3), (4, .int ((((nI 10) * a4) + (M2 185 (ix (M2 182 8)))) - (nI 48)))]) [1, 2, 3, 4, 0] rfl dX10_number_103 (by decide) rfl ?_
        refine pw_aload_n (pc' := 106) 0 rfl dX10_number_105 rfl rfl ?_
        refine pw_dup (pc' := 107) rfl dX10_number_106 rfl ?_
        refine ps_getI (pc' := 110) (v := (M2 182 8)) rfl dX10_number_107 fl_X10_137 ob_182 rfl rfl ?_
        refine pw_iconst (pc' := 111) rfl dX10_number_110 ci_1 ?_
        refine pw_iadd (pc' := 112) rfl dX10_number_111 ?_
        refine ps_putI (pc' := 115) rfl dX10_number_112 fl_X10_137 ob_182 rfl ?_
        refine pw_goto (tgt := 39) dX10_number_115 (by decide) ?_
        exact pw_sub [0, 1, 2, 3, 4] rfl h
      · have h := h.2 q4
        refine pw_iload (pc' := 82) 4 rfl dX10_number_80 rfl ?_
        refine pw_goto (tgt := 103) dX10_number_82 (by decide) ?_
        refine pw_istore (pc' := 105) (lv' := [(0, .ref 182), (1, .int a1), (2, .int a2), (3, .int a3), (4, .int a4)]) [1, 2, 3, 4, 0] rfl dX10_number_103 (by decide) rfl ?_
        refine pw_aload_n (pc' := 106) 0 rfl dX10_number_105 rfl rfl ?_
        refine pw_dup (pc' := 107) rfl dX10_number_106 rfl ?_
        refine ps_getI (pc' := 110) (v := (M2 182 8)) rfl dX10_number_107 fl_X10_137 ob_182 rfl rfl ?_
        refine pw_iconst (pc' := 111) rfl dX10_number_110 ci_1 ?_
        refine pw_iadd (pc' := 112) rfl dX10_number_111 ?_
        refine ps_putI (pc' := 115) rfl dX10_number_112 fl_X10_137 ob_182 rfl ?_
        refine pw_goto (tgt := 39) dX10_number_115 (by decide) ?_
        exact pw_sub [0, 1, 2, 3, 4] rfl h
theorem T_X10_guest {M : Mem} {a1 : Int32} {a2 : Int32} {Q : Int32 → Mem → Prop}  (h : C_X10_in M (a1.toInt64) (0 : Int64) (((M 182 3) - (nI 1)).toInt64) (fun r0 M0 => ((r0 = 0) → (Q (-1) M0)) ∧ ((¬ r0 = 0) → (C_X10_isTick M0 a2 (fun r2 M2 => ((r2 = 0) → (Q (-1) M2)) ∧ ((¬ r2 = 0) → (vp_in (((nI 24) * a1) + a2) 72 ∧ (Q (M2 184 (ix (((nI 24) * a1) + a2))) M2)))))))) : C_X10_guest M a1 a2 Q := by
  refine CA_of rfl (Nat.le_of_ble_eq_true rfl) ?_
  show PS _ _ 0 [(0, .ref 182), (1, .int a1), (2, .int a2)] [] M _
  refine pw_iload_n (pc' := 1) 1 rfl dX10_guest_0 rfl rfl ?_
  refine pw_i2l (pc' := 2) rfl dX10_guest_1 rfl ?_
  refine pw_lconst (pc' := 3) rfl dX10_guest_2 rfl ?_
  refine pw_aload_n (pc' := 4) 0 rfl dX10_guest_3 rfl rfl ?_
  refine ps_getI (pc' := 7) (v := (M 182 3)) rfl dX10_guest_4 fl_X10_119 ob_182 rfl rfl ?_
  refine pw_iconst (pc' := 8) rfl dX10_guest_7 ci_1 ?_
  refine pw_isub (pc' := 9) rfl dX10_guest_8 ?_
  refine pw_i2l (pc' := 10) rfl dX10_guest_9 rfl ?_
  refine ps_callSI (pc' := 13) (As := [.long (a1.toInt64), .long (0 : Int64), .long (((M 182 3) - (nI 1)).toInt64)]) (rest := []) 3 rfl dX10_guest_10 cs_X10_in ml_X10_98 (by decide) rfl rfl (by decide) (Nat.le_of_ble_eq_true rfl) (CA.monoI h ?_)
  intro r0 M0 h
  refine pw_if_eq (pc' := 16) (tgt := 37) rfl dX10_guest_13 (by decide) (fun q1 => ?_) (fun q1 => ?_)
  · have h := h.1 q1
    refine pw_iconst (pc' := 38) rfl dX10_guest_37 ci_m1 ?_
    exact ps_iret dX10_guest_38 rfl h
  · have h := h.2 q1
    refine pw_iload_n (pc' := 17) 2 rfl dX10_guest_16 rfl rfl ?_
    refine ps_callSI (pc' := 20) (As := [.int a2]) (rest := []) 1 rfl dX10_guest_17 cs_X10_isTick ml_X10_164 (by decide) rfl rfl (by decide) (Nat.le_of_ble_eq_true rfl) (CA.monoI h ?_)
    intro r2 M2 h
    refine pw_if_eq (pc' := 23) (tgt := 37) rfl dX10_guest_20 (by decide) (fun q3 => ?_) (fun q3 => ?_)
    · have h := h.1 q3
      refine pw_iconst (pc' := 38) rfl dX10_guest_37 ci_m1 ?_
      exact ps_iret dX10_guest_38 rfl h
    · have h := h.2 q3
      refine pw_aload_n (pc' := 24) 0 rfl dX10_guest_23 rfl rfl ?_
      refine ps_getR (pc' := 27) (r := 184) rfl dX10_guest_24 fl_X10_13 ob_182 rfl rfl ?_
      refine pw_bipush (pc' := 29) rfl dX10_guest_27 cb_24 ?_
      refine pw_iload_n (pc' := 30) 1 rfl dX10_guest_29 rfl rfl ?_
      refine pw_imul (pc' := 31) rfl dX10_guest_30 ?_
      refine pw_iload_n (pc' := 32) 2 rfl dX10_guest_31 rfl rfl ?_
      refine pw_iadd (pc' := 33) rfl dX10_guest_32 ?_
      obtain ⟨b4, h⟩ := h
      refine ps_iald (pc' := 34) (v := (M2 184 (ix (((nI 24) * a1) + a2)))) rfl dX10_guest_33 ia_184 b4 rfl ?_
      refine pw_goto (tgt := 38) dX10_guest_34 (by decide) ?_
      exact ps_iret dX10_guest_38 rfl h
theorem T_X10_isTick {M : Mem} {a0 : Int32} {Q : Int32 → Mem → Prop}  (h : C_X10_in M (a0.toInt64) (0 : Int64) (23 : Int64) (fun r0 M0 => (r0 = 0 ∨ r0 = 1) ∧ Q r0 M0)) : C_X10_isTick M a0 Q := by
  refine CA_of rfl (Nat.le_of_ble_eq_true rfl) ?_
  show PS _ _ 0 [(0, .int a0)] [] M _
  refine pw_iload_n (pc' := 1) 0 rfl dX10_isTick_0 rfl rfl ?_
  refine pw_i2l (pc' := 2) rfl dX10_isTick_1 rfl ?_
  refine pw_lconst (pc' := 3) rfl dX10_isTick_2 rfl ?_
  refine pw_ldc2 (pc' := 6) rfl dX10_isTick_3 cn_X10_102 ?_
  refine ps_callSI (pc' := 9) (As := [.long (a0.toInt64), .long (0 : Int64), .long (23 : Int64)]) (rest := []) 3 rfl dX10_isTick_6 cs_X10_in ml_X10_98 (by decide) rfl rfl (by decide) (Nat.le_of_ble_eq_true rfl) (CA.monoI h ?_)
  intro r0 M0 h
  exact ps_zret dX10_isTick_9 rfl h.1 h.2
theorem T_X10_trip {M : Mem} {a1 : Int32} {a2 : Int32} {a3 : Int32} {a4 : Int32} {a5 : Int32} {Q : Int32 → Mem → Prop}  (h : C_X10_isRoom M a1 (fun r0 M0 => ((r0 = 0) → (Q (-1) M0)) ∧ ((¬ r0 = 0) → (C_X10_isTick M0 a2 (fun r2 M2 => ((r2 = 0) → (Q (-1) M2)) ∧ ((¬ r2 = 0) → (C_X10_isRoom M2 a3 (fun r4 M4 => ((r4 = 0) → (Q (-1) M4)) ∧ ((¬ r4 = 0) → (C_X10_in M4 (a5.toInt64) (-1 : Int64) (23 : Int64) (fun r6 M6 => ((¬ r6 = 0) → (C_X10_lays M6 (fun M8 => C_X10_endOf M8 a1 a2 a3 a4 (fun r9 M9 => ((a5 < 0) → (Q r9 M9)) ∧ ((¬ a5 < 0) → (((0 ≤ r9) → (C_X10_in M9 (a5.toInt64) (a2.toInt64) (r9.toInt64) (fun r12 M12 => ((¬ r12 = 0) → (C_X10_reaches M12 a1 a2 a4 (fun M14 => vp_in r9 24 ∧ (P_X10_trip_109 (wr M14 187 (ix r9) ((nI 1) <<< (a3 &&& 31))) a1 a2 a4 a5 (r9 - (nI 1)) Q)))) ∧ ((r12 = 0) → (Q (-4) M12))))) ∧ ((¬ 0 ≤ r9) → (Q r9 M9)))))))) ∧ ((r6 = 0) → (Q (-1) M6))))))))))))) : C_X10_trip M a1 a2 a3 a4 a5 Q := by
  refine CA_of rfl (Nat.le_of_ble_eq_true rfl) ?_
  show PS _ _ 0 [(0, .ref 182), (1, .int a1), (2, .int a2), (3, .int a3), (4, .int a4), (5, .int a5)] [] M _
  refine pw_aload_n (pc' := 1) 0 rfl dX10_trip_0 rfl rfl ?_
  refine pw_iload_n (pc' := 2) 1 rfl dX10_trip_1 rfl rfl ?_
  refine ps_callVI (pc' := 5) (As := [.int a1]) (rest := []) (cT := (RX10, TX10, 44)) 1 rfl dX10_trip_2 cv_X10_isRoom ml_X10_108 (by decide) rfl rfl (by decide) (Nat.le_of_ble_eq_true rfl) ob_182 rfl rfl (CA.monoI h ?_)
  intro r0 M0 h
  refine pw_if_eq (pc' := 8) (tgt := 38) rfl dX10_trip_5 (by decide) (fun q1 => ?_) (fun q1 => ?_)
  · have h := h.1 q1
    refine pw_iconst (pc' := 39) rfl dX10_trip_38 ci_m1 ?_
    exact ps_iret dX10_trip_39 rfl h
  · have h := h.2 q1
    refine pw_iload_n (pc' := 9) 2 rfl dX10_trip_8 rfl rfl ?_
    refine ps_callSI (pc' := 12) (As := [.int a2]) (rest := []) 1 rfl dX10_trip_9 cs_X10_isTick ml_X10_164 (by decide) rfl rfl (by decide) (Nat.le_of_ble_eq_true rfl) (CA.monoI h ?_)
    intro r2 M2 h
    refine pw_if_eq (pc' := 15) (tgt := 38) rfl dX10_trip_12 (by decide) (fun q3 => ?_) (fun q3 => ?_)
    · have h := h.1 q3
      refine pw_iconst (pc' := 39) rfl dX10_trip_38 ci_m1 ?_
      exact ps_iret dX10_trip_39 rfl h
    · have h := h.2 q3
      refine pw_aload_n (pc' := 16) 0 rfl dX10_trip_15 rfl rfl ?_
      refine pw_iload_n (pc' := 17) 3 rfl dX10_trip_16 rfl rfl ?_
      refine ps_callVI (pc' := 20) (As := [.int a3]) (rest := []) (cT := (RX10, TX10, 44)) 1 rfl dX10_trip_17 cv_X10_isRoom ml_X10_108 (by decide) rfl rfl (by decide) (Nat.le_of_ble_eq_true rfl) ob_182 rfl rfl (CA.monoI h ?_)
      intro r4 M4 h
      refine pw_if_eq (pc' := 23) (tgt := 38) rfl dX10_trip_20 (by decide) (fun q5 => ?_) (fun q5 => ?_)
      · have h := h.1 q5
        refine pw_iconst (pc' := 39) rfl dX10_trip_38 ci_m1 ?_
        exact ps_iret dX10_trip_39 rfl h
      · have h := h.2 q5
        refine pw_iload (pc' := 25) 5 rfl dX10_trip_23 rfl ?_
        refine pw_i2l (pc' := 26) rfl dX10_trip_25 rfl ?_
        refine pw_ldc2 (pc' := 29) rfl dX10_trip_26 cn_X10_178 ?_
        refine pw_ldc2 (pc' := 32) rfl dX10_trip_29 cn_X10_102 ?_
        refine ps_callSI (pc' := 35) (As := [.long (a5.toInt64), .long (-1 : Int64), .long (23 : Int64)]) (rest := []) 3 rfl dX10_trip_32 cs_X10_in ml_X10_98 (by decide) rfl rfl (by decide) (Nat.le_of_ble_eq_true rfl) (CA.monoI h ?_)
        intro r6 M6 h
        refine pw_if_ne (pc' := 38) (tgt := 40) rfl dX10_trip_35 (by decide) (fun q7 => ?_) (fun q7 => ?_)
        · have h := h.1 q7
          refine pw_aload_n (pc' := 41) 0 rfl dX10_trip_40 rfl rfl ?_
          refine ps_callVV (pc' := 44) (As := []) (rest := []) (cT := (RX10, TX10, 44)) 0 rfl dX10_trip_41 cv_X10_lays ml_X10_180 (by decide) rfl rfl (by decide) (Nat.le_of_ble_eq_true rfl) ob_182 rfl rfl (CA.monoV h ?_)
          intro M8 h
          refine pw_aload_n (pc' := 45) 0 rfl dX10_trip_44 rfl rfl ?_
          refine pw_iload_n (pc' := 46) 1 rfl dX10_trip_45 rfl rfl ?_
          refine pw_iload_n (pc' := 47) 2 rfl dX10_trip_46 rfl rfl ?_
          refine pw_iload_n (pc' := 48) 3 rfl dX10_trip_47 rfl rfl ?_
          refine pw_iload (pc' := 50) 4 rfl dX10_trip_48 rfl ?_
          refine ps_callVI (pc' := 53) (As := [.int a1, .int a2, .int a3, .int a4]) (rest := []) (cT := (RX10, TX10, 44)) 4 rfl dX10_trip_50 cv_X10_endOf ml_X10_183 (by decide) rfl rfl (by decide) (Nat.le_of_ble_eq_true rfl) ob_182 rfl rfl (CA.monoI h ?_)
          intro r9 M9 h
          refine pw_istore (pc' := 55) (lv' := [(0, .ref 182), (1, .int a1), (2, .int a2), (3, .int a3), (4, .int a4), (5, .int a5), (6, .int r9)]) [1, 2, 3, 4, 5, 6, 0] rfl dX10_trip_53 (by decide) rfl ?_
          refine pw_iload (pc' := 57) 5 rfl dX10_trip_55 rfl ?_
          refine pw_if_lt (pc' := 60) (tgt := 65) rfl dX10_trip_57 (by decide) (fun q10 => ?_) (fun q10 => ?_)
          · have h := h.1 q10
            refine pw_iload (pc' := 67) 6 rfl dX10_trip_65 rfl ?_
            exact ps_iret dX10_trip_67 rfl h
          · have h := h.2 q10
            refine pw_iload (pc' := 62) 6 rfl dX10_trip_60 rfl ?_
            refine pw_if_ge (pc' := 65) (tgt := 68) rfl dX10_trip_62 (by decide) (fun q11 => ?_) (fun q11 => ?_)
            · have h := h.1 q11
              refine pw_iload (pc' := 70) 5 rfl dX10_trip_68 rfl ?_
              refine pw_i2l (pc' := 71) rfl dX10_trip_70 rfl ?_
              refine pw_iload_n (pc' := 72) 2 rfl dX10_trip_71 rfl rfl ?_
              refine pw_i2l (pc' := 73) rfl dX10_trip_72 rfl ?_
              refine pw_iload (pc' := 75) 6 rfl dX10_trip_73 rfl ?_
              refine pw_i2l (pc' := 76) rfl dX10_trip_75 rfl ?_
              refine ps_callSI (pc' := 79) (As := [.long (a5.toInt64), .long (a2.toInt64), .long (r9.toInt64)]) (rest := []) 3 rfl dX10_trip_76 cs_X10_in ml_X10_98 (by decide) rfl rfl (by decide) (Nat.le_of_ble_eq_true rfl) (CA.monoI h ?_)
              intro r12 M12 h
              refine pw_if_ne (pc' := 82) (tgt := 85) rfl dX10_trip_79 (by decide) (fun q13 => ?_) (fun q13 => ?_)
              · have h := h.1 q13
                refine pw_aload_n (pc' := 86) 0 rfl dX10_trip_85 rfl rfl ?_
                refine pw_iload_n (pc' := 87) 1 rfl dX10_trip_86 rfl rfl ?_
                refine pw_iload_n (pc' := 88) 2 rfl dX10_trip_87 rfl rfl ?_
                refine pw_iload (pc' := 90) 4 rfl dX10_trip_88 rfl ?_
                refine ps_callVV (pc' := 93) (As := [.int a1, .int a2, .int a4]) (rest := []) (cT := (RX10, TX10, 44)) 3 rfl dX10_trip_90 cv_X10_reaches ml_X10_174 (by decide) rfl rfl (by decide) (Nat.le_of_ble_eq_true rfl) ob_182 rfl rfl (CA.monoV h ?_)
                intro M14 h
                refine pw_aload_n (pc' := 94) 0 rfl dX10_trip_93 rfl rfl ?_
                refine ps_getR (pc' := 97) (r := 187) rfl dX10_trip_94 fl_X10_22 ob_182 rfl rfl ?_
                refine pw_iload (pc' := 99) 6 rfl dX10_trip_97 rfl ?_
                refine pw_iconst (pc' := 100) rfl dX10_trip_99 ci_1 ?_
                refine pw_iload_n (pc' := 101) 3 rfl dX10_trip_100 rfl rfl ?_
                refine pw_ishl (pc' := 102) rfl dX10_trip_101 ?_
                obtain ⟨b15, h⟩ := h
                refine ps_iast (pc' := 103) rfl dX10_trip_102 ia_187 b15 ?_
                refine pw_iload (pc' := 105) 6 rfl dX10_trip_103 rfl ?_
                refine pw_iconst (pc' := 106) rfl dX10_trip_105 ci_1 ?_
                refine pw_isub (pc' := 107) rfl dX10_trip_106 ?_
                refine pw_istore (pc' := 109) (lv' := [(0, .ref 182), (1, .int a1), (2, .int a2), (3, .int a3), (4, .int a4), (5, .int a5), (6, .int r9), (7, .int (r9 - (nI 1)))]) [1, 2, 3, 4, 5, 6, 7, 0] rfl dX10_trip_107 (by decide) rfl ?_
                exact pw_sub [0, 1, 2, 4, 5, 7] rfl h
              · have h := h.2 q13
                refine pw_bipush (pc' := 84) rfl dX10_trip_82 cb_m4 ?_
                exact ps_iret dX10_trip_84 rfl h
            · have h := h.2 q11
              refine pw_iload (pc' := 67) 6 rfl dX10_trip_65 rfl ?_
              exact ps_iret dX10_trip_67 rfl h
        · have h := h.2 q7
          refine pw_iconst (pc' := 39) rfl dX10_trip_38 ci_m1 ?_
          exact ps_iret dX10_trip_39 rfl h
theorem T_X10_trip_109 {M : Mem} {a1 : Int32} {a2 : Int32} {a4 : Int32} {a5 : Int32} {a7 : Int32} {Q : Int32 → Mem → Prop}  (h : ((a7 < a2) → (P_X10_trip_237 M a4 a5 a1 a2 Q)) ∧ ((¬ a7 < a2) → (P_X10_trip_121 M a1 a2 a4 a5 a7 (nI 0) (nI 0) Q))) : P_X10_trip_109 M a1 a2 a4 a5 a7 Q := by
  refine pw_iload (pc' := 111) 5 rfl dX10_trip_109 rfl ?_
  refine pw_iload_n (pc' := 112) 2 rfl dX10_trip_111 rfl rfl ?_
  refine pw_icmp_lt (pc' := 115) (tgt := 231) rfl dX10_trip_112 (by decide) (fun q0 => ?_) (fun q0 => ?_)
  · have h := h.1 q0
    refine pw_iload_n (pc' := 232) 1 rfl dX10_trip_231 rfl rfl ?_
    refine pw_istore (pc' := 234) (lv' := [(0, .ref 182), (1, .int a1), (2, .int a2), (4, .int a4), (5, .int a5), (7, .int a1)]) [1, 2, 3, 4, 5, 0] rfl dX10_trip_232 (by decide) rfl ?_
    refine pw_iload_n (pc' := 235) 2 rfl dX10_trip_234 rfl rfl ?_
    refine pw_istore (pc' := 237) (lv' := [(0, .ref 182), (1, .int a1), (2, .int a2), (4, .int a4), (5, .int a5), (7, .int a1), (8, .int a2)]) [1, 2, 3, 4, 5, 6, 0] rfl dX10_trip_235 (by decide) rfl ?_
    exact pw_sub [0, 3, 4, 5, 6] rfl h
  · have h := h.2 q0
    refine pw_iconst (pc' := 116) rfl dX10_trip_115 ci_0 ?_
    refine pw_istore (pc' := 118) (lv' := [(0, .ref 182), (1, .int a1), (2, .int a2), (4, .int a4), (5, .int a5), (7, .int a7), (8, .int (nI 0))]) [1, 2, 3, 4, 5, 6, 0] rfl dX10_trip_116 (by decide) rfl ?_
    refine pw_iconst (pc' := 119) rfl dX10_trip_118 ci_0 ?_
    refine pw_istore (pc' := 121) (lv' := [(0, .ref 182), (1, .int a1), (2, .int a2), (4, .int a4), (5, .int a5), (7, .int a7), (8, .int (nI 0)), (9, .int (nI 0))]) [1, 2, 3, 4, 5, 6, 7, 0] rfl dX10_trip_119 (by decide) rfl ?_
    exact pw_sub [0, 1, 2, 3, 4, 5, 6, 7] rfl h
theorem T_X10_trip_121 {M : Mem} {a1 : Int32} {a2 : Int32} {a4 : Int32} {a5 : Int32} {a7 : Int32} {a8 : Int32} {a9 : Int32} {Q : Int32 → Mem → Prop}  (h : (((M 182 0) ≤ a9) → (vp_in a7 24 ∧ (P_X10_trip_109 (wr M 187 (ix a7) a8) a1 a2 a4 a5 (a7 + (-1)) Q))) ∧ ((¬ (M 182 0) ≤ a9) → (P_X10_trip_133 M a1 a2 a4 a5 a7 a8 a9 (nI 0) Q))) : P_X10_trip_121 M a1 a2 a4 a5 a7 a8 a9 Q := by
  refine pw_iload (pc' := 123) 7 rfl dX10_trip_121 rfl ?_
  refine pw_aload_n (pc' := 124) 0 rfl dX10_trip_123 rfl rfl ?_
  refine ps_getI (pc' := 127) (v := (M 182 0)) rfl dX10_trip_124 fl_X10_95 ob_182 rfl rfl ?_
  refine pw_icmp_ge (pc' := 130) (tgt := 216) rfl dX10_trip_127 (by decide) (fun q0 => ?_) (fun q0 => ?_)
  · have h := h.1 q0
    refine pw_aload_n (pc' := 217) 0 rfl dX10_trip_216 rfl rfl ?_
    refine ps_getR (pc' := 220) (r := 187) rfl dX10_trip_217 fl_X10_22 ob_182 rfl rfl ?_
    refine pw_iload (pc' := 222) 5 rfl dX10_trip_220 rfl ?_
    refine pw_iload (pc' := 224) 6 rfl dX10_trip_222 rfl ?_
    obtain ⟨b1, h⟩ := h
    refine ps_iast (pc' := 225) rfl dX10_trip_224 ia_187 b1 ?_
    refine pw_iinc (pc' := 228) (lv' := [(0, .ref 182), (1, .int a1), (2, .int a2), (4, .int a4), (5, .int a5), (7, .int (a7 + (-1))), (8, .int a8), (9, .int a9)]) 5 [1, 2, 3, 4, 5, 0, 6, 7] rfl dX10_trip_225 rfl (ii_m1 _) (by decide) rfl ?_
    refine pw_goto (tgt := 109) dX10_trip_228 (by decide) ?_
    exact pw_sub [0, 1, 2, 3, 4, 5] rfl h
  · have h := h.2 q0
    refine pw_iconst (pc' := 131) rfl dX10_trip_130 ci_0 ?_
    refine pw_istore (pc' := 133) (lv' := [(0, .ref 182), (1, .int a1), (2, .int a2), (4, .int a4), (5, .int a5), (7, .int a7), (8, .int a8), (9, .int a9), (10, .int (nI 0))]) [1, 2, 3, 4, 5, 6, 7, 8, 0] rfl dX10_trip_131 (by decide) rfl ?_
    exact pw_sub [0, 1, 2, 3, 4, 5, 6, 7, 8] rfl h
theorem T_X10_trip_133 {M : Mem} {a1 : Int32} {a2 : Int32} {a4 : Int32} {a5 : Int32} {a7 : Int32} {a8 : Int32} {a9 : Int32} {a10 : Int32} {Q : Int32 → Mem → Prop}  (h : (((M 182 0) ≤ a10) → (P_X10_trip_121 M a1 a2 a4 a5 a7 a8 (a9 + (nI 1)) Q)) ∧ ((¬ (M 182 0) ≤ a10) → (vp_in a7 24 ∧ (((¬ (((M 187 (ix a7)) >>> (a9 &&& 31)) &&& (nI 1)) = (nI 1)) → (P_X10_trip_121 M a1 a2 a4 a5 a7 a8 (a9 + (nI 1)) Q)) ∧ (((((M 187 (ix a7)) >>> (a9 &&& 31)) &&& (nI 1)) = (nI 1)) → (vp_in (a7 + (nI 1)) 24 ∧ (((¬ (((M 187 (ix (a7 + (nI 1)))) >>> (a10 &&& 31)) &&& (nI 1)) = (nI 1)) → (P_X10_trip_133 M a1 a2 a4 a5 a7 (a8 ||| (nI 0)) a9 (a10 + (nI 1)) Q)) ∧ (((((M 187 (ix (a7 + (nI 1)))) >>> (a10 &&& 31)) &&& (nI 1)) = (nI 1)) → (C_X10_may M a9 a7 a10 a4 (fun r5 M5 => ((r5 = 0) → (P_X10_trip_133 M5 a1 a2 a4 a5 a7 (a8 ||| (nI 0)) a9 (a10 + (nI 1)) Q)) ∧ ((¬ r5 = 0) → (P_X10_trip_133 M5 a1 a2 a4 a5 a7 (a8 ||| ((nI 1) <<< (a9 &&& 31))) a9 (a10 + (nI 1)) Q)))))))))))) : P_X10_trip_133 M a1 a2 a4 a5 a7 a8 a9 a10 Q := by
  refine pw_iload (pc' := 135) 8 rfl dX10_trip_133 rfl ?_
  refine pw_aload_n (pc' := 136) 0 rfl dX10_trip_135 rfl rfl ?_
  refine ps_getI (pc' := 139) (v := (M 182 0)) rfl dX10_trip_136 fl_X10_95 ob_182 rfl rfl ?_
  refine pw_icmp_ge (pc' := 142) (tgt := 210) rfl dX10_trip_139 (by decide) (fun q0 => ?_) (fun q0 => ?_)
  · have h := h.1 q0
    refine pw_iinc (pc' := 213) (lv' := [(0, .ref 182), (1, .int a1), (2, .int a2), (4, .int a4), (5, .int a5), (7, .int a7), (8, .int a8), (9, .int (a9 + (nI 1))), (10, .int a10)]) 7 [1, 2, 3, 4, 5, 6, 7, 0, 8] rfl dX10_trip_210 rfl (ii_1 _) (by decide) rfl ?_
    refine pw_goto (tgt := 121) dX10_trip_213 (by decide) ?_
    exact pw_sub [0, 1, 2, 3, 4, 5, 6, 7] rfl h
  · have h := h.2 q0
    refine pw_aload_n (pc' := 143) 0 rfl dX10_trip_142 rfl rfl ?_
    refine ps_getR (pc' := 146) (r := 187) rfl dX10_trip_143 fl_X10_22 ob_182 rfl rfl ?_
    refine pw_iload (pc' := 148) 5 rfl dX10_trip_146 rfl ?_
    obtain ⟨b1, h⟩ := h
    refine ps_iald (pc' := 149) (v := (M 187 (ix a7))) rfl dX10_trip_148 ia_187 b1 rfl ?_
    refine pw_iload (pc' := 151) 7 rfl dX10_trip_149 rfl ?_
    refine pw_ishr (pc' := 152) rfl dX10_trip_151 ?_
    refine pw_iconst (pc' := 153) rfl dX10_trip_152 ci_1 ?_
    refine pw_iand (pc' := 154) rfl dX10_trip_153 ?_
    refine pw_iconst (pc' := 155) rfl dX10_trip_154 ci_1 ?_
    refine pw_icmp_ne (pc' := 158) (tgt := 210) rfl dX10_trip_155 (by decide) (fun q2 => ?_) (fun q2 => ?_)
    · have h := h.1 q2
      refine pw_iinc (pc' := 213) (lv' := [(0, .ref 182), (1, .int a1), (2, .int a2), (4, .int a4), (5, .int a5), (7, .int a7), (8, .int a8), (9, .int (a9 + (nI 1))), (10, .int a10)]) 7 [1, 2, 3, 4, 5, 6, 7, 0, 8] rfl dX10_trip_210 rfl (ii_1 _) (by decide) rfl ?_
      refine pw_goto (tgt := 121) dX10_trip_213 (by decide) ?_
      exact pw_sub [0, 1, 2, 3, 4, 5, 6, 7] rfl h
    · have h := h.2 q2
      refine pw_iload (pc' := 160) 6 rfl dX10_trip_158 rfl ?_
      refine pw_aload_n (pc' := 161) 0 rfl dX10_trip_160 rfl rfl ?_
      refine ps_getR (pc' := 164) (r := 187) rfl dX10_trip_161 fl_X10_22 ob_182 rfl rfl ?_
      refine pw_iload (pc' := 166) 5 rfl dX10_trip_164 rfl ?_
      refine pw_iconst (pc' := 167) rfl dX10_trip_166 ci_1 ?_
      refine pw_iadd (pc' := 168) rfl dX10_trip_167 ?_
      obtain ⟨b3, h⟩ := h
      refine ps_iald (pc' := 169) (v := (M 187 (ix (a7 + (nI 1))))) rfl dX10_trip_168 ia_187 b3 rfl ?_
      refine pw_iload (pc' := 171) 8 rfl dX10_trip_169 rfl ?_
      refine pw_ishr (pc' := 172) rfl dX10_trip_171 ?_
      refine pw_iconst (pc' := 173) rfl dX10_trip_172 ci_1 ?_
      refine pw_iand (pc' := 174) rfl dX10_trip_173 ?_
      refine pw_iconst (pc' := 175) rfl dX10_trip_174 ci_1 ?_
      refine pw_icmp_ne (pc' := 178) (tgt := 200) rfl dX10_trip_175 (by decide) (fun q4 => ?_) (fun q4 => ?_)
      · have h := h.1 q4
        refine pw_iconst (pc' := 201) rfl dX10_trip_200 ci_0 ?_
        refine pw_ior (pc' := 202) rfl dX10_trip_201 ?_
        refine pw_istore (pc' := 204) (lv' := [(0, .ref 182), (1, .int a1), (2, .int a2), (4, .int a4), (5, .int a5), (7, .int a7), (8, .int (a8 ||| (nI 0))), (9, .int a9), (10, .int a10)]) [1, 2, 3, 4, 5, 6, 0, 7, 8] rfl dX10_trip_202 (by decide) rfl ?_
        refine pw_iinc (pc' := 207) (lv' := [(0, .ref 182), (1, .int a1), (2, .int a2), (4, .int a4), (5, .int a5), (7, .int a7), (8, .int (a8 ||| (nI 0))), (9, .int a9), (10, .int (a10 + (nI 1)))]) 8 [1, 2, 3, 4, 5, 6, 7, 8, 0] rfl dX10_trip_204 rfl (ii_1 _) (by decide) rfl ?_
        refine pw_goto (tgt := 133) dX10_trip_207 (by decide) ?_
        exact pw_sub [0, 1, 2, 3, 4, 5, 6, 7, 8] rfl h
      · have h := h.2 q4
        refine pw_aload_n (pc' := 179) 0 rfl dX10_trip_178 rfl rfl ?_
        refine pw_iload (pc' := 181) 7 rfl dX10_trip_179 rfl ?_
        refine pw_iload (pc' := 183) 5 rfl dX10_trip_181 rfl ?_
        refine pw_iload (pc' := 185) 8 rfl dX10_trip_183 rfl ?_
        refine pw_iload (pc' := 187) 3 rfl dX10_trip_185 rfl ?_
        refine ps_callVI (pc' := 190) (As := [.int a9, .int a7, .int a10, .int a4]) (rest := [.int a8]) (cT := (RX10, TX10, 44)) 4 rfl dX10_trip_187 cv_X10_may ml_X10_170 (by decide) rfl rfl (by decide) (Nat.le_of_ble_eq_true rfl) ob_182 rfl rfl (CA.monoI h ?_)
        intro r5 M5 h
        refine pw_if_eq (pc' := 193) (tgt := 200) rfl dX10_trip_190 (by decide) (fun q6 => ?_) (fun q6 => ?_)
        · have h := h.1 q6
          refine pw_iconst (pc' := 201) rfl dX10_trip_200 ci_0 ?_
          refine pw_ior (pc' := 202) rfl dX10_trip_201 ?_
          refine pw_istore (pc' := 204) (lv' := [(0, .ref 182), (1, .int a1), (2, .int a2), (4, .int a4), (5, .int a5), (7, .int a7), (8, .int (a8 ||| (nI 0))), (9, .int a9), (10, .int a10)]) [1, 2, 3, 4, 5, 6, 0, 7, 8] rfl dX10_trip_202 (by decide) rfl ?_
          refine pw_iinc (pc' := 207) (lv' := [(0, .ref 182), (1, .int a1), (2, .int a2), (4, .int a4), (5, .int a5), (7, .int a7), (8, .int (a8 ||| (nI 0))), (9, .int a9), (10, .int (a10 + (nI 1)))]) 8 [1, 2, 3, 4, 5, 6, 7, 8, 0] rfl dX10_trip_204 rfl (ii_1 _) (by decide) rfl ?_
          refine pw_goto (tgt := 133) dX10_trip_207 (by decide) ?_
          exact pw_sub [0, 1, 2, 3, 4, 5, 6, 7, 8] rfl h
        · have h := h.2 q6
          refine pw_iconst (pc' := 194) rfl dX10_trip_193 ci_1 ?_
          refine pw_iload (pc' := 196) 7 rfl dX10_trip_194 rfl ?_
          refine pw_ishl (pc' := 197) rfl dX10_trip_196 ?_
          refine pw_goto (tgt := 201) dX10_trip_197 (by decide) ?_
          refine pw_ior (pc' := 202) rfl dX10_trip_201 ?_
          refine pw_istore (pc' := 204) (lv' := [(0, .ref 182), (1, .int a1), (2, .int a2), (4, .int a4), (5, .int a5), (7, .int a7), (8, .int (a8 ||| ((nI 1) <<< (a9 &&& 31)))), (9, .int a9), (10, .int a10)]) [1, 2, 3, 4, 5, 6, 0, 7, 8] rfl dX10_trip_202 (by decide) rfl ?_
          refine pw_iinc (pc' := 207) (lv' := [(0, .ref 182), (1, .int a1), (2, .int a2), (4, .int a4), (5, .int a5), (7, .int a7), (8, .int (a8 ||| ((nI 1) <<< (a9 &&& 31)))), (9, .int a9), (10, .int (a10 + (nI 1)))]) 8 [1, 2, 3, 4, 5, 6, 7, 8, 0] rfl dX10_trip_204 rfl (ii_1 _) (by decide) rfl ?_
          refine pw_goto (tgt := 133) dX10_trip_207 (by decide) ?_
          exact pw_sub [0, 1, 2, 3, 4, 5, 6, 7, 8] rfl h
theorem T_X10_trip_237 {M : Mem} {a4 : Int32} {a5 : Int32} {a7 : Int32} {a8 : Int32} {Q : Int32 → Mem → Prop}  (h : ((a5 ≤ a8) → (Q a7 M)) ∧ ((¬ a5 ≤ a8) → (P_X10_trip_256 M a4 a5 a7 a8 (-4) ((M 182 0) - (nI 1)) Q))) : P_X10_trip_237 M a4 a5 a7 a8 Q := by
  refine pw_iload (pc' := 239) 4 rfl dX10_trip_237 rfl ?_
  refine pw_iload (pc' := 241) 2 rfl dX10_trip_239 rfl ?_
  refine pw_icmp_ge (pc' := 244) (tgt := 319) rfl dX10_trip_241 (by decide) (fun q0 => ?_) (fun q0 => ?_)
  · have h := h.1 q0
    refine pw_iload (pc' := 321) 3 rfl dX10_trip_319 rfl ?_
    exact ps_iret dX10_trip_321 rfl h
  · have h := h.2 q0
    refine pw_bipush (pc' := 246) rfl dX10_trip_244 cb_m4 ?_
    refine pw_istore (pc' := 248) (lv' := [(0, .ref 182), (4, .int a4), (5, .int a5), (7, .int a7), (8, .int a8), (9, .int (-4))]) [1, 2, 3, 4, 5, 0] rfl dX10_trip_246 (by decide) rfl ?_
    refine pw_aload_n (pc' := 249) 0 rfl dX10_trip_248 rfl rfl ?_
    refine ps_getI (pc' := 252) (v := (M 182 0)) rfl dX10_trip_249 fl_X10_95 ob_182 rfl rfl ?_
    refine pw_iconst (pc' := 253) rfl dX10_trip_252 ci_1 ?_
    refine pw_isub (pc' := 254) rfl dX10_trip_253 ?_
    refine pw_istore (pc' := 256) (lv' := [(0, .ref 182), (4, .int a4), (5, .int a5), (7, .int a7), (8, .int a8), (9, .int (-4)), (10, .int ((M 182 0) - (nI 1)))]) [1, 2, 3, 4, 5, 6, 0] rfl dX10_trip_254 (by decide) rfl ?_
    exact pw_sub [0, 1, 2, 3, 4, 5, 6] rfl h
theorem T_X10_trip_256 {M : Mem} {a4 : Int32} {a5 : Int32} {a7 : Int32} {a8 : Int32} {a9 : Int32} {a10 : Int32} {Q : Int32 → Mem → Prop}  (h : ((a10 < 0) → (P_X10_trip_237 M a4 a5 a9 (a8 + (nI 1)) Q)) ∧ ((¬ a10 < 0) → (vp_in (a8 + (nI 1)) 24 ∧ (((¬ (((M 187 (ix (a8 + (nI 1)))) >>> (a10 &&& 31)) &&& (nI 1)) = (nI 1)) → (P_X10_trip_256 M a4 a5 a7 a8 a9 (a10 + (-1)) Q)) ∧ (((((M 187 (ix (a8 + (nI 1)))) >>> (a10 &&& 31)) &&& (nI 1)) = (nI 1)) → (C_X10_may M a7 a8 a10 a4 (fun r3 M3 => ((r3 = 0) → (P_X10_trip_256 M3 a4 a5 a7 a8 a9 (a10 + (-1)) Q)) ∧ ((¬ r3 = 0) → (P_X10_trip_256 M3 a4 a5 a7 a8 a10 (a10 + (-1)) Q))))))))) : P_X10_trip_256 M a4 a5 a7 a8 a9 a10 Q := by
  refine pw_iload (pc' := 258) 6 rfl dX10_trip_256 rfl ?_
  refine pw_if_lt (pc' := 261) (tgt := 309) rfl dX10_trip_258 (by decide) (fun q0 => ?_) (fun q0 => ?_)
  · have h := h.1 q0
    refine pw_iload (pc' := 311) 5 rfl dX10_trip_309 rfl ?_
    refine pw_istore (pc' := 313) (lv' := [(0, .ref 182), (4, .int a4), (5, .int a5), (7, .int a9), (8, .int a8), (9, .int a9), (10, .int a10)]) [1, 2, 3, 0, 4, 5, 6] rfl dX10_trip_311 (by decide) rfl ?_
    refine pw_iinc (pc' := 316) (lv' := [(0, .ref 182), (4, .int a4), (5, .int a5), (7, .int a9), (8, .int (a8 + (nI 1))), (9, .int a9), (10, .int a10)]) 4 [1, 2, 3, 4, 0, 5, 6] rfl dX10_trip_313 rfl (ii_1 _) (by decide) rfl ?_
    refine pw_goto (tgt := 237) dX10_trip_316 (by decide) ?_
    exact pw_sub [0, 1, 2, 3, 4] rfl h
  · have h := h.2 q0
    refine pw_aload_n (pc' := 262) 0 rfl dX10_trip_261 rfl rfl ?_
    refine ps_getR (pc' := 265) (r := 187) rfl dX10_trip_262 fl_X10_22 ob_182 rfl rfl ?_
    refine pw_iload (pc' := 267) 4 rfl dX10_trip_265 rfl ?_
    refine pw_iconst (pc' := 268) rfl dX10_trip_267 ci_1 ?_
    refine pw_iadd (pc' := 269) rfl dX10_trip_268 ?_
    obtain ⟨b1, h⟩ := h
    refine ps_iald (pc' := 270) (v := (M 187 (ix (a8 + (nI 1))))) rfl dX10_trip_269 ia_187 b1 rfl ?_
    refine pw_iload (pc' := 272) 6 rfl dX10_trip_270 rfl ?_
    refine pw_ishr (pc' := 273) rfl dX10_trip_272 ?_
    refine pw_iconst (pc' := 274) rfl dX10_trip_273 ci_1 ?_
    refine pw_iand (pc' := 275) rfl dX10_trip_274 ?_
    refine pw_iconst (pc' := 276) rfl dX10_trip_275 ci_1 ?_
    refine pw_icmp_ne (pc' := 279) (tgt := 299) rfl dX10_trip_276 (by decide) (fun q2 => ?_) (fun q2 => ?_)
    · have h := h.1 q2
      refine pw_iload (pc' := 301) 5 rfl dX10_trip_299 rfl ?_
      refine pw_istore (pc' := 303) (lv' := [(0, .ref 182), (4, .int a4), (5, .int a5), (7, .int a7), (8, .int a8), (9, .int a9), (10, .int a10)]) [1, 2, 3, 4, 5, 0, 6] rfl dX10_trip_301 (by decide) rfl ?_
      refine pw_iinc (pc' := 306) (lv' := [(0, .ref 182), (4, .int a4), (5, .int a5), (7, .int a7), (8, .int a8), (9, .int a9), (10, .int (a10 + (-1)))]) 6 [1, 2, 3, 4, 5, 6, 0] rfl dX10_trip_303 rfl (ii_m1 _) (by decide) rfl ?_
      refine pw_goto (tgt := 256) dX10_trip_306 (by decide) ?_
      exact pw_sub [0, 1, 2, 3, 4, 5, 6] rfl h
    · have h := h.2 q2
      refine pw_aload_n (pc' := 280) 0 rfl dX10_trip_279 rfl rfl ?_
      refine pw_iload (pc' := 282) 3 rfl dX10_trip_280 rfl ?_
      refine pw_iload (pc' := 284) 4 rfl dX10_trip_282 rfl ?_
      refine pw_iload (pc' := 286) 6 rfl dX10_trip_284 rfl ?_
      refine pw_iload (pc' := 288) 1 rfl dX10_trip_286 rfl ?_
      refine ps_callVI (pc' := 291) (As := [.int a7, .int a8, .int a10, .int a4]) (rest := []) (cT := (RX10, TX10, 44)) 4 rfl dX10_trip_288 cv_X10_may ml_X10_170 (by decide) rfl rfl (by decide) (Nat.le_of_ble_eq_true rfl) ob_182 rfl rfl (CA.monoI h ?_)
      intro r3 M3 h
      refine pw_if_eq (pc' := 294) (tgt := 299) rfl dX10_trip_291 (by decide) (fun q4 => ?_) (fun q4 => ?_)
      · have h := h.1 q4
        refine pw_iload (pc' := 301) 5 rfl dX10_trip_299 rfl ?_
        refine pw_istore (pc' := 303) (lv' := [(0, .ref 182), (4, .int a4), (5, .int a5), (7, .int a7), (8, .int a8), (9, .int a9), (10, .int a10)]) [1, 2, 3, 4, 5, 0, 6] rfl dX10_trip_301 (by decide) rfl ?_
        refine pw_iinc (pc' := 306) (lv' := [(0, .ref 182), (4, .int a4), (5, .int a5), (7, .int a7), (8, .int a8), (9, .int a9), (10, .int (a10 + (-1)))]) 6 [1, 2, 3, 4, 5, 6, 0] rfl dX10_trip_303 rfl (ii_m1 _) (by decide) rfl ?_
        refine pw_goto (tgt := 256) dX10_trip_306 (by decide) ?_
        exact pw_sub [0, 1, 2, 3, 4, 5, 6] rfl h
      · have h := h.2 q4
        refine pw_iload (pc' := 296) 6 rfl dX10_trip_294 rfl ?_
        refine pw_goto (tgt := 301) dX10_trip_296 (by decide) ?_
        refine pw_istore (pc' := 303) (lv' := [(0, .ref 182), (4, .int a4), (5, .int a5), (7, .int a7), (8, .int a8), (9, .int a10), (10, .int a10)]) [1, 2, 3, 4, 5, 0, 6] rfl dX10_trip_301 (by decide) rfl ?_
        refine pw_iinc (pc' := 306) (lv' := [(0, .ref 182), (4, .int a4), (5, .int a5), (7, .int a7), (8, .int a8), (9, .int a10), (10, .int (a10 + (-1)))]) 6 [1, 2, 3, 4, 5, 6, 0] rfl dX10_trip_303 rfl (ii_m1 _) (by decide) rfl ?_
        refine pw_goto (tgt := 256) dX10_trip_306 (by decide) ?_
        exact pw_sub [0, 1, 2, 3, 4, 5, 6] rfl h
theorem T_X10_lays {M : Mem}  {Q : Mem → Prop}  (h : P_X10_lays_2 M (nI 0) Q) : C_X10_lays M  Q := by
  refine CA_of rfl (Nat.le_of_ble_eq_true rfl) ?_
  show PS _ _ 0 [(0, .ref 182)] [] M _
  refine pw_iconst (pc' := 1) rfl dX10_lays_0 ci_0 ?_
  refine pw_istore_n (pc' := 2) (lv' := [(0, .ref 182), (1, .int (nI 0))]) [1, 0] rfl dX10_lays_1 rfl (by decide) rfl ?_
  exact pw_sub [0, 1] rfl h
theorem T_X10_lays_2 {M : Mem} {a1 : Int32} {Q : Mem → Prop}  (h : (((nI 480) ≤ a1) → (Q (wr M 182 13 (nI 1)))) ∧ ((¬ (nI 480) ≤ a1) → (((¬ (M 182 13) = 0) → (Q (wr M 182 13 (nI 1)))) ∧ (((M 182 13) = 0) → (((a1 < (nI 240)) → (P_X10_lays_46 M a1 (a1 - a1 / (nI 10) * (nI 10)) ((a1 / (nI 10)) - (a1 / (nI 10)) / (nI 24) * (nI 24)) (nI 0) (nI 0) Q)) ∧ ((¬ a1 < (nI 240)) → (P_X10_lays_46 M a1 (a1 - a1 / (nI 10) * (nI 10)) ((a1 / (nI 10)) - (a1 / (nI 10)) / (nI 24) * (nI 24)) (nI 1) (nI 0) Q))))))) : P_X10_lays_2 M a1 Q := by
  refine pw_iload_n (pc' := 3) 1 rfl dX10_lays_2 rfl rfl ?_
  refine pw_sipush (pc' := 6) rfl dX10_lays_3 cs_480 ?_
  refine pw_icmp_ge (pc' := 9) (tgt := 174) rfl dX10_lays_6 (by decide) (fun q0 => ?_) (fun q0 => ?_)
  · have h := h.1 q0
    refine pw_aload_n (pc' := 175) 0 rfl dX10_lays_174 rfl rfl ?_
    refine pw_iconst (pc' := 176) rfl dX10_lays_175 ci_1 ?_
    refine ps_putZ (pc' := 179) rfl dX10_lays_176 fl_X10_104 ob_182 rfl (by decide) ?_
    exact ps_vret dX10_lays_179 rfl h
  · have h := h.2 q0
    refine pw_aload_n (pc' := 10) 0 rfl dX10_lays_9 rfl rfl ?_
    refine ps_getI (pc' := 13) (v := (M 182 13)) rfl dX10_lays_10 fl_X10_104 ob_182 rfl rfl ?_
    refine pw_if_ne (pc' := 16) (tgt := 174) rfl dX10_lays_13 (by decide) (fun q1 => ?_) (fun q1 => ?_)
    · have h := h.1 q1
      refine pw_aload_n (pc' := 175) 0 rfl dX10_lays_174 rfl rfl ?_
      refine pw_iconst (pc' := 176) rfl dX10_lays_175 ci_1 ?_
      refine ps_putZ (pc' := 179) rfl dX10_lays_176 fl_X10_104 ob_182 rfl (by decide) ?_
      exact ps_vret dX10_lays_179 rfl h
    · have h := h.2 q1
      refine pw_iload_n (pc' := 17) 1 rfl dX10_lays_16 rfl rfl ?_
      refine pw_bipush (pc' := 19) rfl dX10_lays_17 cb_10 ?_
      refine pw_irem (pc' := 20) rfl dX10_lays_19 (by decide) ?_
      refine pw_istore_n (pc' := 21) (lv' := [(0, .ref 182), (1, .int a1), (2, .int (a1 - a1 / (nI 10) * (nI 10)))]) [1, 2, 0] rfl dX10_lays_20 rfl (by decide) rfl ?_
      refine pw_iload_n (pc' := 22) 1 rfl dX10_lays_21 rfl rfl ?_
      refine pw_bipush (pc' := 24) rfl dX10_lays_22 cb_10 ?_
      refine pw_idiv (pc' := 25) rfl dX10_lays_24 (by decide) ?_
      refine pw_bipush (pc' := 27) rfl dX10_lays_25 cb_24 ?_
      refine pw_irem (pc' := 28) rfl dX10_lays_27 (by decide) ?_
      refine pw_istore_n (pc' := 29) (lv' := [(0, .ref 182), (1, .int a1), (2, .int (a1 - a1 / (nI 10) * (nI 10))), (3, .int ((a1 / (nI 10)) - (a1 / (nI 10)) / (nI 24) * (nI 24)))]) [1, 2, 3, 0] rfl dX10_lays_28 rfl (by decide) rfl ?_
      refine pw_iload_n (pc' := 30) 1 rfl dX10_lays_29 rfl rfl ?_
      refine pw_sipush (pc' := 33) rfl dX10_lays_30 cs_240 ?_
      refine pw_icmp_lt (pc' := 36) (tgt := 40) rfl dX10_lays_33 (by decide) (fun q2 => ?_) (fun q2 => ?_)
      · have h := h.1 q2
        refine pw_iconst (pc' := 41) rfl dX10_lays_40 ci_0 ?_
        refine pw_istore (pc' := 43) (lv' := [(0, .ref 182), (1, .int a1), (2, .int (a1 - a1 / (nI 10) * (nI 10))), (3, .int ((a1 / (nI 10)) - (a1 / (nI 10)) / (nI 24) * (nI 24))), (4, .int (nI 0))]) [1, 2, 3, 4, 0] rfl dX10_lays_41 (by decide) rfl ?_
        refine pw_iconst (pc' := 44) rfl dX10_lays_43 ci_0 ?_
        refine pw_istore (pc' := 46) (lv' := [(0, .ref 182), (1, .int a1), (2, .int (a1 - a1 / (nI 10) * (nI 10))), (3, .int ((a1 / (nI 10)) - (a1 / (nI 10)) / (nI 24) * (nI 24))), (4, .int (nI 0)), (5, .int (nI 0))]) [1, 2, 3, 4, 5, 0] rfl dX10_lays_44 (by decide) rfl ?_
        exact pw_sub [0, 1, 2, 3, 4, 5] rfl h
      · have h := h.2 q2
        refine pw_iconst (pc' := 37) rfl dX10_lays_36 ci_1 ?_
        refine pw_goto (tgt := 41) dX10_lays_37 (by decide) ?_
        refine pw_istore (pc' := 43) (lv' := [(0, .ref 182), (1, .int a1), (2, .int (a1 - a1 / (nI 10) * (nI 10))), (3, .int ((a1 / (nI 10)) - (a1 / (nI 10)) / (nI 24) * (nI 24))), (4, .int (nI 1))]) [1, 2, 3, 4, 0] rfl dX10_lays_41 (by decide) rfl ?_
        refine pw_iconst (pc' := 44) rfl dX10_lays_43 ci_0 ?_
        refine pw_istore (pc' := 46) (lv' := [(0, .ref 182), (1, .int a1), (2, .int (a1 - a1 / (nI 10) * (nI 10))), (3, .int ((a1 / (nI 10)) - (a1 / (nI 10)) / (nI 24) * (nI 24))), (4, .int (nI 1)), (5, .int (nI 0))]) [1, 2, 3, 4, 5, 0] rfl dX10_lays_44 (by decide) rfl ?_
        exact pw_sub [0, 1, 2, 3, 4, 5] rfl h
theorem T_X10_lays_46 {M : Mem} {a1 : Int32} {a2 : Int32} {a3 : Int32} {a4 : Int32} {a5 : Int32} {Q : Mem → Prop}  (h : (((nI 10) ≤ a5) → ((((M 182 0) ≤ a2) → (P_X10_lays_2 M (a1 + (nI 1)) Q)) ∧ ((¬ (M 182 0) ≤ a2) → (C_X10_reaches M a2 a3 a4 (fun M2 => P_X10_lays_93 M2 a1 a3 (nI 23) Q))))) ∧ ((¬ (nI 10) ≤ a5) → (vp_in (((nI 10) * a1) + a5) 4800 ∧ (P_X10_lays_46 (wr M 188 (ix (((nI 10) * a1) + a5)) (-4)) a1 a2 a3 a4 (a5 + (nI 1)) Q)))) : P_X10_lays_46 M a1 a2 a3 a4 a5 Q := by
  refine pw_iload (pc' := 48) 5 rfl dX10_lays_46 rfl ?_
  refine pw_bipush (pc' := 50) rfl dX10_lays_48 cb_10 ?_
  refine pw_icmp_ge (pc' := 53) (tgt := 73) rfl dX10_lays_50 (by decide) (fun q0 => ?_) (fun q0 => ?_)
  · have h := h.1 q0
    refine pw_iload_n (pc' := 74) 2 rfl dX10_lays_73 rfl rfl ?_
    refine pw_aload_n (pc' := 75) 0 rfl dX10_lays_74 rfl rfl ?_
    refine ps_getI (pc' := 78) (v := (M 182 0)) rfl dX10_lays_75 fl_X10_95 ob_182 rfl rfl ?_
    refine pw_icmp_ge (pc' := 81) (tgt := 168) rfl dX10_lays_78 (by decide) (fun q1 => ?_) (fun q1 => ?_)
    · have h := h.1 q1
      refine pw_iinc (pc' := 171) (lv' := [(0, .ref 182), (1, .int (a1 + (nI 1))), (2, .int a2), (3, .int a3), (4, .int a4), (5, .int a5)]) 1 [1, 0, 2, 3, 4, 5] rfl dX10_lays_168 rfl (ii_1 _) (by decide) rfl ?_
      refine pw_goto (tgt := 2) dX10_lays_171 (by decide) ?_
      exact pw_sub [0, 1] rfl h
    · have h := h.2 q1
      refine pw_aload_n (pc' := 82) 0 rfl dX10_lays_81 rfl rfl ?_
      refine pw_iload_n (pc' := 83) 2 rfl dX10_lays_82 rfl rfl ?_
      refine pw_iload_n (pc' := 84) 3 rfl dX10_lays_83 rfl rfl ?_
      refine pw_iload (pc' := 86) 4 rfl dX10_lays_84 rfl ?_
      refine ps_callVV (pc' := 89) (As := [.int a2, .int a3, .int a4]) (rest := []) (cT := (RX10, TX10, 44)) 3 rfl dX10_lays_86 cv_X10_reaches ml_X10_174 (by decide) rfl rfl (by decide) (Nat.le_of_ble_eq_true rfl) ob_182 rfl rfl (CA.monoV h ?_)
      intro M2 h
      refine pw_bipush (pc' := 91) rfl dX10_lays_89 cb_23 ?_
      refine pw_istore (pc' := 93) (lv' := [(0, .ref 182), (1, .int a1), (2, .int a2), (3, .int a3), (4, .int a4), (5, .int (nI 23))]) [1, 2, 3, 4, 5, 0] rfl dX10_lays_91 (by decide) rfl ?_
      exact pw_sub [0, 1, 3, 5] rfl h
  · have h := h.2 q0
    refine pw_aload_n (pc' := 54) 0 rfl dX10_lays_53 rfl rfl ?_
    refine ps_getR (pc' := 57) (r := 188) rfl dX10_lays_54 fl_X10_25 ob_182 rfl rfl ?_
    refine pw_bipush (pc' := 59) rfl dX10_lays_57 cb_10 ?_
    refine pw_iload_n (pc' := 60) 1 rfl dX10_lays_59 rfl rfl ?_
    refine pw_imul (pc' := 61) rfl dX10_lays_60 ?_
    refine pw_iload (pc' := 63) 5 rfl dX10_lays_61 rfl ?_
    refine pw_iadd (pc' := 64) rfl dX10_lays_63 ?_
    refine pw_bipush (pc' := 66) rfl dX10_lays_64 cb_m4 ?_
    obtain ⟨b1, h⟩ := h
    refine ps_iast (pc' := 67) rfl dX10_lays_66 ia_188 b1 ?_
    refine pw_iinc (pc' := 70) (lv' := [(0, .ref 182), (1, .int a1), (2, .int a2), (3, .int a3), (4, .int a4), (5, .int (a5 + (nI 1)))]) 5 [1, 2, 3, 4, 5, 0] rfl dX10_lays_67 rfl (ii_1 _) (by decide) rfl ?_
    refine pw_goto (tgt := 46) dX10_lays_70 (by decide) ?_
    exact pw_sub [0, 1, 2, 3, 4, 5] rfl h
theorem T_X10_lays_93 {M : Mem} {a1 : Int32} {a3 : Int32} {a5 : Int32} {Q : Mem → Prop}  (h : ((a5 < a3) → (P_X10_lays_2 M (a1 + (nI 1)) Q)) ∧ ((¬ a5 < a3) → (P_X10_lays_102 M a1 a3 a5 (nI 0) Q))) : P_X10_lays_93 M a1 a3 a5 Q := by
  refine pw_iload (pc' := 95) 3 rfl dX10_lays_93 rfl ?_
  refine pw_iload_n (pc' := 96) 2 rfl dX10_lays_95 rfl rfl ?_
  refine pw_icmp_lt (pc' := 99) (tgt := 168) rfl dX10_lays_96 (by decide) (fun q0 => ?_) (fun q0 => ?_)
  · have h := h.1 q0
    refine pw_iinc (pc' := 171) (lv' := [(0, .ref 182), (1, .int (a1 + (nI 1))), (3, .int a3), (5, .int a5)]) 1 [1, 0, 2, 3] rfl dX10_lays_168 rfl (ii_1 _) (by decide) rfl ?_
    refine pw_goto (tgt := 2) dX10_lays_171 (by decide) ?_
    exact pw_sub [0, 1] rfl h
  · have h := h.2 q0
    refine pw_iconst (pc' := 100) rfl dX10_lays_99 ci_0 ?_
    refine pw_istore (pc' := 102) (lv' := [(0, .ref 182), (1, .int a1), (3, .int a3), (5, .int a5), (6, .int (nI 0))]) [1, 2, 3, 4, 0] rfl dX10_lays_100 (by decide) rfl ?_
    exact pw_sub [0, 1, 2, 3, 4] rfl h
theorem T_X10_lays_102 {M : Mem} {a1 : Int32} {a3 : Int32} {a5 : Int32} {a6 : Int32} {Q : Mem → Prop}  (h : (((M 182 0) ≤ a6) → (P_X10_lays_93 M a1 a3 (a5 + (-1)) Q)) ∧ ((¬ (M 182 0) ≤ a6) → (vp_in a5 24 ∧ (((¬ (((M 187 (ix a5)) >>> (a6 &&& 31)) &&& (nI 1)) = (nI 1)) → (vp_in (((nI 10) * a1) + a6) 4800 ∧ (P_X10_lays_102 (wr M 188 (ix (((nI 10) * a1) + a6)) (M 188 (ix (((nI 10) * a1) + a6)))) a1 a3 a5 (a6 + (nI 1)) Q))) ∧ (((((M 187 (ix a5)) >>> (a6 &&& 31)) &&& (nI 1)) = (nI 1)) → (vp_in (((nI 10) * a1) + a6) 4800 ∧ (P_X10_lays_102 (wr M 188 (ix (((nI 10) * a1) + a6)) a5) a1 a3 a5 (a6 + (nI 1)) Q))))))) : P_X10_lays_102 M a1 a3 a5 a6 Q := by
  refine pw_iload (pc' := 104) 4 rfl dX10_lays_102 rfl ?_
  refine pw_aload_n (pc' := 105) 0 rfl dX10_lays_104 rfl rfl ?_
  refine ps_getI (pc' := 108) (v := (M 182 0)) rfl dX10_lays_105 fl_X10_95 ob_182 rfl rfl ?_
  refine pw_icmp_ge (pc' := 111) (tgt := 162) rfl dX10_lays_108 (by decide) (fun q0 => ?_) (fun q0 => ?_)
  · have h := h.1 q0
    refine pw_iinc (pc' := 165) (lv' := [(0, .ref 182), (1, .int a1), (3, .int a3), (5, .int (a5 + (-1))), (6, .int a6)]) 3 [1, 2, 3, 0, 4] rfl dX10_lays_162 rfl (ii_m1 _) (by decide) rfl ?_
    refine pw_goto (tgt := 93) dX10_lays_165 (by decide) ?_
    exact pw_sub [0, 1, 2, 3] rfl h
  · have h := h.2 q0
    refine pw_aload_n (pc' := 112) 0 rfl dX10_lays_111 rfl rfl ?_
    refine ps_getR (pc' := 115) (r := 188) rfl dX10_lays_112 fl_X10_25 ob_182 rfl rfl ?_
    refine pw_bipush (pc' := 117) rfl dX10_lays_115 cb_10 ?_
    refine pw_iload_n (pc' := 118) 1 rfl dX10_lays_117 rfl rfl ?_
    refine pw_imul (pc' := 119) rfl dX10_lays_118 ?_
    refine pw_iload (pc' := 121) 4 rfl dX10_lays_119 rfl ?_
    refine pw_iadd (pc' := 122) rfl dX10_lays_121 ?_
    refine pw_aload_n (pc' := 123) 0 rfl dX10_lays_122 rfl rfl ?_
    refine ps_getR (pc' := 126) (r := 187) rfl dX10_lays_123 fl_X10_22 ob_182 rfl rfl ?_
    refine pw_iload (pc' := 128) 3 rfl dX10_lays_126 rfl ?_
    obtain ⟨b1, h⟩ := h
    refine ps_iald (pc' := 129) (v := (M 187 (ix a5))) rfl dX10_lays_128 ia_187 b1 rfl ?_
    refine pw_iload (pc' := 131) 4 rfl dX10_lays_129 rfl ?_
    refine pw_ishr (pc' := 132) rfl dX10_lays_131 ?_
    refine pw_iconst (pc' := 133) rfl dX10_lays_132 ci_1 ?_
    refine pw_iand (pc' := 134) rfl dX10_lays_133 ?_
    refine pw_iconst (pc' := 135) rfl dX10_lays_134 ci_1 ?_
    refine pw_icmp_ne (pc' := 138) (tgt := 143) rfl dX10_lays_135 (by decide) (fun q2 => ?_) (fun q2 => ?_)
    · have h := h.1 q2
      refine pw_aload_n (pc' := 144) 0 rfl dX10_lays_143 rfl rfl ?_
      refine ps_getR (pc' := 147) (r := 188) rfl dX10_lays_144 fl_X10_25 ob_182 rfl rfl ?_
      refine pw_bipush (pc' := 149) rfl dX10_lays_147 cb_10 ?_
      refine pw_iload_n (pc' := 150) 1 rfl dX10_lays_149 rfl rfl ?_
      refine pw_imul (pc' := 151) rfl dX10_lays_150 ?_
      refine pw_iload (pc' := 153) 4 rfl dX10_lays_151 rfl ?_
      refine pw_iadd (pc' := 154) rfl dX10_lays_153 ?_
      obtain ⟨b3, h⟩ := h
      refine ps_iald (pc' := 155) (v := (M 188 (ix (((nI 10) * a1) + a6)))) rfl dX10_lays_154 ia_188 b3 rfl ?_
      refine ps_iast (pc' := 156) rfl dX10_lays_155 ia_188 b3 ?_
      refine pw_iinc (pc' := 159) (lv' := [(0, .ref 182), (1, .int a1), (3, .int a3), (5, .int a5), (6, .int (a6 + (nI 1)))]) 4 [1, 2, 3, 4, 0] rfl dX10_lays_156 rfl (ii_1 _) (by decide) rfl ?_
      refine pw_goto (tgt := 102) dX10_lays_159 (by decide) ?_
      exact pw_sub [0, 1, 2, 3, 4] rfl h
    · have h := h.2 q2
      refine pw_iload (pc' := 140) 3 rfl dX10_lays_138 rfl ?_
      refine pw_goto (tgt := 155) dX10_lays_140 (by decide) ?_
      obtain ⟨b3, h⟩ := h
      refine ps_iast (pc' := 156) rfl dX10_lays_155 ia_188 b3 ?_
      refine pw_iinc (pc' := 159) (lv' := [(0, .ref 182), (1, .int a1), (3, .int a3), (5, .int a5), (6, .int (a6 + (nI 1)))]) 4 [1, 2, 3, 4, 0] rfl dX10_lays_156 rfl (ii_1 _) (by decide) rfl ?_
      refine pw_goto (tgt := 102) dX10_lays_159 (by decide) ?_
      exact pw_sub [0, 1, 2, 3, 4] rfl h
theorem T_X10_reaches {M : Mem} {a1 : Int32} {a2 : Int32} {a3 : Int32} {Q : Mem → Prop}  (h : ((a3 = 0) → (vp_in a2 24 ∧ (P_X10_reaches_29 (wr M 187 (ix a2) ((nI 1) <<< (a1 &&& 31))) a3 a2 Q))) ∧ ((¬ a3 = 0) → (C_X10_isMet M a1 a2 (fun r1 M1 => ((r1 = 0) → (vp_in a2 24 ∧ (P_X10_reaches_29 (wr M1 187 (ix a2) ((nI 1) <<< (a1 &&& 31))) a3 a2 Q))) ∧ ((¬ r1 = 0) → (vp_in a2 24 ∧ (P_X10_reaches_29 (wr M1 187 (ix a2) (nI 0)) a3 a2 Q))))))) : C_X10_reaches M a1 a2 a3 Q := by
  refine CA_of rfl (Nat.le_of_ble_eq_true rfl) ?_
  show PS _ _ 0 [(0, .ref 182), (1, .int a1), (2, .int a2), (3, .int a3)] [] M _
  refine pw_aload_n (pc' := 1) 0 rfl dX10_reaches_0 rfl rfl ?_
  refine ps_getR (pc' := 4) (r := 187) rfl dX10_reaches_1 fl_X10_22 ob_182 rfl rfl ?_
  refine pw_iload_n (pc' := 5) 2 rfl dX10_reaches_4 rfl rfl ?_
  refine pw_iload_n (pc' := 6) 3 rfl dX10_reaches_5 rfl rfl ?_
  refine pw_if_eq (pc' := 9) (tgt := 22) rfl dX10_reaches_6 (by decide) (fun q0 => ?_) (fun q0 => ?_)
  · have h := h.1 q0
    refine pw_iconst (pc' := 23) rfl dX10_reaches_22 ci_1 ?_
    refine pw_iload_n (pc' := 24) 1 rfl dX10_reaches_23 rfl rfl ?_
    refine pw_ishl (pc' := 25) rfl dX10_reaches_24 ?_
    obtain ⟨b1, h⟩ := h
    refine ps_iast (pc' := 26) rfl dX10_reaches_25 ia_187 b1 ?_
    refine pw_iload_n (pc' := 27) 2 rfl dX10_reaches_26 rfl rfl ?_
    refine pw_istore (pc' := 29) (lv' := [(0, .ref 182), (1, .int a1), (2, .int a2), (3, .int a3), (4, .int a2)]) [1, 2, 3, 4, 0] rfl dX10_reaches_27 (by decide) rfl ?_
    exact pw_sub [0, 3, 4] rfl h
  · have h := h.2 q0
    refine pw_aload_n (pc' := 10) 0 rfl dX10_reaches_9 rfl rfl ?_
    refine pw_iload_n (pc' := 11) 1 rfl dX10_reaches_10 rfl rfl ?_
    refine pw_iload_n (pc' := 12) 2 rfl dX10_reaches_11 rfl rfl ?_
    refine ps_callVI (pc' := 15) (As := [.int a1, .int a2]) (rest := [.int a2, .ref 187]) (cT := (RX10, TX10, 44)) 2 rfl dX10_reaches_12 cv_X10_isMet ml_X10_167 (by decide) rfl rfl (by decide) (Nat.le_of_ble_eq_true rfl) ob_182 rfl rfl (CA.monoI h ?_)
    intro r1 M1 h
    refine pw_if_eq (pc' := 18) (tgt := 22) rfl dX10_reaches_15 (by decide) (fun q2 => ?_) (fun q2 => ?_)
    · have h := h.1 q2
      refine pw_iconst (pc' := 23) rfl dX10_reaches_22 ci_1 ?_
      refine pw_iload_n (pc' := 24) 1 rfl dX10_reaches_23 rfl rfl ?_
      refine pw_ishl (pc' := 25) rfl dX10_reaches_24 ?_
      obtain ⟨b3, h⟩ := h
      refine ps_iast (pc' := 26) rfl dX10_reaches_25 ia_187 b3 ?_
      refine pw_iload_n (pc' := 27) 2 rfl dX10_reaches_26 rfl rfl ?_
      refine pw_istore (pc' := 29) (lv' := [(0, .ref 182), (1, .int a1), (2, .int a2), (3, .int a3), (4, .int a2)]) [1, 2, 3, 4, 0] rfl dX10_reaches_27 (by decide) rfl ?_
      exact pw_sub [0, 3, 4] rfl h
    · have h := h.2 q2
      refine pw_iconst (pc' := 19) rfl dX10_reaches_18 ci_0 ?_
      refine pw_goto (tgt := 25) dX10_reaches_19 (by decide) ?_
      obtain ⟨b3, h⟩ := h
      refine ps_iast (pc' := 26) rfl dX10_reaches_25 ia_187 b3 ?_
      refine pw_iload_n (pc' := 27) 2 rfl dX10_reaches_26 rfl rfl ?_
      refine pw_istore (pc' := 29) (lv' := [(0, .ref 182), (1, .int a1), (2, .int a2), (3, .int a3), (4, .int a2)]) [1, 2, 3, 4, 0] rfl dX10_reaches_27 (by decide) rfl ?_
      exact pw_sub [0, 3, 4] rfl h
theorem T_X10_reaches_29 {M : Mem} {a3 : Int32} {a4 : Int32} {Q : Mem → Prop}  (h : (((nI 23) ≤ a4) → (Q M)) ∧ ((¬ (nI 23) ≤ a4) → (vp_in (a4 + (nI 1)) 24 ∧ (P_X10_reaches_49 (wr M 187 (ix (a4 + (nI 1))) (nI 0)) a3 a4 (nI 0) Q)))) : P_X10_reaches_29 M a3 a4 Q := by
  refine pw_iload (pc' := 31) 2 rfl dX10_reaches_29 rfl ?_
  refine pw_bipush (pc' := 33) rfl dX10_reaches_31 cb_23 ?_
  refine pw_icmp_ge (pc' := 36) (tgt := 138) rfl dX10_reaches_33 (by decide) (fun q0 => ?_) (fun q0 => ?_)
  · have h := h.1 q0
    exact ps_vret dX10_reaches_138 rfl h
  · have h := h.2 q0
    refine pw_aload_n (pc' := 37) 0 rfl dX10_reaches_36 rfl rfl ?_
    refine ps_getR (pc' := 40) (r := 187) rfl dX10_reaches_37 fl_X10_22 ob_182 rfl rfl ?_
    refine pw_iload (pc' := 42) 2 rfl dX10_reaches_40 rfl ?_
    refine pw_iconst (pc' := 43) rfl dX10_reaches_42 ci_1 ?_
    refine pw_iadd (pc' := 44) rfl dX10_reaches_43 ?_
    refine pw_iconst (pc' := 45) rfl dX10_reaches_44 ci_0 ?_
    obtain ⟨b1, h⟩ := h
    refine ps_iast (pc' := 46) rfl dX10_reaches_45 ia_187 b1 ?_
    refine pw_iconst (pc' := 47) rfl dX10_reaches_46 ci_0 ?_
    refine pw_istore (pc' := 49) (lv' := [(0, .ref 182), (3, .int a3), (4, .int a4), (5, .int (nI 0))]) [1, 2, 3, 0] rfl dX10_reaches_47 (by decide) rfl ?_
    exact pw_sub [0, 1, 2, 3] rfl h
theorem T_X10_reaches_49 {M : Mem} {a3 : Int32} {a4 : Int32} {a5 : Int32} {Q : Mem → Prop}  (h : (((M 182 0) ≤ a5) → (P_X10_reaches_29 M a3 (a4 + (nI 1)) Q)) ∧ ((¬ (M 182 0) ≤ a5) → (P_X10_reaches_61 M a3 a4 a5 (nI 0) Q))) : P_X10_reaches_49 M a3 a4 a5 Q := by
  refine pw_iload (pc' := 51) 3 rfl dX10_reaches_49 rfl ?_
  refine pw_aload_n (pc' := 52) 0 rfl dX10_reaches_51 rfl rfl ?_
  refine ps_getI (pc' := 55) (v := (M 182 0)) rfl dX10_reaches_52 fl_X10_95 ob_182 rfl rfl ?_
  refine pw_icmp_ge (pc' := 58) (tgt := 132) rfl dX10_reaches_55 (by decide) (fun q0 => ?_) (fun q0 => ?_)
  · have h := h.1 q0
    refine pw_iinc (pc' := 135) (lv' := [(0, .ref 182), (3, .int a3), (4, .int (a4 + (nI 1))), (5, .int a5)]) 2 [1, 2, 0, 3] rfl dX10_reaches_132 rfl (ii_1 _) (by decide) rfl ?_
    refine pw_goto (tgt := 29) dX10_reaches_135 (by decide) ?_
    exact pw_sub [0, 1, 2] rfl h
  · have h := h.2 q0
    refine pw_iconst (pc' := 59) rfl dX10_reaches_58 ci_0 ?_
    refine pw_istore (pc' := 61) (lv' := [(0, .ref 182), (3, .int a3), (4, .int a4), (5, .int a5), (6, .int (nI 0))]) [1, 2, 3, 4, 0] rfl dX10_reaches_59 (by decide) rfl ?_
    exact pw_sub [0, 1, 2, 3, 4] rfl h
theorem T_X10_reaches_61 {M : Mem} {a3 : Int32} {a4 : Int32} {a5 : Int32} {a6 : Int32} {Q : Mem → Prop}  (h : (((M 182 0) ≤ a6) → (P_X10_reaches_49 M a3 a4 (a5 + (nI 1)) Q)) ∧ ((¬ (M 182 0) ≤ a6) → (vp_in a4 24 ∧ (((¬ (((M 187 (ix a4)) >>> (a5 &&& 31)) &&& (nI 1)) = (nI 1)) → (P_X10_reaches_49 M a3 a4 (a5 + (nI 1)) Q)) ∧ (((((M 187 (ix a4)) >>> (a5 &&& 31)) &&& (nI 1)) = (nI 1)) → (vp_in (a4 + (nI 1)) 24 ∧ (C_X10_may M a5 a4 a6 a3 (fun r4 M4 => ((r4 = 0) → (P_X10_reaches_61 (wr M4 187 (ix (a4 + (nI 1))) ((M 187 (ix (a4 + (nI 1)))) ||| (nI 0))) a3 a4 a5 (a6 + (nI 1)) Q)) ∧ ((¬ r4 = 0) → (P_X10_reaches_61 (wr M4 187 (ix (a4 + (nI 1))) ((M 187 (ix (a4 + (nI 1)))) ||| ((nI 1) <<< (a6 &&& 31)))) a3 a4 a5 (a6 + (nI 1)) Q)))))))))) : P_X10_reaches_61 M a3 a4 a5 a6 Q := by
  refine pw_iload (pc' := 63) 4 rfl dX10_reaches_61 rfl ?_
  refine pw_aload_n (pc' := 64) 0 rfl dX10_reaches_63 rfl rfl ?_
  refine ps_getI (pc' := 67) (v := (M 182 0)) rfl dX10_reaches_64 fl_X10_95 ob_182 rfl rfl ?_
  refine pw_icmp_ge (pc' := 70) (tgt := 126) rfl dX10_reaches_67 (by decide) (fun q0 => ?_) (fun q0 => ?_)
  · have h := h.1 q0
    refine pw_iinc (pc' := 129) (lv' := [(0, .ref 182), (3, .int a3), (4, .int a4), (5, .int (a5 + (nI 1))), (6, .int a6)]) 3 [1, 2, 3, 0, 4] rfl dX10_reaches_126 rfl (ii_1 _) (by decide) rfl ?_
    refine pw_goto (tgt := 49) dX10_reaches_129 (by decide) ?_
    exact pw_sub [0, 1, 2, 3] rfl h
  · have h := h.2 q0
    refine pw_aload_n (pc' := 71) 0 rfl dX10_reaches_70 rfl rfl ?_
    refine ps_getR (pc' := 74) (r := 187) rfl dX10_reaches_71 fl_X10_22 ob_182 rfl rfl ?_
    refine pw_iload (pc' := 76) 2 rfl dX10_reaches_74 rfl ?_
    obtain ⟨b1, h⟩ := h
    refine ps_iald (pc' := 77) (v := (M 187 (ix a4))) rfl dX10_reaches_76 ia_187 b1 rfl ?_
    refine pw_iload (pc' := 79) 3 rfl dX10_reaches_77 rfl ?_
    refine pw_ishr (pc' := 80) rfl dX10_reaches_79 ?_
    refine pw_iconst (pc' := 81) rfl dX10_reaches_80 ci_1 ?_
    refine pw_iand (pc' := 82) rfl dX10_reaches_81 ?_
    refine pw_iconst (pc' := 83) rfl dX10_reaches_82 ci_1 ?_
    refine pw_icmp_ne (pc' := 86) (tgt := 126) rfl dX10_reaches_83 (by decide) (fun q2 => ?_) (fun q2 => ?_)
    · have h := h.1 q2
      refine pw_iinc (pc' := 129) (lv' := [(0, .ref 182), (3, .int a3), (4, .int a4), (5, .int (a5 + (nI 1))), (6, .int a6)]) 3 [1, 2, 3, 0, 4] rfl dX10_reaches_126 rfl (ii_1 _) (by decide) rfl ?_
      refine pw_goto (tgt := 49) dX10_reaches_129 (by decide) ?_
      exact pw_sub [0, 1, 2, 3] rfl h
    · have h := h.2 q2
      refine pw_aload_n (pc' := 87) 0 rfl dX10_reaches_86 rfl rfl ?_
      refine ps_getR (pc' := 90) (r := 187) rfl dX10_reaches_87 fl_X10_22 ob_182 rfl rfl ?_
      refine pw_iload (pc' := 92) 2 rfl dX10_reaches_90 rfl ?_
      refine pw_iconst (pc' := 93) rfl dX10_reaches_92 ci_1 ?_
      refine pw_iadd (pc' := 94) rfl dX10_reaches_93 ?_
      refine pw_dup2 (pc' := 95) rfl dX10_reaches_94 rfl rfl ?_
      obtain ⟨b3, h⟩ := h
      refine ps_iald (pc' := 96) (v := (M 187 (ix (a4 + (nI 1))))) rfl dX10_reaches_95 ia_187 b3 rfl ?_
      refine pw_aload_n (pc' := 97) 0 rfl dX10_reaches_96 rfl rfl ?_
      refine pw_iload (pc' := 99) 3 rfl dX10_reaches_97 rfl ?_
      refine pw_iload (pc' := 101) 2 rfl dX10_reaches_99 rfl ?_
      refine pw_iload (pc' := 103) 4 rfl dX10_reaches_101 rfl ?_
      refine pw_iload_n (pc' := 104) 1 rfl dX10_reaches_103 rfl rfl ?_
      refine ps_callVI (pc' := 107) (As := [.int a5, .int a4, .int a6, .int a3]) (rest := [.int (M 187 (ix (a4 + (nI 1)))), .int (a4 + (nI 1)), .ref 187]) (cT := (RX10, TX10, 44)) 4 rfl dX10_reaches_104 cv_X10_may ml_X10_170 (by decide) rfl rfl (by decide) (Nat.le_of_ble_eq_true rfl) ob_182 rfl rfl (CA.monoI h ?_)
      intro r4 M4 h
      refine pw_if_eq (pc' := 110) (tgt := 117) rfl dX10_reaches_107 (by decide) (fun q5 => ?_) (fun q5 => ?_)
      · have h := h.1 q5
        refine pw_iconst (pc' := 118) rfl dX10_reaches_117 ci_0 ?_
        refine pw_ior (pc' := 119) rfl dX10_reaches_118 ?_
        refine ps_iast (pc' := 120) rfl dX10_reaches_119 ia_187 b3 ?_
        refine pw_iinc (pc' := 123) (lv' := [(0, .ref 182), (3, .int a3), (4, .int a4), (5, .int a5), (6, .int (a6 + (nI 1)))]) 4 [1, 2, 3, 4, 0] rfl dX10_reaches_120 rfl (ii_1 _) (by decide) rfl ?_
        refine pw_goto (tgt := 61) dX10_reaches_123 (by decide) ?_
        exact pw_sub [0, 1, 2, 3, 4] rfl h
      · have h := h.2 q5
        refine pw_iconst (pc' := 111) rfl dX10_reaches_110 ci_1 ?_
        refine pw_iload (pc' := 113) 4 rfl dX10_reaches_111 rfl ?_
        refine pw_ishl (pc' := 114) rfl dX10_reaches_113 ?_
        refine pw_goto (tgt := 118) dX10_reaches_114 (by decide) ?_
        refine pw_ior (pc' := 119) rfl dX10_reaches_118 ?_
        refine ps_iast (pc' := 120) rfl dX10_reaches_119 ia_187 b3 ?_
        refine pw_iinc (pc' := 123) (lv' := [(0, .ref 182), (3, .int a3), (4, .int a4), (5, .int a5), (6, .int (a6 + (nI 1)))]) 4 [1, 2, 3, 4, 0] rfl dX10_reaches_120 rfl (ii_1 _) (by decide) rfl ?_
        refine pw_goto (tgt := 61) dX10_reaches_123 (by decide) ?_
        exact pw_sub [0, 1, 2, 3, 4] rfl h
theorem T_X10_isMet {M : Mem} {a1 : Int32} {a2 : Int32} {Q : Int32 → Mem → Prop}  (h : P_X10_isMet_5 M a1 a2 (nI 0) (nI 0) Q) : C_X10_isMet M a1 a2 Q := by
  refine CA_of rfl (Nat.le_of_ble_eq_true rfl) ?_
  show PS _ _ 0 [(0, .ref 182), (1, .int a1), (2, .int a2)] [] M _
  refine pw_iconst (pc' := 1) rfl dX10_isMet_0 ci_0 ?_
  refine pw_istore_n (pc' := 2) (lv' := [(0, .ref 182), (1, .int a1), (2, .int a2), (3, .int (nI 0))]) [1, 2, 3, 0] rfl dX10_isMet_1 rfl (by decide) rfl ?_
  refine pw_iconst (pc' := 3) rfl dX10_isMet_2 ci_0 ?_
  refine pw_istore (pc' := 5) (lv' := [(0, .ref 182), (1, .int a1), (2, .int a2), (3, .int (nI 0)), (4, .int (nI 0))]) [1, 2, 3, 4, 0] rfl dX10_isMet_3 (by decide) rfl ?_
  exact pw_sub [0, 1, 2, 3, 4] rfl h
theorem T_X10_isMet_5 {M : Mem} {a1 : Int32} {a2 : Int32} {a3 : Int32} {a4 : Int32} {Q : Int32 → Mem → Prop}  (h : (((M 182 3) ≤ a4) → ((a3 = 0 ∨ a3 = 1) ∧ Q a3 M)) ∧ ((¬ (M 182 3) ≤ a4) → (((¬ a3 = 0) → (P_X10_isMet_5 M a1 a2 (nI 1) (a4 + (nI 1)) Q)) ∧ ((a3 = 0) → (vp_in (((nI 24) * a4) + a2) 72 ∧ (((¬ (M 184 (ix (((nI 24) * a4) + a2))) = a1) → (P_X10_isMet_5 M a1 a2 (nI 0) (a4 + (nI 1)) Q)) ∧ (((M 184 (ix (((nI 24) * a4) + a2))) = a1) → (P_X10_isMet_5 M a1 a2 (nI 1) (a4 + (nI 1)) Q)))))))) : P_X10_isMet_5 M a1 a2 a3 a4 Q := by
  refine pw_iload (pc' := 7) 4 rfl dX10_isMet_5 rfl ?_
  refine pw_aload_n (pc' := 8) 0 rfl dX10_isMet_7 rfl rfl ?_
  refine ps_getI (pc' := 11) (v := (M 182 3)) rfl dX10_isMet_8 fl_X10_119 ob_182 rfl rfl ?_
  refine pw_icmp_ge (pc' := 14) (tgt := 46) rfl dX10_isMet_11 (by decide) (fun q0 => ?_) (fun q0 => ?_)
  · have h := h.1 q0
    refine pw_iload_n (pc' := 47) 3 rfl dX10_isMet_46 rfl rfl ?_
    exact ps_zret dX10_isMet_47 rfl h.1 h.2
  · have h := h.2 q0
    refine pw_iload_n (pc' := 15) 3 rfl dX10_isMet_14 rfl rfl ?_
    refine pw_if_ne (pc' := 18) (tgt := 34) rfl dX10_isMet_15 (by decide) (fun q1 => ?_) (fun q1 => ?_)
    · have h := h.1 q1
      refine pw_iconst (pc' := 35) rfl dX10_isMet_34 ci_1 ?_
      refine pw_goto (tgt := 39) dX10_isMet_35 (by decide) ?_
      refine pw_istore_n (pc' := 40) (lv' := [(0, .ref 182), (1, .int a1), (2, .int a2), (3, .int (nI 1)), (4, .int a4)]) [1, 2, 3, 0, 4] rfl dX10_isMet_39 rfl (by decide) rfl ?_
      refine pw_iinc (pc' := 43) (lv' := [(0, .ref 182), (1, .int a1), (2, .int a2), (3, .int (nI 1)), (4, .int (a4 + (nI 1)))]) 4 [1, 2, 3, 4, 0] rfl dX10_isMet_40 rfl (ii_1 _) (by decide) rfl ?_
      refine pw_goto (tgt := 5) dX10_isMet_43 (by decide) ?_
      exact pw_sub [0, 1, 2, 3, 4] rfl h
    · have h := h.2 q1
      refine pw_aload_n (pc' := 19) 0 rfl dX10_isMet_18 rfl rfl ?_
      refine ps_getR (pc' := 22) (r := 184) rfl dX10_isMet_19 fl_X10_13 ob_182 rfl rfl ?_
      refine pw_bipush (pc' := 24) rfl dX10_isMet_22 cb_24 ?_
      refine pw_iload (pc' := 26) 4 rfl dX10_isMet_24 rfl ?_
      refine pw_imul (pc' := 27) rfl dX10_isMet_26 ?_
      refine pw_iload_n (pc' := 28) 2 rfl dX10_isMet_27 rfl rfl ?_
      refine pw_iadd (pc' := 29) rfl dX10_isMet_28 ?_
      obtain ⟨b2, h⟩ := h
      refine ps_iald (pc' := 30) (v := (M 184 (ix (((nI 24) * a4) + a2)))) rfl dX10_isMet_29 ia_184 b2 rfl ?_
      refine pw_iload_n (pc' := 31) 1 rfl dX10_isMet_30 rfl rfl ?_
      refine pw_icmp_ne (pc' := 34) (tgt := 38) rfl dX10_isMet_31 (by decide) (fun q3 => ?_) (fun q3 => ?_)
      · have h := h.1 q3
        refine pw_iconst (pc' := 39) rfl dX10_isMet_38 ci_0 ?_
        refine pw_istore_n (pc' := 40) (lv' := [(0, .ref 182), (1, .int a1), (2, .int a2), (3, .int (nI 0)), (4, .int a4)]) [1, 2, 3, 0, 4] rfl dX10_isMet_39 rfl (by decide) rfl ?_
        refine pw_iinc (pc' := 43) (lv' := [(0, .ref 182), (1, .int a1), (2, .int a2), (3, .int (nI 0)), (4, .int (a4 + (nI 1)))]) 4 [1, 2, 3, 4, 0] rfl dX10_isMet_40 rfl (ii_1 _) (by decide) rfl ?_
        refine pw_goto (tgt := 5) dX10_isMet_43 (by decide) ?_
        exact pw_sub [0, 1, 2, 3, 4] rfl h
      · have h := h.2 q3
        refine pw_iconst (pc' := 35) rfl dX10_isMet_34 ci_1 ?_
        refine pw_goto (tgt := 39) dX10_isMet_35 (by decide) ?_
        refine pw_istore_n (pc' := 40) (lv' := [(0, .ref 182), (1, .int a1), (2, .int a2), (3, .int (nI 1)), (4, .int a4)]) [1, 2, 3, 0, 4] rfl dX10_isMet_39 rfl (by decide) rfl ?_
        refine pw_iinc (pc' := 43) (lv' := [(0, .ref 182), (1, .int a1), (2, .int a2), (3, .int (nI 1)), (4, .int (a4 + (nI 1)))]) 4 [1, 2, 3, 4, 0] rfl dX10_isMet_40 rfl (ii_1 _) (by decide) rfl ?_
        refine pw_goto (tgt := 5) dX10_isMet_43 (by decide) ?_
        exact pw_sub [0, 1, 2, 3, 4] rfl h
theorem T_X10_may {M : Mem} {a1 : Int32} {a2 : Int32} {a3 : Int32} {a4 : Int32} {Q : Int32 → Mem → Prop}  (h : ((a1 = a3) → ((((nI 1) = 0) → (P_X10_may_57 M a1 a2 a3 a4 (nI 0) (nI 0) Q)) ∧ ((¬ (nI 1) = 0) → (((a4 = 0) → (P_X10_may_57 M a1 a2 a3 a4 (nI 1) (nI 0) Q)) ∧ ((¬ a4 = 0) → (C_X10_isMet M a3 (a2 + (nI 1)) (fun r3 M3 => ((¬ r3 = 0) → (P_X10_may_57 M3 a1 a2 a3 a4 (nI 0) (nI 0) Q)) ∧ ((r3 = 0) → (P_X10_may_57 M3 a1 a2 a3 a4 (nI 1) (nI 0) Q))))))))) ∧ ((¬ a1 = a3) → (vp_in (((nI 10) * a1) + a3) 100 ∧ ((((M 183 (ix (((nI 10) * a1) + a3))) < 0) → ((((nI 0) = 0) → (P_X10_may_57 M a1 a2 a3 a4 (nI 0) (nI 0) Q)) ∧ ((¬ (nI 0) = 0) → (((a4 = 0) → (P_X10_may_57 M a1 a2 a3 a4 (nI 1) (nI 0) Q)) ∧ ((¬ a4 = 0) → (C_X10_isMet M a3 (a2 + (nI 1)) (fun r5 M5 => ((¬ r5 = 0) → (P_X10_may_57 M5 a1 a2 a3 a4 (nI 0) (nI 0) Q)) ∧ ((r5 = 0) → (P_X10_may_57 M5 a1 a2 a3 a4 (nI 1) (nI 0) Q))))))))) ∧ ((¬ (M 183 (ix (((nI 10) * a1) + a3))) < 0) → ((((nI 1) = 0) → (P_X10_may_57 M a1 a2 a3 a4 (nI 0) (nI 0) Q)) ∧ ((¬ (nI 1) = 0) → (((a4 = 0) → (P_X10_may_57 M a1 a2 a3 a4 (nI 1) (nI 0) Q)) ∧ ((¬ a4 = 0) → (C_X10_isMet M a3 (a2 + (nI 1)) (fun r5 M5 => ((¬ r5 = 0) → (P_X10_may_57 M5 a1 a2 a3 a4 (nI 0) (nI 0) Q)) ∧ ((r5 = 0) → (P_X10_may_57 M5 a1 a2 a3 a4 (nI 1) (nI 0) Q))))))))))))) : C_X10_may M a1 a2 a3 a4 Q := by
  refine CA_of rfl (Nat.le_of_ble_eq_true rfl) ?_
  show PS _ _ 0 [(0, .ref 182), (1, .int a1), (2, .int a2), (3, .int a3), (4, .int a4)] [] M _
  refine pw_iload_n (pc' := 1) 1 rfl dX10_may_0 rfl rfl ?_
  refine pw_iload_n (pc' := 2) 3 rfl dX10_may_1 rfl rfl ?_
  refine pw_icmp_eq (pc' := 5) (tgt := 19) rfl dX10_may_2 (by decide) (fun q0 => ?_) (fun q0 => ?_)
  · have h := h.1 q0
    refine pw_iconst (pc' := 20) rfl dX10_may_19 ci_1 ?_
    refine pw_goto (tgt := 24) dX10_may_20 (by decide) ?_
    refine pw_istore (pc' := 26) (lv' := [(0, .ref 182), (1, .int a1), (2, .int a2), (3, .int a3), (4, .int a4), (5, .int (nI 1))]) [1, 2, 3, 4, 5, 0] rfl dX10_may_24 (by decide) rfl ?_
    refine pw_iload (pc' := 28) 5 rfl dX10_may_26 rfl ?_
    refine pw_if_eq (pc' := 31) (tgt := 51) rfl dX10_may_28 (by decide) (fun q1 => ?_) (fun q1 => ?_)
    · have h := h.1 q1
      refine pw_iconst (pc' := 52) rfl dX10_may_51 ci_0 ?_
      refine pw_istore (pc' := 54) (lv' := [(0, .ref 182), (1, .int a1), (2, .int a2), (3, .int a3), (4, .int a4), (5, .int (nI 0))]) [1, 2, 3, 4, 5, 0] rfl dX10_may_52 (by decide) rfl ?_
      refine pw_iconst (pc' := 55) rfl dX10_may_54 ci_0 ?_
      refine pw_istore (pc' := 57) (lv' := [(0, .ref 182), (1, .int a1), (2, .int a2), (3, .int a3), (4, .int a4), (5, .int (nI 0)), (6, .int (nI 0))]) [1, 2, 3, 4, 5, 6, 0] rfl dX10_may_55 (by decide) rfl ?_
      exact pw_sub [0, 1, 2, 3, 4, 5, 6] rfl h
    · have h := h.2 q1
      refine pw_iload (pc' := 33) 4 rfl dX10_may_31 rfl ?_
      refine pw_if_eq (pc' := 36) (tgt := 47) rfl dX10_may_33 (by decide) (fun q2 => ?_) (fun q2 => ?_)
      · have h := h.1 q2
        refine pw_iconst (pc' := 48) rfl dX10_may_47 ci_1 ?_
        refine pw_goto (tgt := 52) dX10_may_48 (by decide) ?_
        refine pw_istore (pc' := 54) (lv' := [(0, .ref 182), (1, .int a1), (2, .int a2), (3, .int a3), (4, .int a4), (5, .int (nI 1))]) [1, 2, 3, 4, 5, 0] rfl dX10_may_52 (by decide) rfl ?_
        refine pw_iconst (pc' := 55) rfl dX10_may_54 ci_0 ?_
        refine pw_istore (pc' := 57) (lv' := [(0, .ref 182), (1, .int a1), (2, .int a2), (3, .int a3), (4, .int a4), (5, .int (nI 1)), (6, .int (nI 0))]) [1, 2, 3, 4, 5, 6, 0] rfl dX10_may_55 (by decide) rfl ?_
        exact pw_sub [0, 1, 2, 3, 4, 5, 6] rfl h
      · have h := h.2 q2
        refine pw_aload_n (pc' := 37) 0 rfl dX10_may_36 rfl rfl ?_
        refine pw_iload_n (pc' := 38) 3 rfl dX10_may_37 rfl rfl ?_
        refine pw_iload_n (pc' := 39) 2 rfl dX10_may_38 rfl rfl ?_
        refine pw_iconst (pc' := 40) rfl dX10_may_39 ci_1 ?_
        refine pw_iadd (pc' := 41) rfl dX10_may_40 ?_
        refine ps_callVI (pc' := 44) (As := [.int a3, .int (a2 + (nI 1))]) (rest := []) (cT := (RX10, TX10, 44)) 2 rfl dX10_may_41 cv_X10_isMet ml_X10_167 (by decide) rfl rfl (by decide) (Nat.le_of_ble_eq_true rfl) ob_182 rfl rfl (CA.monoI h ?_)
        intro r3 M3 h
        refine pw_if_ne (pc' := 47) (tgt := 51) rfl dX10_may_44 (by decide) (fun q4 => ?_) (fun q4 => ?_)
        · have h := h.1 q4
          refine pw_iconst (pc' := 52) rfl dX10_may_51 ci_0 ?_
          refine pw_istore (pc' := 54) (lv' := [(0, .ref 182), (1, .int a1), (2, .int a2), (3, .int a3), (4, .int a4), (5, .int (nI 0))]) [1, 2, 3, 4, 5, 0] rfl dX10_may_52 (by decide) rfl ?_
          refine pw_iconst (pc' := 55) rfl dX10_may_54 ci_0 ?_
          refine pw_istore (pc' := 57) (lv' := [(0, .ref 182), (1, .int a1), (2, .int a2), (3, .int a3), (4, .int a4), (5, .int (nI 0)), (6, .int (nI 0))]) [1, 2, 3, 4, 5, 6, 0] rfl dX10_may_55 (by decide) rfl ?_
          exact pw_sub [0, 1, 2, 3, 4, 5, 6] rfl h
        · have h := h.2 q4
          refine pw_iconst (pc' := 48) rfl dX10_may_47 ci_1 ?_
          refine pw_goto (tgt := 52) dX10_may_48 (by decide) ?_
          refine pw_istore (pc' := 54) (lv' := [(0, .ref 182), (1, .int a1), (2, .int a2), (3, .int a3), (4, .int a4), (5, .int (nI 1))]) [1, 2, 3, 4, 5, 0] rfl dX10_may_52 (by decide) rfl ?_
          refine pw_iconst (pc' := 55) rfl dX10_may_54 ci_0 ?_
          refine pw_istore (pc' := 57) (lv' := [(0, .ref 182), (1, .int a1), (2, .int a2), (3, .int a3), (4, .int a4), (5, .int (nI 1)), (6, .int (nI 0))]) [1, 2, 3, 4, 5, 6, 0] rfl dX10_may_55 (by decide) rfl ?_
          exact pw_sub [0, 1, 2, 3, 4, 5, 6] rfl h
  · have h := h.2 q0
    refine pw_aload_n (pc' := 6) 0 rfl dX10_may_5 rfl rfl ?_
    refine ps_getR (pc' := 9) (r := 183) rfl dX10_may_6 fl_X10_7 ob_182 rfl rfl ?_
    refine pw_bipush (pc' := 11) rfl dX10_may_9 cb_10 ?_
    refine pw_iload_n (pc' := 12) 1 rfl dX10_may_11 rfl rfl ?_
    refine pw_imul (pc' := 13) rfl dX10_may_12 ?_
    refine pw_iload_n (pc' := 14) 3 rfl dX10_may_13 rfl rfl ?_
    refine pw_iadd (pc' := 15) rfl dX10_may_14 ?_
    obtain ⟨b1, h⟩ := h
    refine ps_iald (pc' := 16) (v := (M 183 (ix (((nI 10) * a1) + a3)))) rfl dX10_may_15 ia_183 b1 rfl ?_
    refine pw_if_lt (pc' := 19) (tgt := 23) rfl dX10_may_16 (by decide) (fun q2 => ?_) (fun q2 => ?_)
    · have h := h.1 q2
      refine pw_iconst (pc' := 24) rfl dX10_may_23 ci_0 ?_
      refine pw_istore (pc' := 26) (lv' := [(0, .ref 182), (1, .int a1), (2, .int a2), (3, .int a3), (4, .int a4), (5, .int (nI 0))]) [1, 2, 3, 4, 5, 0] rfl dX10_may_24 (by decide) rfl ?_
      refine pw_iload (pc' := 28) 5 rfl dX10_may_26 rfl ?_
      refine pw_if_eq (pc' := 31) (tgt := 51) rfl dX10_may_28 (by decide) (fun q3 => ?_) (fun q3 => ?_)
      · have h := h.1 q3
        refine pw_iconst (pc' := 52) rfl dX10_may_51 ci_0 ?_
        refine pw_istore (pc' := 54) (lv' := [(0, .ref 182), (1, .int a1), (2, .int a2), (3, .int a3), (4, .int a4), (5, .int (nI 0))]) [1, 2, 3, 4, 5, 0] rfl dX10_may_52 (by decide) rfl ?_
        refine pw_iconst (pc' := 55) rfl dX10_may_54 ci_0 ?_
        refine pw_istore (pc' := 57) (lv' := [(0, .ref 182), (1, .int a1), (2, .int a2), (3, .int a3), (4, .int a4), (5, .int (nI 0)), (6, .int (nI 0))]) [1, 2, 3, 4, 5, 6, 0] rfl dX10_may_55 (by decide) rfl ?_
        exact pw_sub [0, 1, 2, 3, 4, 5, 6] rfl h
      · have h := h.2 q3
        refine pw_iload (pc' := 33) 4 rfl dX10_may_31 rfl ?_
        refine pw_if_eq (pc' := 36) (tgt := 47) rfl dX10_may_33 (by decide) (fun q4 => ?_) (fun q4 => ?_)
        · have h := h.1 q4
          refine pw_iconst (pc' := 48) rfl dX10_may_47 ci_1 ?_
          refine pw_goto (tgt := 52) dX10_may_48 (by decide) ?_
          refine pw_istore (pc' := 54) (lv' := [(0, .ref 182), (1, .int a1), (2, .int a2), (3, .int a3), (4, .int a4), (5, .int (nI 1))]) [1, 2, 3, 4, 5, 0] rfl dX10_may_52 (by decide) rfl ?_
          refine pw_iconst (pc' := 55) rfl dX10_may_54 ci_0 ?_
          refine pw_istore (pc' := 57) (lv' := [(0, .ref 182), (1, .int a1), (2, .int a2), (3, .int a3), (4, .int a4), (5, .int (nI 1)), (6, .int (nI 0))]) [1, 2, 3, 4, 5, 6, 0] rfl dX10_may_55 (by decide) rfl ?_
          exact pw_sub [0, 1, 2, 3, 4, 5, 6] rfl h
        · have h := h.2 q4
          refine pw_aload_n (pc' := 37) 0 rfl dX10_may_36 rfl rfl ?_
          refine pw_iload_n (pc' := 38) 3 rfl dX10_may_37 rfl rfl ?_
          refine pw_iload_n (pc' := 39) 2 rfl dX10_may_38 rfl rfl ?_
          refine pw_iconst (pc' := 40) rfl dX10_may_39 ci_1 ?_
          refine pw_iadd (pc' := 41) rfl dX10_may_40 ?_
          refine ps_callVI (pc' := 44) (As := [.int a3, .int (a2 + (nI 1))]) (rest := []) (cT := (RX10, TX10, 44)) 2 rfl dX10_may_41 cv_X10_isMet ml_X10_167 (by decide) rfl rfl (by decide) (Nat.le_of_ble_eq_true rfl) ob_182 rfl rfl (CA.monoI h ?_)
          intro r5 M5 h
          refine pw_if_ne (pc' := 47) (tgt := 51) rfl dX10_may_44 (by decide) (fun q6 => ?_) (fun q6 => ?_)
          · have h := h.1 q6
            refine pw_iconst (pc' := 52) rfl dX10_may_51 ci_0 ?_
            refine pw_istore (pc' := 54) (lv' := [(0, .ref 182), (1, .int a1), (2, .int a2), (3, .int a3), (4, .int a4), (5, .int (nI 0))]) [1, 2, 3, 4, 5, 0] rfl dX10_may_52 (by decide) rfl ?_
            refine pw_iconst (pc' := 55) rfl dX10_may_54 ci_0 ?_
            refine pw_istore (pc' := 57) (lv' := [(0, .ref 182), (1, .int a1), (2, .int a2), (3, .int a3), (4, .int a4), (5, .int (nI 0)), (6, .int (nI 0))]) [1, 2, 3, 4, 5, 6, 0] rfl dX10_may_55 (by decide) rfl ?_
            exact pw_sub [0, 1, 2, 3, 4, 5, 6] rfl h
          · have h := h.2 q6
            refine pw_iconst (pc' := 48) rfl dX10_may_47 ci_1 ?_
            refine pw_goto (tgt := 52) dX10_may_48 (by decide) ?_
            refine pw_istore (pc' := 54) (lv' := [(0, .ref 182), (1, .int a1), (2, .int a2), (3, .int a3), (4, .int a4), (5, .int (nI 1))]) [1, 2, 3, 4, 5, 0] rfl dX10_may_52 (by decide) rfl ?_
            refine pw_iconst (pc' := 55) rfl dX10_may_54 ci_0 ?_
            refine pw_istore (pc' := 57) (lv' := [(0, .ref 182), (1, .int a1), (2, .int a2), (3, .int a3), (4, .int a4), (5, .int (nI 1)), (6, .int (nI 0))]) [1, 2, 3, 4, 5, 6, 0] rfl dX10_may_55 (by decide) rfl ?_
            exact pw_sub [0, 1, 2, 3, 4, 5, 6] rfl h
    · have h := h.2 q2
      refine pw_iconst (pc' := 20) rfl dX10_may_19 ci_1 ?_
      refine pw_goto (tgt := 24) dX10_may_20 (by decide) ?_
      refine pw_istore (pc' := 26) (lv' := [(0, .ref 182), (1, .int a1), (2, .int a2), (3, .int a3), (4, .int a4), (5, .int (nI 1))]) [1, 2, 3, 4, 5, 0] rfl dX10_may_24 (by decide) rfl ?_
      refine pw_iload (pc' := 28) 5 rfl dX10_may_26 rfl ?_
      refine pw_if_eq (pc' := 31) (tgt := 51) rfl dX10_may_28 (by decide) (fun q3 => ?_) (fun q3 => ?_)
      · have h := h.1 q3
        refine pw_iconst (pc' := 52) rfl dX10_may_51 ci_0 ?_
        refine pw_istore (pc' := 54) (lv' := [(0, .ref 182), (1, .int a1), (2, .int a2), (3, .int a3), (4, .int a4), (5, .int (nI 0))]) [1, 2, 3, 4, 5, 0] rfl dX10_may_52 (by decide) rfl ?_
        refine pw_iconst (pc' := 55) rfl dX10_may_54 ci_0 ?_
        refine pw_istore (pc' := 57) (lv' := [(0, .ref 182), (1, .int a1), (2, .int a2), (3, .int a3), (4, .int a4), (5, .int (nI 0)), (6, .int (nI 0))]) [1, 2, 3, 4, 5, 6, 0] rfl dX10_may_55 (by decide) rfl ?_
        exact pw_sub [0, 1, 2, 3, 4, 5, 6] rfl h
      · have h := h.2 q3
        refine pw_iload (pc' := 33) 4 rfl dX10_may_31 rfl ?_
        refine pw_if_eq (pc' := 36) (tgt := 47) rfl dX10_may_33 (by decide) (fun q4 => ?_) (fun q4 => ?_)
        · have h := h.1 q4
          refine pw_iconst (pc' := 48) rfl dX10_may_47 ci_1 ?_
          refine pw_goto (tgt := 52) dX10_may_48 (by decide) ?_
          refine pw_istore (pc' := 54) (lv' := [(0, .ref 182), (1, .int a1), (2, .int a2), (3, .int a3), (4, .int a4), (5, .int (nI 1))]) [1, 2, 3, 4, 5, 0] rfl dX10_may_52 (by decide) rfl ?_
          refine pw_iconst (pc' := 55) rfl dX10_may_54 ci_0 ?_
          refine pw_istore (pc' := 57) (lv' := [(0, .ref 182), (1, .int a1), (2, .int a2), (3, .int a3), (4, .int a4), (5, .int (nI 1)), (6, .int (nI 0))]) [1, 2, 3, 4, 5, 6, 0] rfl dX10_may_55 (by decide) rfl ?_
          exact pw_sub [0, 1, 2, 3, 4, 5, 6] rfl h
        · have h := h.2 q4
          refine pw_aload_n (pc' := 37) 0 rfl dX10_may_36 rfl rfl ?_
          refine pw_iload_n (pc' := 38) 3 rfl dX10_may_37 rfl rfl ?_
          refine pw_iload_n (pc' := 39) 2 rfl dX10_may_38 rfl rfl ?_
          refine pw_iconst (pc' := 40) rfl dX10_may_39 ci_1 ?_
          refine pw_iadd (pc' := 41) rfl dX10_may_40 ?_
          refine ps_callVI (pc' := 44) (As := [.int a3, .int (a2 + (nI 1))]) (rest := []) (cT := (RX10, TX10, 44)) 2 rfl dX10_may_41 cv_X10_isMet ml_X10_167 (by decide) rfl rfl (by decide) (Nat.le_of_ble_eq_true rfl) ob_182 rfl rfl (CA.monoI h ?_)
          intro r5 M5 h
          refine pw_if_ne (pc' := 47) (tgt := 51) rfl dX10_may_44 (by decide) (fun q6 => ?_) (fun q6 => ?_)
          · have h := h.1 q6
            refine pw_iconst (pc' := 52) rfl dX10_may_51 ci_0 ?_
            refine pw_istore (pc' := 54) (lv' := [(0, .ref 182), (1, .int a1), (2, .int a2), (3, .int a3), (4, .int a4), (5, .int (nI 0))]) [1, 2, 3, 4, 5, 0] rfl dX10_may_52 (by decide) rfl ?_
            refine pw_iconst (pc' := 55) rfl dX10_may_54 ci_0 ?_
            refine pw_istore (pc' := 57) (lv' := [(0, .ref 182), (1, .int a1), (2, .int a2), (3, .int a3), (4, .int a4), (5, .int (nI 0)), (6, .int (nI 0))]) [1, 2, 3, 4, 5, 6, 0] rfl dX10_may_55 (by decide) rfl ?_
            exact pw_sub [0, 1, 2, 3, 4, 5, 6] rfl h
          · have h := h.2 q6
            refine pw_iconst (pc' := 48) rfl dX10_may_47 ci_1 ?_
            refine pw_goto (tgt := 52) dX10_may_48 (by decide) ?_
            refine pw_istore (pc' := 54) (lv' := [(0, .ref 182), (1, .int a1), (2, .int a2), (3, .int a3), (4, .int a4), (5, .int (nI 1))]) [1, 2, 3, 4, 5, 0] rfl dX10_may_52 (by decide) rfl ?_
            refine pw_iconst (pc' := 55) rfl dX10_may_54 ci_0 ?_
            refine pw_istore (pc' := 57) (lv' := [(0, .ref 182), (1, .int a1), (2, .int a2), (3, .int a3), (4, .int a4), (5, .int (nI 1)), (6, .int (nI 0))]) [1, 2, 3, 4, 5, 6, 0] rfl dX10_may_55 (by decide) rfl ?_
            exact pw_sub [0, 1, 2, 3, 4, 5, 6] rfl h
theorem T_X10_may_57 {M : Mem} {a1 : Int32} {a2 : Int32} {a3 : Int32} {a4 : Int32} {a5 : Int32} {a6 : Int32} {Q : Int32 → Mem → Prop}  (h : (((M 182 3) ≤ a6) → ((a5 = 0 ∨ a5 = 1) ∧ Q a5 M)) ∧ ((¬ (M 182 3) ≤ a6) → (((a5 = 0) → ((a5 = 0 ∨ a5 = 1) ∧ Q a5 M)) ∧ ((¬ a5 = 0) → (((a4 = 0) → ((a5 = 0 ∨ a5 = 1) ∧ Q a5 M)) ∧ ((¬ a4 = 0) → (((a1 = a3) → ((a5 = 0 ∨ a5 = 1) ∧ Q a5 M)) ∧ ((¬ a1 = a3) → (vp_in (((nI 24) * a6) + a2) 72 ∧ (((¬ (M 184 (ix (((nI 24) * a6) + a2))) = a3) → (P_X10_may_57 M a1 a2 a3 a4 (nI 1) (a6 + (nI 1)) Q)) ∧ (((M 184 (ix (((nI 24) * a6) + a2))) = a3) → (vp_in ((((nI 24) * a6) + a2) + (nI 1)) 72 ∧ ((((M 184 (ix ((((nI 24) * a6) + a2) + (nI 1)))) = a1) → (P_X10_may_57 M a1 a2 a3 a4 (nI 0) (a6 + (nI 1)) Q)) ∧ ((¬ (M 184 (ix ((((nI 24) * a6) + a2) + (nI 1)))) = a1) → (P_X10_may_57 M a1 a2 a3 a4 (nI 1) (a6 + (nI 1)) Q))))))))))))))) : P_X10_may_57 M a1 a2 a3 a4 a5 a6 Q := by
  refine pw_iload (pc' := 59) 6 rfl dX10_may_57 rfl ?_
  refine pw_aload_n (pc' := 60) 0 rfl dX10_may_59 rfl rfl ?_
  refine ps_getI (pc' := 63) (v := (M 182 3)) rfl dX10_may_60 fl_X10_119 ob_182 rfl rfl ?_
  refine pw_icmp_ge (pc' := 66) (tgt := 128) rfl dX10_may_63 (by decide) (fun q0 => ?_) (fun q0 => ?_)
  · have h := h.1 q0
    refine pw_iload (pc' := 130) 5 rfl dX10_may_128 rfl ?_
    exact ps_zret dX10_may_130 rfl h.1 h.2
  · have h := h.2 q0
    refine pw_iload (pc' := 68) 5 rfl dX10_may_66 rfl ?_
    refine pw_if_eq (pc' := 71) (tgt := 128) rfl dX10_may_68 (by decide) (fun q1 => ?_) (fun q1 => ?_)
    · have h := h.1 q1
      refine pw_iload (pc' := 130) 5 rfl dX10_may_128 rfl ?_
      exact ps_zret dX10_may_130 rfl h.1 h.2
    · have h := h.2 q1
      refine pw_iload (pc' := 73) 4 rfl dX10_may_71 rfl ?_
      refine pw_if_eq (pc' := 76) (tgt := 128) rfl dX10_may_73 (by decide) (fun q2 => ?_) (fun q2 => ?_)
      · have h := h.1 q2
        refine pw_iload (pc' := 130) 5 rfl dX10_may_128 rfl ?_
        exact ps_zret dX10_may_130 rfl h.1 h.2
      · have h := h.2 q2
        refine pw_iload_n (pc' := 77) 1 rfl dX10_may_76 rfl rfl ?_
        refine pw_iload_n (pc' := 78) 3 rfl dX10_may_77 rfl rfl ?_
        refine pw_icmp_eq (pc' := 81) (tgt := 128) rfl dX10_may_78 (by decide) (fun q3 => ?_) (fun q3 => ?_)
        · have h := h.1 q3
          refine pw_iload (pc' := 130) 5 rfl dX10_may_128 rfl ?_
          exact ps_zret dX10_may_130 rfl h.1 h.2
        · have h := h.2 q3
          refine pw_aload_n (pc' := 82) 0 rfl dX10_may_81 rfl rfl ?_
          refine ps_getR (pc' := 85) (r := 184) rfl dX10_may_82 fl_X10_13 ob_182 rfl rfl ?_
          refine pw_bipush (pc' := 87) rfl dX10_may_85 cb_24 ?_
          refine pw_iload (pc' := 89) 6 rfl dX10_may_87 rfl ?_
          refine pw_imul (pc' := 90) rfl dX10_may_89 ?_
          refine pw_iload_n (pc' := 91) 2 rfl dX10_may_90 rfl rfl ?_
          refine pw_iadd (pc' := 92) rfl dX10_may_91 ?_
          obtain ⟨b4, h⟩ := h
          refine ps_iald (pc' := 93) (v := (M 184 (ix (((nI 24) * a6) + a2)))) rfl dX10_may_92 ia_184 b4 rfl ?_
          refine pw_iload_n (pc' := 94) 3 rfl dX10_may_93 rfl rfl ?_
          refine pw_icmp_ne (pc' := 97) (tgt := 115) rfl dX10_may_94 (by decide) (fun q5 => ?_) (fun q5 => ?_)
          · have h := h.1 q5
            refine pw_iconst (pc' := 116) rfl dX10_may_115 ci_1 ?_
            refine pw_goto (tgt := 120) dX10_may_116 (by decide) ?_
            refine pw_istore (pc' := 122) (lv' := [(0, .ref 182), (1, .int a1), (2, .int a2), (3, .int a3), (4, .int a4), (5, .int (nI 1)), (6, .int a6)]) [1, 2, 3, 4, 5, 0, 6] rfl dX10_may_120 (by decide) rfl ?_
            refine pw_iinc (pc' := 125) (lv' := [(0, .ref 182), (1, .int a1), (2, .int a2), (3, .int a3), (4, .int a4), (5, .int (nI 1)), (6, .int (a6 + (nI 1)))]) 6 [1, 2, 3, 4, 5, 6, 0] rfl dX10_may_122 rfl (ii_1 _) (by decide) rfl ?_
            refine pw_goto (tgt := 57) dX10_may_125 (by decide) ?_
            exact pw_sub [0, 1, 2, 3, 4, 5, 6] rfl h
          · have h := h.2 q5
            refine pw_aload_n (pc' := 98) 0 rfl dX10_may_97 rfl rfl ?_
            refine ps_getR (pc' := 101) (r := 184) rfl dX10_may_98 fl_X10_13 ob_182 rfl rfl ?_
            refine pw_bipush (pc' := 103) rfl dX10_may_101 cb_24 ?_
            refine pw_iload (pc' := 105) 6 rfl dX10_may_103 rfl ?_
            refine pw_imul (pc' := 106) rfl dX10_may_105 ?_
            refine pw_iload_n (pc' := 107) 2 rfl dX10_may_106 rfl rfl ?_
            refine pw_iadd (pc' := 108) rfl dX10_may_107 ?_
            refine pw_iconst (pc' := 109) rfl dX10_may_108 ci_1 ?_
            refine pw_iadd (pc' := 110) rfl dX10_may_109 ?_
            obtain ⟨b6, h⟩ := h
            refine ps_iald (pc' := 111) (v := (M 184 (ix ((((nI 24) * a6) + a2) + (nI 1))))) rfl dX10_may_110 ia_184 b6 rfl ?_
            refine pw_iload_n (pc' := 112) 1 rfl dX10_may_111 rfl rfl ?_
            refine pw_icmp_eq (pc' := 115) (tgt := 119) rfl dX10_may_112 (by decide) (fun q7 => ?_) (fun q7 => ?_)
            · have h := h.1 q7
              refine pw_iconst (pc' := 120) rfl dX10_may_119 ci_0 ?_
              refine pw_istore (pc' := 122) (lv' := [(0, .ref 182), (1, .int a1), (2, .int a2), (3, .int a3), (4, .int a4), (5, .int (nI 0)), (6, .int a6)]) [1, 2, 3, 4, 5, 0, 6] rfl dX10_may_120 (by decide) rfl ?_
              refine pw_iinc (pc' := 125) (lv' := [(0, .ref 182), (1, .int a1), (2, .int a2), (3, .int a3), (4, .int a4), (5, .int (nI 0)), (6, .int (a6 + (nI 1)))]) 6 [1, 2, 3, 4, 5, 6, 0] rfl dX10_may_122 rfl (ii_1 _) (by decide) rfl ?_
              refine pw_goto (tgt := 57) dX10_may_125 (by decide) ?_
              exact pw_sub [0, 1, 2, 3, 4, 5, 6] rfl h
            · have h := h.2 q7
              refine pw_iconst (pc' := 116) rfl dX10_may_115 ci_1 ?_
              refine pw_goto (tgt := 120) dX10_may_116 (by decide) ?_
              refine pw_istore (pc' := 122) (lv' := [(0, .ref 182), (1, .int a1), (2, .int a2), (3, .int a3), (4, .int a4), (5, .int (nI 1)), (6, .int a6)]) [1, 2, 3, 4, 5, 0, 6] rfl dX10_may_120 (by decide) rfl ?_
              refine pw_iinc (pc' := 125) (lv' := [(0, .ref 182), (1, .int a1), (2, .int a2), (3, .int a3), (4, .int a4), (5, .int (nI 1)), (6, .int (a6 + (nI 1)))]) 6 [1, 2, 3, 4, 5, 6, 0] rfl dX10_may_122 rfl (ii_1 _) (by decide) rfl ?_
              refine pw_goto (tgt := 57) dX10_may_125 (by decide) ?_
              exact pw_sub [0, 1, 2, 3, 4, 5, 6] rfl h
theorem T_X10_endOf {M : Mem} {a1 : Int32} {a2 : Int32} {a3 : Int32} {a4 : Int32} {Q : Int32 → Mem → Prop}  (h : ((a4 = 0) → (vp_in (((nI 10) * (((nI 0) + ((nI 10) * a2)) + a1)) + a3) 4800 ∧ (Q (M 188 (ix (((nI 10) * (((nI 0) + ((nI 10) * a2)) + a1)) + a3))) M))) ∧ ((¬ a4 = 0) → (vp_in (((nI 10) * (((nI 240) + ((nI 10) * a2)) + a1)) + a3) 4800 ∧ (Q (M 188 (ix (((nI 10) * (((nI 240) + ((nI 10) * a2)) + a1)) + a3))) M)))) : C_X10_endOf M a1 a2 a3 a4 Q := by
  refine CA_of rfl (Nat.le_of_ble_eq_true rfl) ?_
  show PS _ _ 0 [(0, .ref 182), (1, .int a1), (2, .int a2), (3, .int a3), (4, .int a4)] [] M _
  refine pw_aload_n (pc' := 1) 0 rfl dX10_endOf_0 rfl rfl ?_
  refine ps_getR (pc' := 4) (r := 188) rfl dX10_endOf_1 fl_X10_25 ob_182 rfl rfl ?_
  refine pw_bipush (pc' := 6) rfl dX10_endOf_4 cb_10 ?_
  refine pw_iload (pc' := 8) 4 rfl dX10_endOf_6 rfl ?_
  refine pw_if_eq (pc' := 11) (tgt := 17) rfl dX10_endOf_8 (by decide) (fun q0 => ?_) (fun q0 => ?_)
  · have h := h.1 q0
    refine pw_iconst (pc' := 18) rfl dX10_endOf_17 ci_0 ?_
    refine pw_bipush (pc' := 20) rfl dX10_endOf_18 cb_10 ?_
    refine pw_iload_n (pc' := 21) 2 rfl dX10_endOf_20 rfl rfl ?_
    refine pw_imul (pc' := 22) rfl dX10_endOf_21 ?_
    refine pw_iadd (pc' := 23) rfl dX10_endOf_22 ?_
    refine pw_iload_n (pc' := 24) 1 rfl dX10_endOf_23 rfl rfl ?_
    refine pw_iadd (pc' := 25) rfl dX10_endOf_24 ?_
    refine pw_imul (pc' := 26) rfl dX10_endOf_25 ?_
    refine pw_iload_n (pc' := 27) 3 rfl dX10_endOf_26 rfl rfl ?_
    refine pw_iadd (pc' := 28) rfl dX10_endOf_27 ?_
    obtain ⟨b1, h⟩ := h
    refine ps_iald (pc' := 29) (v := (M 188 (ix (((nI 10) * (((nI 0) + ((nI 10) * a2)) + a1)) + a3)))) rfl dX10_endOf_28 ia_188 b1 rfl ?_
    exact ps_iret dX10_endOf_29 rfl h
  · have h := h.2 q0
    refine pw_sipush (pc' := 14) rfl dX10_endOf_11 cs_240 ?_
    refine pw_goto (tgt := 18) dX10_endOf_14 (by decide) ?_
    refine pw_bipush (pc' := 20) rfl dX10_endOf_18 cb_10 ?_
    refine pw_iload_n (pc' := 21) 2 rfl dX10_endOf_20 rfl rfl ?_
    refine pw_imul (pc' := 22) rfl dX10_endOf_21 ?_
    refine pw_iadd (pc' := 23) rfl dX10_endOf_22 ?_
    refine pw_iload_n (pc' := 24) 1 rfl dX10_endOf_23 rfl rfl ?_
    refine pw_iadd (pc' := 25) rfl dX10_endOf_24 ?_
    refine pw_imul (pc' := 26) rfl dX10_endOf_25 ?_
    refine pw_iload_n (pc' := 27) 3 rfl dX10_endOf_26 rfl rfl ?_
    refine pw_iadd (pc' := 28) rfl dX10_endOf_27 ?_
    obtain ⟨b1, h⟩ := h
    refine ps_iald (pc' := 29) (v := (M 188 (ix (((nI 10) * (((nI 240) + ((nI 10) * a2)) + a1)) + a3)))) rfl dX10_endOf_28 ia_188 b1 rfl ?_
    exact ps_iret dX10_endOf_29 rfl h
theorem T_X10_servant {M : Mem} {a1 : Int32} {Q : Int32 → Mem → Prop}  (h : C_X10_isRoom M a1 (fun r0 M0 => ((¬ r0 = 0) → (((¬ (M0 182 14) = (nI 3)) → (vp_in (M0 182 14) 3 ∧ (Q (((M0 182 14) + (nI 1)) - (nI 1)) (wr (wr (wr M0 189 (ix (M0 182 14)) a1) 190 (ix (M0 182 14)) (nI 0)) 182 14 ((M0 182 14) + (nI 1)))))) ∧ (((M0 182 14) = (nI 3)) → (Q (-3) M0)))) ∧ ((r0 = 0) → (Q (-1) M0)))) : C_X10_servant M a1 Q := by
  refine CA_of rfl (Nat.le_of_ble_eq_true rfl) ?_
  show PS _ _ 0 [(0, .ref 182), (1, .int a1)] [] M _
  refine pw_aload_n (pc' := 1) 0 rfl dX10_servant_0 rfl rfl ?_
  refine pw_iload_n (pc' := 2) 1 rfl dX10_servant_1 rfl rfl ?_
  refine ps_callVI (pc' := 5) (As := [.int a1]) (rest := []) (cT := (RX10, TX10, 44)) 1 rfl dX10_servant_2 cv_X10_isRoom ml_X10_108 (by decide) rfl rfl (by decide) (Nat.le_of_ble_eq_true rfl) ob_182 rfl rfl (CA.monoI h ?_)
  intro r0 M0 h
  refine pw_if_ne (pc' := 8) (tgt := 10) rfl dX10_servant_5 (by decide) (fun q1 => ?_) (fun q1 => ?_)
  · have h := h.1 q1
    refine pw_aload_n (pc' := 11) 0 rfl dX10_servant_10 rfl rfl ?_
    refine ps_getI (pc' := 14) (v := (M0 182 14)) rfl dX10_servant_11 fl_X10_187 ob_182 rfl rfl ?_
    refine pw_iconst (pc' := 15) rfl dX10_servant_14 ci_3 ?_
    refine pw_icmp_ne (pc' := 18) (tgt := 21) rfl dX10_servant_15 (by decide) (fun q2 => ?_) (fun q2 => ?_)
    · have h := h.1 q2
      refine pw_aload_n (pc' := 22) 0 rfl dX10_servant_21 rfl rfl ?_
      refine ps_getR (pc' := 25) (r := 189) rfl dX10_servant_22 fl_X10_28 ob_182 rfl rfl ?_
      refine pw_aload_n (pc' := 26) 0 rfl dX10_servant_25 rfl rfl ?_
      refine ps_getI (pc' := 29) (v := (M0 182 14)) rfl dX10_servant_26 fl_X10_187 ob_182 rfl rfl ?_
      refine pw_iload_n (pc' := 30) 1 rfl dX10_servant_29 rfl rfl ?_
      obtain ⟨b3, h⟩ := h
      refine ps_iast (pc' := 31) rfl dX10_servant_30 ia_189 b3 ?_
      refine pw_aload_n (pc' := 32) 0 rfl dX10_servant_31 rfl rfl ?_
      refine ps_getR (pc' := 35) (r := 190) rfl dX10_servant_32 fl_X10_31 ob_182 rfl rfl ?_
      refine pw_aload_n (pc' := 36) 0 rfl dX10_servant_35 rfl rfl ?_
      refine ps_getI (pc' := 39) (v := (M0 182 14)) rfl dX10_servant_36 fl_X10_187 ob_182 rfl rfl ?_
      refine pw_iconst (pc' := 40) rfl dX10_servant_39 ci_0 ?_
      refine ps_iast (pc' := 41) rfl dX10_servant_40 ia_190 b3 ?_
      refine pw_aload_n (pc' := 42) 0 rfl dX10_servant_41 rfl rfl ?_
      refine pw_dup (pc' := 43) rfl dX10_servant_42 rfl ?_
      refine ps_getI (pc' := 46) (v := (M0 182 14)) rfl dX10_servant_43 fl_X10_187 ob_182 rfl rfl ?_
      refine pw_iconst (pc' := 47) rfl dX10_servant_46 ci_1 ?_
      refine pw_iadd (pc' := 48) rfl dX10_servant_47 ?_
      refine ps_putI (pc' := 51) rfl dX10_servant_48 fl_X10_187 ob_182 rfl ?_
      refine pw_aload_n (pc' := 52) 0 rfl dX10_servant_51 rfl rfl ?_
      refine ps_getI (pc' := 55) (v := ((M0 182 14) + (nI 1))) rfl dX10_servant_52 fl_X10_187 ob_182 rfl rfl ?_
      refine pw_iconst (pc' := 56) rfl dX10_servant_55 ci_1 ?_
      refine pw_isub (pc' := 57) rfl dX10_servant_56 ?_
      exact ps_iret dX10_servant_57 rfl h
    · have h := h.2 q2
      refine pw_bipush (pc' := 20) rfl dX10_servant_18 cb_m3 ?_
      exact ps_iret dX10_servant_20 rfl h
  · have h := h.2 q1
    refine pw_iconst (pc' := 9) rfl dX10_servant_8 ci_m1 ?_
    exact ps_iret dX10_servant_9 rfl h
theorem T_X10_ill {M : Mem} {a1 : Int32} {a2 : Int32} {Q : Int32 → Mem → Prop}  (h : C_X10_in M (a1.toInt64) (0 : Int64) (((M 182 14) - (nI 1)).toInt64) (fun r0 M0 => ((¬ r0 = 0) → (vp_in a1 3 ∧ (((a2 = 0) → (Q (M0 190 (ix a1)) (wr M0 190 (ix a1) (nI 0)))) ∧ ((¬ a2 = 0) → (Q (M0 190 (ix a1)) (wr M0 190 (ix a1) (nI 1))))))) ∧ ((r0 = 0) → (Q (-1) M0)))) : C_X10_ill M a1 a2 Q := by
  refine CA_of rfl (Nat.le_of_ble_eq_true rfl) ?_
  show PS _ _ 0 [(0, .ref 182), (1, .int a1), (2, .int a2)] [] M _
  refine pw_iload_n (pc' := 1) 1 rfl dX10_ill_0 rfl rfl ?_
  refine pw_i2l (pc' := 2) rfl dX10_ill_1 rfl ?_
  refine pw_lconst (pc' := 3) rfl dX10_ill_2 rfl ?_
  refine pw_aload_n (pc' := 4) 0 rfl dX10_ill_3 rfl rfl ?_
  refine ps_getI (pc' := 7) (v := (M 182 14)) rfl dX10_ill_4 fl_X10_187 ob_182 rfl rfl ?_
  refine pw_iconst (pc' := 8) rfl dX10_ill_7 ci_1 ?_
  refine pw_isub (pc' := 9) rfl dX10_ill_8 ?_
  refine pw_i2l (pc' := 10) rfl dX10_ill_9 rfl ?_
  refine ps_callSI (pc' := 13) (As := [.long (a1.toInt64), .long (0 : Int64), .long (((M 182 14) - (nI 1)).toInt64)]) (rest := []) 3 rfl dX10_ill_10 cs_X10_in ml_X10_98 (by decide) rfl rfl (by decide) (Nat.le_of_ble_eq_true rfl) (CA.monoI h ?_)
  intro r0 M0 h
  refine pw_if_ne (pc' := 16) (tgt := 18) rfl dX10_ill_13 (by decide) (fun q1 => ?_) (fun q1 => ?_)
  · have h := h.1 q1
    refine pw_aload_n (pc' := 19) 0 rfl dX10_ill_18 rfl rfl ?_
    refine ps_getR (pc' := 22) (r := 190) rfl dX10_ill_19 fl_X10_31 ob_182 rfl rfl ?_
    refine pw_iload_n (pc' := 23) 1 rfl dX10_ill_22 rfl rfl ?_
    obtain ⟨b2, h⟩ := h
    refine ps_iald (pc' := 24) (v := (M0 190 (ix a1))) rfl dX10_ill_23 ia_190 b2 rfl ?_
    refine pw_istore_n (pc' := 25) (lv' := [(0, .ref 182), (1, .int a1), (2, .int a2), (3, .int (M0 190 (ix a1)))]) [1, 2, 3, 0] rfl dX10_ill_24 rfl (by decide) rfl ?_
    refine pw_aload_n (pc' := 26) 0 rfl dX10_ill_25 rfl rfl ?_
    refine ps_getR (pc' := 29) (r := 190) rfl dX10_ill_26 fl_X10_31 ob_182 rfl rfl ?_
    refine pw_iload_n (pc' := 30) 1 rfl dX10_ill_29 rfl rfl ?_
    refine pw_iload_n (pc' := 31) 2 rfl dX10_ill_30 rfl rfl ?_
    refine pw_if_eq (pc' := 34) (tgt := 38) rfl dX10_ill_31 (by decide) (fun q3 => ?_) (fun q3 => ?_)
    · have h := h.1 q3
      refine pw_iconst (pc' := 39) rfl dX10_ill_38 ci_0 ?_
      refine ps_iast (pc' := 40) rfl dX10_ill_39 ia_190 b2 ?_
      refine pw_iload_n (pc' := 41) 3 rfl dX10_ill_40 rfl rfl ?_
      exact ps_iret dX10_ill_41 rfl h
    · have h := h.2 q3
      refine pw_iconst (pc' := 35) rfl dX10_ill_34 ci_1 ?_
      refine pw_goto (tgt := 39) dX10_ill_35 (by decide) ?_
      refine ps_iast (pc' := 40) rfl dX10_ill_39 ia_190 b2 ?_
      refine pw_iload_n (pc' := 41) 3 rfl dX10_ill_40 rfl rfl ?_
      exact ps_iret dX10_ill_41 rfl h
  · have h := h.2 q1
    refine pw_iconst (pc' := 17) rfl dX10_ill_16 ci_m1 ?_
    exact ps_iret dX10_ill_17 rfl h
theorem T_X10_cellar {M : Mem} {a1 : Int32} {Q : Int32 → Mem → Prop}  (h : C_X10_isRoom M a1 (fun r0 M0 => ((¬ r0 = 0) → (Q (M0 182 5) (wr M0 182 5 a1))) ∧ ((r0 = 0) → (Q (-1) M0)))) : C_X10_cellar M a1 Q := by
  refine CA_of rfl (Nat.le_of_ble_eq_true rfl) ?_
  show PS _ _ 0 [(0, .ref 182), (1, .int a1)] [] M _
  refine pw_aload_n (pc' := 1) 0 rfl dX10_cellar_0 rfl rfl ?_
  refine pw_iload_n (pc' := 2) 1 rfl dX10_cellar_1 rfl rfl ?_
  refine ps_callVI (pc' := 5) (As := [.int a1]) (rest := []) (cT := (RX10, TX10, 44)) 1 rfl dX10_cellar_2 cv_X10_isRoom ml_X10_108 (by decide) rfl rfl (by decide) (Nat.le_of_ble_eq_true rfl) ob_182 rfl rfl (CA.monoI h ?_)
  intro r0 M0 h
  refine pw_if_ne (pc' := 8) (tgt := 10) rfl dX10_cellar_5 (by decide) (fun q1 => ?_) (fun q1 => ?_)
  · have h := h.1 q1
    refine pw_aload_n (pc' := 11) 0 rfl dX10_cellar_10 rfl rfl ?_
    refine ps_getI (pc' := 14) (v := (M0 182 5)) rfl dX10_cellar_11 fl_X10_190 ob_182 rfl rfl ?_
    refine pw_istore_n (pc' := 15) (lv' := [(0, .ref 182), (1, .int a1), (2, .int (M0 182 5))]) [1, 2, 0] rfl dX10_cellar_14 rfl (by decide) rfl ?_
    refine pw_aload_n (pc' := 16) 0 rfl dX10_cellar_15 rfl rfl ?_
    refine pw_iload_n (pc' := 17) 1 rfl dX10_cellar_16 rfl rfl ?_
    refine ps_putI (pc' := 20) rfl dX10_cellar_17 fl_X10_190 ob_182 rfl ?_
    refine pw_iload_n (pc' := 21) 2 rfl dX10_cellar_20 rfl rfl ?_
    exact ps_iret dX10_cellar_21 rfl h
  · have h := h.2 q1
    refine pw_iconst (pc' := 9) rfl dX10_cellar_8 ci_m1 ?_
    exact ps_iret dX10_cellar_9 rfl h
theorem T_X10_errand {M : Mem} {a1 : Int32} {a2 : Int32} {a3 : Int32} {a4 : Int32} {a5 : Int32} {Q : Int32 → Mem → Prop}  (h : C_X10_isErrand M a1 a2 a3 a4 a5 (fun r0 M0 => ((¬ r0 = 0) → (((¬ (M0 182 17) = (nI 5)) → (C_X10_puts M0 a1 a2 a3 a4 a5 (fun M3 => Q ((M3 182 17) - (nI 1)) M3))) ∧ (((M0 182 17) = (nI 5)) → (Q (-3) M0)))) ∧ ((r0 = 0) → (Q (-1) M0)))) : C_X10_errand M a1 a2 a3 a4 a5 Q := by
  refine CA_of rfl (Nat.le_of_ble_eq_true rfl) ?_
  show PS _ _ 0 [(0, .ref 182), (1, .int a1), (2, .int a2), (3, .int a3), (4, .int a4), (5, .int a5)] [] M _
  refine pw_aload_n (pc' := 1) 0 rfl dX10_errand_0 rfl rfl ?_
  refine pw_iload_n (pc' := 2) 1 rfl dX10_errand_1 rfl rfl ?_
  refine pw_iload_n (pc' := 3) 2 rfl dX10_errand_2 rfl rfl ?_
  refine pw_iload_n (pc' := 4) 3 rfl dX10_errand_3 rfl rfl ?_
  refine pw_iload (pc' := 6) 4 rfl dX10_errand_4 rfl ?_
  refine pw_iload (pc' := 8) 5 rfl dX10_errand_6 rfl ?_
  refine ps_callVI (pc' := 11) (As := [.int a1, .int a2, .int a3, .int a4, .int a5]) (rest := []) (cT := (RX10, TX10, 44)) 5 rfl dX10_errand_8 cv_X10_isErrand ml_X10_198 (by decide) rfl rfl (by decide) (Nat.le_of_ble_eq_true rfl) ob_182 rfl rfl (CA.monoI h ?_)
  intro r0 M0 h
  refine pw_if_ne (pc' := 14) (tgt := 16) rfl dX10_errand_11 (by decide) (fun q1 => ?_) (fun q1 => ?_)
  · have h := h.1 q1
    refine pw_aload_n (pc' := 17) 0 rfl dX10_errand_16 rfl rfl ?_
    refine ps_getI (pc' := 20) (v := (M0 182 17)) rfl dX10_errand_17 fl_X10_195 ob_182 rfl rfl ?_
    refine pw_iconst (pc' := 21) rfl dX10_errand_20 ci_5 ?_
    refine pw_icmp_ne (pc' := 24) (tgt := 27) rfl dX10_errand_21 (by decide) (fun q2 => ?_) (fun q2 => ?_)
    · have h := h.1 q2
      refine pw_aload_n (pc' := 28) 0 rfl dX10_errand_27 rfl rfl ?_
      refine pw_iload_n (pc' := 29) 1 rfl dX10_errand_28 rfl rfl ?_
      refine pw_iload_n (pc' := 30) 2 rfl dX10_errand_29 rfl rfl ?_
      refine pw_iload_n (pc' := 31) 3 rfl dX10_errand_30 rfl rfl ?_
      refine pw_iload (pc' := 33) 4 rfl dX10_errand_31 rfl ?_
      refine pw_iload (pc' := 35) 5 rfl dX10_errand_33 rfl ?_
      refine ps_callVV (pc' := 38) (As := [.int a1, .int a2, .int a3, .int a4, .int a5]) (rest := []) (cT := (RX10, TX10, 44)) 5 rfl dX10_errand_35 cv_X10_puts ml_X10_202 (by decide) rfl rfl (by decide) (Nat.le_of_ble_eq_true rfl) ob_182 rfl rfl (CA.monoV h ?_)
      intro M3 h
      refine pw_aload_n (pc' := 39) 0 rfl dX10_errand_38 rfl rfl ?_
      refine ps_getI (pc' := 42) (v := (M3 182 17)) rfl dX10_errand_39 fl_X10_195 ob_182 rfl rfl ?_
      refine pw_iconst (pc' := 43) rfl dX10_errand_42 ci_1 ?_
      refine pw_isub (pc' := 44) rfl dX10_errand_43 ?_
      exact ps_iret dX10_errand_44 rfl h
    · have h := h.2 q2
      refine pw_bipush (pc' := 26) rfl dX10_errand_24 cb_m3 ?_
      exact ps_iret dX10_errand_26 rfl h
  · have h := h.2 q1
    refine pw_iconst (pc' := 15) rfl dX10_errand_14 ci_m1 ?_
    exact ps_iret dX10_errand_15 rfl h
theorem T_X10_isErrand {M : Mem} {a1 : Int32} {a2 : Int32} {a3 : Int32} {a4 : Int32} {a5 : Int32} {Q : Int32 → Mem → Prop}  (h : C_X10_in M (a1.toInt64) (0 : Int64) (1 : Int64) (fun r0 M0 => ((r0 = 0) → (Q (nI 0) M0)) ∧ ((¬ r0 = 0) → (C_X10_isRoom M0 a2 (fun r2 M2 => ((r2 = 0) → (Q (nI 0) M2)) ∧ ((¬ r2 = 0) → (C_X10_in M2 (a3.toInt64) (1 : Int64) (9 : Int64) (fun r4 M4 => ((r4 = 0) → (Q (nI 0) M4)) ∧ ((¬ r4 = 0) → (C_X10_isTick M4 a4 (fun r6 M6 => ((r6 = 0) → (Q (nI 0) M6)) ∧ ((¬ r6 = 0) → (C_X10_in M6 (a5.toInt64) (a4.toInt64) (23 : Int64) (fun r8 M8 => ((r8 = 0) → (Q (nI 0) M8)) ∧ ((¬ r8 = 0) → (Q (nI 1) M8)))))))))))))))) : C_X10_isErrand M a1 a2 a3 a4 a5 Q := by
  refine CA_of rfl (Nat.le_of_ble_eq_true rfl) ?_
  show PS _ _ 0 [(0, .ref 182), (1, .int a1), (2, .int a2), (3, .int a3), (4, .int a4), (5, .int a5)] [] M _
  refine pw_iload_n (pc' := 1) 1 rfl dX10_isErrand_0 rfl rfl ?_
  refine pw_i2l (pc' := 2) rfl dX10_isErrand_1 rfl ?_
  refine pw_lconst (pc' := 3) rfl dX10_isErrand_2 rfl ?_
  refine pw_lconst (pc' := 4) rfl dX10_isErrand_3 rfl ?_
  refine ps_callSI (pc' := 7) (As := [.long (a1.toInt64), .long (0 : Int64), .long (1 : Int64)]) (rest := []) 3 rfl dX10_isErrand_4 cs_X10_in ml_X10_98 (by decide) rfl rfl (by decide) (Nat.le_of_ble_eq_true rfl) (CA.monoI h ?_)
  intro r0 M0 h
  refine pw_if_eq (pc' := 10) (tgt := 57) rfl dX10_isErrand_7 (by decide) (fun q1 => ?_) (fun q1 => ?_)
  · have h := h.1 q1
    refine pw_iconst (pc' := 58) rfl dX10_isErrand_57 ci_0 ?_
    exact ps_zret dX10_isErrand_58 rfl (by decide) h
  · have h := h.2 q1
    refine pw_aload_n (pc' := 11) 0 rfl dX10_isErrand_10 rfl rfl ?_
    refine pw_iload_n (pc' := 12) 2 rfl dX10_isErrand_11 rfl rfl ?_
    refine ps_callVI (pc' := 15) (As := [.int a2]) (rest := []) (cT := (RX10, TX10, 44)) 1 rfl dX10_isErrand_12 cv_X10_isRoom ml_X10_108 (by decide) rfl rfl (by decide) (Nat.le_of_ble_eq_true rfl) ob_182 rfl rfl (CA.monoI h ?_)
    intro r2 M2 h
    refine pw_if_eq (pc' := 18) (tgt := 57) rfl dX10_isErrand_15 (by decide) (fun q3 => ?_) (fun q3 => ?_)
    · have h := h.1 q3
      refine pw_iconst (pc' := 58) rfl dX10_isErrand_57 ci_0 ?_
      exact ps_zret dX10_isErrand_58 rfl (by decide) h
    · have h := h.2 q3
      refine pw_iload_n (pc' := 19) 3 rfl dX10_isErrand_18 rfl rfl ?_
      refine pw_i2l (pc' := 20) rfl dX10_isErrand_19 rfl ?_
      refine pw_lconst (pc' := 21) rfl dX10_isErrand_20 rfl ?_
      refine pw_ldc2 (pc' := 24) rfl dX10_isErrand_21 cn_X10_193 ?_
      refine ps_callSI (pc' := 27) (As := [.long (a3.toInt64), .long (1 : Int64), .long (9 : Int64)]) (rest := []) 3 rfl dX10_isErrand_24 cs_X10_in ml_X10_98 (by decide) rfl rfl (by decide) (Nat.le_of_ble_eq_true rfl) (CA.monoI h ?_)
      intro r4 M4 h
      refine pw_if_eq (pc' := 30) (tgt := 57) rfl dX10_isErrand_27 (by decide) (fun q5 => ?_) (fun q5 => ?_)
      · have h := h.1 q5
        refine pw_iconst (pc' := 58) rfl dX10_isErrand_57 ci_0 ?_
        exact ps_zret dX10_isErrand_58 rfl (by decide) h
      · have h := h.2 q5
        refine pw_iload (pc' := 32) 4 rfl dX10_isErrand_30 rfl ?_
        refine ps_callSI (pc' := 35) (As := [.int a4]) (rest := []) 1 rfl dX10_isErrand_32 cs_X10_isTick ml_X10_164 (by decide) rfl rfl (by decide) (Nat.le_of_ble_eq_true rfl) (CA.monoI h ?_)
        intro r6 M6 h
        refine pw_if_eq (pc' := 38) (tgt := 57) rfl dX10_isErrand_35 (by decide) (fun q7 => ?_) (fun q7 => ?_)
        · have h := h.1 q7
          refine pw_iconst (pc' := 58) rfl dX10_isErrand_57 ci_0 ?_
          exact ps_zret dX10_isErrand_58 rfl (by decide) h
        · have h := h.2 q7
          refine pw_iload (pc' := 40) 5 rfl dX10_isErrand_38 rfl ?_
          refine pw_i2l (pc' := 41) rfl dX10_isErrand_40 rfl ?_
          refine pw_iload (pc' := 43) 4 rfl dX10_isErrand_41 rfl ?_
          refine pw_i2l (pc' := 44) rfl dX10_isErrand_43 rfl ?_
          refine pw_ldc2 (pc' := 47) rfl dX10_isErrand_44 cn_X10_102 ?_
          refine ps_callSI (pc' := 50) (As := [.long (a5.toInt64), .long (a4.toInt64), .long (23 : Int64)]) (rest := []) 3 rfl dX10_isErrand_47 cs_X10_in ml_X10_98 (by decide) rfl rfl (by decide) (Nat.le_of_ble_eq_true rfl) (CA.monoI h ?_)
          intro r8 M8 h
          refine pw_if_eq (pc' := 53) (tgt := 57) rfl dX10_isErrand_50 (by decide) (fun q9 => ?_) (fun q9 => ?_)
          · have h := h.1 q9
            refine pw_iconst (pc' := 58) rfl dX10_isErrand_57 ci_0 ?_
            exact ps_zret dX10_isErrand_58 rfl (by decide) h
          · have h := h.2 q9
            refine pw_iconst (pc' := 54) rfl dX10_isErrand_53 ci_1 ?_
            refine pw_goto (tgt := 58) dX10_isErrand_54 (by decide) ?_
            exact ps_zret dX10_isErrand_58 rfl (by decide) h
theorem T_X10_puts {M : Mem} {a1 : Int32} {a2 : Int32} {a3 : Int32} {a4 : Int32} {a5 : Int32} {Q : Mem → Prop}  (h : vp_in ((nI 5) * (M 182 17)) 25 ∧ (vp_in (((nI 5) * (M 182 17)) + (nI 1)) 25 ∧ (vp_in (((nI 5) * (M 182 17)) + (nI 2)) 25 ∧ (vp_in (((nI 5) * (M 182 17)) + (nI 3)) 25 ∧ (vp_in (((nI 5) * (M 182 17)) + (nI 4)) 25 ∧ (Q (wr (wr (wr (wr (wr (wr M 191 (ix ((nI 5) * (M 182 17))) a1) 191 (ix (((nI 5) * (M 182 17)) + (nI 1))) a2) 191 (ix (((nI 5) * (M 182 17)) + (nI 2))) a3) 191 (ix (((nI 5) * (M 182 17)) + (nI 3))) a4) 191 (ix (((nI 5) * (M 182 17)) + (nI 4))) a5) 182 17 ((M 182 17) + (nI 1))))))))) : C_X10_puts M a1 a2 a3 a4 a5 Q := by
  refine CA_of rfl (Nat.le_of_ble_eq_true rfl) ?_
  show PS _ _ 0 [(0, .ref 182), (1, .int a1), (2, .int a2), (3, .int a3), (4, .int a4), (5, .int a5)] [] M _
  refine pw_iconst (pc' := 1) rfl dX10_puts_0 ci_5 ?_
  refine pw_aload_n (pc' := 2) 0 rfl dX10_puts_1 rfl rfl ?_
  refine ps_getI (pc' := 5) (v := (M 182 17)) rfl dX10_puts_2 fl_X10_195 ob_182 rfl rfl ?_
  refine pw_imul (pc' := 6) rfl dX10_puts_5 ?_
  refine pw_istore (pc' := 8) (lv' := [(0, .ref 182), (1, .int a1), (2, .int a2), (3, .int a3), (4, .int a4), (5, .int a5), (6, .int ((nI 5) * (M 182 17)))]) [1, 2, 3, 4, 5, 6, 0] rfl dX10_puts_6 (by decide) rfl ?_
  refine pw_aload_n (pc' := 9) 0 rfl dX10_puts_8 rfl rfl ?_
  refine ps_getR (pc' := 12) (r := 191) rfl dX10_puts_9 fl_X10_34 ob_182 rfl rfl ?_
  refine pw_iload (pc' := 14) 6 rfl dX10_puts_12 rfl ?_
  refine pw_iload_n (pc' := 15) 1 rfl dX10_puts_14 rfl rfl ?_
  obtain ⟨b0, h⟩ := h
  refine ps_iast (pc' := 16) rfl dX10_puts_15 ia_191 b0 ?_
  refine pw_aload_n (pc' := 17) 0 rfl dX10_puts_16 rfl rfl ?_
  refine ps_getR (pc' := 20) (r := 191) rfl dX10_puts_17 fl_X10_34 ob_182 rfl rfl ?_
  refine pw_iload (pc' := 22) 6 rfl dX10_puts_20 rfl ?_
  refine pw_iconst (pc' := 23) rfl dX10_puts_22 ci_1 ?_
  refine pw_iadd (pc' := 24) rfl dX10_puts_23 ?_
  refine pw_iload_n (pc' := 25) 2 rfl dX10_puts_24 rfl rfl ?_
  obtain ⟨b1, h⟩ := h
  refine ps_iast (pc' := 26) rfl dX10_puts_25 ia_191 b1 ?_
  refine pw_aload_n (pc' := 27) 0 rfl dX10_puts_26 rfl rfl ?_
  refine ps_getR (pc' := 30) (r := 191) rfl dX10_puts_27 fl_X10_34 ob_182 rfl rfl ?_
  refine pw_iload (pc' := 32) 6 rfl dX10_puts_30 rfl ?_
  refine pw_iconst (pc' := 33) rfl dX10_puts_32 ci_2 ?_
  refine pw_iadd (pc' := 34) rfl dX10_puts_33 ?_
  refine pw_iload_n (pc' := 35) 3 rfl dX10_puts_34 rfl rfl ?_
  obtain ⟨b2, h⟩ := h
  refine ps_iast (pc' := 36) rfl dX10_puts_35 ia_191 b2 ?_
  refine pw_aload_n (pc' := 37) 0 rfl dX10_puts_36 rfl rfl ?_
  refine ps_getR (pc' := 40) (r := 191) rfl dX10_puts_37 fl_X10_34 ob_182 rfl rfl ?_
  refine pw_iload (pc' := 42) 6 rfl dX10_puts_40 rfl ?_
  refine pw_iconst (pc' := 43) rfl dX10_puts_42 ci_3 ?_
  refine pw_iadd (pc' := 44) rfl dX10_puts_43 ?_
  refine pw_iload (pc' := 46) 4 rfl dX10_puts_44 rfl ?_
  obtain ⟨b3, h⟩ := h
  refine ps_iast (pc' := 47) rfl dX10_puts_46 ia_191 b3 ?_
  refine pw_aload_n (pc' := 48) 0 rfl dX10_puts_47 rfl rfl ?_
  refine ps_getR (pc' := 51) (r := 191) rfl dX10_puts_48 fl_X10_34 ob_182 rfl rfl ?_
  refine pw_iload (pc' := 53) 6 rfl dX10_puts_51 rfl ?_
  refine pw_iconst (pc' := 54) rfl dX10_puts_53 ci_4 ?_
  refine pw_iadd (pc' := 55) rfl dX10_puts_54 ?_
  refine pw_iload (pc' := 57) 5 rfl dX10_puts_55 rfl ?_
  obtain ⟨b4, h⟩ := h
  refine ps_iast (pc' := 58) rfl dX10_puts_57 ia_191 b4 ?_
  refine pw_aload_n (pc' := 59) 0 rfl dX10_puts_58 rfl rfl ?_
  refine pw_dup (pc' := 60) rfl dX10_puts_59 rfl ?_
  refine ps_getI (pc' := 63) (v := (M 182 17)) rfl dX10_puts_60 fl_X10_195 ob_182 rfl rfl ?_
  refine pw_iconst (pc' := 64) rfl dX10_puts_63 ci_1 ?_
  refine pw_iadd (pc' := 65) rfl dX10_puts_64 ?_
  refine ps_putI (pc' := 68) rfl dX10_puts_65 fl_X10_195 ob_182 rfl ?_
  exact ps_vret dX10_puts_68 rfl h
theorem T_X10_errands {M : Mem} {a1 : Int32} {a2 : Int32} {a3 : Int32} {a4 : Int32} {Q : Int32 → Mem → Prop}  (h : C_X10_isSheet M a1 (fun r0 M0 => ((r0 = 0) → (Q (-1) M0)) ∧ ((¬ r0 = 0) → (C_X10_isLane M0 a2 (fun r2 M2 => ((r2 = 0) → (Q (-1) M2)) ∧ ((¬ r2 = 0) → (C_X10_in M2 (a4.toInt64) (1 : Int64) (4 : Int64) (fun r4 M4 => ((¬ r4 = 0) → (C_X10_finds M4 a1 a2 a3 ((nI 5) * a4) (fun r6 M6 => ((0 ≤ r6) → (P_X10_errands_62 M6 a4 (((nI 24) * a1) + a3) (((nI 24) * a1) + a3) Q)) ∧ ((¬ 0 ≤ r6) → (Q r6 M6))))) ∧ ((r4 = 0) → (Q (-1) M4)))))))))) : C_X10_errands M a1 a2 a3 a4 Q := by
  refine CA_of rfl (Nat.le_of_ble_eq_true rfl) ?_
  show PS _ _ 0 [(0, .ref 182), (1, .int a1), (2, .int a2), (3, .int a3), (4, .int a4)] [] M _
  refine pw_iload_n (pc' := 1) 1 rfl dX10_errands_0 rfl rfl ?_
  refine ps_callSI (pc' := 4) (As := [.int a1]) (rest := []) 1 rfl dX10_errands_1 cs_X10_isSheet ml_X10_206 (by decide) rfl rfl (by decide) (Nat.le_of_ble_eq_true rfl) (CA.monoI h ?_)
  intro r0 M0 h
  refine pw_if_eq (pc' := 7) (tgt := 27) rfl dX10_errands_4 (by decide) (fun q1 => ?_) (fun q1 => ?_)
  · have h := h.1 q1
    refine pw_iconst (pc' := 28) rfl dX10_errands_27 ci_m1 ?_
    exact ps_iret dX10_errands_28 rfl h
  · have h := h.2 q1
    refine pw_iload_n (pc' := 8) 2 rfl dX10_errands_7 rfl rfl ?_
    refine ps_callSI (pc' := 11) (As := [.int a2]) (rest := []) 1 rfl dX10_errands_8 cs_X10_isLane ml_X10_209 (by decide) rfl rfl (by decide) (Nat.le_of_ble_eq_true rfl) (CA.monoI h ?_)
    intro r2 M2 h
    refine pw_if_eq (pc' := 14) (tgt := 27) rfl dX10_errands_11 (by decide) (fun q3 => ?_) (fun q3 => ?_)
    · have h := h.1 q3
      refine pw_iconst (pc' := 28) rfl dX10_errands_27 ci_m1 ?_
      exact ps_iret dX10_errands_28 rfl h
    · have h := h.2 q3
      refine pw_iload (pc' := 16) 4 rfl dX10_errands_14 rfl ?_
      refine pw_i2l (pc' := 17) rfl dX10_errands_16 rfl ?_
      refine pw_lconst (pc' := 18) rfl dX10_errands_17 rfl ?_
      refine pw_ldc2 (pc' := 21) rfl dX10_errands_18 cn_X10_212 ?_
      refine ps_callSI (pc' := 24) (As := [.long (a4.toInt64), .long (1 : Int64), .long (4 : Int64)]) (rest := []) 3 rfl dX10_errands_21 cs_X10_in ml_X10_98 (by decide) rfl rfl (by decide) (Nat.le_of_ble_eq_true rfl) (CA.monoI h ?_)
      intro r4 M4 h
      refine pw_if_ne (pc' := 27) (tgt := 29) rfl dX10_errands_24 (by decide) (fun q5 => ?_) (fun q5 => ?_)
      · have h := h.1 q5
        refine pw_aload_n (pc' := 30) 0 rfl dX10_errands_29 rfl rfl ?_
        refine pw_iload_n (pc' := 31) 1 rfl dX10_errands_30 rfl rfl ?_
        refine pw_iload_n (pc' := 32) 2 rfl dX10_errands_31 rfl rfl ?_
        refine pw_iload_n (pc' := 33) 3 rfl dX10_errands_32 rfl rfl ?_
        refine pw_iconst (pc' := 34) rfl dX10_errands_33 ci_5 ?_
        refine pw_iload (pc' := 36) 4 rfl dX10_errands_34 rfl ?_
        refine pw_imul (pc' := 37) rfl dX10_errands_36 ?_
        refine ps_callVI (pc' := 40) (As := [.int a1, .int a2, .int a3, .int ((nI 5) * a4)]) (rest := []) (cT := (RX10, TX10, 44)) 4 rfl dX10_errands_37 cv_X10_finds ml_X10_214 (by decide) rfl rfl (by decide) (Nat.le_of_ble_eq_true rfl) ob_182 rfl rfl (CA.monoI h ?_)
        intro r6 M6 h
        refine pw_istore (pc' := 42) (lv' := [(0, .ref 182), (1, .int a1), (2, .int a2), (3, .int a3), (4, .int a4), (5, .int r6)]) [1, 2, 3, 4, 5, 0] rfl dX10_errands_40 (by decide) rfl ?_
        refine pw_iload (pc' := 44) 5 rfl dX10_errands_42 rfl ?_
        refine pw_if_ge (pc' := 47) (tgt := 50) rfl dX10_errands_44 (by decide) (fun q7 => ?_) (fun q7 => ?_)
        · have h := h.1 q7
          refine pw_bipush (pc' := 52) rfl dX10_errands_50 cb_24 ?_
          refine pw_iload_n (pc' := 53) 1 rfl dX10_errands_52 rfl rfl ?_
          refine pw_imul (pc' := 54) rfl dX10_errands_53 ?_
          refine pw_iload_n (pc' := 55) 3 rfl dX10_errands_54 rfl rfl ?_
          refine pw_iadd (pc' := 56) rfl dX10_errands_55 ?_
          refine pw_istore (pc' := 58) (lv' := [(0, .ref 182), (1, .int a1), (2, .int a2), (3, .int a3), (4, .int a4), (5, .int r6), (6, .int (((nI 24) * a1) + a3))]) [1, 2, 3, 4, 5, 6, 0] rfl dX10_errands_56 (by decide) rfl ?_
          refine pw_iload (pc' := 60) 6 rfl dX10_errands_58 rfl ?_
          refine pw_istore (pc' := 62) (lv' := [(0, .ref 182), (1, .int a1), (2, .int a2), (3, .int a3), (4, .int a4), (5, .int r6), (6, .int (((nI 24) * a1) + a3)), (7, .int (((nI 24) * a1) + a3))]) [1, 2, 3, 4, 5, 6, 7, 0] rfl dX10_errands_60 (by decide) rfl ?_
          exact pw_sub [0, 4, 6, 7] rfl h
        · have h := h.2 q7
          refine pw_iload (pc' := 49) 5 rfl dX10_errands_47 rfl ?_
          exact ps_iret dX10_errands_49 rfl h
      · have h := h.2 q5
        refine pw_iconst (pc' := 28) rfl dX10_errands_27 ci_m1 ?_
        exact ps_iret dX10_errands_28 rfl h
theorem T_X10_errands_62 {M : Mem} {a4 : Int32} {a6 : Int32} {a7 : Int32} {Q : Int32 → Mem → Prop}  (h : (((a6 + ((nI 5) * a4)) ≤ a7) → (((((M 182 17) + a4) ≤ (nI 5)) → (P_X10_errands_151 M a4 a6 a6 Q)) ∧ ((¬ ((M 182 17) + a4) ≤ (nI 5)) → (Q (-3) M)))) ∧ ((¬ (a6 + ((nI 5) * a4)) ≤ a7) → (vp_in a7 96 ∧ (vp_in (a7 + (nI 1)) 96 ∧ (vp_in (a7 + (nI 2)) 96 ∧ (vp_in (a7 + (nI 3)) 96 ∧ (vp_in (a7 + (nI 4)) 96 ∧ (C_X10_isErrand M (M 208 (ix a7)) (M 208 (ix (a7 + (nI 1)))) (M 208 (ix (a7 + (nI 2)))) (M 208 (ix (a7 + (nI 3)))) (M 208 (ix (a7 + (nI 4)))) (fun r6 M6 => ((¬ r6 = 0) → (P_X10_errands_62 M6 a4 a6 (a7 + (nI 5)) Q)) ∧ ((r6 = 0) → (Q (-2) M6))))))))))) : P_X10_errands_62 M a4 a6 a7 Q := by
  refine pw_iload (pc' := 64) 3 rfl dX10_errands_62 rfl ?_
  refine pw_iload (pc' := 66) 2 rfl dX10_errands_64 rfl ?_
  refine pw_iconst (pc' := 67) rfl dX10_errands_66 ci_5 ?_
  refine pw_iload (pc' := 69) 1 rfl dX10_errands_67 rfl ?_
  refine pw_imul (pc' := 70) rfl dX10_errands_69 ?_
  refine pw_iadd (pc' := 71) rfl dX10_errands_70 ?_
  refine pw_icmp_ge (pc' := 74) (tgt := 133) rfl dX10_errands_71 (by decide) (fun q0 => ?_) (fun q0 => ?_)
  · have h := h.1 q0
    refine pw_aload_n (pc' := 134) 0 rfl dX10_errands_133 rfl rfl ?_
    refine ps_getI (pc' := 137) (v := (M 182 17)) rfl dX10_errands_134 fl_X10_195 ob_182 rfl rfl ?_
    refine pw_iload (pc' := 139) 1 rfl dX10_errands_137 rfl ?_
    refine pw_iadd (pc' := 140) rfl dX10_errands_139 ?_
    refine pw_iconst (pc' := 141) rfl dX10_errands_140 ci_5 ?_
    refine pw_icmp_le (pc' := 144) (tgt := 147) rfl dX10_errands_141 (by decide) (fun q1 => ?_) (fun q1 => ?_)
    · have h := h.1 q1
      refine pw_iload (pc' := 149) 2 rfl dX10_errands_147 rfl ?_
      refine pw_istore (pc' := 151) (lv' := [(0, .ref 182), (4, .int a4), (6, .int a6), (7, .int a6)]) [1, 2, 3, 0] rfl dX10_errands_149 (by decide) rfl ?_
      exact pw_sub [0, 1, 2, 3] rfl h
    · have h := h.2 q1
      refine pw_bipush (pc' := 146) rfl dX10_errands_144 cb_m3 ?_
      exact ps_iret dX10_errands_146 rfl h
  · have h := h.2 q0
    refine pw_aload_n (pc' := 75) 0 rfl dX10_errands_74 rfl rfl ?_
    refine pw_aload_n (pc' := 76) 0 rfl dX10_errands_75 rfl rfl ?_
    refine ps_getR (pc' := 79) (r := 208) rfl dX10_errands_76 fl_X10_89 ob_182 rfl rfl ?_
    refine pw_iload (pc' := 81) 3 rfl dX10_errands_79 rfl ?_
    obtain ⟨b1, h⟩ := h
    refine ps_iald (pc' := 82) (v := (M 208 (ix a7))) rfl dX10_errands_81 ia_208 b1 rfl ?_
    refine pw_aload_n (pc' := 83) 0 rfl dX10_errands_82 rfl rfl ?_
    refine ps_getR (pc' := 86) (r := 208) rfl dX10_errands_83 fl_X10_89 ob_182 rfl rfl ?_
    refine pw_iload (pc' := 88) 3 rfl dX10_errands_86 rfl ?_
    refine pw_iconst (pc' := 89) rfl dX10_errands_88 ci_1 ?_
    refine pw_iadd (pc' := 90) rfl dX10_errands_89 ?_
    obtain ⟨b2, h⟩ := h
    refine ps_iald (pc' := 91) (v := (M 208 (ix (a7 + (nI 1))))) rfl dX10_errands_90 ia_208 b2 rfl ?_
    refine pw_aload_n (pc' := 92) 0 rfl dX10_errands_91 rfl rfl ?_
    refine ps_getR (pc' := 95) (r := 208) rfl dX10_errands_92 fl_X10_89 ob_182 rfl rfl ?_
    refine pw_iload (pc' := 97) 3 rfl dX10_errands_95 rfl ?_
    refine pw_iconst (pc' := 98) rfl dX10_errands_97 ci_2 ?_
    refine pw_iadd (pc' := 99) rfl dX10_errands_98 ?_
    obtain ⟨b3, h⟩ := h
    refine ps_iald (pc' := 100) (v := (M 208 (ix (a7 + (nI 2))))) rfl dX10_errands_99 ia_208 b3 rfl ?_
    refine pw_aload_n (pc' := 101) 0 rfl dX10_errands_100 rfl rfl ?_
    refine ps_getR (pc' := 104) (r := 208) rfl dX10_errands_101 fl_X10_89 ob_182 rfl rfl ?_
    refine pw_iload (pc' := 106) 3 rfl dX10_errands_104 rfl ?_
    refine pw_iconst (pc' := 107) rfl dX10_errands_106 ci_3 ?_
    refine pw_iadd (pc' := 108) rfl dX10_errands_107 ?_
    obtain ⟨b4, h⟩ := h
    refine ps_iald (pc' := 109) (v := (M 208 (ix (a7 + (nI 3))))) rfl dX10_errands_108 ia_208 b4 rfl ?_
    refine pw_aload_n (pc' := 110) 0 rfl dX10_errands_109 rfl rfl ?_
    refine ps_getR (pc' := 113) (r := 208) rfl dX10_errands_110 fl_X10_89 ob_182 rfl rfl ?_
    refine pw_iload (pc' := 115) 3 rfl dX10_errands_113 rfl ?_
    refine pw_iconst (pc' := 116) rfl dX10_errands_115 ci_4 ?_
    refine pw_iadd (pc' := 117) rfl dX10_errands_116 ?_
    obtain ⟨b5, h⟩ := h
    refine ps_iald (pc' := 118) (v := (M 208 (ix (a7 + (nI 4))))) rfl dX10_errands_117 ia_208 b5 rfl ?_
    refine ps_callVI (pc' := 121) (As := [.int (M 208 (ix a7)), .int (M 208 (ix (a7 + (nI 1)))), .int (M 208 (ix (a7 + (nI 2)))), .int (M 208 (ix (a7 + (nI 3)))), .int (M 208 (ix (a7 + (nI 4))))]) (rest := []) (cT := (RX10, TX10, 44)) 5 rfl dX10_errands_118 cv_X10_isErrand ml_X10_198 (by decide) rfl rfl (by decide) (Nat.le_of_ble_eq_true rfl) ob_182 rfl rfl (CA.monoI h ?_)
    intro r6 M6 h
    refine pw_if_ne (pc' := 124) (tgt := 127) rfl dX10_errands_121 (by decide) (fun q7 => ?_) (fun q7 => ?_)
    · have h := h.1 q7
      refine pw_iinc (pc' := 130) (lv' := [(0, .ref 182), (4, .int a4), (6, .int a6), (7, .int (a7 + (nI 5)))]) 3 [1, 2, 3, 0] rfl dX10_errands_127 rfl (ii_5 _) (by decide) rfl ?_
      refine pw_goto (tgt := 62) dX10_errands_130 (by decide) ?_
      exact pw_sub [0, 1, 2, 3] rfl h
    · have h := h.2 q7
      refine pw_bipush (pc' := 126) rfl dX10_errands_124 cb_m2 ?_
      exact ps_iret dX10_errands_126 rfl h
theorem T_X10_errands_151 {M : Mem} {a4 : Int32} {a6 : Int32} {a7 : Int32} {Q : Int32 → Mem → Prop}  (h : (((a6 + ((nI 5) * a4)) ≤ a7) → (Q (M 182 17) M)) ∧ ((¬ (a6 + ((nI 5) * a4)) ≤ a7) → (vp_in a7 96 ∧ (vp_in (a7 + (nI 1)) 96 ∧ (vp_in (a7 + (nI 2)) 96 ∧ (vp_in (a7 + (nI 3)) 96 ∧ (vp_in (a7 + (nI 4)) 96 ∧ (C_X10_puts M (M 208 (ix a7)) (M 208 (ix (a7 + (nI 1)))) (M 208 (ix (a7 + (nI 2)))) (M 208 (ix (a7 + (nI 3)))) (M 208 (ix (a7 + (nI 4)))) (fun M6 => P_X10_errands_151 M6 a4 a6 (a7 + (nI 5)) Q))))))))) : P_X10_errands_151 M a4 a6 a7 Q := by
  refine pw_iload (pc' := 153) 3 rfl dX10_errands_151 rfl ?_
  refine pw_iload (pc' := 155) 2 rfl dX10_errands_153 rfl ?_
  refine pw_iconst (pc' := 156) rfl dX10_errands_155 ci_5 ?_
  refine pw_iload (pc' := 158) 1 rfl dX10_errands_156 rfl ?_
  refine pw_imul (pc' := 159) rfl dX10_errands_158 ?_
  refine pw_iadd (pc' := 160) rfl dX10_errands_159 ?_
  refine pw_icmp_ge (pc' := 163) (tgt := 216) rfl dX10_errands_160 (by decide) (fun q0 => ?_) (fun q0 => ?_)
  · have h := h.1 q0
    refine pw_aload_n (pc' := 217) 0 rfl dX10_errands_216 rfl rfl ?_
    refine ps_getI (pc' := 220) (v := (M 182 17)) rfl dX10_errands_217 fl_X10_195 ob_182 rfl rfl ?_
    exact ps_iret dX10_errands_220 rfl h
  · have h := h.2 q0
    refine pw_aload_n (pc' := 164) 0 rfl dX10_errands_163 rfl rfl ?_
    refine pw_aload_n (pc' := 165) 0 rfl dX10_errands_164 rfl rfl ?_
    refine ps_getR (pc' := 168) (r := 208) rfl dX10_errands_165 fl_X10_89 ob_182 rfl rfl ?_
    refine pw_iload (pc' := 170) 3 rfl dX10_errands_168 rfl ?_
    obtain ⟨b1, h⟩ := h
    refine ps_iald (pc' := 171) (v := (M 208 (ix a7))) rfl dX10_errands_170 ia_208 b1 rfl ?_
    refine pw_aload_n (pc' := 172) 0 rfl dX10_errands_171 rfl rfl ?_
    refine ps_getR (pc' := 175) (r := 208) rfl dX10_errands_172 fl_X10_89 ob_182 rfl rfl ?_
    refine pw_iload (pc' := 177) 3 rfl dX10_errands_175 rfl ?_
    refine pw_iconst (pc' := 178) rfl dX10_errands_177 ci_1 ?_
    refine pw_iadd (pc' := 179) rfl dX10_errands_178 ?_
    obtain ⟨b2, h⟩ := h
    refine ps_iald (pc' := 180) (v := (M 208 (ix (a7 + (nI 1))))) rfl dX10_errands_179 ia_208 b2 rfl ?_
    refine pw_aload_n (pc' := 181) 0 rfl dX10_errands_180 rfl rfl ?_
    refine ps_getR (pc' := 184) (r := 208) rfl dX10_errands_181 fl_X10_89 ob_182 rfl rfl ?_
    refine pw_iload (pc' := 186) 3 rfl dX10_errands_184 rfl ?_
    refine pw_iconst (pc' := 187) rfl dX10_errands_186 ci_2 ?_
    refine pw_iadd (pc' := 188) rfl dX10_errands_187 ?_
    obtain ⟨b3, h⟩ := h
    refine ps_iald (pc' := 189) (v := (M 208 (ix (a7 + (nI 2))))) rfl dX10_errands_188 ia_208 b3 rfl ?_
    refine pw_aload_n (pc' := 190) 0 rfl dX10_errands_189 rfl rfl ?_
    refine ps_getR (pc' := 193) (r := 208) rfl dX10_errands_190 fl_X10_89 ob_182 rfl rfl ?_
    refine pw_iload (pc' := 195) 3 rfl dX10_errands_193 rfl ?_
    refine pw_iconst (pc' := 196) rfl dX10_errands_195 ci_3 ?_
    refine pw_iadd (pc' := 197) rfl dX10_errands_196 ?_
    obtain ⟨b4, h⟩ := h
    refine ps_iald (pc' := 198) (v := (M 208 (ix (a7 + (nI 3))))) rfl dX10_errands_197 ia_208 b4 rfl ?_
    refine pw_aload_n (pc' := 199) 0 rfl dX10_errands_198 rfl rfl ?_
    refine ps_getR (pc' := 202) (r := 208) rfl dX10_errands_199 fl_X10_89 ob_182 rfl rfl ?_
    refine pw_iload (pc' := 204) 3 rfl dX10_errands_202 rfl ?_
    refine pw_iconst (pc' := 205) rfl dX10_errands_204 ci_4 ?_
    refine pw_iadd (pc' := 206) rfl dX10_errands_205 ?_
    obtain ⟨b5, h⟩ := h
    refine ps_iald (pc' := 207) (v := (M 208 (ix (a7 + (nI 4))))) rfl dX10_errands_206 ia_208 b5 rfl ?_
    refine ps_callVV (pc' := 210) (As := [.int (M 208 (ix a7)), .int (M 208 (ix (a7 + (nI 1)))), .int (M 208 (ix (a7 + (nI 2)))), .int (M 208 (ix (a7 + (nI 3)))), .int (M 208 (ix (a7 + (nI 4))))]) (rest := []) (cT := (RX10, TX10, 44)) 5 rfl dX10_errands_207 cv_X10_puts ml_X10_202 (by decide) rfl rfl (by decide) (Nat.le_of_ble_eq_true rfl) ob_182 rfl rfl (CA.monoV h ?_)
    intro M6 h
    refine pw_iinc (pc' := 213) (lv' := [(0, .ref 182), (4, .int a4), (6, .int a6), (7, .int (a7 + (nI 5)))]) 3 [1, 2, 3, 0] rfl dX10_errands_210 rfl (ii_5 _) (by decide) rfl ?_
    refine pw_goto (tgt := 151) dX10_errands_213 (by decide) ?_
    exact pw_sub [0, 1, 2, 3] rfl h
theorem T_X10_isSheet {M : Mem} {a0 : Int32} {Q : Int32 → Mem → Prop}  (h : C_X10_in M (a0.toInt64) (0 : Int64) (3 : Int64) (fun r0 M0 => (r0 = 0 ∨ r0 = 1) ∧ Q r0 M0)) : C_X10_isSheet M a0 Q := by
  refine CA_of rfl (Nat.le_of_ble_eq_true rfl) ?_
  show PS _ _ 0 [(0, .int a0)] [] M _
  refine pw_iload_n (pc' := 1) 0 rfl dX10_isSheet_0 rfl rfl ?_
  refine pw_i2l (pc' := 2) rfl dX10_isSheet_1 rfl ?_
  refine pw_lconst (pc' := 3) rfl dX10_isSheet_2 rfl ?_
  refine pw_ldc2 (pc' := 6) rfl dX10_isSheet_3 cn_X10_301 ?_
  refine ps_callSI (pc' := 9) (As := [.long (a0.toInt64), .long (0 : Int64), .long (3 : Int64)]) (rest := []) 3 rfl dX10_isSheet_6 cs_X10_in ml_X10_98 (by decide) rfl rfl (by decide) (Nat.le_of_ble_eq_true rfl) (CA.monoI h ?_)
  intro r0 M0 h
  exact ps_zret dX10_isSheet_9 rfl h.1 h.2
theorem T_X10_isLane {M : Mem} {a0 : Int32} {Q : Int32 → Mem → Prop}  (h : C_X10_in M (a0.toInt64) (0 : Int64) (2 : Int64) (fun r0 M0 => (r0 = 0 ∨ r0 = 1) ∧ Q r0 M0)) : C_X10_isLane M a0 Q := by
  refine CA_of rfl (Nat.le_of_ble_eq_true rfl) ?_
  show PS _ _ 0 [(0, .int a0)] [] M _
  refine pw_iload_n (pc' := 1) 0 rfl dX10_isLane_0 rfl rfl ?_
  refine pw_i2l (pc' := 2) rfl dX10_isLane_1 rfl ?_
  refine pw_lconst (pc' := 3) rfl dX10_isLane_2 rfl ?_
  refine pw_ldc2 (pc' := 6) rfl dX10_isLane_3 cn_X10_303 ?_
  refine ps_callSI (pc' := 9) (As := [.long (a0.toInt64), .long (0 : Int64), .long (2 : Int64)]) (rest := []) 3 rfl dX10_isLane_6 cs_X10_in ml_X10_98 (by decide) rfl rfl (by decide) (Nat.le_of_ble_eq_true rfl) (CA.monoI h ?_)
  intro r0 M0 h
  exact ps_zret dX10_isLane_9 rfl h.1 h.2
theorem T_X10_finds {M : Mem} {a1 : Int32} {a2 : Int32} {a3 : Int32} {a4 : Int32} {Q : Int32 → Mem → Prop}  (h : vp_in a1 4 ∧ (((0 ≤ (M 206 (ix a1))) → ((((M 206 (ix a1)) = a2) → (((a3 < 0) → (Q (-13) M)) ∧ ((¬ a3 < 0) → ((((lg_cmp ((a3.toInt64) + (a4.toInt64)) ((M 207 (ix a1)).toInt64)) ≤ 0) → (Q (nI 0) M)) ∧ ((¬ (lg_cmp ((a3.toInt64) + (a4.toInt64)) ((M 207 (ix a1)).toInt64)) ≤ 0) → (Q (-13) M)))))) ∧ ((¬ (M 206 (ix a1)) = a2) → (Q (-12) M)))) ∧ ((¬ 0 ≤ (M 206 (ix a1))) → (Q (-11) M)))) : C_X10_finds M a1 a2 a3 a4 Q := by
  refine CA_of rfl (Nat.le_of_ble_eq_true rfl) ?_
  show PS _ _ 0 [(0, .ref 182), (1, .int a1), (2, .int a2), (3, .int a3), (4, .int a4)] [] M _
  refine pw_aload_n (pc' := 1) 0 rfl dX10_finds_0 rfl rfl ?_
  refine ps_getR (pc' := 4) (r := 206) rfl dX10_finds_1 fl_X10_83 ob_182 rfl rfl ?_
  refine pw_iload_n (pc' := 5) 1 rfl dX10_finds_4 rfl rfl ?_
  obtain ⟨b0, h⟩ := h
  refine ps_iald (pc' := 6) (v := (M 206 (ix a1))) rfl dX10_finds_5 ia_206 b0 rfl ?_
  refine pw_if_ge (pc' := 9) (tgt := 12) rfl dX10_finds_6 (by decide) (fun q1 => ?_) (fun q1 => ?_)
  · have h := h.1 q1
    refine pw_aload_n (pc' := 13) 0 rfl dX10_finds_12 rfl rfl ?_
    refine ps_getR (pc' := 16) (r := 206) rfl dX10_finds_13 fl_X10_83 ob_182 rfl rfl ?_
    refine pw_iload_n (pc' := 17) 1 rfl dX10_finds_16 rfl rfl ?_
    refine ps_iald (pc' := 18) (v := (M 206 (ix a1))) rfl dX10_finds_17 ia_206 b0 rfl ?_
    refine pw_iload_n (pc' := 19) 2 rfl dX10_finds_18 rfl rfl ?_
    refine pw_icmp_eq (pc' := 22) (tgt := 25) rfl dX10_finds_19 (by decide) (fun q3 => ?_) (fun q3 => ?_)
    · have h := h.1 q3
      refine pw_iload_n (pc' := 26) 3 rfl dX10_finds_25 rfl rfl ?_
      refine pw_if_lt (pc' := 29) (tgt := 46) rfl dX10_finds_26 (by decide) (fun q4 => ?_) (fun q4 => ?_)
      · have h := h.1 q4
        refine pw_bipush (pc' := 48) rfl dX10_finds_46 cb_m13 ?_
        refine pw_goto (tgt := 52) dX10_finds_48 (by decide) ?_
        exact ps_iret dX10_finds_52 rfl h
      · have h := h.2 q4
        refine pw_iload_n (pc' := 30) 3 rfl dX10_finds_29 rfl rfl ?_
        refine pw_i2l (pc' := 31) rfl dX10_finds_30 rfl ?_
        refine pw_iload (pc' := 33) 4 rfl dX10_finds_31 rfl ?_
        refine pw_i2l (pc' := 34) rfl dX10_finds_33 rfl ?_
        refine pw_ladd (pc' := 35) rfl dX10_finds_34 ?_
        refine pw_aload_n (pc' := 36) 0 rfl dX10_finds_35 rfl rfl ?_
        refine ps_getR (pc' := 39) (r := 207) rfl dX10_finds_36 fl_X10_86 ob_182 rfl rfl ?_
        refine pw_iload_n (pc' := 40) 1 rfl dX10_finds_39 rfl rfl ?_
        refine ps_iald (pc' := 41) (v := (M 207 (ix a1))) rfl dX10_finds_40 ia_207 b0 rfl ?_
        refine pw_i2l (pc' := 42) rfl dX10_finds_41 rfl ?_
        refine pw_lcmp (pc' := 43) rfl dX10_finds_42 ?_
        refine pw_if_le (pc' := 46) (tgt := 51) rfl dX10_finds_43 (by decide) (fun q6 => ?_) (fun q6 => ?_)
        · have h := h.1 q6
          refine pw_iconst (pc' := 52) rfl dX10_finds_51 ci_0 ?_
          exact ps_iret dX10_finds_52 rfl h
        · have h := h.2 q6
          refine pw_bipush (pc' := 48) rfl dX10_finds_46 cb_m13 ?_
          refine pw_goto (tgt := 52) dX10_finds_48 (by decide) ?_
          exact ps_iret dX10_finds_52 rfl h
    · have h := h.2 q3
      refine pw_bipush (pc' := 24) rfl dX10_finds_22 cb_m12 ?_
      exact ps_iret dX10_finds_24 rfl h
  · have h := h.2 q1
    refine pw_bipush (pc' := 11) rfl dX10_finds_9 cb_m11 ?_
    exact ps_iret dX10_finds_11 rfl h
theorem T_X10_drop {M : Mem} {a1 : Int32} {Q : Int32 → Mem → Prop}  (h : C_X10_in M (a1.toInt64) (0 : Int64) (((M 182 17) - (nI 1)).toInt64) (fun r0 M0 => ((¬ r0 = 0) → (P_X10_drop_32 (wr M0 182 17 ((M0 182 17) - (nI 1))) ((nI 5) * a1) Q)) ∧ ((r0 = 0) → (Q (-1) M0)))) : C_X10_drop M a1 Q := by
  refine CA_of rfl (Nat.le_of_ble_eq_true rfl) ?_
  show PS _ _ 0 [(0, .ref 182), (1, .int a1)] [] M _
  refine pw_iload_n (pc' := 1) 1 rfl dX10_drop_0 rfl rfl ?_
  refine pw_i2l (pc' := 2) rfl dX10_drop_1 rfl ?_
  refine pw_lconst (pc' := 3) rfl dX10_drop_2 rfl ?_
  refine pw_aload_n (pc' := 4) 0 rfl dX10_drop_3 rfl rfl ?_
  refine ps_getI (pc' := 7) (v := (M 182 17)) rfl dX10_drop_4 fl_X10_195 ob_182 rfl rfl ?_
  refine pw_iconst (pc' := 8) rfl dX10_drop_7 ci_1 ?_
  refine pw_isub (pc' := 9) rfl dX10_drop_8 ?_
  refine pw_i2l (pc' := 10) rfl dX10_drop_9 rfl ?_
  refine ps_callSI (pc' := 13) (As := [.long (a1.toInt64), .long (0 : Int64), .long (((M 182 17) - (nI 1)).toInt64)]) (rest := []) 3 rfl dX10_drop_10 cs_X10_in ml_X10_98 (by decide) rfl rfl (by decide) (Nat.le_of_ble_eq_true rfl) (CA.monoI h ?_)
  intro r0 M0 h
  refine pw_if_ne (pc' := 16) (tgt := 18) rfl dX10_drop_13 (by decide) (fun q1 => ?_) (fun q1 => ?_)
  · have h := h.1 q1
    refine pw_aload_n (pc' := 19) 0 rfl dX10_drop_18 rfl rfl ?_
    refine pw_dup (pc' := 20) rfl dX10_drop_19 rfl ?_
    refine ps_getI (pc' := 23) (v := (M0 182 17)) rfl dX10_drop_20 fl_X10_195 ob_182 rfl rfl ?_
    refine pw_iconst (pc' := 24) rfl dX10_drop_23 ci_1 ?_
    refine pw_isub (pc' := 25) rfl dX10_drop_24 ?_
    refine ps_putI (pc' := 28) rfl dX10_drop_25 fl_X10_195 ob_182 rfl ?_
    refine pw_iconst (pc' := 29) rfl dX10_drop_28 ci_5 ?_
    refine pw_iload_n (pc' := 30) 1 rfl dX10_drop_29 rfl rfl ?_
    refine pw_imul (pc' := 31) rfl dX10_drop_30 ?_
    refine pw_istore_n (pc' := 32) (lv' := [(0, .ref 182), (1, .int a1), (2, .int ((nI 5) * a1))]) [1, 2, 0] rfl dX10_drop_31 rfl (by decide) rfl ?_
    exact pw_sub [0, 2] rfl h
  · have h := h.2 q1
    refine pw_iconst (pc' := 17) rfl dX10_drop_16 ci_m1 ?_
    exact ps_iret dX10_drop_17 rfl h
theorem T_X10_drop_32 {M : Mem} {a2 : Int32} {Q : Int32 → Mem → Prop}  (h : ((((nI 5) * (M 182 17)) ≤ a2) → (Q (M 182 17) M)) ∧ ((¬ ((nI 5) * (M 182 17)) ≤ a2) → (vp_in (a2 + (nI 5)) 25 ∧ (vp_in a2 25 ∧ (P_X10_drop_32 (wr M 191 (ix a2) (M 191 (ix (a2 + (nI 5))))) (a2 + (nI 1)) Q))))) : P_X10_drop_32 M a2 Q := by
  refine pw_iload_n (pc' := 33) 1 rfl dX10_drop_32 rfl rfl ?_
  refine pw_iconst (pc' := 34) rfl dX10_drop_33 ci_5 ?_
  refine pw_aload_n (pc' := 35) 0 rfl dX10_drop_34 rfl rfl ?_
  refine ps_getI (pc' := 38) (v := (M 182 17)) rfl dX10_drop_35 fl_X10_195 ob_182 rfl rfl ?_
  refine pw_imul (pc' := 39) rfl dX10_drop_38 ?_
  refine pw_icmp_ge (pc' := 42) (tgt := 62) rfl dX10_drop_39 (by decide) (fun q0 => ?_) (fun q0 => ?_)
  · have h := h.1 q0
    refine pw_aload_n (pc' := 63) 0 rfl dX10_drop_62 rfl rfl ?_
    refine ps_getI (pc' := 66) (v := (M 182 17)) rfl dX10_drop_63 fl_X10_195 ob_182 rfl rfl ?_
    exact ps_iret dX10_drop_66 rfl h
  · have h := h.2 q0
    refine pw_aload_n (pc' := 43) 0 rfl dX10_drop_42 rfl rfl ?_
    refine ps_getR (pc' := 46) (r := 191) rfl dX10_drop_43 fl_X10_34 ob_182 rfl rfl ?_
    refine pw_iload_n (pc' := 47) 1 rfl dX10_drop_46 rfl rfl ?_
    refine pw_aload_n (pc' := 48) 0 rfl dX10_drop_47 rfl rfl ?_
    refine ps_getR (pc' := 51) (r := 191) rfl dX10_drop_48 fl_X10_34 ob_182 rfl rfl ?_
    refine pw_iload_n (pc' := 52) 1 rfl dX10_drop_51 rfl rfl ?_
    refine pw_iconst (pc' := 53) rfl dX10_drop_52 ci_5 ?_
    refine pw_iadd (pc' := 54) rfl dX10_drop_53 ?_
    obtain ⟨b1, h⟩ := h
    refine ps_iald (pc' := 55) (v := (M 191 (ix (a2 + (nI 5))))) rfl dX10_drop_54 ia_191 b1 rfl ?_
    obtain ⟨b2, h⟩ := h
    refine ps_iast (pc' := 56) rfl dX10_drop_55 ia_191 b2 ?_
    refine pw_iinc (pc' := 59) (lv' := [(0, .ref 182), (2, .int (a2 + (nI 1)))]) 1 [1, 0] rfl dX10_drop_56 rfl (ii_1 _) (by decide) rfl ?_
    refine pw_goto (tgt := 32) dX10_drop_59 (by decide) ?_
    exact pw_sub [0, 1] rfl h
theorem T_X10_told {M : Mem} {a1 : Int32} {a2 : Int32} {Q : Int32 → Mem → Prop}  (h : C_X10_in M (a1.toInt64) (0 : Int64) (((M 182 17) - (nI 1)).toInt64) (fun r0 M0 => ((r0 = 0) → (Q (-1) M0)) ∧ ((¬ r0 = 0) → (C_X10_in M0 (a2.toInt64) (0 : Int64) (7 : Int64) (fun r2 M2 => ((¬ r2 = 0) → ((((nI 5) ≤ a2) → (((¬ a2 = (nI 7)) → (C_X10_well M2 (fun r6 M6 => ((¬ r6 = 0) → (C_X10_bestDone M6 (fun r8 M8 => ((¬ a2 = (nI 5)) → (((¬ a2 = (nI 6)) → (vp_in a1 5 ∧ (Q (M8 195 (ix a1)) M8))) ∧ ((a2 = (nI 6)) → (vp_in a1 5 ∧ (Q (M8 194 (ix a1)) M8))))) ∧ ((a2 = (nI 5)) → (vp_in a1 5 ∧ (Q (M8 198 (ix a1)) M8)))))) ∧ ((r6 = 0) → (Q (-2) M6))))) ∧ ((a2 = (nI 7)) → (vp_in ((nI 5) * a1) 25 ∧ (((¬ (M2 191 (ix ((nI 5) * a1))) = 0) → (C_X10_well M2 (fun r8 M8 => ((¬ r8 = 0) → (C_X10_bestDone M8 (fun r10 M10 => ((¬ a2 = (nI 5)) → (((¬ a2 = (nI 6)) → (vp_in a1 5 ∧ (Q (M10 195 (ix a1)) M10))) ∧ ((a2 = (nI 6)) → (vp_in a1 5 ∧ (Q (M10 194 (ix a1)) M10))))) ∧ ((a2 = (nI 5)) → (vp_in a1 5 ∧ (Q (M10 198 (ix a1)) M10)))))) ∧ ((r8 = 0) → (Q (-2) M8))))) ∧ (((M2 191 (ix ((nI 5) * a1))) = 0) → (Q (-12) M2))))))) ∧ ((¬ (nI 5) ≤ a2) → (vp_in (((nI 5) * a1) + a2) 25 ∧ (Q (M2 191 (ix (((nI 5) * a1) + a2))) M2))))) ∧ ((r2 = 0) → (Q (-1) M2))))))) : C_X10_told M a1 a2 Q := by
  refine CA_of rfl (Nat.le_of_ble_eq_true rfl) ?_
  show PS _ _ 0 [(0, .ref 182), (1, .int a1), (2, .int a2)] [] M _
  refine pw_iload_n (pc' := 1) 1 rfl dX10_told_0 rfl rfl ?_
  refine pw_i2l (pc' := 2) rfl dX10_told_1 rfl ?_
  refine pw_lconst (pc' := 3) rfl dX10_told_2 rfl ?_
  refine pw_aload_n (pc' := 4) 0 rfl dX10_told_3 rfl rfl ?_
  refine ps_getI (pc' := 7) (v := (M 182 17)) rfl dX10_told_4 fl_X10_195 ob_182 rfl rfl ?_
  refine pw_iconst (pc' := 8) rfl dX10_told_7 ci_1 ?_
  refine pw_isub (pc' := 9) rfl dX10_told_8 ?_
  refine pw_i2l (pc' := 10) rfl dX10_told_9 rfl ?_
  refine ps_callSI (pc' := 13) (As := [.long (a1.toInt64), .long (0 : Int64), .long (((M 182 17) - (nI 1)).toInt64)]) (rest := []) 3 rfl dX10_told_10 cs_X10_in ml_X10_98 (by decide) rfl rfl (by decide) (Nat.le_of_ble_eq_true rfl) (CA.monoI h ?_)
  intro r0 M0 h
  refine pw_if_eq (pc' := 16) (tgt := 28) rfl dX10_told_13 (by decide) (fun q1 => ?_) (fun q1 => ?_)
  · have h := h.1 q1
    refine pw_iconst (pc' := 29) rfl dX10_told_28 ci_m1 ?_
    exact ps_iret dX10_told_29 rfl h
  · have h := h.2 q1
    refine pw_iload_n (pc' := 17) 2 rfl dX10_told_16 rfl rfl ?_
    refine pw_i2l (pc' := 18) rfl dX10_told_17 rfl ?_
    refine pw_lconst (pc' := 19) rfl dX10_told_18 rfl ?_
    refine pw_ldc2 (pc' := 22) rfl dX10_told_19 cn_X10_251 ?_
    refine ps_callSI (pc' := 25) (As := [.long (a2.toInt64), .long (0 : Int64), .long (7 : Int64)]) (rest := []) 3 rfl dX10_told_22 cs_X10_in ml_X10_98 (by decide) rfl rfl (by decide) (Nat.le_of_ble_eq_true rfl) (CA.monoI h ?_)
    intro r2 M2 h
    refine pw_if_ne (pc' := 28) (tgt := 30) rfl dX10_told_25 (by decide) (fun q3 => ?_) (fun q3 => ?_)
    · have h := h.1 q3
      refine pw_iload_n (pc' := 31) 2 rfl dX10_told_30 rfl rfl ?_
      refine pw_iconst (pc' := 32) rfl dX10_told_31 ci_5 ?_
      refine pw_icmp_ge (pc' := 35) (tgt := 46) rfl dX10_told_32 (by decide) (fun q4 => ?_) (fun q4 => ?_)
      · have h := h.1 q4
        refine pw_iload_n (pc' := 47) 2 rfl dX10_told_46 rfl rfl ?_
        refine pw_bipush (pc' := 49) rfl dX10_told_47 cb_7 ?_
        refine pw_icmp_ne (pc' := 52) (tgt := 66) rfl dX10_told_49 (by decide) (fun q5 => ?_) (fun q5 => ?_)
        · have h := h.1 q5
          refine pw_aload_n (pc' := 67) 0 rfl dX10_told_66 rfl rfl ?_
          refine ps_callVI (pc' := 70) (As := []) (rest := []) (cT := (RX10, TX10, 44)) 0 rfl dX10_told_67 cv_X10_well ml_X10_245 (by decide) rfl rfl (by decide) (Nat.le_of_ble_eq_true rfl) ob_182 rfl rfl (CA.monoI h ?_)
          intro r6 M6 h
          refine pw_if_ne (pc' := 73) (tgt := 76) rfl dX10_told_70 (by decide) (fun q7 => ?_) (fun q7 => ?_)
          · have h := h.1 q7
            refine pw_aload_n (pc' := 77) 0 rfl dX10_told_76 rfl rfl ?_
            refine ps_callVI (pc' := 80) (As := []) (rest := []) (cT := (RX10, TX10, 44)) 0 rfl dX10_told_77 cv_X10_bestDone ml_X10_253 (by decide) rfl rfl (by decide) (Nat.le_of_ble_eq_true rfl) ob_182 rfl rfl (CA.monoI h ?_)
            intro r8 M8 h
            refine pw_pop (pc' := 81) rfl dX10_told_80 rfl ?_
            refine pw_iload_n (pc' := 82) 2 rfl dX10_told_81 rfl rfl ?_
            refine pw_iconst (pc' := 83) rfl dX10_told_82 ci_5 ?_
            refine pw_icmp_ne (pc' := 86) (tgt := 95) rfl dX10_told_83 (by decide) (fun q9 => ?_) (fun q9 => ?_)
            · have h := h.1 q9
              refine pw_iload_n (pc' := 96) 2 rfl dX10_told_95 rfl rfl ?_
              refine pw_bipush (pc' := 98) rfl dX10_told_96 cb_6 ?_
              refine pw_icmp_ne (pc' := 101) (tgt := 110) rfl dX10_told_98 (by decide) (fun q10 => ?_) (fun q10 => ?_)
              · have h := h.1 q10
                refine pw_aload_n (pc' := 111) 0 rfl dX10_told_110 rfl rfl ?_
                refine ps_getR (pc' := 114) (r := 195) rfl dX10_told_111 fl_X10_46 ob_182 rfl rfl ?_
                refine pw_iload_n (pc' := 115) 1 rfl dX10_told_114 rfl rfl ?_
                obtain ⟨b11, h⟩ := h
                refine ps_iald (pc' := 116) (v := (M8 195 (ix a1))) rfl dX10_told_115 ia_195 b11 rfl ?_
                exact ps_iret dX10_told_116 rfl h
              · have h := h.2 q10
                refine pw_aload_n (pc' := 102) 0 rfl dX10_told_101 rfl rfl ?_
                refine ps_getR (pc' := 105) (r := 194) rfl dX10_told_102 fl_X10_43 ob_182 rfl rfl ?_
                refine pw_iload_n (pc' := 106) 1 rfl dX10_told_105 rfl rfl ?_
                obtain ⟨b11, h⟩ := h
                refine ps_iald (pc' := 107) (v := (M8 194 (ix a1))) rfl dX10_told_106 ia_194 b11 rfl ?_
                refine pw_goto (tgt := 116) dX10_told_107 (by decide) ?_
                exact ps_iret dX10_told_116 rfl h
            · have h := h.2 q9
              refine pw_aload_n (pc' := 87) 0 rfl dX10_told_86 rfl rfl ?_
              refine ps_getR (pc' := 90) (r := 198) rfl dX10_told_87 fl_X10_55 ob_182 rfl rfl ?_
              refine pw_iload_n (pc' := 91) 1 rfl dX10_told_90 rfl rfl ?_
              obtain ⟨b10, h⟩ := h
              refine ps_iald (pc' := 92) (v := (M8 198 (ix a1))) rfl dX10_told_91 ia_198 b10 rfl ?_
              refine pw_goto (tgt := 116) dX10_told_92 (by decide) ?_
              exact ps_iret dX10_told_116 rfl h
          · have h := h.2 q7
            refine pw_bipush (pc' := 75) rfl dX10_told_73 cb_m2 ?_
            exact ps_iret dX10_told_75 rfl h
        · have h := h.2 q5
          refine pw_aload_n (pc' := 53) 0 rfl dX10_told_52 rfl rfl ?_
          refine ps_getR (pc' := 56) (r := 191) rfl dX10_told_53 fl_X10_34 ob_182 rfl rfl ?_
          refine pw_iconst (pc' := 57) rfl dX10_told_56 ci_5 ?_
          refine pw_iload_n (pc' := 58) 1 rfl dX10_told_57 rfl rfl ?_
          refine pw_imul (pc' := 59) rfl dX10_told_58 ?_
          obtain ⟨b6, h⟩ := h
          refine ps_iald (pc' := 60) (v := (M2 191 (ix ((nI 5) * a1)))) rfl dX10_told_59 ia_191 b6 rfl ?_
          refine pw_if_ne (pc' := 63) (tgt := 66) rfl dX10_told_60 (by decide) (fun q7 => ?_) (fun q7 => ?_)
          · have h := h.1 q7
            refine pw_aload_n (pc' := 67) 0 rfl dX10_told_66 rfl rfl ?_
            refine ps_callVI (pc' := 70) (As := []) (rest := []) (cT := (RX10, TX10, 44)) 0 rfl dX10_told_67 cv_X10_well ml_X10_245 (by decide) rfl rfl (by decide) (Nat.le_of_ble_eq_true rfl) ob_182 rfl rfl (CA.monoI h ?_)
            intro r8 M8 h
            refine pw_if_ne (pc' := 73) (tgt := 76) rfl dX10_told_70 (by decide) (fun q9 => ?_) (fun q9 => ?_)
            · have h := h.1 q9
              refine pw_aload_n (pc' := 77) 0 rfl dX10_told_76 rfl rfl ?_
              refine ps_callVI (pc' := 80) (As := []) (rest := []) (cT := (RX10, TX10, 44)) 0 rfl dX10_told_77 cv_X10_bestDone ml_X10_253 (by decide) rfl rfl (by decide) (Nat.le_of_ble_eq_true rfl) ob_182 rfl rfl (CA.monoI h ?_)
              intro r10 M10 h
              refine pw_pop (pc' := 81) rfl dX10_told_80 rfl ?_
              refine pw_iload_n (pc' := 82) 2 rfl dX10_told_81 rfl rfl ?_
              refine pw_iconst (pc' := 83) rfl dX10_told_82 ci_5 ?_
              refine pw_icmp_ne (pc' := 86) (tgt := 95) rfl dX10_told_83 (by decide) (fun q11 => ?_) (fun q11 => ?_)
              · have h := h.1 q11
                refine pw_iload_n (pc' := 96) 2 rfl dX10_told_95 rfl rfl ?_
                refine pw_bipush (pc' := 98) rfl dX10_told_96 cb_6 ?_
                refine pw_icmp_ne (pc' := 101) (tgt := 110) rfl dX10_told_98 (by decide) (fun q12 => ?_) (fun q12 => ?_)
                · have h := h.1 q12
                  refine pw_aload_n (pc' := 111) 0 rfl dX10_told_110 rfl rfl ?_
                  refine ps_getR (pc' := 114) (r := 195) rfl dX10_told_111 fl_X10_46 ob_182 rfl rfl ?_
                  refine pw_iload_n (pc' := 115) 1 rfl dX10_told_114 rfl rfl ?_
                  obtain ⟨b13, h⟩ := h
                  refine ps_iald (pc' := 116) (v := (M10 195 (ix a1))) rfl dX10_told_115 ia_195 b13 rfl ?_
                  exact ps_iret dX10_told_116 rfl h
                · have h := h.2 q12
                  refine pw_aload_n (pc' := 102) 0 rfl dX10_told_101 rfl rfl ?_
                  refine ps_getR (pc' := 105) (r := 194) rfl dX10_told_102 fl_X10_43 ob_182 rfl rfl ?_
                  refine pw_iload_n (pc' := 106) 1 rfl dX10_told_105 rfl rfl ?_
                  obtain ⟨b13, h⟩ := h
                  refine ps_iald (pc' := 107) (v := (M10 194 (ix a1))) rfl dX10_told_106 ia_194 b13 rfl ?_
                  refine pw_goto (tgt := 116) dX10_told_107 (by decide) ?_
                  exact ps_iret dX10_told_116 rfl h
              · have h := h.2 q11
                refine pw_aload_n (pc' := 87) 0 rfl dX10_told_86 rfl rfl ?_
                refine ps_getR (pc' := 90) (r := 198) rfl dX10_told_87 fl_X10_55 ob_182 rfl rfl ?_
                refine pw_iload_n (pc' := 91) 1 rfl dX10_told_90 rfl rfl ?_
                obtain ⟨b12, h⟩ := h
                refine ps_iald (pc' := 92) (v := (M10 198 (ix a1))) rfl dX10_told_91 ia_198 b12 rfl ?_
                refine pw_goto (tgt := 116) dX10_told_92 (by decide) ?_
                exact ps_iret dX10_told_116 rfl h
            · have h := h.2 q9
              refine pw_bipush (pc' := 75) rfl dX10_told_73 cb_m2 ?_
              exact ps_iret dX10_told_75 rfl h
          · have h := h.2 q7
            refine pw_bipush (pc' := 65) rfl dX10_told_63 cb_m12 ?_
            exact ps_iret dX10_told_65 rfl h
      · have h := h.2 q4
        refine pw_aload_n (pc' := 36) 0 rfl dX10_told_35 rfl rfl ?_
        refine ps_getR (pc' := 39) (r := 191) rfl dX10_told_36 fl_X10_34 ob_182 rfl rfl ?_
        refine pw_iconst (pc' := 40) rfl dX10_told_39 ci_5 ?_
        refine pw_iload_n (pc' := 41) 1 rfl dX10_told_40 rfl rfl ?_
        refine pw_imul (pc' := 42) rfl dX10_told_41 ?_
        refine pw_iload_n (pc' := 43) 2 rfl dX10_told_42 rfl rfl ?_
        refine pw_iadd (pc' := 44) rfl dX10_told_43 ?_
        obtain ⟨b5, h⟩ := h
        refine ps_iald (pc' := 45) (v := (M2 191 (ix (((nI 5) * a1) + a2)))) rfl dX10_told_44 ia_191 b5 rfl ?_
        exact ps_iret dX10_told_45 rfl h
    · have h := h.2 q3
      refine pw_iconst (pc' := 29) rfl dX10_told_28 ci_m1 ?_
      exact ps_iret dX10_told_29 rfl h
theorem T_X10_well {M : Mem}  {Q : Int32 → Mem → Prop}  (h : P_X10_well_4 M (nI 0) (nI 0) Q) : C_X10_well M  Q := by
  refine CA_of rfl (Nat.le_of_ble_eq_true rfl) ?_
  show PS _ _ 0 [(0, .ref 182)] [] M _
  refine pw_iconst (pc' := 1) rfl dX10_well_0 ci_0 ?_
  refine pw_istore_n (pc' := 2) (lv' := [(0, .ref 182), (1, .int (nI 0))]) [1, 0] rfl dX10_well_1 rfl (by decide) rfl ?_
  refine pw_iconst (pc' := 3) rfl dX10_well_2 ci_0 ?_
  refine pw_istore_n (pc' := 4) (lv' := [(0, .ref 182), (1, .int (nI 0)), (2, .int (nI 0))]) [1, 2, 0] rfl dX10_well_3 rfl (by decide) rfl ?_
  exact pw_sub [0, 1, 2] rfl h
theorem T_X10_well_4 {M : Mem} {a1 : Int32} {a2 : Int32} {Q : Int32 → Mem → Prop}  (h : (((M 182 14) ≤ a2) → (Q a1 M)) ∧ ((¬ (M 182 14) ≤ a2) → (vp_in a2 3 ∧ (((¬ (M 190 (ix a2)) = 0) → (P_X10_well_4 M (a1 ||| (nI 0)) (a2 + (nI 1)) Q)) ∧ (((M 190 (ix a2)) = 0) → (P_X10_well_4 M (a1 ||| ((nI 1) <<< (a2 &&& 31))) (a2 + (nI 1)) Q)))))) : P_X10_well_4 M a1 a2 Q := by
  refine pw_iload_n (pc' := 5) 2 rfl dX10_well_4 rfl rfl ?_
  refine pw_aload_n (pc' := 6) 0 rfl dX10_well_5 rfl rfl ?_
  refine ps_getI (pc' := 9) (v := (M 182 14)) rfl dX10_well_6 fl_X10_187 ob_182 rfl rfl ?_
  refine pw_icmp_ge (pc' := 12) (tgt := 37) rfl dX10_well_9 (by decide) (fun q0 => ?_) (fun q0 => ?_)
  · have h := h.1 q0
    refine pw_iload_n (pc' := 38) 1 rfl dX10_well_37 rfl rfl ?_
    exact ps_iret dX10_well_38 rfl h
  · have h := h.2 q0
    refine pw_iload_n (pc' := 13) 1 rfl dX10_well_12 rfl rfl ?_
    refine pw_aload_n (pc' := 14) 0 rfl dX10_well_13 rfl rfl ?_
    refine ps_getR (pc' := 17) (r := 190) rfl dX10_well_14 fl_X10_31 ob_182 rfl rfl ?_
    refine pw_iload_n (pc' := 18) 2 rfl dX10_well_17 rfl rfl ?_
    obtain ⟨b1, h⟩ := h
    refine ps_iald (pc' := 19) (v := (M 190 (ix a2))) rfl dX10_well_18 ia_190 b1 rfl ?_
    refine pw_if_ne (pc' := 22) (tgt := 28) rfl dX10_well_19 (by decide) (fun q2 => ?_) (fun q2 => ?_)
    · have h := h.1 q2
      refine pw_iconst (pc' := 29) rfl dX10_well_28 ci_0 ?_
      refine pw_ior (pc' := 30) rfl dX10_well_29 ?_
      refine pw_istore_n (pc' := 31) (lv' := [(0, .ref 182), (1, .int (a1 ||| (nI 0))), (2, .int a2)]) [1, 0, 2] rfl dX10_well_30 rfl (by decide) rfl ?_
      refine pw_iinc (pc' := 34) (lv' := [(0, .ref 182), (1, .int (a1 ||| (nI 0))), (2, .int (a2 + (nI 1)))]) 2 [1, 2, 0] rfl dX10_well_31 rfl (ii_1 _) (by decide) rfl ?_
      refine pw_goto (tgt := 4) dX10_well_34 (by decide) ?_
      exact pw_sub [0, 1, 2] rfl h
    · have h := h.2 q2
      refine pw_iconst (pc' := 23) rfl dX10_well_22 ci_1 ?_
      refine pw_iload_n (pc' := 24) 2 rfl dX10_well_23 rfl rfl ?_
      refine pw_ishl (pc' := 25) rfl dX10_well_24 ?_
      refine pw_goto (tgt := 29) dX10_well_25 (by decide) ?_
      refine pw_ior (pc' := 30) rfl dX10_well_29 ?_
      refine pw_istore_n (pc' := 31) (lv' := [(0, .ref 182), (1, .int (a1 ||| ((nI 1) <<< (a2 &&& 31)))), (2, .int a2)]) [1, 0, 2] rfl dX10_well_30 rfl (by decide) rfl ?_
      refine pw_iinc (pc' := 34) (lv' := [(0, .ref 182), (1, .int (a1 ||| ((nI 1) <<< (a2 &&& 31)))), (2, .int (a2 + (nI 1)))]) 2 [1, 2, 0] rfl dX10_well_31 rfl (ii_1 _) (by decide) rfl ?_
      refine pw_goto (tgt := 4) dX10_well_34 (by decide) ?_
      exact pw_sub [0, 1, 2] rfl h
theorem T_X10_bestDone {M : Mem}  {Q : Int32 → Mem → Prop}  (h : C_X10_well M (fun r0 M0 => C_X10_best M0 r0 (fun r1 M1 => P_X10_bestDone_11 M1 r1 (nI 0) Q))) : C_X10_bestDone M  Q := by
  refine CA_of rfl (Nat.le_of_ble_eq_true rfl) ?_
  show PS _ _ 0 [(0, .ref 182)] [] M _
  refine pw_aload_n (pc' := 1) 0 rfl dX10_bestDone_0 rfl rfl ?_
  refine pw_aload_n (pc' := 2) 0 rfl dX10_bestDone_1 rfl rfl ?_
  refine ps_callVI (pc' := 5) (As := []) (rest := [.ref 182]) (cT := (RX10, TX10, 44)) 0 rfl dX10_bestDone_2 cv_X10_well ml_X10_245 (by decide) rfl rfl (by decide) (Nat.le_of_ble_eq_true rfl) ob_182 rfl rfl (CA.monoI h ?_)
  intro r0 M0 h
  refine ps_callVI (pc' := 8) (As := [.int r0]) (rest := []) (cT := (RX10, TX10, 44)) 1 rfl dX10_bestDone_5 cv_X10_best ml_X10_248 (by decide) rfl rfl (by decide) (Nat.le_of_ble_eq_true rfl) ob_182 rfl rfl (CA.monoI h ?_)
  intro r1 M1 h
  refine pw_istore_n (pc' := 9) (lv' := [(0, .ref 182), (1, .int r1)]) [1, 0] rfl dX10_bestDone_8 rfl (by decide) rfl ?_
  refine pw_iconst (pc' := 10) rfl dX10_bestDone_9 ci_0 ?_
  refine pw_istore_n (pc' := 11) (lv' := [(0, .ref 182), (1, .int r1), (2, .int (nI 0))]) [1, 2, 0] rfl dX10_bestDone_10 rfl (by decide) rfl ?_
  exact pw_sub [0, 1, 2] rfl h
theorem T_X10_bestDone_11 {M : Mem} {a1 : Int32} {a2 : Int32} {Q : Int32 → Mem → Prop}  (h : (((nI 5) ≤ a2) → (C_X10_sumOf M (fun r1 M1 => Q a1 M1))) ∧ ((¬ (nI 5) ≤ a2) → (vp_in a2 5 ∧ (P_X10_bestDone_11 (wr (wr M 198 (ix a2) (M 196 (ix a2))) 199 (ix a2) (M 197 (ix a2))) a1 (a2 + (nI 1)) Q)))) : P_X10_bestDone_11 M a1 a2 Q := by
  refine pw_iload_n (pc' := 12) 2 rfl dX10_bestDone_11 rfl rfl ?_
  refine pw_iconst (pc' := 13) rfl dX10_bestDone_12 ci_5 ?_
  refine pw_icmp_ge (pc' := 16) (tgt := 46) rfl dX10_bestDone_13 (by decide) (fun q0 => ?_) (fun q0 => ?_)
  · have h := h.1 q0
    refine pw_aload_n (pc' := 47) 0 rfl dX10_bestDone_46 rfl rfl ?_
    refine ps_callVI (pc' := 50) (As := []) (rest := []) (cT := (RX10, TX10, 44)) 0 rfl dX10_bestDone_47 cv_X10_sumOf ml_X10_239 (by decide) rfl rfl (by decide) (Nat.le_of_ble_eq_true rfl) ob_182 rfl rfl (CA.monoI h ?_)
    intro r1 M1 h
    refine pw_pop (pc' := 51) rfl dX10_bestDone_50 rfl ?_
    refine pw_iload_n (pc' := 52) 1 rfl dX10_bestDone_51 rfl rfl ?_
    exact ps_iret dX10_bestDone_52 rfl h
  · have h := h.2 q0
    refine pw_aload_n (pc' := 17) 0 rfl dX10_bestDone_16 rfl rfl ?_
    refine ps_getR (pc' := 20) (r := 198) rfl dX10_bestDone_17 fl_X10_55 ob_182 rfl rfl ?_
    refine pw_iload_n (pc' := 21) 2 rfl dX10_bestDone_20 rfl rfl ?_
    refine pw_aload_n (pc' := 22) 0 rfl dX10_bestDone_21 rfl rfl ?_
    refine ps_getR (pc' := 25) (r := 196) rfl dX10_bestDone_22 fl_X10_49 ob_182 rfl rfl ?_
    refine pw_iload_n (pc' := 26) 2 rfl dX10_bestDone_25 rfl rfl ?_
    obtain ⟨b1, h⟩ := h
    refine ps_iald (pc' := 27) (v := (M 196 (ix a2))) rfl dX10_bestDone_26 ia_196 b1 rfl ?_
    refine ps_iast (pc' := 28) rfl dX10_bestDone_27 ia_198 b1 ?_
    refine pw_aload_n (pc' := 29) 0 rfl dX10_bestDone_28 rfl rfl ?_
    refine ps_getR (pc' := 32) (r := 199) rfl dX10_bestDone_29 fl_X10_58 ob_182 rfl rfl ?_
    refine pw_iload_n (pc' := 33) 2 rfl dX10_bestDone_32 rfl rfl ?_
    refine pw_aload_n (pc' := 34) 0 rfl dX10_bestDone_33 rfl rfl ?_
    refine ps_getR (pc' := 37) (r := 197) rfl dX10_bestDone_34 fl_X10_52 ob_182 rfl rfl ?_
    refine pw_iload_n (pc' := 38) 2 rfl dX10_bestDone_37 rfl rfl ?_
    refine ps_iald (pc' := 39) (v := (M 197 (ix a2))) rfl dX10_bestDone_38 ia_197 b1 rfl ?_
    refine ps_iast (pc' := 40) rfl dX10_bestDone_39 ia_199 b1 ?_
    refine pw_iinc (pc' := 43) (lv' := [(0, .ref 182), (1, .int a1), (2, .int (a2 + (nI 1)))]) 2 [1, 2, 0] rfl dX10_bestDone_40 rfl (ii_1 _) (by decide) rfl ?_
    refine pw_goto (tgt := 11) dX10_bestDone_43 (by decide) ?_
    exact pw_sub [0, 1, 2] rfl h
theorem T_X10_best {M : Mem} {a1 : Int32} {Q : Int32 → Mem → Prop}  (h : C_X10_lays M (fun M0 => P_X10_best_11 M0 a1 (nI 1) (nI 1) (nI 1) Q)) : C_X10_best M a1 Q := by
  refine CA_of rfl (Nat.le_of_ble_eq_true rfl) ?_
  show PS _ _ 0 [(0, .ref 182), (1, .int a1)] [] M _
  refine pw_aload_n (pc' := 1) 0 rfl dX10_best_0 rfl rfl ?_
  refine ps_callVV (pc' := 4) (As := []) (rest := []) (cT := (RX10, TX10, 44)) 0 rfl dX10_best_1 cv_X10_lays ml_X10_180 (by decide) rfl rfl (by decide) (Nat.le_of_ble_eq_true rfl) ob_182 rfl rfl (CA.monoV h ?_)
  intro M0 h
  refine pw_iconst (pc' := 5) rfl dX10_best_4 ci_1 ?_
  refine pw_istore_n (pc' := 6) (lv' := [(0, .ref 182), (1, .int a1), (2, .int (nI 1))]) [1, 2, 0] rfl dX10_best_5 rfl (by decide) rfl ?_
  refine pw_iconst (pc' := 7) rfl dX10_best_6 ci_1 ?_
  refine pw_istore_n (pc' := 8) (lv' := [(0, .ref 182), (1, .int a1), (2, .int (nI 1)), (3, .int (nI 1))]) [1, 2, 3, 0] rfl dX10_best_7 rfl (by decide) rfl ?_
  refine pw_iconst (pc' := 9) rfl dX10_best_8 ci_1 ?_
  refine pw_istore (pc' := 11) (lv' := [(0, .ref 182), (1, .int a1), (2, .int (nI 1)), (3, .int (nI 1)), (4, .int (nI 1))]) [1, 2, 3, 4, 0] rfl dX10_best_9 (by decide) rfl ?_
  exact pw_sub [0, 1, 2, 3, 4] rfl h
theorem T_X10_best_11 {M : Mem} {a1 : Int32} {a2 : Int32} {a3 : Int32} {a4 : Int32} {Q : Int32 → Mem → Prop}  (h : (((M 182 17) < a4) → (P_X10_best_45 M a1 a2 a3 (1000000 : Int32) (nI 0) Q)) ∧ ((¬ (M 182 17) < a4) → (P_X10_best_11 M a1 (a2 * a4) (a3 * (M 182 14)) (a4 + (nI 1)) Q))) : P_X10_best_11 M a1 a2 a3 a4 Q := by
  refine pw_iload (pc' := 13) 4 rfl dX10_best_11 rfl ?_
  refine pw_aload_n (pc' := 14) 0 rfl dX10_best_13 rfl rfl ?_
  refine ps_getI (pc' := 17) (v := (M 182 17)) rfl dX10_best_14 fl_X10_195 ob_182 rfl rfl ?_
  refine pw_icmp_gt (pc' := 20) (tgt := 38) rfl dX10_best_17 (by decide) (fun q0 => ?_) (fun q0 => ?_)
  · have h := h.1 q0
    refine pw_ldc (pc' := 40) rfl dX10_best_38 cn_X10_234 ?_
    refine pw_istore (pc' := 42) (lv' := [(0, .ref 182), (1, .int a1), (2, .int a2), (3, .int a3), (4, .int (1000000 : Int32))]) [1, 2, 3, 4, 0] rfl dX10_best_40 (by decide) rfl ?_
    refine pw_iconst (pc' := 43) rfl dX10_best_42 ci_0 ?_
    refine pw_istore (pc' := 45) (lv' := [(0, .ref 182), (1, .int a1), (2, .int a2), (3, .int a3), (4, .int (1000000 : Int32)), (5, .int (nI 0))]) [1, 2, 3, 4, 5, 0] rfl dX10_best_43 (by decide) rfl ?_
    exact pw_sub [0, 1, 2, 3, 4, 5] rfl h
  · have h := h.2 q0
    refine pw_iload_n (pc' := 21) 2 rfl dX10_best_20 rfl rfl ?_
    refine pw_iload (pc' := 23) 4 rfl dX10_best_21 rfl ?_
    refine pw_imul (pc' := 24) rfl dX10_best_23 ?_
    refine pw_istore_n (pc' := 25) (lv' := [(0, .ref 182), (1, .int a1), (2, .int (a2 * a4)), (3, .int a3), (4, .int a4)]) [1, 2, 0, 3, 4] rfl dX10_best_24 rfl (by decide) rfl ?_
    refine pw_iload_n (pc' := 26) 3 rfl dX10_best_25 rfl rfl ?_
    refine pw_aload_n (pc' := 27) 0 rfl dX10_best_26 rfl rfl ?_
    refine ps_getI (pc' := 30) (v := (M 182 14)) rfl dX10_best_27 fl_X10_187 ob_182 rfl rfl ?_
    refine pw_imul (pc' := 31) rfl dX10_best_30 ?_
    refine pw_istore_n (pc' := 32) (lv' := [(0, .ref 182), (1, .int a1), (2, .int (a2 * a4)), (3, .int (a3 * (M 182 14))), (4, .int a4)]) [1, 2, 3, 0, 4] rfl dX10_best_31 rfl (by decide) rfl ?_
    refine pw_iinc (pc' := 35) (lv' := [(0, .ref 182), (1, .int a1), (2, .int (a2 * a4)), (3, .int (a3 * (M 182 14))), (4, .int (a4 + (nI 1)))]) 4 [1, 2, 3, 4, 0] rfl dX10_best_32 rfl (ii_1 _) (by decide) rfl ?_
    refine pw_goto (tgt := 11) dX10_best_35 (by decide) ?_
    exact pw_sub [0, 1, 2, 3, 4] rfl h
theorem T_X10_best_45 {M : Mem} {a1 : Int32} {a2 : Int32} {a3 : Int32} {a4 : Int32} {a5 : Int32} {Q : Int32 → Mem → Prop}  (h : ((a3 ≤ a5) → (Q a4 M)) ∧ ((¬ a3 ≤ a5) → (P_X10_best_66 M a1 a2 a3 a4 a5 a5 (nI 1) ((M 182 17) - (nI 1)) Q))) : P_X10_best_45 M a1 a2 a3 a4 a5 Q := by
  refine pw_iload (pc' := 47) 5 rfl dX10_best_45 rfl ?_
  refine pw_iload_n (pc' := 48) 3 rfl dX10_best_47 rfl rfl ?_
  refine pw_icmp_ge (pc' := 51) (tgt := 180) rfl dX10_best_48 (by decide) (fun q0 => ?_) (fun q0 => ?_)
  · have h := h.1 q0
    refine pw_iload (pc' := 182) 4 rfl dX10_best_180 rfl ?_
    exact ps_iret dX10_best_182 rfl h
  · have h := h.2 q0
    refine pw_iload (pc' := 53) 5 rfl dX10_best_51 rfl ?_
    refine pw_istore (pc' := 55) (lv' := [(0, .ref 182), (1, .int a1), (2, .int a2), (3, .int a3), (4, .int a4), (5, .int a5), (6, .int a5)]) [1, 2, 3, 4, 5, 6, 0] rfl dX10_best_53 (by decide) rfl ?_
    refine pw_iconst (pc' := 56) rfl dX10_best_55 ci_1 ?_
    refine pw_istore (pc' := 58) (lv' := [(0, .ref 182), (1, .int a1), (2, .int a2), (3, .int a3), (4, .int a4), (5, .int a5), (6, .int a5), (7, .int (nI 1))]) [1, 2, 3, 4, 5, 6, 7, 0] rfl dX10_best_56 (by decide) rfl ?_
    refine pw_aload_n (pc' := 59) 0 rfl dX10_best_58 rfl rfl ?_
    refine ps_getI (pc' := 62) (v := (M 182 17)) rfl dX10_best_59 fl_X10_195 ob_182 rfl rfl ?_
    refine pw_iconst (pc' := 63) rfl dX10_best_62 ci_1 ?_
    refine pw_isub (pc' := 64) rfl dX10_best_63 ?_
    refine pw_istore (pc' := 66) (lv' := [(0, .ref 182), (1, .int a1), (2, .int a2), (3, .int a3), (4, .int a4), (5, .int a5), (6, .int a5), (7, .int (nI 1)), (8, .int ((M 182 17) - (nI 1)))]) [1, 2, 3, 4, 5, 6, 7, 8, 0] rfl dX10_best_64 (by decide) rfl ?_
    exact pw_sub [0, 1, 2, 3, 4, 5, 6, 7, 8] rfl h
theorem T_X10_best_66 {M : Mem} {a1 : Int32} {a2 : Int32} {a3 : Int32} {a4 : Int32} {a5 : Int32} {a6 : Int32} {a7 : Int32} {a8 : Int32} {Q : Int32 → Mem → Prop}  (h : ((a8 < 0) → (P_X10_best_130 M a1 a2 a3 a4 a5 a7 (nI 0) Q)) ∧ ((¬ a8 < 0) → (¬ (M 182 14) = 0 ∧ (vp_in a8 5 ∧ (¬ (M 182 14) = 0 ∧ (((a7 = 0) → (P_X10_best_66 (wr M 198 (ix a8) (a6 - a6 / (M 182 14) * (M 182 14))) a1 a2 a3 a4 a5 (a6 / (M 182 14)) (nI 0) (a8 + (-1)) Q)) ∧ ((¬ a7 = 0) → (((¬ ((a1 >>> (((wr M 198 (ix a8) (a6 - a6 / (M 182 14) * (M 182 14))) 198 (ix a8)) &&& 31)) &&& (nI 1)) = (nI 1)) → (P_X10_best_66 (wr M 198 (ix a8) (a6 - a6 / (M 182 14) * (M 182 14))) a1 a2 a3 a4 a5 (a6 / (M 182 14)) (nI 0) (a8 + (-1)) Q)) ∧ ((((a1 >>> (((wr M 198 (ix a8) (a6 - a6 / (M 182 14) * (M 182 14))) 198 (ix a8)) &&& 31)) &&& (nI 1)) = (nI 1)) → (P_X10_best_66 (wr M 198 (ix a8) (a6 - a6 / (M 182 14) * (M 182 14))) a1 a2 a3 a4 a5 (a6 / (M 182 14)) (nI 1) (a8 + (-1)) Q)))))))))) : P_X10_best_66 M a1 a2 a3 a4 a5 a6 a7 a8 Q := by
  refine pw_iload (pc' := 68) 8 rfl dX10_best_66 rfl ?_
  refine pw_if_lt (pc' := 71) (tgt := 127) rfl dX10_best_68 (by decide) (fun q0 => ?_) (fun q0 => ?_)
  · have h := h.1 q0
    refine pw_iconst (pc' := 128) rfl dX10_best_127 ci_0 ?_
    refine pw_istore (pc' := 130) (lv' := [(0, .ref 182), (1, .int a1), (2, .int a2), (3, .int a3), (4, .int a4), (5, .int a5), (6, .int a6), (7, .int a7), (8, .int (nI 0))]) [1, 2, 3, 4, 5, 6, 7, 8, 0] rfl dX10_best_128 (by decide) rfl ?_
    exact pw_sub [0, 1, 2, 3, 4, 5, 7, 8] rfl h
  · have h := h.2 q0
    refine pw_aload_n (pc' := 72) 0 rfl dX10_best_71 rfl rfl ?_
    refine ps_getR (pc' := 75) (r := 198) rfl dX10_best_72 fl_X10_55 ob_182 rfl rfl ?_
    refine pw_iload (pc' := 77) 8 rfl dX10_best_75 rfl ?_
    refine pw_iload (pc' := 79) 6 rfl dX10_best_77 rfl ?_
    refine pw_aload_n (pc' := 80) 0 rfl dX10_best_79 rfl rfl ?_
    refine ps_getI (pc' := 83) (v := (M 182 14)) rfl dX10_best_80 fl_X10_187 ob_182 rfl rfl ?_
    obtain ⟨z1, h⟩ := h
    refine pw_irem (pc' := 84) rfl dX10_best_83 z1 ?_
    obtain ⟨b2, h⟩ := h
    refine ps_iast (pc' := 85) rfl dX10_best_84 ia_198 b2 ?_
    refine pw_iload (pc' := 87) 6 rfl dX10_best_85 rfl ?_
    refine pw_aload_n (pc' := 88) 0 rfl dX10_best_87 rfl rfl ?_
    refine ps_getI (pc' := 91) (v := (M 182 14)) rfl dX10_best_88 fl_X10_187 ob_182 rfl rfl ?_
    obtain ⟨z3, h⟩ := h
    refine pw_idiv (pc' := 92) rfl dX10_best_91 z3 ?_
    refine pw_istore (pc' := 94) (lv' := [(0, .ref 182), (1, .int a1), (2, .int a2), (3, .int a3), (4, .int a4), (5, .int a5), (6, .int (a6 / (M 182 14))), (7, .int a7), (8, .int a8)]) [1, 2, 3, 4, 5, 6, 0, 7, 8] rfl dX10_best_92 (by decide) rfl ?_
    refine pw_iload (pc' := 96) 7 rfl dX10_best_94 rfl ?_
    refine pw_if_eq (pc' := 99) (tgt := 118) rfl dX10_best_96 (by decide) (fun q4 => ?_) (fun q4 => ?_)
    · have h := h.1 q4
      refine pw_iconst (pc' := 119) rfl dX10_best_118 ci_0 ?_
      refine pw_istore (pc' := 121) (lv' := [(0, .ref 182), (1, .int a1), (2, .int a2), (3, .int a3), (4, .int a4), (5, .int a5), (6, .int (a6 / (M 182 14))), (7, .int (nI 0)), (8, .int a8)]) [1, 2, 3, 4, 5, 6, 7, 0, 8] rfl dX10_best_119 (by decide) rfl ?_
      refine pw_iinc (pc' := 124) (lv' := [(0, .ref 182), (1, .int a1), (2, .int a2), (3, .int a3), (4, .int a4), (5, .int a5), (6, .int (a6 / (M 182 14))), (7, .int (nI 0)), (8, .int (a8 + (-1)))]) 8 [1, 2, 3, 4, 5, 6, 7, 8, 0] rfl dX10_best_121 rfl (ii_m1 _) (by decide) rfl ?_
      refine pw_goto (tgt := 66) dX10_best_124 (by decide) ?_
      exact pw_sub [0, 1, 2, 3, 4, 5, 6, 7, 8] rfl h
    · have h := h.2 q4
      refine pw_iload_n (pc' := 100) 1 rfl dX10_best_99 rfl rfl ?_
      refine pw_aload_n (pc' := 101) 0 rfl dX10_best_100 rfl rfl ?_
      refine ps_getR (pc' := 104) (r := 198) rfl dX10_best_101 fl_X10_55 ob_182 rfl rfl ?_
      refine pw_iload (pc' := 106) 8 rfl dX10_best_104 rfl ?_
      refine ps_iald (pc' := 107) (v := ((wr M 198 (ix a8) (a6 - a6 / (M 182 14) * (M 182 14))) 198 (ix a8))) rfl dX10_best_106 ia_198 b2 rfl ?_
      refine pw_ishr (pc' := 108) rfl dX10_best_107 ?_
      refine pw_iconst (pc' := 109) rfl dX10_best_108 ci_1 ?_
      refine pw_iand (pc' := 110) rfl dX10_best_109 ?_
      refine pw_iconst (pc' := 111) rfl dX10_best_110 ci_1 ?_
      refine pw_icmp_ne (pc' := 114) (tgt := 118) rfl dX10_best_111 (by decide) (fun q6 => ?_) (fun q6 => ?_)
      · have h := h.1 q6
        refine pw_iconst (pc' := 119) rfl dX10_best_118 ci_0 ?_
        refine pw_istore (pc' := 121) (lv' := [(0, .ref 182), (1, .int a1), (2, .int a2), (3, .int a3), (4, .int a4), (5, .int a5), (6, .int (a6 / (M 182 14))), (7, .int (nI 0)), (8, .int a8)]) [1, 2, 3, 4, 5, 6, 7, 0, 8] rfl dX10_best_119 (by decide) rfl ?_
        refine pw_iinc (pc' := 124) (lv' := [(0, .ref 182), (1, .int a1), (2, .int a2), (3, .int a3), (4, .int a4), (5, .int a5), (6, .int (a6 / (M 182 14))), (7, .int (nI 0)), (8, .int (a8 + (-1)))]) 8 [1, 2, 3, 4, 5, 6, 7, 8, 0] rfl dX10_best_121 rfl (ii_m1 _) (by decide) rfl ?_
        refine pw_goto (tgt := 66) dX10_best_124 (by decide) ?_
        exact pw_sub [0, 1, 2, 3, 4, 5, 6, 7, 8] rfl h
      · have h := h.2 q6
        refine pw_iconst (pc' := 115) rfl dX10_best_114 ci_1 ?_
        refine pw_goto (tgt := 119) dX10_best_115 (by decide) ?_
        refine pw_istore (pc' := 121) (lv' := [(0, .ref 182), (1, .int a1), (2, .int a2), (3, .int a3), (4, .int a4), (5, .int a5), (6, .int (a6 / (M 182 14))), (7, .int (nI 1)), (8, .int a8)]) [1, 2, 3, 4, 5, 6, 7, 0, 8] rfl dX10_best_119 (by decide) rfl ?_
        refine pw_iinc (pc' := 124) (lv' := [(0, .ref 182), (1, .int a1), (2, .int a2), (3, .int a3), (4, .int a4), (5, .int a5), (6, .int (a6 / (M 182 14))), (7, .int (nI 1)), (8, .int (a8 + (-1)))]) 8 [1, 2, 3, 4, 5, 6, 7, 8, 0] rfl dX10_best_121 rfl (ii_m1 _) (by decide) rfl ?_
        refine pw_goto (tgt := 66) dX10_best_124 (by decide) ?_
        exact pw_sub [0, 1, 2, 3, 4, 5, 6, 7, 8] rfl h
theorem T_X10_best_130 {M : Mem} {a1 : Int32} {a2 : Int32} {a3 : Int32} {a4 : Int32} {a5 : Int32} {a7 : Int32} {a8 : Int32} {Q : Int32 → Mem → Prop}  (h : ((a2 ≤ a8) → (P_X10_best_45 M a1 a2 a3 a4 (a5 + (nI 1)) Q)) ∧ ((¬ a2 ≤ a8) → (((a7 = 0) → (P_X10_best_45 M a1 a2 a3 a4 (a5 + (nI 1)) Q)) ∧ ((¬ a7 = 0) → (C_X10_rows M a8 (fun M2 => C_X10_sumOf M2 (fun r3 M3 => ((a4 ≤ r3) → (P_X10_best_130 M3 a1 a2 a3 a4 a5 a7 (a8 + (nI 1)) Q)) ∧ ((¬ a4 ≤ r3) → (C_X10_keeps M3 (fun M5 => P_X10_best_130 M5 a1 a2 a3 r3 a5 a7 (a8 + (nI 1)) Q)))))))))) : P_X10_best_130 M a1 a2 a3 a4 a5 a7 a8 Q := by
  refine pw_iload (pc' := 132) 7 rfl dX10_best_130 rfl ?_
  refine pw_iload_n (pc' := 133) 2 rfl dX10_best_132 rfl rfl ?_
  refine pw_icmp_ge (pc' := 136) (tgt := 174) rfl dX10_best_133 (by decide) (fun q0 => ?_) (fun q0 => ?_)
  · have h := h.1 q0
    refine pw_iinc (pc' := 177) (lv' := [(0, .ref 182), (1, .int a1), (2, .int a2), (3, .int a3), (4, .int a4), (5, .int (a5 + (nI 1))), (7, .int a7), (8, .int a8)]) 5 [1, 2, 3, 4, 5, 0, 6, 7] rfl dX10_best_174 rfl (ii_1 _) (by decide) rfl ?_
    refine pw_goto (tgt := 45) dX10_best_177 (by decide) ?_
    exact pw_sub [0, 1, 2, 3, 4, 5] rfl h
  · have h := h.2 q0
    refine pw_iload (pc' := 138) 6 rfl dX10_best_136 rfl ?_
    refine pw_if_eq (pc' := 141) (tgt := 174) rfl dX10_best_138 (by decide) (fun q1 => ?_) (fun q1 => ?_)
    · have h := h.1 q1
      refine pw_iinc (pc' := 177) (lv' := [(0, .ref 182), (1, .int a1), (2, .int a2), (3, .int a3), (4, .int a4), (5, .int (a5 + (nI 1))), (7, .int a7), (8, .int a8)]) 5 [1, 2, 3, 4, 5, 0, 6, 7] rfl dX10_best_174 rfl (ii_1 _) (by decide) rfl ?_
      refine pw_goto (tgt := 45) dX10_best_177 (by decide) ?_
      exact pw_sub [0, 1, 2, 3, 4, 5] rfl h
    · have h := h.2 q1
      refine pw_aload_n (pc' := 142) 0 rfl dX10_best_141 rfl rfl ?_
      refine pw_iload (pc' := 144) 7 rfl dX10_best_142 rfl ?_
      refine ps_callVV (pc' := 147) (As := [.int a8]) (rest := []) (cT := (RX10, TX10, 44)) 1 rfl dX10_best_144 cv_X10_rows ml_X10_235 (by decide) rfl rfl (by decide) (Nat.le_of_ble_eq_true rfl) ob_182 rfl rfl (CA.monoV h ?_)
      intro M2 h
      refine pw_aload_n (pc' := 148) 0 rfl dX10_best_147 rfl rfl ?_
      refine ps_callVI (pc' := 151) (As := []) (rest := []) (cT := (RX10, TX10, 44)) 0 rfl dX10_best_148 cv_X10_sumOf ml_X10_239 (by decide) rfl rfl (by decide) (Nat.le_of_ble_eq_true rfl) ob_182 rfl rfl (CA.monoI h ?_)
      intro r3 M3 h
      refine pw_istore (pc' := 153) (lv' := [(0, .ref 182), (1, .int a1), (2, .int a2), (3, .int a3), (4, .int a4), (5, .int a5), (7, .int a7), (8, .int a8), (9, .int r3)]) [1, 2, 3, 4, 5, 6, 7, 8, 0] rfl dX10_best_151 (by decide) rfl ?_
      refine pw_iload (pc' := 155) 8 rfl dX10_best_153 rfl ?_
      refine pw_iload (pc' := 157) 4 rfl dX10_best_155 rfl ?_
      refine pw_icmp_ge (pc' := 160) (tgt := 168) rfl dX10_best_157 (by decide) (fun q4 => ?_) (fun q4 => ?_)
      · have h := h.1 q4
        refine pw_iinc (pc' := 171) (lv' := [(0, .ref 182), (1, .int a1), (2, .int a2), (3, .int a3), (4, .int a4), (5, .int a5), (7, .int a7), (8, .int (a8 + (nI 1))), (9, .int r3)]) 7 [1, 2, 3, 4, 5, 6, 7, 0, 8] rfl dX10_best_168 rfl (ii_1 _) (by decide) rfl ?_
        refine pw_goto (tgt := 130) dX10_best_171 (by decide) ?_
        exact pw_sub [0, 1, 2, 3, 4, 5, 6, 7] rfl h
      · have h := h.2 q4
        refine pw_iload (pc' := 162) 8 rfl dX10_best_160 rfl ?_
        refine pw_istore (pc' := 164) (lv' := [(0, .ref 182), (1, .int a1), (2, .int a2), (3, .int a3), (4, .int r3), (5, .int a5), (7, .int a7), (8, .int a8), (9, .int r3)]) [1, 2, 3, 4, 0, 5, 6, 7, 8] rfl dX10_best_162 (by decide) rfl ?_
        refine pw_aload_n (pc' := 165) 0 rfl dX10_best_164 rfl rfl ?_
        refine ps_callVV (pc' := 168) (As := []) (rest := []) (cT := (RX10, TX10, 44)) 0 rfl dX10_best_165 cv_X10_keeps ml_X10_242 (by decide) rfl rfl (by decide) (Nat.le_of_ble_eq_true rfl) ob_182 rfl rfl (CA.monoV h ?_)
        intro M5 h
        refine pw_iinc (pc' := 171) (lv' := [(0, .ref 182), (1, .int a1), (2, .int a2), (3, .int a3), (4, .int r3), (5, .int a5), (7, .int a7), (8, .int (a8 + (nI 1))), (9, .int r3)]) 7 [1, 2, 3, 4, 5, 6, 7, 0, 8] rfl dX10_best_168 rfl (ii_1 _) (by decide) rfl ?_
        refine pw_goto (tgt := 130) dX10_best_171 (by decide) ?_
        exact pw_sub [0, 1, 2, 3, 4, 5, 6, 7] rfl h
theorem T_X10_rows {M : Mem} {a1 : Int32} {Q : Mem → Prop}  (h : P_X10_rows_14 M (((nI 1) <<< ((M 182 17) &&& 31)) - (nI 1)) a1 (nI 0) Q) : C_X10_rows M a1 Q := by
  refine CA_of rfl (Nat.le_of_ble_eq_true rfl) ?_
  show PS _ _ 0 [(0, .ref 182), (1, .int a1)] [] M _
  refine pw_iconst (pc' := 1) rfl dX10_rows_0 ci_1 ?_
  refine pw_aload_n (pc' := 2) 0 rfl dX10_rows_1 rfl rfl ?_
  refine ps_getI (pc' := 5) (v := (M 182 17)) rfl dX10_rows_2 fl_X10_195 ob_182 rfl rfl ?_
  refine pw_ishl (pc' := 6) rfl dX10_rows_5 ?_
  refine pw_iconst (pc' := 7) rfl dX10_rows_6 ci_1 ?_
  refine pw_isub (pc' := 8) rfl dX10_rows_7 ?_
  refine pw_istore_n (pc' := 9) (lv' := [(0, .ref 182), (1, .int a1), (2, .int (((nI 1) <<< ((M 182 17) &&& 31)) - (nI 1)))]) [1, 2, 0] rfl dX10_rows_8 rfl (by decide) rfl ?_
  refine pw_iload_n (pc' := 10) 1 rfl dX10_rows_9 rfl rfl ?_
  refine pw_istore_n (pc' := 11) (lv' := [(0, .ref 182), (1, .int a1), (2, .int (((nI 1) <<< ((M 182 17) &&& 31)) - (nI 1))), (3, .int a1)]) [1, 2, 3, 0] rfl dX10_rows_10 rfl (by decide) rfl ?_
  refine pw_iconst (pc' := 12) rfl dX10_rows_11 ci_0 ?_
  refine pw_istore (pc' := 14) (lv' := [(0, .ref 182), (1, .int a1), (2, .int (((nI 1) <<< ((M 182 17) &&& 31)) - (nI 1))), (3, .int a1), (4, .int (nI 0))]) [1, 2, 3, 4, 0] rfl dX10_rows_12 (by decide) rfl ?_
  exact pw_sub [0, 2, 3, 4] rfl h
theorem T_X10_rows_14 {M : Mem} {a2 : Int32} {a3 : Int32} {a4 : Int32} {Q : Mem → Prop}  (h : (((M 182 17) ≤ a4) → (Q M)) ∧ ((¬ (M 182 17) ≤ a4) → (P_X10_rows_29 M a2 a3 a4 (nI 1) (nI 2) Q))) : P_X10_rows_14 M a2 a3 a4 Q := by
  refine pw_iload (pc' := 16) 3 rfl dX10_rows_14 rfl ?_
  refine pw_aload_n (pc' := 17) 0 rfl dX10_rows_16 rfl rfl ?_
  refine ps_getI (pc' := 20) (v := (M 182 17)) rfl dX10_rows_17 fl_X10_195 ob_182 rfl rfl ?_
  refine pw_icmp_ge (pc' := 23) (tgt := 123) rfl dX10_rows_20 (by decide) (fun q0 => ?_) (fun q0 => ?_)
  · have h := h.1 q0
    exact ps_vret dX10_rows_123 rfl h
  · have h := h.2 q0
    refine pw_iconst (pc' := 24) rfl dX10_rows_23 ci_1 ?_
    refine pw_istore (pc' := 26) (lv' := [(0, .ref 182), (2, .int a2), (3, .int a3), (4, .int a4), (5, .int (nI 1))]) [1, 2, 3, 4, 0] rfl dX10_rows_24 (by decide) rfl ?_
    refine pw_iconst (pc' := 27) rfl dX10_rows_26 ci_2 ?_
    refine pw_istore (pc' := 29) (lv' := [(0, .ref 182), (2, .int a2), (3, .int a3), (4, .int a4), (5, .int (nI 1)), (6, .int (nI 2))]) [1, 2, 3, 4, 5, 0] rfl dX10_rows_27 (by decide) rfl ?_
    exact pw_sub [0, 1, 2, 3, 4, 5] rfl h
theorem T_X10_rows_29 {M : Mem} {a2 : Int32} {a3 : Int32} {a4 : Int32} {a5 : Int32} {a6 : Int32} {Q : Mem → Prop}  (h : ((((M 182 17) - a4) ≤ a6) → (¬ a5 = 0 ∧ (¬ a5 = 0 ∧ (P_X10_rows_68 M a2 (a3 - a3 / a5 * a5) a4 (a3 / a5) (nI 0) Q)))) ∧ ((¬ ((M 182 17) - a4) ≤ a6) → (P_X10_rows_29 M a2 a3 a4 (a5 * a6) (a6 + (nI 1)) Q))) : P_X10_rows_29 M a2 a3 a4 a5 a6 Q := by
  refine pw_iload (pc' := 31) 5 rfl dX10_rows_29 rfl ?_
  refine pw_aload_n (pc' := 32) 0 rfl dX10_rows_31 rfl rfl ?_
  refine ps_getI (pc' := 35) (v := (M 182 17)) rfl dX10_rows_32 fl_X10_195 ob_182 rfl rfl ?_
  refine pw_iload (pc' := 37) 3 rfl dX10_rows_35 rfl ?_
  refine pw_isub (pc' := 38) rfl dX10_rows_37 ?_
  refine pw_icmp_ge (pc' := 41) (tgt := 54) rfl dX10_rows_38 (by decide) (fun q0 => ?_) (fun q0 => ?_)
  · have h := h.1 q0
    refine pw_iload_n (pc' := 55) 2 rfl dX10_rows_54 rfl rfl ?_
    refine pw_iload (pc' := 57) 4 rfl dX10_rows_55 rfl ?_
    obtain ⟨z1, h⟩ := h
    refine pw_idiv (pc' := 58) rfl dX10_rows_57 z1 ?_
    refine pw_istore (pc' := 60) (lv' := [(0, .ref 182), (2, .int a2), (3, .int a3), (4, .int a4), (5, .int a5), (6, .int (a3 / a5))]) [1, 2, 3, 4, 5, 0] rfl dX10_rows_58 (by decide) rfl ?_
    refine pw_iload_n (pc' := 61) 2 rfl dX10_rows_60 rfl rfl ?_
    refine pw_iload (pc' := 63) 4 rfl dX10_rows_61 rfl ?_
    obtain ⟨z2, h⟩ := h
    refine pw_irem (pc' := 64) rfl dX10_rows_63 z2 ?_
    refine pw_istore_n (pc' := 65) (lv' := [(0, .ref 182), (2, .int a2), (3, .int (a3 - a3 / a5 * a5)), (4, .int a4), (5, .int a5), (6, .int (a3 / a5))]) [1, 2, 0, 3, 4, 5] rfl dX10_rows_64 rfl (by decide) rfl ?_
    refine pw_iconst (pc' := 66) rfl dX10_rows_65 ci_0 ?_
    refine pw_istore (pc' := 68) (lv' := [(0, .ref 182), (2, .int a2), (3, .int (a3 - a3 / a5 * a5)), (4, .int a4), (5, .int a5), (6, .int (a3 / a5)), (7, .int (nI 0))]) [1, 2, 3, 4, 5, 6, 0] rfl dX10_rows_66 (by decide) rfl ?_
    exact pw_sub [0, 1, 2, 3, 5, 6] rfl h
  · have h := h.2 q0
    refine pw_iload (pc' := 43) 4 rfl dX10_rows_41 rfl ?_
    refine pw_iload (pc' := 45) 5 rfl dX10_rows_43 rfl ?_
    refine pw_imul (pc' := 46) rfl dX10_rows_45 ?_
    refine pw_istore (pc' := 48) (lv' := [(0, .ref 182), (2, .int a2), (3, .int a3), (4, .int a4), (5, .int (a5 * a6)), (6, .int a6)]) [1, 2, 3, 4, 0, 5] rfl dX10_rows_46 (by decide) rfl ?_
    refine pw_iinc (pc' := 51) (lv' := [(0, .ref 182), (2, .int a2), (3, .int a3), (4, .int a4), (5, .int (a5 * a6)), (6, .int (a6 + (nI 1)))]) 5 [1, 2, 3, 4, 5, 0] rfl dX10_rows_48 rfl (ii_1 _) (by decide) rfl ?_
    refine pw_goto (tgt := 29) dX10_rows_51 (by decide) ?_
    exact pw_sub [0, 1, 2, 3, 4, 5] rfl h
theorem T_X10_rows_68 {M : Mem} {a2 : Int32} {a3 : Int32} {a4 : Int32} {a6 : Int32} {a7 : Int32} {Q : Mem → Prop}  (h : ((((a2 >>> (a7 &&& 31)) &&& (nI 1)) = 0) → (P_X10_rows_68 M a2 a3 a4 (a6 - ((a2 >>> (a7 &&& 31)) &&& (nI 1))) (a7 + (nI 1)) Q)) ∧ ((¬ ((a2 >>> (a7 &&& 31)) &&& (nI 1)) = 0) → (((a6 ≤ 0) → (vp_in a4 5 ∧ (P_X10_rows_14 (wr M 199 (ix a4) a7) (a2 &&& (((nI 1) <<< (a7 &&& 31)) ^^^ (-1))) a3 (a4 + (nI 1)) Q))) ∧ ((¬ a6 ≤ 0) → (P_X10_rows_68 M a2 a3 a4 (a6 - ((a2 >>> (a7 &&& 31)) &&& (nI 1))) (a7 + (nI 1)) Q))))) : P_X10_rows_68 M a2 a3 a4 a6 a7 Q := by
  refine pw_iload_n (pc' := 69) 1 rfl dX10_rows_68 rfl rfl ?_
  refine pw_iload (pc' := 71) 5 rfl dX10_rows_69 rfl ?_
  refine pw_ishr (pc' := 72) rfl dX10_rows_71 ?_
  refine pw_iconst (pc' := 73) rfl dX10_rows_72 ci_1 ?_
  refine pw_iand (pc' := 74) rfl dX10_rows_73 ?_
  refine pw_if_eq (pc' := 77) (tgt := 82) rfl dX10_rows_74 (by decide) (fun q0 => ?_) (fun q0 => ?_)
  · have h := h.1 q0
    refine pw_iload (pc' := 84) 4 rfl dX10_rows_82 rfl ?_
    refine pw_iload_n (pc' := 85) 1 rfl dX10_rows_84 rfl rfl ?_
    refine pw_iload (pc' := 87) 5 rfl dX10_rows_85 rfl ?_
    refine pw_ishr (pc' := 88) rfl dX10_rows_87 ?_
    refine pw_iconst (pc' := 89) rfl dX10_rows_88 ci_1 ?_
    refine pw_iand (pc' := 90) rfl dX10_rows_89 ?_
    refine pw_isub (pc' := 91) rfl dX10_rows_90 ?_
    refine pw_istore (pc' := 93) (lv' := [(0, .ref 182), (2, .int a2), (3, .int a3), (4, .int a4), (6, .int (a6 - ((a2 >>> (a7 &&& 31)) &&& (nI 1)))), (7, .int a7)]) [1, 2, 3, 4, 0, 5] rfl dX10_rows_91 (by decide) rfl ?_
    refine pw_iinc (pc' := 96) (lv' := [(0, .ref 182), (2, .int a2), (3, .int a3), (4, .int a4), (6, .int (a6 - ((a2 >>> (a7 &&& 31)) &&& (nI 1)))), (7, .int (a7 + (nI 1)))]) 5 [1, 2, 3, 4, 5, 0] rfl dX10_rows_93 rfl (ii_1 _) (by decide) rfl ?_
    refine pw_goto (tgt := 68) dX10_rows_96 (by decide) ?_
    exact pw_sub [0, 1, 2, 3, 4, 5] rfl h
  · have h := h.2 q0
    refine pw_iload (pc' := 79) 4 rfl dX10_rows_77 rfl ?_
    refine pw_if_le (pc' := 82) (tgt := 99) rfl dX10_rows_79 (by decide) (fun q1 => ?_) (fun q1 => ?_)
    · have h := h.1 q1
      refine pw_aload_n (pc' := 100) 0 rfl dX10_rows_99 rfl rfl ?_
      refine ps_getR (pc' := 103) (r := 199) rfl dX10_rows_100 fl_X10_58 ob_182 rfl rfl ?_
      refine pw_iload (pc' := 105) 3 rfl dX10_rows_103 rfl ?_
      refine pw_iload (pc' := 107) 5 rfl dX10_rows_105 rfl ?_
      obtain ⟨b2, h⟩ := h
      refine ps_iast (pc' := 108) rfl dX10_rows_107 ia_199 b2 ?_
      refine pw_iload_n (pc' := 109) 1 rfl dX10_rows_108 rfl rfl ?_
      refine pw_iconst (pc' := 110) rfl dX10_rows_109 ci_1 ?_
      refine pw_iload (pc' := 112) 5 rfl dX10_rows_110 rfl ?_
      refine pw_ishl (pc' := 113) rfl dX10_rows_112 ?_
      refine pw_iconst (pc' := 114) rfl dX10_rows_113 ci_m1 ?_
      refine pw_ixor (pc' := 115) rfl dX10_rows_114 ?_
      refine pw_iand (pc' := 116) rfl dX10_rows_115 ?_
      refine pw_istore_n (pc' := 117) (lv' := [(0, .ref 182), (2, .int (a2 &&& (((nI 1) <<< (a7 &&& 31)) ^^^ (-1)))), (3, .int a3), (4, .int a4), (6, .int a6), (7, .int a7)]) [1, 0, 2, 3, 4, 5] rfl dX10_rows_116 rfl (by decide) rfl ?_
      refine pw_iinc (pc' := 120) (lv' := [(0, .ref 182), (2, .int (a2 &&& (((nI 1) <<< (a7 &&& 31)) ^^^ (-1)))), (3, .int a3), (4, .int (a4 + (nI 1))), (6, .int a6), (7, .int a7)]) 3 [1, 2, 3, 0, 4, 5] rfl dX10_rows_117 rfl (ii_1 _) (by decide) rfl ?_
      refine pw_goto (tgt := 14) dX10_rows_120 (by decide) ?_
      exact pw_sub [0, 1, 2, 3] rfl h
    · have h := h.2 q1
      refine pw_iload (pc' := 84) 4 rfl dX10_rows_82 rfl ?_
      refine pw_iload_n (pc' := 85) 1 rfl dX10_rows_84 rfl rfl ?_
      refine pw_iload (pc' := 87) 5 rfl dX10_rows_85 rfl ?_
      refine pw_ishr (pc' := 88) rfl dX10_rows_87 ?_
      refine pw_iconst (pc' := 89) rfl dX10_rows_88 ci_1 ?_
      refine pw_iand (pc' := 90) rfl dX10_rows_89 ?_
      refine pw_isub (pc' := 91) rfl dX10_rows_90 ?_
      refine pw_istore (pc' := 93) (lv' := [(0, .ref 182), (2, .int a2), (3, .int a3), (4, .int a4), (6, .int (a6 - ((a2 >>> (a7 &&& 31)) &&& (nI 1)))), (7, .int a7)]) [1, 2, 3, 4, 0, 5] rfl dX10_rows_91 (by decide) rfl ?_
      refine pw_iinc (pc' := 96) (lv' := [(0, .ref 182), (2, .int a2), (3, .int a3), (4, .int a4), (6, .int (a6 - ((a2 >>> (a7 &&& 31)) &&& (nI 1)))), (7, .int (a7 + (nI 1)))]) 5 [1, 2, 3, 4, 5, 0] rfl dX10_rows_93 rfl (ii_1 _) (by decide) rfl ?_
      refine pw_goto (tgt := 68) dX10_rows_96 (by decide) ?_
      exact pw_sub [0, 1, 2, 3, 4, 5] rfl h
theorem T_X10_sumOf {M : Mem}  {Q : Int32 → Mem → Prop}  (h : C_X10_wakes M (fun M0 => P_X10_sumOf_8 M0 (nI 0) (nI 0) Q)) : C_X10_sumOf M  Q := by
  refine CA_of rfl (Nat.le_of_ble_eq_true rfl) ?_
  show PS _ _ 0 [(0, .ref 182)] [] M _
  refine pw_iconst (pc' := 1) rfl dX10_sumOf_0 ci_0 ?_
  refine pw_istore_n (pc' := 2) (lv' := [(0, .ref 182), (1, .int (nI 0))]) [1, 0] rfl dX10_sumOf_1 rfl (by decide) rfl ?_
  refine pw_aload_n (pc' := 3) 0 rfl dX10_sumOf_2 rfl rfl ?_
  refine ps_callVV (pc' := 6) (As := []) (rest := []) (cT := (RX10, TX10, 44)) 0 rfl dX10_sumOf_3 cv_X10_wakes ml_X10_224 (by decide) rfl rfl (by decide) (Nat.le_of_ble_eq_true rfl) ob_182 rfl rfl (CA.monoV h ?_)
  intro M0 h
  refine pw_iconst (pc' := 7) rfl dX10_sumOf_6 ci_0 ?_
  refine pw_istore_n (pc' := 8) (lv' := [(0, .ref 182), (1, .int (nI 0)), (2, .int (nI 0))]) [1, 2, 0] rfl dX10_sumOf_7 rfl (by decide) rfl ?_
  exact pw_sub [0, 1, 2] rfl h
theorem T_X10_sumOf_8 {M : Mem} {a1 : Int32} {a2 : Int32} {Q : Int32 → Mem → Prop}  (h : (((M 182 17) ≤ a2) → (Q a1 M)) ∧ ((¬ (M 182 17) ≤ a2) → (vp_in a2 5 ∧ (vp_in (M 199 (ix a2)) 5 ∧ (C_X10_doIt M (M 198 (ix (M 199 (ix a2)))) (M 199 (ix a2)) (fun M4 => C_X10_costOf M4 (M4 199 (ix a2)) (fun r6 M6 => P_X10_sumOf_8 M6 (a1 + r6) (a2 + (nI 1)) Q))))))) : P_X10_sumOf_8 M a1 a2 Q := by
  refine pw_iload_n (pc' := 9) 2 rfl dX10_sumOf_8 rfl rfl ?_
  refine pw_aload_n (pc' := 10) 0 rfl dX10_sumOf_9 rfl rfl ?_
  refine ps_getI (pc' := 13) (v := (M 182 17)) rfl dX10_sumOf_10 fl_X10_195 ob_182 rfl rfl ?_
  refine pw_icmp_ge (pc' := 16) (tgt := 56) rfl dX10_sumOf_13 (by decide) (fun q0 => ?_) (fun q0 => ?_)
  · have h := h.1 q0
    refine pw_iload_n (pc' := 57) 1 rfl dX10_sumOf_56 rfl rfl ?_
    exact ps_iret dX10_sumOf_57 rfl h
  · have h := h.2 q0
    refine pw_aload_n (pc' := 17) 0 rfl dX10_sumOf_16 rfl rfl ?_
    refine pw_aload_n (pc' := 18) 0 rfl dX10_sumOf_17 rfl rfl ?_
    refine ps_getR (pc' := 21) (r := 198) rfl dX10_sumOf_18 fl_X10_55 ob_182 rfl rfl ?_
    refine pw_aload_n (pc' := 22) 0 rfl dX10_sumOf_21 rfl rfl ?_
    refine ps_getR (pc' := 25) (r := 199) rfl dX10_sumOf_22 fl_X10_58 ob_182 rfl rfl ?_
    refine pw_iload_n (pc' := 26) 2 rfl dX10_sumOf_25 rfl rfl ?_
    obtain ⟨b1, h⟩ := h
    refine ps_iald (pc' := 27) (v := (M 199 (ix a2))) rfl dX10_sumOf_26 ia_199 b1 rfl ?_
    obtain ⟨b2, h⟩ := h
    refine ps_iald (pc' := 28) (v := (M 198 (ix (M 199 (ix a2))))) rfl dX10_sumOf_27 ia_198 b2 rfl ?_
    refine pw_aload_n (pc' := 29) 0 rfl dX10_sumOf_28 rfl rfl ?_
    refine ps_getR (pc' := 32) (r := 199) rfl dX10_sumOf_29 fl_X10_58 ob_182 rfl rfl ?_
    refine pw_iload_n (pc' := 33) 2 rfl dX10_sumOf_32 rfl rfl ?_
    refine ps_iald (pc' := 34) (v := (M 199 (ix a2))) rfl dX10_sumOf_33 ia_199 b1 rfl ?_
    refine ps_callVV (pc' := 37) (As := [.int (M 198 (ix (M 199 (ix a2)))), .int (M 199 (ix a2))]) (rest := []) (cT := (RX10, TX10, 44)) 2 rfl dX10_sumOf_34 cv_X10_doIt ml_X10_227 (by decide) rfl rfl (by decide) (Nat.le_of_ble_eq_true rfl) ob_182 rfl rfl (CA.monoV h ?_)
    intro M4 h
    refine pw_iload_n (pc' := 38) 1 rfl dX10_sumOf_37 rfl rfl ?_
    refine pw_aload_n (pc' := 39) 0 rfl dX10_sumOf_38 rfl rfl ?_
    refine pw_aload_n (pc' := 40) 0 rfl dX10_sumOf_39 rfl rfl ?_
    refine ps_getR (pc' := 43) (r := 199) rfl dX10_sumOf_40 fl_X10_58 ob_182 rfl rfl ?_
    refine pw_iload_n (pc' := 44) 2 rfl dX10_sumOf_43 rfl rfl ?_
    refine ps_iald (pc' := 45) (v := (M4 199 (ix a2))) rfl dX10_sumOf_44 ia_199 b1 rfl ?_
    refine ps_callVI (pc' := 48) (As := [.int (M4 199 (ix a2))]) (rest := [.int a1]) (cT := (RX10, TX10, 44)) 1 rfl dX10_sumOf_45 cv_X10_costOf ml_X10_231 (by decide) rfl rfl (by decide) (Nat.le_of_ble_eq_true rfl) ob_182 rfl rfl (CA.monoI h ?_)
    intro r6 M6 h
    refine pw_iadd (pc' := 49) rfl dX10_sumOf_48 ?_
    refine pw_istore_n (pc' := 50) (lv' := [(0, .ref 182), (1, .int (a1 + r6)), (2, .int a2)]) [1, 0, 2] rfl dX10_sumOf_49 rfl (by decide) rfl ?_
    refine pw_iinc (pc' := 53) (lv' := [(0, .ref 182), (1, .int (a1 + r6)), (2, .int (a2 + (nI 1)))]) 2 [1, 2, 0] rfl dX10_sumOf_50 rfl (ii_1 _) (by decide) rfl ?_
    refine pw_goto (tgt := 8) dX10_sumOf_53 (by decide) ?_
    exact pw_sub [0, 1, 2] rfl h
theorem T_X10_wakes {M : Mem}  {Q : Mem → Prop}  (h : P_X10_wakes_2 M (nI 0) Q) : C_X10_wakes M  Q := by
  refine CA_of rfl (Nat.le_of_ble_eq_true rfl) ?_
  show PS _ _ 0 [(0, .ref 182)] [] M _
  refine pw_iconst (pc' := 1) rfl dX10_wakes_0 ci_0 ?_
  refine pw_istore_n (pc' := 2) (lv' := [(0, .ref 182), (1, .int (nI 0))]) [1, 0] rfl dX10_wakes_1 rfl (by decide) rfl ?_
  exact pw_sub [0, 1] rfl h
theorem T_X10_wakes_2 {M : Mem} {a1 : Int32} {Q : Mem → Prop}  (h : (((M 182 14) ≤ a1) → (Q M)) ∧ ((¬ (M 182 14) ≤ a1) → (vp_in a1 3 ∧ (P_X10_wakes_2 (wr (wr M 192 (ix a1) (M 189 (ix a1))) 193 (ix a1) (nI 0)) (a1 + (nI 1)) Q)))) : P_X10_wakes_2 M a1 Q := by
  refine pw_iload_n (pc' := 3) 1 rfl dX10_wakes_2 rfl rfl ?_
  refine pw_aload_n (pc' := 4) 0 rfl dX10_wakes_3 rfl rfl ?_
  refine ps_getI (pc' := 7) (v := (M 182 14)) rfl dX10_wakes_4 fl_X10_187 ob_182 rfl rfl ?_
  refine pw_icmp_ge (pc' := 10) (tgt := 35) rfl dX10_wakes_7 (by decide) (fun q0 => ?_) (fun q0 => ?_)
  · have h := h.1 q0
    exact ps_vret dX10_wakes_35 rfl h
  · have h := h.2 q0
    refine pw_aload_n (pc' := 11) 0 rfl dX10_wakes_10 rfl rfl ?_
    refine ps_getR (pc' := 14) (r := 192) rfl dX10_wakes_11 fl_X10_37 ob_182 rfl rfl ?_
    refine pw_iload_n (pc' := 15) 1 rfl dX10_wakes_14 rfl rfl ?_
    refine pw_aload_n (pc' := 16) 0 rfl dX10_wakes_15 rfl rfl ?_
    refine ps_getR (pc' := 19) (r := 189) rfl dX10_wakes_16 fl_X10_28 ob_182 rfl rfl ?_
    refine pw_iload_n (pc' := 20) 1 rfl dX10_wakes_19 rfl rfl ?_
    obtain ⟨b1, h⟩ := h
    refine ps_iald (pc' := 21) (v := (M 189 (ix a1))) rfl dX10_wakes_20 ia_189 b1 rfl ?_
    refine ps_iast (pc' := 22) rfl dX10_wakes_21 ia_192 b1 ?_
    refine pw_aload_n (pc' := 23) 0 rfl dX10_wakes_22 rfl rfl ?_
    refine ps_getR (pc' := 26) (r := 193) rfl dX10_wakes_23 fl_X10_40 ob_182 rfl rfl ?_
    refine pw_iload_n (pc' := 27) 1 rfl dX10_wakes_26 rfl rfl ?_
    refine pw_iconst (pc' := 28) rfl dX10_wakes_27 ci_0 ?_
    refine ps_iast (pc' := 29) rfl dX10_wakes_28 ia_193 b1 ?_
    refine pw_iinc (pc' := 32) (lv' := [(0, .ref 182), (1, .int (a1 + (nI 1)))]) 1 [1, 0] rfl dX10_wakes_29 rfl (ii_1 _) (by decide) rfl ?_
    refine pw_goto (tgt := 2) dX10_wakes_32 (by decide) ?_
    exact pw_sub [0, 1] rfl h
theorem T_X10_doIt {M : Mem} {a1 : Int32} {a2 : Int32} {Q : Mem → Prop}  (h : C_X10_wouldBe M a1 a2 (fun r0 M0 => vp_in a2 5 ∧ (vp_in (((nI 5) * a2) + (nI 1)) 25 ∧ (vp_in a1 3 ∧ (Q (wr (wr (wr (wr M0 194 (ix a2) r0) 195 (ix a2) (M0 182 23)) 192 (ix a1) (M0 191 (ix (((nI 5) * a2) + (nI 1))))) 193 (ix a1) ((wr M0 194 (ix a2) r0) 194 (ix a2)))))))) : C_X10_doIt M a1 a2 Q := by
  refine CA_of rfl (Nat.le_of_ble_eq_true rfl) ?_
  show PS _ _ 0 [(0, .ref 182), (1, .int a1), (2, .int a2)] [] M _
  refine pw_aload_n (pc' := 1) 0 rfl dX10_doIt_0 rfl rfl ?_
  refine ps_getR (pc' := 4) (r := 194) rfl dX10_doIt_1 fl_X10_43 ob_182 rfl rfl ?_
  refine pw_iload_n (pc' := 5) 2 rfl dX10_doIt_4 rfl rfl ?_
  refine pw_aload_n (pc' := 6) 0 rfl dX10_doIt_5 rfl rfl ?_
  refine pw_iload_n (pc' := 7) 1 rfl dX10_doIt_6 rfl rfl ?_
  refine pw_iload_n (pc' := 8) 2 rfl dX10_doIt_7 rfl rfl ?_
  refine ps_callVI (pc' := 11) (As := [.int a1, .int a2]) (rest := [.int a2, .ref 194]) (cT := (RX10, TX10, 44)) 2 rfl dX10_doIt_8 cv_X10_wouldBe ml_X10_221 (by decide) rfl rfl (by decide) (Nat.le_of_ble_eq_true rfl) ob_182 rfl rfl (CA.monoI h ?_)
  intro r0 M0 h
  obtain ⟨b1, h⟩ := h
  refine ps_iast (pc' := 12) rfl dX10_doIt_11 ia_194 b1 ?_
  refine pw_aload_n (pc' := 13) 0 rfl dX10_doIt_12 rfl rfl ?_
  refine ps_getR (pc' := 16) (r := 195) rfl dX10_doIt_13 fl_X10_46 ob_182 rfl rfl ?_
  refine pw_iload_n (pc' := 17) 2 rfl dX10_doIt_16 rfl rfl ?_
  refine pw_aload_n (pc' := 18) 0 rfl dX10_doIt_17 rfl rfl ?_
  refine ps_getI (pc' := 21) (v := (M0 182 23)) rfl dX10_doIt_18 fl_X10_218 ob_182 rfl rfl ?_
  refine ps_iast (pc' := 22) rfl dX10_doIt_21 ia_195 b1 ?_
  refine pw_aload_n (pc' := 23) 0 rfl dX10_doIt_22 rfl rfl ?_
  refine ps_getR (pc' := 26) (r := 192) rfl dX10_doIt_23 fl_X10_37 ob_182 rfl rfl ?_
  refine pw_iload_n (pc' := 27) 1 rfl dX10_doIt_26 rfl rfl ?_
  refine pw_aload_n (pc' := 28) 0 rfl dX10_doIt_27 rfl rfl ?_
  refine ps_getR (pc' := 31) (r := 191) rfl dX10_doIt_28 fl_X10_34 ob_182 rfl rfl ?_
  refine pw_iconst (pc' := 32) rfl dX10_doIt_31 ci_5 ?_
  refine pw_iload_n (pc' := 33) 2 rfl dX10_doIt_32 rfl rfl ?_
  refine pw_imul (pc' := 34) rfl dX10_doIt_33 ?_
  refine pw_iconst (pc' := 35) rfl dX10_doIt_34 ci_1 ?_
  refine pw_iadd (pc' := 36) rfl dX10_doIt_35 ?_
  obtain ⟨b3, h⟩ := h
  refine ps_iald (pc' := 37) (v := (M0 191 (ix (((nI 5) * a2) + (nI 1))))) rfl dX10_doIt_36 ia_191 b3 rfl ?_
  obtain ⟨b4, h⟩ := h
  refine ps_iast (pc' := 38) rfl dX10_doIt_37 ia_192 b4 ?_
  refine pw_aload_n (pc' := 39) 0 rfl dX10_doIt_38 rfl rfl ?_
  refine ps_getR (pc' := 42) (r := 193) rfl dX10_doIt_39 fl_X10_40 ob_182 rfl rfl ?_
  refine pw_iload_n (pc' := 43) 1 rfl dX10_doIt_42 rfl rfl ?_
  refine pw_aload_n (pc' := 44) 0 rfl dX10_doIt_43 rfl rfl ?_
  refine ps_getR (pc' := 47) (r := 194) rfl dX10_doIt_44 fl_X10_43 ob_182 rfl rfl ?_
  refine pw_iload_n (pc' := 48) 2 rfl dX10_doIt_47 rfl rfl ?_
  refine ps_iald (pc' := 49) (v := ((wr M0 194 (ix a2) r0) 194 (ix a2))) rfl dX10_doIt_48 ia_194 b1 rfl ?_
  refine ps_iast (pc' := 50) rfl dX10_doIt_49 ia_193 b4 ?_
  exact ps_vret dX10_doIt_50 rfl h
theorem T_X10_wouldBe {M : Mem} {a1 : Int32} {a2 : Int32} {Q : Int32 → Mem → Prop}  (h : vp_in a1 3 ∧ (((0 ≤ (M 193 (ix a1))) → (vp_in (((nI 5) * a2) + (nI 3)) 25 ∧ ((((M 191 (ix (((nI 5) * a2) + (nI 3)))) ≤ (M 193 (ix a1))) → (vp_in (((nI 5) * a2) + (nI 1)) 25 ∧ (vp_in ((nI 5) * a2) 25 ∧ (((¬ (M 191 (ix ((nI 5) * a2))) = 0) → (C_X10_endOf (wr M 182 23 (-4)) (M 192 (ix a1)) (M 193 (ix a1)) (M 182 5) (nI 0) (fun r10 M10 => ((0 ≤ r10) → (P_X10_wouldBe_121 M10 (M 191 (ix (((nI 5) * a2) + (nI 1)))) r10 Q)) ∧ ((¬ 0 ≤ r10) → (Q (-4) M10))))) ∧ (((M 191 (ix ((nI 5) * a2))) = 0) → (C_X10_endOf (wr M 182 23 (-4)) (M 192 (ix a1)) (M 193 (ix a1)) (M 191 (ix (((nI 5) * a2) + (nI 1)))) (nI 0) (fun r10 M10 => Q r10 M10))))))) ∧ ((¬ (M 191 (ix (((nI 5) * a2) + (nI 3)))) ≤ (M 193 (ix a1))) → (vp_in (((nI 5) * a2) + (nI 1)) 25 ∧ (vp_in ((nI 5) * a2) 25 ∧ (((¬ (M 191 (ix ((nI 5) * a2))) = 0) → (C_X10_endOf (wr M 182 23 (-4)) (M 192 (ix a1)) (M 191 (ix (((nI 5) * a2) + (nI 3)))) (M 182 5) (nI 0) (fun r10 M10 => ((0 ≤ r10) → (P_X10_wouldBe_121 M10 (M 191 (ix (((nI 5) * a2) + (nI 1)))) r10 Q)) ∧ ((¬ 0 ≤ r10) → (Q (-4) M10))))) ∧ (((M 191 (ix ((nI 5) * a2))) = 0) → (C_X10_endOf (wr M 182 23 (-4)) (M 192 (ix a1)) (M 191 (ix (((nI 5) * a2) + (nI 3)))) (M 191 (ix (((nI 5) * a2) + (nI 1)))) (nI 0) (fun r10 M10 => Q r10 M10)))))))))) ∧ ((¬ 0 ≤ (M 193 (ix a1))) → (Q (-4) (wr M 182 23 (-4)))))) : C_X10_wouldBe M a1 a2 Q := by
  refine CA_of rfl (Nat.le_of_ble_eq_true rfl) ?_
  show PS _ _ 0 [(0, .ref 182), (1, .int a1), (2, .int a2)] [] M _
  refine pw_aload_n (pc' := 1) 0 rfl dX10_wouldBe_0 rfl rfl ?_
  refine pw_bipush (pc' := 3) rfl dX10_wouldBe_1 cb_m4 ?_
  refine ps_putI (pc' := 6) rfl dX10_wouldBe_3 fl_X10_218 ob_182 rfl ?_
  refine pw_aload_n (pc' := 7) 0 rfl dX10_wouldBe_6 rfl rfl ?_
  refine ps_getR (pc' := 10) (r := 193) rfl dX10_wouldBe_7 fl_X10_40 ob_182 rfl rfl ?_
  refine pw_iload_n (pc' := 11) 1 rfl dX10_wouldBe_10 rfl rfl ?_
  obtain ⟨b0, h⟩ := h
  refine ps_iald (pc' := 12) (v := (M 193 (ix a1))) rfl dX10_wouldBe_11 ia_193 b0 rfl ?_
  refine pw_if_ge (pc' := 15) (tgt := 18) rfl dX10_wouldBe_12 (by decide) (fun q1 => ?_) (fun q1 => ?_)
  · have h := h.1 q1
    refine pw_aload_n (pc' := 19) 0 rfl dX10_wouldBe_18 rfl rfl ?_
    refine ps_getR (pc' := 22) (r := 191) rfl dX10_wouldBe_19 fl_X10_34 ob_182 rfl rfl ?_
    refine pw_iconst (pc' := 23) rfl dX10_wouldBe_22 ci_5 ?_
    refine pw_iload_n (pc' := 24) 2 rfl dX10_wouldBe_23 rfl rfl ?_
    refine pw_imul (pc' := 25) rfl dX10_wouldBe_24 ?_
    refine pw_iconst (pc' := 26) rfl dX10_wouldBe_25 ci_3 ?_
    refine pw_iadd (pc' := 27) rfl dX10_wouldBe_26 ?_
    obtain ⟨b2, h⟩ := h
    refine ps_iald (pc' := 28) (v := (M 191 (ix (((nI 5) * a2) + (nI 3))))) rfl dX10_wouldBe_27 ia_191 b2 rfl ?_
    refine pw_aload_n (pc' := 29) 0 rfl dX10_wouldBe_28 rfl rfl ?_
    refine ps_getR (pc' := 32) (r := 193) rfl dX10_wouldBe_29 fl_X10_40 ob_182 rfl rfl ?_
    refine pw_iload_n (pc' := 33) 1 rfl dX10_wouldBe_32 rfl rfl ?_
    refine ps_iald (pc' := 34) (v := (M 193 (ix a1))) rfl dX10_wouldBe_33 ia_193 b0 rfl ?_
    refine pw_icmp_le (pc' := 37) (tgt := 50) rfl dX10_wouldBe_34 (by decide) (fun q4 => ?_) (fun q4 => ?_)
    · have h := h.1 q4
      refine pw_aload_n (pc' := 51) 0 rfl dX10_wouldBe_50 rfl rfl ?_
      refine ps_getR (pc' := 54) (r := 193) rfl dX10_wouldBe_51 fl_X10_40 ob_182 rfl rfl ?_
      refine pw_iload_n (pc' := 55) 1 rfl dX10_wouldBe_54 rfl rfl ?_
      refine ps_iald (pc' := 56) (v := (M 193 (ix a1))) rfl dX10_wouldBe_55 ia_193 b0 rfl ?_
      refine pw_istore_n (pc' := 57) (lv' := [(0, .ref 182), (1, .int a1), (2, .int a2), (3, .int (M 193 (ix a1)))]) [1, 2, 3, 0] rfl dX10_wouldBe_56 rfl (by decide) rfl ?_
      refine pw_aload_n (pc' := 58) 0 rfl dX10_wouldBe_57 rfl rfl ?_
      refine ps_getR (pc' := 61) (r := 191) rfl dX10_wouldBe_58 fl_X10_34 ob_182 rfl rfl ?_
      refine pw_iconst (pc' := 62) rfl dX10_wouldBe_61 ci_5 ?_
      refine pw_iload_n (pc' := 63) 2 rfl dX10_wouldBe_62 rfl rfl ?_
      refine pw_imul (pc' := 64) rfl dX10_wouldBe_63 ?_
      refine pw_iconst (pc' := 65) rfl dX10_wouldBe_64 ci_1 ?_
      refine pw_iadd (pc' := 66) rfl dX10_wouldBe_65 ?_
      obtain ⟨b6, h⟩ := h
      refine ps_iald (pc' := 67) (v := (M 191 (ix (((nI 5) * a2) + (nI 1))))) rfl dX10_wouldBe_66 ia_191 b6 rfl ?_
      refine pw_istore (pc' := 69) (lv' := [(0, .ref 182), (1, .int a1), (2, .int a2), (3, .int (M 193 (ix a1))), (4, .int (M 191 (ix (((nI 5) * a2) + (nI 1)))))]) [1, 2, 3, 4, 0] rfl dX10_wouldBe_67 (by decide) rfl ?_
      refine pw_aload_n (pc' := 70) 0 rfl dX10_wouldBe_69 rfl rfl ?_
      refine ps_getR (pc' := 73) (r := 191) rfl dX10_wouldBe_70 fl_X10_34 ob_182 rfl rfl ?_
      refine pw_iconst (pc' := 74) rfl dX10_wouldBe_73 ci_5 ?_
      refine pw_iload_n (pc' := 75) 2 rfl dX10_wouldBe_74 rfl rfl ?_
      refine pw_imul (pc' := 76) rfl dX10_wouldBe_75 ?_
      obtain ⟨b7, h⟩ := h
      refine ps_iald (pc' := 77) (v := (M 191 (ix ((nI 5) * a2)))) rfl dX10_wouldBe_76 ia_191 b7 rfl ?_
      refine pw_if_ne (pc' := 80) (tgt := 95) rfl dX10_wouldBe_77 (by decide) (fun q8 => ?_) (fun q8 => ?_)
      · have h := h.1 q8
        refine pw_aload_n (pc' := 96) 0 rfl dX10_wouldBe_95 rfl rfl ?_
        refine pw_aload_n (pc' := 97) 0 rfl dX10_wouldBe_96 rfl rfl ?_
        refine ps_getR (pc' := 100) (r := 192) rfl dX10_wouldBe_97 fl_X10_37 ob_182 rfl rfl ?_
        refine pw_iload_n (pc' := 101) 1 rfl dX10_wouldBe_100 rfl rfl ?_
        refine ps_iald (pc' := 102) (v := (M 192 (ix a1))) rfl dX10_wouldBe_101 ia_192 b0 rfl ?_
        refine pw_iload_n (pc' := 103) 3 rfl dX10_wouldBe_102 rfl rfl ?_
        refine pw_aload_n (pc' := 104) 0 rfl dX10_wouldBe_103 rfl rfl ?_
        refine ps_getI (pc' := 107) (v := (M 182 5)) rfl dX10_wouldBe_104 fl_X10_190 ob_182 rfl rfl ?_
        refine pw_iconst (pc' := 108) rfl dX10_wouldBe_107 ci_0 ?_
        refine ps_callVI (pc' := 111) (As := [.int (M 192 (ix a1)), .int (M 193 (ix a1)), .int (M 182 5), .int (nI 0)]) (rest := []) (cT := (RX10, TX10, 44)) 4 rfl dX10_wouldBe_108 cv_X10_endOf ml_X10_183 (by decide) rfl rfl (by decide) (Nat.le_of_ble_eq_true rfl) ob_182 rfl rfl (CA.monoI h ?_)
        intro r10 M10 h
        refine pw_istore (pc' := 113) (lv' := [(0, .ref 182), (1, .int a1), (2, .int a2), (3, .int (M 193 (ix a1))), (4, .int (M 191 (ix (((nI 5) * a2) + (nI 1))))), (5, .int r10)]) [1, 2, 3, 4, 5, 0] rfl dX10_wouldBe_111 (by decide) rfl ?_
        refine pw_iload (pc' := 115) 5 rfl dX10_wouldBe_113 rfl ?_
        refine pw_if_ge (pc' := 118) (tgt := 121) rfl dX10_wouldBe_115 (by decide) (fun q11 => ?_) (fun q11 => ?_)
        · have h := h.1 q11
          exact pw_sub [0, 4, 5] rfl h
        · have h := h.2 q11
          refine pw_bipush (pc' := 120) rfl dX10_wouldBe_118 cb_m4 ?_
          exact ps_iret dX10_wouldBe_120 rfl h
      · have h := h.2 q8
        refine pw_aload_n (pc' := 81) 0 rfl dX10_wouldBe_80 rfl rfl ?_
        refine pw_aload_n (pc' := 82) 0 rfl dX10_wouldBe_81 rfl rfl ?_
        refine ps_getR (pc' := 85) (r := 192) rfl dX10_wouldBe_82 fl_X10_37 ob_182 rfl rfl ?_
        refine pw_iload_n (pc' := 86) 1 rfl dX10_wouldBe_85 rfl rfl ?_
        refine ps_iald (pc' := 87) (v := (M 192 (ix a1))) rfl dX10_wouldBe_86 ia_192 b0 rfl ?_
        refine pw_iload_n (pc' := 88) 3 rfl dX10_wouldBe_87 rfl rfl ?_
        refine pw_iload (pc' := 90) 4 rfl dX10_wouldBe_88 rfl ?_
        refine pw_iconst (pc' := 91) rfl dX10_wouldBe_90 ci_0 ?_
        refine ps_callVI (pc' := 94) (As := [.int (M 192 (ix a1)), .int (M 193 (ix a1)), .int (M 191 (ix (((nI 5) * a2) + (nI 1)))), .int (nI 0)]) (rest := []) (cT := (RX10, TX10, 44)) 4 rfl dX10_wouldBe_91 cv_X10_endOf ml_X10_183 (by decide) rfl rfl (by decide) (Nat.le_of_ble_eq_true rfl) ob_182 rfl rfl (CA.monoI h ?_)
        intro r10 M10 h
        exact ps_iret dX10_wouldBe_94 rfl h
    · have h := h.2 q4
      refine pw_aload_n (pc' := 38) 0 rfl dX10_wouldBe_37 rfl rfl ?_
      refine ps_getR (pc' := 41) (r := 191) rfl dX10_wouldBe_38 fl_X10_34 ob_182 rfl rfl ?_
      refine pw_iconst (pc' := 42) rfl dX10_wouldBe_41 ci_5 ?_
      refine pw_iload_n (pc' := 43) 2 rfl dX10_wouldBe_42 rfl rfl ?_
      refine pw_imul (pc' := 44) rfl dX10_wouldBe_43 ?_
      refine pw_iconst (pc' := 45) rfl dX10_wouldBe_44 ci_3 ?_
      refine pw_iadd (pc' := 46) rfl dX10_wouldBe_45 ?_
      refine ps_iald (pc' := 47) (v := (M 191 (ix (((nI 5) * a2) + (nI 3))))) rfl dX10_wouldBe_46 ia_191 b2 rfl ?_
      refine pw_goto (tgt := 56) dX10_wouldBe_47 (by decide) ?_
      refine pw_istore_n (pc' := 57) (lv' := [(0, .ref 182), (1, .int a1), (2, .int a2), (3, .int (M 191 (ix (((nI 5) * a2) + (nI 3)))))]) [1, 2, 3, 0] rfl dX10_wouldBe_56 rfl (by decide) rfl ?_
      refine pw_aload_n (pc' := 58) 0 rfl dX10_wouldBe_57 rfl rfl ?_
      refine ps_getR (pc' := 61) (r := 191) rfl dX10_wouldBe_58 fl_X10_34 ob_182 rfl rfl ?_
      refine pw_iconst (pc' := 62) rfl dX10_wouldBe_61 ci_5 ?_
      refine pw_iload_n (pc' := 63) 2 rfl dX10_wouldBe_62 rfl rfl ?_
      refine pw_imul (pc' := 64) rfl dX10_wouldBe_63 ?_
      refine pw_iconst (pc' := 65) rfl dX10_wouldBe_64 ci_1 ?_
      refine pw_iadd (pc' := 66) rfl dX10_wouldBe_65 ?_
      obtain ⟨b6, h⟩ := h
      refine ps_iald (pc' := 67) (v := (M 191 (ix (((nI 5) * a2) + (nI 1))))) rfl dX10_wouldBe_66 ia_191 b6 rfl ?_
      refine pw_istore (pc' := 69) (lv' := [(0, .ref 182), (1, .int a1), (2, .int a2), (3, .int (M 191 (ix (((nI 5) * a2) + (nI 3))))), (4, .int (M 191 (ix (((nI 5) * a2) + (nI 1)))))]) [1, 2, 3, 4, 0] rfl dX10_wouldBe_67 (by decide) rfl ?_
      refine pw_aload_n (pc' := 70) 0 rfl dX10_wouldBe_69 rfl rfl ?_
      refine ps_getR (pc' := 73) (r := 191) rfl dX10_wouldBe_70 fl_X10_34 ob_182 rfl rfl ?_
      refine pw_iconst (pc' := 74) rfl dX10_wouldBe_73 ci_5 ?_
      refine pw_iload_n (pc' := 75) 2 rfl dX10_wouldBe_74 rfl rfl ?_
      refine pw_imul (pc' := 76) rfl dX10_wouldBe_75 ?_
      obtain ⟨b7, h⟩ := h
      refine ps_iald (pc' := 77) (v := (M 191 (ix ((nI 5) * a2)))) rfl dX10_wouldBe_76 ia_191 b7 rfl ?_
      refine pw_if_ne (pc' := 80) (tgt := 95) rfl dX10_wouldBe_77 (by decide) (fun q8 => ?_) (fun q8 => ?_)
      · have h := h.1 q8
        refine pw_aload_n (pc' := 96) 0 rfl dX10_wouldBe_95 rfl rfl ?_
        refine pw_aload_n (pc' := 97) 0 rfl dX10_wouldBe_96 rfl rfl ?_
        refine ps_getR (pc' := 100) (r := 192) rfl dX10_wouldBe_97 fl_X10_37 ob_182 rfl rfl ?_
        refine pw_iload_n (pc' := 101) 1 rfl dX10_wouldBe_100 rfl rfl ?_
        refine ps_iald (pc' := 102) (v := (M 192 (ix a1))) rfl dX10_wouldBe_101 ia_192 b0 rfl ?_
        refine pw_iload_n (pc' := 103) 3 rfl dX10_wouldBe_102 rfl rfl ?_
        refine pw_aload_n (pc' := 104) 0 rfl dX10_wouldBe_103 rfl rfl ?_
        refine ps_getI (pc' := 107) (v := (M 182 5)) rfl dX10_wouldBe_104 fl_X10_190 ob_182 rfl rfl ?_
        refine pw_iconst (pc' := 108) rfl dX10_wouldBe_107 ci_0 ?_
        refine ps_callVI (pc' := 111) (As := [.int (M 192 (ix a1)), .int (M 191 (ix (((nI 5) * a2) + (nI 3)))), .int (M 182 5), .int (nI 0)]) (rest := []) (cT := (RX10, TX10, 44)) 4 rfl dX10_wouldBe_108 cv_X10_endOf ml_X10_183 (by decide) rfl rfl (by decide) (Nat.le_of_ble_eq_true rfl) ob_182 rfl rfl (CA.monoI h ?_)
        intro r10 M10 h
        refine pw_istore (pc' := 113) (lv' := [(0, .ref 182), (1, .int a1), (2, .int a2), (3, .int (M 191 (ix (((nI 5) * a2) + (nI 3))))), (4, .int (M 191 (ix (((nI 5) * a2) + (nI 1))))), (5, .int r10)]) [1, 2, 3, 4, 5, 0] rfl dX10_wouldBe_111 (by decide) rfl ?_
        refine pw_iload (pc' := 115) 5 rfl dX10_wouldBe_113 rfl ?_
        refine pw_if_ge (pc' := 118) (tgt := 121) rfl dX10_wouldBe_115 (by decide) (fun q11 => ?_) (fun q11 => ?_)
        · have h := h.1 q11
          exact pw_sub [0, 4, 5] rfl h
        · have h := h.2 q11
          refine pw_bipush (pc' := 120) rfl dX10_wouldBe_118 cb_m4 ?_
          exact ps_iret dX10_wouldBe_120 rfl h
      · have h := h.2 q8
        refine pw_aload_n (pc' := 81) 0 rfl dX10_wouldBe_80 rfl rfl ?_
        refine pw_aload_n (pc' := 82) 0 rfl dX10_wouldBe_81 rfl rfl ?_
        refine ps_getR (pc' := 85) (r := 192) rfl dX10_wouldBe_82 fl_X10_37 ob_182 rfl rfl ?_
        refine pw_iload_n (pc' := 86) 1 rfl dX10_wouldBe_85 rfl rfl ?_
        refine ps_iald (pc' := 87) (v := (M 192 (ix a1))) rfl dX10_wouldBe_86 ia_192 b0 rfl ?_
        refine pw_iload_n (pc' := 88) 3 rfl dX10_wouldBe_87 rfl rfl ?_
        refine pw_iload (pc' := 90) 4 rfl dX10_wouldBe_88 rfl ?_
        refine pw_iconst (pc' := 91) rfl dX10_wouldBe_90 ci_0 ?_
        refine ps_callVI (pc' := 94) (As := [.int (M 192 (ix a1)), .int (M 191 (ix (((nI 5) * a2) + (nI 3)))), .int (M 191 (ix (((nI 5) * a2) + (nI 1)))), .int (nI 0)]) (rest := []) (cT := (RX10, TX10, 44)) 4 rfl dX10_wouldBe_91 cv_X10_endOf ml_X10_183 (by decide) rfl rfl (by decide) (Nat.le_of_ble_eq_true rfl) ob_182 rfl rfl (CA.monoI h ?_)
        intro r10 M10 h
        exact ps_iret dX10_wouldBe_94 rfl h
  · have h := h.2 q1
    refine pw_bipush (pc' := 17) rfl dX10_wouldBe_15 cb_m4 ?_
    exact ps_iret dX10_wouldBe_17 rfl h
theorem T_X10_wouldBe_121 {M : Mem} {a4 : Int32} {a5 : Int32} {Q : Int32 → Mem → Prop}  (h : (((nI 24) ≤ a5) → ((((nI 24) ≤ a5) → ((((nI 24) ≤ a5) → (Q (-4) (wr M 182 23 (-4)))) ∧ ((¬ (nI 24) ≤ a5) → (C_X10_endOf (wr M 182 23 (-4)) (M 182 5) a5 a4 (nI 1) (fun r3 M3 => Q r3 M3))))) ∧ ((¬ (nI 24) ≤ a5) → ((((nI 24) ≤ a5) → (Q (-4) (wr M 182 23 a5))) ∧ ((¬ (nI 24) ≤ a5) → (C_X10_endOf (wr M 182 23 a5) (M 182 5) a5 a4 (nI 1) (fun r3 M3 => Q r3 M3))))))) ∧ ((¬ (nI 24) ≤ a5) → (C_X10_endOf M (M 182 5) a5 a4 (nI 1) (fun r1 M1 => ((0 ≤ r1) → ((((nI 24) ≤ a5) → ((((nI 24) ≤ a5) → (Q (-4) (wr M1 182 23 (-4)))) ∧ ((¬ (nI 24) ≤ a5) → (C_X10_endOf (wr M1 182 23 (-4)) (M1 182 5) a5 a4 (nI 1) (fun r5 M5 => Q r5 M5))))) ∧ ((¬ (nI 24) ≤ a5) → ((((nI 24) ≤ a5) → (Q (-4) (wr M1 182 23 a5))) ∧ ((¬ (nI 24) ≤ a5) → (C_X10_endOf (wr M1 182 23 a5) (M1 182 5) a5 a4 (nI 1) (fun r5 M5 => Q r5 M5))))))) ∧ ((¬ 0 ≤ r1) → (P_X10_wouldBe_121 M1 a4 (a5 + (nI 1)) Q)))))) : P_X10_wouldBe_121 M a4 a5 Q := by
  refine pw_iload (pc' := 123) 2 rfl dX10_wouldBe_121 rfl ?_
  refine pw_bipush (pc' := 125) rfl dX10_wouldBe_123 cb_24 ?_
  refine pw_icmp_ge (pc' := 128) (tgt := 150) rfl dX10_wouldBe_125 (by decide) (fun q0 => ?_) (fun q0 => ?_)
  · have h := h.1 q0
    refine pw_aload_n (pc' := 151) 0 rfl dX10_wouldBe_150 rfl rfl ?_
    refine pw_iload (pc' := 153) 2 rfl dX10_wouldBe_151 rfl ?_
    refine pw_bipush (pc' := 155) rfl dX10_wouldBe_153 cb_24 ?_
    refine pw_icmp_ge (pc' := 158) (tgt := 163) rfl dX10_wouldBe_155 (by decide) (fun q1 => ?_) (fun q1 => ?_)
    · have h := h.1 q1
      refine pw_bipush (pc' := 165) rfl dX10_wouldBe_163 cb_m4 ?_
      refine ps_putI (pc' := 168) rfl dX10_wouldBe_165 fl_X10_218 ob_182 rfl ?_
      refine pw_iload (pc' := 170) 2 rfl dX10_wouldBe_168 rfl ?_
      refine pw_bipush (pc' := 172) rfl dX10_wouldBe_170 cb_24 ?_
      refine pw_icmp_ge (pc' := 175) (tgt := 191) rfl dX10_wouldBe_172 (by decide) (fun q2 => ?_) (fun q2 => ?_)
      · have h := h.1 q2
        refine pw_bipush (pc' := 193) rfl dX10_wouldBe_191 cb_m4 ?_
        exact ps_iret dX10_wouldBe_193 rfl h
      · have h := h.2 q2
        refine pw_aload_n (pc' := 176) 0 rfl dX10_wouldBe_175 rfl rfl ?_
        refine pw_aload_n (pc' := 177) 0 rfl dX10_wouldBe_176 rfl rfl ?_
        refine ps_getI (pc' := 180) (v := (M 182 5)) rfl dX10_wouldBe_177 fl_X10_190 ob_182 rfl rfl ?_
        refine pw_iload (pc' := 182) 2 rfl dX10_wouldBe_180 rfl ?_
        refine pw_iload (pc' := 184) 1 rfl dX10_wouldBe_182 rfl ?_
        refine pw_iconst (pc' := 185) rfl dX10_wouldBe_184 ci_1 ?_
        refine ps_callVI (pc' := 188) (As := [.int (M 182 5), .int a5, .int a4, .int (nI 1)]) (rest := []) (cT := (RX10, TX10, 44)) 4 rfl dX10_wouldBe_185 cv_X10_endOf ml_X10_183 (by decide) rfl rfl (by decide) (Nat.le_of_ble_eq_true rfl) ob_182 rfl rfl (CA.monoI h ?_)
        intro r3 M3 h
        refine pw_goto (tgt := 193) dX10_wouldBe_188 (by decide) ?_
        exact ps_iret dX10_wouldBe_193 rfl h
    · have h := h.2 q1
      refine pw_iload (pc' := 160) 2 rfl dX10_wouldBe_158 rfl ?_
      refine pw_goto (tgt := 165) dX10_wouldBe_160 (by decide) ?_
      refine ps_putI (pc' := 168) rfl dX10_wouldBe_165 fl_X10_218 ob_182 rfl ?_
      refine pw_iload (pc' := 170) 2 rfl dX10_wouldBe_168 rfl ?_
      refine pw_bipush (pc' := 172) rfl dX10_wouldBe_170 cb_24 ?_
      refine pw_icmp_ge (pc' := 175) (tgt := 191) rfl dX10_wouldBe_172 (by decide) (fun q2 => ?_) (fun q2 => ?_)
      · have h := h.1 q2
        refine pw_bipush (pc' := 193) rfl dX10_wouldBe_191 cb_m4 ?_
        exact ps_iret dX10_wouldBe_193 rfl h
      · have h := h.2 q2
        refine pw_aload_n (pc' := 176) 0 rfl dX10_wouldBe_175 rfl rfl ?_
        refine pw_aload_n (pc' := 177) 0 rfl dX10_wouldBe_176 rfl rfl ?_
        refine ps_getI (pc' := 180) (v := (M 182 5)) rfl dX10_wouldBe_177 fl_X10_190 ob_182 rfl rfl ?_
        refine pw_iload (pc' := 182) 2 rfl dX10_wouldBe_180 rfl ?_
        refine pw_iload (pc' := 184) 1 rfl dX10_wouldBe_182 rfl ?_
        refine pw_iconst (pc' := 185) rfl dX10_wouldBe_184 ci_1 ?_
        refine ps_callVI (pc' := 188) (As := [.int (M 182 5), .int a5, .int a4, .int (nI 1)]) (rest := []) (cT := (RX10, TX10, 44)) 4 rfl dX10_wouldBe_185 cv_X10_endOf ml_X10_183 (by decide) rfl rfl (by decide) (Nat.le_of_ble_eq_true rfl) ob_182 rfl rfl (CA.monoI h ?_)
        intro r3 M3 h
        refine pw_goto (tgt := 193) dX10_wouldBe_188 (by decide) ?_
        exact ps_iret dX10_wouldBe_193 rfl h
  · have h := h.2 q0
    refine pw_aload_n (pc' := 129) 0 rfl dX10_wouldBe_128 rfl rfl ?_
    refine pw_aload_n (pc' := 130) 0 rfl dX10_wouldBe_129 rfl rfl ?_
    refine ps_getI (pc' := 133) (v := (M 182 5)) rfl dX10_wouldBe_130 fl_X10_190 ob_182 rfl rfl ?_
    refine pw_iload (pc' := 135) 2 rfl dX10_wouldBe_133 rfl ?_
    refine pw_iload (pc' := 137) 1 rfl dX10_wouldBe_135 rfl ?_
    refine pw_iconst (pc' := 138) rfl dX10_wouldBe_137 ci_1 ?_
    refine ps_callVI (pc' := 141) (As := [.int (M 182 5), .int a5, .int a4, .int (nI 1)]) (rest := []) (cT := (RX10, TX10, 44)) 4 rfl dX10_wouldBe_138 cv_X10_endOf ml_X10_183 (by decide) rfl rfl (by decide) (Nat.le_of_ble_eq_true rfl) ob_182 rfl rfl (CA.monoI h ?_)
    intro r1 M1 h
    refine pw_if_ge (pc' := 144) (tgt := 150) rfl dX10_wouldBe_141 (by decide) (fun q2 => ?_) (fun q2 => ?_)
    · have h := h.1 q2
      refine pw_aload_n (pc' := 151) 0 rfl dX10_wouldBe_150 rfl rfl ?_
      refine pw_iload (pc' := 153) 2 rfl dX10_wouldBe_151 rfl ?_
      refine pw_bipush (pc' := 155) rfl dX10_wouldBe_153 cb_24 ?_
      refine pw_icmp_ge (pc' := 158) (tgt := 163) rfl dX10_wouldBe_155 (by decide) (fun q3 => ?_) (fun q3 => ?_)
      · have h := h.1 q3
        refine pw_bipush (pc' := 165) rfl dX10_wouldBe_163 cb_m4 ?_
        refine ps_putI (pc' := 168) rfl dX10_wouldBe_165 fl_X10_218 ob_182 rfl ?_
        refine pw_iload (pc' := 170) 2 rfl dX10_wouldBe_168 rfl ?_
        refine pw_bipush (pc' := 172) rfl dX10_wouldBe_170 cb_24 ?_
        refine pw_icmp_ge (pc' := 175) (tgt := 191) rfl dX10_wouldBe_172 (by decide) (fun q4 => ?_) (fun q4 => ?_)
        · have h := h.1 q4
          refine pw_bipush (pc' := 193) rfl dX10_wouldBe_191 cb_m4 ?_
          exact ps_iret dX10_wouldBe_193 rfl h
        · have h := h.2 q4
          refine pw_aload_n (pc' := 176) 0 rfl dX10_wouldBe_175 rfl rfl ?_
          refine pw_aload_n (pc' := 177) 0 rfl dX10_wouldBe_176 rfl rfl ?_
          refine ps_getI (pc' := 180) (v := (M1 182 5)) rfl dX10_wouldBe_177 fl_X10_190 ob_182 rfl rfl ?_
          refine pw_iload (pc' := 182) 2 rfl dX10_wouldBe_180 rfl ?_
          refine pw_iload (pc' := 184) 1 rfl dX10_wouldBe_182 rfl ?_
          refine pw_iconst (pc' := 185) rfl dX10_wouldBe_184 ci_1 ?_
          refine ps_callVI (pc' := 188) (As := [.int (M1 182 5), .int a5, .int a4, .int (nI 1)]) (rest := []) (cT := (RX10, TX10, 44)) 4 rfl dX10_wouldBe_185 cv_X10_endOf ml_X10_183 (by decide) rfl rfl (by decide) (Nat.le_of_ble_eq_true rfl) ob_182 rfl rfl (CA.monoI h ?_)
          intro r5 M5 h
          refine pw_goto (tgt := 193) dX10_wouldBe_188 (by decide) ?_
          exact ps_iret dX10_wouldBe_193 rfl h
      · have h := h.2 q3
        refine pw_iload (pc' := 160) 2 rfl dX10_wouldBe_158 rfl ?_
        refine pw_goto (tgt := 165) dX10_wouldBe_160 (by decide) ?_
        refine ps_putI (pc' := 168) rfl dX10_wouldBe_165 fl_X10_218 ob_182 rfl ?_
        refine pw_iload (pc' := 170) 2 rfl dX10_wouldBe_168 rfl ?_
        refine pw_bipush (pc' := 172) rfl dX10_wouldBe_170 cb_24 ?_
        refine pw_icmp_ge (pc' := 175) (tgt := 191) rfl dX10_wouldBe_172 (by decide) (fun q4 => ?_) (fun q4 => ?_)
        · have h := h.1 q4
          refine pw_bipush (pc' := 193) rfl dX10_wouldBe_191 cb_m4 ?_
          exact ps_iret dX10_wouldBe_193 rfl h
        · have h := h.2 q4
          refine pw_aload_n (pc' := 176) 0 rfl dX10_wouldBe_175 rfl rfl ?_
          refine pw_aload_n (pc' := 177) 0 rfl dX10_wouldBe_176 rfl rfl ?_
          refine ps_getI (pc' := 180) (v := (M1 182 5)) rfl dX10_wouldBe_177 fl_X10_190 ob_182 rfl rfl ?_
          refine pw_iload (pc' := 182) 2 rfl dX10_wouldBe_180 rfl ?_
          refine pw_iload (pc' := 184) 1 rfl dX10_wouldBe_182 rfl ?_
          refine pw_iconst (pc' := 185) rfl dX10_wouldBe_184 ci_1 ?_
          refine ps_callVI (pc' := 188) (As := [.int (M1 182 5), .int a5, .int a4, .int (nI 1)]) (rest := []) (cT := (RX10, TX10, 44)) 4 rfl dX10_wouldBe_185 cv_X10_endOf ml_X10_183 (by decide) rfl rfl (by decide) (Nat.le_of_ble_eq_true rfl) ob_182 rfl rfl (CA.monoI h ?_)
          intro r5 M5 h
          refine pw_goto (tgt := 193) dX10_wouldBe_188 (by decide) ?_
          exact ps_iret dX10_wouldBe_193 rfl h
    · have h := h.2 q2
      refine pw_iinc (pc' := 147) (lv' := [(0, .ref 182), (4, .int a4), (5, .int (a5 + (nI 1)))]) 2 [1, 2, 0] rfl dX10_wouldBe_144 rfl (ii_1 _) (by decide) rfl ?_
      refine pw_goto (tgt := 121) dX10_wouldBe_147 (by decide) ?_
      exact pw_sub [0, 1, 2] rfl h
theorem T_X10_costOf {M : Mem} {a1 : Int32} {Q : Int32 → Mem → Prop}  (h : vp_in a1 5 ∧ (((0 ≤ (M 194 (ix a1))) → (vp_in (((nI 5) * a1) + (nI 4)) 25 ∧ (((0 ≤ ((M 194 (ix a1)) - (M 191 (ix (((nI 5) * a1) + (nI 4)))))) → (vp_in (((nI 5) * a1) + (nI 2)) 25 ∧ (Q (((M 194 (ix a1)) - (M 191 (ix (((nI 5) * a1) + (nI 4))))) * (M 191 (ix (((nI 5) * a1) + (nI 2))))) M))) ∧ ((¬ 0 ≤ ((M 194 (ix a1)) - (M 191 (ix (((nI 5) * a1) + (nI 4)))))) → (Q (nI 0) M))))) ∧ ((¬ 0 ≤ (M 194 (ix a1))) → (((0 ≤ (nI 24)) → (vp_in (((nI 5) * a1) + (nI 2)) 25 ∧ (Q ((nI 24) * (M 191 (ix (((nI 5) * a1) + (nI 2))))) M))) ∧ ((¬ 0 ≤ (nI 24)) → (Q (nI 0) M)))))) : C_X10_costOf M a1 Q := by
  refine CA_of rfl (Nat.le_of_ble_eq_true rfl) ?_
  show PS _ _ 0 [(0, .ref 182), (1, .int a1)] [] M _
  refine pw_aload_n (pc' := 1) 0 rfl dX10_costOf_0 rfl rfl ?_
  refine ps_getR (pc' := 4) (r := 194) rfl dX10_costOf_1 fl_X10_43 ob_182 rfl rfl ?_
  refine pw_iload_n (pc' := 5) 1 rfl dX10_costOf_4 rfl rfl ?_
  obtain ⟨b0, h⟩ := h
  refine ps_iald (pc' := 6) (v := (M 194 (ix a1))) rfl dX10_costOf_5 ia_194 b0 rfl ?_
  refine pw_if_ge (pc' := 9) (tgt := 14) rfl dX10_costOf_6 (by decide) (fun q1 => ?_) (fun q1 => ?_)
  · have h := h.1 q1
    refine pw_aload_n (pc' := 15) 0 rfl dX10_costOf_14 rfl rfl ?_
    refine ps_getR (pc' := 18) (r := 194) rfl dX10_costOf_15 fl_X10_43 ob_182 rfl rfl ?_
    refine pw_iload_n (pc' := 19) 1 rfl dX10_costOf_18 rfl rfl ?_
    refine ps_iald (pc' := 20) (v := (M 194 (ix a1))) rfl dX10_costOf_19 ia_194 b0 rfl ?_
    refine pw_aload_n (pc' := 21) 0 rfl dX10_costOf_20 rfl rfl ?_
    refine ps_getR (pc' := 24) (r := 191) rfl dX10_costOf_21 fl_X10_34 ob_182 rfl rfl ?_
    refine pw_iconst (pc' := 25) rfl dX10_costOf_24 ci_5 ?_
    refine pw_iload_n (pc' := 26) 1 rfl dX10_costOf_25 rfl rfl ?_
    refine pw_imul (pc' := 27) rfl dX10_costOf_26 ?_
    refine pw_iconst (pc' := 28) rfl dX10_costOf_27 ci_4 ?_
    refine pw_iadd (pc' := 29) rfl dX10_costOf_28 ?_
    obtain ⟨b3, h⟩ := h
    refine ps_iald (pc' := 30) (v := (M 191 (ix (((nI 5) * a1) + (nI 4))))) rfl dX10_costOf_29 ia_191 b3 rfl ?_
    refine pw_isub (pc' := 31) rfl dX10_costOf_30 ?_
    refine pw_istore_n (pc' := 32) (lv' := [(0, .ref 182), (1, .int a1), (2, .int ((M 194 (ix a1)) - (M 191 (ix (((nI 5) * a1) + (nI 4))))))]) [1, 2, 0] rfl dX10_costOf_31 rfl (by decide) rfl ?_
    refine pw_iload_n (pc' := 33) 2 rfl dX10_costOf_32 rfl rfl ?_
    refine pw_if_ge (pc' := 36) (tgt := 40) rfl dX10_costOf_33 (by decide) (fun q4 => ?_) (fun q4 => ?_)
    · have h := h.1 q4
      refine pw_iload_n (pc' := 41) 2 rfl dX10_costOf_40 rfl rfl ?_
      refine pw_aload_n (pc' := 42) 0 rfl dX10_costOf_41 rfl rfl ?_
      refine ps_getR (pc' := 45) (r := 191) rfl dX10_costOf_42 fl_X10_34 ob_182 rfl rfl ?_
      refine pw_iconst (pc' := 46) rfl dX10_costOf_45 ci_5 ?_
      refine pw_iload_n (pc' := 47) 1 rfl dX10_costOf_46 rfl rfl ?_
      refine pw_imul (pc' := 48) rfl dX10_costOf_47 ?_
      refine pw_iconst (pc' := 49) rfl dX10_costOf_48 ci_2 ?_
      refine pw_iadd (pc' := 50) rfl dX10_costOf_49 ?_
      obtain ⟨b5, h⟩ := h
      refine ps_iald (pc' := 51) (v := (M 191 (ix (((nI 5) * a1) + (nI 2))))) rfl dX10_costOf_50 ia_191 b5 rfl ?_
      refine pw_imul (pc' := 52) rfl dX10_costOf_51 ?_
      exact ps_iret dX10_costOf_52 rfl h
    · have h := h.2 q4
      refine pw_iconst (pc' := 37) rfl dX10_costOf_36 ci_0 ?_
      refine pw_goto (tgt := 52) dX10_costOf_37 (by decide) ?_
      exact ps_iret dX10_costOf_52 rfl h
  · have h := h.2 q1
    refine pw_bipush (pc' := 11) rfl dX10_costOf_9 cb_24 ?_
    refine pw_goto (tgt := 31) dX10_costOf_11 (by decide) ?_
    refine pw_istore_n (pc' := 32) (lv' := [(0, .ref 182), (1, .int a1), (2, .int (nI 24))]) [1, 2, 0] rfl dX10_costOf_31 rfl (by decide) rfl ?_
    refine pw_iload_n (pc' := 33) 2 rfl dX10_costOf_32 rfl rfl ?_
    refine pw_if_ge (pc' := 36) (tgt := 40) rfl dX10_costOf_33 (by decide) (fun q2 => ?_) (fun q2 => ?_)
    · have h := h.1 q2
      refine pw_iload_n (pc' := 41) 2 rfl dX10_costOf_40 rfl rfl ?_
      refine pw_aload_n (pc' := 42) 0 rfl dX10_costOf_41 rfl rfl ?_
      refine ps_getR (pc' := 45) (r := 191) rfl dX10_costOf_42 fl_X10_34 ob_182 rfl rfl ?_
      refine pw_iconst (pc' := 46) rfl dX10_costOf_45 ci_5 ?_
      refine pw_iload_n (pc' := 47) 1 rfl dX10_costOf_46 rfl rfl ?_
      refine pw_imul (pc' := 48) rfl dX10_costOf_47 ?_
      refine pw_iconst (pc' := 49) rfl dX10_costOf_48 ci_2 ?_
      refine pw_iadd (pc' := 50) rfl dX10_costOf_49 ?_
      obtain ⟨b3, h⟩ := h
      refine ps_iald (pc' := 51) (v := (M 191 (ix (((nI 5) * a1) + (nI 2))))) rfl dX10_costOf_50 ia_191 b3 rfl ?_
      refine pw_imul (pc' := 52) rfl dX10_costOf_51 ?_
      exact ps_iret dX10_costOf_52 rfl h
    · have h := h.2 q2
      refine pw_iconst (pc' := 37) rfl dX10_costOf_36 ci_0 ?_
      refine pw_goto (tgt := 52) dX10_costOf_37 (by decide) ?_
      exact ps_iret dX10_costOf_52 rfl h
theorem T_X10_keeps {M : Mem}  {Q : Mem → Prop}  (h : P_X10_keeps_2 M (nI 0) Q) : C_X10_keeps M  Q := by
  refine CA_of rfl (Nat.le_of_ble_eq_true rfl) ?_
  show PS _ _ 0 [(0, .ref 182)] [] M _
  refine pw_iconst (pc' := 1) rfl dX10_keeps_0 ci_0 ?_
  refine pw_istore_n (pc' := 2) (lv' := [(0, .ref 182), (1, .int (nI 0))]) [1, 0] rfl dX10_keeps_1 rfl (by decide) rfl ?_
  exact pw_sub [0, 1] rfl h
theorem T_X10_keeps_2 {M : Mem} {a1 : Int32} {Q : Mem → Prop}  (h : (((nI 5) ≤ a1) → (Q M)) ∧ ((¬ (nI 5) ≤ a1) → (vp_in a1 5 ∧ (P_X10_keeps_2 (wr (wr M 196 (ix a1) (M 198 (ix a1))) 197 (ix a1) (M 199 (ix a1))) (a1 + (nI 1)) Q)))) : P_X10_keeps_2 M a1 Q := by
  refine pw_iload_n (pc' := 3) 1 rfl dX10_keeps_2 rfl rfl ?_
  refine pw_iconst (pc' := 4) rfl dX10_keeps_3 ci_5 ?_
  refine pw_icmp_ge (pc' := 7) (tgt := 37) rfl dX10_keeps_4 (by decide) (fun q0 => ?_) (fun q0 => ?_)
  · have h := h.1 q0
    exact ps_vret dX10_keeps_37 rfl h
  · have h := h.2 q0
    refine pw_aload_n (pc' := 8) 0 rfl dX10_keeps_7 rfl rfl ?_
    refine ps_getR (pc' := 11) (r := 196) rfl dX10_keeps_8 fl_X10_49 ob_182 rfl rfl ?_
    refine pw_iload_n (pc' := 12) 1 rfl dX10_keeps_11 rfl rfl ?_
    refine pw_aload_n (pc' := 13) 0 rfl dX10_keeps_12 rfl rfl ?_
    refine ps_getR (pc' := 16) (r := 198) rfl dX10_keeps_13 fl_X10_55 ob_182 rfl rfl ?_
    refine pw_iload_n (pc' := 17) 1 rfl dX10_keeps_16 rfl rfl ?_
    obtain ⟨b1, h⟩ := h
    refine ps_iald (pc' := 18) (v := (M 198 (ix a1))) rfl dX10_keeps_17 ia_198 b1 rfl ?_
    refine ps_iast (pc' := 19) rfl dX10_keeps_18 ia_196 b1 ?_
    refine pw_aload_n (pc' := 20) 0 rfl dX10_keeps_19 rfl rfl ?_
    refine ps_getR (pc' := 23) (r := 197) rfl dX10_keeps_20 fl_X10_52 ob_182 rfl rfl ?_
    refine pw_iload_n (pc' := 24) 1 rfl dX10_keeps_23 rfl rfl ?_
    refine pw_aload_n (pc' := 25) 0 rfl dX10_keeps_24 rfl rfl ?_
    refine ps_getR (pc' := 28) (r := 199) rfl dX10_keeps_25 fl_X10_58 ob_182 rfl rfl ?_
    refine pw_iload_n (pc' := 29) 1 rfl dX10_keeps_28 rfl rfl ?_
    refine ps_iald (pc' := 30) (v := (M 199 (ix a1))) rfl dX10_keeps_29 ia_199 b1 rfl ?_
    refine ps_iast (pc' := 31) rfl dX10_keeps_30 ia_197 b1 ?_
    refine pw_iinc (pc' := 34) (lv' := [(0, .ref 182), (1, .int (a1 + (nI 1)))]) 1 [1, 0] rfl dX10_keeps_31 rfl (ii_1 _) (by decide) rfl ?_
    refine pw_goto (tgt := 2) dX10_keeps_34 (by decide) ?_
    exact pw_sub [0, 1] rfl h
theorem T_X10_cost {M : Mem} {a1 : Int32} {Q : Int32 → Mem → Prop}  (h : C_X10_in M (a1.toInt64) (0 : Int64) (1 : Int64) (fun r0 M0 => ((¬ r0 = 0) → (C_X10_well M0 (fun r2 M2 => ((¬ r2 = 0) → (((¬ a1 = 0) → (C_X10_ruled M2 (fun r5 M5 => Q r5 M5))) ∧ ((a1 = 0) → (C_X10_well M2 (fun r5 M5 => C_X10_best M5 r5 (fun r6 M6 => Q r6 M6)))))) ∧ ((r2 = 0) → (Q (-2) M2))))) ∧ ((r0 = 0) → (Q (-1) M0)))) : C_X10_cost M a1 Q := by
  refine CA_of rfl (Nat.le_of_ble_eq_true rfl) ?_
  show PS _ _ 0 [(0, .ref 182), (1, .int a1)] [] M _
  refine pw_iload_n (pc' := 1) 1 rfl dX10_cost_0 rfl rfl ?_
  refine pw_i2l (pc' := 2) rfl dX10_cost_1 rfl ?_
  refine pw_lconst (pc' := 3) rfl dX10_cost_2 rfl ?_
  refine pw_lconst (pc' := 4) rfl dX10_cost_3 rfl ?_
  refine ps_callSI (pc' := 7) (As := [.long (a1.toInt64), .long (0 : Int64), .long (1 : Int64)]) (rest := []) 3 rfl dX10_cost_4 cs_X10_in ml_X10_98 (by decide) rfl rfl (by decide) (Nat.le_of_ble_eq_true rfl) (CA.monoI h ?_)
  intro r0 M0 h
  refine pw_if_ne (pc' := 10) (tgt := 12) rfl dX10_cost_7 (by decide) (fun q1 => ?_) (fun q1 => ?_)
  · have h := h.1 q1
    refine pw_aload_n (pc' := 13) 0 rfl dX10_cost_12 rfl rfl ?_
    refine ps_callVI (pc' := 16) (As := []) (rest := []) (cT := (RX10, TX10, 44)) 0 rfl dX10_cost_13 cv_X10_well ml_X10_245 (by decide) rfl rfl (by decide) (Nat.le_of_ble_eq_true rfl) ob_182 rfl rfl (CA.monoI h ?_)
    intro r2 M2 h
    refine pw_if_ne (pc' := 19) (tgt := 22) rfl dX10_cost_16 (by decide) (fun q3 => ?_) (fun q3 => ?_)
    · have h := h.1 q3
      refine pw_iload_n (pc' := 23) 1 rfl dX10_cost_22 rfl rfl ?_
      refine pw_if_ne (pc' := 26) (tgt := 37) rfl dX10_cost_23 (by decide) (fun q4 => ?_) (fun q4 => ?_)
      · have h := h.1 q4
        refine pw_aload_n (pc' := 38) 0 rfl dX10_cost_37 rfl rfl ?_
        refine ps_callVI (pc' := 41) (As := []) (rest := []) (cT := (RX10, TX10, 44)) 0 rfl dX10_cost_38 cv_X10_ruled ml_X10_256 (by decide) rfl rfl (by decide) (Nat.le_of_ble_eq_true rfl) ob_182 rfl rfl (CA.monoI h ?_)
        intro r5 M5 h
        exact ps_iret dX10_cost_41 rfl h
      · have h := h.2 q4
        refine pw_aload_n (pc' := 27) 0 rfl dX10_cost_26 rfl rfl ?_
        refine pw_aload_n (pc' := 28) 0 rfl dX10_cost_27 rfl rfl ?_
        refine ps_callVI (pc' := 31) (As := []) (rest := [.ref 182]) (cT := (RX10, TX10, 44)) 0 rfl dX10_cost_28 cv_X10_well ml_X10_245 (by decide) rfl rfl (by decide) (Nat.le_of_ble_eq_true rfl) ob_182 rfl rfl (CA.monoI h ?_)
        intro r5 M5 h
        refine ps_callVI (pc' := 34) (As := [.int r5]) (rest := []) (cT := (RX10, TX10, 44)) 1 rfl dX10_cost_31 cv_X10_best ml_X10_248 (by decide) rfl rfl (by decide) (Nat.le_of_ble_eq_true rfl) ob_182 rfl rfl (CA.monoI h ?_)
        intro r6 M6 h
        refine pw_goto (tgt := 41) dX10_cost_34 (by decide) ?_
        exact ps_iret dX10_cost_41 rfl h
    · have h := h.2 q3
      refine pw_bipush (pc' := 21) rfl dX10_cost_19 cb_m2 ?_
      exact ps_iret dX10_cost_21 rfl h
  · have h := h.2 q1
    refine pw_iconst (pc' := 11) rfl dX10_cost_10 ci_m1 ?_
    exact ps_iret dX10_cost_11 rfl h
theorem T_X10_ruled {M : Mem}  {Q : Int32 → Mem → Prop}  (h : C_X10_lays M (fun M0 => C_X10_wakes M0 (fun M1 => P_X10_ruled_14 M1 (nI 0) (nI 0) (nI 0) Q))) : C_X10_ruled M  Q := by
  refine CA_of rfl (Nat.le_of_ble_eq_true rfl) ?_
  show PS _ _ 0 [(0, .ref 182)] [] M _
  refine pw_aload_n (pc' := 1) 0 rfl dX10_ruled_0 rfl rfl ?_
  refine ps_callVV (pc' := 4) (As := []) (rest := []) (cT := (RX10, TX10, 44)) 0 rfl dX10_ruled_1 cv_X10_lays ml_X10_180 (by decide) rfl rfl (by decide) (Nat.le_of_ble_eq_true rfl) ob_182 rfl rfl (CA.monoV h ?_)
  intro M0 h
  refine pw_aload_n (pc' := 5) 0 rfl dX10_ruled_4 rfl rfl ?_
  refine ps_callVV (pc' := 8) (As := []) (rest := []) (cT := (RX10, TX10, 44)) 0 rfl dX10_ruled_5 cv_X10_wakes ml_X10_224 (by decide) rfl rfl (by decide) (Nat.le_of_ble_eq_true rfl) ob_182 rfl rfl (CA.monoV h ?_)
  intro M1 h
  refine pw_iconst (pc' := 9) rfl dX10_ruled_8 ci_0 ?_
  refine pw_istore_n (pc' := 10) (lv' := [(0, .ref 182), (1, .int (nI 0))]) [1, 0] rfl dX10_ruled_9 rfl (by decide) rfl ?_
  refine pw_iconst (pc' := 11) rfl dX10_ruled_10 ci_0 ?_
  refine pw_istore_n (pc' := 12) (lv' := [(0, .ref 182), (1, .int (nI 0)), (2, .int (nI 0))]) [1, 2, 0] rfl dX10_ruled_11 rfl (by decide) rfl ?_
  refine pw_iconst (pc' := 13) rfl dX10_ruled_12 ci_0 ?_
  refine pw_istore_n (pc' := 14) (lv' := [(0, .ref 182), (1, .int (nI 0)), (2, .int (nI 0)), (3, .int (nI 0))]) [1, 2, 3, 0] rfl dX10_ruled_13 rfl (by decide) rfl ?_
  exact pw_sub [0, 1, 2, 3] rfl h
theorem T_X10_ruled_14 {M : Mem} {a1 : Int32} {a2 : Int32} {a3 : Int32} {Q : Int32 → Mem → Prop}  (h : (((M 182 17) ≤ a3) → (Q a2 M)) ∧ ((¬ (M 182 17) ≤ a3) → (P_X10_ruled_34 M a1 a2 a3 (-4) ((M 182 17) - (nI 1)) Q))) : P_X10_ruled_14 M a1 a2 a3 Q := by
  refine pw_iload_n (pc' := 15) 3 rfl dX10_ruled_14 rfl rfl ?_
  refine pw_aload_n (pc' := 16) 0 rfl dX10_ruled_15 rfl rfl ?_
  refine ps_getI (pc' := 19) (v := (M 182 17)) rfl dX10_ruled_16 fl_X10_195 ob_182 rfl rfl ?_
  refine pw_icmp_ge (pc' := 22) (tgt := 302) rfl dX10_ruled_19 (by decide) (fun q0 => ?_) (fun q0 => ?_)
  · have h := h.1 q0
    refine pw_iload_n (pc' := 303) 2 rfl dX10_ruled_302 rfl rfl ?_
    exact ps_iret dX10_ruled_303 rfl h
  · have h := h.2 q0
    refine pw_bipush (pc' := 24) rfl dX10_ruled_22 cb_m4 ?_
    refine pw_istore (pc' := 26) (lv' := [(0, .ref 182), (1, .int a1), (2, .int a2), (3, .int a3), (4, .int (-4))]) [1, 2, 3, 4, 0] rfl dX10_ruled_24 (by decide) rfl ?_
    refine pw_aload_n (pc' := 27) 0 rfl dX10_ruled_26 rfl rfl ?_
    refine ps_getI (pc' := 30) (v := (M 182 17)) rfl dX10_ruled_27 fl_X10_195 ob_182 rfl rfl ?_
    refine pw_iconst (pc' := 31) rfl dX10_ruled_30 ci_1 ?_
    refine pw_isub (pc' := 32) rfl dX10_ruled_31 ?_
    refine pw_istore (pc' := 34) (lv' := [(0, .ref 182), (1, .int a1), (2, .int a2), (3, .int a3), (4, .int (-4)), (5, .int ((M 182 17) - (nI 1)))]) [1, 2, 3, 4, 5, 0] rfl dX10_ruled_32 (by decide) rfl ?_
    exact pw_sub [0, 1, 2, 3, 4, 5] rfl h
theorem T_X10_ruled_34 {M : Mem} {a1 : Int32} {a2 : Int32} {a3 : Int32} {a4 : Int32} {a5 : Int32} {Q : Int32 → Mem → Prop}  (h : ((a5 < 0) → (P_X10_ruled_174 M (a1 ||| ((nI 1) <<< (a4 &&& 31))) a2 a3 a4 (-4) (nI 1000) (nI 0) Q)) ∧ ((¬ a5 < 0) → (((a4 < 0) → (P_X10_ruled_124 M a1 a2 a3 a4 a5 (nI 1) Q)) ∧ ((¬ a4 < 0) → (vp_in (((nI 5) * a5) + (nI 3)) 25 ∧ (vp_in (((nI 5) * a4) + (nI 3)) 25 ∧ ((((M 191 (ix (((nI 5) * a5) + (nI 3)))) < (M 191 (ix (((nI 5) * a4) + (nI 3))))) → (P_X10_ruled_124 M a1 a2 a3 a4 a5 (nI 1) Q)) ∧ ((¬ (M 191 (ix (((nI 5) * a5) + (nI 3)))) < (M 191 (ix (((nI 5) * a4) + (nI 3))))) → (((¬ (M 191 (ix (((nI 5) * a5) + (nI 3)))) = (M 191 (ix (((nI 5) * a4) + (nI 3))))) → (P_X10_ruled_124 M a1 a2 a3 a4 a5 (nI 0) Q)) ∧ (((M 191 (ix (((nI 5) * a5) + (nI 3)))) = (M 191 (ix (((nI 5) * a4) + (nI 3))))) → (vp_in (((nI 5) * a5) + (nI 2)) 25 ∧ (vp_in (((nI 5) * a4) + (nI 2)) 25 ∧ ((((M 191 (ix (((nI 5) * a5) + (nI 2)))) < (M 191 (ix (((nI 5) * a4) + (nI 2))))) → (P_X10_ruled_124 M a1 a2 a3 a4 a5 (nI 0) Q)) ∧ ((¬ (M 191 (ix (((nI 5) * a5) + (nI 2)))) < (M 191 (ix (((nI 5) * a4) + (nI 2))))) → (P_X10_ruled_124 M a1 a2 a3 a4 a5 (nI 1) Q))))))))))))))) : P_X10_ruled_34 M a1 a2 a3 a4 a5 Q := by
  refine pw_iload (pc' := 36) 5 rfl dX10_ruled_34 rfl ?_
  refine pw_if_lt (pc' := 39) (tgt := 155) rfl dX10_ruled_36 (by decide) (fun q0 => ?_) (fun q0 => ?_)
  · have h := h.1 q0
    refine pw_iload_n (pc' := 156) 1 rfl dX10_ruled_155 rfl rfl ?_
    refine pw_iconst (pc' := 157) rfl dX10_ruled_156 ci_1 ?_
    refine pw_iload (pc' := 159) 4 rfl dX10_ruled_157 rfl ?_
    refine pw_ishl (pc' := 160) rfl dX10_ruled_159 ?_
    refine pw_ior (pc' := 161) rfl dX10_ruled_160 ?_
    refine pw_istore_n (pc' := 162) (lv' := [(0, .ref 182), (1, .int (a1 ||| ((nI 1) <<< (a4 &&& 31)))), (2, .int a2), (3, .int a3), (4, .int a4), (5, .int a5)]) [1, 0, 2, 3, 4, 5] rfl dX10_ruled_161 rfl (by decide) rfl ?_
    refine pw_bipush (pc' := 164) rfl dX10_ruled_162 cb_m4 ?_
    refine pw_istore (pc' := 166) (lv' := [(0, .ref 182), (1, .int (a1 ||| ((nI 1) <<< (a4 &&& 31)))), (2, .int a2), (3, .int a3), (4, .int a4), (5, .int (-4))]) [1, 2, 3, 4, 5, 0] rfl dX10_ruled_164 (by decide) rfl ?_
    refine pw_sipush (pc' := 169) rfl dX10_ruled_166 cs_1000 ?_
    refine pw_istore (pc' := 171) (lv' := [(0, .ref 182), (1, .int (a1 ||| ((nI 1) <<< (a4 &&& 31)))), (2, .int a2), (3, .int a3), (4, .int a4), (5, .int (-4)), (6, .int (nI 1000))]) [1, 2, 3, 4, 5, 6, 0] rfl dX10_ruled_169 (by decide) rfl ?_
    refine pw_iconst (pc' := 172) rfl dX10_ruled_171 ci_0 ?_
    refine pw_istore (pc' := 174) (lv' := [(0, .ref 182), (1, .int (a1 ||| ((nI 1) <<< (a4 &&& 31)))), (2, .int a2), (3, .int a3), (4, .int a4), (5, .int (-4)), (6, .int (nI 1000)), (7, .int (nI 0))]) [1, 2, 3, 4, 5, 6, 7, 0] rfl dX10_ruled_172 (by decide) rfl ?_
    exact pw_sub [0, 1, 2, 3, 4, 5, 6, 7] rfl h
  · have h := h.2 q0
    refine pw_iload (pc' := 41) 4 rfl dX10_ruled_39 rfl ?_
    refine pw_if_lt (pc' := 44) (tgt := 119) rfl dX10_ruled_41 (by decide) (fun q1 => ?_) (fun q1 => ?_)
    · have h := h.1 q1
      refine pw_iconst (pc' := 120) rfl dX10_ruled_119 ci_1 ?_
      refine pw_goto (tgt := 124) dX10_ruled_120 (by decide) ?_
      exact pw_sub [0, 1, 2, 3, 4, 5] rfl h
    · have h := h.2 q1
      refine pw_aload_n (pc' := 45) 0 rfl dX10_ruled_44 rfl rfl ?_
      refine ps_getR (pc' := 48) (r := 191) rfl dX10_ruled_45 fl_X10_34 ob_182 rfl rfl ?_
      refine pw_iconst (pc' := 49) rfl dX10_ruled_48 ci_5 ?_
      refine pw_iload (pc' := 51) 5 rfl dX10_ruled_49 rfl ?_
      refine pw_imul (pc' := 52) rfl dX10_ruled_51 ?_
      refine pw_iconst (pc' := 53) rfl dX10_ruled_52 ci_3 ?_
      refine pw_iadd (pc' := 54) rfl dX10_ruled_53 ?_
      obtain ⟨b2, h⟩ := h
      refine ps_iald (pc' := 55) (v := (M 191 (ix (((nI 5) * a5) + (nI 3))))) rfl dX10_ruled_54 ia_191 b2 rfl ?_
      refine pw_aload_n (pc' := 56) 0 rfl dX10_ruled_55 rfl rfl ?_
      refine ps_getR (pc' := 59) (r := 191) rfl dX10_ruled_56 fl_X10_34 ob_182 rfl rfl ?_
      refine pw_iconst (pc' := 60) rfl dX10_ruled_59 ci_5 ?_
      refine pw_iload (pc' := 62) 4 rfl dX10_ruled_60 rfl ?_
      refine pw_imul (pc' := 63) rfl dX10_ruled_62 ?_
      refine pw_iconst (pc' := 64) rfl dX10_ruled_63 ci_3 ?_
      refine pw_iadd (pc' := 65) rfl dX10_ruled_64 ?_
      obtain ⟨b3, h⟩ := h
      refine ps_iald (pc' := 66) (v := (M 191 (ix (((nI 5) * a4) + (nI 3))))) rfl dX10_ruled_65 ia_191 b3 rfl ?_
      refine pw_icmp_lt (pc' := 69) (tgt := 119) rfl dX10_ruled_66 (by decide) (fun q4 => ?_) (fun q4 => ?_)
      · have h := h.1 q4
        refine pw_iconst (pc' := 120) rfl dX10_ruled_119 ci_1 ?_
        refine pw_goto (tgt := 124) dX10_ruled_120 (by decide) ?_
        exact pw_sub [0, 1, 2, 3, 4, 5] rfl h
      · have h := h.2 q4
        refine pw_aload_n (pc' := 70) 0 rfl dX10_ruled_69 rfl rfl ?_
        refine ps_getR (pc' := 73) (r := 191) rfl dX10_ruled_70 fl_X10_34 ob_182 rfl rfl ?_
        refine pw_iconst (pc' := 74) rfl dX10_ruled_73 ci_5 ?_
        refine pw_iload (pc' := 76) 5 rfl dX10_ruled_74 rfl ?_
        refine pw_imul (pc' := 77) rfl dX10_ruled_76 ?_
        refine pw_iconst (pc' := 78) rfl dX10_ruled_77 ci_3 ?_
        refine pw_iadd (pc' := 79) rfl dX10_ruled_78 ?_
        refine ps_iald (pc' := 80) (v := (M 191 (ix (((nI 5) * a5) + (nI 3))))) rfl dX10_ruled_79 ia_191 b2 rfl ?_
        refine pw_aload_n (pc' := 81) 0 rfl dX10_ruled_80 rfl rfl ?_
        refine ps_getR (pc' := 84) (r := 191) rfl dX10_ruled_81 fl_X10_34 ob_182 rfl rfl ?_
        refine pw_iconst (pc' := 85) rfl dX10_ruled_84 ci_5 ?_
        refine pw_iload (pc' := 87) 4 rfl dX10_ruled_85 rfl ?_
        refine pw_imul (pc' := 88) rfl dX10_ruled_87 ?_
        refine pw_iconst (pc' := 89) rfl dX10_ruled_88 ci_3 ?_
        refine pw_iadd (pc' := 90) rfl dX10_ruled_89 ?_
        refine ps_iald (pc' := 91) (v := (M 191 (ix (((nI 5) * a4) + (nI 3))))) rfl dX10_ruled_90 ia_191 b3 rfl ?_
        refine pw_icmp_ne (pc' := 94) (tgt := 123) rfl dX10_ruled_91 (by decide) (fun q7 => ?_) (fun q7 => ?_)
        · have h := h.1 q7
          refine pw_iconst (pc' := 124) rfl dX10_ruled_123 ci_0 ?_
          exact pw_sub [0, 1, 2, 3, 4, 5] rfl h
        · have h := h.2 q7
          refine pw_aload_n (pc' := 95) 0 rfl dX10_ruled_94 rfl rfl ?_
          refine ps_getR (pc' := 98) (r := 191) rfl dX10_ruled_95 fl_X10_34 ob_182 rfl rfl ?_
          refine pw_iconst (pc' := 99) rfl dX10_ruled_98 ci_5 ?_
          refine pw_iload (pc' := 101) 5 rfl dX10_ruled_99 rfl ?_
          refine pw_imul (pc' := 102) rfl dX10_ruled_101 ?_
          refine pw_iconst (pc' := 103) rfl dX10_ruled_102 ci_2 ?_
          refine pw_iadd (pc' := 104) rfl dX10_ruled_103 ?_
          obtain ⟨b8, h⟩ := h
          refine ps_iald (pc' := 105) (v := (M 191 (ix (((nI 5) * a5) + (nI 2))))) rfl dX10_ruled_104 ia_191 b8 rfl ?_
          refine pw_aload_n (pc' := 106) 0 rfl dX10_ruled_105 rfl rfl ?_
          refine ps_getR (pc' := 109) (r := 191) rfl dX10_ruled_106 fl_X10_34 ob_182 rfl rfl ?_
          refine pw_iconst (pc' := 110) rfl dX10_ruled_109 ci_5 ?_
          refine pw_iload (pc' := 112) 4 rfl dX10_ruled_110 rfl ?_
          refine pw_imul (pc' := 113) rfl dX10_ruled_112 ?_
          refine pw_iconst (pc' := 114) rfl dX10_ruled_113 ci_2 ?_
          refine pw_iadd (pc' := 115) rfl dX10_ruled_114 ?_
          obtain ⟨b9, h⟩ := h
          refine ps_iald (pc' := 116) (v := (M 191 (ix (((nI 5) * a4) + (nI 2))))) rfl dX10_ruled_115 ia_191 b9 rfl ?_
          refine pw_icmp_lt (pc' := 119) (tgt := 123) rfl dX10_ruled_116 (by decide) (fun q10 => ?_) (fun q10 => ?_)
          · have h := h.1 q10
            refine pw_iconst (pc' := 124) rfl dX10_ruled_123 ci_0 ?_
            exact pw_sub [0, 1, 2, 3, 4, 5] rfl h
          · have h := h.2 q10
            refine pw_iconst (pc' := 120) rfl dX10_ruled_119 ci_1 ?_
            refine pw_goto (tgt := 124) dX10_ruled_120 (by decide) ?_
            exact pw_sub [0, 1, 2, 3, 4, 5] rfl h
theorem T_X10_ruled_124 {M : Mem} {a1 : Int32} {a2 : Int32} {a3 : Int32} {a4 : Int32} {a5 : Int32} {s0 : Int32} {Q : Int32 → Mem → Prop}  (h : ((¬ ((a1 >>> (a5 &&& 31)) &&& (nI 1)) = 0) → (P_X10_ruled_34 M a1 a2 a3 a4 (a5 + (-1)) Q)) ∧ ((((a1 >>> (a5 &&& 31)) &&& (nI 1)) = 0) → (((s0 = 0) → (P_X10_ruled_34 M a1 a2 a3 a4 (a5 + (-1)) Q)) ∧ ((¬ s0 = 0) → (P_X10_ruled_34 M a1 a2 a3 a5 (a5 + (-1)) Q))))) : P_X10_ruled_124 M a1 a2 a3 a4 a5 s0 Q := by
  refine pw_istore (pc' := 126) (lv' := [(0, .ref 182), (1, .int a1), (2, .int a2), (3, .int a3), (4, .int a4), (5, .int a5), (6, .int s0)]) [1, 2, 3, 4, 5, 6, 0] rfl dX10_ruled_124 (by decide) rfl ?_
  refine pw_iload_n (pc' := 127) 1 rfl dX10_ruled_126 rfl rfl ?_
  refine pw_iload (pc' := 129) 5 rfl dX10_ruled_127 rfl ?_
  refine pw_ishr (pc' := 130) rfl dX10_ruled_129 ?_
  refine pw_iconst (pc' := 131) rfl dX10_ruled_130 ci_1 ?_
  refine pw_iand (pc' := 132) rfl dX10_ruled_131 ?_
  refine pw_if_ne (pc' := 135) (tgt := 145) rfl dX10_ruled_132 (by decide) (fun q0 => ?_) (fun q0 => ?_)
  · have h := h.1 q0
    refine pw_iload (pc' := 147) 4 rfl dX10_ruled_145 rfl ?_
    refine pw_istore (pc' := 149) (lv' := [(0, .ref 182), (1, .int a1), (2, .int a2), (3, .int a3), (4, .int a4), (5, .int a5), (6, .int s0)]) [1, 2, 3, 4, 0, 5, 6] rfl dX10_ruled_147 (by decide) rfl ?_
    refine pw_iinc (pc' := 152) (lv' := [(0, .ref 182), (1, .int a1), (2, .int a2), (3, .int a3), (4, .int a4), (5, .int (a5 + (-1))), (6, .int s0)]) 5 [1, 2, 3, 4, 5, 0, 6] rfl dX10_ruled_149 rfl (ii_m1 _) (by decide) rfl ?_
    refine pw_goto (tgt := 34) dX10_ruled_152 (by decide) ?_
    exact pw_sub [0, 1, 2, 3, 4, 5] rfl h
  · have h := h.2 q0
    refine pw_iload (pc' := 137) 6 rfl dX10_ruled_135 rfl ?_
    refine pw_if_eq (pc' := 140) (tgt := 145) rfl dX10_ruled_137 (by decide) (fun q1 => ?_) (fun q1 => ?_)
    · have h := h.1 q1
      refine pw_iload (pc' := 147) 4 rfl dX10_ruled_145 rfl ?_
      refine pw_istore (pc' := 149) (lv' := [(0, .ref 182), (1, .int a1), (2, .int a2), (3, .int a3), (4, .int a4), (5, .int a5), (6, .int s0)]) [1, 2, 3, 4, 0, 5, 6] rfl dX10_ruled_147 (by decide) rfl ?_
      refine pw_iinc (pc' := 152) (lv' := [(0, .ref 182), (1, .int a1), (2, .int a2), (3, .int a3), (4, .int a4), (5, .int (a5 + (-1))), (6, .int s0)]) 5 [1, 2, 3, 4, 5, 0, 6] rfl dX10_ruled_149 rfl (ii_m1 _) (by decide) rfl ?_
      refine pw_goto (tgt := 34) dX10_ruled_152 (by decide) ?_
      exact pw_sub [0, 1, 2, 3, 4, 5] rfl h
    · have h := h.2 q1
      refine pw_iload (pc' := 142) 5 rfl dX10_ruled_140 rfl ?_
      refine pw_goto (tgt := 147) dX10_ruled_142 (by decide) ?_
      refine pw_istore (pc' := 149) (lv' := [(0, .ref 182), (1, .int a1), (2, .int a2), (3, .int a3), (4, .int a5), (5, .int a5), (6, .int s0)]) [1, 2, 3, 4, 0, 5, 6] rfl dX10_ruled_147 (by decide) rfl ?_
      refine pw_iinc (pc' := 152) (lv' := [(0, .ref 182), (1, .int a1), (2, .int a2), (3, .int a3), (4, .int a5), (5, .int (a5 + (-1))), (6, .int s0)]) 5 [1, 2, 3, 4, 5, 0, 6] rfl dX10_ruled_149 rfl (ii_m1 _) (by decide) rfl ?_
      refine pw_goto (tgt := 34) dX10_ruled_152 (by decide) ?_
      exact pw_sub [0, 1, 2, 3, 4, 5] rfl h
theorem T_X10_ruled_174 {M : Mem} {a1 : Int32} {a2 : Int32} {a3 : Int32} {a4 : Int32} {a5 : Int32} {a6 : Int32} {a7 : Int32} {Q : Int32 → Mem → Prop}  (h : (((M 182 14) ≤ a7) → (vp_in a3 5 ∧ (vp_in a4 5 ∧ (C_X10_doIt (wr (wr M 199 (ix a3) a4) 198 (ix a4) a5) a5 a4 (fun M3 => C_X10_costOf M3 a4 (fun r4 M4 => P_X10_ruled_14 M4 a1 (a2 + r4) (a3 + (nI 1)) Q)))))) ∧ ((¬ (M 182 14) ≤ a7) → (vp_in a7 3 ∧ (((¬ (M 190 (ix a7)) = (nI 1)) → (C_X10_wouldBe M a7 a4 (fun r3 M3 => ((0 ≤ r3) → (P_X10_ruled_222 M3 a1 a2 a3 a4 a5 a6 a7 r3 Q)) ∧ ((¬ 0 ≤ r3) → (P_X10_ruled_222 M3 a1 a2 a3 a4 a5 a6 a7 (nI 100) Q))))) ∧ (((M 190 (ix a7)) = (nI 1)) → (((0 ≤ (nI 1000)) → (P_X10_ruled_222 M a1 a2 a3 a4 a5 a6 a7 (nI 1000) Q)) ∧ ((¬ 0 ≤ (nI 1000)) → (P_X10_ruled_222 M a1 a2 a3 a4 a5 a6 a7 (nI 100) Q)))))))) : P_X10_ruled_174 M a1 a2 a3 a4 a5 a6 a7 Q := by
  refine pw_iload (pc' := 176) 7 rfl dX10_ruled_174 rfl ?_
  refine pw_aload_n (pc' := 177) 0 rfl dX10_ruled_176 rfl rfl ?_
  refine ps_getI (pc' := 180) (v := (M 182 14)) rfl dX10_ruled_177 fl_X10_187 ob_182 rfl rfl ?_
  refine pw_icmp_ge (pc' := 183) (tgt := 262) rfl dX10_ruled_180 (by decide) (fun q0 => ?_) (fun q0 => ?_)
  · have h := h.1 q0
    refine pw_aload_n (pc' := 263) 0 rfl dX10_ruled_262 rfl rfl ?_
    refine ps_getR (pc' := 266) (r := 199) rfl dX10_ruled_263 fl_X10_58 ob_182 rfl rfl ?_
    refine pw_iload_n (pc' := 267) 3 rfl dX10_ruled_266 rfl rfl ?_
    refine pw_iload (pc' := 269) 4 rfl dX10_ruled_267 rfl ?_
    obtain ⟨b1, h⟩ := h
    refine ps_iast (pc' := 270) rfl dX10_ruled_269 ia_199 b1 ?_
    refine pw_aload_n (pc' := 271) 0 rfl dX10_ruled_270 rfl rfl ?_
    refine ps_getR (pc' := 274) (r := 198) rfl dX10_ruled_271 fl_X10_55 ob_182 rfl rfl ?_
    refine pw_iload (pc' := 276) 4 rfl dX10_ruled_274 rfl ?_
    refine pw_iload (pc' := 278) 5 rfl dX10_ruled_276 rfl ?_
    obtain ⟨b2, h⟩ := h
    refine ps_iast (pc' := 279) rfl dX10_ruled_278 ia_198 b2 ?_
    refine pw_aload_n (pc' := 280) 0 rfl dX10_ruled_279 rfl rfl ?_
    refine pw_iload (pc' := 282) 5 rfl dX10_ruled_280 rfl ?_
    refine pw_iload (pc' := 284) 4 rfl dX10_ruled_282 rfl ?_
    refine ps_callVV (pc' := 287) (As := [.int a5, .int a4]) (rest := []) (cT := (RX10, TX10, 44)) 2 rfl dX10_ruled_284 cv_X10_doIt ml_X10_227 (by decide) rfl rfl (by decide) (Nat.le_of_ble_eq_true rfl) ob_182 rfl rfl (CA.monoV h ?_)
    intro M3 h
    refine pw_iload_n (pc' := 288) 2 rfl dX10_ruled_287 rfl rfl ?_
    refine pw_aload_n (pc' := 289) 0 rfl dX10_ruled_288 rfl rfl ?_
    refine pw_iload (pc' := 291) 4 rfl dX10_ruled_289 rfl ?_
    refine ps_callVI (pc' := 294) (As := [.int a4]) (rest := [.int a2]) (cT := (RX10, TX10, 44)) 1 rfl dX10_ruled_291 cv_X10_costOf ml_X10_231 (by decide) rfl rfl (by decide) (Nat.le_of_ble_eq_true rfl) ob_182 rfl rfl (CA.monoI h ?_)
    intro r4 M4 h
    refine pw_iadd (pc' := 295) rfl dX10_ruled_294 ?_
    refine pw_istore_n (pc' := 296) (lv' := [(0, .ref 182), (1, .int a1), (2, .int (a2 + r4)), (3, .int a3), (4, .int a4), (5, .int a5), (6, .int a6), (7, .int a7)]) [1, 2, 0, 3, 4, 5, 6, 7] rfl dX10_ruled_295 rfl (by decide) rfl ?_
    refine pw_iinc (pc' := 299) (lv' := [(0, .ref 182), (1, .int a1), (2, .int (a2 + r4)), (3, .int (a3 + (nI 1))), (4, .int a4), (5, .int a5), (6, .int a6), (7, .int a7)]) 3 [1, 2, 3, 0, 4, 5, 6, 7] rfl dX10_ruled_296 rfl (ii_1 _) (by decide) rfl ?_
    refine pw_goto (tgt := 14) dX10_ruled_299 (by decide) ?_
    exact pw_sub [0, 1, 2, 3] rfl h
  · have h := h.2 q0
    refine pw_aload_n (pc' := 184) 0 rfl dX10_ruled_183 rfl rfl ?_
    refine ps_getR (pc' := 187) (r := 190) rfl dX10_ruled_184 fl_X10_31 ob_182 rfl rfl ?_
    refine pw_iload (pc' := 189) 7 rfl dX10_ruled_187 rfl ?_
    obtain ⟨b1, h⟩ := h
    refine ps_iald (pc' := 190) (v := (M 190 (ix a7))) rfl dX10_ruled_189 ia_190 b1 rfl ?_
    refine pw_iconst (pc' := 191) rfl dX10_ruled_190 ci_1 ?_
    refine pw_icmp_ne (pc' := 194) (tgt := 200) rfl dX10_ruled_191 (by decide) (fun q2 => ?_) (fun q2 => ?_)
    · have h := h.1 q2
      refine pw_aload_n (pc' := 201) 0 rfl dX10_ruled_200 rfl rfl ?_
      refine pw_iload (pc' := 203) 7 rfl dX10_ruled_201 rfl ?_
      refine pw_iload (pc' := 205) 4 rfl dX10_ruled_203 rfl ?_
      refine ps_callVI (pc' := 208) (As := [.int a7, .int a4]) (rest := []) (cT := (RX10, TX10, 44)) 2 rfl dX10_ruled_205 cv_X10_wouldBe ml_X10_221 (by decide) rfl rfl (by decide) (Nat.le_of_ble_eq_true rfl) ob_182 rfl rfl (CA.monoI h ?_)
      intro r3 M3 h
      refine pw_istore (pc' := 210) (lv' := [(0, .ref 182), (1, .int a1), (2, .int a2), (3, .int a3), (4, .int a4), (5, .int a5), (6, .int a6), (7, .int a7), (8, .int r3)]) [1, 2, 3, 4, 5, 6, 7, 8, 0] rfl dX10_ruled_208 (by decide) rfl ?_
      refine pw_iload (pc' := 212) 8 rfl dX10_ruled_210 rfl ?_
      refine pw_if_ge (pc' := 215) (tgt := 220) rfl dX10_ruled_212 (by decide) (fun q4 => ?_) (fun q4 => ?_)
      · have h := h.1 q4
        refine pw_iload (pc' := 222) 8 rfl dX10_ruled_220 rfl ?_
        exact pw_sub [0, 1, 2, 3, 4, 5, 6, 7] rfl h
      · have h := h.2 q4
        refine pw_bipush (pc' := 217) rfl dX10_ruled_215 cb_100 ?_
        refine pw_goto (tgt := 222) dX10_ruled_217 (by decide) ?_
        exact pw_sub [0, 1, 2, 3, 4, 5, 6, 7] rfl h
    · have h := h.2 q2
      refine pw_sipush (pc' := 197) rfl dX10_ruled_194 cs_1000 ?_
      refine pw_goto (tgt := 208) dX10_ruled_197 (by decide) ?_
      refine pw_istore (pc' := 210) (lv' := [(0, .ref 182), (1, .int a1), (2, .int a2), (3, .int a3), (4, .int a4), (5, .int a5), (6, .int a6), (7, .int a7), (8, .int (nI 1000))]) [1, 2, 3, 4, 5, 6, 7, 8, 0] rfl dX10_ruled_208 (by decide) rfl ?_
      refine pw_iload (pc' := 212) 8 rfl dX10_ruled_210 rfl ?_
      refine pw_if_ge (pc' := 215) (tgt := 220) rfl dX10_ruled_212 (by decide) (fun q3 => ?_) (fun q3 => ?_)
      · have h := h.1 q3
        refine pw_iload (pc' := 222) 8 rfl dX10_ruled_220 rfl ?_
        exact pw_sub [0, 1, 2, 3, 4, 5, 6, 7] rfl h
      · have h := h.2 q3
        refine pw_bipush (pc' := 217) rfl dX10_ruled_215 cb_100 ?_
        refine pw_goto (tgt := 222) dX10_ruled_217 (by decide) ?_
        exact pw_sub [0, 1, 2, 3, 4, 5, 6, 7] rfl h
theorem T_X10_ruled_222 {M : Mem} {a1 : Int32} {a2 : Int32} {a3 : Int32} {a4 : Int32} {a5 : Int32} {a6 : Int32} {a7 : Int32} {s0 : Int32} {Q : Int32 → Mem → Prop}  (h : ((a6 ≤ s0) → (P_X10_ruled_238 M a1 a2 a3 a4 a6 a7 s0 a5 Q)) ∧ ((¬ a6 ≤ s0) → (P_X10_ruled_238 M a1 a2 a3 a4 a6 a7 s0 a7 Q))) : P_X10_ruled_222 M a1 a2 a3 a4 a5 a6 a7 s0 Q := by
  refine pw_istore (pc' := 224) (lv' := [(0, .ref 182), (1, .int a1), (2, .int a2), (3, .int a3), (4, .int a4), (5, .int a5), (6, .int a6), (7, .int a7), (8, .int s0)]) [1, 2, 3, 4, 5, 6, 7, 8, 0] rfl dX10_ruled_222 (by decide) rfl ?_
  refine pw_iload (pc' := 226) 8 rfl dX10_ruled_224 rfl ?_
  refine pw_iload (pc' := 228) 6 rfl dX10_ruled_226 rfl ?_
  refine pw_icmp_ge (pc' := 231) (tgt := 236) rfl dX10_ruled_228 (by decide) (fun q0 => ?_) (fun q0 => ?_)
  · have h := h.1 q0
    refine pw_iload (pc' := 238) 5 rfl dX10_ruled_236 rfl ?_
    exact pw_sub [0, 1, 2, 3, 4, 6, 7, 8] rfl h
  · have h := h.2 q0
    refine pw_iload (pc' := 233) 7 rfl dX10_ruled_231 rfl ?_
    refine pw_goto (tgt := 238) dX10_ruled_233 (by decide) ?_
    exact pw_sub [0, 1, 2, 3, 4, 6, 7, 8] rfl h
theorem T_X10_ruled_238 {M : Mem} {a1 : Int32} {a2 : Int32} {a3 : Int32} {a4 : Int32} {a6 : Int32} {a7 : Int32} {a8 : Int32} {s0 : Int32} {Q : Int32 → Mem → Prop}  (h : ((a6 ≤ a8) → (P_X10_ruled_174 M a1 a2 a3 a4 s0 a6 (a7 + (nI 1)) Q)) ∧ ((¬ a6 ≤ a8) → (P_X10_ruled_174 M a1 a2 a3 a4 s0 a8 (a7 + (nI 1)) Q))) : P_X10_ruled_238 M a1 a2 a3 a4 a6 a7 a8 s0 Q := by
  refine pw_istore (pc' := 240) (lv' := [(0, .ref 182), (1, .int a1), (2, .int a2), (3, .int a3), (4, .int a4), (5, .int s0), (6, .int a6), (7, .int a7), (8, .int a8)]) [1, 2, 3, 4, 5, 0, 6, 7, 8] rfl dX10_ruled_238 (by decide) rfl ?_
  refine pw_iload (pc' := 242) 8 rfl dX10_ruled_240 rfl ?_
  refine pw_iload (pc' := 244) 6 rfl dX10_ruled_242 rfl ?_
  refine pw_icmp_ge (pc' := 247) (tgt := 252) rfl dX10_ruled_244 (by decide) (fun q0 => ?_) (fun q0 => ?_)
  · have h := h.1 q0
    refine pw_iload (pc' := 254) 6 rfl dX10_ruled_252 rfl ?_
    refine pw_istore (pc' := 256) (lv' := [(0, .ref 182), (1, .int a1), (2, .int a2), (3, .int a3), (4, .int a4), (5, .int s0), (6, .int a6), (7, .int a7), (8, .int a8)]) [1, 2, 3, 4, 5, 6, 0, 7, 8] rfl dX10_ruled_254 (by decide) rfl ?_
    refine pw_iinc (pc' := 259) (lv' := [(0, .ref 182), (1, .int a1), (2, .int a2), (3, .int a3), (4, .int a4), (5, .int s0), (6, .int a6), (7, .int (a7 + (nI 1))), (8, .int a8)]) 7 [1, 2, 3, 4, 5, 6, 7, 0, 8] rfl dX10_ruled_256 rfl (ii_1 _) (by decide) rfl ?_
    refine pw_goto (tgt := 174) dX10_ruled_259 (by decide) ?_
    exact pw_sub [0, 1, 2, 3, 4, 5, 6, 7] rfl h
  · have h := h.2 q0
    refine pw_iload (pc' := 249) 8 rfl dX10_ruled_247 rfl ?_
    refine pw_goto (tgt := 254) dX10_ruled_249 (by decide) ?_
    refine pw_istore (pc' := 256) (lv' := [(0, .ref 182), (1, .int a1), (2, .int a2), (3, .int a3), (4, .int a4), (5, .int s0), (6, .int a8), (7, .int a7), (8, .int a8)]) [1, 2, 3, 4, 5, 6, 0, 7, 8] rfl dX10_ruled_254 (by decide) rfl ?_
    refine pw_iinc (pc' := 259) (lv' := [(0, .ref 182), (1, .int a1), (2, .int a2), (3, .int a3), (4, .int a4), (5, .int s0), (6, .int a8), (7, .int (a7 + (nI 1))), (8, .int a8)]) 7 [1, 2, 3, 4, 5, 6, 7, 0, 8] rfl dX10_ruled_256 rfl (ii_1 _) (by decide) rfl ?_
    refine pw_goto (tgt := 174) dX10_ruled_259 (by decide) ?_
    exact pw_sub [0, 1, 2, 3, 4, 5, 6, 7] rfl h
theorem T_X10_does {M : Mem} {a1 : Int32} {a2 : Int32} {a3 : Int32} {Q : Int32 → Mem → Prop}  (h : C_X10_in M (a1.toInt64) (0 : Int64) (1 : Int64) (fun r0 M0 => ((r0 = 0) → (Q (-1) M0)) ∧ ((¬ r0 = 0) → (C_X10_in M0 (a2.toInt64) (0 : Int64) (((M0 182 14) - (nI 1)).toInt64) (fun r2 M2 => ((r2 = 0) → (Q (-1) M2)) ∧ ((¬ r2 = 0) → (((0 ≤ a3) → (C_X10_well M2 (fun r5 M5 => ((¬ r5 = 0) → (((¬ a1 = 0) → (C_X10_ruled M5 (fun r8 M8 => P_X10_does_65 M8 a2 a3 (nI 0) (nI 0) Q))) ∧ ((a1 = 0) → (C_X10_bestDone M5 (fun r8 M8 => P_X10_does_65 M8 a2 a3 (nI 0) (nI 0) Q))))) ∧ ((r5 = 0) → (Q (-2) M5))))) ∧ ((¬ 0 ≤ a3) → (Q (-1) M2))))))))) : C_X10_does M a1 a2 a3 Q := by
  refine CA_of rfl (Nat.le_of_ble_eq_true rfl) ?_
  show PS _ _ 0 [(0, .ref 182), (1, .int a1), (2, .int a2), (3, .int a3)] [] M _
  refine pw_iload_n (pc' := 1) 1 rfl dX10_does_0 rfl rfl ?_
  refine pw_i2l (pc' := 2) rfl dX10_does_1 rfl ?_
  refine pw_lconst (pc' := 3) rfl dX10_does_2 rfl ?_
  refine pw_lconst (pc' := 4) rfl dX10_does_3 rfl ?_
  refine ps_callSI (pc' := 7) (As := [.long (a1.toInt64), .long (0 : Int64), .long (1 : Int64)]) (rest := []) 3 rfl dX10_does_4 cs_X10_in ml_X10_98 (by decide) rfl rfl (by decide) (Nat.le_of_ble_eq_true rfl) (CA.monoI h ?_)
  intro r0 M0 h
  refine pw_if_eq (pc' := 10) (tgt := 30) rfl dX10_does_7 (by decide) (fun q1 => ?_) (fun q1 => ?_)
  · have h := h.1 q1
    refine pw_iconst (pc' := 31) rfl dX10_does_30 ci_m1 ?_
    exact ps_iret dX10_does_31 rfl h
  · have h := h.2 q1
    refine pw_iload_n (pc' := 11) 2 rfl dX10_does_10 rfl rfl ?_
    refine pw_i2l (pc' := 12) rfl dX10_does_11 rfl ?_
    refine pw_lconst (pc' := 13) rfl dX10_does_12 rfl ?_
    refine pw_aload_n (pc' := 14) 0 rfl dX10_does_13 rfl rfl ?_
    refine ps_getI (pc' := 17) (v := (M0 182 14)) rfl dX10_does_14 fl_X10_187 ob_182 rfl rfl ?_
    refine pw_iconst (pc' := 18) rfl dX10_does_17 ci_1 ?_
    refine pw_isub (pc' := 19) rfl dX10_does_18 ?_
    refine pw_i2l (pc' := 20) rfl dX10_does_19 rfl ?_
    refine ps_callSI (pc' := 23) (As := [.long (a2.toInt64), .long (0 : Int64), .long (((M0 182 14) - (nI 1)).toInt64)]) (rest := []) 3 rfl dX10_does_20 cs_X10_in ml_X10_98 (by decide) rfl rfl (by decide) (Nat.le_of_ble_eq_true rfl) (CA.monoI h ?_)
    intro r2 M2 h
    refine pw_if_eq (pc' := 26) (tgt := 30) rfl dX10_does_23 (by decide) (fun q3 => ?_) (fun q3 => ?_)
    · have h := h.1 q3
      refine pw_iconst (pc' := 31) rfl dX10_does_30 ci_m1 ?_
      exact ps_iret dX10_does_31 rfl h
    · have h := h.2 q3
      refine pw_iload_n (pc' := 27) 3 rfl dX10_does_26 rfl rfl ?_
      refine pw_if_ge (pc' := 30) (tgt := 32) rfl dX10_does_27 (by decide) (fun q4 => ?_) (fun q4 => ?_)
      · have h := h.1 q4
        refine pw_aload_n (pc' := 33) 0 rfl dX10_does_32 rfl rfl ?_
        refine ps_callVI (pc' := 36) (As := []) (rest := []) (cT := (RX10, TX10, 44)) 0 rfl dX10_does_33 cv_X10_well ml_X10_245 (by decide) rfl rfl (by decide) (Nat.le_of_ble_eq_true rfl) ob_182 rfl rfl (CA.monoI h ?_)
        intro r5 M5 h
        refine pw_if_ne (pc' := 39) (tgt := 42) rfl dX10_does_36 (by decide) (fun q6 => ?_) (fun q6 => ?_)
        · have h := h.1 q6
          refine pw_iload_n (pc' := 43) 1 rfl dX10_does_42 rfl rfl ?_
          refine pw_if_ne (pc' := 46) (tgt := 54) rfl dX10_does_43 (by decide) (fun q7 => ?_) (fun q7 => ?_)
          · have h := h.1 q7
            refine pw_aload_n (pc' := 55) 0 rfl dX10_does_54 rfl rfl ?_
            refine ps_callVI (pc' := 58) (As := []) (rest := []) (cT := (RX10, TX10, 44)) 0 rfl dX10_does_55 cv_X10_ruled ml_X10_256 (by decide) rfl rfl (by decide) (Nat.le_of_ble_eq_true rfl) ob_182 rfl rfl (CA.monoI h ?_)
            intro r8 M8 h
            refine pw_pop (pc' := 59) rfl dX10_does_58 rfl ?_
            refine pw_iconst (pc' := 60) rfl dX10_does_59 ci_0 ?_
            refine pw_istore (pc' := 62) (lv' := [(0, .ref 182), (1, .int a1), (2, .int a2), (3, .int a3), (4, .int (nI 0))]) [1, 2, 3, 4, 0] rfl dX10_does_60 (by decide) rfl ?_
            refine pw_iconst (pc' := 63) rfl dX10_does_62 ci_0 ?_
            refine pw_istore (pc' := 65) (lv' := [(0, .ref 182), (1, .int a1), (2, .int a2), (3, .int a3), (4, .int (nI 0)), (5, .int (nI 0))]) [1, 2, 3, 4, 5, 0] rfl dX10_does_63 (by decide) rfl ?_
            exact pw_sub [0, 2, 3, 4, 5] rfl h
          · have h := h.2 q7
            refine pw_aload_n (pc' := 47) 0 rfl dX10_does_46 rfl rfl ?_
            refine ps_callVI (pc' := 50) (As := []) (rest := []) (cT := (RX10, TX10, 44)) 0 rfl dX10_does_47 cv_X10_bestDone ml_X10_253 (by decide) rfl rfl (by decide) (Nat.le_of_ble_eq_true rfl) ob_182 rfl rfl (CA.monoI h ?_)
            intro r8 M8 h
            refine pw_pop (pc' := 51) rfl dX10_does_50 rfl ?_
            refine pw_goto (tgt := 59) dX10_does_51 (by decide) ?_
            refine pw_iconst (pc' := 60) rfl dX10_does_59 ci_0 ?_
            refine pw_istore (pc' := 62) (lv' := [(0, .ref 182), (1, .int a1), (2, .int a2), (3, .int a3), (4, .int (nI 0))]) [1, 2, 3, 4, 0] rfl dX10_does_60 (by decide) rfl ?_
            refine pw_iconst (pc' := 63) rfl dX10_does_62 ci_0 ?_
            refine pw_istore (pc' := 65) (lv' := [(0, .ref 182), (1, .int a1), (2, .int a2), (3, .int a3), (4, .int (nI 0)), (5, .int (nI 0))]) [1, 2, 3, 4, 5, 0] rfl dX10_does_63 (by decide) rfl ?_
            exact pw_sub [0, 2, 3, 4, 5] rfl h
        · have h := h.2 q6
          refine pw_bipush (pc' := 41) rfl dX10_does_39 cb_m2 ?_
          exact ps_iret dX10_does_41 rfl h
      · have h := h.2 q4
        refine pw_iconst (pc' := 31) rfl dX10_does_30 ci_m1 ?_
        exact ps_iret dX10_does_31 rfl h
theorem T_X10_does_65 {M : Mem} {a2 : Int32} {a3 : Int32} {a4 : Int32} {a5 : Int32} {Q : Int32 → Mem → Prop}  (h : (((M 182 17) ≤ a5) → (Q (-4) M)) ∧ ((¬ (M 182 17) ≤ a5) → (vp_in a5 5 ∧ (vp_in (M 199 (ix a5)) 5 ∧ (((¬ (M 198 (ix (M 199 (ix a5)))) = a2) → (P_X10_does_65 M a2 a3 a4 (a5 + (nI 1)) Q)) ∧ (((M 198 (ix (M 199 (ix a5)))) = a2) → (((¬ a4 = a3) → (P_X10_does_65 M a2 a3 (a4 + (nI 1)) (a5 + (nI 1)) Q)) ∧ ((a4 = a3) → (Q (M 199 (ix a5)) M))))))))) : P_X10_does_65 M a2 a3 a4 a5 Q := by
  refine pw_iload (pc' := 67) 4 rfl dX10_does_65 rfl ?_
  refine pw_aload_n (pc' := 68) 0 rfl dX10_does_67 rfl rfl ?_
  refine ps_getI (pc' := 71) (v := (M 182 17)) rfl dX10_does_68 fl_X10_195 ob_182 rfl rfl ?_
  refine pw_icmp_ge (pc' := 74) (tgt := 113) rfl dX10_does_71 (by decide) (fun q0 => ?_) (fun q0 => ?_)
  · have h := h.1 q0
    refine pw_bipush (pc' := 115) rfl dX10_does_113 cb_m4 ?_
    exact ps_iret dX10_does_115 rfl h
  · have h := h.2 q0
    refine pw_aload_n (pc' := 75) 0 rfl dX10_does_74 rfl rfl ?_
    refine ps_getR (pc' := 78) (r := 198) rfl dX10_does_75 fl_X10_55 ob_182 rfl rfl ?_
    refine pw_aload_n (pc' := 79) 0 rfl dX10_does_78 rfl rfl ?_
    refine ps_getR (pc' := 82) (r := 199) rfl dX10_does_79 fl_X10_58 ob_182 rfl rfl ?_
    refine pw_iload (pc' := 84) 4 rfl dX10_does_82 rfl ?_
    obtain ⟨b1, h⟩ := h
    refine ps_iald (pc' := 85) (v := (M 199 (ix a5))) rfl dX10_does_84 ia_199 b1 rfl ?_
    obtain ⟨b2, h⟩ := h
    refine ps_iald (pc' := 86) (v := (M 198 (ix (M 199 (ix a5))))) rfl dX10_does_85 ia_198 b2 rfl ?_
    refine pw_iload_n (pc' := 87) 1 rfl dX10_does_86 rfl rfl ?_
    refine pw_icmp_ne (pc' := 90) (tgt := 107) rfl dX10_does_87 (by decide) (fun q3 => ?_) (fun q3 => ?_)
    · have h := h.1 q3
      refine pw_iinc (pc' := 110) (lv' := [(0, .ref 182), (2, .int a2), (3, .int a3), (4, .int a4), (5, .int (a5 + (nI 1)))]) 4 [1, 2, 3, 4, 0] rfl dX10_does_107 rfl (ii_1 _) (by decide) rfl ?_
      refine pw_goto (tgt := 65) dX10_does_110 (by decide) ?_
      exact pw_sub [0, 1, 2, 3, 4] rfl h
    · have h := h.2 q3
      refine pw_iload (pc' := 92) 3 rfl dX10_does_90 rfl ?_
      refine pw_iload_n (pc' := 93) 2 rfl dX10_does_92 rfl rfl ?_
      refine pw_icmp_ne (pc' := 96) (tgt := 104) rfl dX10_does_93 (by decide) (fun q4 => ?_) (fun q4 => ?_)
      · have h := h.1 q4
        refine pw_iinc (pc' := 107) (lv' := [(0, .ref 182), (2, .int a2), (3, .int a3), (4, .int (a4 + (nI 1))), (5, .int a5)]) 3 [1, 2, 3, 0, 4] rfl dX10_does_104 rfl (ii_1 _) (by decide) rfl ?_
        refine pw_iinc (pc' := 110) (lv' := [(0, .ref 182), (2, .int a2), (3, .int a3), (4, .int (a4 + (nI 1))), (5, .int (a5 + (nI 1)))]) 4 [1, 2, 3, 4, 0] rfl dX10_does_107 rfl (ii_1 _) (by decide) rfl ?_
        refine pw_goto (tgt := 65) dX10_does_110 (by decide) ?_
        exact pw_sub [0, 1, 2, 3, 4] rfl h
      · have h := h.2 q4
        refine pw_aload_n (pc' := 97) 0 rfl dX10_does_96 rfl rfl ?_
        refine ps_getR (pc' := 100) (r := 199) rfl dX10_does_97 fl_X10_58 ob_182 rfl rfl ?_
        refine pw_iload (pc' := 102) 4 rfl dX10_does_100 rfl ?_
        refine ps_iald (pc' := 103) (v := (M 199 (ix a5))) rfl dX10_does_102 ia_199 b1 rfl ?_
        exact ps_iret dX10_does_103 rfl h
theorem T_X10_enough {M : Mem}  {Q : Int32 → Mem → Prop}  (h : C_X10_well M (fun r0 M0 => ((¬ r0 = 0) → (P_X10_enough_17 M0 r0 (-4) (nI 1) Q)) ∧ ((r0 = 0) → (Q (-2) M0)))) : C_X10_enough M  Q := by
  refine CA_of rfl (Nat.le_of_ble_eq_true rfl) ?_
  show PS _ _ 0 [(0, .ref 182)] [] M _
  refine pw_aload_n (pc' := 1) 0 rfl dX10_enough_0 rfl rfl ?_
  refine ps_callVI (pc' := 4) (As := []) (rest := []) (cT := (RX10, TX10, 44)) 0 rfl dX10_enough_1 cv_X10_well ml_X10_245 (by decide) rfl rfl (by decide) (Nat.le_of_ble_eq_true rfl) ob_182 rfl rfl (CA.monoI h ?_)
  intro r0 M0 h
  refine pw_istore_n (pc' := 5) (lv' := [(0, .ref 182), (1, .int r0)]) [1, 0] rfl dX10_enough_4 rfl (by decide) rfl ?_
  refine pw_iload_n (pc' := 6) 1 rfl dX10_enough_5 rfl rfl ?_
  refine pw_if_ne (pc' := 9) (tgt := 12) rfl dX10_enough_6 (by decide) (fun q1 => ?_) (fun q1 => ?_)
  · have h := h.1 q1
    refine pw_bipush (pc' := 14) rfl dX10_enough_12 cb_m4 ?_
    refine pw_istore_n (pc' := 15) (lv' := [(0, .ref 182), (1, .int r0), (2, .int (-4))]) [1, 2, 0] rfl dX10_enough_14 rfl (by decide) rfl ?_
    refine pw_iconst (pc' := 16) rfl dX10_enough_15 ci_1 ?_
    refine pw_istore_n (pc' := 17) (lv' := [(0, .ref 182), (1, .int r0), (2, .int (-4)), (3, .int (nI 1))]) [1, 2, 3, 0] rfl dX10_enough_16 rfl (by decide) rfl ?_
    exact pw_sub [0, 1, 2, 3] rfl h
  · have h := h.2 q1
    refine pw_bipush (pc' := 11) rfl dX10_enough_9 cb_m2 ?_
    exact ps_iret dX10_enough_11 rfl h
theorem T_X10_enough_17 {M : Mem} {a1 : Int32} {a2 : Int32} {a3 : Int32} {Q : Int32 → Mem → Prop}  (h : (((nI 8) ≤ a3) → (Q a2 M)) ∧ ((¬ (nI 8) ≤ a3) → (((¬ (a3 &&& (a1 ^^^ (-1))) = 0) → ((((nI 0) = 0) → (P_X10_enough_17 M a1 a2 (a3 + (nI 1)) Q)) ∧ ((¬ (nI 0) = 0) → (C_X10_best M a3 (fun r3 M3 => ((¬ r3 = 0) → (P_X10_enough_17 M3 a1 a2 (a3 + (nI 1)) Q)) ∧ ((r3 = 0) → (P_X10_enough_17 M3 a1 a3 (a3 + (nI 1)) Q))))))) ∧ (((a3 &&& (a1 ^^^ (-1))) = 0) → (((a2 < 0) → ((((nI 1) = 0) → (P_X10_enough_17 M a1 a2 (a3 + (nI 1)) Q)) ∧ ((¬ (nI 1) = 0) → (C_X10_best M a3 (fun r4 M4 => ((¬ r4 = 0) → (P_X10_enough_17 M4 a1 a2 (a3 + (nI 1)) Q)) ∧ ((r4 = 0) → (P_X10_enough_17 M4 a1 a3 (a3 + (nI 1)) Q))))))) ∧ ((¬ a2 < 0) → (C_X10_size M a3 (fun r3 M3 => C_X10_size M3 a2 (fun r4 M4 => ((r4 ≤ r3) → ((((nI 0) = 0) → (P_X10_enough_17 M4 a1 a2 (a3 + (nI 1)) Q)) ∧ ((¬ (nI 0) = 0) → (C_X10_best M4 a3 (fun r7 M7 => ((¬ r7 = 0) → (P_X10_enough_17 M7 a1 a2 (a3 + (nI 1)) Q)) ∧ ((r7 = 0) → (P_X10_enough_17 M7 a1 a3 (a3 + (nI 1)) Q))))))) ∧ ((¬ r4 ≤ r3) → ((((nI 1) = 0) → (P_X10_enough_17 M4 a1 a2 (a3 + (nI 1)) Q)) ∧ ((¬ (nI 1) = 0) → (C_X10_best M4 a3 (fun r7 M7 => ((¬ r7 = 0) → (P_X10_enough_17 M7 a1 a2 (a3 + (nI 1)) Q)) ∧ ((r7 = 0) → (P_X10_enough_17 M7 a1 a3 (a3 + (nI 1)) Q)))))))))))))))) : P_X10_enough_17 M a1 a2 a3 Q := by
  refine pw_iload_n (pc' := 18) 3 rfl dX10_enough_17 rfl rfl ?_
  refine pw_bipush (pc' := 20) rfl dX10_enough_18 cb_8 ?_
  refine pw_icmp_ge (pc' := 23) (tgt := 78) rfl dX10_enough_20 (by decide) (fun q0 => ?_) (fun q0 => ?_)
  · have h := h.1 q0
    refine pw_iload_n (pc' := 79) 2 rfl dX10_enough_78 rfl rfl ?_
    exact ps_iret dX10_enough_79 rfl h
  · have h := h.2 q0
    refine pw_iload_n (pc' := 24) 3 rfl dX10_enough_23 rfl rfl ?_
    refine pw_iload_n (pc' := 25) 1 rfl dX10_enough_24 rfl rfl ?_
    refine pw_iconst (pc' := 26) rfl dX10_enough_25 ci_m1 ?_
    refine pw_ixor (pc' := 27) rfl dX10_enough_26 ?_
    refine pw_iand (pc' := 28) rfl dX10_enough_27 ?_
    refine pw_if_ne (pc' := 31) (tgt := 50) rfl dX10_enough_28 (by decide) (fun q1 => ?_) (fun q1 => ?_)
    · have h := h.1 q1
      refine pw_iconst (pc' := 51) rfl dX10_enough_50 ci_0 ?_
      refine pw_istore (pc' := 53) (lv' := [(0, .ref 182), (1, .int a1), (2, .int a2), (3, .int a3), (4, .int (nI 0))]) [1, 2, 3, 4, 0] rfl dX10_enough_51 (by decide) rfl ?_
      refine pw_iload (pc' := 55) 4 rfl dX10_enough_53 rfl ?_
      refine pw_if_eq (pc' := 58) (tgt := 70) rfl dX10_enough_55 (by decide) (fun q2 => ?_) (fun q2 => ?_)
      · have h := h.1 q2
        refine pw_iload_n (pc' := 71) 2 rfl dX10_enough_70 rfl rfl ?_
        refine pw_istore_n (pc' := 72) (lv' := [(0, .ref 182), (1, .int a1), (2, .int a2), (3, .int a3), (4, .int (nI 0))]) [1, 2, 0, 3, 4] rfl dX10_enough_71 rfl (by decide) rfl ?_
        refine pw_iinc (pc' := 75) (lv' := [(0, .ref 182), (1, .int a1), (2, .int a2), (3, .int (a3 + (nI 1))), (4, .int (nI 0))]) 3 [1, 2, 3, 0, 4] rfl dX10_enough_72 rfl (ii_1 _) (by decide) rfl ?_
        refine pw_goto (tgt := 17) dX10_enough_75 (by decide) ?_
        exact pw_sub [0, 1, 2, 3] rfl h
      · have h := h.2 q2
        refine pw_aload_n (pc' := 59) 0 rfl dX10_enough_58 rfl rfl ?_
        refine pw_iload_n (pc' := 60) 3 rfl dX10_enough_59 rfl rfl ?_
        refine ps_callVI (pc' := 63) (As := [.int a3]) (rest := []) (cT := (RX10, TX10, 44)) 1 rfl dX10_enough_60 cv_X10_best ml_X10_248 (by decide) rfl rfl (by decide) (Nat.le_of_ble_eq_true rfl) ob_182 rfl rfl (CA.monoI h ?_)
        intro r3 M3 h
        refine pw_if_ne (pc' := 66) (tgt := 70) rfl dX10_enough_63 (by decide) (fun q4 => ?_) (fun q4 => ?_)
        · have h := h.1 q4
          refine pw_iload_n (pc' := 71) 2 rfl dX10_enough_70 rfl rfl ?_
          refine pw_istore_n (pc' := 72) (lv' := [(0, .ref 182), (1, .int a1), (2, .int a2), (3, .int a3), (4, .int (nI 0))]) [1, 2, 0, 3, 4] rfl dX10_enough_71 rfl (by decide) rfl ?_
          refine pw_iinc (pc' := 75) (lv' := [(0, .ref 182), (1, .int a1), (2, .int a2), (3, .int (a3 + (nI 1))), (4, .int (nI 0))]) 3 [1, 2, 3, 0, 4] rfl dX10_enough_72 rfl (ii_1 _) (by decide) rfl ?_
          refine pw_goto (tgt := 17) dX10_enough_75 (by decide) ?_
          exact pw_sub [0, 1, 2, 3] rfl h
        · have h := h.2 q4
          refine pw_iload_n (pc' := 67) 3 rfl dX10_enough_66 rfl rfl ?_
          refine pw_goto (tgt := 71) dX10_enough_67 (by decide) ?_
          refine pw_istore_n (pc' := 72) (lv' := [(0, .ref 182), (1, .int a1), (2, .int a3), (3, .int a3), (4, .int (nI 0))]) [1, 2, 0, 3, 4] rfl dX10_enough_71 rfl (by decide) rfl ?_
          refine pw_iinc (pc' := 75) (lv' := [(0, .ref 182), (1, .int a1), (2, .int a3), (3, .int (a3 + (nI 1))), (4, .int (nI 0))]) 3 [1, 2, 3, 0, 4] rfl dX10_enough_72 rfl (ii_1 _) (by decide) rfl ?_
          refine pw_goto (tgt := 17) dX10_enough_75 (by decide) ?_
          exact pw_sub [0, 1, 2, 3] rfl h
    · have h := h.2 q1
      refine pw_iload_n (pc' := 32) 2 rfl dX10_enough_31 rfl rfl ?_
      refine pw_if_lt (pc' := 35) (tgt := 46) rfl dX10_enough_32 (by decide) (fun q2 => ?_) (fun q2 => ?_)
      · have h := h.1 q2
        refine pw_iconst (pc' := 47) rfl dX10_enough_46 ci_1 ?_
        refine pw_goto (tgt := 51) dX10_enough_47 (by decide) ?_
        refine pw_istore (pc' := 53) (lv' := [(0, .ref 182), (1, .int a1), (2, .int a2), (3, .int a3), (4, .int (nI 1))]) [1, 2, 3, 4, 0] rfl dX10_enough_51 (by decide) rfl ?_
        refine pw_iload (pc' := 55) 4 rfl dX10_enough_53 rfl ?_
        refine pw_if_eq (pc' := 58) (tgt := 70) rfl dX10_enough_55 (by decide) (fun q3 => ?_) (fun q3 => ?_)
        · have h := h.1 q3
          refine pw_iload_n (pc' := 71) 2 rfl dX10_enough_70 rfl rfl ?_
          refine pw_istore_n (pc' := 72) (lv' := [(0, .ref 182), (1, .int a1), (2, .int a2), (3, .int a3), (4, .int (nI 1))]) [1, 2, 0, 3, 4] rfl dX10_enough_71 rfl (by decide) rfl ?_
          refine pw_iinc (pc' := 75) (lv' := [(0, .ref 182), (1, .int a1), (2, .int a2), (3, .int (a3 + (nI 1))), (4, .int (nI 1))]) 3 [1, 2, 3, 0, 4] rfl dX10_enough_72 rfl (ii_1 _) (by decide) rfl ?_
          refine pw_goto (tgt := 17) dX10_enough_75 (by decide) ?_
          exact pw_sub [0, 1, 2, 3] rfl h
        · have h := h.2 q3
          refine pw_aload_n (pc' := 59) 0 rfl dX10_enough_58 rfl rfl ?_
          refine pw_iload_n (pc' := 60) 3 rfl dX10_enough_59 rfl rfl ?_
          refine ps_callVI (pc' := 63) (As := [.int a3]) (rest := []) (cT := (RX10, TX10, 44)) 1 rfl dX10_enough_60 cv_X10_best ml_X10_248 (by decide) rfl rfl (by decide) (Nat.le_of_ble_eq_true rfl) ob_182 rfl rfl (CA.monoI h ?_)
          intro r4 M4 h
          refine pw_if_ne (pc' := 66) (tgt := 70) rfl dX10_enough_63 (by decide) (fun q5 => ?_) (fun q5 => ?_)
          · have h := h.1 q5
            refine pw_iload_n (pc' := 71) 2 rfl dX10_enough_70 rfl rfl ?_
            refine pw_istore_n (pc' := 72) (lv' := [(0, .ref 182), (1, .int a1), (2, .int a2), (3, .int a3), (4, .int (nI 1))]) [1, 2, 0, 3, 4] rfl dX10_enough_71 rfl (by decide) rfl ?_
            refine pw_iinc (pc' := 75) (lv' := [(0, .ref 182), (1, .int a1), (2, .int a2), (3, .int (a3 + (nI 1))), (4, .int (nI 1))]) 3 [1, 2, 3, 0, 4] rfl dX10_enough_72 rfl (ii_1 _) (by decide) rfl ?_
            refine pw_goto (tgt := 17) dX10_enough_75 (by decide) ?_
            exact pw_sub [0, 1, 2, 3] rfl h
          · have h := h.2 q5
            refine pw_iload_n (pc' := 67) 3 rfl dX10_enough_66 rfl rfl ?_
            refine pw_goto (tgt := 71) dX10_enough_67 (by decide) ?_
            refine pw_istore_n (pc' := 72) (lv' := [(0, .ref 182), (1, .int a1), (2, .int a3), (3, .int a3), (4, .int (nI 1))]) [1, 2, 0, 3, 4] rfl dX10_enough_71 rfl (by decide) rfl ?_
            refine pw_iinc (pc' := 75) (lv' := [(0, .ref 182), (1, .int a1), (2, .int a3), (3, .int (a3 + (nI 1))), (4, .int (nI 1))]) 3 [1, 2, 3, 0, 4] rfl dX10_enough_72 rfl (ii_1 _) (by decide) rfl ?_
            refine pw_goto (tgt := 17) dX10_enough_75 (by decide) ?_
            exact pw_sub [0, 1, 2, 3] rfl h
      · have h := h.2 q2
        refine pw_iload_n (pc' := 36) 3 rfl dX10_enough_35 rfl rfl ?_
        refine ps_callSI (pc' := 39) (As := [.int a3]) (rest := []) 1 rfl dX10_enough_36 cs_X10_size ml_X10_259 (by decide) rfl rfl (by decide) (Nat.le_of_ble_eq_true rfl) (CA.monoI h ?_)
        intro r3 M3 h
        refine pw_iload_n (pc' := 40) 2 rfl dX10_enough_39 rfl rfl ?_
        refine ps_callSI (pc' := 43) (As := [.int a2]) (rest := [.int r3]) 1 rfl dX10_enough_40 cs_X10_size ml_X10_259 (by decide) rfl rfl (by decide) (Nat.le_of_ble_eq_true rfl) (CA.monoI h ?_)
        intro r4 M4 h
        refine pw_icmp_ge (pc' := 46) (tgt := 50) rfl dX10_enough_43 (by decide) (fun q5 => ?_) (fun q5 => ?_)
        · have h := h.1 q5
          refine pw_iconst (pc' := 51) rfl dX10_enough_50 ci_0 ?_
          refine pw_istore (pc' := 53) (lv' := [(0, .ref 182), (1, .int a1), (2, .int a2), (3, .int a3), (4, .int (nI 0))]) [1, 2, 3, 4, 0] rfl dX10_enough_51 (by decide) rfl ?_
          refine pw_iload (pc' := 55) 4 rfl dX10_enough_53 rfl ?_
          refine pw_if_eq (pc' := 58) (tgt := 70) rfl dX10_enough_55 (by decide) (fun q6 => ?_) (fun q6 => ?_)
          · have h := h.1 q6
            refine pw_iload_n (pc' := 71) 2 rfl dX10_enough_70 rfl rfl ?_
            refine pw_istore_n (pc' := 72) (lv' := [(0, .ref 182), (1, .int a1), (2, .int a2), (3, .int a3), (4, .int (nI 0))]) [1, 2, 0, 3, 4] rfl dX10_enough_71 rfl (by decide) rfl ?_
            refine pw_iinc (pc' := 75) (lv' := [(0, .ref 182), (1, .int a1), (2, .int a2), (3, .int (a3 + (nI 1))), (4, .int (nI 0))]) 3 [1, 2, 3, 0, 4] rfl dX10_enough_72 rfl (ii_1 _) (by decide) rfl ?_
            refine pw_goto (tgt := 17) dX10_enough_75 (by decide) ?_
            exact pw_sub [0, 1, 2, 3] rfl h
          · have h := h.2 q6
            refine pw_aload_n (pc' := 59) 0 rfl dX10_enough_58 rfl rfl ?_
            refine pw_iload_n (pc' := 60) 3 rfl dX10_enough_59 rfl rfl ?_
            refine ps_callVI (pc' := 63) (As := [.int a3]) (rest := []) (cT := (RX10, TX10, 44)) 1 rfl dX10_enough_60 cv_X10_best ml_X10_248 (by decide) rfl rfl (by decide) (Nat.le_of_ble_eq_true rfl) ob_182 rfl rfl (CA.monoI h ?_)
            intro r7 M7 h
            refine pw_if_ne (pc' := 66) (tgt := 70) rfl dX10_enough_63 (by decide) (fun q8 => ?_) (fun q8 => ?_)
            · have h := h.1 q8
              refine pw_iload_n (pc' := 71) 2 rfl dX10_enough_70 rfl rfl ?_
              refine pw_istore_n (pc' := 72) (lv' := [(0, .ref 182), (1, .int a1), (2, .int a2), (3, .int a3), (4, .int (nI 0))]) [1, 2, 0, 3, 4] rfl dX10_enough_71 rfl (by decide) rfl ?_
              refine pw_iinc (pc' := 75) (lv' := [(0, .ref 182), (1, .int a1), (2, .int a2), (3, .int (a3 + (nI 1))), (4, .int (nI 0))]) 3 [1, 2, 3, 0, 4] rfl dX10_enough_72 rfl (ii_1 _) (by decide) rfl ?_
              refine pw_goto (tgt := 17) dX10_enough_75 (by decide) ?_
              exact pw_sub [0, 1, 2, 3] rfl h
            · have h := h.2 q8
              refine pw_iload_n (pc' := 67) 3 rfl dX10_enough_66 rfl rfl ?_
              refine pw_goto (tgt := 71) dX10_enough_67 (by decide) ?_
              refine pw_istore_n (pc' := 72) (lv' := [(0, .ref 182), (1, .int a1), (2, .int a3), (3, .int a3), (4, .int (nI 0))]) [1, 2, 0, 3, 4] rfl dX10_enough_71 rfl (by decide) rfl ?_
              refine pw_iinc (pc' := 75) (lv' := [(0, .ref 182), (1, .int a1), (2, .int a3), (3, .int (a3 + (nI 1))), (4, .int (nI 0))]) 3 [1, 2, 3, 0, 4] rfl dX10_enough_72 rfl (ii_1 _) (by decide) rfl ?_
              refine pw_goto (tgt := 17) dX10_enough_75 (by decide) ?_
              exact pw_sub [0, 1, 2, 3] rfl h
        · have h := h.2 q5
          refine pw_iconst (pc' := 47) rfl dX10_enough_46 ci_1 ?_
          refine pw_goto (tgt := 51) dX10_enough_47 (by decide) ?_
          refine pw_istore (pc' := 53) (lv' := [(0, .ref 182), (1, .int a1), (2, .int a2), (3, .int a3), (4, .int (nI 1))]) [1, 2, 3, 4, 0] rfl dX10_enough_51 (by decide) rfl ?_
          refine pw_iload (pc' := 55) 4 rfl dX10_enough_53 rfl ?_
          refine pw_if_eq (pc' := 58) (tgt := 70) rfl dX10_enough_55 (by decide) (fun q6 => ?_) (fun q6 => ?_)
          · have h := h.1 q6
            refine pw_iload_n (pc' := 71) 2 rfl dX10_enough_70 rfl rfl ?_
            refine pw_istore_n (pc' := 72) (lv' := [(0, .ref 182), (1, .int a1), (2, .int a2), (3, .int a3), (4, .int (nI 1))]) [1, 2, 0, 3, 4] rfl dX10_enough_71 rfl (by decide) rfl ?_
            refine pw_iinc (pc' := 75) (lv' := [(0, .ref 182), (1, .int a1), (2, .int a2), (3, .int (a3 + (nI 1))), (4, .int (nI 1))]) 3 [1, 2, 3, 0, 4] rfl dX10_enough_72 rfl (ii_1 _) (by decide) rfl ?_
            refine pw_goto (tgt := 17) dX10_enough_75 (by decide) ?_
            exact pw_sub [0, 1, 2, 3] rfl h
          · have h := h.2 q6
            refine pw_aload_n (pc' := 59) 0 rfl dX10_enough_58 rfl rfl ?_
            refine pw_iload_n (pc' := 60) 3 rfl dX10_enough_59 rfl rfl ?_
            refine ps_callVI (pc' := 63) (As := [.int a3]) (rest := []) (cT := (RX10, TX10, 44)) 1 rfl dX10_enough_60 cv_X10_best ml_X10_248 (by decide) rfl rfl (by decide) (Nat.le_of_ble_eq_true rfl) ob_182 rfl rfl (CA.monoI h ?_)
            intro r7 M7 h
            refine pw_if_ne (pc' := 66) (tgt := 70) rfl dX10_enough_63 (by decide) (fun q8 => ?_) (fun q8 => ?_)
            · have h := h.1 q8
              refine pw_iload_n (pc' := 71) 2 rfl dX10_enough_70 rfl rfl ?_
              refine pw_istore_n (pc' := 72) (lv' := [(0, .ref 182), (1, .int a1), (2, .int a2), (3, .int a3), (4, .int (nI 1))]) [1, 2, 0, 3, 4] rfl dX10_enough_71 rfl (by decide) rfl ?_
              refine pw_iinc (pc' := 75) (lv' := [(0, .ref 182), (1, .int a1), (2, .int a2), (3, .int (a3 + (nI 1))), (4, .int (nI 1))]) 3 [1, 2, 3, 0, 4] rfl dX10_enough_72 rfl (ii_1 _) (by decide) rfl ?_
              refine pw_goto (tgt := 17) dX10_enough_75 (by decide) ?_
              exact pw_sub [0, 1, 2, 3] rfl h
            · have h := h.2 q8
              refine pw_iload_n (pc' := 67) 3 rfl dX10_enough_66 rfl rfl ?_
              refine pw_goto (tgt := 71) dX10_enough_67 (by decide) ?_
              refine pw_istore_n (pc' := 72) (lv' := [(0, .ref 182), (1, .int a1), (2, .int a3), (3, .int a3), (4, .int (nI 1))]) [1, 2, 0, 3, 4] rfl dX10_enough_71 rfl (by decide) rfl ?_
              refine pw_iinc (pc' := 75) (lv' := [(0, .ref 182), (1, .int a1), (2, .int a3), (3, .int (a3 + (nI 1))), (4, .int (nI 1))]) 3 [1, 2, 3, 0, 4] rfl dX10_enough_72 rfl (ii_1 _) (by decide) rfl ?_
              refine pw_goto (tgt := 17) dX10_enough_75 (by decide) ?_
              exact pw_sub [0, 1, 2, 3] rfl h
theorem T_X10_size {M : Mem} {a0 : Int32} {Q : Int32 → Mem → Prop}  (h : P_X10_size_4 M (nI 0) a0 Q) : C_X10_size M a0 Q := by
  refine CA_of rfl (Nat.le_of_ble_eq_true rfl) ?_
  show PS _ _ 0 [(0, .int a0)] [] M _
  refine pw_iconst (pc' := 1) rfl dX10_size_0 ci_0 ?_
  refine pw_istore_n (pc' := 2) (lv' := [(0, .int a0), (1, .int (nI 0))]) [1, 0] rfl dX10_size_1 rfl (by decide) rfl ?_
  refine pw_iload_n (pc' := 3) 0 rfl dX10_size_2 rfl rfl ?_
  refine pw_istore_n (pc' := 4) (lv' := [(0, .int a0), (1, .int (nI 0)), (2, .int a0)]) [1, 2, 0] rfl dX10_size_3 rfl (by decide) rfl ?_
  exact pw_sub [1, 2] rfl h
theorem T_X10_size_4 {M : Mem} {a1 : Int32} {a2 : Int32} {Q : Int32 → Mem → Prop}  (h : ((a2 = 0) → (Q a1 M)) ∧ ((¬ a2 = 0) → (P_X10_size_4 M (a1 + (nI 1)) (a2 &&& (a2 - (nI 1))) Q))) : P_X10_size_4 M a1 a2 Q := by
  refine pw_iload_n (pc' := 5) 1 rfl dX10_size_4 rfl rfl ?_
  refine pw_if_eq (pc' := 8) (tgt := 20) rfl dX10_size_5 (by decide) (fun q0 => ?_) (fun q0 => ?_)
  · have h := h.1 q0
    refine pw_iload_n (pc' := 21) 0 rfl dX10_size_20 rfl rfl ?_
    exact ps_iret dX10_size_21 rfl h
  · have h := h.2 q0
    refine pw_iinc (pc' := 11) (lv' := [(1, .int (a1 + (nI 1))), (2, .int a2)]) 0 [0, 1] rfl dX10_size_8 rfl (ii_1 _) (by decide) rfl ?_
    refine pw_iload_n (pc' := 12) 1 rfl dX10_size_11 rfl rfl ?_
    refine pw_iload_n (pc' := 13) 1 rfl dX10_size_12 rfl rfl ?_
    refine pw_iconst (pc' := 14) rfl dX10_size_13 ci_1 ?_
    refine pw_isub (pc' := 15) rfl dX10_size_14 ?_
    refine pw_iand (pc' := 16) rfl dX10_size_15 ?_
    refine pw_istore_n (pc' := 17) (lv' := [(1, .int (a1 + (nI 1))), (2, .int (a2 &&& (a2 - (nI 1))))]) [1, 0] rfl dX10_size_16 rfl (by decide) rfl ?_
    refine pw_goto (tgt := 4) dX10_size_17 (by decide) ?_
    exact pw_sub [0, 1] rfl h
theorem T_X10_missed {M : Mem} {a1 : Int32} {Q : Int32 → Mem → Prop}  (h : C_X10_in M (a1.toInt64) (0 : Int64) (((M 182 14) - (nI 1)).toInt64) (fun r0 M0 => ((¬ r0 = 0) → (C_X10_well M0 (fun r2 M2 => ((¬ (r2 &&& (((nI 1) <<< (a1 &&& 31)) ^^^ (-1))) = 0) → (((¬ (r2 &&& (((nI 1) <<< (a1 &&& 31)) ^^^ (-1))) = r2) → (C_X10_best M2 (r2 &&& (((nI 1) <<< (a1 &&& 31)) ^^^ (-1))) (fun r5 M5 => C_X10_best M5 r2 (fun r6 M6 => Q (r5 - r6) M6)))) ∧ (((r2 &&& (((nI 1) <<< (a1 &&& 31)) ^^^ (-1))) = r2) → (Q (nI 0) M2)))) ∧ (((r2 &&& (((nI 1) <<< (a1 &&& 31)) ^^^ (-1))) = 0) → (Q (-2) M2))))) ∧ ((r0 = 0) → (Q (-1) M0)))) : C_X10_missed M a1 Q := by
  refine CA_of rfl (Nat.le_of_ble_eq_true rfl) ?_
  show PS _ _ 0 [(0, .ref 182), (1, .int a1)] [] M _
  refine pw_iload_n (pc' := 1) 1 rfl dX10_missed_0 rfl rfl ?_
  refine pw_i2l (pc' := 2) rfl dX10_missed_1 rfl ?_
  refine pw_lconst (pc' := 3) rfl dX10_missed_2 rfl ?_
  refine pw_aload_n (pc' := 4) 0 rfl dX10_missed_3 rfl rfl ?_
  refine ps_getI (pc' := 7) (v := (M 182 14)) rfl dX10_missed_4 fl_X10_187 ob_182 rfl rfl ?_
  refine pw_iconst (pc' := 8) rfl dX10_missed_7 ci_1 ?_
  refine pw_isub (pc' := 9) rfl dX10_missed_8 ?_
  refine pw_i2l (pc' := 10) rfl dX10_missed_9 rfl ?_
  refine ps_callSI (pc' := 13) (As := [.long (a1.toInt64), .long (0 : Int64), .long (((M 182 14) - (nI 1)).toInt64)]) (rest := []) 3 rfl dX10_missed_10 cs_X10_in ml_X10_98 (by decide) rfl rfl (by decide) (Nat.le_of_ble_eq_true rfl) (CA.monoI h ?_)
  intro r0 M0 h
  refine pw_if_ne (pc' := 16) (tgt := 18) rfl dX10_missed_13 (by decide) (fun q1 => ?_) (fun q1 => ?_)
  · have h := h.1 q1
    refine pw_aload_n (pc' := 19) 0 rfl dX10_missed_18 rfl rfl ?_
    refine ps_callVI (pc' := 22) (As := []) (rest := []) (cT := (RX10, TX10, 44)) 0 rfl dX10_missed_19 cv_X10_well ml_X10_245 (by decide) rfl rfl (by decide) (Nat.le_of_ble_eq_true rfl) ob_182 rfl rfl (CA.monoI h ?_)
    intro r2 M2 h
    refine pw_istore_n (pc' := 23) (lv' := [(0, .ref 182), (1, .int a1), (2, .int r2)]) [1, 2, 0] rfl dX10_missed_22 rfl (by decide) rfl ?_
    refine pw_iload_n (pc' := 24) 2 rfl dX10_missed_23 rfl rfl ?_
    refine pw_iconst (pc' := 25) rfl dX10_missed_24 ci_1 ?_
    refine pw_iload_n (pc' := 26) 1 rfl dX10_missed_25 rfl rfl ?_
    refine pw_ishl (pc' := 27) rfl dX10_missed_26 ?_
    refine pw_iconst (pc' := 28) rfl dX10_missed_27 ci_m1 ?_
    refine pw_ixor (pc' := 29) rfl dX10_missed_28 ?_
    refine pw_iand (pc' := 30) rfl dX10_missed_29 ?_
    refine pw_istore_n (pc' := 31) (lv' := [(0, .ref 182), (1, .int a1), (2, .int r2), (3, .int (r2 &&& (((nI 1) <<< (a1 &&& 31)) ^^^ (-1))))]) [1, 2, 3, 0] rfl dX10_missed_30 rfl (by decide) rfl ?_
    refine pw_iload_n (pc' := 32) 3 rfl dX10_missed_31 rfl rfl ?_
    refine pw_if_ne (pc' := 35) (tgt := 38) rfl dX10_missed_32 (by decide) (fun q3 => ?_) (fun q3 => ?_)
    · have h := h.1 q3
      refine pw_iload_n (pc' := 39) 3 rfl dX10_missed_38 rfl rfl ?_
      refine pw_iload_n (pc' := 40) 2 rfl dX10_missed_39 rfl rfl ?_
      refine pw_icmp_ne (pc' := 43) (tgt := 47) rfl dX10_missed_40 (by decide) (fun q4 => ?_) (fun q4 => ?_)
      · have h := h.1 q4
        refine pw_aload_n (pc' := 48) 0 rfl dX10_missed_47 rfl rfl ?_
        refine pw_iload_n (pc' := 49) 3 rfl dX10_missed_48 rfl rfl ?_
        refine ps_callVI (pc' := 52) (As := [.int (r2 &&& (((nI 1) <<< (a1 &&& 31)) ^^^ (-1)))]) (rest := []) (cT := (RX10, TX10, 44)) 1 rfl dX10_missed_49 cv_X10_best ml_X10_248 (by decide) rfl rfl (by decide) (Nat.le_of_ble_eq_true rfl) ob_182 rfl rfl (CA.monoI h ?_)
        intro r5 M5 h
        refine pw_aload_n (pc' := 53) 0 rfl dX10_missed_52 rfl rfl ?_
        refine pw_iload_n (pc' := 54) 2 rfl dX10_missed_53 rfl rfl ?_
        refine ps_callVI (pc' := 57) (As := [.int r2]) (rest := [.int r5]) (cT := (RX10, TX10, 44)) 1 rfl dX10_missed_54 cv_X10_best ml_X10_248 (by decide) rfl rfl (by decide) (Nat.le_of_ble_eq_true rfl) ob_182 rfl rfl (CA.monoI h ?_)
        intro r6 M6 h
        refine pw_isub (pc' := 58) rfl dX10_missed_57 ?_
        exact ps_iret dX10_missed_58 rfl h
      · have h := h.2 q4
        refine pw_iconst (pc' := 44) rfl dX10_missed_43 ci_0 ?_
        refine pw_goto (tgt := 58) dX10_missed_44 (by decide) ?_
        exact ps_iret dX10_missed_58 rfl h
    · have h := h.2 q3
      refine pw_bipush (pc' := 37) rfl dX10_missed_35 cb_m2 ?_
      exact ps_iret dX10_missed_37 rfl h
  · have h := h.2 q1
    refine pw_iconst (pc' := 17) rfl dX10_missed_16 ci_m1 ?_
    exact ps_iret dX10_missed_17 rfl h
theorem T_X10_opened {M : Mem} {a1 : Int32} {a2 : Int32} {Q : Int32 → Mem → Prop}  (h : C_X10_isRoom M a1 (fun r0 M0 => ((r0 = 0) → (Q (-1) M0)) ∧ ((¬ r0 = 0) → (C_X10_isRoom M0 a2 (fun r2 M2 => ((r2 = 0) → (Q (-1) M2)) ∧ ((¬ r2 = 0) → (((¬ a1 = a2) → (C_X10_well M2 (fun r5 M5 => ((¬ r5 = 0) → (vp_in (((nI 10) * a1) + a2) 100 ∧ ((((M5 183 (ix (((nI 10) * a1) + a2))) < 0) → (C_X10_well M5 (fun r9 M9 => C_X10_best M9 r9 (fun r10 M10 => C_X10_doorIs M10 a1 a2 (nI 1) (fun M11 => C_X10_well M11 (fun r12 M12 => C_X10_best M12 r12 (fun r13 M13 => C_X10_doorIs M13 a1 a2 (-4) (fun M14 => ((r10 ≤ r13) → (Q (nI 0) M14)) ∧ ((¬ r10 ≤ r13) → (Q (r10 - r13) M14)))))))))) ∧ ((¬ (M5 183 (ix (((nI 10) * a1) + a2))) < 0) → (Q (-4) M5))))) ∧ ((r5 = 0) → (Q (-2) M5))))) ∧ ((a1 = a2) → (Q (-1) M2))))))))) : C_X10_opened M a1 a2 Q := by
  refine CA_of rfl (Nat.le_of_ble_eq_true rfl) ?_
  show PS _ _ 0 [(0, .ref 182), (1, .int a1), (2, .int a2)] [] M _
  refine pw_aload_n (pc' := 1) 0 rfl dX10_opened_0 rfl rfl ?_
  refine pw_iload_n (pc' := 2) 1 rfl dX10_opened_1 rfl rfl ?_
  refine ps_callVI (pc' := 5) (As := [.int a1]) (rest := []) (cT := (RX10, TX10, 44)) 1 rfl dX10_opened_2 cv_X10_isRoom ml_X10_108 (by decide) rfl rfl (by decide) (Nat.le_of_ble_eq_true rfl) ob_182 rfl rfl (CA.monoI h ?_)
  intro r0 M0 h
  refine pw_if_eq (pc' := 8) (tgt := 21) rfl dX10_opened_5 (by decide) (fun q1 => ?_) (fun q1 => ?_)
  · have h := h.1 q1
    refine pw_iconst (pc' := 22) rfl dX10_opened_21 ci_m1 ?_
    exact ps_iret dX10_opened_22 rfl h
  · have h := h.2 q1
    refine pw_aload_n (pc' := 9) 0 rfl dX10_opened_8 rfl rfl ?_
    refine pw_iload_n (pc' := 10) 2 rfl dX10_opened_9 rfl rfl ?_
    refine ps_callVI (pc' := 13) (As := [.int a2]) (rest := []) (cT := (RX10, TX10, 44)) 1 rfl dX10_opened_10 cv_X10_isRoom ml_X10_108 (by decide) rfl rfl (by decide) (Nat.le_of_ble_eq_true rfl) ob_182 rfl rfl (CA.monoI h ?_)
    intro r2 M2 h
    refine pw_if_eq (pc' := 16) (tgt := 21) rfl dX10_opened_13 (by decide) (fun q3 => ?_) (fun q3 => ?_)
    · have h := h.1 q3
      refine pw_iconst (pc' := 22) rfl dX10_opened_21 ci_m1 ?_
      exact ps_iret dX10_opened_22 rfl h
    · have h := h.2 q3
      refine pw_iload_n (pc' := 17) 1 rfl dX10_opened_16 rfl rfl ?_
      refine pw_iload_n (pc' := 18) 2 rfl dX10_opened_17 rfl rfl ?_
      refine pw_icmp_ne (pc' := 21) (tgt := 23) rfl dX10_opened_18 (by decide) (fun q4 => ?_) (fun q4 => ?_)
      · have h := h.1 q4
        refine pw_aload_n (pc' := 24) 0 rfl dX10_opened_23 rfl rfl ?_
        refine ps_callVI (pc' := 27) (As := []) (rest := []) (cT := (RX10, TX10, 44)) 0 rfl dX10_opened_24 cv_X10_well ml_X10_245 (by decide) rfl rfl (by decide) (Nat.le_of_ble_eq_true rfl) ob_182 rfl rfl (CA.monoI h ?_)
        intro r5 M5 h
        refine pw_if_ne (pc' := 30) (tgt := 33) rfl dX10_opened_27 (by decide) (fun q6 => ?_) (fun q6 => ?_)
        · have h := h.1 q6
          refine pw_aload_n (pc' := 34) 0 rfl dX10_opened_33 rfl rfl ?_
          refine ps_getR (pc' := 37) (r := 183) rfl dX10_opened_34 fl_X10_7 ob_182 rfl rfl ?_
          refine pw_bipush (pc' := 39) rfl dX10_opened_37 cb_10 ?_
          refine pw_iload_n (pc' := 40) 1 rfl dX10_opened_39 rfl rfl ?_
          refine pw_imul (pc' := 41) rfl dX10_opened_40 ?_
          refine pw_iload_n (pc' := 42) 2 rfl dX10_opened_41 rfl rfl ?_
          refine pw_iadd (pc' := 43) rfl dX10_opened_42 ?_
          obtain ⟨b7, h⟩ := h
          refine ps_iald (pc' := 44) (v := (M5 183 (ix (((nI 10) * a1) + a2)))) rfl dX10_opened_43 ia_183 b7 rfl ?_
          refine pw_if_lt (pc' := 47) (tgt := 50) rfl dX10_opened_44 (by decide) (fun q8 => ?_) (fun q8 => ?_)
          · have h := h.1 q8
            refine pw_aload_n (pc' := 51) 0 rfl dX10_opened_50 rfl rfl ?_
            refine pw_aload_n (pc' := 52) 0 rfl dX10_opened_51 rfl rfl ?_
            refine ps_callVI (pc' := 55) (As := []) (rest := [.ref 182]) (cT := (RX10, TX10, 44)) 0 rfl dX10_opened_52 cv_X10_well ml_X10_245 (by decide) rfl rfl (by decide) (Nat.le_of_ble_eq_true rfl) ob_182 rfl rfl (CA.monoI h ?_)
            intro r9 M9 h
            refine ps_callVI (pc' := 58) (As := [.int r9]) (rest := []) (cT := (RX10, TX10, 44)) 1 rfl dX10_opened_55 cv_X10_best ml_X10_248 (by decide) rfl rfl (by decide) (Nat.le_of_ble_eq_true rfl) ob_182 rfl rfl (CA.monoI h ?_)
            intro r10 M10 h
            refine pw_istore_n (pc' := 59) (lv' := [(0, .ref 182), (1, .int a1), (2, .int a2), (3, .int r10)]) [1, 2, 3, 0] rfl dX10_opened_58 rfl (by decide) rfl ?_
            refine pw_aload_n (pc' := 60) 0 rfl dX10_opened_59 rfl rfl ?_
            refine pw_iload_n (pc' := 61) 1 rfl dX10_opened_60 rfl rfl ?_
            refine pw_iload_n (pc' := 62) 2 rfl dX10_opened_61 rfl rfl ?_
            refine pw_iconst (pc' := 63) rfl dX10_opened_62 ci_1 ?_
            refine ps_callVV (pc' := 66) (As := [.int a1, .int a2, .int (nI 1)]) (rest := []) (cT := (RX10, TX10, 44)) 3 rfl dX10_opened_63 cv_X10_doorIs ml_X10_115 (by decide) rfl rfl (by decide) (Nat.le_of_ble_eq_true rfl) ob_182 rfl rfl (CA.monoV h ?_)
            intro M11 h
            refine pw_aload_n (pc' := 67) 0 rfl dX10_opened_66 rfl rfl ?_
            refine pw_aload_n (pc' := 68) 0 rfl dX10_opened_67 rfl rfl ?_
            refine ps_callVI (pc' := 71) (As := []) (rest := [.ref 182]) (cT := (RX10, TX10, 44)) 0 rfl dX10_opened_68 cv_X10_well ml_X10_245 (by decide) rfl rfl (by decide) (Nat.le_of_ble_eq_true rfl) ob_182 rfl rfl (CA.monoI h ?_)
            intro r12 M12 h
            refine ps_callVI (pc' := 74) (As := [.int r12]) (rest := []) (cT := (RX10, TX10, 44)) 1 rfl dX10_opened_71 cv_X10_best ml_X10_248 (by decide) rfl rfl (by decide) (Nat.le_of_ble_eq_true rfl) ob_182 rfl rfl (CA.monoI h ?_)
            intro r13 M13 h
            refine pw_istore (pc' := 76) (lv' := [(0, .ref 182), (1, .int a1), (2, .int a2), (3, .int r10), (4, .int r13)]) [1, 2, 3, 4, 0] rfl dX10_opened_74 (by decide) rfl ?_
            refine pw_aload_n (pc' := 77) 0 rfl dX10_opened_76 rfl rfl ?_
            refine pw_iload_n (pc' := 78) 1 rfl dX10_opened_77 rfl rfl ?_
            refine pw_iload_n (pc' := 79) 2 rfl dX10_opened_78 rfl rfl ?_
            refine pw_bipush (pc' := 81) rfl dX10_opened_79 cb_m4 ?_
            refine ps_callVV (pc' := 84) (As := [.int a1, .int a2, .int (-4)]) (rest := []) (cT := (RX10, TX10, 44)) 3 rfl dX10_opened_81 cv_X10_doorIs ml_X10_115 (by decide) rfl rfl (by decide) (Nat.le_of_ble_eq_true rfl) ob_182 rfl rfl (CA.monoV h ?_)
            intro M14 h
            refine pw_iload_n (pc' := 85) 3 rfl dX10_opened_84 rfl rfl ?_
            refine pw_iload (pc' := 87) 4 rfl dX10_opened_85 rfl ?_
            refine pw_icmp_le (pc' := 90) (tgt := 97) rfl dX10_opened_87 (by decide) (fun q15 => ?_) (fun q15 => ?_)
            · have h := h.1 q15
              refine pw_iconst (pc' := 98) rfl dX10_opened_97 ci_0 ?_
              exact ps_iret dX10_opened_98 rfl h
            · have h := h.2 q15
              refine pw_iload_n (pc' := 91) 3 rfl dX10_opened_90 rfl rfl ?_
              refine pw_iload (pc' := 93) 4 rfl dX10_opened_91 rfl ?_
              refine pw_isub (pc' := 94) rfl dX10_opened_93 ?_
              refine pw_goto (tgt := 98) dX10_opened_94 (by decide) ?_
              exact ps_iret dX10_opened_98 rfl h
          · have h := h.2 q8
            refine pw_bipush (pc' := 49) rfl dX10_opened_47 cb_m4 ?_
            exact ps_iret dX10_opened_49 rfl h
        · have h := h.2 q6
          refine pw_bipush (pc' := 32) rfl dX10_opened_30 cb_m2 ?_
          exact ps_iret dX10_opened_32 rfl h
      · have h := h.2 q4
        refine pw_iconst (pc' := 22) rfl dX10_opened_21 ci_m1 ?_
        exact ps_iret dX10_opened_22 rfl h
theorem T_X10_folk {M : Mem} {a1 : Int32} {Q : Int32 → Mem → Prop}  (h : C_X10_in M (a1.toInt64) (0 : Int64) (1 : Int64) (fun r0 M0 => ((¬ r0 = 0) → (((¬ (M0 182 28) = (nI 5)) → (vp_in (M0 182 28) 5 ∧ (Q (((M0 182 28) + (nI 1)) - (nI 1)) (wr (wr M0 200 (ix (M0 182 28)) a1) 182 28 ((M0 182 28) + (nI 1)))))) ∧ (((M0 182 28) = (nI 5)) → (Q (-3) M0)))) ∧ ((r0 = 0) → (Q (-1) M0)))) : C_X10_folk M a1 Q := by
  refine CA_of rfl (Nat.le_of_ble_eq_true rfl) ?_
  show PS _ _ 0 [(0, .ref 182), (1, .int a1)] [] M _
  refine pw_iload_n (pc' := 1) 1 rfl dX10_folk_0 rfl rfl ?_
  refine pw_i2l (pc' := 2) rfl dX10_folk_1 rfl ?_
  refine pw_lconst (pc' := 3) rfl dX10_folk_2 rfl ?_
  refine pw_lconst (pc' := 4) rfl dX10_folk_3 rfl ?_
  refine ps_callSI (pc' := 7) (As := [.long (a1.toInt64), .long (0 : Int64), .long (1 : Int64)]) (rest := []) 3 rfl dX10_folk_4 cs_X10_in ml_X10_98 (by decide) rfl rfl (by decide) (Nat.le_of_ble_eq_true rfl) (CA.monoI h ?_)
  intro r0 M0 h
  refine pw_if_ne (pc' := 10) (tgt := 12) rfl dX10_folk_7 (by decide) (fun q1 => ?_) (fun q1 => ?_)
  · have h := h.1 q1
    refine pw_aload_n (pc' := 13) 0 rfl dX10_folk_12 rfl rfl ?_
    refine ps_getI (pc' := 16) (v := (M0 182 28)) rfl dX10_folk_13 fl_X10_262 ob_182 rfl rfl ?_
    refine pw_iconst (pc' := 17) rfl dX10_folk_16 ci_5 ?_
    refine pw_icmp_ne (pc' := 20) (tgt := 23) rfl dX10_folk_17 (by decide) (fun q2 => ?_) (fun q2 => ?_)
    · have h := h.1 q2
      refine pw_aload_n (pc' := 24) 0 rfl dX10_folk_23 rfl rfl ?_
      refine ps_getR (pc' := 27) (r := 200) rfl dX10_folk_24 fl_X10_61 ob_182 rfl rfl ?_
      refine pw_aload_n (pc' := 28) 0 rfl dX10_folk_27 rfl rfl ?_
      refine ps_getI (pc' := 31) (v := (M0 182 28)) rfl dX10_folk_28 fl_X10_262 ob_182 rfl rfl ?_
      refine pw_iload_n (pc' := 32) 1 rfl dX10_folk_31 rfl rfl ?_
      obtain ⟨b3, h⟩ := h
      refine ps_iast (pc' := 33) rfl dX10_folk_32 ia_200 b3 ?_
      refine pw_aload_n (pc' := 34) 0 rfl dX10_folk_33 rfl rfl ?_
      refine pw_dup (pc' := 35) rfl dX10_folk_34 rfl ?_
      refine ps_getI (pc' := 38) (v := (M0 182 28)) rfl dX10_folk_35 fl_X10_262 ob_182 rfl rfl ?_
      refine pw_iconst (pc' := 39) rfl dX10_folk_38 ci_1 ?_
      refine pw_iadd (pc' := 40) rfl dX10_folk_39 ?_
      refine ps_putI (pc' := 43) rfl dX10_folk_40 fl_X10_262 ob_182 rfl ?_
      refine pw_aload_n (pc' := 44) 0 rfl dX10_folk_43 rfl rfl ?_
      refine ps_getI (pc' := 47) (v := ((M0 182 28) + (nI 1))) rfl dX10_folk_44 fl_X10_262 ob_182 rfl rfl ?_
      refine pw_iconst (pc' := 48) rfl dX10_folk_47 ci_1 ?_
      refine pw_isub (pc' := 49) rfl dX10_folk_48 ?_
      exact ps_iret dX10_folk_49 rfl h
    · have h := h.2 q2
      refine pw_bipush (pc' := 22) rfl dX10_folk_20 cb_m3 ?_
      exact ps_iret dX10_folk_22 rfl h
  · have h := h.2 q1
    refine pw_iconst (pc' := 11) rfl dX10_folk_10 ci_m1 ?_
    exact ps_iret dX10_folk_11 rfl h
theorem T_X10_say {M : Mem} {a1 : Int32} {a2 : Int32} {a3 : Int32} {a4 : Int32} {Q : Int32 → Mem → Prop}  (h : C_X10_isOne M a1 (fun r0 M0 => ((r0 = 0) → (Q (-1) M0)) ∧ ((¬ r0 = 0) → (C_X10_isOne M0 a2 (fun r2 M2 => ((r2 = 0) → (Q (-1) M2)) ∧ ((¬ r2 = 0) → (C_X10_isRoom M2 a3 (fun r4 M4 => ((r4 = 0) → (Q (-1) M4)) ∧ ((¬ r4 = 0) → (C_X10_isTick M4 a4 (fun r6 M6 => ((¬ r6 = 0) → (((¬ (M6 182 30) = (nI 12)) → (vp_in ((nI 4) * (M6 182 30)) 48 ∧ (vp_in (((nI 4) * (M6 182 30)) + (nI 1)) 48 ∧ (vp_in (((nI 4) * (M6 182 30)) + (nI 2)) 48 ∧ (vp_in (((nI 4) * (M6 182 30)) + (nI 3)) 48 ∧ (Q (((M6 182 30) + (nI 1)) - (nI 1)) (wr (wr (wr (wr (wr M6 201 (ix ((nI 4) * (M6 182 30))) a1) 201 (ix (((nI 4) * (M6 182 30)) + (nI 1))) a2) 201 (ix (((nI 4) * (M6 182 30)) + (nI 2))) a3) 201 (ix (((nI 4) * (M6 182 30)) + (nI 3))) a4) 182 30 ((M6 182 30) + (nI 1))))))))) ∧ (((M6 182 30) = (nI 12)) → (Q (-3) M6)))) ∧ ((r6 = 0) → (Q (-1) M6))))))))))))) : C_X10_say M a1 a2 a3 a4 Q := by
  refine CA_of rfl (Nat.le_of_ble_eq_true rfl) ?_
  show PS _ _ 0 [(0, .ref 182), (1, .int a1), (2, .int a2), (3, .int a3), (4, .int a4)] [] M _
  refine pw_aload_n (pc' := 1) 0 rfl dX10_say_0 rfl rfl ?_
  refine pw_iload_n (pc' := 2) 1 rfl dX10_say_1 rfl rfl ?_
  refine ps_callVI (pc' := 5) (As := [.int a1]) (rest := []) (cT := (RX10, TX10, 44)) 1 rfl dX10_say_2 cv_X10_isOne ml_X10_265 (by decide) rfl rfl (by decide) (Nat.le_of_ble_eq_true rfl) ob_182 rfl rfl (CA.monoI h ?_)
  intro r0 M0 h
  refine pw_if_eq (pc' := 8) (tgt := 32) rfl dX10_say_5 (by decide) (fun q1 => ?_) (fun q1 => ?_)
  · have h := h.1 q1
    refine pw_iconst (pc' := 33) rfl dX10_say_32 ci_m1 ?_
    exact ps_iret dX10_say_33 rfl h
  · have h := h.2 q1
    refine pw_aload_n (pc' := 9) 0 rfl dX10_say_8 rfl rfl ?_
    refine pw_iload_n (pc' := 10) 2 rfl dX10_say_9 rfl rfl ?_
    refine ps_callVI (pc' := 13) (As := [.int a2]) (rest := []) (cT := (RX10, TX10, 44)) 1 rfl dX10_say_10 cv_X10_isOne ml_X10_265 (by decide) rfl rfl (by decide) (Nat.le_of_ble_eq_true rfl) ob_182 rfl rfl (CA.monoI h ?_)
    intro r2 M2 h
    refine pw_if_eq (pc' := 16) (tgt := 32) rfl dX10_say_13 (by decide) (fun q3 => ?_) (fun q3 => ?_)
    · have h := h.1 q3
      refine pw_iconst (pc' := 33) rfl dX10_say_32 ci_m1 ?_
      exact ps_iret dX10_say_33 rfl h
    · have h := h.2 q3
      refine pw_aload_n (pc' := 17) 0 rfl dX10_say_16 rfl rfl ?_
      refine pw_iload_n (pc' := 18) 3 rfl dX10_say_17 rfl rfl ?_
      refine ps_callVI (pc' := 21) (As := [.int a3]) (rest := []) (cT := (RX10, TX10, 44)) 1 rfl dX10_say_18 cv_X10_isRoom ml_X10_108 (by decide) rfl rfl (by decide) (Nat.le_of_ble_eq_true rfl) ob_182 rfl rfl (CA.monoI h ?_)
      intro r4 M4 h
      refine pw_if_eq (pc' := 24) (tgt := 32) rfl dX10_say_21 (by decide) (fun q5 => ?_) (fun q5 => ?_)
      · have h := h.1 q5
        refine pw_iconst (pc' := 33) rfl dX10_say_32 ci_m1 ?_
        exact ps_iret dX10_say_33 rfl h
      · have h := h.2 q5
        refine pw_iload (pc' := 26) 4 rfl dX10_say_24 rfl ?_
        refine ps_callSI (pc' := 29) (As := [.int a4]) (rest := []) 1 rfl dX10_say_26 cs_X10_isTick ml_X10_164 (by decide) rfl rfl (by decide) (Nat.le_of_ble_eq_true rfl) (CA.monoI h ?_)
        intro r6 M6 h
        refine pw_if_ne (pc' := 32) (tgt := 34) rfl dX10_say_29 (by decide) (fun q7 => ?_) (fun q7 => ?_)
        · have h := h.1 q7
          refine pw_aload_n (pc' := 35) 0 rfl dX10_say_34 rfl rfl ?_
          refine ps_getI (pc' := 38) (v := (M6 182 30)) rfl dX10_say_35 fl_X10_268 ob_182 rfl rfl ?_
          refine pw_bipush (pc' := 40) rfl dX10_say_38 cb_12 ?_
          refine pw_icmp_ne (pc' := 43) (tgt := 46) rfl dX10_say_40 (by decide) (fun q8 => ?_) (fun q8 => ?_)
          · have h := h.1 q8
            refine pw_aload_n (pc' := 47) 0 rfl dX10_say_46 rfl rfl ?_
            refine ps_getR (pc' := 50) (r := 201) rfl dX10_say_47 fl_X10_64 ob_182 rfl rfl ?_
            refine pw_iconst (pc' := 51) rfl dX10_say_50 ci_4 ?_
            refine pw_aload_n (pc' := 52) 0 rfl dX10_say_51 rfl rfl ?_
            refine ps_getI (pc' := 55) (v := (M6 182 30)) rfl dX10_say_52 fl_X10_268 ob_182 rfl rfl ?_
            refine pw_imul (pc' := 56) rfl dX10_say_55 ?_
            refine pw_iload_n (pc' := 57) 1 rfl dX10_say_56 rfl rfl ?_
            obtain ⟨b9, h⟩ := h
            refine ps_iast (pc' := 58) rfl dX10_say_57 ia_201 b9 ?_
            refine pw_aload_n (pc' := 59) 0 rfl dX10_say_58 rfl rfl ?_
            refine ps_getR (pc' := 62) (r := 201) rfl dX10_say_59 fl_X10_64 ob_182 rfl rfl ?_
            refine pw_iconst (pc' := 63) rfl dX10_say_62 ci_4 ?_
            refine pw_aload_n (pc' := 64) 0 rfl dX10_say_63 rfl rfl ?_
            refine ps_getI (pc' := 67) (v := (M6 182 30)) rfl dX10_say_64 fl_X10_268 ob_182 rfl rfl ?_
            refine pw_imul (pc' := 68) rfl dX10_say_67 ?_
            refine pw_iconst (pc' := 69) rfl dX10_say_68 ci_1 ?_
            refine pw_iadd (pc' := 70) rfl dX10_say_69 ?_
            refine pw_iload_n (pc' := 71) 2 rfl dX10_say_70 rfl rfl ?_
            obtain ⟨b10, h⟩ := h
            refine ps_iast (pc' := 72) rfl dX10_say_71 ia_201 b10 ?_
            refine pw_aload_n (pc' := 73) 0 rfl dX10_say_72 rfl rfl ?_
            refine ps_getR (pc' := 76) (r := 201) rfl dX10_say_73 fl_X10_64 ob_182 rfl rfl ?_
            refine pw_iconst (pc' := 77) rfl dX10_say_76 ci_4 ?_
            refine pw_aload_n (pc' := 78) 0 rfl dX10_say_77 rfl rfl ?_
            refine ps_getI (pc' := 81) (v := (M6 182 30)) rfl dX10_say_78 fl_X10_268 ob_182 rfl rfl ?_
            refine pw_imul (pc' := 82) rfl dX10_say_81 ?_
            refine pw_iconst (pc' := 83) rfl dX10_say_82 ci_2 ?_
            refine pw_iadd (pc' := 84) rfl dX10_say_83 ?_
            refine pw_iload_n (pc' := 85) 3 rfl dX10_say_84 rfl rfl ?_
            obtain ⟨b11, h⟩ := h
            refine ps_iast (pc' := 86) rfl dX10_say_85 ia_201 b11 ?_
            refine pw_aload_n (pc' := 87) 0 rfl dX10_say_86 rfl rfl ?_
            refine ps_getR (pc' := 90) (r := 201) rfl dX10_say_87 fl_X10_64 ob_182 rfl rfl ?_
            refine pw_iconst (pc' := 91) rfl dX10_say_90 ci_4 ?_
            refine pw_aload_n (pc' := 92) 0 rfl dX10_say_91 rfl rfl ?_
            refine ps_getI (pc' := 95) (v := (M6 182 30)) rfl dX10_say_92 fl_X10_268 ob_182 rfl rfl ?_
            refine pw_imul (pc' := 96) rfl dX10_say_95 ?_
            refine pw_iconst (pc' := 97) rfl dX10_say_96 ci_3 ?_
            refine pw_iadd (pc' := 98) rfl dX10_say_97 ?_
            refine pw_iload (pc' := 100) 4 rfl dX10_say_98 rfl ?_
            obtain ⟨b12, h⟩ := h
            refine ps_iast (pc' := 101) rfl dX10_say_100 ia_201 b12 ?_
            refine pw_aload_n (pc' := 102) 0 rfl dX10_say_101 rfl rfl ?_
            refine pw_dup (pc' := 103) rfl dX10_say_102 rfl ?_
            refine ps_getI (pc' := 106) (v := (M6 182 30)) rfl dX10_say_103 fl_X10_268 ob_182 rfl rfl ?_
            refine pw_iconst (pc' := 107) rfl dX10_say_106 ci_1 ?_
            refine pw_iadd (pc' := 108) rfl dX10_say_107 ?_
            refine ps_putI (pc' := 111) rfl dX10_say_108 fl_X10_268 ob_182 rfl ?_
            refine pw_aload_n (pc' := 112) 0 rfl dX10_say_111 rfl rfl ?_
            refine ps_getI (pc' := 115) (v := ((M6 182 30) + (nI 1))) rfl dX10_say_112 fl_X10_268 ob_182 rfl rfl ?_
            refine pw_iconst (pc' := 116) rfl dX10_say_115 ci_1 ?_
            refine pw_isub (pc' := 117) rfl dX10_say_116 ?_
            exact ps_iret dX10_say_117 rfl h
          · have h := h.2 q8
            refine pw_bipush (pc' := 45) rfl dX10_say_43 cb_m3 ?_
            exact ps_iret dX10_say_45 rfl h
        · have h := h.2 q7
          refine pw_iconst (pc' := 33) rfl dX10_say_32 ci_m1 ?_
          exact ps_iret dX10_say_33 rfl h
theorem T_X10_isOne {M : Mem} {a1 : Int32} {Q : Int32 → Mem → Prop}  (h : C_X10_in M (a1.toInt64) (0 : Int64) (((M 182 28) - (nI 1)).toInt64) (fun r0 M0 => (r0 = 0 ∨ r0 = 1) ∧ Q r0 M0)) : C_X10_isOne M a1 Q := by
  refine CA_of rfl (Nat.le_of_ble_eq_true rfl) ?_
  show PS _ _ 0 [(0, .ref 182), (1, .int a1)] [] M _
  refine pw_iload_n (pc' := 1) 1 rfl dX10_isOne_0 rfl rfl ?_
  refine pw_i2l (pc' := 2) rfl dX10_isOne_1 rfl ?_
  refine pw_lconst (pc' := 3) rfl dX10_isOne_2 rfl ?_
  refine pw_aload_n (pc' := 4) 0 rfl dX10_isOne_3 rfl rfl ?_
  refine ps_getI (pc' := 7) (v := (M 182 28)) rfl dX10_isOne_4 fl_X10_262 ob_182 rfl rfl ?_
  refine pw_iconst (pc' := 8) rfl dX10_isOne_7 ci_1 ?_
  refine pw_isub (pc' := 9) rfl dX10_isOne_8 ?_
  refine pw_i2l (pc' := 10) rfl dX10_isOne_9 rfl ?_
  refine ps_callSI (pc' := 13) (As := [.long (a1.toInt64), .long (0 : Int64), .long (((M 182 28) - (nI 1)).toInt64)]) (rest := []) 3 rfl dX10_isOne_10 cs_X10_in ml_X10_98 (by decide) rfl rfl (by decide) (Nat.le_of_ble_eq_true rfl) (CA.monoI h ?_)
  intro r0 M0 h
  exact ps_zret dX10_isOne_13 rfl h.1 h.2
theorem T_X10_sayings {M : Mem}  {Q : Int32 → Mem → Prop}  (h : P_X10_sayings_14 (wr (wr M 182 8 (nI 0)) 182 9 (nI 0)) (nI 0) (nI 1) Q) : C_X10_sayings M  Q := by
  refine CA_of rfl (Nat.le_of_ble_eq_true rfl) ?_
  show PS _ _ 0 [(0, .ref 182)] [] M _
  refine pw_aload_n (pc' := 1) 0 rfl dX10_sayings_0 rfl rfl ?_
  refine pw_iconst (pc' := 2) rfl dX10_sayings_1 ci_0 ?_
  refine ps_putI (pc' := 5) rfl dX10_sayings_2 fl_X10_137 ob_182 rfl ?_
  refine pw_aload_n (pc' := 6) 0 rfl dX10_sayings_5 rfl rfl ?_
  refine pw_iconst (pc' := 7) rfl dX10_sayings_6 ci_0 ?_
  refine ps_putZ (pc' := 10) rfl dX10_sayings_7 fl_X10_140 ob_182 rfl (by decide) ?_
  refine pw_iconst (pc' := 11) rfl dX10_sayings_10 ci_0 ?_
  refine pw_istore_n (pc' := 12) (lv' := [(0, .ref 182), (1, .int (nI 0))]) [1, 0] rfl dX10_sayings_11 rfl (by decide) rfl ?_
  refine pw_iconst (pc' := 13) rfl dX10_sayings_12 ci_1 ?_
  refine pw_istore_n (pc' := 14) (lv' := [(0, .ref 182), (1, .int (nI 0)), (2, .int (nI 1))]) [1, 2, 0] rfl dX10_sayings_13 rfl (by decide) rfl ?_
  exact pw_sub [0, 1, 2] rfl h
theorem T_X10_sayings_14 {M : Mem} {a1 : Int32} {a2 : Int32} {Q : Int32 → Mem → Prop}  (h : ((a2 = 0) → (((¬ (M 182 9) = 0) → (P_X10_sayings_159 M a1 (nI 1) Q)) ∧ (((M 182 9) = 0) → (C_X10_here M (fun r2 M2 => ((r2 = 0) → (P_X10_sayings_159 M2 a1 (nI 0) Q)) ∧ ((¬ r2 = 0) → (P_X10_sayings_159 M2 a1 (nI 1) Q))))))) ∧ ((¬ a2 = 0) → (C_X10_letter M (M 182 28) (fun r1 M1 => vp_in ((nI 4) * a1) 24 ∧ (C_X10_letter (wr M1 202 (ix ((nI 4) * a1)) r1) (M1 182 28) (fun r3 M3 => vp_in (((nI 4) * a1) + (nI 1)) 24 ∧ (C_X10_letter (wr M3 202 (ix (((nI 4) * a1) + (nI 1))) r3) (M3 182 0) (fun r5 M5 => vp_in (((nI 4) * a1) + (nI 2)) 24 ∧ (C_X10_number (wr M5 202 (ix (((nI 4) * a1) + (nI 2))) r5) (nI 0) (nI 23) (fun r7 M7 => vp_in (((nI 4) * a1) + (nI 3)) 24 ∧ (((¬ (M7 182 9) = 0) → ((((nI 0) = 0) → (P_X10_sayings_14 (wr (wr M7 202 (ix (((nI 4) * a1) + (nI 3))) r7) 182 8 ((M7 182 8) + (nI 0))) (a1 + (nI 1)) (nI 0) Q)) ∧ ((¬ (nI 0) = 0) → (P_X10_sayings_14 (wr (wr M7 202 (ix (((nI 4) * a1) + (nI 3))) r7) 182 8 ((M7 182 8) + (nI 1))) (a1 + (nI 1)) (nI 0) Q)))) ∧ (((M7 182 9) = 0) → ((((nI 6) ≤ (a1 + (nI 1))) → ((((nI 0) = 0) → (P_X10_sayings_14 (wr (wr M7 202 (ix (((nI 4) * a1) + (nI 3))) r7) 182 8 ((M7 182 8) + (nI 0))) (a1 + (nI 1)) (nI 0) Q)) ∧ ((¬ (nI 0) = 0) → (P_X10_sayings_14 (wr (wr M7 202 (ix (((nI 4) * a1) + (nI 3))) r7) 182 8 ((M7 182 8) + (nI 1))) (a1 + (nI 1)) (nI 0) Q)))) ∧ ((¬ (nI 6) ≤ (a1 + (nI 1))) → (C_X10_here (wr M7 202 (ix (((nI 4) * a1) + (nI 3))) r7) (fun r11 M11 => ((¬ r11 = (nI 59)) → ((((nI 0) = 0) → (P_X10_sayings_14 (wr M11 182 8 ((M11 182 8) + (nI 0))) (a1 + (nI 1)) (nI 0) Q)) ∧ ((¬ (nI 0) = 0) → (P_X10_sayings_14 (wr M11 182 8 ((M11 182 8) + (nI 1))) (a1 + (nI 1)) (nI 0) Q)))) ∧ ((r11 = (nI 59)) → ((((nI 1) = 0) → (P_X10_sayings_14 (wr M11 182 8 ((M11 182 8) + (nI 0))) (a1 + (nI 1)) (nI 1) Q)) ∧ ((¬ (nI 1) = 0) → (P_X10_sayings_14 (wr M11 182 8 ((M11 182 8) + (nI 1))) (a1 + (nI 1)) (nI 1) Q)))))))))))))))))))) : P_X10_sayings_14 M a1 a2 Q := by
  refine pw_iload_n (pc' := 15) 2 rfl dX10_sayings_14 rfl rfl ?_
  refine pw_if_eq (pc' := 18) (tgt := 139) rfl dX10_sayings_15 (by decide) (fun q0 => ?_) (fun q0 => ?_)
  · have h := h.1 q0
    refine pw_aload_n (pc' := 140) 0 rfl dX10_sayings_139 rfl rfl ?_
    refine pw_aload_n (pc' := 141) 0 rfl dX10_sayings_140 rfl rfl ?_
    refine ps_getI (pc' := 144) (v := (M 182 9)) rfl dX10_sayings_141 fl_X10_140 ob_182 rfl rfl ?_
    refine pw_if_ne (pc' := 147) (tgt := 154) rfl dX10_sayings_144 (by decide) (fun q1 => ?_) (fun q1 => ?_)
    · have h := h.1 q1
      refine pw_iconst (pc' := 155) rfl dX10_sayings_154 ci_1 ?_
      refine pw_goto (tgt := 159) dX10_sayings_155 (by decide) ?_
      exact pw_sub [0, 1] rfl h
    · have h := h.2 q1
      refine pw_aload_n (pc' := 148) 0 rfl dX10_sayings_147 rfl rfl ?_
      refine ps_callVI (pc' := 151) (As := []) (rest := [.ref 182]) (cT := (RX10, TX10, 44)) 0 rfl dX10_sayings_148 cv_X10_here ml_X10_143 (by decide) rfl rfl (by decide) (Nat.le_of_ble_eq_true rfl) ob_182 rfl rfl (CA.monoI h ?_)
      intro r2 M2 h
      refine pw_if_eq (pc' := 154) (tgt := 158) rfl dX10_sayings_151 (by decide) (fun q3 => ?_) (fun q3 => ?_)
      · have h := h.1 q3
        refine pw_iconst (pc' := 159) rfl dX10_sayings_158 ci_0 ?_
        exact pw_sub [0, 1] rfl h
      · have h := h.2 q3
        refine pw_iconst (pc' := 155) rfl dX10_sayings_154 ci_1 ?_
        refine pw_goto (tgt := 159) dX10_sayings_155 (by decide) ?_
        exact pw_sub [0, 1] rfl h
  · have h := h.2 q0
    refine pw_aload_n (pc' := 19) 0 rfl dX10_sayings_18 rfl rfl ?_
    refine ps_getR (pc' := 22) (r := 202) rfl dX10_sayings_19 fl_X10_71 ob_182 rfl rfl ?_
    refine pw_iconst (pc' := 23) rfl dX10_sayings_22 ci_4 ?_
    refine pw_iload_n (pc' := 24) 1 rfl dX10_sayings_23 rfl rfl ?_
    refine pw_imul (pc' := 25) rfl dX10_sayings_24 ?_
    refine pw_aload_n (pc' := 26) 0 rfl dX10_sayings_25 rfl rfl ?_
    refine pw_aload_n (pc' := 27) 0 rfl dX10_sayings_26 rfl rfl ?_
    refine ps_getI (pc' := 30) (v := (M 182 28)) rfl dX10_sayings_27 fl_X10_262 ob_182 rfl rfl ?_
    refine ps_callVI (pc' := 33) (As := [.int (M 182 28)]) (rest := [.int ((nI 4) * a1), .ref 202]) (cT := (RX10, TX10, 44)) 1 rfl dX10_sayings_30 cv_X10_letter ml_X10_153 (by decide) rfl rfl (by decide) (Nat.le_of_ble_eq_true rfl) ob_182 rfl rfl (CA.monoI h ?_)
    intro r1 M1 h
    obtain ⟨b2, h⟩ := h
    refine ps_iast (pc' := 34) rfl dX10_sayings_33 ia_202 b2 ?_
    refine pw_aload_n (pc' := 35) 0 rfl dX10_sayings_34 rfl rfl ?_
    refine ps_getR (pc' := 38) (r := 202) rfl dX10_sayings_35 fl_X10_71 ob_182 rfl rfl ?_
    refine pw_iconst (pc' := 39) rfl dX10_sayings_38 ci_4 ?_
    refine pw_iload_n (pc' := 40) 1 rfl dX10_sayings_39 rfl rfl ?_
    refine pw_imul (pc' := 41) rfl dX10_sayings_40 ?_
    refine pw_iconst (pc' := 42) rfl dX10_sayings_41 ci_1 ?_
    refine pw_iadd (pc' := 43) rfl dX10_sayings_42 ?_
    refine pw_aload_n (pc' := 44) 0 rfl dX10_sayings_43 rfl rfl ?_
    refine pw_aload_n (pc' := 45) 0 rfl dX10_sayings_44 rfl rfl ?_
    refine ps_getI (pc' := 48) (v := (M1 182 28)) rfl dX10_sayings_45 fl_X10_262 ob_182 rfl rfl ?_
    refine ps_callVI (pc' := 51) (As := [.int (M1 182 28)]) (rest := [.int (((nI 4) * a1) + (nI 1)), .ref 202]) (cT := (RX10, TX10, 44)) 1 rfl dX10_sayings_48 cv_X10_letter ml_X10_153 (by decide) rfl rfl (by decide) (Nat.le_of_ble_eq_true rfl) ob_182 rfl rfl (CA.monoI h ?_)
    intro r3 M3 h
    obtain ⟨b4, h⟩ := h
    refine ps_iast (pc' := 52) rfl dX10_sayings_51 ia_202 b4 ?_
    refine pw_aload_n (pc' := 53) 0 rfl dX10_sayings_52 rfl rfl ?_
    refine ps_getR (pc' := 56) (r := 202) rfl dX10_sayings_53 fl_X10_71 ob_182 rfl rfl ?_
    refine pw_iconst (pc' := 57) rfl dX10_sayings_56 ci_4 ?_
    refine pw_iload_n (pc' := 58) 1 rfl dX10_sayings_57 rfl rfl ?_
    refine pw_imul (pc' := 59) rfl dX10_sayings_58 ?_
    refine pw_iconst (pc' := 60) rfl dX10_sayings_59 ci_2 ?_
    refine pw_iadd (pc' := 61) rfl dX10_sayings_60 ?_
    refine pw_aload_n (pc' := 62) 0 rfl dX10_sayings_61 rfl rfl ?_
    refine pw_aload_n (pc' := 63) 0 rfl dX10_sayings_62 rfl rfl ?_
    refine ps_getI (pc' := 66) (v := (M3 182 0)) rfl dX10_sayings_63 fl_X10_95 ob_182 rfl rfl ?_
    refine ps_callVI (pc' := 69) (As := [.int (M3 182 0)]) (rest := [.int (((nI 4) * a1) + (nI 2)), .ref 202]) (cT := (RX10, TX10, 44)) 1 rfl dX10_sayings_66 cv_X10_letter ml_X10_153 (by decide) rfl rfl (by decide) (Nat.le_of_ble_eq_true rfl) ob_182 rfl rfl (CA.monoI h ?_)
    intro r5 M5 h
    obtain ⟨b6, h⟩ := h
    refine ps_iast (pc' := 70) rfl dX10_sayings_69 ia_202 b6 ?_
    refine pw_aload_n (pc' := 71) 0 rfl dX10_sayings_70 rfl rfl ?_
    refine ps_getR (pc' := 74) (r := 202) rfl dX10_sayings_71 fl_X10_71 ob_182 rfl rfl ?_
    refine pw_iconst (pc' := 75) rfl dX10_sayings_74 ci_4 ?_
    refine pw_iload_n (pc' := 76) 1 rfl dX10_sayings_75 rfl rfl ?_
    refine pw_imul (pc' := 77) rfl dX10_sayings_76 ?_
    refine pw_iconst (pc' := 78) rfl dX10_sayings_77 ci_3 ?_
    refine pw_iadd (pc' := 79) rfl dX10_sayings_78 ?_
    refine pw_aload_n (pc' := 80) 0 rfl dX10_sayings_79 rfl rfl ?_
    refine pw_iconst (pc' := 81) rfl dX10_sayings_80 ci_0 ?_
    refine pw_bipush (pc' := 83) rfl dX10_sayings_81 cb_23 ?_
    refine ps_callVI (pc' := 86) (As := [.int (nI 0), .int (nI 23)]) (rest := [.int (((nI 4) * a1) + (nI 3)), .ref 202]) (cT := (RX10, TX10, 44)) 2 rfl dX10_sayings_83 cv_X10_number ml_X10_157 (by decide) rfl rfl (by decide) (Nat.le_of_ble_eq_true rfl) ob_182 rfl rfl (CA.monoI h ?_)
    intro r7 M7 h
    obtain ⟨b8, h⟩ := h
    refine ps_iast (pc' := 87) rfl dX10_sayings_86 ia_202 b8 ?_
    refine pw_iinc (pc' := 90) (lv' := [(0, .ref 182), (1, .int (a1 + (nI 1))), (2, .int a2)]) 1 [1, 0, 2] rfl dX10_sayings_87 rfl (ii_1 _) (by decide) rfl ?_
    refine pw_aload_n (pc' := 91) 0 rfl dX10_sayings_90 rfl rfl ?_
    refine ps_getI (pc' := 94) (v := (M7 182 9)) rfl dX10_sayings_91 fl_X10_140 ob_182 rfl rfl ?_
    refine pw_if_ne (pc' := 97) (tgt := 116) rfl dX10_sayings_94 (by decide) (fun q9 => ?_) (fun q9 => ?_)
    · have h := h.1 q9
      refine pw_iconst (pc' := 117) rfl dX10_sayings_116 ci_0 ?_
      refine pw_istore_n (pc' := 118) (lv' := [(0, .ref 182), (1, .int (a1 + (nI 1))), (2, .int (nI 0))]) [1, 2, 0] rfl dX10_sayings_117 rfl (by decide) rfl ?_
      refine pw_aload_n (pc' := 119) 0 rfl dX10_sayings_118 rfl rfl ?_
      refine pw_dup (pc' := 120) rfl dX10_sayings_119 rfl ?_
      refine ps_getI (pc' := 123) (v := (M7 182 8)) rfl dX10_sayings_120 fl_X10_137 ob_182 rfl rfl ?_
      refine pw_iload_n (pc' := 124) 2 rfl dX10_sayings_123 rfl rfl ?_
      refine pw_if_eq (pc' := 127) (tgt := 131) rfl dX10_sayings_124 (by decide) (fun q10 => ?_) (fun q10 => ?_)
      · have h := h.1 q10
        refine pw_iconst (pc' := 132) rfl dX10_sayings_131 ci_0 ?_
        refine pw_iadd (pc' := 133) rfl dX10_sayings_132 ?_
        refine ps_putI (pc' := 136) rfl dX10_sayings_133 fl_X10_137 ob_182 rfl ?_
        refine pw_goto (tgt := 14) dX10_sayings_136 (by decide) ?_
        exact pw_sub [0, 1, 2] rfl h
      · have h := h.2 q10
        refine pw_iconst (pc' := 128) rfl dX10_sayings_127 ci_1 ?_
        refine pw_goto (tgt := 132) dX10_sayings_128 (by decide) ?_
        refine pw_iadd (pc' := 133) rfl dX10_sayings_132 ?_
        refine ps_putI (pc' := 136) rfl dX10_sayings_133 fl_X10_137 ob_182 rfl ?_
        refine pw_goto (tgt := 14) dX10_sayings_136 (by decide) ?_
        exact pw_sub [0, 1, 2] rfl h
    · have h := h.2 q9
      refine pw_iload_n (pc' := 98) 1 rfl dX10_sayings_97 rfl rfl ?_
      refine pw_bipush (pc' := 100) rfl dX10_sayings_98 cb_6 ?_
      refine pw_icmp_ge (pc' := 103) (tgt := 116) rfl dX10_sayings_100 (by decide) (fun q10 => ?_) (fun q10 => ?_)
      · have h := h.1 q10
        refine pw_iconst (pc' := 117) rfl dX10_sayings_116 ci_0 ?_
        refine pw_istore_n (pc' := 118) (lv' := [(0, .ref 182), (1, .int (a1 + (nI 1))), (2, .int (nI 0))]) [1, 2, 0] rfl dX10_sayings_117 rfl (by decide) rfl ?_
        refine pw_aload_n (pc' := 119) 0 rfl dX10_sayings_118 rfl rfl ?_
        refine pw_dup (pc' := 120) rfl dX10_sayings_119 rfl ?_
        refine ps_getI (pc' := 123) (v := (M7 182 8)) rfl dX10_sayings_120 fl_X10_137 ob_182 rfl rfl ?_
        refine pw_iload_n (pc' := 124) 2 rfl dX10_sayings_123 rfl rfl ?_
        refine pw_if_eq (pc' := 127) (tgt := 131) rfl dX10_sayings_124 (by decide) (fun q11 => ?_) (fun q11 => ?_)
        · have h := h.1 q11
          refine pw_iconst (pc' := 132) rfl dX10_sayings_131 ci_0 ?_
          refine pw_iadd (pc' := 133) rfl dX10_sayings_132 ?_
          refine ps_putI (pc' := 136) rfl dX10_sayings_133 fl_X10_137 ob_182 rfl ?_
          refine pw_goto (tgt := 14) dX10_sayings_136 (by decide) ?_
          exact pw_sub [0, 1, 2] rfl h
        · have h := h.2 q11
          refine pw_iconst (pc' := 128) rfl dX10_sayings_127 ci_1 ?_
          refine pw_goto (tgt := 132) dX10_sayings_128 (by decide) ?_
          refine pw_iadd (pc' := 133) rfl dX10_sayings_132 ?_
          refine ps_putI (pc' := 136) rfl dX10_sayings_133 fl_X10_137 ob_182 rfl ?_
          refine pw_goto (tgt := 14) dX10_sayings_136 (by decide) ?_
          exact pw_sub [0, 1, 2] rfl h
      · have h := h.2 q10
        refine pw_aload_n (pc' := 104) 0 rfl dX10_sayings_103 rfl rfl ?_
        refine ps_callVI (pc' := 107) (As := []) (rest := []) (cT := (RX10, TX10, 44)) 0 rfl dX10_sayings_104 cv_X10_here ml_X10_143 (by decide) rfl rfl (by decide) (Nat.le_of_ble_eq_true rfl) ob_182 rfl rfl (CA.monoI h ?_)
        intro r11 M11 h
        refine pw_bipush (pc' := 109) rfl dX10_sayings_107 cb_59 ?_
        refine pw_icmp_ne (pc' := 112) (tgt := 116) rfl dX10_sayings_109 (by decide) (fun q12 => ?_) (fun q12 => ?_)
        · have h := h.1 q12
          refine pw_iconst (pc' := 117) rfl dX10_sayings_116 ci_0 ?_
          refine pw_istore_n (pc' := 118) (lv' := [(0, .ref 182), (1, .int (a1 + (nI 1))), (2, .int (nI 0))]) [1, 2, 0] rfl dX10_sayings_117 rfl (by decide) rfl ?_
          refine pw_aload_n (pc' := 119) 0 rfl dX10_sayings_118 rfl rfl ?_
          refine pw_dup (pc' := 120) rfl dX10_sayings_119 rfl ?_
          refine ps_getI (pc' := 123) (v := (M11 182 8)) rfl dX10_sayings_120 fl_X10_137 ob_182 rfl rfl ?_
          refine pw_iload_n (pc' := 124) 2 rfl dX10_sayings_123 rfl rfl ?_
          refine pw_if_eq (pc' := 127) (tgt := 131) rfl dX10_sayings_124 (by decide) (fun q13 => ?_) (fun q13 => ?_)
          · have h := h.1 q13
            refine pw_iconst (pc' := 132) rfl dX10_sayings_131 ci_0 ?_
            refine pw_iadd (pc' := 133) rfl dX10_sayings_132 ?_
            refine ps_putI (pc' := 136) rfl dX10_sayings_133 fl_X10_137 ob_182 rfl ?_
            refine pw_goto (tgt := 14) dX10_sayings_136 (by decide) ?_
            exact pw_sub [0, 1, 2] rfl h
          · have h := h.2 q13
            refine pw_iconst (pc' := 128) rfl dX10_sayings_127 ci_1 ?_
            refine pw_goto (tgt := 132) dX10_sayings_128 (by decide) ?_
            refine pw_iadd (pc' := 133) rfl dX10_sayings_132 ?_
            refine ps_putI (pc' := 136) rfl dX10_sayings_133 fl_X10_137 ob_182 rfl ?_
            refine pw_goto (tgt := 14) dX10_sayings_136 (by decide) ?_
            exact pw_sub [0, 1, 2] rfl h
        · have h := h.2 q12
          refine pw_iconst (pc' := 113) rfl dX10_sayings_112 ci_1 ?_
          refine pw_goto (tgt := 117) dX10_sayings_113 (by decide) ?_
          refine pw_istore_n (pc' := 118) (lv' := [(0, .ref 182), (1, .int (a1 + (nI 1))), (2, .int (nI 1))]) [1, 2, 0] rfl dX10_sayings_117 rfl (by decide) rfl ?_
          refine pw_aload_n (pc' := 119) 0 rfl dX10_sayings_118 rfl rfl ?_
          refine pw_dup (pc' := 120) rfl dX10_sayings_119 rfl ?_
          refine ps_getI (pc' := 123) (v := (M11 182 8)) rfl dX10_sayings_120 fl_X10_137 ob_182 rfl rfl ?_
          refine pw_iload_n (pc' := 124) 2 rfl dX10_sayings_123 rfl rfl ?_
          refine pw_if_eq (pc' := 127) (tgt := 131) rfl dX10_sayings_124 (by decide) (fun q13 => ?_) (fun q13 => ?_)
          · have h := h.1 q13
            refine pw_iconst (pc' := 132) rfl dX10_sayings_131 ci_0 ?_
            refine pw_iadd (pc' := 133) rfl dX10_sayings_132 ?_
            refine ps_putI (pc' := 136) rfl dX10_sayings_133 fl_X10_137 ob_182 rfl ?_
            refine pw_goto (tgt := 14) dX10_sayings_136 (by decide) ?_
            exact pw_sub [0, 1, 2] rfl h
          · have h := h.2 q13
            refine pw_iconst (pc' := 128) rfl dX10_sayings_127 ci_1 ?_
            refine pw_goto (tgt := 132) dX10_sayings_128 (by decide) ?_
            refine pw_iadd (pc' := 133) rfl dX10_sayings_132 ?_
            refine ps_putI (pc' := 136) rfl dX10_sayings_133 fl_X10_137 ob_182 rfl ?_
            refine pw_goto (tgt := 14) dX10_sayings_136 (by decide) ?_
            exact pw_sub [0, 1, 2] rfl h
theorem T_X10_sayings_159 {M : Mem} {a1 : Int32} {s1 : Int32} {Q : Int32 → Mem → Prop}  (h : (s1 = 0 ∨ s1 = 1) ∧ (((s1 = 0) → (((((M 182 30) + a1) ≤ (nI 12)) → (P_X10_sayings_198 (wr (wr M 182 9 s1) 182 7 (nI 0)) a1 (nI 0) Q)) ∧ ((¬ ((M 182 30) + a1) ≤ (nI 12)) → (Q (-3) (wr (wr M 182 9 s1) 182 7 (nI 0)))))) ∧ ((¬ s1 = 0) → (Q ((-20) - (M 182 8)) (wr (wr M 182 9 s1) 182 7 (nI 0)))))) : P_X10_sayings_159 M a1 s1 Q := by
  obtain ⟨z0, h⟩ := h
  refine ps_putZ (pc' := 162) rfl dX10_sayings_159 fl_X10_140 ob_182 rfl z0 ?_
  refine pw_aload_n (pc' := 163) 0 rfl dX10_sayings_162 rfl rfl ?_
  refine pw_iconst (pc' := 164) rfl dX10_sayings_163 ci_0 ?_
  refine ps_putI (pc' := 167) rfl dX10_sayings_164 fl_X10_134 ob_182 rfl ?_
  refine pw_aload_n (pc' := 168) 0 rfl dX10_sayings_167 rfl rfl ?_
  refine ps_getI (pc' := 171) (v := s1) rfl dX10_sayings_168 fl_X10_140 ob_182 rfl rfl ?_
  refine pw_if_eq (pc' := 174) (tgt := 182) rfl dX10_sayings_171 (by decide) (fun q1 => ?_) (fun q1 => ?_)
  · have h := h.1 q1
    refine pw_aload_n (pc' := 183) 0 rfl dX10_sayings_182 rfl rfl ?_
    refine ps_getI (pc' := 186) (v := (M 182 30)) rfl dX10_sayings_183 fl_X10_268 ob_182 rfl rfl ?_
    refine pw_iload_n (pc' := 187) 1 rfl dX10_sayings_186 rfl rfl ?_
    refine pw_iadd (pc' := 188) rfl dX10_sayings_187 ?_
    refine pw_bipush (pc' := 190) rfl dX10_sayings_188 cb_12 ?_
    refine pw_icmp_le (pc' := 193) (tgt := 196) rfl dX10_sayings_190 (by decide) (fun q2 => ?_) (fun q2 => ?_)
    · have h := h.1 q2
      refine pw_iconst (pc' := 197) rfl dX10_sayings_196 ci_0 ?_
      refine pw_istore_n (pc' := 198) (lv' := [(0, .ref 182), (1, .int a1), (3, .int (nI 0))]) [1, 2, 0] rfl dX10_sayings_197 rfl (by decide) rfl ?_
      exact pw_sub [0, 1, 2] rfl h
    · have h := h.2 q2
      refine pw_bipush (pc' := 195) rfl dX10_sayings_193 cb_m3 ?_
      exact ps_iret dX10_sayings_195 rfl h
  · have h := h.2 q1
    refine pw_bipush (pc' := 176) rfl dX10_sayings_174 cb_m20 ?_
    refine pw_aload_n (pc' := 177) 0 rfl dX10_sayings_176 rfl rfl ?_
    refine ps_getI (pc' := 180) (v := (M 182 8)) rfl dX10_sayings_177 fl_X10_137 ob_182 rfl rfl ?_
    refine pw_isub (pc' := 181) rfl dX10_sayings_180 ?_
    exact ps_iret dX10_sayings_181 rfl h
theorem T_X10_sayings_198 {M : Mem} {a1 : Int32} {a3 : Int32} {Q : Int32 → Mem → Prop}  (h : ((((nI 4) * a1) ≤ a3) → (Q a1 (wr M 182 30 ((M 182 30) + a1)))) ∧ ((¬ ((nI 4) * a1) ≤ a3) → (vp_in a3 24 ∧ (vp_in (((nI 4) * (M 182 30)) + a3) 48 ∧ (P_X10_sayings_198 (wr M 201 (ix (((nI 4) * (M 182 30)) + a3)) (M 202 (ix a3))) a1 (a3 + (nI 1)) Q))))) : P_X10_sayings_198 M a1 a3 Q := by
  refine pw_iload_n (pc' := 199) 2 rfl dX10_sayings_198 rfl rfl ?_
  refine pw_iconst (pc' := 200) rfl dX10_sayings_199 ci_4 ?_
  refine pw_iload_n (pc' := 201) 1 rfl dX10_sayings_200 rfl rfl ?_
  refine pw_imul (pc' := 202) rfl dX10_sayings_201 ?_
  refine pw_icmp_ge (pc' := 205) (tgt := 230) rfl dX10_sayings_202 (by decide) (fun q0 => ?_) (fun q0 => ?_)
  · have h := h.1 q0
    refine pw_aload_n (pc' := 231) 0 rfl dX10_sayings_230 rfl rfl ?_
    refine pw_dup (pc' := 232) rfl dX10_sayings_231 rfl ?_
    refine ps_getI (pc' := 235) (v := (M 182 30)) rfl dX10_sayings_232 fl_X10_268 ob_182 rfl rfl ?_
    refine pw_iload_n (pc' := 236) 1 rfl dX10_sayings_235 rfl rfl ?_
    refine pw_iadd (pc' := 237) rfl dX10_sayings_236 ?_
    refine ps_putI (pc' := 240) rfl dX10_sayings_237 fl_X10_268 ob_182 rfl ?_
    refine pw_iload_n (pc' := 241) 1 rfl dX10_sayings_240 rfl rfl ?_
    exact ps_iret dX10_sayings_241 rfl h
  · have h := h.2 q0
    refine pw_aload_n (pc' := 206) 0 rfl dX10_sayings_205 rfl rfl ?_
    refine ps_getR (pc' := 209) (r := 201) rfl dX10_sayings_206 fl_X10_64 ob_182 rfl rfl ?_
    refine pw_iconst (pc' := 210) rfl dX10_sayings_209 ci_4 ?_
    refine pw_aload_n (pc' := 211) 0 rfl dX10_sayings_210 rfl rfl ?_
    refine ps_getI (pc' := 214) (v := (M 182 30)) rfl dX10_sayings_211 fl_X10_268 ob_182 rfl rfl ?_
    refine pw_imul (pc' := 215) rfl dX10_sayings_214 ?_
    refine pw_iload_n (pc' := 216) 2 rfl dX10_sayings_215 rfl rfl ?_
    refine pw_iadd (pc' := 217) rfl dX10_sayings_216 ?_
    refine pw_aload_n (pc' := 218) 0 rfl dX10_sayings_217 rfl rfl ?_
    refine ps_getR (pc' := 221) (r := 202) rfl dX10_sayings_218 fl_X10_71 ob_182 rfl rfl ?_
    refine pw_iload_n (pc' := 222) 2 rfl dX10_sayings_221 rfl rfl ?_
    obtain ⟨b1, h⟩ := h
    refine ps_iald (pc' := 223) (v := (M 202 (ix a3))) rfl dX10_sayings_222 ia_202 b1 rfl ?_
    obtain ⟨b2, h⟩ := h
    refine ps_iast (pc' := 224) rfl dX10_sayings_223 ia_201 b2 ?_
    refine pw_iinc (pc' := 227) (lv' := [(0, .ref 182), (1, .int a1), (3, .int (a3 + (nI 1)))]) 2 [1, 2, 0] rfl dX10_sayings_224 rfl (ii_1 _) (by decide) rfl ?_
    refine pw_goto (tgt := 198) dX10_sayings_227 (by decide) ?_
    exact pw_sub [0, 1, 2] rfl h
theorem T_X10_unsay {M : Mem} {a1 : Int32} {Q : Int32 → Mem → Prop}  (h : C_X10_in M (a1.toInt64) (0 : Int64) (((M 182 30) - (nI 1)).toInt64) (fun r0 M0 => ((¬ r0 = 0) → (P_X10_unsay_32 (wr M0 182 30 ((M0 182 30) - (nI 1))) ((nI 4) * a1) Q)) ∧ ((r0 = 0) → (Q (-1) M0)))) : C_X10_unsay M a1 Q := by
  refine CA_of rfl (Nat.le_of_ble_eq_true rfl) ?_
  show PS _ _ 0 [(0, .ref 182), (1, .int a1)] [] M _
  refine pw_iload_n (pc' := 1) 1 rfl dX10_unsay_0 rfl rfl ?_
  refine pw_i2l (pc' := 2) rfl dX10_unsay_1 rfl ?_
  refine pw_lconst (pc' := 3) rfl dX10_unsay_2 rfl ?_
  refine pw_aload_n (pc' := 4) 0 rfl dX10_unsay_3 rfl rfl ?_
  refine ps_getI (pc' := 7) (v := (M 182 30)) rfl dX10_unsay_4 fl_X10_268 ob_182 rfl rfl ?_
  refine pw_iconst (pc' := 8) rfl dX10_unsay_7 ci_1 ?_
  refine pw_isub (pc' := 9) rfl dX10_unsay_8 ?_
  refine pw_i2l (pc' := 10) rfl dX10_unsay_9 rfl ?_
  refine ps_callSI (pc' := 13) (As := [.long (a1.toInt64), .long (0 : Int64), .long (((M 182 30) - (nI 1)).toInt64)]) (rest := []) 3 rfl dX10_unsay_10 cs_X10_in ml_X10_98 (by decide) rfl rfl (by decide) (Nat.le_of_ble_eq_true rfl) (CA.monoI h ?_)
  intro r0 M0 h
  refine pw_if_ne (pc' := 16) (tgt := 18) rfl dX10_unsay_13 (by decide) (fun q1 => ?_) (fun q1 => ?_)
  · have h := h.1 q1
    refine pw_aload_n (pc' := 19) 0 rfl dX10_unsay_18 rfl rfl ?_
    refine pw_dup (pc' := 20) rfl dX10_unsay_19 rfl ?_
    refine ps_getI (pc' := 23) (v := (M0 182 30)) rfl dX10_unsay_20 fl_X10_268 ob_182 rfl rfl ?_
    refine pw_iconst (pc' := 24) rfl dX10_unsay_23 ci_1 ?_
    refine pw_isub (pc' := 25) rfl dX10_unsay_24 ?_
    refine ps_putI (pc' := 28) rfl dX10_unsay_25 fl_X10_268 ob_182 rfl ?_
    refine pw_iconst (pc' := 29) rfl dX10_unsay_28 ci_4 ?_
    refine pw_iload_n (pc' := 30) 1 rfl dX10_unsay_29 rfl rfl ?_
    refine pw_imul (pc' := 31) rfl dX10_unsay_30 ?_
    refine pw_istore_n (pc' := 32) (lv' := [(0, .ref 182), (1, .int a1), (2, .int ((nI 4) * a1))]) [1, 2, 0] rfl dX10_unsay_31 rfl (by decide) rfl ?_
    exact pw_sub [0, 2] rfl h
  · have h := h.2 q1
    refine pw_iconst (pc' := 17) rfl dX10_unsay_16 ci_m1 ?_
    exact ps_iret dX10_unsay_17 rfl h
theorem T_X10_unsay_32 {M : Mem} {a2 : Int32} {Q : Int32 → Mem → Prop}  (h : ((((nI 4) * (M 182 30)) ≤ a2) → (Q (M 182 30) M)) ∧ ((¬ ((nI 4) * (M 182 30)) ≤ a2) → (vp_in (a2 + (nI 4)) 48 ∧ (vp_in a2 48 ∧ (P_X10_unsay_32 (wr M 201 (ix a2) (M 201 (ix (a2 + (nI 4))))) (a2 + (nI 1)) Q))))) : P_X10_unsay_32 M a2 Q := by
  refine pw_iload_n (pc' := 33) 1 rfl dX10_unsay_32 rfl rfl ?_
  refine pw_iconst (pc' := 34) rfl dX10_unsay_33 ci_4 ?_
  refine pw_aload_n (pc' := 35) 0 rfl dX10_unsay_34 rfl rfl ?_
  refine ps_getI (pc' := 38) (v := (M 182 30)) rfl dX10_unsay_35 fl_X10_268 ob_182 rfl rfl ?_
  refine pw_imul (pc' := 39) rfl dX10_unsay_38 ?_
  refine pw_icmp_ge (pc' := 42) (tgt := 62) rfl dX10_unsay_39 (by decide) (fun q0 => ?_) (fun q0 => ?_)
  · have h := h.1 q0
    refine pw_aload_n (pc' := 63) 0 rfl dX10_unsay_62 rfl rfl ?_
    refine ps_getI (pc' := 66) (v := (M 182 30)) rfl dX10_unsay_63 fl_X10_268 ob_182 rfl rfl ?_
    exact ps_iret dX10_unsay_66 rfl h
  · have h := h.2 q0
    refine pw_aload_n (pc' := 43) 0 rfl dX10_unsay_42 rfl rfl ?_
    refine ps_getR (pc' := 46) (r := 201) rfl dX10_unsay_43 fl_X10_64 ob_182 rfl rfl ?_
    refine pw_iload_n (pc' := 47) 1 rfl dX10_unsay_46 rfl rfl ?_
    refine pw_aload_n (pc' := 48) 0 rfl dX10_unsay_47 rfl rfl ?_
    refine ps_getR (pc' := 51) (r := 201) rfl dX10_unsay_48 fl_X10_64 ob_182 rfl rfl ?_
    refine pw_iload_n (pc' := 52) 1 rfl dX10_unsay_51 rfl rfl ?_
    refine pw_iconst (pc' := 53) rfl dX10_unsay_52 ci_4 ?_
    refine pw_iadd (pc' := 54) rfl dX10_unsay_53 ?_
    obtain ⟨b1, h⟩ := h
    refine ps_iald (pc' := 55) (v := (M 201 (ix (a2 + (nI 4))))) rfl dX10_unsay_54 ia_201 b1 rfl ?_
    obtain ⟨b2, h⟩ := h
    refine ps_iast (pc' := 56) rfl dX10_unsay_55 ia_201 b2 ?_
    refine pw_iinc (pc' := 59) (lv' := [(0, .ref 182), (2, .int (a2 + (nI 1)))]) 1 [1, 0] rfl dX10_unsay_56 rfl (ii_1 _) (by decide) rfl ?_
    refine pw_goto (tgt := 32) dX10_unsay_59 (by decide) ?_
    exact pw_sub [0, 1] rfl h
theorem T_X10_liars {M : Mem}  {Q : Int32 → Mem → Prop}  (h : ((¬ (M 182 0) = 0) → (C_X10_liarsBut M (-4) (fun r1 M1 => Q r1 M1))) ∧ (((M 182 0) = 0) → (Q (-2) M))) : C_X10_liars M  Q := by
  refine CA_of rfl (Nat.le_of_ble_eq_true rfl) ?_
  show PS _ _ 0 [(0, .ref 182)] [] M _
  refine pw_aload_n (pc' := 1) 0 rfl dX10_liars_0 rfl rfl ?_
  refine ps_getI (pc' := 4) (v := (M 182 0)) rfl dX10_liars_1 fl_X10_95 ob_182 rfl rfl ?_
  refine pw_if_ne (pc' := 7) (tgt := 12) rfl dX10_liars_4 (by decide) (fun q0 => ?_) (fun q0 => ?_)
  · have h := h.1 q0
    refine pw_aload_n (pc' := 13) 0 rfl dX10_liars_12 rfl rfl ?_
    refine pw_bipush (pc' := 15) rfl dX10_liars_13 cb_m4 ?_
    refine ps_callVI (pc' := 18) (As := [.int (-4)]) (rest := []) (cT := (RX10, TX10, 44)) 1 rfl dX10_liars_15 cv_X10_liarsBut ml_X10_278 (by decide) rfl rfl (by decide) (Nat.le_of_ble_eq_true rfl) ob_182 rfl rfl (CA.monoI h ?_)
    intro r1 M1 h
    exact ps_iret dX10_liars_18 rfl h
  · have h := h.2 q0
    refine pw_bipush (pc' := 9) rfl dX10_liars_7 cb_m2 ?_
    refine pw_goto (tgt := 18) dX10_liars_9 (by decide) ?_
    exact ps_iret dX10_liars_18 rfl h
theorem T_X10_liarsBut {M : Mem} {a1 : Int32} {Q : Int32 → Mem → Prop}  (h : P_X10_liarsBut_11 M a1 (((nI 1) <<< ((M 182 28) &&& 31)) - (nI 1)) (((nI 1) <<< ((M 182 28) &&& 31)) - (nI 1)) Q) : C_X10_liarsBut M a1 Q := by
  refine CA_of rfl (Nat.le_of_ble_eq_true rfl) ?_
  show PS _ _ 0 [(0, .ref 182), (1, .int a1)] [] M _
  refine pw_iconst (pc' := 1) rfl dX10_liarsBut_0 ci_1 ?_
  refine pw_aload_n (pc' := 2) 0 rfl dX10_liarsBut_1 rfl rfl ?_
  refine ps_getI (pc' := 5) (v := (M 182 28)) rfl dX10_liarsBut_2 fl_X10_262 ob_182 rfl rfl ?_
  refine pw_ishl (pc' := 6) rfl dX10_liarsBut_5 ?_
  refine pw_iconst (pc' := 7) rfl dX10_liarsBut_6 ci_1 ?_
  refine pw_isub (pc' := 8) rfl dX10_liarsBut_7 ?_
  refine pw_istore_n (pc' := 9) (lv' := [(0, .ref 182), (1, .int a1), (2, .int (((nI 1) <<< ((M 182 28) &&& 31)) - (nI 1)))]) [1, 2, 0] rfl dX10_liarsBut_8 rfl (by decide) rfl ?_
  refine pw_iload_n (pc' := 10) 2 rfl dX10_liarsBut_9 rfl rfl ?_
  refine pw_istore_n (pc' := 11) (lv' := [(0, .ref 182), (1, .int a1), (2, .int (((nI 1) <<< ((M 182 28) &&& 31)) - (nI 1))), (3, .int (((nI 1) <<< ((M 182 28) &&& 31)) - (nI 1)))]) [1, 2, 3, 0] rfl dX10_liarsBut_10 rfl (by decide) rfl ?_
  exact pw_sub [0, 1, 2, 3] rfl h
theorem T_X10_liarsBut_11 {M : Mem} {a1 : Int32} {a2 : Int32} {a3 : Int32} {Q : Int32 → Mem → Prop}  (h : ((a3 < 0) → (Q a2 M)) ∧ ((¬ a3 < 0) → (C_X10_size M a3 (fun r1 M1 => C_X10_size M1 a2 (fun r2 M2 => ((r2 < r1) → (P_X10_liarsBut_36 M2 a1 a2 a3 (nI 0) (nI 0) Q)) ∧ ((¬ r2 < r1) → (P_X10_liarsBut_36 M2 a1 a2 a3 (nI 1) (nI 0) Q))))))) : P_X10_liarsBut_11 M a1 a2 a3 Q := by
  refine pw_iload_n (pc' := 12) 3 rfl dX10_liarsBut_11 rfl rfl ?_
  refine pw_if_lt (pc' := 15) (tgt := 83) rfl dX10_liarsBut_12 (by decide) (fun q0 => ?_) (fun q0 => ?_)
  · have h := h.1 q0
    refine pw_iload_n (pc' := 84) 2 rfl dX10_liarsBut_83 rfl rfl ?_
    exact ps_iret dX10_liarsBut_84 rfl h
  · have h := h.2 q0
    refine pw_iload_n (pc' := 16) 3 rfl dX10_liarsBut_15 rfl rfl ?_
    refine ps_callSI (pc' := 19) (As := [.int a3]) (rest := []) 1 rfl dX10_liarsBut_16 cs_X10_size ml_X10_259 (by decide) rfl rfl (by decide) (Nat.le_of_ble_eq_true rfl) (CA.monoI h ?_)
    intro r1 M1 h
    refine pw_iload_n (pc' := 20) 2 rfl dX10_liarsBut_19 rfl rfl ?_
    refine ps_callSI (pc' := 23) (As := [.int a2]) (rest := [.int r1]) 1 rfl dX10_liarsBut_20 cs_X10_size ml_X10_259 (by decide) rfl rfl (by decide) (Nat.le_of_ble_eq_true rfl) (CA.monoI h ?_)
    intro r2 M2 h
    refine pw_icmp_gt (pc' := 26) (tgt := 30) rfl dX10_liarsBut_23 (by decide) (fun q3 => ?_) (fun q3 => ?_)
    · have h := h.1 q3
      refine pw_iconst (pc' := 31) rfl dX10_liarsBut_30 ci_0 ?_
      refine pw_istore (pc' := 33) (lv' := [(0, .ref 182), (1, .int a1), (2, .int a2), (3, .int a3), (4, .int (nI 0))]) [1, 2, 3, 4, 0] rfl dX10_liarsBut_31 (by decide) rfl ?_
      refine pw_iconst (pc' := 34) rfl dX10_liarsBut_33 ci_0 ?_
      refine pw_istore (pc' := 36) (lv' := [(0, .ref 182), (1, .int a1), (2, .int a2), (3, .int a3), (4, .int (nI 0)), (5, .int (nI 0))]) [1, 2, 3, 4, 5, 0] rfl dX10_liarsBut_34 (by decide) rfl ?_
      exact pw_sub [0, 1, 2, 3, 4, 5] rfl h
    · have h := h.2 q3
      refine pw_iconst (pc' := 27) rfl dX10_liarsBut_26 ci_1 ?_
      refine pw_goto (tgt := 31) dX10_liarsBut_27 (by decide) ?_
      refine pw_istore (pc' := 33) (lv' := [(0, .ref 182), (1, .int a1), (2, .int a2), (3, .int a3), (4, .int (nI 1))]) [1, 2, 3, 4, 0] rfl dX10_liarsBut_31 (by decide) rfl ?_
      refine pw_iconst (pc' := 34) rfl dX10_liarsBut_33 ci_0 ?_
      refine pw_istore (pc' := 36) (lv' := [(0, .ref 182), (1, .int a1), (2, .int a2), (3, .int a3), (4, .int (nI 1)), (5, .int (nI 0))]) [1, 2, 3, 4, 5, 0] rfl dX10_liarsBut_34 (by decide) rfl ?_
      exact pw_sub [0, 1, 2, 3, 4, 5] rfl h
theorem T_X10_liarsBut_36 {M : Mem} {a1 : Int32} {a2 : Int32} {a3 : Int32} {a4 : Int32} {a5 : Int32} {Q : Int32 → Mem → Prop}  (h : (((M 182 28) ≤ a5) → (((a4 = 0) → (P_X10_liarsBut_11 M a1 a2 (a3 + (-1)) Q)) ∧ ((¬ a4 = 0) → (P_X10_liarsBut_11 M a1 a3 (a3 + (-1)) Q)))) ∧ ((¬ (M 182 28) ≤ a5) → (((a4 = 0) → (((a4 = 0) → (P_X10_liarsBut_11 M a1 a2 (a3 + (-1)) Q)) ∧ ((¬ a4 = 0) → (P_X10_liarsBut_11 M a1 a3 (a3 + (-1)) Q)))) ∧ ((¬ a4 = 0) → (C_X10_goes M a5 a3 a1 (fun r2 M2 => P_X10_liarsBut_36 M2 a1 a2 a3 r2 (a5 + (nI 1)) Q)))))) : P_X10_liarsBut_36 M a1 a2 a3 a4 a5 Q := by
  refine pw_iload (pc' := 38) 5 rfl dX10_liarsBut_36 rfl ?_
  refine pw_aload_n (pc' := 39) 0 rfl dX10_liarsBut_38 rfl rfl ?_
  refine ps_getI (pc' := 42) (v := (M 182 28)) rfl dX10_liarsBut_39 fl_X10_262 ob_182 rfl rfl ?_
  refine pw_icmp_ge (pc' := 45) (tgt := 66) rfl dX10_liarsBut_42 (by decide) (fun q0 => ?_) (fun q0 => ?_)
  · have h := h.1 q0
    refine pw_iload (pc' := 68) 4 rfl dX10_liarsBut_66 rfl ?_
    refine pw_if_eq (pc' := 71) (tgt := 75) rfl dX10_liarsBut_68 (by decide) (fun q1 => ?_) (fun q1 => ?_)
    · have h := h.1 q1
      refine pw_iload_n (pc' := 76) 2 rfl dX10_liarsBut_75 rfl rfl ?_
      refine pw_istore_n (pc' := 77) (lv' := [(0, .ref 182), (1, .int a1), (2, .int a2), (3, .int a3), (4, .int a4), (5, .int a5)]) [1, 2, 0, 3, 4, 5] rfl dX10_liarsBut_76 rfl (by decide) rfl ?_
      refine pw_iinc (pc' := 80) (lv' := [(0, .ref 182), (1, .int a1), (2, .int a2), (3, .int (a3 + (-1))), (4, .int a4), (5, .int a5)]) 3 [1, 2, 3, 0, 4, 5] rfl dX10_liarsBut_77 rfl (ii_m1 _) (by decide) rfl ?_
      refine pw_goto (tgt := 11) dX10_liarsBut_80 (by decide) ?_
      exact pw_sub [0, 1, 2, 3] rfl h
    · have h := h.2 q1
      refine pw_iload_n (pc' := 72) 3 rfl dX10_liarsBut_71 rfl rfl ?_
      refine pw_goto (tgt := 76) dX10_liarsBut_72 (by decide) ?_
      refine pw_istore_n (pc' := 77) (lv' := [(0, .ref 182), (1, .int a1), (2, .int a3), (3, .int a3), (4, .int a4), (5, .int a5)]) [1, 2, 0, 3, 4, 5] rfl dX10_liarsBut_76 rfl (by decide) rfl ?_
      refine pw_iinc (pc' := 80) (lv' := [(0, .ref 182), (1, .int a1), (2, .int a3), (3, .int (a3 + (-1))), (4, .int a4), (5, .int a5)]) 3 [1, 2, 3, 0, 4, 5] rfl dX10_liarsBut_77 rfl (ii_m1 _) (by decide) rfl ?_
      refine pw_goto (tgt := 11) dX10_liarsBut_80 (by decide) ?_
      exact pw_sub [0, 1, 2, 3] rfl h
  · have h := h.2 q0
    refine pw_iload (pc' := 47) 4 rfl dX10_liarsBut_45 rfl ?_
    refine pw_if_eq (pc' := 50) (tgt := 66) rfl dX10_liarsBut_47 (by decide) (fun q1 => ?_) (fun q1 => ?_)
    · have h := h.1 q1
      refine pw_iload (pc' := 68) 4 rfl dX10_liarsBut_66 rfl ?_
      refine pw_if_eq (pc' := 71) (tgt := 75) rfl dX10_liarsBut_68 (by decide) (fun q2 => ?_) (fun q2 => ?_)
      · have h := h.1 q2
        refine pw_iload_n (pc' := 76) 2 rfl dX10_liarsBut_75 rfl rfl ?_
        refine pw_istore_n (pc' := 77) (lv' := [(0, .ref 182), (1, .int a1), (2, .int a2), (3, .int a3), (4, .int a4), (5, .int a5)]) [1, 2, 0, 3, 4, 5] rfl dX10_liarsBut_76 rfl (by decide) rfl ?_
        refine pw_iinc (pc' := 80) (lv' := [(0, .ref 182), (1, .int a1), (2, .int a2), (3, .int (a3 + (-1))), (4, .int a4), (5, .int a5)]) 3 [1, 2, 3, 0, 4, 5] rfl dX10_liarsBut_77 rfl (ii_m1 _) (by decide) rfl ?_
        refine pw_goto (tgt := 11) dX10_liarsBut_80 (by decide) ?_
        exact pw_sub [0, 1, 2, 3] rfl h
      · have h := h.2 q2
        refine pw_iload_n (pc' := 72) 3 rfl dX10_liarsBut_71 rfl rfl ?_
        refine pw_goto (tgt := 76) dX10_liarsBut_72 (by decide) ?_
        refine pw_istore_n (pc' := 77) (lv' := [(0, .ref 182), (1, .int a1), (2, .int a3), (3, .int a3), (4, .int a4), (5, .int a5)]) [1, 2, 0, 3, 4, 5] rfl dX10_liarsBut_76 rfl (by decide) rfl ?_
        refine pw_iinc (pc' := 80) (lv' := [(0, .ref 182), (1, .int a1), (2, .int a3), (3, .int (a3 + (-1))), (4, .int a4), (5, .int a5)]) 3 [1, 2, 3, 0, 4, 5] rfl dX10_liarsBut_77 rfl (ii_m1 _) (by decide) rfl ?_
        refine pw_goto (tgt := 11) dX10_liarsBut_80 (by decide) ?_
        exact pw_sub [0, 1, 2, 3] rfl h
    · have h := h.2 q1
      refine pw_aload_n (pc' := 51) 0 rfl dX10_liarsBut_50 rfl rfl ?_
      refine pw_iload (pc' := 53) 5 rfl dX10_liarsBut_51 rfl ?_
      refine pw_iload_n (pc' := 54) 3 rfl dX10_liarsBut_53 rfl rfl ?_
      refine pw_iload_n (pc' := 55) 1 rfl dX10_liarsBut_54 rfl rfl ?_
      refine ps_callVI (pc' := 58) (As := [.int a5, .int a3, .int a1]) (rest := []) (cT := (RX10, TX10, 44)) 3 rfl dX10_liarsBut_55 cv_X10_goes ml_X10_274 (by decide) rfl rfl (by decide) (Nat.le_of_ble_eq_true rfl) ob_182 rfl rfl (CA.monoI h ?_)
      intro r2 M2 h
      refine pw_istore (pc' := 60) (lv' := [(0, .ref 182), (1, .int a1), (2, .int a2), (3, .int a3), (4, .int r2), (5, .int a5)]) [1, 2, 3, 4, 0, 5] rfl dX10_liarsBut_58 (by decide) rfl ?_
      refine pw_iinc (pc' := 63) (lv' := [(0, .ref 182), (1, .int a1), (2, .int a2), (3, .int a3), (4, .int r2), (5, .int (a5 + (nI 1)))]) 5 [1, 2, 3, 4, 5, 0] rfl dX10_liarsBut_60 rfl (ii_1 _) (by decide) rfl ?_
      refine pw_goto (tgt := 36) dX10_liarsBut_63 (by decide) ?_
      exact pw_sub [0, 1, 2, 3, 4, 5] rfl h
theorem T_X10_goes {M : Mem} {a1 : Int32} {a2 : Int32} {a3 : Int32} {Q : Int32 → Mem → Prop}  (h : P_X10_goes_3 M a1 a2 a3 (nI 0) Q) : C_X10_goes M a1 a2 a3 Q := by
  refine CA_of rfl (Nat.le_of_ble_eq_true rfl) ?_
  show PS _ _ 0 [(0, .ref 182), (1, .int a1), (2, .int a2), (3, .int a3)] [] M _
  refine pw_iconst (pc' := 1) rfl dX10_goes_0 ci_0 ?_
  refine pw_istore (pc' := 3) (lv' := [(0, .ref 182), (1, .int a1), (2, .int a2), (3, .int a3), (4, .int (nI 0))]) [1, 2, 3, 4, 0] rfl dX10_goes_1 (by decide) rfl ?_
  exact pw_sub [0, 1, 2, 3, 4] rfl h
theorem T_X10_goes_3 {M : Mem} {a1 : Int32} {a2 : Int32} {a3 : Int32} {a4 : Int32} {Q : Int32 → Mem → Prop}  (h : (((nI 24) ≤ a4) → (P_X10_goes_34 M a1 a2 a3 (nI 0) Q)) ∧ ((¬ (nI 24) ≤ a4) → (vp_in a4 24 ∧ (P_X10_goes_3 (wr M 203 (ix a4) (((nI 1) <<< ((M 182 0) &&& 31)) - (nI 1))) a1 a2 a3 (a4 + (nI 1)) Q)))) : P_X10_goes_3 M a1 a2 a3 a4 Q := by
  refine pw_iload (pc' := 5) 4 rfl dX10_goes_3 rfl ?_
  refine pw_bipush (pc' := 7) rfl dX10_goes_5 cb_24 ?_
  refine pw_icmp_ge (pc' := 10) (tgt := 31) rfl dX10_goes_7 (by decide) (fun q0 => ?_) (fun q0 => ?_)
  · have h := h.1 q0
    refine pw_iconst (pc' := 32) rfl dX10_goes_31 ci_0 ?_
    refine pw_istore (pc' := 34) (lv' := [(0, .ref 182), (1, .int a1), (2, .int a2), (3, .int a3), (4, .int (nI 0))]) [1, 2, 3, 4, 0] rfl dX10_goes_32 (by decide) rfl ?_
    exact pw_sub [0, 1, 2, 3, 4] rfl h
  · have h := h.2 q0
    refine pw_aload_n (pc' := 11) 0 rfl dX10_goes_10 rfl rfl ?_
    refine ps_getR (pc' := 14) (r := 203) rfl dX10_goes_11 fl_X10_74 ob_182 rfl rfl ?_
    refine pw_iload (pc' := 16) 4 rfl dX10_goes_14 rfl ?_
    refine pw_iconst (pc' := 17) rfl dX10_goes_16 ci_1 ?_
    refine pw_aload_n (pc' := 18) 0 rfl dX10_goes_17 rfl rfl ?_
    refine ps_getI (pc' := 21) (v := (M 182 0)) rfl dX10_goes_18 fl_X10_95 ob_182 rfl rfl ?_
    refine pw_ishl (pc' := 22) rfl dX10_goes_21 ?_
    refine pw_iconst (pc' := 23) rfl dX10_goes_22 ci_1 ?_
    refine pw_isub (pc' := 24) rfl dX10_goes_23 ?_
    obtain ⟨b1, h⟩ := h
    refine ps_iast (pc' := 25) rfl dX10_goes_24 ia_203 b1 ?_
    refine pw_iinc (pc' := 28) (lv' := [(0, .ref 182), (1, .int a1), (2, .int a2), (3, .int a3), (4, .int (a4 + (nI 1)))]) 4 [1, 2, 3, 4, 0] rfl dX10_goes_25 rfl (ii_1 _) (by decide) rfl ?_
    refine pw_goto (tgt := 3) dX10_goes_28 (by decide) ?_
    exact pw_sub [0, 1, 2, 3, 4] rfl h
theorem T_X10_goes_34 {M : Mem} {a1 : Int32} {a2 : Int32} {a3 : Int32} {a4 : Int32} {Q : Int32 → Mem → Prop}  (h : (((M 182 30) ≤ a4) → (P_X10_goes_150 M a1 (nI 1) Q)) ∧ ((¬ (M 182 30) ≤ a4) → (((a4 = a3) → (P_X10_goes_98 M a1 a2 a3 a4 (nI 0) Q)) ∧ ((¬ a4 = a3) → (vp_in ((nI 4) * a4) 48 ∧ (((¬ ((a2 >>> ((M 201 (ix ((nI 4) * a4))) &&& 31)) &&& (nI 1)) = 0) → (P_X10_goes_98 M a1 a2 a3 a4 (nI 0) Q)) ∧ ((((a2 >>> ((M 201 (ix ((nI 4) * a4))) &&& 31)) &&& (nI 1)) = 0) → ((((M 201 (ix ((nI 4) * a4))) = a1) → (P_X10_goes_98 M a1 a2 a3 a4 (nI 1) Q)) ∧ ((¬ (M 201 (ix ((nI 4) * a4))) = a1) → (vp_in (((nI 4) * a4) + (nI 1)) 48 ∧ (((¬ (M 201 (ix (((nI 4) * a4) + (nI 1)))) = a1) → (P_X10_goes_98 M a1 a2 a3 a4 (nI 0) Q)) ∧ (((M 201 (ix (((nI 4) * a4) + (nI 1)))) = a1) → (P_X10_goes_98 M a1 a2 a3 a4 (nI 1) Q))))))))))))) : P_X10_goes_34 M a1 a2 a3 a4 Q := by
  refine pw_iload (pc' := 36) 4 rfl dX10_goes_34 rfl ?_
  refine pw_aload_n (pc' := 37) 0 rfl dX10_goes_36 rfl rfl ?_
  refine ps_getI (pc' := 40) (v := (M 182 30)) rfl dX10_goes_37 fl_X10_268 ob_182 rfl rfl ?_
  refine pw_icmp_ge (pc' := 43) (tgt := 147) rfl dX10_goes_40 (by decide) (fun q0 => ?_) (fun q0 => ?_)
  · have h := h.1 q0
    refine pw_iconst (pc' := 148) rfl dX10_goes_147 ci_1 ?_
    refine pw_istore (pc' := 150) (lv' := [(0, .ref 182), (1, .int a1), (2, .int a2), (3, .int a3), (4, .int (nI 1))]) [1, 2, 3, 4, 0] rfl dX10_goes_148 (by decide) rfl ?_
    exact pw_sub [0, 1, 4] rfl h
  · have h := h.2 q0
    refine pw_iload (pc' := 45) 4 rfl dX10_goes_43 rfl ?_
    refine pw_iload_n (pc' := 46) 3 rfl dX10_goes_45 rfl rfl ?_
    refine pw_icmp_eq (pc' := 49) (tgt := 97) rfl dX10_goes_46 (by decide) (fun q1 => ?_) (fun q1 => ?_)
    · have h := h.1 q1
      refine pw_iconst (pc' := 98) rfl dX10_goes_97 ci_0 ?_
      exact pw_sub [0, 1, 2, 3, 4] rfl h
    · have h := h.2 q1
      refine pw_iload_n (pc' := 50) 2 rfl dX10_goes_49 rfl rfl ?_
      refine pw_aload_n (pc' := 51) 0 rfl dX10_goes_50 rfl rfl ?_
      refine ps_getR (pc' := 54) (r := 201) rfl dX10_goes_51 fl_X10_64 ob_182 rfl rfl ?_
      refine pw_iconst (pc' := 55) rfl dX10_goes_54 ci_4 ?_
      refine pw_iload (pc' := 57) 4 rfl dX10_goes_55 rfl ?_
      refine pw_imul (pc' := 58) rfl dX10_goes_57 ?_
      obtain ⟨b2, h⟩ := h
      refine ps_iald (pc' := 59) (v := (M 201 (ix ((nI 4) * a4)))) rfl dX10_goes_58 ia_201 b2 rfl ?_
      refine pw_ishr (pc' := 60) rfl dX10_goes_59 ?_
      refine pw_iconst (pc' := 61) rfl dX10_goes_60 ci_1 ?_
      refine pw_iand (pc' := 62) rfl dX10_goes_61 ?_
      refine pw_if_ne (pc' := 65) (tgt := 97) rfl dX10_goes_62 (by decide) (fun q3 => ?_) (fun q3 => ?_)
      · have h := h.1 q3
        refine pw_iconst (pc' := 98) rfl dX10_goes_97 ci_0 ?_
        exact pw_sub [0, 1, 2, 3, 4] rfl h
      · have h := h.2 q3
        refine pw_aload_n (pc' := 66) 0 rfl dX10_goes_65 rfl rfl ?_
        refine ps_getR (pc' := 69) (r := 201) rfl dX10_goes_66 fl_X10_64 ob_182 rfl rfl ?_
        refine pw_iconst (pc' := 70) rfl dX10_goes_69 ci_4 ?_
        refine pw_iload (pc' := 72) 4 rfl dX10_goes_70 rfl ?_
        refine pw_imul (pc' := 73) rfl dX10_goes_72 ?_
        refine ps_iald (pc' := 74) (v := (M 201 (ix ((nI 4) * a4)))) rfl dX10_goes_73 ia_201 b2 rfl ?_
        refine pw_iload_n (pc' := 75) 1 rfl dX10_goes_74 rfl rfl ?_
        refine pw_icmp_eq (pc' := 78) (tgt := 93) rfl dX10_goes_75 (by decide) (fun q5 => ?_) (fun q5 => ?_)
        · have h := h.1 q5
          refine pw_iconst (pc' := 94) rfl dX10_goes_93 ci_1 ?_
          refine pw_goto (tgt := 98) dX10_goes_94 (by decide) ?_
          exact pw_sub [0, 1, 2, 3, 4] rfl h
        · have h := h.2 q5
          refine pw_aload_n (pc' := 79) 0 rfl dX10_goes_78 rfl rfl ?_
          refine ps_getR (pc' := 82) (r := 201) rfl dX10_goes_79 fl_X10_64 ob_182 rfl rfl ?_
          refine pw_iconst (pc' := 83) rfl dX10_goes_82 ci_4 ?_
          refine pw_iload (pc' := 85) 4 rfl dX10_goes_83 rfl ?_
          refine pw_imul (pc' := 86) rfl dX10_goes_85 ?_
          refine pw_iconst (pc' := 87) rfl dX10_goes_86 ci_1 ?_
          refine pw_iadd (pc' := 88) rfl dX10_goes_87 ?_
          obtain ⟨b6, h⟩ := h
          refine ps_iald (pc' := 89) (v := (M 201 (ix (((nI 4) * a4) + (nI 1))))) rfl dX10_goes_88 ia_201 b6 rfl ?_
          refine pw_iload_n (pc' := 90) 1 rfl dX10_goes_89 rfl rfl ?_
          refine pw_icmp_ne (pc' := 93) (tgt := 97) rfl dX10_goes_90 (by decide) (fun q7 => ?_) (fun q7 => ?_)
          · have h := h.1 q7
            refine pw_iconst (pc' := 98) rfl dX10_goes_97 ci_0 ?_
            exact pw_sub [0, 1, 2, 3, 4] rfl h
          · have h := h.2 q7
            refine pw_iconst (pc' := 94) rfl dX10_goes_93 ci_1 ?_
            refine pw_goto (tgt := 98) dX10_goes_94 (by decide) ?_
            exact pw_sub [0, 1, 2, 3, 4] rfl h
theorem T_X10_goes_98 {M : Mem} {a1 : Int32} {a2 : Int32} {a3 : Int32} {a4 : Int32} {s0 : Int32} {Q : Int32 → Mem → Prop}  (h : vp_in (((nI 4) * a4) + (nI 3)) 48 ∧ (vp_in (M 201 (ix (((nI 4) * a4) + (nI 3)))) 24 ∧ (((s0 = 0) → (P_X10_goes_34 (wr M 203 (ix (M 201 (ix (((nI 4) * a4) + (nI 3))))) ((M 203 (ix (M 201 (ix (((nI 4) * a4) + (nI 3)))))) &&& (-1))) a1 a2 a3 (a4 + (nI 1)) Q)) ∧ ((¬ s0 = 0) → (vp_in (((nI 4) * a4) + (nI 2)) 48 ∧ (P_X10_goes_34 (wr M 203 (ix (M 201 (ix (((nI 4) * a4) + (nI 3))))) ((M 203 (ix (M 201 (ix (((nI 4) * a4) + (nI 3)))))) &&& ((nI 1) <<< ((M 201 (ix (((nI 4) * a4) + (nI 2)))) &&& 31)))) a1 a2 a3 (a4 + (nI 1)) Q)))))) : P_X10_goes_98 M a1 a2 a3 a4 s0 Q := by
  refine pw_istore (pc' := 100) (lv' := [(0, .ref 182), (1, .int a1), (2, .int a2), (3, .int a3), (4, .int a4), (5, .int s0)]) [1, 2, 3, 4, 5, 0] rfl dX10_goes_98 (by decide) rfl ?_
  refine pw_aload_n (pc' := 101) 0 rfl dX10_goes_100 rfl rfl ?_
  refine ps_getR (pc' := 104) (r := 203) rfl dX10_goes_101 fl_X10_74 ob_182 rfl rfl ?_
  refine pw_aload_n (pc' := 105) 0 rfl dX10_goes_104 rfl rfl ?_
  refine ps_getR (pc' := 108) (r := 201) rfl dX10_goes_105 fl_X10_64 ob_182 rfl rfl ?_
  refine pw_iconst (pc' := 109) rfl dX10_goes_108 ci_4 ?_
  refine pw_iload (pc' := 111) 4 rfl dX10_goes_109 rfl ?_
  refine pw_imul (pc' := 112) rfl dX10_goes_111 ?_
  refine pw_iconst (pc' := 113) rfl dX10_goes_112 ci_3 ?_
  refine pw_iadd (pc' := 114) rfl dX10_goes_113 ?_
  obtain ⟨b0, h⟩ := h
  refine ps_iald (pc' := 115) (v := (M 201 (ix (((nI 4) * a4) + (nI 3))))) rfl dX10_goes_114 ia_201 b0 rfl ?_
  refine pw_dup2 (pc' := 116) rfl dX10_goes_115 rfl rfl ?_
  obtain ⟨b1, h⟩ := h
  refine ps_iald (pc' := 117) (v := (M 203 (ix (M 201 (ix (((nI 4) * a4) + (nI 3))))))) rfl dX10_goes_116 ia_203 b1 rfl ?_
  refine pw_iload (pc' := 119) 5 rfl dX10_goes_117 rfl ?_
  refine pw_if_eq (pc' := 122) (tgt := 138) rfl dX10_goes_119 (by decide) (fun q2 => ?_) (fun q2 => ?_)
  · have h := h.1 q2
    refine pw_iconst (pc' := 139) rfl dX10_goes_138 ci_m1 ?_
    refine pw_iand (pc' := 140) rfl dX10_goes_139 ?_
    refine ps_iast (pc' := 141) rfl dX10_goes_140 ia_203 b1 ?_
    refine pw_iinc (pc' := 144) (lv' := [(0, .ref 182), (1, .int a1), (2, .int a2), (3, .int a3), (4, .int (a4 + (nI 1))), (5, .int s0)]) 4 [1, 2, 3, 4, 0, 5] rfl dX10_goes_141 rfl (ii_1 _) (by decide) rfl ?_
    refine pw_goto (tgt := 34) dX10_goes_144 (by decide) ?_
    exact pw_sub [0, 1, 2, 3, 4] rfl h
  · have h := h.2 q2
    refine pw_iconst (pc' := 123) rfl dX10_goes_122 ci_1 ?_
    refine pw_aload_n (pc' := 124) 0 rfl dX10_goes_123 rfl rfl ?_
    refine ps_getR (pc' := 127) (r := 201) rfl dX10_goes_124 fl_X10_64 ob_182 rfl rfl ?_
    refine pw_iconst (pc' := 128) rfl dX10_goes_127 ci_4 ?_
    refine pw_iload (pc' := 130) 4 rfl dX10_goes_128 rfl ?_
    refine pw_imul (pc' := 131) rfl dX10_goes_130 ?_
    refine pw_iconst (pc' := 132) rfl dX10_goes_131 ci_2 ?_
    refine pw_iadd (pc' := 133) rfl dX10_goes_132 ?_
    obtain ⟨b3, h⟩ := h
    refine ps_iald (pc' := 134) (v := (M 201 (ix (((nI 4) * a4) + (nI 2))))) rfl dX10_goes_133 ia_201 b3 rfl ?_
    refine pw_ishl (pc' := 135) rfl dX10_goes_134 ?_
    refine pw_goto (tgt := 139) dX10_goes_135 (by decide) ?_
    refine pw_iand (pc' := 140) rfl dX10_goes_139 ?_
    refine ps_iast (pc' := 141) rfl dX10_goes_140 ia_203 b1 ?_
    refine pw_iinc (pc' := 144) (lv' := [(0, .ref 182), (1, .int a1), (2, .int a2), (3, .int a3), (4, .int (a4 + (nI 1))), (5, .int s0)]) 4 [1, 2, 3, 4, 0, 5] rfl dX10_goes_141 rfl (ii_1 _) (by decide) rfl ?_
    refine pw_goto (tgt := 34) dX10_goes_144 (by decide) ?_
    exact pw_sub [0, 1, 2, 3, 4] rfl h
theorem T_X10_goes_150 {M : Mem} {a1 : Int32} {a4 : Int32} {Q : Int32 → Mem → Prop}  (h : (((nI 24) ≤ a4) → (P_X10_goes_196 M a1 (nI 22) Q)) ∧ ((¬ (nI 24) ≤ a4) → (vp_in a4 24 ∧ (vp_in (a4 - (nI 1)) 24 ∧ (vp_in a1 5 ∧ (C_X10_around M (M 203 (ix (a4 - (nI 1)))) (M 200 (ix a1)) (fun r4 M4 => P_X10_goes_150 (wr M4 203 (ix a4) ((M 203 (ix a4)) &&& r4)) a1 (a4 + (nI 1)) Q))))))) : P_X10_goes_150 M a1 a4 Q := by
  refine pw_iload (pc' := 152) 2 rfl dX10_goes_150 rfl ?_
  refine pw_bipush (pc' := 154) rfl dX10_goes_152 cb_24 ?_
  refine pw_icmp_ge (pc' := 157) (tgt := 192) rfl dX10_goes_154 (by decide) (fun q0 => ?_) (fun q0 => ?_)
  · have h := h.1 q0
    refine pw_bipush (pc' := 194) rfl dX10_goes_192 cb_22 ?_
    refine pw_istore (pc' := 196) (lv' := [(0, .ref 182), (1, .int a1), (4, .int (nI 22))]) [1, 2, 0] rfl dX10_goes_194 (by decide) rfl ?_
    exact pw_sub [0, 1, 2] rfl h
  · have h := h.2 q0
    refine pw_aload_n (pc' := 158) 0 rfl dX10_goes_157 rfl rfl ?_
    refine ps_getR (pc' := 161) (r := 203) rfl dX10_goes_158 fl_X10_74 ob_182 rfl rfl ?_
    refine pw_iload (pc' := 163) 2 rfl dX10_goes_161 rfl ?_
    refine pw_dup2 (pc' := 164) rfl dX10_goes_163 rfl rfl ?_
    obtain ⟨b1, h⟩ := h
    refine ps_iald (pc' := 165) (v := (M 203 (ix a4))) rfl dX10_goes_164 ia_203 b1 rfl ?_
    refine pw_aload_n (pc' := 166) 0 rfl dX10_goes_165 rfl rfl ?_
    refine pw_aload_n (pc' := 167) 0 rfl dX10_goes_166 rfl rfl ?_
    refine ps_getR (pc' := 170) (r := 203) rfl dX10_goes_167 fl_X10_74 ob_182 rfl rfl ?_
    refine pw_iload (pc' := 172) 2 rfl dX10_goes_170 rfl ?_
    refine pw_iconst (pc' := 173) rfl dX10_goes_172 ci_1 ?_
    refine pw_isub (pc' := 174) rfl dX10_goes_173 ?_
    obtain ⟨b2, h⟩ := h
    refine ps_iald (pc' := 175) (v := (M 203 (ix (a4 - (nI 1))))) rfl dX10_goes_174 ia_203 b2 rfl ?_
    refine pw_aload_n (pc' := 176) 0 rfl dX10_goes_175 rfl rfl ?_
    refine ps_getR (pc' := 179) (r := 200) rfl dX10_goes_176 fl_X10_61 ob_182 rfl rfl ?_
    refine pw_iload_n (pc' := 180) 1 rfl dX10_goes_179 rfl rfl ?_
    obtain ⟨b3, h⟩ := h
    refine ps_iald (pc' := 181) (v := (M 200 (ix a1))) rfl dX10_goes_180 ia_200 b3 rfl ?_
    refine ps_callVI (pc' := 184) (As := [.int (M 203 (ix (a4 - (nI 1)))), .int (M 200 (ix a1))]) (rest := [.int (M 203 (ix a4)), .int a4, .ref 203]) (cT := (RX10, TX10, 44)) 2 rfl dX10_goes_181 cv_X10_around ml_X10_271 (by decide) rfl rfl (by decide) (Nat.le_of_ble_eq_true rfl) ob_182 rfl rfl (CA.monoI h ?_)
    intro r4 M4 h
    refine pw_iand (pc' := 185) rfl dX10_goes_184 ?_
    refine ps_iast (pc' := 186) rfl dX10_goes_185 ia_203 b1 ?_
    refine pw_iinc (pc' := 189) (lv' := [(0, .ref 182), (1, .int a1), (4, .int (a4 + (nI 1)))]) 2 [1, 2, 0] rfl dX10_goes_186 rfl (ii_1 _) (by decide) rfl ?_
    refine pw_goto (tgt := 150) dX10_goes_189 (by decide) ?_
    exact pw_sub [0, 1, 2] rfl h
theorem T_X10_goes_196 {M : Mem} {a1 : Int32} {a4 : Int32} {Q : Int32 → Mem → Prop}  (h : ((a4 < 0) → ((((M 203 (ix (nI 0))) = 0) → (Q (nI 0) M)) ∧ ((¬ (M 203 (ix (nI 0))) = 0) → (Q (nI 1) M)))) ∧ ((¬ a4 < 0) → (vp_in a4 24 ∧ (vp_in (a4 + (nI 1)) 24 ∧ (vp_in a1 5 ∧ (C_X10_around M (M 203 (ix (a4 + (nI 1)))) (M 200 (ix a1)) (fun r4 M4 => P_X10_goes_196 (wr M4 203 (ix a4) ((M 203 (ix a4)) &&& r4)) a1 (a4 + (-1)) Q))))))) : P_X10_goes_196 M a1 a4 Q := by
  refine pw_iload (pc' := 198) 2 rfl dX10_goes_196 rfl ?_
  refine pw_if_lt (pc' := 201) (tgt := 236) rfl dX10_goes_198 (by decide) (fun q0 => ?_) (fun q0 => ?_)
  · have h := h.1 q0
    refine pw_aload_n (pc' := 237) 0 rfl dX10_goes_236 rfl rfl ?_
    refine ps_getR (pc' := 240) (r := 203) rfl dX10_goes_237 fl_X10_74 ob_182 rfl rfl ?_
    refine pw_iconst (pc' := 241) rfl dX10_goes_240 ci_0 ?_
    refine ps_iald (pc' := 242) (v := (M 203 (ix (nI 0)))) rfl dX10_goes_241 ia_203 (vp_in_nI (n := 0) (N := 24) (by decide) (by decide)) rfl ?_
    refine pw_if_eq (pc' := 245) (tgt := 249) rfl dX10_goes_242 (by decide) (fun q2 => ?_) (fun q2 => ?_)
    · have h := h.1 q2
      refine pw_iconst (pc' := 250) rfl dX10_goes_249 ci_0 ?_
      exact ps_zret dX10_goes_250 rfl (by decide) h
    · have h := h.2 q2
      refine pw_iconst (pc' := 246) rfl dX10_goes_245 ci_1 ?_
      refine pw_goto (tgt := 250) dX10_goes_246 (by decide) ?_
      exact ps_zret dX10_goes_250 rfl (by decide) h
  · have h := h.2 q0
    refine pw_aload_n (pc' := 202) 0 rfl dX10_goes_201 rfl rfl ?_
    refine ps_getR (pc' := 205) (r := 203) rfl dX10_goes_202 fl_X10_74 ob_182 rfl rfl ?_
    refine pw_iload (pc' := 207) 2 rfl dX10_goes_205 rfl ?_
    refine pw_dup2 (pc' := 208) rfl dX10_goes_207 rfl rfl ?_
    obtain ⟨b1, h⟩ := h
    refine ps_iald (pc' := 209) (v := (M 203 (ix a4))) rfl dX10_goes_208 ia_203 b1 rfl ?_
    refine pw_aload_n (pc' := 210) 0 rfl dX10_goes_209 rfl rfl ?_
    refine pw_aload_n (pc' := 211) 0 rfl dX10_goes_210 rfl rfl ?_
    refine ps_getR (pc' := 214) (r := 203) rfl dX10_goes_211 fl_X10_74 ob_182 rfl rfl ?_
    refine pw_iload (pc' := 216) 2 rfl dX10_goes_214 rfl ?_
    refine pw_iconst (pc' := 217) rfl dX10_goes_216 ci_1 ?_
    refine pw_iadd (pc' := 218) rfl dX10_goes_217 ?_
    obtain ⟨b2, h⟩ := h
    refine ps_iald (pc' := 219) (v := (M 203 (ix (a4 + (nI 1))))) rfl dX10_goes_218 ia_203 b2 rfl ?_
    refine pw_aload_n (pc' := 220) 0 rfl dX10_goes_219 rfl rfl ?_
    refine ps_getR (pc' := 223) (r := 200) rfl dX10_goes_220 fl_X10_61 ob_182 rfl rfl ?_
    refine pw_iload_n (pc' := 224) 1 rfl dX10_goes_223 rfl rfl ?_
    obtain ⟨b3, h⟩ := h
    refine ps_iald (pc' := 225) (v := (M 200 (ix a1))) rfl dX10_goes_224 ia_200 b3 rfl ?_
    refine ps_callVI (pc' := 228) (As := [.int (M 203 (ix (a4 + (nI 1)))), .int (M 200 (ix a1))]) (rest := [.int (M 203 (ix a4)), .int a4, .ref 203]) (cT := (RX10, TX10, 44)) 2 rfl dX10_goes_225 cv_X10_around ml_X10_271 (by decide) rfl rfl (by decide) (Nat.le_of_ble_eq_true rfl) ob_182 rfl rfl (CA.monoI h ?_)
    intro r4 M4 h
    refine pw_iand (pc' := 229) rfl dX10_goes_228 ?_
    refine ps_iast (pc' := 230) rfl dX10_goes_229 ia_203 b1 ?_
    refine pw_iinc (pc' := 233) (lv' := [(0, .ref 182), (1, .int a1), (4, .int (a4 + (-1)))]) 2 [1, 2, 0] rfl dX10_goes_230 rfl (ii_m1 _) (by decide) rfl ?_
    refine pw_goto (tgt := 196) dX10_goes_233 (by decide) ?_
    exact pw_sub [0, 1, 2] rfl h
theorem T_X10_around {M : Mem} {a1 : Int32} {a2 : Int32} {Q : Int32 → Mem → Prop}  (h : P_X10_around_5 M a1 a2 a1 (nI 0) Q) : C_X10_around M a1 a2 Q := by
  refine CA_of rfl (Nat.le_of_ble_eq_true rfl) ?_
  show PS _ _ 0 [(0, .ref 182), (1, .int a1), (2, .int a2)] [] M _
  refine pw_iload_n (pc' := 1) 1 rfl dX10_around_0 rfl rfl ?_
  refine pw_istore_n (pc' := 2) (lv' := [(0, .ref 182), (1, .int a1), (2, .int a2), (3, .int a1)]) [1, 2, 3, 0] rfl dX10_around_1 rfl (by decide) rfl ?_
  refine pw_iconst (pc' := 3) rfl dX10_around_2 ci_0 ?_
  refine pw_istore (pc' := 5) (lv' := [(0, .ref 182), (1, .int a1), (2, .int a2), (3, .int a1), (4, .int (nI 0))]) [1, 2, 3, 4, 0] rfl dX10_around_3 (by decide) rfl ?_
  exact pw_sub [0, 1, 2, 3, 4] rfl h
theorem T_X10_around_5 {M : Mem} {a1 : Int32} {a2 : Int32} {a3 : Int32} {a4 : Int32} {Q : Int32 → Mem → Prop}  (h : (((M 182 0) ≤ a4) → (Q a3 M)) ∧ ((¬ (M 182 0) ≤ a4) → (P_X10_around_17 M a1 a2 a3 a4 (nI 0) Q))) : P_X10_around_5 M a1 a2 a3 a4 Q := by
  refine pw_iload (pc' := 7) 4 rfl dX10_around_5 rfl ?_
  refine pw_aload_n (pc' := 8) 0 rfl dX10_around_7 rfl rfl ?_
  refine ps_getI (pc' := 11) (v := (M 182 0)) rfl dX10_around_8 fl_X10_95 ob_182 rfl rfl ?_
  refine pw_icmp_ge (pc' := 14) (tgt := 92) rfl dX10_around_11 (by decide) (fun q0 => ?_) (fun q0 => ?_)
  · have h := h.1 q0
    refine pw_iload_n (pc' := 93) 3 rfl dX10_around_92 rfl rfl ?_
    exact ps_iret dX10_around_93 rfl h
  · have h := h.2 q0
    refine pw_iconst (pc' := 15) rfl dX10_around_14 ci_0 ?_
    refine pw_istore (pc' := 17) (lv' := [(0, .ref 182), (1, .int a1), (2, .int a2), (3, .int a3), (4, .int a4), (5, .int (nI 0))]) [1, 2, 3, 4, 5, 0] rfl dX10_around_15 (by decide) rfl ?_
    exact pw_sub [0, 1, 2, 3, 4, 5] rfl h
theorem T_X10_around_17 {M : Mem} {a1 : Int32} {a2 : Int32} {a3 : Int32} {a4 : Int32} {a5 : Int32} {Q : Int32 → Mem → Prop}  (h : (((M 182 0) ≤ a5) → (P_X10_around_5 M a1 a2 a3 (a4 + (nI 1)) Q)) ∧ ((¬ (M 182 0) ≤ a5) → (((¬ ((a1 >>> (a4 &&& 31)) &&& (nI 1)) = (nI 1)) → (P_X10_around_5 M a1 a2 a3 (a4 + (nI 1)) Q)) ∧ ((((a1 >>> (a4 &&& 31)) &&& (nI 1)) = (nI 1)) → (vp_in (((nI 10) * a4) + a5) 100 ∧ ((((M 183 (ix (((nI 10) * a4) + a5))) < 0) → (P_X10_around_17 M a1 a2 (a3 ||| (nI 0)) a4 (a5 + (nI 1)) Q)) ∧ ((¬ (M 183 (ix (((nI 10) * a4) + a5))) < 0) → (((a2 < (M 183 (ix (((nI 10) * a4) + a5)))) → (P_X10_around_17 M a1 a2 (a3 ||| (nI 0)) a4 (a5 + (nI 1)) Q)) ∧ ((¬ a2 < (M 183 (ix (((nI 10) * a4) + a5)))) → (P_X10_around_17 M a1 a2 (a3 ||| ((nI 1) <<< (a5 &&& 31))) a4 (a5 + (nI 1)) Q)))))))))) : P_X10_around_17 M a1 a2 a3 a4 a5 Q := by
  refine pw_iload (pc' := 19) 5 rfl dX10_around_17 rfl ?_
  refine pw_aload_n (pc' := 20) 0 rfl dX10_around_19 rfl rfl ?_
  refine ps_getI (pc' := 23) (v := (M 182 0)) rfl dX10_around_20 fl_X10_95 ob_182 rfl rfl ?_
  refine pw_icmp_ge (pc' := 26) (tgt := 86) rfl dX10_around_23 (by decide) (fun q0 => ?_) (fun q0 => ?_)
  · have h := h.1 q0
    refine pw_iinc (pc' := 89) (lv' := [(0, .ref 182), (1, .int a1), (2, .int a2), (3, .int a3), (4, .int (a4 + (nI 1))), (5, .int a5)]) 4 [1, 2, 3, 4, 0, 5] rfl dX10_around_86 rfl (ii_1 _) (by decide) rfl ?_
    refine pw_goto (tgt := 5) dX10_around_89 (by decide) ?_
    exact pw_sub [0, 1, 2, 3, 4] rfl h
  · have h := h.2 q0
    refine pw_iload_n (pc' := 27) 1 rfl dX10_around_26 rfl rfl ?_
    refine pw_iload (pc' := 29) 4 rfl dX10_around_27 rfl ?_
    refine pw_ishr (pc' := 30) rfl dX10_around_29 ?_
    refine pw_iconst (pc' := 31) rfl dX10_around_30 ci_1 ?_
    refine pw_iand (pc' := 32) rfl dX10_around_31 ?_
    refine pw_iconst (pc' := 33) rfl dX10_around_32 ci_1 ?_
    refine pw_icmp_ne (pc' := 36) (tgt := 86) rfl dX10_around_33 (by decide) (fun q1 => ?_) (fun q1 => ?_)
    · have h := h.1 q1
      refine pw_iinc (pc' := 89) (lv' := [(0, .ref 182), (1, .int a1), (2, .int a2), (3, .int a3), (4, .int (a4 + (nI 1))), (5, .int a5)]) 4 [1, 2, 3, 4, 0, 5] rfl dX10_around_86 rfl (ii_1 _) (by decide) rfl ?_
      refine pw_goto (tgt := 5) dX10_around_89 (by decide) ?_
      exact pw_sub [0, 1, 2, 3, 4] rfl h
    · have h := h.2 q1
      refine pw_iload_n (pc' := 37) 3 rfl dX10_around_36 rfl rfl ?_
      refine pw_aload_n (pc' := 38) 0 rfl dX10_around_37 rfl rfl ?_
      refine ps_getR (pc' := 41) (r := 183) rfl dX10_around_38 fl_X10_7 ob_182 rfl rfl ?_
      refine pw_bipush (pc' := 43) rfl dX10_around_41 cb_10 ?_
      refine pw_iload (pc' := 45) 4 rfl dX10_around_43 rfl ?_
      refine pw_imul (pc' := 46) rfl dX10_around_45 ?_
      refine pw_iload (pc' := 48) 5 rfl dX10_around_46 rfl ?_
      refine pw_iadd (pc' := 49) rfl dX10_around_48 ?_
      obtain ⟨b2, h⟩ := h
      refine ps_iald (pc' := 50) (v := (M 183 (ix (((nI 10) * a4) + a5)))) rfl dX10_around_49 ia_183 b2 rfl ?_
      refine pw_if_lt (pc' := 53) (tgt := 77) rfl dX10_around_50 (by decide) (fun q3 => ?_) (fun q3 => ?_)
      · have h := h.1 q3
        refine pw_iconst (pc' := 78) rfl dX10_around_77 ci_0 ?_
        refine pw_ior (pc' := 79) rfl dX10_around_78 ?_
        refine pw_istore_n (pc' := 80) (lv' := [(0, .ref 182), (1, .int a1), (2, .int a2), (3, .int (a3 ||| (nI 0))), (4, .int a4), (5, .int a5)]) [1, 2, 3, 0, 4, 5] rfl dX10_around_79 rfl (by decide) rfl ?_
        refine pw_iinc (pc' := 83) (lv' := [(0, .ref 182), (1, .int a1), (2, .int a2), (3, .int (a3 ||| (nI 0))), (4, .int a4), (5, .int (a5 + (nI 1)))]) 5 [1, 2, 3, 4, 5, 0] rfl dX10_around_80 rfl (ii_1 _) (by decide) rfl ?_
        refine pw_goto (tgt := 17) dX10_around_83 (by decide) ?_
        exact pw_sub [0, 1, 2, 3, 4, 5] rfl h
      · have h := h.2 q3
        refine pw_aload_n (pc' := 54) 0 rfl dX10_around_53 rfl rfl ?_
        refine ps_getR (pc' := 57) (r := 183) rfl dX10_around_54 fl_X10_7 ob_182 rfl rfl ?_
        refine pw_bipush (pc' := 59) rfl dX10_around_57 cb_10 ?_
        refine pw_iload (pc' := 61) 4 rfl dX10_around_59 rfl ?_
        refine pw_imul (pc' := 62) rfl dX10_around_61 ?_
        refine pw_iload (pc' := 64) 5 rfl dX10_around_62 rfl ?_
        refine pw_iadd (pc' := 65) rfl dX10_around_64 ?_
        refine ps_iald (pc' := 66) (v := (M 183 (ix (((nI 10) * a4) + a5)))) rfl dX10_around_65 ia_183 b2 rfl ?_
        refine pw_iload_n (pc' := 67) 2 rfl dX10_around_66 rfl rfl ?_
        refine pw_icmp_gt (pc' := 70) (tgt := 77) rfl dX10_around_67 (by decide) (fun q5 => ?_) (fun q5 => ?_)
        · have h := h.1 q5
          refine pw_iconst (pc' := 78) rfl dX10_around_77 ci_0 ?_
          refine pw_ior (pc' := 79) rfl dX10_around_78 ?_
          refine pw_istore_n (pc' := 80) (lv' := [(0, .ref 182), (1, .int a1), (2, .int a2), (3, .int (a3 ||| (nI 0))), (4, .int a4), (5, .int a5)]) [1, 2, 3, 0, 4, 5] rfl dX10_around_79 rfl (by decide) rfl ?_
          refine pw_iinc (pc' := 83) (lv' := [(0, .ref 182), (1, .int a1), (2, .int a2), (3, .int (a3 ||| (nI 0))), (4, .int a4), (5, .int (a5 + (nI 1)))]) 5 [1, 2, 3, 4, 5, 0] rfl dX10_around_80 rfl (ii_1 _) (by decide) rfl ?_
          refine pw_goto (tgt := 17) dX10_around_83 (by decide) ?_
          exact pw_sub [0, 1, 2, 3, 4, 5] rfl h
        · have h := h.2 q5
          refine pw_iconst (pc' := 71) rfl dX10_around_70 ci_1 ?_
          refine pw_iload (pc' := 73) 5 rfl dX10_around_71 rfl ?_
          refine pw_ishl (pc' := 74) rfl dX10_around_73 ?_
          refine pw_goto (tgt := 78) dX10_around_74 (by decide) ?_
          refine pw_ior (pc' := 79) rfl dX10_around_78 ?_
          refine pw_istore_n (pc' := 80) (lv' := [(0, .ref 182), (1, .int a1), (2, .int a2), (3, .int (a3 ||| ((nI 1) <<< (a5 &&& 31)))), (4, .int a4), (5, .int a5)]) [1, 2, 3, 0, 4, 5] rfl dX10_around_79 rfl (by decide) rfl ?_
          refine pw_iinc (pc' := 83) (lv' := [(0, .ref 182), (1, .int a1), (2, .int a2), (3, .int (a3 ||| ((nI 1) <<< (a5 &&& 31)))), (4, .int a4), (5, .int (a5 + (nI 1)))]) 5 [1, 2, 3, 4, 5, 0] rfl dX10_around_80 rfl (ii_1 _) (by decide) rfl ?_
          refine pw_goto (tgt := 17) dX10_around_83 (by decide) ?_
          exact pw_sub [0, 1, 2, 3, 4, 5] rfl h
theorem T_X10_maybe {M : Mem} {a1 : Int32} {a2 : Int32} {Q : Int32 → Mem → Prop}  (h : C_X10_isOne M a1 (fun r0 M0 => ((r0 = 0) → (Q (-1) M0)) ∧ ((¬ r0 = 0) → (C_X10_isTick M0 a2 (fun r2 M2 => ((¬ r2 = 0) → (((¬ (M2 182 0) = 0) → (C_X10_liarsBut M2 (-4) (fun r5 M5 => C_X10_goes M5 a1 r5 (-4) (fun r6 M6 => vp_in a2 24 ∧ (Q (M6 203 (ix a2)) M6))))) ∧ (((M2 182 0) = 0) → (Q (-2) M2)))) ∧ ((r2 = 0) → (Q (-1) M2))))))) : C_X10_maybe M a1 a2 Q := by
  refine CA_of rfl (Nat.le_of_ble_eq_true rfl) ?_
  show PS _ _ 0 [(0, .ref 182), (1, .int a1), (2, .int a2)] [] M _
  refine pw_aload_n (pc' := 1) 0 rfl dX10_maybe_0 rfl rfl ?_
  refine pw_iload_n (pc' := 2) 1 rfl dX10_maybe_1 rfl rfl ?_
  refine ps_callVI (pc' := 5) (As := [.int a1]) (rest := []) (cT := (RX10, TX10, 44)) 1 rfl dX10_maybe_2 cv_X10_isOne ml_X10_265 (by decide) rfl rfl (by decide) (Nat.le_of_ble_eq_true rfl) ob_182 rfl rfl (CA.monoI h ?_)
  intro r0 M0 h
  refine pw_if_eq (pc' := 8) (tgt := 15) rfl dX10_maybe_5 (by decide) (fun q1 => ?_) (fun q1 => ?_)
  · have h := h.1 q1
    refine pw_iconst (pc' := 16) rfl dX10_maybe_15 ci_m1 ?_
    exact ps_iret dX10_maybe_16 rfl h
  · have h := h.2 q1
    refine pw_iload_n (pc' := 9) 2 rfl dX10_maybe_8 rfl rfl ?_
    refine ps_callSI (pc' := 12) (As := [.int a2]) (rest := []) 1 rfl dX10_maybe_9 cs_X10_isTick ml_X10_164 (by decide) rfl rfl (by decide) (Nat.le_of_ble_eq_true rfl) (CA.monoI h ?_)
    intro r2 M2 h
    refine pw_if_ne (pc' := 15) (tgt := 17) rfl dX10_maybe_12 (by decide) (fun q3 => ?_) (fun q3 => ?_)
    · have h := h.1 q3
      refine pw_aload_n (pc' := 18) 0 rfl dX10_maybe_17 rfl rfl ?_
      refine ps_getI (pc' := 21) (v := (M2 182 0)) rfl dX10_maybe_18 fl_X10_95 ob_182 rfl rfl ?_
      refine pw_if_ne (pc' := 24) (tgt := 27) rfl dX10_maybe_21 (by decide) (fun q4 => ?_) (fun q4 => ?_)
      · have h := h.1 q4
        refine pw_aload_n (pc' := 28) 0 rfl dX10_maybe_27 rfl rfl ?_
        refine pw_iload_n (pc' := 29) 1 rfl dX10_maybe_28 rfl rfl ?_
        refine pw_aload_n (pc' := 30) 0 rfl dX10_maybe_29 rfl rfl ?_
        refine pw_bipush (pc' := 32) rfl dX10_maybe_30 cb_m4 ?_
        refine ps_callVI (pc' := 35) (As := [.int (-4)]) (rest := [.int a1, .ref 182]) (cT := (RX10, TX10, 44)) 1 rfl dX10_maybe_32 cv_X10_liarsBut ml_X10_278 (by decide) rfl rfl (by decide) (Nat.le_of_ble_eq_true rfl) ob_182 rfl rfl (CA.monoI h ?_)
        intro r5 M5 h
        refine pw_bipush (pc' := 37) rfl dX10_maybe_35 cb_m4 ?_
        refine ps_callVI (pc' := 40) (As := [.int a1, .int r5, .int (-4)]) (rest := []) (cT := (RX10, TX10, 44)) 3 rfl dX10_maybe_37 cv_X10_goes ml_X10_274 (by decide) rfl rfl (by decide) (Nat.le_of_ble_eq_true rfl) ob_182 rfl rfl (CA.monoI h ?_)
        intro r6 M6 h
        refine pw_pop (pc' := 41) rfl dX10_maybe_40 rfl ?_
        refine pw_aload_n (pc' := 42) 0 rfl dX10_maybe_41 rfl rfl ?_
        refine ps_getR (pc' := 45) (r := 203) rfl dX10_maybe_42 fl_X10_74 ob_182 rfl rfl ?_
        refine pw_iload_n (pc' := 46) 2 rfl dX10_maybe_45 rfl rfl ?_
        obtain ⟨b7, h⟩ := h
        refine ps_iald (pc' := 47) (v := (M6 203 (ix a2))) rfl dX10_maybe_46 ia_203 b7 rfl ?_
        exact ps_iret dX10_maybe_47 rfl h
      · have h := h.2 q4
        refine pw_bipush (pc' := 26) rfl dX10_maybe_24 cb_m2 ?_
        exact ps_iret dX10_maybe_26 rfl h
    · have h := h.2 q3
      refine pw_iconst (pc' := 16) rfl dX10_maybe_15 ci_m1 ?_
      exact ps_iret dX10_maybe_16 rfl h
theorem T_X10_theft {M : Mem} {a1 : Int32} {a2 : Int32} {a3 : Int32} {Q : Int32 → Mem → Prop}  (h : C_X10_isRoom M a1 (fun r0 M0 => ((r0 = 0) → (Q (-1) M0)) ∧ ((¬ r0 = 0) → (C_X10_isTick M0 a2 (fun r2 M2 => ((r2 = 0) → (Q (-1) M2)) ∧ ((¬ r2 = 0) → (C_X10_in M2 (a3.toInt64) (a2.toInt64) (23 : Int64) (fun r4 M4 => ((¬ r4 = 0) → (Q (nI 1) (wr (wr (wr M4 182 32 a1) 182 33 a2) 182 34 a3))) ∧ ((r4 = 0) → (Q (-1) M4)))))))))) : C_X10_theft M a1 a2 a3 Q := by
  refine CA_of rfl (Nat.le_of_ble_eq_true rfl) ?_
  show PS _ _ 0 [(0, .ref 182), (1, .int a1), (2, .int a2), (3, .int a3)] [] M _
  refine pw_aload_n (pc' := 1) 0 rfl dX10_theft_0 rfl rfl ?_
  refine pw_iload_n (pc' := 2) 1 rfl dX10_theft_1 rfl rfl ?_
  refine ps_callVI (pc' := 5) (As := [.int a1]) (rest := []) (cT := (RX10, TX10, 44)) 1 rfl dX10_theft_2 cv_X10_isRoom ml_X10_108 (by decide) rfl rfl (by decide) (Nat.le_of_ble_eq_true rfl) ob_182 rfl rfl (CA.monoI h ?_)
  intro r0 M0 h
  refine pw_if_eq (pc' := 8) (tgt := 28) rfl dX10_theft_5 (by decide) (fun q1 => ?_) (fun q1 => ?_)
  · have h := h.1 q1
    refine pw_iconst (pc' := 29) rfl dX10_theft_28 ci_m1 ?_
    exact ps_iret dX10_theft_29 rfl h
  · have h := h.2 q1
    refine pw_iload_n (pc' := 9) 2 rfl dX10_theft_8 rfl rfl ?_
    refine ps_callSI (pc' := 12) (As := [.int a2]) (rest := []) 1 rfl dX10_theft_9 cs_X10_isTick ml_X10_164 (by decide) rfl rfl (by decide) (Nat.le_of_ble_eq_true rfl) (CA.monoI h ?_)
    intro r2 M2 h
    refine pw_if_eq (pc' := 15) (tgt := 28) rfl dX10_theft_12 (by decide) (fun q3 => ?_) (fun q3 => ?_)
    · have h := h.1 q3
      refine pw_iconst (pc' := 29) rfl dX10_theft_28 ci_m1 ?_
      exact ps_iret dX10_theft_29 rfl h
    · have h := h.2 q3
      refine pw_iload_n (pc' := 16) 3 rfl dX10_theft_15 rfl rfl ?_
      refine pw_i2l (pc' := 17) rfl dX10_theft_16 rfl ?_
      refine pw_iload_n (pc' := 18) 2 rfl dX10_theft_17 rfl rfl ?_
      refine pw_i2l (pc' := 19) rfl dX10_theft_18 rfl ?_
      refine pw_ldc2 (pc' := 22) rfl dX10_theft_19 cn_X10_102 ?_
      refine ps_callSI (pc' := 25) (As := [.long (a3.toInt64), .long (a2.toInt64), .long (23 : Int64)]) (rest := []) 3 rfl dX10_theft_22 cs_X10_in ml_X10_98 (by decide) rfl rfl (by decide) (Nat.le_of_ble_eq_true rfl) (CA.monoI h ?_)
      intro r4 M4 h
      refine pw_if_ne (pc' := 28) (tgt := 30) rfl dX10_theft_25 (by decide) (fun q5 => ?_) (fun q5 => ?_)
      · have h := h.1 q5
        refine pw_aload_n (pc' := 31) 0 rfl dX10_theft_30 rfl rfl ?_
        refine pw_iload_n (pc' := 32) 1 rfl dX10_theft_31 rfl rfl ?_
        refine ps_putI (pc' := 35) rfl dX10_theft_32 fl_X10_67 ob_182 rfl ?_
        refine pw_aload_n (pc' := 36) 0 rfl dX10_theft_35 rfl rfl ?_
        refine pw_iload_n (pc' := 37) 2 rfl dX10_theft_36 rfl rfl ?_
        refine ps_putI (pc' := 40) rfl dX10_theft_37 fl_X10_281 ob_182 rfl ?_
        refine pw_aload_n (pc' := 41) 0 rfl dX10_theft_40 rfl rfl ?_
        refine pw_iload_n (pc' := 42) 3 rfl dX10_theft_41 rfl rfl ?_
        refine ps_putI (pc' := 45) rfl dX10_theft_42 fl_X10_284 ob_182 rfl ?_
        refine pw_iconst (pc' := 46) rfl dX10_theft_45 ci_1 ?_
        exact ps_iret dX10_theft_46 rfl h
      · have h := h.2 q5
        refine pw_iconst (pc' := 29) rfl dX10_theft_28 ci_m1 ?_
        exact ps_iret dX10_theft_29 rfl h
theorem T_X10_suspects {M : Mem}  {Q : Int32 → Mem → Prop}  (h : ((0 ≤ (M 182 32)) → (C_X10_suspectsBut M (-4) (fun r1 M1 => Q r1 M1))) ∧ ((¬ 0 ≤ (M 182 32)) → (Q (-2) M))) : C_X10_suspects M  Q := by
  refine CA_of rfl (Nat.le_of_ble_eq_true rfl) ?_
  show PS _ _ 0 [(0, .ref 182)] [] M _
  refine pw_aload_n (pc' := 1) 0 rfl dX10_suspects_0 rfl rfl ?_
  refine ps_getI (pc' := 4) (v := (M 182 32)) rfl dX10_suspects_1 fl_X10_67 ob_182 rfl rfl ?_
  refine pw_if_ge (pc' := 7) (tgt := 12) rfl dX10_suspects_4 (by decide) (fun q0 => ?_) (fun q0 => ?_)
  · have h := h.1 q0
    refine pw_aload_n (pc' := 13) 0 rfl dX10_suspects_12 rfl rfl ?_
    refine pw_bipush (pc' := 15) rfl dX10_suspects_13 cb_m4 ?_
    refine ps_callVI (pc' := 18) (As := [.int (-4)]) (rest := []) (cT := (RX10, TX10, 44)) 1 rfl dX10_suspects_15 cv_X10_suspectsBut ml_X10_287 (by decide) rfl rfl (by decide) (Nat.le_of_ble_eq_true rfl) ob_182 rfl rfl (CA.monoI h ?_)
    intro r1 M1 h
    exact ps_iret dX10_suspects_18 rfl h
  · have h := h.2 q0
    refine pw_bipush (pc' := 9) rfl dX10_suspects_7 cb_m2 ?_
    refine pw_goto (tgt := 18) dX10_suspects_9 (by decide) ?_
    exact ps_iret dX10_suspects_18 rfl h
theorem T_X10_suspectsBut {M : Mem} {a1 : Int32} {Q : Int32 → Mem → Prop}  (h : C_X10_liarsBut M a1 (fun r0 M0 => P_X10_suspectsBut_8 M0 a1 r0 (nI 0) Q)) : C_X10_suspectsBut M a1 Q := by
  refine CA_of rfl (Nat.le_of_ble_eq_true rfl) ?_
  show PS _ _ 0 [(0, .ref 182), (1, .int a1)] [] M _
  refine pw_aload_n (pc' := 1) 0 rfl dX10_suspectsBut_0 rfl rfl ?_
  refine pw_iload_n (pc' := 2) 1 rfl dX10_suspectsBut_1 rfl rfl ?_
  refine ps_callVI (pc' := 5) (As := [.int a1]) (rest := []) (cT := (RX10, TX10, 44)) 1 rfl dX10_suspectsBut_2 cv_X10_liarsBut ml_X10_278 (by decide) rfl rfl (by decide) (Nat.le_of_ble_eq_true rfl) ob_182 rfl rfl (CA.monoI h ?_)
  intro r0 M0 h
  refine pw_istore_n (pc' := 6) (lv' := [(0, .ref 182), (1, .int a1), (2, .int r0)]) [1, 2, 0] rfl dX10_suspectsBut_5 rfl (by decide) rfl ?_
  refine pw_iconst (pc' := 7) rfl dX10_suspectsBut_6 ci_0 ?_
  refine pw_istore_n (pc' := 8) (lv' := [(0, .ref 182), (1, .int a1), (2, .int r0), (3, .int (nI 0))]) [1, 2, 3, 0] rfl dX10_suspectsBut_7 rfl (by decide) rfl ?_
  exact pw_sub [0, 1, 2, 3] rfl h
theorem T_X10_suspectsBut_8 {M : Mem} {a1 : Int32} {a2 : Int32} {a3 : Int32} {Q : Int32 → Mem → Prop}  (h : (((M 182 28) ≤ a3) → (P_X10_suspectsBut_105 M (nI 0) (M 182 33) Q)) ∧ ((¬ (M 182 28) ≤ a3) → (C_X10_goes M a3 a2 a1 (fun r1 M1 => P_X10_suspectsBut_27 M1 a1 a2 a3 (nI 0) Q)))) : P_X10_suspectsBut_8 M a1 a2 a3 Q := by
  refine pw_iload_n (pc' := 9) 3 rfl dX10_suspectsBut_8 rfl rfl ?_
  refine pw_aload_n (pc' := 10) 0 rfl dX10_suspectsBut_9 rfl rfl ?_
  refine ps_getI (pc' := 13) (v := (M 182 28)) rfl dX10_suspectsBut_10 fl_X10_262 ob_182 rfl rfl ?_
  refine pw_icmp_ge (pc' := 16) (tgt := 97) rfl dX10_suspectsBut_13 (by decide) (fun q0 => ?_) (fun q0 => ?_)
  · have h := h.1 q0
    refine pw_iconst (pc' := 98) rfl dX10_suspectsBut_97 ci_0 ?_
    refine pw_istore_n (pc' := 99) (lv' := [(0, .ref 182), (1, .int a1), (2, .int a2), (3, .int (nI 0))]) [1, 2, 3, 0] rfl dX10_suspectsBut_98 rfl (by decide) rfl ?_
    refine pw_aload_n (pc' := 100) 0 rfl dX10_suspectsBut_99 rfl rfl ?_
    refine ps_getI (pc' := 103) (v := (M 182 33)) rfl dX10_suspectsBut_100 fl_X10_281 ob_182 rfl rfl ?_
    refine pw_istore (pc' := 105) (lv' := [(0, .ref 182), (1, .int a1), (2, .int a2), (3, .int (nI 0)), (4, .int (M 182 33))]) [1, 2, 3, 4, 0] rfl dX10_suspectsBut_103 (by decide) rfl ?_
    exact pw_sub [0, 3, 4] rfl h
  · have h := h.2 q0
    refine pw_aload_n (pc' := 17) 0 rfl dX10_suspectsBut_16 rfl rfl ?_
    refine pw_iload_n (pc' := 18) 3 rfl dX10_suspectsBut_17 rfl rfl ?_
    refine pw_iload_n (pc' := 19) 2 rfl dX10_suspectsBut_18 rfl rfl ?_
    refine pw_iload_n (pc' := 20) 1 rfl dX10_suspectsBut_19 rfl rfl ?_
    refine ps_callVI (pc' := 23) (As := [.int a3, .int a2, .int a1]) (rest := []) (cT := (RX10, TX10, 44)) 3 rfl dX10_suspectsBut_20 cv_X10_goes ml_X10_274 (by decide) rfl rfl (by decide) (Nat.le_of_ble_eq_true rfl) ob_182 rfl rfl (CA.monoI h ?_)
    intro r1 M1 h
    refine pw_pop (pc' := 24) rfl dX10_suspectsBut_23 rfl ?_
    refine pw_iconst (pc' := 25) rfl dX10_suspectsBut_24 ci_0 ?_
    refine pw_istore (pc' := 27) (lv' := [(0, .ref 182), (1, .int a1), (2, .int a2), (3, .int a3), (4, .int (nI 0))]) [1, 2, 3, 4, 0] rfl dX10_suspectsBut_25 (by decide) rfl ?_
    exact pw_sub [0, 1, 2, 3, 4] rfl h
theorem T_X10_suspectsBut_27 {M : Mem} {a1 : Int32} {a2 : Int32} {a3 : Int32} {a4 : Int32} {Q : Int32 → Mem → Prop}  (h : (((nI 24) ≤ a4) → (P_X10_suspectsBut_8 M a1 a2 (a3 + (nI 1)) Q)) ∧ ((¬ (nI 24) ≤ a4) → (vp_in a4 24 ∧ (((((M 203 (ix a4)) &&& (((nI 1) <<< ((M 182 32) &&& 31)) ^^^ (-1))) = 0) → (vp_in (((nI 24) * a3) + a4) 120 ∧ (P_X10_suspectsBut_27 (wr M 204 (ix (((nI 24) * a3) + a4)) ((((M 203 (ix a4)) >>> ((M 182 32) &&& 31)) &&& (nI 1)) + (nI 0))) a1 a2 a3 (a4 + (nI 1)) Q))) ∧ ((¬ ((M 203 (ix a4)) &&& (((nI 1) <<< ((M 182 32) &&& 31)) ^^^ (-1))) = 0) → (vp_in (((nI 24) * a3) + a4) 120 ∧ (P_X10_suspectsBut_27 (wr M 204 (ix (((nI 24) * a3) + a4)) ((((M 203 (ix a4)) >>> ((M 182 32) &&& 31)) &&& (nI 1)) + (nI 2))) a1 a2 a3 (a4 + (nI 1)) Q))))))) : P_X10_suspectsBut_27 M a1 a2 a3 a4 Q := by
  refine pw_iload (pc' := 29) 4 rfl dX10_suspectsBut_27 rfl ?_
  refine pw_bipush (pc' := 31) rfl dX10_suspectsBut_29 cb_24 ?_
  refine pw_icmp_ge (pc' := 34) (tgt := 91) rfl dX10_suspectsBut_31 (by decide) (fun q0 => ?_) (fun q0 => ?_)
  · have h := h.1 q0
    refine pw_iinc (pc' := 94) (lv' := [(0, .ref 182), (1, .int a1), (2, .int a2), (3, .int (a3 + (nI 1))), (4, .int a4)]) 3 [1, 2, 3, 0, 4] rfl dX10_suspectsBut_91 rfl (ii_1 _) (by decide) rfl ?_
    refine pw_goto (tgt := 8) dX10_suspectsBut_94 (by decide) ?_
    exact pw_sub [0, 1, 2, 3] rfl h
  · have h := h.2 q0
    refine pw_aload_n (pc' := 35) 0 rfl dX10_suspectsBut_34 rfl rfl ?_
    refine ps_getR (pc' := 38) (r := 204) rfl dX10_suspectsBut_35 fl_X10_77 ob_182 rfl rfl ?_
    refine pw_bipush (pc' := 40) rfl dX10_suspectsBut_38 cb_24 ?_
    refine pw_iload_n (pc' := 41) 3 rfl dX10_suspectsBut_40 rfl rfl ?_
    refine pw_imul (pc' := 42) rfl dX10_suspectsBut_41 ?_
    refine pw_iload (pc' := 44) 4 rfl dX10_suspectsBut_42 rfl ?_
    refine pw_iadd (pc' := 45) rfl dX10_suspectsBut_44 ?_
    refine pw_aload_n (pc' := 46) 0 rfl dX10_suspectsBut_45 rfl rfl ?_
    refine ps_getR (pc' := 49) (r := 203) rfl dX10_suspectsBut_46 fl_X10_74 ob_182 rfl rfl ?_
    refine pw_iload (pc' := 51) 4 rfl dX10_suspectsBut_49 rfl ?_
    obtain ⟨b1, h⟩ := h
    refine ps_iald (pc' := 52) (v := (M 203 (ix a4))) rfl dX10_suspectsBut_51 ia_203 b1 rfl ?_
    refine pw_aload_n (pc' := 53) 0 rfl dX10_suspectsBut_52 rfl rfl ?_
    refine ps_getI (pc' := 56) (v := (M 182 32)) rfl dX10_suspectsBut_53 fl_X10_67 ob_182 rfl rfl ?_
    refine pw_ishr (pc' := 57) rfl dX10_suspectsBut_56 ?_
    refine pw_iconst (pc' := 58) rfl dX10_suspectsBut_57 ci_1 ?_
    refine pw_iand (pc' := 59) rfl dX10_suspectsBut_58 ?_
    refine pw_aload_n (pc' := 60) 0 rfl dX10_suspectsBut_59 rfl rfl ?_
    refine ps_getR (pc' := 63) (r := 203) rfl dX10_suspectsBut_60 fl_X10_74 ob_182 rfl rfl ?_
    refine pw_iload (pc' := 65) 4 rfl dX10_suspectsBut_63 rfl ?_
    refine ps_iald (pc' := 66) (v := (M 203 (ix a4))) rfl dX10_suspectsBut_65 ia_203 b1 rfl ?_
    refine pw_iconst (pc' := 67) rfl dX10_suspectsBut_66 ci_1 ?_
    refine pw_aload_n (pc' := 68) 0 rfl dX10_suspectsBut_67 rfl rfl ?_
    refine ps_getI (pc' := 71) (v := (M 182 32)) rfl dX10_suspectsBut_68 fl_X10_67 ob_182 rfl rfl ?_
    refine pw_ishl (pc' := 72) rfl dX10_suspectsBut_71 ?_
    refine pw_iconst (pc' := 73) rfl dX10_suspectsBut_72 ci_m1 ?_
    refine pw_ixor (pc' := 74) rfl dX10_suspectsBut_73 ?_
    refine pw_iand (pc' := 75) rfl dX10_suspectsBut_74 ?_
    refine pw_if_eq (pc' := 78) (tgt := 82) rfl dX10_suspectsBut_75 (by decide) (fun q3 => ?_) (fun q3 => ?_)
    · have h := h.1 q3
      refine pw_iconst (pc' := 83) rfl dX10_suspectsBut_82 ci_0 ?_
      refine pw_iadd (pc' := 84) rfl dX10_suspectsBut_83 ?_
      obtain ⟨b4, h⟩ := h
      refine ps_iast (pc' := 85) rfl dX10_suspectsBut_84 ia_204 b4 ?_
      refine pw_iinc (pc' := 88) (lv' := [(0, .ref 182), (1, .int a1), (2, .int a2), (3, .int a3), (4, .int (a4 + (nI 1)))]) 4 [1, 2, 3, 4, 0] rfl dX10_suspectsBut_85 rfl (ii_1 _) (by decide) rfl ?_
      refine pw_goto (tgt := 27) dX10_suspectsBut_88 (by decide) ?_
      exact pw_sub [0, 1, 2, 3, 4] rfl h
    · have h := h.2 q3
      refine pw_iconst (pc' := 79) rfl dX10_suspectsBut_78 ci_2 ?_
      refine pw_goto (tgt := 83) dX10_suspectsBut_79 (by decide) ?_
      refine pw_iadd (pc' := 84) rfl dX10_suspectsBut_83 ?_
      obtain ⟨b4, h⟩ := h
      refine ps_iast (pc' := 85) rfl dX10_suspectsBut_84 ia_204 b4 ?_
      refine pw_iinc (pc' := 88) (lv' := [(0, .ref 182), (1, .int a1), (2, .int a2), (3, .int a3), (4, .int (a4 + (nI 1)))]) 4 [1, 2, 3, 4, 0] rfl dX10_suspectsBut_85 rfl (ii_1 _) (by decide) rfl ?_
      refine pw_goto (tgt := 27) dX10_suspectsBut_88 (by decide) ?_
      exact pw_sub [0, 1, 2, 3, 4] rfl h
theorem T_X10_suspectsBut_105 {M : Mem} {a3 : Int32} {a4 : Int32} {Q : Int32 → Mem → Prop}  (h : (((M 182 34) < a4) → (Q a3 M)) ∧ ((¬ (M 182 34) < a4) → (P_X10_suspectsBut_117 M a3 a4 (nI 0) Q))) : P_X10_suspectsBut_105 M a3 a4 Q := by
  refine pw_iload (pc' := 107) 2 rfl dX10_suspectsBut_105 rfl ?_
  refine pw_aload_n (pc' := 108) 0 rfl dX10_suspectsBut_107 rfl rfl ?_
  refine ps_getI (pc' := 111) (v := (M 182 34)) rfl dX10_suspectsBut_108 fl_X10_284 ob_182 rfl rfl ?_
  refine pw_icmp_gt (pc' := 114) (tgt := 234) rfl dX10_suspectsBut_111 (by decide) (fun q0 => ?_) (fun q0 => ?_)
  · have h := h.1 q0
    refine pw_iload_n (pc' := 235) 1 rfl dX10_suspectsBut_234 rfl rfl ?_
    exact ps_iret dX10_suspectsBut_235 rfl h
  · have h := h.2 q0
    refine pw_iconst (pc' := 115) rfl dX10_suspectsBut_114 ci_0 ?_
    refine pw_istore (pc' := 117) (lv' := [(0, .ref 182), (3, .int a3), (4, .int a4), (5, .int (nI 0))]) [1, 2, 3, 0] rfl dX10_suspectsBut_115 (by decide) rfl ?_
    exact pw_sub [0, 1, 2, 3] rfl h
theorem T_X10_suspectsBut_117 {M : Mem} {a3 : Int32} {a4 : Int32} {a5 : Int32} {Q : Int32 → Mem → Prop}  (h : (((M 182 28) ≤ a5) → (P_X10_suspectsBut_105 M a3 (a4 + (nI 1)) Q)) ∧ ((¬ (M 182 28) ≤ a5) → (vp_in (((nI 24) * a5) + a4) 120 ∧ (((¬ ((M 204 (ix (((nI 24) * a5) + a4))) - (M 204 (ix (((nI 24) * a5) + a4))) / (nI 2) * (nI 2)) = (nI 1)) → (P_X10_suspectsBut_155 M a3 a4 a5 (nI 0) (nI 0) Q)) ∧ ((((M 204 (ix (((nI 24) * a5) + a4))) - (M 204 (ix (((nI 24) * a5) + a4))) / (nI 2) * (nI 2)) = (nI 1)) → (P_X10_suspectsBut_155 M a3 a4 a5 (nI 1) (nI 0) Q)))))) : P_X10_suspectsBut_117 M a3 a4 a5 Q := by
  refine pw_iload (pc' := 119) 3 rfl dX10_suspectsBut_117 rfl ?_
  refine pw_aload_n (pc' := 120) 0 rfl dX10_suspectsBut_119 rfl rfl ?_
  refine ps_getI (pc' := 123) (v := (M 182 28)) rfl dX10_suspectsBut_120 fl_X10_262 ob_182 rfl rfl ?_
  refine pw_icmp_ge (pc' := 126) (tgt := 228) rfl dX10_suspectsBut_123 (by decide) (fun q0 => ?_) (fun q0 => ?_)
  · have h := h.1 q0
    refine pw_iinc (pc' := 231) (lv' := [(0, .ref 182), (3, .int a3), (4, .int (a4 + (nI 1))), (5, .int a5)]) 2 [1, 2, 0, 3] rfl dX10_suspectsBut_228 rfl (ii_1 _) (by decide) rfl ?_
    refine pw_goto (tgt := 105) dX10_suspectsBut_231 (by decide) ?_
    exact pw_sub [0, 1, 2] rfl h
  · have h := h.2 q0
    refine pw_aload_n (pc' := 127) 0 rfl dX10_suspectsBut_126 rfl rfl ?_
    refine ps_getR (pc' := 130) (r := 204) rfl dX10_suspectsBut_127 fl_X10_77 ob_182 rfl rfl ?_
    refine pw_bipush (pc' := 132) rfl dX10_suspectsBut_130 cb_24 ?_
    refine pw_iload (pc' := 134) 3 rfl dX10_suspectsBut_132 rfl ?_
    refine pw_imul (pc' := 135) rfl dX10_suspectsBut_134 ?_
    refine pw_iload (pc' := 137) 2 rfl dX10_suspectsBut_135 rfl ?_
    refine pw_iadd (pc' := 138) rfl dX10_suspectsBut_137 ?_
    obtain ⟨b1, h⟩ := h
    refine ps_iald (pc' := 139) (v := (M 204 (ix (((nI 24) * a5) + a4)))) rfl dX10_suspectsBut_138 ia_204 b1 rfl ?_
    refine pw_iconst (pc' := 140) rfl dX10_suspectsBut_139 ci_2 ?_
    refine pw_irem (pc' := 141) rfl dX10_suspectsBut_140 (by decide) ?_
    refine pw_iconst (pc' := 142) rfl dX10_suspectsBut_141 ci_1 ?_
    refine pw_icmp_ne (pc' := 145) (tgt := 149) rfl dX10_suspectsBut_142 (by decide) (fun q2 => ?_) (fun q2 => ?_)
    · have h := h.1 q2
      refine pw_iconst (pc' := 150) rfl dX10_suspectsBut_149 ci_0 ?_
      refine pw_istore (pc' := 152) (lv' := [(0, .ref 182), (3, .int a3), (4, .int a4), (5, .int a5), (6, .int (nI 0))]) [1, 2, 3, 4, 0] rfl dX10_suspectsBut_150 (by decide) rfl ?_
      refine pw_iconst (pc' := 153) rfl dX10_suspectsBut_152 ci_0 ?_
      refine pw_istore (pc' := 155) (lv' := [(0, .ref 182), (3, .int a3), (4, .int a4), (5, .int a5), (6, .int (nI 0)), (7, .int (nI 0))]) [1, 2, 3, 4, 5, 0] rfl dX10_suspectsBut_153 (by decide) rfl ?_
      exact pw_sub [0, 1, 2, 3, 4, 5] rfl h
    · have h := h.2 q2
      refine pw_iconst (pc' := 146) rfl dX10_suspectsBut_145 ci_1 ?_
      refine pw_goto (tgt := 150) dX10_suspectsBut_146 (by decide) ?_
      refine pw_istore (pc' := 152) (lv' := [(0, .ref 182), (3, .int a3), (4, .int a4), (5, .int a5), (6, .int (nI 1))]) [1, 2, 3, 4, 0] rfl dX10_suspectsBut_150 (by decide) rfl ?_
      refine pw_iconst (pc' := 153) rfl dX10_suspectsBut_152 ci_0 ?_
      refine pw_istore (pc' := 155) (lv' := [(0, .ref 182), (3, .int a3), (4, .int a4), (5, .int a5), (6, .int (nI 1)), (7, .int (nI 0))]) [1, 2, 3, 4, 5, 0] rfl dX10_suspectsBut_153 (by decide) rfl ?_
      exact pw_sub [0, 1, 2, 3, 4, 5] rfl h
theorem T_X10_suspectsBut_155 {M : Mem} {a3 : Int32} {a4 : Int32} {a5 : Int32} {a6 : Int32} {a7 : Int32} {Q : Int32 → Mem → Prop}  (h : (((M 182 28) ≤ a7) → (((a6 = 0) → (P_X10_suspectsBut_117 M (a3 ||| (nI 0)) a4 (a5 + (nI 1)) Q)) ∧ ((¬ a6 = 0) → (P_X10_suspectsBut_117 M (a3 ||| ((nI 1) <<< (a5 &&& 31))) a4 (a5 + (nI 1)) Q)))) ∧ ((¬ (M 182 28) ≤ a7) → (((a6 = 0) → (P_X10_suspectsBut_155 M a3 a4 a5 (nI 0) (a7 + (nI 1)) Q)) ∧ ((¬ a6 = 0) → (((a7 = a5) → (P_X10_suspectsBut_155 M a3 a4 a5 (nI 1) (a7 + (nI 1)) Q)) ∧ ((¬ a7 = a5) → (vp_in (((nI 24) * a7) + a4) 120 ∧ ((((M 204 (ix (((nI 24) * a7) + a4))) ≤ (nI 1)) → (P_X10_suspectsBut_155 M a3 a4 a5 (nI 0) (a7 + (nI 1)) Q)) ∧ ((¬ (M 204 (ix (((nI 24) * a7) + a4))) ≤ (nI 1)) → (P_X10_suspectsBut_155 M a3 a4 a5 (nI 1) (a7 + (nI 1)) Q)))))))))) : P_X10_suspectsBut_155 M a3 a4 a5 a6 a7 Q := by
  refine pw_iload (pc' := 157) 5 rfl dX10_suspectsBut_155 rfl ?_
  refine pw_aload_n (pc' := 158) 0 rfl dX10_suspectsBut_157 rfl rfl ?_
  refine ps_getI (pc' := 161) (v := (M 182 28)) rfl dX10_suspectsBut_158 fl_X10_262 ob_182 rfl rfl ?_
  refine pw_icmp_ge (pc' := 164) (tgt := 206) rfl dX10_suspectsBut_161 (by decide) (fun q0 => ?_) (fun q0 => ?_)
  · have h := h.1 q0
    refine pw_iload_n (pc' := 207) 1 rfl dX10_suspectsBut_206 rfl rfl ?_
    refine pw_iload (pc' := 209) 4 rfl dX10_suspectsBut_207 rfl ?_
    refine pw_if_eq (pc' := 212) (tgt := 219) rfl dX10_suspectsBut_209 (by decide) (fun q1 => ?_) (fun q1 => ?_)
    · have h := h.1 q1
      refine pw_iconst (pc' := 220) rfl dX10_suspectsBut_219 ci_0 ?_
      refine pw_ior (pc' := 221) rfl dX10_suspectsBut_220 ?_
      refine pw_istore_n (pc' := 222) (lv' := [(0, .ref 182), (3, .int (a3 ||| (nI 0))), (4, .int a4), (5, .int a5), (6, .int a6), (7, .int a7)]) [1, 0, 2, 3, 4, 5] rfl dX10_suspectsBut_221 rfl (by decide) rfl ?_
      refine pw_iinc (pc' := 225) (lv' := [(0, .ref 182), (3, .int (a3 ||| (nI 0))), (4, .int a4), (5, .int (a5 + (nI 1))), (6, .int a6), (7, .int a7)]) 3 [1, 2, 3, 0, 4, 5] rfl dX10_suspectsBut_222 rfl (ii_1 _) (by decide) rfl ?_
      refine pw_goto (tgt := 117) dX10_suspectsBut_225 (by decide) ?_
      exact pw_sub [0, 1, 2, 3] rfl h
    · have h := h.2 q1
      refine pw_iconst (pc' := 213) rfl dX10_suspectsBut_212 ci_1 ?_
      refine pw_iload (pc' := 215) 3 rfl dX10_suspectsBut_213 rfl ?_
      refine pw_ishl (pc' := 216) rfl dX10_suspectsBut_215 ?_
      refine pw_goto (tgt := 220) dX10_suspectsBut_216 (by decide) ?_
      refine pw_ior (pc' := 221) rfl dX10_suspectsBut_220 ?_
      refine pw_istore_n (pc' := 222) (lv' := [(0, .ref 182), (3, .int (a3 ||| ((nI 1) <<< (a5 &&& 31)))), (4, .int a4), (5, .int a5), (6, .int a6), (7, .int a7)]) [1, 0, 2, 3, 4, 5] rfl dX10_suspectsBut_221 rfl (by decide) rfl ?_
      refine pw_iinc (pc' := 225) (lv' := [(0, .ref 182), (3, .int (a3 ||| ((nI 1) <<< (a5 &&& 31)))), (4, .int a4), (5, .int (a5 + (nI 1))), (6, .int a6), (7, .int a7)]) 3 [1, 2, 3, 0, 4, 5] rfl dX10_suspectsBut_222 rfl (ii_1 _) (by decide) rfl ?_
      refine pw_goto (tgt := 117) dX10_suspectsBut_225 (by decide) ?_
      exact pw_sub [0, 1, 2, 3] rfl h
  · have h := h.2 q0
    refine pw_iload (pc' := 166) 4 rfl dX10_suspectsBut_164 rfl ?_
    refine pw_if_eq (pc' := 169) (tgt := 197) rfl dX10_suspectsBut_166 (by decide) (fun q1 => ?_) (fun q1 => ?_)
    · have h := h.1 q1
      refine pw_iconst (pc' := 198) rfl dX10_suspectsBut_197 ci_0 ?_
      refine pw_istore (pc' := 200) (lv' := [(0, .ref 182), (3, .int a3), (4, .int a4), (5, .int a5), (6, .int (nI 0)), (7, .int a7)]) [1, 2, 3, 4, 0, 5] rfl dX10_suspectsBut_198 (by decide) rfl ?_
      refine pw_iinc (pc' := 203) (lv' := [(0, .ref 182), (3, .int a3), (4, .int a4), (5, .int a5), (6, .int (nI 0)), (7, .int (a7 + (nI 1)))]) 5 [1, 2, 3, 4, 5, 0] rfl dX10_suspectsBut_200 rfl (ii_1 _) (by decide) rfl ?_
      refine pw_goto (tgt := 155) dX10_suspectsBut_203 (by decide) ?_
      exact pw_sub [0, 1, 2, 3, 4, 5] rfl h
    · have h := h.2 q1
      refine pw_iload (pc' := 171) 5 rfl dX10_suspectsBut_169 rfl ?_
      refine pw_iload (pc' := 173) 3 rfl dX10_suspectsBut_171 rfl ?_
      refine pw_icmp_eq (pc' := 176) (tgt := 193) rfl dX10_suspectsBut_173 (by decide) (fun q2 => ?_) (fun q2 => ?_)
      · have h := h.1 q2
        refine pw_iconst (pc' := 194) rfl dX10_suspectsBut_193 ci_1 ?_
        refine pw_goto (tgt := 198) dX10_suspectsBut_194 (by decide) ?_
        refine pw_istore (pc' := 200) (lv' := [(0, .ref 182), (3, .int a3), (4, .int a4), (5, .int a5), (6, .int (nI 1)), (7, .int a7)]) [1, 2, 3, 4, 0, 5] rfl dX10_suspectsBut_198 (by decide) rfl ?_
        refine pw_iinc (pc' := 203) (lv' := [(0, .ref 182), (3, .int a3), (4, .int a4), (5, .int a5), (6, .int (nI 1)), (7, .int (a7 + (nI 1)))]) 5 [1, 2, 3, 4, 5, 0] rfl dX10_suspectsBut_200 rfl (ii_1 _) (by decide) rfl ?_
        refine pw_goto (tgt := 155) dX10_suspectsBut_203 (by decide) ?_
        exact pw_sub [0, 1, 2, 3, 4, 5] rfl h
      · have h := h.2 q2
        refine pw_aload_n (pc' := 177) 0 rfl dX10_suspectsBut_176 rfl rfl ?_
        refine ps_getR (pc' := 180) (r := 204) rfl dX10_suspectsBut_177 fl_X10_77 ob_182 rfl rfl ?_
        refine pw_bipush (pc' := 182) rfl dX10_suspectsBut_180 cb_24 ?_
        refine pw_iload (pc' := 184) 5 rfl dX10_suspectsBut_182 rfl ?_
        refine pw_imul (pc' := 185) rfl dX10_suspectsBut_184 ?_
        refine pw_iload (pc' := 187) 2 rfl dX10_suspectsBut_185 rfl ?_
        refine pw_iadd (pc' := 188) rfl dX10_suspectsBut_187 ?_
        obtain ⟨b3, h⟩ := h
        refine ps_iald (pc' := 189) (v := (M 204 (ix (((nI 24) * a7) + a4)))) rfl dX10_suspectsBut_188 ia_204 b3 rfl ?_
        refine pw_iconst (pc' := 190) rfl dX10_suspectsBut_189 ci_1 ?_
        refine pw_icmp_le (pc' := 193) (tgt := 197) rfl dX10_suspectsBut_190 (by decide) (fun q4 => ?_) (fun q4 => ?_)
        · have h := h.1 q4
          refine pw_iconst (pc' := 198) rfl dX10_suspectsBut_197 ci_0 ?_
          refine pw_istore (pc' := 200) (lv' := [(0, .ref 182), (3, .int a3), (4, .int a4), (5, .int a5), (6, .int (nI 0)), (7, .int a7)]) [1, 2, 3, 4, 0, 5] rfl dX10_suspectsBut_198 (by decide) rfl ?_
          refine pw_iinc (pc' := 203) (lv' := [(0, .ref 182), (3, .int a3), (4, .int a4), (5, .int a5), (6, .int (nI 0)), (7, .int (a7 + (nI 1)))]) 5 [1, 2, 3, 4, 5, 0] rfl dX10_suspectsBut_200 rfl (ii_1 _) (by decide) rfl ?_
          refine pw_goto (tgt := 155) dX10_suspectsBut_203 (by decide) ?_
          exact pw_sub [0, 1, 2, 3, 4, 5] rfl h
        · have h := h.2 q4
          refine pw_iconst (pc' := 194) rfl dX10_suspectsBut_193 ci_1 ?_
          refine pw_goto (tgt := 198) dX10_suspectsBut_194 (by decide) ?_
          refine pw_istore (pc' := 200) (lv' := [(0, .ref 182), (3, .int a3), (4, .int a4), (5, .int a5), (6, .int (nI 1)), (7, .int a7)]) [1, 2, 3, 4, 0, 5] rfl dX10_suspectsBut_198 (by decide) rfl ?_
          refine pw_iinc (pc' := 203) (lv' := [(0, .ref 182), (3, .int a3), (4, .int a4), (5, .int a5), (6, .int (nI 1)), (7, .int (a7 + (nI 1)))]) 5 [1, 2, 3, 4, 5, 0] rfl dX10_suspectsBut_200 rfl (ii_1 _) (by decide) rfl ?_
          refine pw_goto (tgt := 155) dX10_suspectsBut_203 (by decide) ?_
          exact pw_sub [0, 1, 2, 3, 4, 5] rfl h
theorem T_X10_clears {M : Mem} {a1 : Int32} {Q : Int32 → Mem → Prop}  (h : C_X10_isOne M a1 (fun r0 M0 => ((¬ r0 = 0) → (((0 ≤ (M0 182 32)) → (C_X10_suspectsBut M0 (-4) (fun r3 M3 => ((¬ ((r3 >>> (a1 &&& 31)) &&& (nI 1)) = (nI 1)) → (P_X10_clears_41 M3 a1 (nI 0) (nI 0) Q)) ∧ ((((r3 >>> (a1 &&& 31)) &&& (nI 1)) = (nI 1)) → (Q (-4) M3))))) ∧ ((¬ 0 ≤ (M0 182 32)) → (Q (-2) M0)))) ∧ ((r0 = 0) → (Q (-1) M0)))) : C_X10_clears M a1 Q := by
  refine CA_of rfl (Nat.le_of_ble_eq_true rfl) ?_
  show PS _ _ 0 [(0, .ref 182), (1, .int a1)] [] M _
  refine pw_aload_n (pc' := 1) 0 rfl dX10_clears_0 rfl rfl ?_
  refine pw_iload_n (pc' := 2) 1 rfl dX10_clears_1 rfl rfl ?_
  refine ps_callVI (pc' := 5) (As := [.int a1]) (rest := []) (cT := (RX10, TX10, 44)) 1 rfl dX10_clears_2 cv_X10_isOne ml_X10_265 (by decide) rfl rfl (by decide) (Nat.le_of_ble_eq_true rfl) ob_182 rfl rfl (CA.monoI h ?_)
  intro r0 M0 h
  refine pw_if_ne (pc' := 8) (tgt := 10) rfl dX10_clears_5 (by decide) (fun q1 => ?_) (fun q1 => ?_)
  · have h := h.1 q1
    refine pw_aload_n (pc' := 11) 0 rfl dX10_clears_10 rfl rfl ?_
    refine ps_getI (pc' := 14) (v := (M0 182 32)) rfl dX10_clears_11 fl_X10_67 ob_182 rfl rfl ?_
    refine pw_if_ge (pc' := 17) (tgt := 20) rfl dX10_clears_14 (by decide) (fun q2 => ?_) (fun q2 => ?_)
    · have h := h.1 q2
      refine pw_aload_n (pc' := 21) 0 rfl dX10_clears_20 rfl rfl ?_
      refine pw_bipush (pc' := 23) rfl dX10_clears_21 cb_m4 ?_
      refine ps_callVI (pc' := 26) (As := [.int (-4)]) (rest := []) (cT := (RX10, TX10, 44)) 1 rfl dX10_clears_23 cv_X10_suspectsBut ml_X10_287 (by decide) rfl rfl (by decide) (Nat.le_of_ble_eq_true rfl) ob_182 rfl rfl (CA.monoI h ?_)
      intro r3 M3 h
      refine pw_iload_n (pc' := 27) 1 rfl dX10_clears_26 rfl rfl ?_
      refine pw_ishr (pc' := 28) rfl dX10_clears_27 ?_
      refine pw_iconst (pc' := 29) rfl dX10_clears_28 ci_1 ?_
      refine pw_iand (pc' := 30) rfl dX10_clears_29 ?_
      refine pw_iconst (pc' := 31) rfl dX10_clears_30 ci_1 ?_
      refine pw_icmp_ne (pc' := 34) (tgt := 37) rfl dX10_clears_31 (by decide) (fun q4 => ?_) (fun q4 => ?_)
      · have h := h.1 q4
        refine pw_iconst (pc' := 38) rfl dX10_clears_37 ci_0 ?_
        refine pw_istore_n (pc' := 39) (lv' := [(0, .ref 182), (1, .int a1), (2, .int (nI 0))]) [1, 2, 0] rfl dX10_clears_38 rfl (by decide) rfl ?_
        refine pw_iconst (pc' := 40) rfl dX10_clears_39 ci_0 ?_
        refine pw_istore_n (pc' := 41) (lv' := [(0, .ref 182), (1, .int a1), (2, .int (nI 0)), (3, .int (nI 0))]) [1, 2, 3, 0] rfl dX10_clears_40 rfl (by decide) rfl ?_
        exact pw_sub [0, 1, 2, 3] rfl h
      · have h := h.2 q4
        refine pw_bipush (pc' := 36) rfl dX10_clears_34 cb_m4 ?_
        exact ps_iret dX10_clears_36 rfl h
    · have h := h.2 q2
      refine pw_bipush (pc' := 19) rfl dX10_clears_17 cb_m2 ?_
      exact ps_iret dX10_clears_19 rfl h
  · have h := h.2 q1
    refine pw_iconst (pc' := 9) rfl dX10_clears_8 ci_m1 ?_
    exact ps_iret dX10_clears_9 rfl h
theorem T_X10_clears_41 {M : Mem} {a1 : Int32} {a2 : Int32} {a3 : Int32} {Q : Int32 → Mem → Prop}  (h : (((M 182 30) ≤ a3) → (Q a2 M)) ∧ ((¬ (M 182 30) ≤ a3) → (C_X10_suspectsBut M a3 (fun r1 M1 => P_X10_clears_41 M1 a1 (a2 ||| (((r1 >>> (a1 &&& 31)) &&& (nI 1)) <<< (a3 &&& 31))) (a3 + (nI 1)) Q)))) : P_X10_clears_41 M a1 a2 a3 Q := by
  refine pw_iload_n (pc' := 42) 3 rfl dX10_clears_41 rfl rfl ?_
  refine pw_aload_n (pc' := 43) 0 rfl dX10_clears_42 rfl rfl ?_
  refine ps_getI (pc' := 46) (v := (M 182 30)) rfl dX10_clears_43 fl_X10_268 ob_182 rfl rfl ?_
  refine pw_icmp_ge (pc' := 49) (tgt := 69) rfl dX10_clears_46 (by decide) (fun q0 => ?_) (fun q0 => ?_)
  · have h := h.1 q0
    refine pw_iload_n (pc' := 70) 2 rfl dX10_clears_69 rfl rfl ?_
    exact ps_iret dX10_clears_70 rfl h
  · have h := h.2 q0
    refine pw_iload_n (pc' := 50) 2 rfl dX10_clears_49 rfl rfl ?_
    refine pw_aload_n (pc' := 51) 0 rfl dX10_clears_50 rfl rfl ?_
    refine pw_iload_n (pc' := 52) 3 rfl dX10_clears_51 rfl rfl ?_
    refine ps_callVI (pc' := 55) (As := [.int a3]) (rest := [.int a2]) (cT := (RX10, TX10, 44)) 1 rfl dX10_clears_52 cv_X10_suspectsBut ml_X10_287 (by decide) rfl rfl (by decide) (Nat.le_of_ble_eq_true rfl) ob_182 rfl rfl (CA.monoI h ?_)
    intro r1 M1 h
    refine pw_iload_n (pc' := 56) 1 rfl dX10_clears_55 rfl rfl ?_
    refine pw_ishr (pc' := 57) rfl dX10_clears_56 ?_
    refine pw_iconst (pc' := 58) rfl dX10_clears_57 ci_1 ?_
    refine pw_iand (pc' := 59) rfl dX10_clears_58 ?_
    refine pw_iload_n (pc' := 60) 3 rfl dX10_clears_59 rfl rfl ?_
    refine pw_ishl (pc' := 61) rfl dX10_clears_60 ?_
    refine pw_ior (pc' := 62) rfl dX10_clears_61 ?_
    refine pw_istore_n (pc' := 63) (lv' := [(0, .ref 182), (1, .int a1), (2, .int (a2 ||| (((r1 >>> (a1 &&& 31)) &&& (nI 1)) <<< (a3 &&& 31)))), (3, .int a3)]) [1, 2, 0, 3] rfl dX10_clears_62 rfl (by decide) rfl ?_
    refine pw_iinc (pc' := 66) (lv' := [(0, .ref 182), (1, .int a1), (2, .int (a2 ||| (((r1 >>> (a1 &&& 31)) &&& (nI 1)) <<< (a3 &&& 31)))), (3, .int (a3 + (nI 1)))]) 3 [1, 2, 3, 0] rfl dX10_clears_63 rfl (ii_1 _) (by decide) rfl ?_
    refine pw_goto (tgt := 41) dX10_clears_66 (by decide) ?_
    exact pw_sub [0, 1, 2, 3] rfl h
theorem T_X10_count {M : Mem} {a1 : Int32} {Q : Int32 → Mem → Prop}  (h : (a1 = (nI 0) → (Q (M 182 0) M)) ∧ (a1 = (nI 1) → (Q (M 182 1) M)) ∧ (a1 = (nI 2) → (Q (M 182 3) M)) ∧ (a1 = (nI 3) → (Q (M 182 14) M)) ∧ (a1 = (nI 4) → (C_X10_well M (fun r9 M9 => C_X10_size M9 r9 (fun r10 M10 => Q ((M 182 14) - r10) M10)))) ∧ (a1 = (nI 5) → (Q (M 182 17) M)) ∧ (a1 = (nI 6) → (Q (M 182 28) M)) ∧ (a1 = (nI 7) → (Q (M 182 30) M)) ∧ (¬ a1 = (nI 0) → ¬ a1 = (nI 1) → ¬ a1 = (nI 2) → ¬ a1 = (nI 3) → ¬ a1 = (nI 4) → ¬ a1 = (nI 5) → ¬ a1 = (nI 6) → ¬ a1 = (nI 7) → (Q (-1) M))) : C_X10_count M a1 Q := by
  refine CA_of rfl (Nat.le_of_ble_eq_true rfl) ?_
  show PS _ _ 0 [(0, .ref 182), (1, .int a1)] [] M _
  refine pw_iload_n (pc' := 1) 1 rfl dX10_count_0 rfl rfl ?_
  by_cases q0 : a1 = (nI 0)
  · have h := h.1 q0
    refine pw_tableIn (tgt := 48) dX10_count_1 (by rw [q0] <;> decide) (by rw [q0] <;> decide) (by rw [q0] <;> rfl) (by decide) ?_
    refine pw_aload_n (pc' := 49) 0 rfl dX10_count_48 rfl rfl ?_
    refine ps_getI (pc' := 52) (v := (M 182 0)) rfl dX10_count_49 fl_X10_95 ob_182 rfl rfl ?_
    exact ps_iret dX10_count_52 rfl h
  · skip
    by_cases q1 : a1 = (nI 1)
    · have h := h.2.1 q1
      refine pw_tableIn (tgt := 53) dX10_count_1 (by rw [q1] <;> decide) (by rw [q1] <;> decide) (by rw [q1] <;> rfl) (by decide) ?_
      refine pw_aload_n (pc' := 54) 0 rfl dX10_count_53 rfl rfl ?_
      refine ps_getI (pc' := 57) (v := (M 182 1)) rfl dX10_count_54 fl_X10_112 ob_182 rfl rfl ?_
      exact ps_iret dX10_count_57 rfl h
    · skip
      by_cases q2 : a1 = (nI 2)
      · have h := h.2.2.1 q2
        refine pw_tableIn (tgt := 58) dX10_count_1 (by rw [q2] <;> decide) (by rw [q2] <;> decide) (by rw [q2] <;> rfl) (by decide) ?_
        refine pw_aload_n (pc' := 59) 0 rfl dX10_count_58 rfl rfl ?_
        refine ps_getI (pc' := 62) (v := (M 182 3)) rfl dX10_count_59 fl_X10_119 ob_182 rfl rfl ?_
        exact ps_iret dX10_count_62 rfl h
      · skip
        by_cases q3 : a1 = (nI 3)
        · have h := h.2.2.2.1 q3
          refine pw_tableIn (tgt := 63) dX10_count_1 (by rw [q3] <;> decide) (by rw [q3] <;> decide) (by rw [q3] <;> rfl) (by decide) ?_
          refine pw_aload_n (pc' := 64) 0 rfl dX10_count_63 rfl rfl ?_
          refine ps_getI (pc' := 67) (v := (M 182 14)) rfl dX10_count_64 fl_X10_187 ob_182 rfl rfl ?_
          exact ps_iret dX10_count_67 rfl h
        · skip
          by_cases q4 : a1 = (nI 4)
          · have h := h.2.2.2.2.1 q4
            refine pw_tableIn (tgt := 68) dX10_count_1 (by rw [q4] <;> decide) (by rw [q4] <;> decide) (by rw [q4] <;> rfl) (by decide) ?_
            refine pw_aload_n (pc' := 69) 0 rfl dX10_count_68 rfl rfl ?_
            refine ps_getI (pc' := 72) (v := (M 182 14)) rfl dX10_count_69 fl_X10_187 ob_182 rfl rfl ?_
            refine pw_aload_n (pc' := 73) 0 rfl dX10_count_72 rfl rfl ?_
            refine ps_callVI (pc' := 76) (As := []) (rest := [.int (M 182 14)]) (cT := (RX10, TX10, 44)) 0 rfl dX10_count_73 cv_X10_well ml_X10_245 (by decide) rfl rfl (by decide) (Nat.le_of_ble_eq_true rfl) ob_182 rfl rfl (CA.monoI h ?_)
            intro r9 M9 h
            refine ps_callSI (pc' := 79) (As := [.int r9]) (rest := [.int (M 182 14)]) 1 rfl dX10_count_76 cs_X10_size ml_X10_259 (by decide) rfl rfl (by decide) (Nat.le_of_ble_eq_true rfl) (CA.monoI h ?_)
            intro r10 M10 h
            refine pw_isub (pc' := 80) rfl dX10_count_79 ?_
            exact ps_iret dX10_count_80 rfl h
          · skip
            by_cases q5 : a1 = (nI 5)
            · have h := h.2.2.2.2.2.1 q5
              refine pw_tableIn (tgt := 81) dX10_count_1 (by rw [q5] <;> decide) (by rw [q5] <;> decide) (by rw [q5] <;> rfl) (by decide) ?_
              refine pw_aload_n (pc' := 82) 0 rfl dX10_count_81 rfl rfl ?_
              refine ps_getI (pc' := 85) (v := (M 182 17)) rfl dX10_count_82 fl_X10_195 ob_182 rfl rfl ?_
              exact ps_iret dX10_count_85 rfl h
            · skip
              by_cases q6 : a1 = (nI 6)
              · have h := h.2.2.2.2.2.2.1 q6
                refine pw_tableIn (tgt := 86) dX10_count_1 (by rw [q6] <;> decide) (by rw [q6] <;> decide) (by rw [q6] <;> rfl) (by decide) ?_
                refine pw_aload_n (pc' := 87) 0 rfl dX10_count_86 rfl rfl ?_
                refine ps_getI (pc' := 90) (v := (M 182 28)) rfl dX10_count_87 fl_X10_262 ob_182 rfl rfl ?_
                exact ps_iret dX10_count_90 rfl h
              · skip
                by_cases q7 : a1 = (nI 7)
                · have h := h.2.2.2.2.2.2.2.1 q7
                  refine pw_tableIn (tgt := 91) dX10_count_1 (by rw [q7] <;> decide) (by rw [q7] <;> decide) (by rw [q7] <;> rfl) (by decide) ?_
                  refine pw_aload_n (pc' := 92) 0 rfl dX10_count_91 rfl rfl ?_
                  refine ps_getI (pc' := 95) (v := (M 182 30)) rfl dX10_count_92 fl_X10_268 ob_182 rfl rfl ?_
                  exact ps_iret dX10_count_95 rfl h
                · skip
                  have h := h.2.2.2.2.2.2.2.2 q0 q1 q2 q3 q4 q5 q6 q7
                  refine pw_tableOut (tgt := 96) dX10_count_1 (sw_out8 q0 q1 q2 q3 q4 q5 q6 q7) (by decide) ?_
                  refine pw_iconst (pc' := 97) rfl dX10_count_96 ci_m1 ?_
                  exact ps_iret dX10_count_97 rfl h
theorem T_X10_image {M : Mem}  {Q : Int32 → Mem → Prop}  (h : C_X10_saves M 183 205 (nI 0) (fun r0 M0 => C_X10_saves M0 184 205 r0 (fun r1 M1 => C_X10_saves M1 189 205 r1 (fun r2 M2 => C_X10_saves M2 190 205 r2 (fun r3 M3 => C_X10_saves M3 191 205 r3 (fun r4 M4 => C_X10_saves M4 200 205 r4 (fun r5 M5 => C_X10_saves M5 201 205 r5 (fun r6 M6 => vp_in r6 320 ∧ (vp_in (r6 + (nI 1)) 320 ∧ (vp_in (r6 + (nI 2)) 320 ∧ (vp_in (r6 + (nI 3)) 320 ∧ (vp_in (r6 + (nI 4)) 320 ∧ (vp_in (r6 + (nI 5)) 320 ∧ (vp_in (r6 + (nI 6)) 320 ∧ (vp_in (r6 + (nI 7)) 320 ∧ (vp_in (r6 + (nI 8)) 320 ∧ (vp_in (r6 + (nI 9)) 320 ∧ (vp_in (r6 + (nI 10)) 320 ∧ (Q (nI 1) (wr (wr (wr (wr (wr (wr (wr (wr (wr (wr (wr (wr M6 205 (ix r6) (M6 182 0)) 205 (ix (r6 + (nI 1))) (M6 182 1)) 205 (ix (r6 + (nI 2))) (M6 182 3)) 205 (ix (r6 + (nI 3))) (M6 182 5)) 205 (ix (r6 + (nI 4))) (M6 182 14)) 205 (ix (r6 + (nI 5))) (M6 182 17)) 205 (ix (r6 + (nI 6))) (M6 182 28)) 205 (ix (r6 + (nI 7))) (M6 182 30)) 205 (ix (r6 + (nI 8))) (M6 182 32)) 205 (ix (r6 + (nI 9))) (M6 182 33)) 205 (ix (r6 + (nI 10))) (M6 182 34)) 182 39 (nI 1))))))))))))))))))))) : C_X10_image M  Q := by
  refine CA_of rfl (Nat.le_of_ble_eq_true rfl) ?_
  show PS _ _ 0 [(0, .ref 182)] [] M _
  refine pw_aload_n (pc' := 1) 0 rfl dX10_image_0 rfl rfl ?_
  refine ps_getR (pc' := 4) (r := 183) rfl dX10_image_1 fl_X10_7 ob_182 rfl rfl ?_
  refine pw_aload_n (pc' := 5) 0 rfl dX10_image_4 rfl rfl ?_
  refine ps_getR (pc' := 8) (r := 205) rfl dX10_image_5 fl_X10_80 ob_182 rfl rfl ?_
  refine pw_iconst (pc' := 9) rfl dX10_image_8 ci_0 ?_
  refine ps_callSI (pc' := 12) (As := [.ref 183, .ref 205, .int (nI 0)]) (rest := []) 3 rfl dX10_image_9 cs_X10_saves ml_X10_290 (by decide) rfl rfl (by decide) (Nat.le_of_ble_eq_true rfl) (CA.monoI h ?_)
  intro r0 M0 h
  refine pw_istore_n (pc' := 13) (lv' := [(0, .ref 182), (1, .int r0)]) [1, 0] rfl dX10_image_12 rfl (by decide) rfl ?_
  refine pw_aload_n (pc' := 14) 0 rfl dX10_image_13 rfl rfl ?_
  refine ps_getR (pc' := 17) (r := 184) rfl dX10_image_14 fl_X10_13 ob_182 rfl rfl ?_
  refine pw_aload_n (pc' := 18) 0 rfl dX10_image_17 rfl rfl ?_
  refine ps_getR (pc' := 21) (r := 205) rfl dX10_image_18 fl_X10_80 ob_182 rfl rfl ?_
  refine pw_iload_n (pc' := 22) 1 rfl dX10_image_21 rfl rfl ?_
  refine ps_callSI (pc' := 25) (As := [.ref 184, .ref 205, .int r0]) (rest := []) 3 rfl dX10_image_22 cs_X10_saves ml_X10_290 (by decide) rfl rfl (by decide) (Nat.le_of_ble_eq_true rfl) (CA.monoI h ?_)
  intro r1 M1 h
  refine pw_istore_n (pc' := 26) (lv' := [(0, .ref 182), (1, .int r1)]) [1, 0] rfl dX10_image_25 rfl (by decide) rfl ?_
  refine pw_aload_n (pc' := 27) 0 rfl dX10_image_26 rfl rfl ?_
  refine ps_getR (pc' := 30) (r := 189) rfl dX10_image_27 fl_X10_28 ob_182 rfl rfl ?_
  refine pw_aload_n (pc' := 31) 0 rfl dX10_image_30 rfl rfl ?_
  refine ps_getR (pc' := 34) (r := 205) rfl dX10_image_31 fl_X10_80 ob_182 rfl rfl ?_
  refine pw_iload_n (pc' := 35) 1 rfl dX10_image_34 rfl rfl ?_
  refine ps_callSI (pc' := 38) (As := [.ref 189, .ref 205, .int r1]) (rest := []) 3 rfl dX10_image_35 cs_X10_saves ml_X10_290 (by decide) rfl rfl (by decide) (Nat.le_of_ble_eq_true rfl) (CA.monoI h ?_)
  intro r2 M2 h
  refine pw_istore_n (pc' := 39) (lv' := [(0, .ref 182), (1, .int r2)]) [1, 0] rfl dX10_image_38 rfl (by decide) rfl ?_
  refine pw_aload_n (pc' := 40) 0 rfl dX10_image_39 rfl rfl ?_
  refine ps_getR (pc' := 43) (r := 190) rfl dX10_image_40 fl_X10_31 ob_182 rfl rfl ?_
  refine pw_aload_n (pc' := 44) 0 rfl dX10_image_43 rfl rfl ?_
  refine ps_getR (pc' := 47) (r := 205) rfl dX10_image_44 fl_X10_80 ob_182 rfl rfl ?_
  refine pw_iload_n (pc' := 48) 1 rfl dX10_image_47 rfl rfl ?_
  refine ps_callSI (pc' := 51) (As := [.ref 190, .ref 205, .int r2]) (rest := []) 3 rfl dX10_image_48 cs_X10_saves ml_X10_290 (by decide) rfl rfl (by decide) (Nat.le_of_ble_eq_true rfl) (CA.monoI h ?_)
  intro r3 M3 h
  refine pw_istore_n (pc' := 52) (lv' := [(0, .ref 182), (1, .int r3)]) [1, 0] rfl dX10_image_51 rfl (by decide) rfl ?_
  refine pw_aload_n (pc' := 53) 0 rfl dX10_image_52 rfl rfl ?_
  refine ps_getR (pc' := 56) (r := 191) rfl dX10_image_53 fl_X10_34 ob_182 rfl rfl ?_
  refine pw_aload_n (pc' := 57) 0 rfl dX10_image_56 rfl rfl ?_
  refine ps_getR (pc' := 60) (r := 205) rfl dX10_image_57 fl_X10_80 ob_182 rfl rfl ?_
  refine pw_iload_n (pc' := 61) 1 rfl dX10_image_60 rfl rfl ?_
  refine ps_callSI (pc' := 64) (As := [.ref 191, .ref 205, .int r3]) (rest := []) 3 rfl dX10_image_61 cs_X10_saves ml_X10_290 (by decide) rfl rfl (by decide) (Nat.le_of_ble_eq_true rfl) (CA.monoI h ?_)
  intro r4 M4 h
  refine pw_istore_n (pc' := 65) (lv' := [(0, .ref 182), (1, .int r4)]) [1, 0] rfl dX10_image_64 rfl (by decide) rfl ?_
  refine pw_aload_n (pc' := 66) 0 rfl dX10_image_65 rfl rfl ?_
  refine ps_getR (pc' := 69) (r := 200) rfl dX10_image_66 fl_X10_61 ob_182 rfl rfl ?_
  refine pw_aload_n (pc' := 70) 0 rfl dX10_image_69 rfl rfl ?_
  refine ps_getR (pc' := 73) (r := 205) rfl dX10_image_70 fl_X10_80 ob_182 rfl rfl ?_
  refine pw_iload_n (pc' := 74) 1 rfl dX10_image_73 rfl rfl ?_
  refine ps_callSI (pc' := 77) (As := [.ref 200, .ref 205, .int r4]) (rest := []) 3 rfl dX10_image_74 cs_X10_saves ml_X10_290 (by decide) rfl rfl (by decide) (Nat.le_of_ble_eq_true rfl) (CA.monoI h ?_)
  intro r5 M5 h
  refine pw_istore_n (pc' := 78) (lv' := [(0, .ref 182), (1, .int r5)]) [1, 0] rfl dX10_image_77 rfl (by decide) rfl ?_
  refine pw_aload_n (pc' := 79) 0 rfl dX10_image_78 rfl rfl ?_
  refine ps_getR (pc' := 82) (r := 201) rfl dX10_image_79 fl_X10_64 ob_182 rfl rfl ?_
  refine pw_aload_n (pc' := 83) 0 rfl dX10_image_82 rfl rfl ?_
  refine ps_getR (pc' := 86) (r := 205) rfl dX10_image_83 fl_X10_80 ob_182 rfl rfl ?_
  refine pw_iload_n (pc' := 87) 1 rfl dX10_image_86 rfl rfl ?_
  refine ps_callSI (pc' := 90) (As := [.ref 201, .ref 205, .int r5]) (rest := []) 3 rfl dX10_image_87 cs_X10_saves ml_X10_290 (by decide) rfl rfl (by decide) (Nat.le_of_ble_eq_true rfl) (CA.monoI h ?_)
  intro r6 M6 h
  refine pw_istore_n (pc' := 91) (lv' := [(0, .ref 182), (1, .int r6)]) [1, 0] rfl dX10_image_90 rfl (by decide) rfl ?_
  refine pw_aload_n (pc' := 92) 0 rfl dX10_image_91 rfl rfl ?_
  refine ps_getR (pc' := 95) (r := 205) rfl dX10_image_92 fl_X10_80 ob_182 rfl rfl ?_
  refine pw_iload_n (pc' := 96) 1 rfl dX10_image_95 rfl rfl ?_
  refine pw_aload_n (pc' := 97) 0 rfl dX10_image_96 rfl rfl ?_
  refine ps_getI (pc' := 100) (v := (M6 182 0)) rfl dX10_image_97 fl_X10_95 ob_182 rfl rfl ?_
  obtain ⟨b7, h⟩ := h
  refine ps_iast (pc' := 101) rfl dX10_image_100 ia_205 b7 ?_
  refine pw_aload_n (pc' := 102) 0 rfl dX10_image_101 rfl rfl ?_
  refine ps_getR (pc' := 105) (r := 205) rfl dX10_image_102 fl_X10_80 ob_182 rfl rfl ?_
  refine pw_iload_n (pc' := 106) 1 rfl dX10_image_105 rfl rfl ?_
  refine pw_iconst (pc' := 107) rfl dX10_image_106 ci_1 ?_
  refine pw_iadd (pc' := 108) rfl dX10_image_107 ?_
  refine pw_aload_n (pc' := 109) 0 rfl dX10_image_108 rfl rfl ?_
  refine ps_getI (pc' := 112) (v := (M6 182 1)) rfl dX10_image_109 fl_X10_112 ob_182 rfl rfl ?_
  obtain ⟨b8, h⟩ := h
  refine ps_iast (pc' := 113) rfl dX10_image_112 ia_205 b8 ?_
  refine pw_aload_n (pc' := 114) 0 rfl dX10_image_113 rfl rfl ?_
  refine ps_getR (pc' := 117) (r := 205) rfl dX10_image_114 fl_X10_80 ob_182 rfl rfl ?_
  refine pw_iload_n (pc' := 118) 1 rfl dX10_image_117 rfl rfl ?_
  refine pw_iconst (pc' := 119) rfl dX10_image_118 ci_2 ?_
  refine pw_iadd (pc' := 120) rfl dX10_image_119 ?_
  refine pw_aload_n (pc' := 121) 0 rfl dX10_image_120 rfl rfl ?_
  refine ps_getI (pc' := 124) (v := (M6 182 3)) rfl dX10_image_121 fl_X10_119 ob_182 rfl rfl ?_
  obtain ⟨b9, h⟩ := h
  refine ps_iast (pc' := 125) rfl dX10_image_124 ia_205 b9 ?_
  refine pw_aload_n (pc' := 126) 0 rfl dX10_image_125 rfl rfl ?_
  refine ps_getR (pc' := 129) (r := 205) rfl dX10_image_126 fl_X10_80 ob_182 rfl rfl ?_
  refine pw_iload_n (pc' := 130) 1 rfl dX10_image_129 rfl rfl ?_
  refine pw_iconst (pc' := 131) rfl dX10_image_130 ci_3 ?_
  refine pw_iadd (pc' := 132) rfl dX10_image_131 ?_
  refine pw_aload_n (pc' := 133) 0 rfl dX10_image_132 rfl rfl ?_
  refine ps_getI (pc' := 136) (v := (M6 182 5)) rfl dX10_image_133 fl_X10_190 ob_182 rfl rfl ?_
  obtain ⟨b10, h⟩ := h
  refine ps_iast (pc' := 137) rfl dX10_image_136 ia_205 b10 ?_
  refine pw_aload_n (pc' := 138) 0 rfl dX10_image_137 rfl rfl ?_
  refine ps_getR (pc' := 141) (r := 205) rfl dX10_image_138 fl_X10_80 ob_182 rfl rfl ?_
  refine pw_iload_n (pc' := 142) 1 rfl dX10_image_141 rfl rfl ?_
  refine pw_iconst (pc' := 143) rfl dX10_image_142 ci_4 ?_
  refine pw_iadd (pc' := 144) rfl dX10_image_143 ?_
  refine pw_aload_n (pc' := 145) 0 rfl dX10_image_144 rfl rfl ?_
  refine ps_getI (pc' := 148) (v := (M6 182 14)) rfl dX10_image_145 fl_X10_187 ob_182 rfl rfl ?_
  obtain ⟨b11, h⟩ := h
  refine ps_iast (pc' := 149) rfl dX10_image_148 ia_205 b11 ?_
  refine pw_aload_n (pc' := 150) 0 rfl dX10_image_149 rfl rfl ?_
  refine ps_getR (pc' := 153) (r := 205) rfl dX10_image_150 fl_X10_80 ob_182 rfl rfl ?_
  refine pw_iload_n (pc' := 154) 1 rfl dX10_image_153 rfl rfl ?_
  refine pw_iconst (pc' := 155) rfl dX10_image_154 ci_5 ?_
  refine pw_iadd (pc' := 156) rfl dX10_image_155 ?_
  refine pw_aload_n (pc' := 157) 0 rfl dX10_image_156 rfl rfl ?_
  refine ps_getI (pc' := 160) (v := (M6 182 17)) rfl dX10_image_157 fl_X10_195 ob_182 rfl rfl ?_
  obtain ⟨b12, h⟩ := h
  refine ps_iast (pc' := 161) rfl dX10_image_160 ia_205 b12 ?_
  refine pw_aload_n (pc' := 162) 0 rfl dX10_image_161 rfl rfl ?_
  refine ps_getR (pc' := 165) (r := 205) rfl dX10_image_162 fl_X10_80 ob_182 rfl rfl ?_
  refine pw_iload_n (pc' := 166) 1 rfl dX10_image_165 rfl rfl ?_
  refine pw_bipush (pc' := 168) rfl dX10_image_166 cb_6 ?_
  refine pw_iadd (pc' := 169) rfl dX10_image_168 ?_
  refine pw_aload_n (pc' := 170) 0 rfl dX10_image_169 rfl rfl ?_
  refine ps_getI (pc' := 173) (v := (M6 182 28)) rfl dX10_image_170 fl_X10_262 ob_182 rfl rfl ?_
  obtain ⟨b13, h⟩ := h
  refine ps_iast (pc' := 174) rfl dX10_image_173 ia_205 b13 ?_
  refine pw_aload_n (pc' := 175) 0 rfl dX10_image_174 rfl rfl ?_
  refine ps_getR (pc' := 178) (r := 205) rfl dX10_image_175 fl_X10_80 ob_182 rfl rfl ?_
  refine pw_iload_n (pc' := 179) 1 rfl dX10_image_178 rfl rfl ?_
  refine pw_bipush (pc' := 181) rfl dX10_image_179 cb_7 ?_
  refine pw_iadd (pc' := 182) rfl dX10_image_181 ?_
  refine pw_aload_n (pc' := 183) 0 rfl dX10_image_182 rfl rfl ?_
  refine ps_getI (pc' := 186) (v := (M6 182 30)) rfl dX10_image_183 fl_X10_268 ob_182 rfl rfl ?_
  obtain ⟨b14, h⟩ := h
  refine ps_iast (pc' := 187) rfl dX10_image_186 ia_205 b14 ?_
  refine pw_aload_n (pc' := 188) 0 rfl dX10_image_187 rfl rfl ?_
  refine ps_getR (pc' := 191) (r := 205) rfl dX10_image_188 fl_X10_80 ob_182 rfl rfl ?_
  refine pw_iload_n (pc' := 192) 1 rfl dX10_image_191 rfl rfl ?_
  refine pw_bipush (pc' := 194) rfl dX10_image_192 cb_8 ?_
  refine pw_iadd (pc' := 195) rfl dX10_image_194 ?_
  refine pw_aload_n (pc' := 196) 0 rfl dX10_image_195 rfl rfl ?_
  refine ps_getI (pc' := 199) (v := (M6 182 32)) rfl dX10_image_196 fl_X10_67 ob_182 rfl rfl ?_
  obtain ⟨b15, h⟩ := h
  refine ps_iast (pc' := 200) rfl dX10_image_199 ia_205 b15 ?_
  refine pw_aload_n (pc' := 201) 0 rfl dX10_image_200 rfl rfl ?_
  refine ps_getR (pc' := 204) (r := 205) rfl dX10_image_201 fl_X10_80 ob_182 rfl rfl ?_
  refine pw_iload_n (pc' := 205) 1 rfl dX10_image_204 rfl rfl ?_
  refine pw_bipush (pc' := 207) rfl dX10_image_205 cb_9 ?_
  refine pw_iadd (pc' := 208) rfl dX10_image_207 ?_
  refine pw_aload_n (pc' := 209) 0 rfl dX10_image_208 rfl rfl ?_
  refine ps_getI (pc' := 212) (v := (M6 182 33)) rfl dX10_image_209 fl_X10_281 ob_182 rfl rfl ?_
  obtain ⟨b16, h⟩ := h
  refine ps_iast (pc' := 213) rfl dX10_image_212 ia_205 b16 ?_
  refine pw_aload_n (pc' := 214) 0 rfl dX10_image_213 rfl rfl ?_
  refine ps_getR (pc' := 217) (r := 205) rfl dX10_image_214 fl_X10_80 ob_182 rfl rfl ?_
  refine pw_iload_n (pc' := 218) 1 rfl dX10_image_217 rfl rfl ?_
  refine pw_bipush (pc' := 220) rfl dX10_image_218 cb_10 ?_
  refine pw_iadd (pc' := 221) rfl dX10_image_220 ?_
  refine pw_aload_n (pc' := 222) 0 rfl dX10_image_221 rfl rfl ?_
  refine ps_getI (pc' := 225) (v := (M6 182 34)) rfl dX10_image_222 fl_X10_284 ob_182 rfl rfl ?_
  obtain ⟨b17, h⟩ := h
  refine ps_iast (pc' := 226) rfl dX10_image_225 ia_205 b17 ?_
  refine pw_aload_n (pc' := 227) 0 rfl dX10_image_226 rfl rfl ?_
  refine pw_iconst (pc' := 228) rfl dX10_image_227 ci_1 ?_
  refine ps_putZ (pc' := 231) rfl dX10_image_228 fl_X10_294 ob_182 rfl (by decide) ?_
  refine pw_iconst (pc' := 232) rfl dX10_image_231 ci_1 ?_
  exact ps_iret dX10_image_232 rfl h
theorem T_X10_saves {M : Mem} {c0 : Nat} {c1 : Nat} {a2 : Int32} {n1 : Nat} {n0 : Nat} {Q : Int32 → Mem → Prop} (hc0 : IA c0 n0) (hc1 : IA c1 n1) (h : P_X10_saves_2 M c0 c1 a2 (nI 0) Q) : C_X10_saves M c0 c1 a2 Q := by
  refine CA_of rfl (Nat.le_of_ble_eq_true rfl) ?_
  show PS _ _ 0 [(0, .ref c0), (1, .ref c1), (2, .int a2)] [] M _
  refine pw_iconst (pc' := 1) rfl dX10_saves_0 ci_0 ?_
  refine pw_istore_n (pc' := 2) (lv' := [(0, .ref c0), (1, .ref c1), (2, .int a2), (3, .int (nI 0))]) [1, 2, 3, 0] rfl dX10_saves_1 rfl (by decide) rfl ?_
  exact pw_sub [0, 1, 2, 3] rfl h
theorem T_X10_saves_2 {M : Mem} {c0 : Nat} {c1 : Nat} {a2 : Int32} {a3 : Int32} {n1 : Nat} {n0 : Nat} {Q : Int32 → Mem → Prop} (hc0 : IA c0 n0) (hc1 : IA c1 n1) (h : (((nI n0) ≤ a3) → (Q (a2 + (nI n0)) M)) ∧ ((¬ (nI n0) ≤ a3) → (vp_in a3 n0 ∧ (vp_in (a2 + a3) n1 ∧ (P_X10_saves_2 (wr M c1 (ix (a2 + a3)) (M c0 (ix a3))) c0 c1 a2 (a3 + (nI 1)) Q))))) : P_X10_saves_2 M c0 c1 a2 a3 Q := by
  refine pw_iload_n (pc' := 3) 3 rfl dX10_saves_2 rfl rfl ?_
  refine pw_aload_n (pc' := 4) 0 rfl dX10_saves_3 rfl rfl ?_
  refine ps_alen (pc' := 5) rfl dX10_saves_4 hc0 ?_
  refine pw_icmp_ge (pc' := 8) (tgt := 22) rfl dX10_saves_5 (by decide) (fun q0 => ?_) (fun q0 => ?_)
  · have h := h.1 q0
    refine pw_iload_n (pc' := 23) 2 rfl dX10_saves_22 rfl rfl ?_
    refine pw_aload_n (pc' := 24) 0 rfl dX10_saves_23 rfl rfl ?_
    refine ps_alen (pc' := 25) rfl dX10_saves_24 hc0 ?_
    refine pw_iadd (pc' := 26) rfl dX10_saves_25 ?_
    exact ps_iret dX10_saves_26 rfl h
  · have h := h.2 q0
    refine pw_aload_n (pc' := 9) 1 rfl dX10_saves_8 rfl rfl ?_
    refine pw_iload_n (pc' := 10) 2 rfl dX10_saves_9 rfl rfl ?_
    refine pw_iload_n (pc' := 11) 3 rfl dX10_saves_10 rfl rfl ?_
    refine pw_iadd (pc' := 12) rfl dX10_saves_11 ?_
    refine pw_aload_n (pc' := 13) 0 rfl dX10_saves_12 rfl rfl ?_
    refine pw_iload_n (pc' := 14) 3 rfl dX10_saves_13 rfl rfl ?_
    obtain ⟨b1, h⟩ := h
    refine ps_iald (pc' := 15) (v := (M c0 (ix a3))) rfl dX10_saves_14 hc0 b1 rfl ?_
    obtain ⟨b2, h⟩ := h
    refine ps_iast (pc' := 16) rfl dX10_saves_15 hc1 b2 ?_
    refine pw_iinc (pc' := 19) (lv' := [(0, .ref c0), (1, .ref c1), (2, .int a2), (3, .int (a3 + (nI 1)))]) 3 [1, 2, 3, 0] rfl dX10_saves_16 rfl (ii_1 _) (by decide) rfl ?_
    refine pw_goto (tgt := 2) dX10_saves_19 (by decide) ?_
    exact pw_sub [0, 1, 2, 3] rfl h
theorem T_X10_restore {M : Mem}  {Q : Int32 → Mem → Prop}  (h : ((¬ (M 182 39) = 0) → (C_X10_gives M 205 (nI 0) 183 (fun r1 M1 => C_X10_gives M1 205 r1 184 (fun r2 M2 => C_X10_gives M2 205 r2 189 (fun r3 M3 => C_X10_gives M3 205 r3 190 (fun r4 M4 => C_X10_gives M4 205 r4 191 (fun r5 M5 => C_X10_gives M5 205 r5 200 (fun r6 M6 => C_X10_gives M6 205 r6 201 (fun r7 M7 => vp_in r7 320 ∧ (vp_in (r7 + (nI 1)) 320 ∧ (vp_in (r7 + (nI 2)) 320 ∧ (vp_in (r7 + (nI 3)) 320 ∧ (vp_in (r7 + (nI 4)) 320 ∧ (vp_in (r7 + (nI 5)) 320 ∧ (vp_in (r7 + (nI 6)) 320 ∧ (vp_in (r7 + (nI 7)) 320 ∧ (vp_in (r7 + (nI 8)) 320 ∧ (vp_in (r7 + (nI 9)) 320 ∧ (vp_in (r7 + (nI 10)) 320 ∧ (Q (nI 1) (wr (wr (wr (wr (wr (wr (wr (wr (wr (wr (wr (wr M7 182 0 (M7 205 (ix r7))) 182 1 (M7 205 (ix (r7 + (nI 1))))) 182 3 (M7 205 (ix (r7 + (nI 2))))) 182 5 (M7 205 (ix (r7 + (nI 3))))) 182 14 (M7 205 (ix (r7 + (nI 4))))) 182 17 (M7 205 (ix (r7 + (nI 5))))) 182 28 (M7 205 (ix (r7 + (nI 6))))) 182 30 (M7 205 (ix (r7 + (nI 7))))) 182 32 (M7 205 (ix (r7 + (nI 8))))) 182 33 (M7 205 (ix (r7 + (nI 9))))) 182 34 (M7 205 (ix (r7 + (nI 10))))) 182 13 (nI 0)))))))))))))))))))))) ∧ (((M 182 39) = 0) → (Q (-4) M))) : C_X10_restore M  Q := by
  refine CA_of rfl (Nat.le_of_ble_eq_true rfl) ?_
  show PS _ _ 0 [(0, .ref 182)] [] M _
  refine pw_aload_n (pc' := 1) 0 rfl dX10_restore_0 rfl rfl ?_
  refine ps_getI (pc' := 4) (v := (M 182 39)) rfl dX10_restore_1 fl_X10_294 ob_182 rfl rfl ?_
  refine pw_if_ne (pc' := 7) (tgt := 10) rfl dX10_restore_4 (by decide) (fun q0 => ?_) (fun q0 => ?_)
  · have h := h.1 q0
    refine pw_aload_n (pc' := 11) 0 rfl dX10_restore_10 rfl rfl ?_
    refine ps_getR (pc' := 14) (r := 205) rfl dX10_restore_11 fl_X10_80 ob_182 rfl rfl ?_
    refine pw_iconst (pc' := 15) rfl dX10_restore_14 ci_0 ?_
    refine pw_aload_n (pc' := 16) 0 rfl dX10_restore_15 rfl rfl ?_
    refine ps_getR (pc' := 19) (r := 183) rfl dX10_restore_16 fl_X10_7 ob_182 rfl rfl ?_
    refine ps_callSI (pc' := 22) (As := [.ref 205, .int (nI 0), .ref 183]) (rest := []) 3 rfl dX10_restore_19 cs_X10_gives ml_X10_297 (by decide) rfl rfl (by decide) (Nat.le_of_ble_eq_true rfl) (CA.monoI h ?_)
    intro r1 M1 h
    refine pw_istore_n (pc' := 23) (lv' := [(0, .ref 182), (1, .int r1)]) [1, 0] rfl dX10_restore_22 rfl (by decide) rfl ?_
    refine pw_aload_n (pc' := 24) 0 rfl dX10_restore_23 rfl rfl ?_
    refine ps_getR (pc' := 27) (r := 205) rfl dX10_restore_24 fl_X10_80 ob_182 rfl rfl ?_
    refine pw_iload_n (pc' := 28) 1 rfl dX10_restore_27 rfl rfl ?_
    refine pw_aload_n (pc' := 29) 0 rfl dX10_restore_28 rfl rfl ?_
    refine ps_getR (pc' := 32) (r := 184) rfl dX10_restore_29 fl_X10_13 ob_182 rfl rfl ?_
    refine ps_callSI (pc' := 35) (As := [.ref 205, .int r1, .ref 184]) (rest := []) 3 rfl dX10_restore_32 cs_X10_gives ml_X10_297 (by decide) rfl rfl (by decide) (Nat.le_of_ble_eq_true rfl) (CA.monoI h ?_)
    intro r2 M2 h
    refine pw_istore_n (pc' := 36) (lv' := [(0, .ref 182), (1, .int r2)]) [1, 0] rfl dX10_restore_35 rfl (by decide) rfl ?_
    refine pw_aload_n (pc' := 37) 0 rfl dX10_restore_36 rfl rfl ?_
    refine ps_getR (pc' := 40) (r := 205) rfl dX10_restore_37 fl_X10_80 ob_182 rfl rfl ?_
    refine pw_iload_n (pc' := 41) 1 rfl dX10_restore_40 rfl rfl ?_
    refine pw_aload_n (pc' := 42) 0 rfl dX10_restore_41 rfl rfl ?_
    refine ps_getR (pc' := 45) (r := 189) rfl dX10_restore_42 fl_X10_28 ob_182 rfl rfl ?_
    refine ps_callSI (pc' := 48) (As := [.ref 205, .int r2, .ref 189]) (rest := []) 3 rfl dX10_restore_45 cs_X10_gives ml_X10_297 (by decide) rfl rfl (by decide) (Nat.le_of_ble_eq_true rfl) (CA.monoI h ?_)
    intro r3 M3 h
    refine pw_istore_n (pc' := 49) (lv' := [(0, .ref 182), (1, .int r3)]) [1, 0] rfl dX10_restore_48 rfl (by decide) rfl ?_
    refine pw_aload_n (pc' := 50) 0 rfl dX10_restore_49 rfl rfl ?_
    refine ps_getR (pc' := 53) (r := 205) rfl dX10_restore_50 fl_X10_80 ob_182 rfl rfl ?_
    refine pw_iload_n (pc' := 54) 1 rfl dX10_restore_53 rfl rfl ?_
    refine pw_aload_n (pc' := 55) 0 rfl dX10_restore_54 rfl rfl ?_
    refine ps_getR (pc' := 58) (r := 190) rfl dX10_restore_55 fl_X10_31 ob_182 rfl rfl ?_
    refine ps_callSI (pc' := 61) (As := [.ref 205, .int r3, .ref 190]) (rest := []) 3 rfl dX10_restore_58 cs_X10_gives ml_X10_297 (by decide) rfl rfl (by decide) (Nat.le_of_ble_eq_true rfl) (CA.monoI h ?_)
    intro r4 M4 h
    refine pw_istore_n (pc' := 62) (lv' := [(0, .ref 182), (1, .int r4)]) [1, 0] rfl dX10_restore_61 rfl (by decide) rfl ?_
    refine pw_aload_n (pc' := 63) 0 rfl dX10_restore_62 rfl rfl ?_
    refine ps_getR (pc' := 66) (r := 205) rfl dX10_restore_63 fl_X10_80 ob_182 rfl rfl ?_
    refine pw_iload_n (pc' := 67) 1 rfl dX10_restore_66 rfl rfl ?_
    refine pw_aload_n (pc' := 68) 0 rfl dX10_restore_67 rfl rfl ?_
    refine ps_getR (pc' := 71) (r := 191) rfl dX10_restore_68 fl_X10_34 ob_182 rfl rfl ?_
    refine ps_callSI (pc' := 74) (As := [.ref 205, .int r4, .ref 191]) (rest := []) 3 rfl dX10_restore_71 cs_X10_gives ml_X10_297 (by decide) rfl rfl (by decide) (Nat.le_of_ble_eq_true rfl) (CA.monoI h ?_)
    intro r5 M5 h
    refine pw_istore_n (pc' := 75) (lv' := [(0, .ref 182), (1, .int r5)]) [1, 0] rfl dX10_restore_74 rfl (by decide) rfl ?_
    refine pw_aload_n (pc' := 76) 0 rfl dX10_restore_75 rfl rfl ?_
    refine ps_getR (pc' := 79) (r := 205) rfl dX10_restore_76 fl_X10_80 ob_182 rfl rfl ?_
    refine pw_iload_n (pc' := 80) 1 rfl dX10_restore_79 rfl rfl ?_
    refine pw_aload_n (pc' := 81) 0 rfl dX10_restore_80 rfl rfl ?_
    refine ps_getR (pc' := 84) (r := 200) rfl dX10_restore_81 fl_X10_61 ob_182 rfl rfl ?_
    refine ps_callSI (pc' := 87) (As := [.ref 205, .int r5, .ref 200]) (rest := []) 3 rfl dX10_restore_84 cs_X10_gives ml_X10_297 (by decide) rfl rfl (by decide) (Nat.le_of_ble_eq_true rfl) (CA.monoI h ?_)
    intro r6 M6 h
    refine pw_istore_n (pc' := 88) (lv' := [(0, .ref 182), (1, .int r6)]) [1, 0] rfl dX10_restore_87 rfl (by decide) rfl ?_
    refine pw_aload_n (pc' := 89) 0 rfl dX10_restore_88 rfl rfl ?_
    refine ps_getR (pc' := 92) (r := 205) rfl dX10_restore_89 fl_X10_80 ob_182 rfl rfl ?_
    refine pw_iload_n (pc' := 93) 1 rfl dX10_restore_92 rfl rfl ?_
    refine pw_aload_n (pc' := 94) 0 rfl dX10_restore_93 rfl rfl ?_
    refine ps_getR (pc' := 97) (r := 201) rfl dX10_restore_94 fl_X10_64 ob_182 rfl rfl ?_
    refine ps_callSI (pc' := 100) (As := [.ref 205, .int r6, .ref 201]) (rest := []) 3 rfl dX10_restore_97 cs_X10_gives ml_X10_297 (by decide) rfl rfl (by decide) (Nat.le_of_ble_eq_true rfl) (CA.monoI h ?_)
    intro r7 M7 h
    refine pw_istore_n (pc' := 101) (lv' := [(0, .ref 182), (1, .int r7)]) [1, 0] rfl dX10_restore_100 rfl (by decide) rfl ?_
    refine pw_aload_n (pc' := 102) 0 rfl dX10_restore_101 rfl rfl ?_
    refine pw_aload_n (pc' := 103) 0 rfl dX10_restore_102 rfl rfl ?_
    refine ps_getR (pc' := 106) (r := 205) rfl dX10_restore_103 fl_X10_80 ob_182 rfl rfl ?_
    refine pw_iload_n (pc' := 107) 1 rfl dX10_restore_106 rfl rfl ?_
    obtain ⟨b8, h⟩ := h
    refine ps_iald (pc' := 108) (v := (M7 205 (ix r7))) rfl dX10_restore_107 ia_205 b8 rfl ?_
    refine ps_putI (pc' := 111) rfl dX10_restore_108 fl_X10_95 ob_182 rfl ?_
    refine pw_aload_n (pc' := 112) 0 rfl dX10_restore_111 rfl rfl ?_
    refine pw_aload_n (pc' := 113) 0 rfl dX10_restore_112 rfl rfl ?_
    refine ps_getR (pc' := 116) (r := 205) rfl dX10_restore_113 fl_X10_80 ob_182 rfl rfl ?_
    refine pw_iload_n (pc' := 117) 1 rfl dX10_restore_116 rfl rfl ?_
    refine pw_iconst (pc' := 118) rfl dX10_restore_117 ci_1 ?_
    refine pw_iadd (pc' := 119) rfl dX10_restore_118 ?_
    obtain ⟨b9, h⟩ := h
    refine ps_iald (pc' := 120) (v := (M7 205 (ix (r7 + (nI 1))))) rfl dX10_restore_119 ia_205 b9 rfl ?_
    refine ps_putI (pc' := 123) rfl dX10_restore_120 fl_X10_112 ob_182 rfl ?_
    refine pw_aload_n (pc' := 124) 0 rfl dX10_restore_123 rfl rfl ?_
    refine pw_aload_n (pc' := 125) 0 rfl dX10_restore_124 rfl rfl ?_
    refine ps_getR (pc' := 128) (r := 205) rfl dX10_restore_125 fl_X10_80 ob_182 rfl rfl ?_
    refine pw_iload_n (pc' := 129) 1 rfl dX10_restore_128 rfl rfl ?_
    refine pw_iconst (pc' := 130) rfl dX10_restore_129 ci_2 ?_
    refine pw_iadd (pc' := 131) rfl dX10_restore_130 ?_
    obtain ⟨b10, h⟩ := h
    refine ps_iald (pc' := 132) (v := (M7 205 (ix (r7 + (nI 2))))) rfl dX10_restore_131 ia_205 b10 rfl ?_
    refine ps_putI (pc' := 135) rfl dX10_restore_132 fl_X10_119 ob_182 rfl ?_
    refine pw_aload_n (pc' := 136) 0 rfl dX10_restore_135 rfl rfl ?_
    refine pw_aload_n (pc' := 137) 0 rfl dX10_restore_136 rfl rfl ?_
    refine ps_getR (pc' := 140) (r := 205) rfl dX10_restore_137 fl_X10_80 ob_182 rfl rfl ?_
    refine pw_iload_n (pc' := 141) 1 rfl dX10_restore_140 rfl rfl ?_
    refine pw_iconst (pc' := 142) rfl dX10_restore_141 ci_3 ?_
    refine pw_iadd (pc' := 143) rfl dX10_restore_142 ?_
    obtain ⟨b11, h⟩ := h
    refine ps_iald (pc' := 144) (v := (M7 205 (ix (r7 + (nI 3))))) rfl dX10_restore_143 ia_205 b11 rfl ?_
    refine ps_putI (pc' := 147) rfl dX10_restore_144 fl_X10_190 ob_182 rfl ?_
    refine pw_aload_n (pc' := 148) 0 rfl dX10_restore_147 rfl rfl ?_
    refine pw_aload_n (pc' := 149) 0 rfl dX10_restore_148 rfl rfl ?_
    refine ps_getR (pc' := 152) (r := 205) rfl dX10_restore_149 fl_X10_80 ob_182 rfl rfl ?_
    refine pw_iload_n (pc' := 153) 1 rfl dX10_restore_152 rfl rfl ?_
    refine pw_iconst (pc' := 154) rfl dX10_restore_153 ci_4 ?_
    refine pw_iadd (pc' := 155) rfl dX10_restore_154 ?_
    obtain ⟨b12, h⟩ := h
    refine ps_iald (pc' := 156) (v := (M7 205 (ix (r7 + (nI 4))))) rfl dX10_restore_155 ia_205 b12 rfl ?_
    refine ps_putI (pc' := 159) rfl dX10_restore_156 fl_X10_187 ob_182 rfl ?_
    refine pw_aload_n (pc' := 160) 0 rfl dX10_restore_159 rfl rfl ?_
    refine pw_aload_n (pc' := 161) 0 rfl dX10_restore_160 rfl rfl ?_
    refine ps_getR (pc' := 164) (r := 205) rfl dX10_restore_161 fl_X10_80 ob_182 rfl rfl ?_
    refine pw_iload_n (pc' := 165) 1 rfl dX10_restore_164 rfl rfl ?_
    refine pw_iconst (pc' := 166) rfl dX10_restore_165 ci_5 ?_
    refine pw_iadd (pc' := 167) rfl dX10_restore_166 ?_
    obtain ⟨b13, h⟩ := h
    refine ps_iald (pc' := 168) (v := (M7 205 (ix (r7 + (nI 5))))) rfl dX10_restore_167 ia_205 b13 rfl ?_
    refine ps_putI (pc' := 171) rfl dX10_restore_168 fl_X10_195 ob_182 rfl ?_
    refine pw_aload_n (pc' := 172) 0 rfl dX10_restore_171 rfl rfl ?_
    refine pw_aload_n (pc' := 173) 0 rfl dX10_restore_172 rfl rfl ?_
    refine ps_getR (pc' := 176) (r := 205) rfl dX10_restore_173 fl_X10_80 ob_182 rfl rfl ?_
    refine pw_iload_n (pc' := 177) 1 rfl dX10_restore_176 rfl rfl ?_
    refine pw_bipush (pc' := 179) rfl dX10_restore_177 cb_6 ?_
    refine pw_iadd (pc' := 180) rfl dX10_restore_179 ?_
    obtain ⟨b14, h⟩ := h
    refine ps_iald (pc' := 181) (v := (M7 205 (ix (r7 + (nI 6))))) rfl dX10_restore_180 ia_205 b14 rfl ?_
    refine ps_putI (pc' := 184) rfl dX10_restore_181 fl_X10_262 ob_182 rfl ?_
    refine pw_aload_n (pc' := 185) 0 rfl dX10_restore_184 rfl rfl ?_
    refine pw_aload_n (pc' := 186) 0 rfl dX10_restore_185 rfl rfl ?_
    refine ps_getR (pc' := 189) (r := 205) rfl dX10_restore_186 fl_X10_80 ob_182 rfl rfl ?_
    refine pw_iload_n (pc' := 190) 1 rfl dX10_restore_189 rfl rfl ?_
    refine pw_bipush (pc' := 192) rfl dX10_restore_190 cb_7 ?_
    refine pw_iadd (pc' := 193) rfl dX10_restore_192 ?_
    obtain ⟨b15, h⟩ := h
    refine ps_iald (pc' := 194) (v := (M7 205 (ix (r7 + (nI 7))))) rfl dX10_restore_193 ia_205 b15 rfl ?_
    refine ps_putI (pc' := 197) rfl dX10_restore_194 fl_X10_268 ob_182 rfl ?_
    refine pw_aload_n (pc' := 198) 0 rfl dX10_restore_197 rfl rfl ?_
    refine pw_aload_n (pc' := 199) 0 rfl dX10_restore_198 rfl rfl ?_
    refine ps_getR (pc' := 202) (r := 205) rfl dX10_restore_199 fl_X10_80 ob_182 rfl rfl ?_
    refine pw_iload_n (pc' := 203) 1 rfl dX10_restore_202 rfl rfl ?_
    refine pw_bipush (pc' := 205) rfl dX10_restore_203 cb_8 ?_
    refine pw_iadd (pc' := 206) rfl dX10_restore_205 ?_
    obtain ⟨b16, h⟩ := h
    refine ps_iald (pc' := 207) (v := (M7 205 (ix (r7 + (nI 8))))) rfl dX10_restore_206 ia_205 b16 rfl ?_
    refine ps_putI (pc' := 210) rfl dX10_restore_207 fl_X10_67 ob_182 rfl ?_
    refine pw_aload_n (pc' := 211) 0 rfl dX10_restore_210 rfl rfl ?_
    refine pw_aload_n (pc' := 212) 0 rfl dX10_restore_211 rfl rfl ?_
    refine ps_getR (pc' := 215) (r := 205) rfl dX10_restore_212 fl_X10_80 ob_182 rfl rfl ?_
    refine pw_iload_n (pc' := 216) 1 rfl dX10_restore_215 rfl rfl ?_
    refine pw_bipush (pc' := 218) rfl dX10_restore_216 cb_9 ?_
    refine pw_iadd (pc' := 219) rfl dX10_restore_218 ?_
    obtain ⟨b17, h⟩ := h
    refine ps_iald (pc' := 220) (v := (M7 205 (ix (r7 + (nI 9))))) rfl dX10_restore_219 ia_205 b17 rfl ?_
    refine ps_putI (pc' := 223) rfl dX10_restore_220 fl_X10_281 ob_182 rfl ?_
    refine pw_aload_n (pc' := 224) 0 rfl dX10_restore_223 rfl rfl ?_
    refine pw_aload_n (pc' := 225) 0 rfl dX10_restore_224 rfl rfl ?_
    refine ps_getR (pc' := 228) (r := 205) rfl dX10_restore_225 fl_X10_80 ob_182 rfl rfl ?_
    refine pw_iload_n (pc' := 229) 1 rfl dX10_restore_228 rfl rfl ?_
    refine pw_bipush (pc' := 231) rfl dX10_restore_229 cb_10 ?_
    refine pw_iadd (pc' := 232) rfl dX10_restore_231 ?_
    obtain ⟨b18, h⟩ := h
    refine ps_iald (pc' := 233) (v := (M7 205 (ix (r7 + (nI 10))))) rfl dX10_restore_232 ia_205 b18 rfl ?_
    refine ps_putI (pc' := 236) rfl dX10_restore_233 fl_X10_284 ob_182 rfl ?_
    refine pw_aload_n (pc' := 237) 0 rfl dX10_restore_236 rfl rfl ?_
    refine pw_iconst (pc' := 238) rfl dX10_restore_237 ci_0 ?_
    refine ps_putZ (pc' := 241) rfl dX10_restore_238 fl_X10_104 ob_182 rfl (by decide) ?_
    refine pw_iconst (pc' := 242) rfl dX10_restore_241 ci_1 ?_
    exact ps_iret dX10_restore_242 rfl h
  · have h := h.2 q0
    refine pw_bipush (pc' := 9) rfl dX10_restore_7 cb_m4 ?_
    exact ps_iret dX10_restore_9 rfl h
theorem T_X10_gives {M : Mem} {c0 : Nat} {a1 : Int32} {c2 : Nat} {n2 : Nat} {n0 : Nat} {Q : Int32 → Mem → Prop} (hc0 : IA c0 n0) (hc2 : IA c2 n2) (h : P_X10_gives_2 M c0 a1 c2 (nI 0) Q) : C_X10_gives M c0 a1 c2 Q := by
  refine CA_of rfl (Nat.le_of_ble_eq_true rfl) ?_
  show PS _ _ 0 [(0, .ref c0), (1, .int a1), (2, .ref c2)] [] M _
  refine pw_iconst (pc' := 1) rfl dX10_gives_0 ci_0 ?_
  refine pw_istore_n (pc' := 2) (lv' := [(0, .ref c0), (1, .int a1), (2, .ref c2), (3, .int (nI 0))]) [1, 2, 3, 0] rfl dX10_gives_1 rfl (by decide) rfl ?_
  exact pw_sub [0, 1, 2, 3] rfl h
theorem T_X10_gives_2 {M : Mem} {c0 : Nat} {a1 : Int32} {c2 : Nat} {a3 : Int32} {n2 : Nat} {n0 : Nat} {Q : Int32 → Mem → Prop} (hc0 : IA c0 n0) (hc2 : IA c2 n2) (h : (((nI n2) ≤ a3) → (Q (a1 + (nI n2)) M)) ∧ ((¬ (nI n2) ≤ a3) → (vp_in (a1 + a3) n0 ∧ (vp_in a3 n2 ∧ (P_X10_gives_2 (wr M c2 (ix a3) (M c0 (ix (a1 + a3)))) c0 a1 c2 (a3 + (nI 1)) Q))))) : P_X10_gives_2 M c0 a1 c2 a3 Q := by
  refine pw_iload_n (pc' := 3) 3 rfl dX10_gives_2 rfl rfl ?_
  refine pw_aload_n (pc' := 4) 2 rfl dX10_gives_3 rfl rfl ?_
  refine ps_alen (pc' := 5) rfl dX10_gives_4 hc2 ?_
  refine pw_icmp_ge (pc' := 8) (tgt := 22) rfl dX10_gives_5 (by decide) (fun q0 => ?_) (fun q0 => ?_)
  · have h := h.1 q0
    refine pw_iload_n (pc' := 23) 1 rfl dX10_gives_22 rfl rfl ?_
    refine pw_aload_n (pc' := 24) 2 rfl dX10_gives_23 rfl rfl ?_
    refine ps_alen (pc' := 25) rfl dX10_gives_24 hc2 ?_
    refine pw_iadd (pc' := 26) rfl dX10_gives_25 ?_
    exact ps_iret dX10_gives_26 rfl h
  · have h := h.2 q0
    refine pw_aload_n (pc' := 9) 2 rfl dX10_gives_8 rfl rfl ?_
    refine pw_iload_n (pc' := 10) 3 rfl dX10_gives_9 rfl rfl ?_
    refine pw_aload_n (pc' := 11) 0 rfl dX10_gives_10 rfl rfl ?_
    refine pw_iload_n (pc' := 12) 1 rfl dX10_gives_11 rfl rfl ?_
    refine pw_iload_n (pc' := 13) 3 rfl dX10_gives_12 rfl rfl ?_
    refine pw_iadd (pc' := 14) rfl dX10_gives_13 ?_
    obtain ⟨b1, h⟩ := h
    refine ps_iald (pc' := 15) (v := (M c0 (ix (a1 + a3)))) rfl dX10_gives_14 hc0 b1 rfl ?_
    obtain ⟨b2, h⟩ := h
    refine ps_iast (pc' := 16) rfl dX10_gives_15 hc2 b2 ?_
    refine pw_iinc (pc' := 19) (lv' := [(0, .ref c0), (1, .int a1), (2, .ref c2), (3, .int (a3 + (nI 1)))]) 3 [1, 2, 3, 0] rfl dX10_gives_16 rfl (ii_1 _) (by decide) rfl ?_
    refine pw_goto (tgt := 2) dX10_gives_19 (by decide) ?_
    exact pw_sub [0, 1, 2, 3] rfl h
theorem T_X10_sheet {M : Mem} {a1 : Int32} {a2 : Int32} {a3 : Int32} {Q : Int32 → Mem → Prop}  (h : C_X10_isSheet M a1 (fun r0 M0 => ((r0 = 0) → (Q (-1) M0)) ∧ ((¬ r0 = 0) → (C_X10_isLane M0 a2 (fun r2 M2 => ((r2 = 0) → (Q (-1) M2)) ∧ ((¬ r2 = 0) → (((a3 ≤ (nI 24)) → (((0 ≤ a3) → (vp_in a1 4 ∧ (P_X10_sheet_46 (wr (wr M2 206 (ix a1) a2) 207 (ix a1) a3) a1 a3 (nI 0) Q))) ∧ ((¬ 0 ≤ a3) → (Q (-14) M2)))) ∧ ((¬ a3 ≤ (nI 24)) → (Q (-1) M2))))))))) : C_X10_sheet M a1 a2 a3 Q := by
  refine CA_of rfl (Nat.le_of_ble_eq_true rfl) ?_
  show PS _ _ 0 [(0, .ref 182), (1, .int a1), (2, .int a2), (3, .int a3)] [] M _
  refine pw_iload_n (pc' := 1) 1 rfl dX10_sheet_0 rfl rfl ?_
  refine ps_callSI (pc' := 4) (As := [.int a1]) (rest := []) 1 rfl dX10_sheet_1 cs_X10_isSheet ml_X10_206 (by decide) rfl rfl (by decide) (Nat.le_of_ble_eq_true rfl) (CA.monoI h ?_)
  intro r0 M0 h
  refine pw_if_eq (pc' := 7) (tgt := 20) rfl dX10_sheet_4 (by decide) (fun q1 => ?_) (fun q1 => ?_)
  · have h := h.1 q1
    refine pw_iconst (pc' := 21) rfl dX10_sheet_20 ci_m1 ?_
    exact ps_iret dX10_sheet_21 rfl h
  · have h := h.2 q1
    refine pw_iload_n (pc' := 8) 2 rfl dX10_sheet_7 rfl rfl ?_
    refine ps_callSI (pc' := 11) (As := [.int a2]) (rest := []) 1 rfl dX10_sheet_8 cs_X10_isLane ml_X10_209 (by decide) rfl rfl (by decide) (Nat.le_of_ble_eq_true rfl) (CA.monoI h ?_)
    intro r2 M2 h
    refine pw_if_eq (pc' := 14) (tgt := 20) rfl dX10_sheet_11 (by decide) (fun q3 => ?_) (fun q3 => ?_)
    · have h := h.1 q3
      refine pw_iconst (pc' := 21) rfl dX10_sheet_20 ci_m1 ?_
      exact ps_iret dX10_sheet_21 rfl h
    · have h := h.2 q3
      refine pw_iload_n (pc' := 15) 3 rfl dX10_sheet_14 rfl rfl ?_
      refine pw_bipush (pc' := 17) rfl dX10_sheet_15 cb_24 ?_
      refine pw_icmp_le (pc' := 20) (tgt := 22) rfl dX10_sheet_17 (by decide) (fun q4 => ?_) (fun q4 => ?_)
      · have h := h.1 q4
        refine pw_iload_n (pc' := 23) 3 rfl dX10_sheet_22 rfl rfl ?_
        refine pw_if_ge (pc' := 26) (tgt := 29) rfl dX10_sheet_23 (by decide) (fun q5 => ?_) (fun q5 => ?_)
        · have h := h.1 q5
          refine pw_aload_n (pc' := 30) 0 rfl dX10_sheet_29 rfl rfl ?_
          refine ps_getR (pc' := 33) (r := 206) rfl dX10_sheet_30 fl_X10_83 ob_182 rfl rfl ?_
          refine pw_iload_n (pc' := 34) 1 rfl dX10_sheet_33 rfl rfl ?_
          refine pw_iload_n (pc' := 35) 2 rfl dX10_sheet_34 rfl rfl ?_
          obtain ⟨b6, h⟩ := h
          refine ps_iast (pc' := 36) rfl dX10_sheet_35 ia_206 b6 ?_
          refine pw_aload_n (pc' := 37) 0 rfl dX10_sheet_36 rfl rfl ?_
          refine ps_getR (pc' := 40) (r := 207) rfl dX10_sheet_37 fl_X10_86 ob_182 rfl rfl ?_
          refine pw_iload_n (pc' := 41) 1 rfl dX10_sheet_40 rfl rfl ?_
          refine pw_iload_n (pc' := 42) 3 rfl dX10_sheet_41 rfl rfl ?_
          refine ps_iast (pc' := 43) rfl dX10_sheet_42 ia_207 b6 ?_
          refine pw_iconst (pc' := 44) rfl dX10_sheet_43 ci_0 ?_
          refine pw_istore (pc' := 46) (lv' := [(0, .ref 182), (1, .int a1), (2, .int a2), (3, .int a3), (4, .int (nI 0))]) [1, 2, 3, 4, 0] rfl dX10_sheet_44 (by decide) rfl ?_
          exact pw_sub [0, 1, 3, 4] rfl h
        · have h := h.2 q5
          refine pw_bipush (pc' := 28) rfl dX10_sheet_26 cb_m14 ?_
          exact ps_iret dX10_sheet_28 rfl h
      · have h := h.2 q4
        refine pw_iconst (pc' := 21) rfl dX10_sheet_20 ci_m1 ?_
        exact ps_iret dX10_sheet_21 rfl h
theorem T_X10_sheet_46 {M : Mem} {a1 : Int32} {a3 : Int32} {a4 : Int32} {Q : Int32 → Mem → Prop}  (h : (((nI 24) ≤ a4) → (Q a3 M)) ∧ ((¬ (nI 24) ≤ a4) → (vp_in (((nI 24) * a1) + a4) 96 ∧ (P_X10_sheet_46 (wr M 208 (ix (((nI 24) * a1) + a4)) (nI 0)) a1 a3 (a4 + (nI 1)) Q)))) : P_X10_sheet_46 M a1 a3 a4 Q := by
  refine pw_iload (pc' := 48) 3 rfl dX10_sheet_46 rfl ?_
  refine pw_bipush (pc' := 50) rfl dX10_sheet_48 cb_24 ?_
  refine pw_icmp_ge (pc' := 53) (tgt := 72) rfl dX10_sheet_50 (by decide) (fun q0 => ?_) (fun q0 => ?_)
  · have h := h.1 q0
    refine pw_iload_n (pc' := 73) 2 rfl dX10_sheet_72 rfl rfl ?_
    exact ps_iret dX10_sheet_73 rfl h
  · have h := h.2 q0
    refine pw_aload_n (pc' := 54) 0 rfl dX10_sheet_53 rfl rfl ?_
    refine ps_getR (pc' := 57) (r := 208) rfl dX10_sheet_54 fl_X10_89 ob_182 rfl rfl ?_
    refine pw_bipush (pc' := 59) rfl dX10_sheet_57 cb_24 ?_
    refine pw_iload_n (pc' := 60) 1 rfl dX10_sheet_59 rfl rfl ?_
    refine pw_imul (pc' := 61) rfl dX10_sheet_60 ?_
    refine pw_iload (pc' := 63) 3 rfl dX10_sheet_61 rfl ?_
    refine pw_iadd (pc' := 64) rfl dX10_sheet_63 ?_
    refine pw_iconst (pc' := 65) rfl dX10_sheet_64 ci_0 ?_
    obtain ⟨b1, h⟩ := h
    refine ps_iast (pc' := 66) rfl dX10_sheet_65 ia_208 b1 ?_
    refine pw_iinc (pc' := 69) (lv' := [(0, .ref 182), (1, .int a1), (3, .int a3), (4, .int (a4 + (nI 1)))]) 3 [1, 2, 3, 0] rfl dX10_sheet_66 rfl (ii_1 _) (by decide) rfl ?_
    refine pw_goto (tgt := 46) dX10_sheet_69 (by decide) ?_
    exact pw_sub [0, 1, 2, 3] rfl h
theorem T_X10_empty {M : Mem} {a1 : Int32} {Q : Int32 → Mem → Prop}  (h : C_X10_isSheet M a1 (fun r0 M0 => ((¬ r0 = 0) → (vp_in a1 4 ∧ (((0 ≤ (M0 206 (ix a1))) → (Q (M0 207 (ix a1)) (wr M0 206 (ix a1) (-1)))) ∧ ((¬ 0 ≤ (M0 206 (ix a1))) → (Q (-11) M0))))) ∧ ((r0 = 0) → (Q (-1) M0)))) : C_X10_empty M a1 Q := by
  refine CA_of rfl (Nat.le_of_ble_eq_true rfl) ?_
  show PS _ _ 0 [(0, .ref 182), (1, .int a1)] [] M _
  refine pw_iload_n (pc' := 1) 1 rfl dX10_empty_0 rfl rfl ?_
  refine ps_callSI (pc' := 4) (As := [.int a1]) (rest := []) 1 rfl dX10_empty_1 cs_X10_isSheet ml_X10_206 (by decide) rfl rfl (by decide) (Nat.le_of_ble_eq_true rfl) (CA.monoI h ?_)
  intro r0 M0 h
  refine pw_if_ne (pc' := 7) (tgt := 9) rfl dX10_empty_4 (by decide) (fun q1 => ?_) (fun q1 => ?_)
  · have h := h.1 q1
    refine pw_aload_n (pc' := 10) 0 rfl dX10_empty_9 rfl rfl ?_
    refine ps_getR (pc' := 13) (r := 206) rfl dX10_empty_10 fl_X10_83 ob_182 rfl rfl ?_
    refine pw_iload_n (pc' := 14) 1 rfl dX10_empty_13 rfl rfl ?_
    obtain ⟨b2, h⟩ := h
    refine ps_iald (pc' := 15) (v := (M0 206 (ix a1))) rfl dX10_empty_14 ia_206 b2 rfl ?_
    refine pw_if_ge (pc' := 18) (tgt := 21) rfl dX10_empty_15 (by decide) (fun q3 => ?_) (fun q3 => ?_)
    · have h := h.1 q3
      refine pw_aload_n (pc' := 22) 0 rfl dX10_empty_21 rfl rfl ?_
      refine ps_getR (pc' := 25) (r := 206) rfl dX10_empty_22 fl_X10_83 ob_182 rfl rfl ?_
      refine pw_iload_n (pc' := 26) 1 rfl dX10_empty_25 rfl rfl ?_
      refine pw_iconst (pc' := 27) rfl dX10_empty_26 ci_m1 ?_
      refine ps_iast (pc' := 28) rfl dX10_empty_27 ia_206 b2 ?_
      refine pw_aload_n (pc' := 29) 0 rfl dX10_empty_28 rfl rfl ?_
      refine ps_getR (pc' := 32) (r := 207) rfl dX10_empty_29 fl_X10_86 ob_182 rfl rfl ?_
      refine pw_iload_n (pc' := 33) 1 rfl dX10_empty_32 rfl rfl ?_
      refine ps_iald (pc' := 34) (v := (M0 207 (ix a1))) rfl dX10_empty_33 ia_207 b2 rfl ?_
      exact ps_iret dX10_empty_34 rfl h
    · have h := h.2 q3
      refine pw_bipush (pc' := 20) rfl dX10_empty_18 cb_m11 ?_
      exact ps_iret dX10_empty_20 rfl h
  · have h := h.2 q1
    refine pw_iconst (pc' := 8) rfl dX10_empty_7 ci_m1 ?_
    exact ps_iret dX10_empty_8 rfl h
theorem T_X10_item {M : Mem} {a1 : Int32} {a2 : Int32} {a3 : Int32} {a4 : Int32} {Q : Int32 → Mem → Prop}  (h : C_X10_isSheet M a1 (fun r0 M0 => ((r0 = 0) → (Q (-1) M0)) ∧ ((¬ r0 = 0) → (C_X10_isLane M0 a2 (fun r2 M2 => ((¬ r2 = 0) → (C_X10_finds M2 a1 a2 a3 (nI 1) (fun r4 M4 => ((0 ≤ r4) → (((¬ a2 = 0) → (((¬ a2 = (nI 1)) → (vp_in (((nI 24) * a1) + a3) 96 ∧ (Q (nI 1) (wr M4 208 (ix (((nI 24) * a1) + a3)) a4)))) ∧ ((a2 = (nI 1)) → (vp_in (((nI 24) * a1) + a3) 96 ∧ (Q (nI 1) (wr M4 208 (ix (((nI 24) * a1) + a3)) (a4.toInt16.toInt32))))))) ∧ ((a2 = 0) → (vp_in (((nI 24) * a1) + a3) 96 ∧ (Q (nI 1) (wr M4 208 (ix (((nI 24) * a1) + a3)) (a4.toInt8.toInt32))))))) ∧ ((¬ 0 ≤ r4) → (Q r4 M4))))) ∧ ((r2 = 0) → (Q (-1) M2))))))) : C_X10_item M a1 a2 a3 a4 Q := by
  refine CA_of rfl (Nat.le_of_ble_eq_true rfl) ?_
  show PS _ _ 0 [(0, .ref 182), (1, .int a1), (2, .int a2), (3, .int a3), (4, .int a4)] [] M _
  refine pw_iload_n (pc' := 1) 1 rfl dX10_item_0 rfl rfl ?_
  refine ps_callSI (pc' := 4) (As := [.int a1]) (rest := []) 1 rfl dX10_item_1 cs_X10_isSheet ml_X10_206 (by decide) rfl rfl (by decide) (Nat.le_of_ble_eq_true rfl) (CA.monoI h ?_)
  intro r0 M0 h
  refine pw_if_eq (pc' := 7) (tgt := 14) rfl dX10_item_4 (by decide) (fun q1 => ?_) (fun q1 => ?_)
  · have h := h.1 q1
    refine pw_iconst (pc' := 15) rfl dX10_item_14 ci_m1 ?_
    exact ps_iret dX10_item_15 rfl h
  · have h := h.2 q1
    refine pw_iload_n (pc' := 8) 2 rfl dX10_item_7 rfl rfl ?_
    refine ps_callSI (pc' := 11) (As := [.int a2]) (rest := []) 1 rfl dX10_item_8 cs_X10_isLane ml_X10_209 (by decide) rfl rfl (by decide) (Nat.le_of_ble_eq_true rfl) (CA.monoI h ?_)
    intro r2 M2 h
    refine pw_if_ne (pc' := 14) (tgt := 16) rfl dX10_item_11 (by decide) (fun q3 => ?_) (fun q3 => ?_)
    · have h := h.1 q3
      refine pw_aload_n (pc' := 17) 0 rfl dX10_item_16 rfl rfl ?_
      refine pw_iload_n (pc' := 18) 1 rfl dX10_item_17 rfl rfl ?_
      refine pw_iload_n (pc' := 19) 2 rfl dX10_item_18 rfl rfl ?_
      refine pw_iload_n (pc' := 20) 3 rfl dX10_item_19 rfl rfl ?_
      refine pw_iconst (pc' := 21) rfl dX10_item_20 ci_1 ?_
      refine ps_callVI (pc' := 24) (As := [.int a1, .int a2, .int a3, .int (nI 1)]) (rest := []) (cT := (RX10, TX10, 44)) 4 rfl dX10_item_21 cv_X10_finds ml_X10_214 (by decide) rfl rfl (by decide) (Nat.le_of_ble_eq_true rfl) ob_182 rfl rfl (CA.monoI h ?_)
      intro r4 M4 h
      refine pw_istore (pc' := 26) (lv' := [(0, .ref 182), (1, .int a1), (2, .int a2), (3, .int a3), (4, .int a4), (5, .int r4)]) [1, 2, 3, 4, 5, 0] rfl dX10_item_24 (by decide) rfl ?_
      refine pw_iload (pc' := 28) 5 rfl dX10_item_26 rfl ?_
      refine pw_if_ge (pc' := 31) (tgt := 34) rfl dX10_item_28 (by decide) (fun q5 => ?_) (fun q5 => ?_)
      · have h := h.1 q5
        refine pw_aload_n (pc' := 35) 0 rfl dX10_item_34 rfl rfl ?_
        refine ps_getR (pc' := 38) (r := 208) rfl dX10_item_35 fl_X10_89 ob_182 rfl rfl ?_
        refine pw_bipush (pc' := 40) rfl dX10_item_38 cb_24 ?_
        refine pw_iload_n (pc' := 41) 1 rfl dX10_item_40 rfl rfl ?_
        refine pw_imul (pc' := 42) rfl dX10_item_41 ?_
        refine pw_iload_n (pc' := 43) 3 rfl dX10_item_42 rfl rfl ?_
        refine pw_iadd (pc' := 44) rfl dX10_item_43 ?_
        refine pw_iload_n (pc' := 45) 2 rfl dX10_item_44 rfl rfl ?_
        refine pw_if_ne (pc' := 48) (tgt := 54) rfl dX10_item_45 (by decide) (fun q6 => ?_) (fun q6 => ?_)
        · have h := h.1 q6
          refine pw_iload_n (pc' := 55) 2 rfl dX10_item_54 rfl rfl ?_
          refine pw_iconst (pc' := 56) rfl dX10_item_55 ci_1 ?_
          refine pw_icmp_ne (pc' := 59) (tgt := 65) rfl dX10_item_56 (by decide) (fun q7 => ?_) (fun q7 => ?_)
          · have h := h.1 q7
            refine pw_iload (pc' := 67) 4 rfl dX10_item_65 rfl ?_
            obtain ⟨b8, h⟩ := h
            refine ps_iast (pc' := 68) rfl dX10_item_67 ia_208 b8 ?_
            refine pw_iconst (pc' := 69) rfl dX10_item_68 ci_1 ?_
            exact ps_iret dX10_item_69 rfl h
          · have h := h.2 q7
            refine pw_iload (pc' := 61) 4 rfl dX10_item_59 rfl ?_
            refine pw_i2s (pc' := 62) rfl dX10_item_61 rfl ?_
            refine pw_goto (tgt := 67) dX10_item_62 (by decide) ?_
            obtain ⟨b8, h⟩ := h
            refine ps_iast (pc' := 68) rfl dX10_item_67 ia_208 b8 ?_
            refine pw_iconst (pc' := 69) rfl dX10_item_68 ci_1 ?_
            exact ps_iret dX10_item_69 rfl h
        · have h := h.2 q6
          refine pw_iload (pc' := 50) 4 rfl dX10_item_48 rfl ?_
          refine pw_i2b (pc' := 51) rfl dX10_item_50 rfl ?_
          refine pw_goto (tgt := 67) dX10_item_51 (by decide) ?_
          obtain ⟨b7, h⟩ := h
          refine ps_iast (pc' := 68) rfl dX10_item_67 ia_208 b7 ?_
          refine pw_iconst (pc' := 69) rfl dX10_item_68 ci_1 ?_
          exact ps_iret dX10_item_69 rfl h
      · have h := h.2 q5
        refine pw_iload (pc' := 33) 5 rfl dX10_item_31 rfl ?_
        exact ps_iret dX10_item_33 rfl h
    · have h := h.2 q3
      refine pw_iconst (pc' := 15) rfl dX10_item_14 ci_m1 ?_
      exact ps_iret dX10_item_15 rfl h
theorem T_X10_copy {M : Mem} {a1 : Int32} {a2 : Int32} {a3 : Int32} {a4 : Int32} {a5 : Int32} {Q : Int32 → Mem → Prop}  (h : C_X10_isSheet M a1 (fun r0 M0 => ((r0 = 0) → (Q (-1) M0)) ∧ ((¬ r0 = 0) → (C_X10_isSheet M0 a3 (fun r2 M2 => ((¬ r2 = 0) → (vp_in a1 4 ∧ ((((M2 206 (ix a1)) < 0) → (Q (-11) M2)) ∧ ((¬ (M2 206 (ix a1)) < 0) → (vp_in a3 4 ∧ (((0 ≤ (M2 206 (ix a3))) → ((((M2 206 (ix a1)) = (M2 206 (ix a3))) → (((a5 < 0) → (Q (-13) M2)) ∧ ((¬ a5 < 0) → (C_X10_finds M2 a1 (M2 206 (ix a1)) a2 a5 (fun r13 M13 => ((r13 < 0) → (Q (-13) M13)) ∧ ((¬ r13 < 0) → (C_X10_finds M13 a3 (M13 206 (ix a3)) a4 a5 (fun r16 M16 => ((0 ≤ r16) → (P_X10_copy_101 M16 a1 a2 a3 a4 a5 (nI 0) Q)) ∧ ((¬ 0 ≤ r16) → (Q (-13) M16)))))))))) ∧ ((¬ (M2 206 (ix a1)) = (M2 206 (ix a3))) → (Q (-12) M2)))) ∧ ((¬ 0 ≤ (M2 206 (ix a3))) → (Q (-11) M2)))))))) ∧ ((r2 = 0) → (Q (-1) M2))))))) : C_X10_copy M a1 a2 a3 a4 a5 Q := by
  refine CA_of rfl (Nat.le_of_ble_eq_true rfl) ?_
  show PS _ _ 0 [(0, .ref 182), (1, .int a1), (2, .int a2), (3, .int a3), (4, .int a4), (5, .int a5)] [] M _
  refine pw_iload_n (pc' := 1) 1 rfl dX10_copy_0 rfl rfl ?_
  refine ps_callSI (pc' := 4) (As := [.int a1]) (rest := []) 1 rfl dX10_copy_1 cs_X10_isSheet ml_X10_206 (by decide) rfl rfl (by decide) (Nat.le_of_ble_eq_true rfl) (CA.monoI h ?_)
  intro r0 M0 h
  refine pw_if_eq (pc' := 7) (tgt := 14) rfl dX10_copy_4 (by decide) (fun q1 => ?_) (fun q1 => ?_)
  · have h := h.1 q1
    refine pw_iconst (pc' := 15) rfl dX10_copy_14 ci_m1 ?_
    exact ps_iret dX10_copy_15 rfl h
  · have h := h.2 q1
    refine pw_iload_n (pc' := 8) 3 rfl dX10_copy_7 rfl rfl ?_
    refine ps_callSI (pc' := 11) (As := [.int a3]) (rest := []) 1 rfl dX10_copy_8 cs_X10_isSheet ml_X10_206 (by decide) rfl rfl (by decide) (Nat.le_of_ble_eq_true rfl) (CA.monoI h ?_)
    intro r2 M2 h
    refine pw_if_ne (pc' := 14) (tgt := 16) rfl dX10_copy_11 (by decide) (fun q3 => ?_) (fun q3 => ?_)
    · have h := h.1 q3
      refine pw_aload_n (pc' := 17) 0 rfl dX10_copy_16 rfl rfl ?_
      refine ps_getR (pc' := 20) (r := 206) rfl dX10_copy_17 fl_X10_83 ob_182 rfl rfl ?_
      refine pw_iload_n (pc' := 21) 1 rfl dX10_copy_20 rfl rfl ?_
      obtain ⟨b4, h⟩ := h
      refine ps_iald (pc' := 22) (v := (M2 206 (ix a1))) rfl dX10_copy_21 ia_206 b4 rfl ?_
      refine pw_if_lt (pc' := 25) (tgt := 34) rfl dX10_copy_22 (by decide) (fun q5 => ?_) (fun q5 => ?_)
      · have h := h.1 q5
        refine pw_bipush (pc' := 36) rfl dX10_copy_34 cb_m11 ?_
        exact ps_iret dX10_copy_36 rfl h
      · have h := h.2 q5
        refine pw_aload_n (pc' := 26) 0 rfl dX10_copy_25 rfl rfl ?_
        refine ps_getR (pc' := 29) (r := 206) rfl dX10_copy_26 fl_X10_83 ob_182 rfl rfl ?_
        refine pw_iload_n (pc' := 30) 3 rfl dX10_copy_29 rfl rfl ?_
        obtain ⟨b6, h⟩ := h
        refine ps_iald (pc' := 31) (v := (M2 206 (ix a3))) rfl dX10_copy_30 ia_206 b6 rfl ?_
        refine pw_if_ge (pc' := 34) (tgt := 37) rfl dX10_copy_31 (by decide) (fun q7 => ?_) (fun q7 => ?_)
        · have h := h.1 q7
          refine pw_aload_n (pc' := 38) 0 rfl dX10_copy_37 rfl rfl ?_
          refine ps_getR (pc' := 41) (r := 206) rfl dX10_copy_38 fl_X10_83 ob_182 rfl rfl ?_
          refine pw_iload_n (pc' := 42) 1 rfl dX10_copy_41 rfl rfl ?_
          refine ps_iald (pc' := 43) (v := (M2 206 (ix a1))) rfl dX10_copy_42 ia_206 b4 rfl ?_
          refine pw_aload_n (pc' := 44) 0 rfl dX10_copy_43 rfl rfl ?_
          refine ps_getR (pc' := 47) (r := 206) rfl dX10_copy_44 fl_X10_83 ob_182 rfl rfl ?_
          refine pw_iload_n (pc' := 48) 3 rfl dX10_copy_47 rfl rfl ?_
          refine ps_iald (pc' := 49) (v := (M2 206 (ix a3))) rfl dX10_copy_48 ia_206 b6 rfl ?_
          refine pw_icmp_eq (pc' := 52) (tgt := 55) rfl dX10_copy_49 (by decide) (fun q10 => ?_) (fun q10 => ?_)
          · have h := h.1 q10
            refine pw_iload (pc' := 57) 5 rfl dX10_copy_55 rfl ?_
            refine pw_if_lt (pc' := 60) (tgt := 95) rfl dX10_copy_57 (by decide) (fun q11 => ?_) (fun q11 => ?_)
            · have h := h.1 q11
              refine pw_bipush (pc' := 97) rfl dX10_copy_95 cb_m13 ?_
              exact ps_iret dX10_copy_97 rfl h
            · have h := h.2 q11
              refine pw_aload_n (pc' := 61) 0 rfl dX10_copy_60 rfl rfl ?_
              refine pw_iload_n (pc' := 62) 1 rfl dX10_copy_61 rfl rfl ?_
              refine pw_aload_n (pc' := 63) 0 rfl dX10_copy_62 rfl rfl ?_
              refine ps_getR (pc' := 66) (r := 206) rfl dX10_copy_63 fl_X10_83 ob_182 rfl rfl ?_
              refine pw_iload_n (pc' := 67) 1 rfl dX10_copy_66 rfl rfl ?_
              refine ps_iald (pc' := 68) (v := (M2 206 (ix a1))) rfl dX10_copy_67 ia_206 b4 rfl ?_
              refine pw_iload_n (pc' := 69) 2 rfl dX10_copy_68 rfl rfl ?_
              refine pw_iload (pc' := 71) 5 rfl dX10_copy_69 rfl ?_
              refine ps_callVI (pc' := 74) (As := [.int a1, .int (M2 206 (ix a1)), .int a2, .int a5]) (rest := []) (cT := (RX10, TX10, 44)) 4 rfl dX10_copy_71 cv_X10_finds ml_X10_214 (by decide) rfl rfl (by decide) (Nat.le_of_ble_eq_true rfl) ob_182 rfl rfl (CA.monoI h ?_)
              intro r13 M13 h
              refine pw_if_lt (pc' := 77) (tgt := 95) rfl dX10_copy_74 (by decide) (fun q14 => ?_) (fun q14 => ?_)
              · have h := h.1 q14
                refine pw_bipush (pc' := 97) rfl dX10_copy_95 cb_m13 ?_
                exact ps_iret dX10_copy_97 rfl h
              · have h := h.2 q14
                refine pw_aload_n (pc' := 78) 0 rfl dX10_copy_77 rfl rfl ?_
                refine pw_iload_n (pc' := 79) 3 rfl dX10_copy_78 rfl rfl ?_
                refine pw_aload_n (pc' := 80) 0 rfl dX10_copy_79 rfl rfl ?_
                refine ps_getR (pc' := 83) (r := 206) rfl dX10_copy_80 fl_X10_83 ob_182 rfl rfl ?_
                refine pw_iload_n (pc' := 84) 3 rfl dX10_copy_83 rfl rfl ?_
                refine ps_iald (pc' := 85) (v := (M13 206 (ix a3))) rfl dX10_copy_84 ia_206 b6 rfl ?_
                refine pw_iload (pc' := 87) 4 rfl dX10_copy_85 rfl ?_
                refine pw_iload (pc' := 89) 5 rfl dX10_copy_87 rfl ?_
                refine ps_callVI (pc' := 92) (As := [.int a3, .int (M13 206 (ix a3)), .int a4, .int a5]) (rest := []) (cT := (RX10, TX10, 44)) 4 rfl dX10_copy_89 cv_X10_finds ml_X10_214 (by decide) rfl rfl (by decide) (Nat.le_of_ble_eq_true rfl) ob_182 rfl rfl (CA.monoI h ?_)
                intro r16 M16 h
                refine pw_if_ge (pc' := 95) (tgt := 98) rfl dX10_copy_92 (by decide) (fun q17 => ?_) (fun q17 => ?_)
                · have h := h.1 q17
                  refine pw_iconst (pc' := 99) rfl dX10_copy_98 ci_0 ?_
                  refine pw_istore (pc' := 101) (lv' := [(0, .ref 182), (1, .int a1), (2, .int a2), (3, .int a3), (4, .int a4), (5, .int a5), (6, .int (nI 0))]) [1, 2, 3, 4, 5, 6, 0] rfl dX10_copy_99 (by decide) rfl ?_
                  exact pw_sub [0, 1, 2, 3, 4, 5, 6] rfl h
                · have h := h.2 q17
                  refine pw_bipush (pc' := 97) rfl dX10_copy_95 cb_m13 ?_
                  exact ps_iret dX10_copy_97 rfl h
          · have h := h.2 q10
            refine pw_bipush (pc' := 54) rfl dX10_copy_52 cb_m12 ?_
            exact ps_iret dX10_copy_54 rfl h
        · have h := h.2 q7
          refine pw_bipush (pc' := 36) rfl dX10_copy_34 cb_m11 ?_
          exact ps_iret dX10_copy_36 rfl h
    · have h := h.2 q3
      refine pw_iconst (pc' := 15) rfl dX10_copy_14 ci_m1 ?_
      exact ps_iret dX10_copy_15 rfl h
theorem T_X10_copy_101 {M : Mem} {a1 : Int32} {a2 : Int32} {a3 : Int32} {a4 : Int32} {a5 : Int32} {a6 : Int32} {Q : Int32 → Mem → Prop}  (h : ((a5 ≤ a6) → (P_X10_copy_138 M a3 a4 a5 (nI 0) Q)) ∧ ((¬ a5 ≤ a6) → (vp_in ((((nI 24) * a1) + a2) + a6) 96 ∧ (vp_in a6 24 ∧ (P_X10_copy_101 (wr M 209 (ix a6) (M 208 (ix ((((nI 24) * a1) + a2) + a6)))) a1 a2 a3 a4 a5 (a6 + (nI 1)) Q))))) : P_X10_copy_101 M a1 a2 a3 a4 a5 a6 Q := by
  refine pw_iload (pc' := 103) 6 rfl dX10_copy_101 rfl ?_
  refine pw_iload (pc' := 105) 5 rfl dX10_copy_103 rfl ?_
  refine pw_icmp_ge (pc' := 108) (tgt := 135) rfl dX10_copy_105 (by decide) (fun q0 => ?_) (fun q0 => ?_)
  · have h := h.1 q0
    refine pw_iconst (pc' := 136) rfl dX10_copy_135 ci_0 ?_
    refine pw_istore (pc' := 138) (lv' := [(0, .ref 182), (1, .int a1), (2, .int a2), (3, .int a3), (4, .int a4), (5, .int a5), (6, .int (nI 0))]) [1, 2, 3, 4, 5, 6, 0] rfl dX10_copy_136 (by decide) rfl ?_
    exact pw_sub [0, 3, 4, 5, 6] rfl h
  · have h := h.2 q0
    refine pw_aload_n (pc' := 109) 0 rfl dX10_copy_108 rfl rfl ?_
    refine ps_getR (pc' := 112) (r := 209) rfl dX10_copy_109 fl_X10_92 ob_182 rfl rfl ?_
    refine pw_iload (pc' := 114) 6 rfl dX10_copy_112 rfl ?_
    refine pw_aload_n (pc' := 115) 0 rfl dX10_copy_114 rfl rfl ?_
    refine ps_getR (pc' := 118) (r := 208) rfl dX10_copy_115 fl_X10_89 ob_182 rfl rfl ?_
    refine pw_bipush (pc' := 120) rfl dX10_copy_118 cb_24 ?_
    refine pw_iload_n (pc' := 121) 1 rfl dX10_copy_120 rfl rfl ?_
    refine pw_imul (pc' := 122) rfl dX10_copy_121 ?_
    refine pw_iload_n (pc' := 123) 2 rfl dX10_copy_122 rfl rfl ?_
    refine pw_iadd (pc' := 124) rfl dX10_copy_123 ?_
    refine pw_iload (pc' := 126) 6 rfl dX10_copy_124 rfl ?_
    refine pw_iadd (pc' := 127) rfl dX10_copy_126 ?_
    obtain ⟨b1, h⟩ := h
    refine ps_iald (pc' := 128) (v := (M 208 (ix ((((nI 24) * a1) + a2) + a6)))) rfl dX10_copy_127 ia_208 b1 rfl ?_
    obtain ⟨b2, h⟩ := h
    refine ps_iast (pc' := 129) rfl dX10_copy_128 ia_209 b2 ?_
    refine pw_iinc (pc' := 132) (lv' := [(0, .ref 182), (1, .int a1), (2, .int a2), (3, .int a3), (4, .int a4), (5, .int a5), (6, .int (a6 + (nI 1)))]) 6 [1, 2, 3, 4, 5, 6, 0] rfl dX10_copy_129 rfl (ii_1 _) (by decide) rfl ?_
    refine pw_goto (tgt := 101) dX10_copy_132 (by decide) ?_
    exact pw_sub [0, 1, 2, 3, 4, 5, 6] rfl h
theorem T_X10_copy_138 {M : Mem} {a3 : Int32} {a4 : Int32} {a5 : Int32} {a6 : Int32} {Q : Int32 → Mem → Prop}  (h : ((a5 ≤ a6) → (Q a5 M)) ∧ ((¬ a5 ≤ a6) → (vp_in a6 24 ∧ (vp_in ((((nI 24) * a3) + a4) + a6) 96 ∧ (P_X10_copy_138 (wr M 208 (ix ((((nI 24) * a3) + a4) + a6)) (M 209 (ix a6))) a3 a4 a5 (a6 + (nI 1)) Q))))) : P_X10_copy_138 M a3 a4 a5 a6 Q := by
  refine pw_iload (pc' := 140) 4 rfl dX10_copy_138 rfl ?_
  refine pw_iload (pc' := 142) 3 rfl dX10_copy_140 rfl ?_
  refine pw_icmp_ge (pc' := 145) (tgt := 173) rfl dX10_copy_142 (by decide) (fun q0 => ?_) (fun q0 => ?_)
  · have h := h.1 q0
    refine pw_iload (pc' := 175) 3 rfl dX10_copy_173 rfl ?_
    exact ps_iret dX10_copy_175 rfl h
  · have h := h.2 q0
    refine pw_aload_n (pc' := 146) 0 rfl dX10_copy_145 rfl rfl ?_
    refine ps_getR (pc' := 149) (r := 208) rfl dX10_copy_146 fl_X10_89 ob_182 rfl rfl ?_
    refine pw_bipush (pc' := 151) rfl dX10_copy_149 cb_24 ?_
    refine pw_iload_n (pc' := 152) 1 rfl dX10_copy_151 rfl rfl ?_
    refine pw_imul (pc' := 153) rfl dX10_copy_152 ?_
    refine pw_iload (pc' := 155) 2 rfl dX10_copy_153 rfl ?_
    refine pw_iadd (pc' := 156) rfl dX10_copy_155 ?_
    refine pw_iload (pc' := 158) 4 rfl dX10_copy_156 rfl ?_
    refine pw_iadd (pc' := 159) rfl dX10_copy_158 ?_
    refine pw_aload_n (pc' := 160) 0 rfl dX10_copy_159 rfl rfl ?_
    refine ps_getR (pc' := 163) (r := 209) rfl dX10_copy_160 fl_X10_92 ob_182 rfl rfl ?_
    refine pw_iload (pc' := 165) 4 rfl dX10_copy_163 rfl ?_
    obtain ⟨b1, h⟩ := h
    refine ps_iald (pc' := 166) (v := (M 209 (ix a6))) rfl dX10_copy_165 ia_209 b1 rfl ?_
    obtain ⟨b2, h⟩ := h
    refine ps_iast (pc' := 167) rfl dX10_copy_166 ia_208 b2 ?_
    refine pw_iinc (pc' := 170) (lv' := [(0, .ref 182), (3, .int a3), (4, .int a4), (5, .int a5), (6, .int (a6 + (nI 1)))]) 4 [1, 2, 3, 4, 0] rfl dX10_copy_167 rfl (ii_1 _) (by decide) rfl ?_
    refine pw_goto (tgt := 138) dX10_copy_170 (by decide) ?_
    exact pw_sub [0, 1, 2, 3, 4] rfl h
