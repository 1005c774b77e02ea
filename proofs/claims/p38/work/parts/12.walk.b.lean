theorem T_X3_prepare {M : Mem}  {Q : Mem → Prop}  (h : (((M 124 3) = 0) → (C_X8_prepare M (fun M1 => P_X3_prepare_17 M1 (nI 0) Q))) ∧ ((¬ (M 124 3) = 0) → (Q M))) : C_X3_prepare M  Q := by
  refine CA_of rfl (Nat.le_of_ble_eq_true rfl) ?_
  show PS _ _ 0 [(0, .ref 124)] [] M _
  refine pw_aload_n (pc' := 1) 0 rfl dX3_prepare_0 rfl rfl ?_
  refine ps_getI (pc' := 4) (v := (M 124 3)) rfl dX3_prepare_1 fl_X3_51 ob_124 rfl rfl ?_
  refine pw_if_eq (pc' := 7) (tgt := 8) rfl dX3_prepare_4 (by decide) (fun q0 => ?_) (fun q0 => ?_)
  · have h := h.1 q0
    refine pw_aload_n (pc' := 9) 0 rfl dX3_prepare_8 rfl rfl ?_
    refine ps_getR (pc' := 12) (r := 95) rfl dX3_prepare_9 fl_X3_47 ob_124 rfl rfl ?_
    refine ps_callVV (pc' := 15) (As := []) (rest := []) (cT := (RX8, TX8, 6)) 0 rfl dX3_prepare_12 cv_X8_prepare ml_X3_55 (by decide) rfl rfl (by decide) (Nat.le_of_ble_eq_true rfl) ob_95 rfl rfl (CA.monoV h ?_)
    intro M1 h
    refine pw_iconst (pc' := 16) rfl dX3_prepare_15 ci_0 ?_
    refine pw_istore_n (pc' := 17) (lv' := [(0, .ref 124), (1, .int (nI 0))]) [1, 0] rfl dX3_prepare_16 rfl (by decide) rfl ?_
    exact pw_sub [0, 1] rfl h
  · have h := h.2 q0
    exact ps_vret dX3_prepare_7 rfl h
theorem T_X3_prepare_17 {M : Mem} {a1 : Int32} {Q : Mem → Prop}  (h : (((nI 24) ≤ a1) → (C_X5_well_30 M (fun r1 M1 => P_X3_prepare_44 M1 r1 (nI 0) Q))) ∧ ((¬ (nI 24) ≤ a1) → (C_X3_fillEnds M a1 (fun M1 => P_X3_prepare_17 M1 (a1 + (nI 1)) Q)))) : P_X3_prepare_17 M a1 Q := by
  refine pw_iload_n (pc' := 18) 1 rfl dX3_prepare_17 rfl rfl ?_
  refine pw_bipush (pc' := 20) rfl dX3_prepare_18 cb_24 ?_
  refine pw_icmp_ge (pc' := 23) (tgt := 34) rfl dX3_prepare_20 (by decide) (fun q0 => ?_) (fun q0 => ?_)
  · have h := h.1 q0
    refine pw_aload_n (pc' := 35) 0 rfl dX3_prepare_34 rfl rfl ?_
    refine ps_getR (pc' := 38) (r := 30) rfl dX3_prepare_35 fl_X3_43 ob_124 rfl rfl ?_
    refine ps_callVI (pc' := 41) (As := []) (rest := []) (cT := (RX5, TX5, 10)) 0 rfl dX3_prepare_38 cv_X5_well ml_X3_64 (by decide) rfl rfl (by decide) (Nat.le_of_ble_eq_true rfl) ob_30 rfl rfl (CA.monoI h ?_)
    intro r1 M1 h
    refine pw_istore_n (pc' := 42) (lv' := [(0, .ref 124), (1, .int r1)]) [1, 0] rfl dX3_prepare_41 rfl (by decide) rfl ?_
    refine pw_iconst (pc' := 43) rfl dX3_prepare_42 ci_0 ?_
    refine pw_istore_n (pc' := 44) (lv' := [(0, .ref 124), (1, .int r1), (2, .int (nI 0))]) [1, 2, 0] rfl dX3_prepare_43 rfl (by decide) rfl ?_
    exact pw_sub [0, 1, 2] rfl h
  · have h := h.2 q0
    refine pw_aload_n (pc' := 24) 0 rfl dX3_prepare_23 rfl rfl ?_
    refine pw_iload_n (pc' := 25) 1 rfl dX3_prepare_24 rfl rfl ?_
    refine ps_callVV (pc' := 28) (As := [.int a1]) (rest := []) (cT := (RX3, TX3, 12)) 1 rfl dX3_prepare_25 cv_X3_fillEnds ml_X3_60 (by decide) rfl rfl (by decide) (Nat.le_of_ble_eq_true rfl) ob_124 rfl rfl (CA.monoV h ?_)
    intro M1 h
    refine pw_iinc (pc' := 31) (lv' := [(0, .ref 124), (1, .int (a1 + (nI 1)))]) 1 [1, 0] rfl dX3_prepare_28 rfl (ii_1 _) (by decide) rfl ?_
    refine pw_goto (tgt := 17) dX3_prepare_31 (by decide) ?_
    exact pw_sub [0, 1] rfl h
theorem T_X3_prepare_44 {M : Mem} {a1 : Int32} {a2 : Int32} {Q : Mem → Prop}  (h : (((M 30 0) ≤ a2) → (C_X3_makeBest M a1 (fun M1 => C_X3_makeRule M1 a1 (fun M2 => Q (wr M2 124 3 (nI 1)))))) ∧ ((¬ (M 30 0) ≤ a2) → (((((a1 >>> (a2 &&& 31)) &&& (nI 1)) = 0) → (P_X3_prepare_44 M a1 (a2 + (nI 1)) Q)) ∧ ((¬ ((a1 >>> (a2 &&& 31)) &&& (nI 1)) = 0) → (C_X3_fillLeast M a2 (fun M2 => P_X3_prepare_44 M2 a1 (a2 + (nI 1)) Q)))))) : P_X3_prepare_44 M a1 a2 Q := by
  refine pw_iload_n (pc' := 45) 2 rfl dX3_prepare_44 rfl rfl ?_
  refine pw_aload_n (pc' := 46) 0 rfl dX3_prepare_45 rfl rfl ?_
  refine ps_getR (pc' := 49) (r := 30) rfl dX3_prepare_46 fl_X3_43 ob_124 rfl rfl ?_
  refine ps_getI (pc' := 52) (v := (M 30 0)) rfl dX3_prepare_49 fl_X3_70 ob_30 rfl rfl ?_
  refine pw_icmp_ge (pc' := 55) (tgt := 74) rfl dX3_prepare_52 (by decide) (fun q0 => ?_) (fun q0 => ?_)
  · have h := h.1 q0
    refine pw_aload_n (pc' := 75) 0 rfl dX3_prepare_74 rfl rfl ?_
    refine pw_iload_n (pc' := 76) 1 rfl dX3_prepare_75 rfl rfl ?_
    refine ps_callVV (pc' := 79) (As := [.int a1]) (rest := []) (cT := (RX3, TX3, 12)) 1 rfl dX3_prepare_76 cv_X3_makeBest ml_X3_77 (by decide) rfl rfl (by decide) (Nat.le_of_ble_eq_true rfl) ob_124 rfl rfl (CA.monoV h ?_)
    intro M1 h
    refine pw_aload_n (pc' := 80) 0 rfl dX3_prepare_79 rfl rfl ?_
    refine pw_iload_n (pc' := 81) 1 rfl dX3_prepare_80 rfl rfl ?_
    refine ps_callVV (pc' := 84) (As := [.int a1]) (rest := []) (cT := (RX3, TX3, 12)) 1 rfl dX3_prepare_81 cv_X3_makeRule ml_X3_80 (by decide) rfl rfl (by decide) (Nat.le_of_ble_eq_true rfl) ob_124 rfl rfl (CA.monoV h ?_)
    intro M2 h
    refine pw_aload_n (pc' := 85) 0 rfl dX3_prepare_84 rfl rfl ?_
    refine pw_iconst (pc' := 86) rfl dX3_prepare_85 ci_1 ?_
    refine ps_putZ (pc' := 89) rfl dX3_prepare_86 fl_X3_51 ob_124 rfl (by decide) ?_
    exact ps_vret dX3_prepare_89 rfl h
  · have h := h.2 q0
    refine pw_iload_n (pc' := 56) 1 rfl dX3_prepare_55 rfl rfl ?_
    refine pw_iload_n (pc' := 57) 2 rfl dX3_prepare_56 rfl rfl ?_
    refine pw_ishr (pc' := 58) rfl dX3_prepare_57 ?_
    refine pw_iconst (pc' := 59) rfl dX3_prepare_58 ci_1 ?_
    refine pw_iand (pc' := 60) rfl dX3_prepare_59 ?_
    refine pw_if_eq (pc' := 63) (tgt := 68) rfl dX3_prepare_60 (by decide) (fun q1 => ?_) (fun q1 => ?_)
    · have h := h.1 q1
      refine pw_iinc (pc' := 71) (lv' := [(0, .ref 124), (1, .int a1), (2, .int (a2 + (nI 1)))]) 2 [1, 2, 0] rfl dX3_prepare_68 rfl (ii_1 _) (by decide) rfl ?_
      refine pw_goto (tgt := 44) dX3_prepare_71 (by decide) ?_
      exact pw_sub [0, 1, 2] rfl h
    · have h := h.2 q1
      refine pw_aload_n (pc' := 64) 0 rfl dX3_prepare_63 rfl rfl ?_
      refine pw_iload_n (pc' := 65) 2 rfl dX3_prepare_64 rfl rfl ?_
      refine ps_callVV (pc' := 68) (As := [.int a2]) (rest := []) (cT := (RX3, TX3, 12)) 1 rfl dX3_prepare_65 cv_X3_fillLeast ml_X3_74 (by decide) rfl rfl (by decide) (Nat.le_of_ble_eq_true rfl) ob_124 rfl rfl (CA.monoV h ?_)
      intro M2 h
      refine pw_iinc (pc' := 71) (lv' := [(0, .ref 124), (1, .int a1), (2, .int (a2 + (nI 1)))]) 2 [1, 2, 0] rfl dX3_prepare_68 rfl (ii_1 _) (by decide) rfl ?_
      refine pw_goto (tgt := 44) dX3_prepare_71 (by decide) ?_
      exact pw_sub [0, 1, 2] rfl h
theorem T_X3_fillEnds {M : Mem} {a1 : Int32} {Q : Mem → Prop}  (h : vp_in a1 24 ∧ (C_J7_fill_53178 M (135 + 1 + ix a1) (nI 24) (fun M1 => C_X8_mayBegin M1 (M1 30 2) a1 (nI 1) (fun r2 M2 => ((r2 = 0) → (P_X3_fillEnds_52 M2 (135 + 1 + ix a1) (nI 0) (nI 0) a1 Q)) ∧ ((¬ r2 = 0) → (P_X3_fillEnds_52 M2 (135 + 1 + ix a1) (nI 0) ((nI 1) <<< ((M2 30 2) &&& 31)) a1 Q)))))) : C_X3_fillEnds M a1 Q := by
  refine CA_of rfl (Nat.le_of_ble_eq_true rfl) ?_
  show PS _ _ 0 [(0, .ref 124), (1, .int a1)] [] M _
  refine pw_aload_n (pc' := 1) 0 rfl dX3_fillEnds_0 rfl rfl ?_
  refine ps_getR (pc' := 4) (r := 135) rfl dX3_fillEnds_1 fl_X3_23 ob_124 rfl rfl ?_
  refine pw_iload_n (pc' := 5) 1 rfl dX3_fillEnds_4 rfl rfl ?_
  obtain ⟨b0, h⟩ := h
  refine ps_aald (pc' := 6) rfl dX3_fillEnds_5 ra_135 b0 ?_
  refine pw_astore_n (pc' := 7) (lv' := [(0, .ref 124), (1, .int a1), (2, .ref (135 + 1 + ix a1))]) [1, 2, 0] rfl dX3_fillEnds_6 rfl (by decide) rfl ?_
  refine pw_aload_n (pc' := 8) 2 rfl dX3_fillEnds_7 rfl rfl ?_
  refine pw_bipush (pc' := 10) rfl dX3_fillEnds_8 cb_24 ?_
  refine ps_callSV (pc' := 13) (As := [.ref (135 + 1 + ix a1), .int (nI 24)]) (rest := []) 2 rfl dX3_fillEnds_10 cs_J7_fill_53178 ml_X3_83 (by decide) rfl rfl (by decide) (Nat.le_of_ble_eq_true rfl) (CA.monoV h ?_)
  intro M1 h
  refine pw_iconst (pc' := 14) rfl dX3_fillEnds_13 ci_0 ?_
  refine pw_istore_n (pc' := 15) (lv' := [(0, .ref 124), (1, .int a1), (2, .ref (135 + 1 + ix a1)), (3, .int (nI 0))]) [1, 2, 3, 0] rfl dX3_fillEnds_14 rfl (by decide) rfl ?_
  refine pw_aload_n (pc' := 16) 0 rfl dX3_fillEnds_15 rfl rfl ?_
  refine ps_getR (pc' := 19) (r := 95) rfl dX3_fillEnds_16 fl_X3_47 ob_124 rfl rfl ?_
  refine pw_aload_n (pc' := 20) 0 rfl dX3_fillEnds_19 rfl rfl ?_
  refine ps_getR (pc' := 23) (r := 30) rfl dX3_fillEnds_20 fl_X3_43 ob_124 rfl rfl ?_
  refine ps_getI (pc' := 26) (v := (M1 30 2)) rfl dX3_fillEnds_23 fl_X3_89 ob_30 rfl rfl ?_
  refine pw_iload_n (pc' := 27) 1 rfl dX3_fillEnds_26 rfl rfl ?_
  refine pw_iconst (pc' := 28) rfl dX3_fillEnds_27 ci_1 ?_
  refine ps_callVI (pc' := 31) (As := [.int (M1 30 2), .int a1, .int (nI 1)]) (rest := []) (cT := (RX8, TX8, 6)) 3 rfl dX3_fillEnds_28 cv_X8_mayBegin ml_X3_92 (by decide) rfl rfl (by decide) (Nat.le_of_ble_eq_true rfl) ob_95 rfl rfl (CA.monoI h ?_)
  intro r2 M2 h
  refine pw_if_eq (pc' := 34) (tgt := 46) rfl dX3_fillEnds_31 (by decide) (fun q3 => ?_) (fun q3 => ?_)
  · have h := h.1 q3
    refine pw_iconst (pc' := 47) rfl dX3_fillEnds_46 ci_0 ?_
    refine pw_istore (pc' := 49) (lv' := [(0, .ref 124), (1, .int a1), (2, .ref (135 + 1 + ix a1)), (3, .int (nI 0)), (4, .int (nI 0))]) [1, 2, 3, 4, 0] rfl dX3_fillEnds_47 (by decide) rfl ?_
    refine pw_iload_n (pc' := 50) 1 rfl dX3_fillEnds_49 rfl rfl ?_
    refine pw_istore (pc' := 52) (lv' := [(0, .ref 124), (1, .int a1), (2, .ref (135 + 1 + ix a1)), (3, .int (nI 0)), (4, .int (nI 0)), (5, .int a1)]) [1, 2, 3, 4, 5, 0] rfl dX3_fillEnds_50 (by decide) rfl ?_
    exact pw_sub [0, 2, 3, 4, 5] rfl h
  · have h := h.2 q3
    refine pw_iconst (pc' := 35) rfl dX3_fillEnds_34 ci_1 ?_
    refine pw_aload_n (pc' := 36) 0 rfl dX3_fillEnds_35 rfl rfl ?_
    refine ps_getR (pc' := 39) (r := 30) rfl dX3_fillEnds_36 fl_X3_43 ob_124 rfl rfl ?_
    refine ps_getI (pc' := 42) (v := (M2 30 2)) rfl dX3_fillEnds_39 fl_X3_89 ob_30 rfl rfl ?_
    refine pw_ishl (pc' := 43) rfl dX3_fillEnds_42 ?_
    refine pw_goto (tgt := 47) dX3_fillEnds_43 (by decide) ?_
    refine pw_istore (pc' := 49) (lv' := [(0, .ref 124), (1, .int a1), (2, .ref (135 + 1 + ix a1)), (3, .int (nI 0)), (4, .int ((nI 1) <<< ((M2 30 2) &&& 31)))]) [1, 2, 3, 4, 0] rfl dX3_fillEnds_47 (by decide) rfl ?_
    refine pw_iload_n (pc' := 50) 1 rfl dX3_fillEnds_49 rfl rfl ?_
    refine pw_istore (pc' := 52) (lv' := [(0, .ref 124), (1, .int a1), (2, .ref (135 + 1 + ix a1)), (3, .int (nI 0)), (4, .int ((nI 1) <<< ((M2 30 2) &&& 31))), (5, .int a1)]) [1, 2, 3, 4, 5, 0] rfl dX3_fillEnds_50 (by decide) rfl ?_
    exact pw_sub [0, 2, 3, 4, 5] rfl h
theorem T_X3_fillEnds_52 {M : Mem} {c2 : Nat} {a3 : Int32} {a4 : Int32} {a5 : Int32} {Q : Mem → Prop} (hc2 : IA c2 10) (h : (((nI 24) ≤ a5) → (Q M)) ∧ ((¬ (nI 24) ≤ a5) → (((a4 = 0) → (Q M)) ∧ ((¬ a4 = 0) → (P_X3_fillEnds_75 M c2 a3 a4 a5 (a4 &&& (a3 ^^^ (-1))) (nI 0) Q))))) : P_X3_fillEnds_52 M c2 a3 a4 a5 Q := by
  refine pw_iload (pc' := 54) 4 rfl dX3_fillEnds_52 rfl ?_
  refine pw_bipush (pc' := 56) rfl dX3_fillEnds_54 cb_24 ?_
  refine pw_icmp_ge (pc' := 59) (tgt := 150) rfl dX3_fillEnds_56 (by decide) (fun q0 => ?_) (fun q0 => ?_)
  · have h := h.1 q0
    exact ps_vret dX3_fillEnds_150 rfl h
  · have h := h.2 q0
    refine pw_iload (pc' := 61) 3 rfl dX3_fillEnds_59 rfl ?_
    refine pw_if_eq (pc' := 64) (tgt := 150) rfl dX3_fillEnds_61 (by decide) (fun q1 => ?_) (fun q1 => ?_)
    · have h := h.1 q1
      exact ps_vret dX3_fillEnds_150 rfl h
    · have h := h.2 q1
      refine pw_iload (pc' := 66) 3 rfl dX3_fillEnds_64 rfl ?_
      refine pw_iload_n (pc' := 67) 2 rfl dX3_fillEnds_66 rfl rfl ?_
      refine pw_iconst (pc' := 68) rfl dX3_fillEnds_67 ci_m1 ?_
      refine pw_ixor (pc' := 69) rfl dX3_fillEnds_68 ?_
      refine pw_iand (pc' := 70) rfl dX3_fillEnds_69 ?_
      refine pw_istore (pc' := 72) (lv' := [(0, .ref 124), (2, .ref c2), (3, .int a3), (4, .int a4), (5, .int a5), (6, .int (a4 &&& (a3 ^^^ (-1))))]) [1, 2, 3, 4, 5, 0] rfl dX3_fillEnds_70 (by decide) rfl ?_
      refine pw_iconst (pc' := 73) rfl dX3_fillEnds_72 ci_0 ?_
      refine pw_istore (pc' := 75) (lv' := [(0, .ref 124), (2, .ref c2), (3, .int a3), (4, .int a4), (5, .int a5), (6, .int (a4 &&& (a3 ^^^ (-1)))), (7, .int (nI 0))]) [1, 2, 3, 4, 5, 6, 0] rfl dX3_fillEnds_73 (by decide) rfl ?_
      exact pw_sub [0, 1, 2, 3, 4, 5, 6] rfl h
theorem T_X3_fillEnds_75 {M : Mem} {c2 : Nat} {a3 : Int32} {a4 : Int32} {a5 : Int32} {a6 : Int32} {a7 : Int32} {Q : Mem → Prop} (hc2 : IA c2 10) (h : (((M 1 0) ≤ a7) → ((((nI 23) ≤ a5) → (P_X3_fillEnds_52 M c2 (a3 ||| a4) (nI 0) (a5 + (nI 1)) Q)) ∧ ((¬ (nI 23) ≤ a5) → (C_X8_onward M a4 a5 (nI 1) (fun r2 M2 => P_X3_fillEnds_52 M2 c2 (a3 ||| a4) r2 (a5 + (nI 1)) Q))))) ∧ ((¬ (M 1 0) ≤ a7) → (((a6 = 0) → ((((nI 23) ≤ a5) → (P_X3_fillEnds_52 M c2 (a3 ||| a4) (nI 0) (a5 + (nI 1)) Q)) ∧ ((¬ (nI 23) ≤ a5) → (C_X8_onward M a4 a5 (nI 1) (fun r3 M3 => P_X3_fillEnds_52 M3 c2 (a3 ||| a4) r3 (a5 + (nI 1)) Q))))) ∧ ((¬ a6 = 0) → (((((a6 >>> (a7 &&& 31)) &&& (nI 1)) = 0) → (P_X3_fillEnds_75 M c2 a3 a4 a5 a6 (a7 + (nI 1)) Q)) ∧ ((¬ ((a6 >>> (a7 &&& 31)) &&& (nI 1)) = 0) → (vp_in a7 10 ∧ (P_X3_fillEnds_75 (wr M c2 (ix a7) a5) c2 a3 a4 a5 a6 (a7 + (nI 1)) Q)))))))) : P_X3_fillEnds_75 M c2 a3 a4 a5 a6 a7 Q := by
  refine pw_iload (pc' := 77) 6 rfl dX3_fillEnds_75 rfl ?_
  refine pw_aload_n (pc' := 78) 0 rfl dX3_fillEnds_77 rfl rfl ?_
  refine ps_getR (pc' := 81) (r := 1) rfl dX3_fillEnds_78 fl_X3_39 ob_124 rfl rfl ?_
  refine ps_getI (pc' := 84) (v := (M 1 0)) rfl dX3_fillEnds_81 fl_X3_96 ob_1 rfl rfl ?_
  refine pw_icmp_ge (pc' := 87) (tgt := 114) rfl dX3_fillEnds_84 (by decide) (fun q0 => ?_) (fun q0 => ?_)
  · have h := h.1 q0
    refine pw_iload_n (pc' := 115) 2 rfl dX3_fillEnds_114 rfl rfl ?_
    refine pw_iload (pc' := 117) 3 rfl dX3_fillEnds_115 rfl ?_
    refine pw_ior (pc' := 118) rfl dX3_fillEnds_117 ?_
    refine pw_istore_n (pc' := 119) (lv' := [(0, .ref 124), (2, .ref c2), (3, .int (a3 ||| a4)), (4, .int a4), (5, .int a5), (6, .int a6), (7, .int a7)]) [1, 2, 0, 3, 4, 5, 6] rfl dX3_fillEnds_118 rfl (by decide) rfl ?_
    refine pw_iload (pc' := 121) 4 rfl dX3_fillEnds_119 rfl ?_
    refine pw_bipush (pc' := 123) rfl dX3_fillEnds_121 cb_23 ?_
    refine pw_icmp_ge (pc' := 126) (tgt := 141) rfl dX3_fillEnds_123 (by decide) (fun q1 => ?_) (fun q1 => ?_)
    · have h := h.1 q1
      refine pw_iconst (pc' := 142) rfl dX3_fillEnds_141 ci_0 ?_
      refine pw_istore (pc' := 144) (lv' := [(0, .ref 124), (2, .ref c2), (3, .int (a3 ||| a4)), (4, .int (nI 0)), (5, .int a5), (6, .int a6), (7, .int a7)]) [1, 2, 3, 0, 4, 5, 6] rfl dX3_fillEnds_142 (by decide) rfl ?_
      refine pw_iinc (pc' := 147) (lv' := [(0, .ref 124), (2, .ref c2), (3, .int (a3 ||| a4)), (4, .int (nI 0)), (5, .int (a5 + (nI 1))), (6, .int a6), (7, .int a7)]) 4 [1, 2, 3, 4, 0, 5, 6] rfl dX3_fillEnds_144 rfl (ii_1 _) (by decide) rfl ?_
      refine pw_goto (tgt := 52) dX3_fillEnds_147 (by decide) ?_
      exact pw_sub [0, 1, 2, 3, 4] rfl h
    · have h := h.2 q1
      refine pw_aload_n (pc' := 127) 0 rfl dX3_fillEnds_126 rfl rfl ?_
      refine ps_getR (pc' := 130) (r := 95) rfl dX3_fillEnds_127 fl_X3_47 ob_124 rfl rfl ?_
      refine pw_iload (pc' := 132) 3 rfl dX3_fillEnds_130 rfl ?_
      refine pw_iload (pc' := 134) 4 rfl dX3_fillEnds_132 rfl ?_
      refine pw_iconst (pc' := 135) rfl dX3_fillEnds_134 ci_1 ?_
      refine ps_callVI (pc' := 138) (As := [.int a4, .int a5, .int (nI 1)]) (rest := []) (cT := (RX8, TX8, 6)) 3 rfl dX3_fillEnds_135 cv_X8_onward ml_X3_101 (by decide) rfl rfl (by decide) (Nat.le_of_ble_eq_true rfl) ob_95 rfl rfl (CA.monoI h ?_)
      intro r2 M2 h
      refine pw_goto (tgt := 142) dX3_fillEnds_138 (by decide) ?_
      refine pw_istore (pc' := 144) (lv' := [(0, .ref 124), (2, .ref c2), (3, .int (a3 ||| a4)), (4, .int r2), (5, .int a5), (6, .int a6), (7, .int a7)]) [1, 2, 3, 0, 4, 5, 6] rfl dX3_fillEnds_142 (by decide) rfl ?_
      refine pw_iinc (pc' := 147) (lv' := [(0, .ref 124), (2, .ref c2), (3, .int (a3 ||| a4)), (4, .int r2), (5, .int (a5 + (nI 1))), (6, .int a6), (7, .int a7)]) 4 [1, 2, 3, 4, 0, 5, 6] rfl dX3_fillEnds_144 rfl (ii_1 _) (by decide) rfl ?_
      refine pw_goto (tgt := 52) dX3_fillEnds_147 (by decide) ?_
      exact pw_sub [0, 1, 2, 3, 4] rfl h
  · have h := h.2 q0
    refine pw_iload (pc' := 89) 5 rfl dX3_fillEnds_87 rfl ?_
    refine pw_if_eq (pc' := 92) (tgt := 114) rfl dX3_fillEnds_89 (by decide) (fun q1 => ?_) (fun q1 => ?_)
    · have h := h.1 q1
      refine pw_iload_n (pc' := 115) 2 rfl dX3_fillEnds_114 rfl rfl ?_
      refine pw_iload (pc' := 117) 3 rfl dX3_fillEnds_115 rfl ?_
      refine pw_ior (pc' := 118) rfl dX3_fillEnds_117 ?_
      refine pw_istore_n (pc' := 119) (lv' := [(0, .ref 124), (2, .ref c2), (3, .int (a3 ||| a4)), (4, .int a4), (5, .int a5), (6, .int a6), (7, .int a7)]) [1, 2, 0, 3, 4, 5, 6] rfl dX3_fillEnds_118 rfl (by decide) rfl ?_
      refine pw_iload (pc' := 121) 4 rfl dX3_fillEnds_119 rfl ?_
      refine pw_bipush (pc' := 123) rfl dX3_fillEnds_121 cb_23 ?_
      refine pw_icmp_ge (pc' := 126) (tgt := 141) rfl dX3_fillEnds_123 (by decide) (fun q2 => ?_) (fun q2 => ?_)
      · have h := h.1 q2
        refine pw_iconst (pc' := 142) rfl dX3_fillEnds_141 ci_0 ?_
        refine pw_istore (pc' := 144) (lv' := [(0, .ref 124), (2, .ref c2), (3, .int (a3 ||| a4)), (4, .int (nI 0)), (5, .int a5), (6, .int a6), (7, .int a7)]) [1, 2, 3, 0, 4, 5, 6] rfl dX3_fillEnds_142 (by decide) rfl ?_
        refine pw_iinc (pc' := 147) (lv' := [(0, .ref 124), (2, .ref c2), (3, .int (a3 ||| a4)), (4, .int (nI 0)), (5, .int (a5 + (nI 1))), (6, .int a6), (7, .int a7)]) 4 [1, 2, 3, 4, 0, 5, 6] rfl dX3_fillEnds_144 rfl (ii_1 _) (by decide) rfl ?_
        refine pw_goto (tgt := 52) dX3_fillEnds_147 (by decide) ?_
        exact pw_sub [0, 1, 2, 3, 4] rfl h
      · have h := h.2 q2
        refine pw_aload_n (pc' := 127) 0 rfl dX3_fillEnds_126 rfl rfl ?_
        refine ps_getR (pc' := 130) (r := 95) rfl dX3_fillEnds_127 fl_X3_47 ob_124 rfl rfl ?_
        refine pw_iload (pc' := 132) 3 rfl dX3_fillEnds_130 rfl ?_
        refine pw_iload (pc' := 134) 4 rfl dX3_fillEnds_132 rfl ?_
        refine pw_iconst (pc' := 135) rfl dX3_fillEnds_134 ci_1 ?_
        refine ps_callVI (pc' := 138) (As := [.int a4, .int a5, .int (nI 1)]) (rest := []) (cT := (RX8, TX8, 6)) 3 rfl dX3_fillEnds_135 cv_X8_onward ml_X3_101 (by decide) rfl rfl (by decide) (Nat.le_of_ble_eq_true rfl) ob_95 rfl rfl (CA.monoI h ?_)
        intro r3 M3 h
        refine pw_goto (tgt := 142) dX3_fillEnds_138 (by decide) ?_
        refine pw_istore (pc' := 144) (lv' := [(0, .ref 124), (2, .ref c2), (3, .int (a3 ||| a4)), (4, .int r3), (5, .int a5), (6, .int a6), (7, .int a7)]) [1, 2, 3, 0, 4, 5, 6] rfl dX3_fillEnds_142 (by decide) rfl ?_
        refine pw_iinc (pc' := 147) (lv' := [(0, .ref 124), (2, .ref c2), (3, .int (a3 ||| a4)), (4, .int r3), (5, .int (a5 + (nI 1))), (6, .int a6), (7, .int a7)]) 4 [1, 2, 3, 4, 0, 5, 6] rfl dX3_fillEnds_144 rfl (ii_1 _) (by decide) rfl ?_
        refine pw_goto (tgt := 52) dX3_fillEnds_147 (by decide) ?_
        exact pw_sub [0, 1, 2, 3, 4] rfl h
    · have h := h.2 q1
      refine pw_iload (pc' := 94) 5 rfl dX3_fillEnds_92 rfl ?_
      refine pw_iload (pc' := 96) 6 rfl dX3_fillEnds_94 rfl ?_
      refine pw_ishr (pc' := 97) rfl dX3_fillEnds_96 ?_
      refine pw_iconst (pc' := 98) rfl dX3_fillEnds_97 ci_1 ?_
      refine pw_iand (pc' := 99) rfl dX3_fillEnds_98 ?_
      refine pw_if_eq (pc' := 102) (tgt := 108) rfl dX3_fillEnds_99 (by decide) (fun q2 => ?_) (fun q2 => ?_)
      · have h := h.1 q2
        refine pw_iinc (pc' := 111) (lv' := [(0, .ref 124), (2, .ref c2), (3, .int a3), (4, .int a4), (5, .int a5), (6, .int a6), (7, .int (a7 + (nI 1)))]) 6 [1, 2, 3, 4, 5, 6, 0] rfl dX3_fillEnds_108 rfl (ii_1 _) (by decide) rfl ?_
        refine pw_goto (tgt := 75) dX3_fillEnds_111 (by decide) ?_
        exact pw_sub [0, 1, 2, 3, 4, 5, 6] rfl h
      · have h := h.2 q2
        refine pw_aload_n (pc' := 103) 1 rfl dX3_fillEnds_102 rfl rfl ?_
        refine pw_iload (pc' := 105) 6 rfl dX3_fillEnds_103 rfl ?_
        refine pw_iload (pc' := 107) 4 rfl dX3_fillEnds_105 rfl ?_
        obtain ⟨b3, h⟩ := h
        refine ps_iast (pc' := 108) rfl dX3_fillEnds_107 hc2 b3 ?_
        refine pw_iinc (pc' := 111) (lv' := [(0, .ref 124), (2, .ref c2), (3, .int a3), (4, .int a4), (5, .int a5), (6, .int a6), (7, .int (a7 + (nI 1)))]) 6 [1, 2, 3, 4, 5, 6, 0] rfl dX3_fillEnds_108 rfl (ii_1 _) (by decide) rfl ?_
        refine pw_goto (tgt := 75) dX3_fillEnds_111 (by decide) ?_
        exact pw_sub [0, 1, 2, 3, 4, 5, 6] rfl h
theorem T_X3_makeBest {M : Mem} {a1 : Int32} {Q : Mem → Prop}  (h : C_X3_leastWith M a1 (fun r0 M0 => P_X3_makeBest_22 M0 r0 (M0 124 11) ((M0 30 3) - (nI 1)) Q)) : C_X3_makeBest M a1 Q := by
  refine CA_of rfl (Nat.le_of_ble_eq_true rfl) ?_
  show PS _ _ 0 [(0, .ref 124), (1, .int a1)] [] M _
  refine pw_aload_n (pc' := 1) 0 rfl dX3_makeBest_0 rfl rfl ?_
  refine pw_iload_n (pc' := 2) 1 rfl dX3_makeBest_1 rfl rfl ?_
  refine ps_callVI (pc' := 5) (As := [.int a1]) (rest := []) (cT := (RX3, TX3, 12)) 1 rfl dX3_makeBest_2 cv_X3_leastWith ml_X3_163 (by decide) rfl rfl (by decide) (Nat.le_of_ble_eq_true rfl) ob_124 rfl rfl (CA.monoI h ?_)
  intro r0 M0 h
  refine pw_istore_n (pc' := 6) (lv' := [(0, .ref 124), (1, .int a1), (2, .int r0)]) [1, 2, 0] rfl dX3_makeBest_5 rfl (by decide) rfl ?_
  refine pw_aload_n (pc' := 7) 0 rfl dX3_makeBest_6 rfl rfl ?_
  refine ps_getI (pc' := 10) (v := (M0 124 11)) rfl dX3_makeBest_7 fl_X3_160 ob_124 rfl rfl ?_
  refine pw_istore_n (pc' := 11) (lv' := [(0, .ref 124), (1, .int a1), (2, .int r0), (3, .int (M0 124 11))]) [1, 2, 3, 0] rfl dX3_makeBest_10 rfl (by decide) rfl ?_
  refine pw_aload_n (pc' := 12) 0 rfl dX3_makeBest_11 rfl rfl ?_
  refine ps_getR (pc' := 15) (r := 30) rfl dX3_makeBest_12 fl_X3_43 ob_124 rfl rfl ?_
  refine ps_getI (pc' := 18) (v := (M0 30 3)) rfl dX3_makeBest_15 fl_X3_129 ob_30 rfl rfl ?_
  refine pw_iconst (pc' := 19) rfl dX3_makeBest_18 ci_1 ?_
  refine pw_isub (pc' := 20) rfl dX3_makeBest_19 ?_
  refine pw_istore (pc' := 22) (lv' := [(0, .ref 124), (1, .int a1), (2, .int r0), (3, .int (M0 124 11)), (4, .int ((M0 30 3) - (nI 1)))]) [1, 2, 3, 4, 0] rfl dX3_makeBest_20 (by decide) rfl ?_
  exact pw_sub [0, 2, 3, 4] rfl h
theorem T_X3_makeBest_22 {M : Mem} {a2 : Int32} {a3 : Int32} {a4 : Int32} {Q : Mem → Prop}  (h : ((a4 < 0) → (C_X3_firstOrder M 126 (fun M1 => P_X3_makeBest_64 M1 a2 (nI 0) Q))) ∧ ((¬ a4 < 0) → (vp_in a4 5 ∧ (P_X3_makeBest_22 (wr M 127 (ix a4) (a3 - a3 / (nI 3) * (nI 3))) a2 (a3 / (nI 3)) (a4 + (-1)) Q)))) : P_X3_makeBest_22 M a2 a3 a4 Q := by
  refine pw_iload (pc' := 24) 3 rfl dX3_makeBest_22 rfl ?_
  refine pw_if_lt (pc' := 27) (tgt := 50) rfl dX3_makeBest_24 (by decide) (fun q0 => ?_) (fun q0 => ?_)
  · have h := h.1 q0
    refine pw_aload_n (pc' := 51) 0 rfl dX3_makeBest_50 rfl rfl ?_
    refine pw_aload_n (pc' := 52) 0 rfl dX3_makeBest_51 rfl rfl ?_
    refine ps_getR (pc' := 55) (r := 125) rfl dX3_makeBest_52 fl_X3_12 ob_124 rfl rfl ?_
    refine ps_getR (pc' := 58) (r := 126) rfl dX3_makeBest_55 fl_X3_137 ob_125 rfl rfl ?_
    refine ps_callVV (pc' := 61) (As := [.ref 126]) (rest := []) (cT := (RX3, TX3, 12)) 1 rfl dX3_makeBest_58 cv_X3_firstOrder ml_X3_140 (by decide) rfl rfl (by decide) (Nat.le_of_ble_eq_true rfl) ob_124 rfl rfl (CA.monoV h ?_)
    intro M1 h
    refine pw_iconst (pc' := 62) rfl dX3_makeBest_61 ci_0 ?_
    refine pw_istore (pc' := 64) (lv' := [(0, .ref 124), (2, .int a2), (3, .int a3), (4, .int (nI 0))]) [1, 2, 3, 0] rfl dX3_makeBest_62 (by decide) rfl ?_
    exact pw_sub [0, 1, 3] rfl h
  · have h := h.2 q0
    refine pw_aload_n (pc' := 28) 0 rfl dX3_makeBest_27 rfl rfl ?_
    refine ps_getR (pc' := 31) (r := 125) rfl dX3_makeBest_28 fl_X3_12 ob_124 rfl rfl ?_
    refine ps_getR (pc' := 34) (r := 127) rfl dX3_makeBest_31 fl_X3_167 ob_125 rfl rfl ?_
    refine pw_iload (pc' := 36) 3 rfl dX3_makeBest_34 rfl ?_
    refine pw_iload_n (pc' := 37) 2 rfl dX3_makeBest_36 rfl rfl ?_
    refine pw_iconst (pc' := 38) rfl dX3_makeBest_37 ci_3 ?_
    refine pw_irem (pc' := 39) rfl dX3_makeBest_38 (by decide) ?_
    obtain ⟨b1, h⟩ := h
    refine ps_iast (pc' := 40) rfl dX3_makeBest_39 ia_127 b1 ?_
    refine pw_iload_n (pc' := 41) 2 rfl dX3_makeBest_40 rfl rfl ?_
    refine pw_iconst (pc' := 42) rfl dX3_makeBest_41 ci_3 ?_
    refine pw_idiv (pc' := 43) rfl dX3_makeBest_42 (by decide) ?_
    refine pw_istore_n (pc' := 44) (lv' := [(0, .ref 124), (2, .int a2), (3, .int (a3 / (nI 3))), (4, .int a4)]) [1, 2, 0, 3] rfl dX3_makeBest_43 rfl (by decide) rfl ?_
    refine pw_iinc (pc' := 47) (lv' := [(0, .ref 124), (2, .int a2), (3, .int (a3 / (nI 3))), (4, .int (a4 + (-1)))]) 3 [1, 2, 3, 0] rfl dX3_makeBest_44 rfl (ii_m1 _) (by decide) rfl ?_
    refine pw_goto (tgt := 22) dX3_makeBest_47 (by decide) ?_
    exact pw_sub [0, 1, 2, 3] rfl h
theorem T_X3_makeBest_64 {M : Mem} {a2 : Int32} {a4 : Int32} {Q : Mem → Prop}  (h : (((nI 120) ≤ a4) → (Q M)) ∧ ((¬ (nI 120) ≤ a4) → (C_X3_follow_125 M (fun M1 => (((M1 125 0) = a2) → (Q M1)) ∧ ((¬ (M1 125 0) = a2) → (C_X3_nextOrder M1 126 (fun r3 M3 => ((¬ r3 = 0) → (P_X3_makeBest_64 M3 a2 (a4 + (nI 1)) Q)) ∧ ((r3 = 0) → (Q M3))))))))) : P_X3_makeBest_64 M a2 a4 Q := by
  refine pw_iload (pc' := 66) 2 rfl dX3_makeBest_64 rfl ?_
  refine pw_bipush (pc' := 68) rfl dX3_makeBest_66 cb_120 ?_
  refine pw_icmp_ge (pc' := 71) (tgt := 111) rfl dX3_makeBest_68 (by decide) (fun q0 => ?_) (fun q0 => ?_)
  · have h := h.1 q0
    exact ps_vret dX3_makeBest_111 rfl h
  · have h := h.2 q0
    refine pw_aload_n (pc' := 72) 0 rfl dX3_makeBest_71 rfl rfl ?_
    refine pw_aload_n (pc' := 73) 0 rfl dX3_makeBest_72 rfl rfl ?_
    refine ps_getR (pc' := 76) (r := 125) rfl dX3_makeBest_73 fl_X3_12 ob_124 rfl rfl ?_
    refine ps_callVV (pc' := 79) (As := [.ref 125]) (rest := []) (cT := (RX3, TX3, 12)) 1 rfl dX3_makeBest_76 cv_X3_follow ml_X3_170 (by decide) rfl rfl (by decide) (Nat.le_of_ble_eq_true rfl) ob_124 rfl rfl (CA.monoV h ?_)
    intro M1 h
    refine pw_aload_n (pc' := 80) 0 rfl dX3_makeBest_79 rfl rfl ?_
    refine ps_getR (pc' := 83) (r := 125) rfl dX3_makeBest_80 fl_X3_12 ob_124 rfl rfl ?_
    refine ps_getI (pc' := 86) (v := (M1 125 0)) rfl dX3_makeBest_83 fl_X3_174 ob_125 rfl rfl ?_
    refine pw_iload_n (pc' := 87) 1 rfl dX3_makeBest_86 rfl rfl ?_
    refine pw_icmp_eq (pc' := 90) (tgt := 104) rfl dX3_makeBest_87 (by decide) (fun q2 => ?_) (fun q2 => ?_)
    · have h := h.1 q2
      exact ps_vret dX3_makeBest_104 rfl h
    · have h := h.2 q2
      refine pw_aload_n (pc' := 91) 0 rfl dX3_makeBest_90 rfl rfl ?_
      refine pw_aload_n (pc' := 92) 0 rfl dX3_makeBest_91 rfl rfl ?_
      refine ps_getR (pc' := 95) (r := 125) rfl dX3_makeBest_92 fl_X3_12 ob_124 rfl rfl ?_
      refine ps_getR (pc' := 98) (r := 126) rfl dX3_makeBest_95 fl_X3_137 ob_125 rfl rfl ?_
      refine ps_callVI (pc' := 101) (As := [.ref 126]) (rest := []) (cT := (RX3, TX3, 12)) 1 rfl dX3_makeBest_98 cv_X3_nextOrder ml_X3_153 (by decide) rfl rfl (by decide) (Nat.le_of_ble_eq_true rfl) ob_124 rfl rfl (CA.monoI h ?_)
      intro r3 M3 h
      refine pw_if_ne (pc' := 104) (tgt := 105) rfl dX3_makeBest_101 (by decide) (fun q4 => ?_) (fun q4 => ?_)
      · have h := h.1 q4
        refine pw_iinc (pc' := 108) (lv' := [(0, .ref 124), (2, .int a2), (4, .int (a4 + (nI 1)))]) 2 [1, 2, 0] rfl dX3_makeBest_105 rfl (ii_1 _) (by decide) rfl ?_
        refine pw_goto (tgt := 64) dX3_makeBest_108 (by decide) ?_
        exact pw_sub [0, 1, 2] rfl h
      · have h := h.2 q4
        exact ps_vret dX3_makeBest_104 rfl h
theorem T_X3_leastWith {M : Mem} {a1 : Int32} {Q : Int32 → Mem → Prop}  (h : P_X3_leastWith_4 M a1 (nI 1) (nI 0) Q) : C_X3_leastWith M a1 Q := by
  refine CA_of rfl (Nat.le_of_ble_eq_true rfl) ?_
  show PS _ _ 0 [(0, .ref 124), (1, .int a1)] [] M _
  refine pw_iconst (pc' := 1) rfl dX3_leastWith_0 ci_1 ?_
  refine pw_istore_n (pc' := 2) (lv' := [(0, .ref 124), (1, .int a1), (2, .int (nI 1))]) [1, 2, 0] rfl dX3_leastWith_1 rfl (by decide) rfl ?_
  refine pw_iconst (pc' := 3) rfl dX3_leastWith_2 ci_0 ?_
  refine pw_istore_n (pc' := 4) (lv' := [(0, .ref 124), (1, .int a1), (2, .int (nI 1)), (3, .int (nI 0))]) [1, 2, 3, 0] rfl dX3_leastWith_3 rfl (by decide) rfl ?_
  exact pw_sub [0, 1, 2, 3] rfl h
theorem T_X3_leastWith_4 {M : Mem} {a1 : Int32} {a2 : Int32} {a3 : Int32} {Q : Int32 → Mem → Prop}  (h : (((M 30 3) ≤ a3) → (P_X3_leastWith_31 M a1 a2 (1000000 : Int32) (nI 0) Q)) ∧ ((¬ (M 30 3) ≤ a3) → (P_X3_leastWith_4 M a1 (a2 * (nI 3)) (a3 + (nI 1)) Q))) : P_X3_leastWith_4 M a1 a2 a3 Q := by
  refine pw_iload_n (pc' := 5) 3 rfl dX3_leastWith_4 rfl rfl ?_
  refine pw_aload_n (pc' := 6) 0 rfl dX3_leastWith_5 rfl rfl ?_
  refine ps_getR (pc' := 9) (r := 30) rfl dX3_leastWith_6 fl_X3_43 ob_124 rfl rfl ?_
  refine ps_getI (pc' := 12) (v := (M 30 3)) rfl dX3_leastWith_9 fl_X3_129 ob_30 rfl rfl ?_
  refine pw_icmp_ge (pc' := 15) (tgt := 25) rfl dX3_leastWith_12 (by decide) (fun q0 => ?_) (fun q0 => ?_)
  · have h := h.1 q0
    refine pw_ldc (pc' := 27) rfl dX3_leastWith_25 cn_X3_136 ?_
    refine pw_istore_n (pc' := 28) (lv' := [(0, .ref 124), (1, .int a1), (2, .int a2), (3, .int (1000000 : Int32))]) [1, 2, 3, 0] rfl dX3_leastWith_27 rfl (by decide) rfl ?_
    refine pw_iconst (pc' := 29) rfl dX3_leastWith_28 ci_0 ?_
    refine pw_istore (pc' := 31) (lv' := [(0, .ref 124), (1, .int a1), (2, .int a2), (3, .int (1000000 : Int32)), (4, .int (nI 0))]) [1, 2, 3, 4, 0] rfl dX3_leastWith_29 (by decide) rfl ?_
    exact pw_sub [0, 1, 2, 3, 4] rfl h
  · have h := h.2 q0
    refine pw_iload_n (pc' := 16) 2 rfl dX3_leastWith_15 rfl rfl ?_
    refine pw_iconst (pc' := 17) rfl dX3_leastWith_16 ci_3 ?_
    refine pw_imul (pc' := 18) rfl dX3_leastWith_17 ?_
    refine pw_istore_n (pc' := 19) (lv' := [(0, .ref 124), (1, .int a1), (2, .int (a2 * (nI 3))), (3, .int a3)]) [1, 2, 0, 3] rfl dX3_leastWith_18 rfl (by decide) rfl ?_
    refine pw_iinc (pc' := 22) (lv' := [(0, .ref 124), (1, .int a1), (2, .int (a2 * (nI 3))), (3, .int (a3 + (nI 1)))]) 3 [1, 2, 3, 0] rfl dX3_leastWith_19 rfl (ii_1 _) (by decide) rfl ?_
    refine pw_goto (tgt := 4) dX3_leastWith_22 (by decide) ?_
    exact pw_sub [0, 1, 2, 3] rfl h
theorem T_X3_leastWith_31 {M : Mem} {a1 : Int32} {a2 : Int32} {a3 : Int32} {a4 : Int32} {Q : Int32 → Mem → Prop}  (h : ((a2 ≤ a4) → (Q a3 M)) ∧ ((¬ a2 ≤ a4) → (C_X3_costOf M a4 a1 (fun r1 M1 => ((a3 ≤ r1) → (P_X3_leastWith_31 M1 a1 a2 a3 (a4 + (nI 1)) Q)) ∧ ((¬ a3 ≤ r1) → (P_X3_leastWith_31 (wr M1 124 11 a4) a1 a2 r1 (a4 + (nI 1)) Q)))))) : P_X3_leastWith_31 M a1 a2 a3 a4 Q := by
  refine pw_iload (pc' := 33) 4 rfl dX3_leastWith_31 rfl ?_
  refine pw_iload_n (pc' := 34) 2 rfl dX3_leastWith_33 rfl rfl ?_
  refine pw_icmp_ge (pc' := 37) (tgt := 67) rfl dX3_leastWith_34 (by decide) (fun q0 => ?_) (fun q0 => ?_)
  · have h := h.1 q0
    refine pw_iload_n (pc' := 68) 3 rfl dX3_leastWith_67 rfl rfl ?_
    exact ps_iret dX3_leastWith_68 rfl h
  · have h := h.2 q0
    refine pw_aload_n (pc' := 38) 0 rfl dX3_leastWith_37 rfl rfl ?_
    refine pw_iload (pc' := 40) 4 rfl dX3_leastWith_38 rfl ?_
    refine pw_iload_n (pc' := 41) 1 rfl dX3_leastWith_40 rfl rfl ?_
    refine ps_callVI (pc' := 44) (As := [.int a4, .int a1]) (rest := []) (cT := (RX3, TX3, 12)) 2 rfl dX3_leastWith_41 cv_X3_costOf ml_X3_157 (by decide) rfl rfl (by decide) (Nat.le_of_ble_eq_true rfl) ob_124 rfl rfl (CA.monoI h ?_)
    intro r1 M1 h
    refine pw_istore (pc' := 46) (lv' := [(0, .ref 124), (1, .int a1), (2, .int a2), (3, .int a3), (4, .int a4), (5, .int r1)]) [1, 2, 3, 4, 5, 0] rfl dX3_leastWith_44 (by decide) rfl ?_
    refine pw_iload (pc' := 48) 5 rfl dX3_leastWith_46 rfl ?_
    refine pw_iload_n (pc' := 49) 3 rfl dX3_leastWith_48 rfl rfl ?_
    refine pw_icmp_ge (pc' := 52) (tgt := 61) rfl dX3_leastWith_49 (by decide) (fun q2 => ?_) (fun q2 => ?_)
    · have h := h.1 q2
      refine pw_iinc (pc' := 64) (lv' := [(0, .ref 124), (1, .int a1), (2, .int a2), (3, .int a3), (4, .int (a4 + (nI 1))), (5, .int r1)]) 4 [1, 2, 3, 4, 0, 5] rfl dX3_leastWith_61 rfl (ii_1 _) (by decide) rfl ?_
      refine pw_goto (tgt := 31) dX3_leastWith_64 (by decide) ?_
      exact pw_sub [0, 1, 2, 3, 4] rfl h
    · have h := h.2 q2
      refine pw_iload (pc' := 54) 5 rfl dX3_leastWith_52 rfl ?_
      refine pw_istore_n (pc' := 55) (lv' := [(0, .ref 124), (1, .int a1), (2, .int a2), (3, .int r1), (4, .int a4), (5, .int r1)]) [1, 2, 3, 0, 4, 5] rfl dX3_leastWith_54 rfl (by decide) rfl ?_
      refine pw_aload_n (pc' := 56) 0 rfl dX3_leastWith_55 rfl rfl ?_
      refine pw_iload (pc' := 58) 4 rfl dX3_leastWith_56 rfl ?_
      refine ps_putI (pc' := 61) rfl dX3_leastWith_58 fl_X3_160 ob_124 rfl ?_
      refine pw_iinc (pc' := 64) (lv' := [(0, .ref 124), (1, .int a1), (2, .int a2), (3, .int r1), (4, .int (a4 + (nI 1))), (5, .int r1)]) 4 [1, 2, 3, 4, 0, 5] rfl dX3_leastWith_61 rfl (ii_1 _) (by decide) rfl ?_
      refine pw_goto (tgt := 31) dX3_leastWith_64 (by decide) ?_
      exact pw_sub [0, 1, 2, 3, 4] rfl h
theorem T_X3_costOf {M : Mem} {a1 : Int32} {a2 : Int32} {Q : Int32 → Mem → Prop}  (h : C_J7_fill_53178 M 164 (nI 0) (fun M0 => P_X3_costOf_21 M0 a2 a1 ((M0 30 3) - (nI 1)) Q)) : C_X3_costOf M a1 a2 Q := by
  refine CA_of rfl (Nat.le_of_ble_eq_true rfl) ?_
  show PS _ _ 0 [(0, .ref 124), (1, .int a1), (2, .int a2)] [] M _
  refine pw_aload_n (pc' := 1) 0 rfl dX3_costOf_0 rfl rfl ?_
  refine ps_getR (pc' := 4) (r := 164) rfl dX3_costOf_1 fl_X3_29 ob_124 rfl rfl ?_
  refine pw_iconst (pc' := 5) rfl dX3_costOf_4 ci_0 ?_
  refine ps_callSV (pc' := 8) (As := [.ref 164, .int (nI 0)]) (rest := []) 2 rfl dX3_costOf_5 cs_J7_fill_53178 ml_X3_83 (by decide) rfl rfl (by decide) (Nat.le_of_ble_eq_true rfl) (CA.monoV h ?_)
  intro M0 h
  refine pw_iload_n (pc' := 9) 1 rfl dX3_costOf_8 rfl rfl ?_
  refine pw_istore_n (pc' := 10) (lv' := [(0, .ref 124), (1, .int a1), (2, .int a2), (3, .int a1)]) [1, 2, 3, 0] rfl dX3_costOf_9 rfl (by decide) rfl ?_
  refine pw_aload_n (pc' := 11) 0 rfl dX3_costOf_10 rfl rfl ?_
  refine ps_getR (pc' := 14) (r := 30) rfl dX3_costOf_11 fl_X3_43 ob_124 rfl rfl ?_
  refine ps_getI (pc' := 17) (v := (M0 30 3)) rfl dX3_costOf_14 fl_X3_129 ob_30 rfl rfl ?_
  refine pw_iconst (pc' := 18) rfl dX3_costOf_17 ci_1 ?_
  refine pw_isub (pc' := 19) rfl dX3_costOf_18 ?_
  refine pw_istore (pc' := 21) (lv' := [(0, .ref 124), (1, .int a1), (2, .int a2), (3, .int a1), (4, .int ((M0 30 3) - (nI 1)))]) [1, 2, 3, 4, 0] rfl dX3_costOf_19 (by decide) rfl ?_
  exact pw_sub [0, 2, 3, 4] rfl h
theorem T_X3_costOf_21 {M : Mem} {a2 : Int32} {a3 : Int32} {a4 : Int32} {Q : Int32 → Mem → Prop}  (h : ((a4 < 0) → (P_X3_costOf_73 M (nI 0) (nI 0) Q)) ∧ ((¬ a4 < 0) → (((¬ ((a2 >>> ((a3 - a3 / (nI 3) * (nI 3)) &&& 31)) &&& (nI 1)) = 0) → (vp_in (a3 - a3 / (nI 3) * (nI 3)) 3 ∧ (P_X3_costOf_21 (wr M 164 (ix (a3 - a3 / (nI 3) * (nI 3))) ((M 164 (ix (a3 - a3 / (nI 3) * (nI 3)))) ||| ((nI 1) <<< (a4 &&& 31)))) a2 (a3 / (nI 3)) (a4 + (-1)) Q))) ∧ ((((a2 >>> ((a3 - a3 / (nI 3) * (nI 3)) &&& 31)) &&& (nI 1)) = 0) → (Q (1000000 : Int32) M))))) : P_X3_costOf_21 M a2 a3 a4 Q := by
  refine pw_iload (pc' := 23) 3 rfl dX3_costOf_21 rfl ?_
  refine pw_if_lt (pc' := 26) (tgt := 67) rfl dX3_costOf_23 (by decide) (fun q0 => ?_) (fun q0 => ?_)
  · have h := h.1 q0
    refine pw_iconst (pc' := 68) rfl dX3_costOf_67 ci_0 ?_
    refine pw_istore (pc' := 70) (lv' := [(0, .ref 124), (2, .int a2), (3, .int a3), (4, .int (nI 0))]) [1, 2, 3, 0] rfl dX3_costOf_68 (by decide) rfl ?_
    refine pw_iconst (pc' := 71) rfl dX3_costOf_70 ci_0 ?_
    refine pw_istore (pc' := 73) (lv' := [(0, .ref 124), (2, .int a2), (3, .int a3), (4, .int (nI 0)), (5, .int (nI 0))]) [1, 2, 3, 4, 0] rfl dX3_costOf_71 (by decide) rfl ?_
    exact pw_sub [0, 3, 4] rfl h
  · have h := h.2 q0
    refine pw_iload_n (pc' := 27) 2 rfl dX3_costOf_26 rfl rfl ?_
    refine pw_iconst (pc' := 28) rfl dX3_costOf_27 ci_3 ?_
    refine pw_irem (pc' := 29) rfl dX3_costOf_28 (by decide) ?_
    refine pw_istore (pc' := 31) (lv' := [(0, .ref 124), (2, .int a2), (3, .int a3), (4, .int a4), (5, .int (a3 - a3 / (nI 3) * (nI 3)))]) [1, 2, 3, 4, 0] rfl dX3_costOf_29 (by decide) rfl ?_
    refine pw_iload_n (pc' := 32) 1 rfl dX3_costOf_31 rfl rfl ?_
    refine pw_iload (pc' := 34) 4 rfl dX3_costOf_32 rfl ?_
    refine pw_ishr (pc' := 35) rfl dX3_costOf_34 ?_
    refine pw_iconst (pc' := 36) rfl dX3_costOf_35 ci_1 ?_
    refine pw_iand (pc' := 37) rfl dX3_costOf_36 ?_
    refine pw_if_ne (pc' := 40) (tgt := 43) rfl dX3_costOf_37 (by decide) (fun q1 => ?_) (fun q1 => ?_)
    · have h := h.1 q1
      refine pw_aload_n (pc' := 44) 0 rfl dX3_costOf_43 rfl rfl ?_
      refine ps_getR (pc' := 47) (r := 164) rfl dX3_costOf_44 fl_X3_29 ob_124 rfl rfl ?_
      refine pw_iload (pc' := 49) 4 rfl dX3_costOf_47 rfl ?_
      refine pw_dup2 (pc' := 50) rfl dX3_costOf_49 rfl rfl ?_
      obtain ⟨b2, h⟩ := h
      refine ps_iald (pc' := 51) (v := (M 164 (ix (a3 - a3 / (nI 3) * (nI 3))))) rfl dX3_costOf_50 ia_164 b2 rfl ?_
      refine pw_iconst (pc' := 52) rfl dX3_costOf_51 ci_1 ?_
      refine pw_iload (pc' := 54) 3 rfl dX3_costOf_52 rfl ?_
      refine pw_ishl (pc' := 55) rfl dX3_costOf_54 ?_
      refine pw_ior (pc' := 56) rfl dX3_costOf_55 ?_
      refine ps_iast (pc' := 57) rfl dX3_costOf_56 ia_164 b2 ?_
      refine pw_iload_n (pc' := 58) 2 rfl dX3_costOf_57 rfl rfl ?_
      refine pw_iconst (pc' := 59) rfl dX3_costOf_58 ci_3 ?_
      refine pw_idiv (pc' := 60) rfl dX3_costOf_59 (by decide) ?_
      refine pw_istore_n (pc' := 61) (lv' := [(0, .ref 124), (2, .int a2), (3, .int (a3 / (nI 3))), (4, .int a4), (5, .int (a3 - a3 / (nI 3) * (nI 3)))]) [1, 2, 0, 3, 4] rfl dX3_costOf_60 rfl (by decide) rfl ?_
      refine pw_iinc (pc' := 64) (lv' := [(0, .ref 124), (2, .int a2), (3, .int (a3 / (nI 3))), (4, .int (a4 + (-1))), (5, .int (a3 - a3 / (nI 3) * (nI 3)))]) 3 [1, 2, 3, 0, 4] rfl dX3_costOf_61 rfl (ii_m1 _) (by decide) rfl ?_
      refine pw_goto (tgt := 21) dX3_costOf_64 (by decide) ?_
      exact pw_sub [0, 1, 2, 3] rfl h
    · have h := h.2 q1
      refine pw_ldc (pc' := 42) rfl dX3_costOf_40 cn_X3_136 ?_
      exact ps_iret dX3_costOf_42 rfl h
theorem T_X3_costOf_73 {M : Mem} {a4 : Int32} {a5 : Int32} {Q : Int32 → Mem → Prop}  (h : (((M 30 0) ≤ a5) → (Q a4 M)) ∧ ((¬ (M 30 0) ≤ a5) → (vp_in a5 3 ∧ ((((M 164 (ix a5)) = 0) → (P_X3_costOf_73 M a4 (a5 + (nI 1)) Q)) ∧ ((¬ (M 164 (ix a5)) = 0) → (vp_in (M 164 (ix a5)) 32 ∧ (P_X3_costOf_73 M (a4 + (M (160 + 1 + ix a5) (ix (M 164 (ix a5))))) (a5 + (nI 1)) Q))))))) : P_X3_costOf_73 M a4 a5 Q := by
  refine pw_iload (pc' := 75) 2 rfl dX3_costOf_73 rfl ?_
  refine pw_aload_n (pc' := 76) 0 rfl dX3_costOf_75 rfl rfl ?_
  refine ps_getR (pc' := 79) (r := 30) rfl dX3_costOf_76 fl_X3_43 ob_124 rfl rfl ?_
  refine ps_getI (pc' := 82) (v := (M 30 0)) rfl dX3_costOf_79 fl_X3_70 ob_30 rfl rfl ?_
  refine pw_icmp_ge (pc' := 85) (tgt := 121) rfl dX3_costOf_82 (by decide) (fun q0 => ?_) (fun q0 => ?_)
  · have h := h.1 q0
    refine pw_iload (pc' := 123) 1 rfl dX3_costOf_121 rfl ?_
    exact ps_iret dX3_costOf_123 rfl h
  · have h := h.2 q0
    refine pw_aload_n (pc' := 86) 0 rfl dX3_costOf_85 rfl rfl ?_
    refine ps_getR (pc' := 89) (r := 164) rfl dX3_costOf_86 fl_X3_29 ob_124 rfl rfl ?_
    refine pw_iload (pc' := 91) 2 rfl dX3_costOf_89 rfl ?_
    obtain ⟨b1, h⟩ := h
    refine ps_iald (pc' := 92) (v := (M 164 (ix a5))) rfl dX3_costOf_91 ia_164 b1 rfl ?_
    refine pw_if_eq (pc' := 95) (tgt := 115) rfl dX3_costOf_92 (by decide) (fun q2 => ?_) (fun q2 => ?_)
    · have h := h.1 q2
      refine pw_iinc (pc' := 118) (lv' := [(0, .ref 124), (4, .int a4), (5, .int (a5 + (nI 1)))]) 2 [1, 2, 0] rfl dX3_costOf_115 rfl (ii_1 _) (by decide) rfl ?_
      refine pw_goto (tgt := 73) dX3_costOf_118 (by decide) ?_
      exact pw_sub [0, 1, 2] rfl h
    · have h := h.2 q2
      refine pw_iload (pc' := 97) 1 rfl dX3_costOf_95 rfl ?_
      refine pw_aload_n (pc' := 98) 0 rfl dX3_costOf_97 rfl rfl ?_
      refine ps_getR (pc' := 101) (r := 160) rfl dX3_costOf_98 fl_X3_26 ob_124 rfl rfl ?_
      refine pw_iload (pc' := 103) 2 rfl dX3_costOf_101 rfl ?_
      refine ps_aald (pc' := 104) rfl dX3_costOf_103 ra_160 b1 ?_
      refine pw_aload_n (pc' := 105) 0 rfl dX3_costOf_104 rfl rfl ?_
      refine ps_getR (pc' := 108) (r := 164) rfl dX3_costOf_105 fl_X3_29 ob_124 rfl rfl ?_
      refine pw_iload (pc' := 110) 2 rfl dX3_costOf_108 rfl ?_
      refine ps_iald (pc' := 111) (v := (M 164 (ix a5))) rfl dX3_costOf_110 ia_164 b1 rfl ?_
      obtain ⟨b5, h⟩ := h
      refine ps_iald (pc' := 112) (v := (M (160 + 1 + ix a5) (ix (M 164 (ix a5))))) rfl dX3_costOf_111 (RA.row ra_160 b1) b5 rfl ?_
      refine pw_iadd (pc' := 113) rfl dX3_costOf_112 ?_
      refine pw_istore (pc' := 115) (lv' := [(0, .ref 124), (4, .int (a4 + (M (160 + 1 + ix a5) (ix (M 164 (ix a5)))))), (5, .int a5)]) [1, 0, 2] rfl dX3_costOf_113 (by decide) rfl ?_
      refine pw_iinc (pc' := 118) (lv' := [(0, .ref 124), (4, .int (a4 + (M (160 + 1 + ix a5) (ix (M 164 (ix a5)))))), (5, .int (a5 + (nI 1)))]) 2 [1, 2, 0] rfl dX3_costOf_115 rfl (ii_1 _) (by decide) rfl ?_
      refine pw_goto (tgt := 73) dX3_costOf_118 (by decide) ?_
      exact pw_sub [0, 1, 2] rfl h
theorem T_X3_firstOrder {M : Mem} {c1 : Nat} {n1 : Nat} {Q : Mem → Prop} (hc1 : IA c1 n1) (h : P_X3_firstOrder_2 M c1 (nI 0) Q) : C_X3_firstOrder M c1 Q := by
  refine CA_of rfl (Nat.le_of_ble_eq_true rfl) ?_
  show PS _ _ 0 [(0, .ref 124), (1, .ref c1)] [] M _
  refine pw_iconst (pc' := 1) rfl dX3_firstOrder_0 ci_0 ?_
  refine pw_istore_n (pc' := 2) (lv' := [(0, .ref 124), (1, .ref c1), (2, .int (nI 0))]) [1, 2, 0] rfl dX3_firstOrder_1 rfl (by decide) rfl ?_
  exact pw_sub [1, 2] rfl h
theorem T_X3_firstOrder_2 {M : Mem} {c1 : Nat} {a2 : Int32} {n1 : Nat} {Q : Mem → Prop} (hc1 : IA c1 n1) (h : (((nI 5) ≤ a2) → (Q M)) ∧ ((¬ (nI 5) ≤ a2) → (vp_in a2 n1 ∧ (P_X3_firstOrder_2 (wr M c1 (ix a2) a2) c1 (a2 + (nI 1)) Q)))) : P_X3_firstOrder_2 M c1 a2 Q := by
  refine pw_iload_n (pc' := 3) 1 rfl dX3_firstOrder_2 rfl rfl ?_
  refine pw_iconst (pc' := 4) rfl dX3_firstOrder_3 ci_5 ?_
  refine pw_icmp_ge (pc' := 7) (tgt := 17) rfl dX3_firstOrder_4 (by decide) (fun q0 => ?_) (fun q0 => ?_)
  · have h := h.1 q0
    exact ps_vret dX3_firstOrder_17 rfl h
  · have h := h.2 q0
    refine pw_aload_n (pc' := 8) 0 rfl dX3_firstOrder_7 rfl rfl ?_
    refine pw_iload_n (pc' := 9) 1 rfl dX3_firstOrder_8 rfl rfl ?_
    refine pw_iload_n (pc' := 10) 1 rfl dX3_firstOrder_9 rfl rfl ?_
    obtain ⟨b1, h⟩ := h
    refine ps_iast (pc' := 11) rfl dX3_firstOrder_10 hc1 b1 ?_
    refine pw_iinc (pc' := 14) (lv' := [(1, .ref c1), (2, .int (a2 + (nI 1)))]) 1 [1, 0] rfl dX3_firstOrder_11 rfl (ii_1 _) (by decide) rfl ?_
    refine pw_goto (tgt := 2) dX3_firstOrder_14 (by decide) ?_
    exact pw_sub [0, 1] rfl h
theorem T_X3_follow_125 {M : Mem}  {Q : Mem → Prop}  (h : C_X3_allHome M (fun M0 => P_X3_follow_125_11 (wr M0 125 0 (nI 0)) (nI 0) Q)) : C_X3_follow_125 M  Q := by
  refine CA_of rfl (Nat.le_of_ble_eq_true rfl) ?_
  show PS _ _ 0 [(0, .ref 124), (1, .ref 125)] [] M _
  refine pw_aload_n (pc' := 1) 0 rfl dX3_follow_0 rfl rfl ?_
  refine ps_callVV (pc' := 4) (As := []) (rest := []) (cT := (RX3, TX3, 12)) 0 rfl dX3_follow_1 cv_X3_allHome ml_X3_177 (by decide) rfl rfl (by decide) (Nat.le_of_ble_eq_true rfl) ob_124 rfl rfl (CA.monoV h ?_)
  intro M0 h
  refine pw_aload_n (pc' := 5) 1 rfl dX3_follow_4 rfl rfl ?_
  refine pw_iconst (pc' := 6) rfl dX3_follow_5 ci_0 ?_
  refine ps_putI (pc' := 9) rfl dX3_follow_6 fl_X3_174 ob_125 rfl ?_
  refine pw_iconst (pc' := 10) rfl dX3_follow_9 ci_0 ?_
  refine pw_istore_n (pc' := 11) (lv' := [(0, .ref 124), (1, .ref 125), (2, .int (nI 0))]) [1, 2, 0] rfl dX3_follow_10 rfl (by decide) rfl ?_
  exact pw_sub [0, 1, 2] rfl h
theorem T_X3_follow_125_11 {M : Mem} {a2 : Int32} {Q : Mem → Prop}  (h : (((M 30 3) ≤ a2) → (Q M)) ∧ ((¬ (M 30 3) ≤ a2) → (vp_in a2 5 ∧ (C_X3_carryOut_125 M (M 126 (ix a2)) (fun M2 => P_X3_follow_125_11 M2 (a2 + (nI 1)) Q))))) : P_X3_follow_125_11 M a2 Q := by
  refine pw_iload_n (pc' := 12) 2 rfl dX3_follow_11 rfl rfl ?_
  refine pw_aload_n (pc' := 13) 0 rfl dX3_follow_12 rfl rfl ?_
  refine ps_getR (pc' := 16) (r := 30) rfl dX3_follow_13 fl_X3_43 ob_124 rfl rfl ?_
  refine ps_getI (pc' := 19) (v := (M 30 3)) rfl dX3_follow_16 fl_X3_129 ob_30 rfl rfl ?_
  refine pw_icmp_ge (pc' := 22) (tgt := 39) rfl dX3_follow_19 (by decide) (fun q0 => ?_) (fun q0 => ?_)
  · have h := h.1 q0
    exact ps_vret dX3_follow_39 rfl h
  · have h := h.2 q0
    refine pw_aload_n (pc' := 23) 0 rfl dX3_follow_22 rfl rfl ?_
    refine pw_aload_n (pc' := 24) 1 rfl dX3_follow_23 rfl rfl ?_
    refine pw_aload_n (pc' := 25) 1 rfl dX3_follow_24 rfl rfl ?_
    refine ps_getR (pc' := 28) (r := 126) rfl dX3_follow_25 fl_X3_137 ob_125 rfl rfl ?_
    refine pw_iload_n (pc' := 29) 2 rfl dX3_follow_28 rfl rfl ?_
    obtain ⟨b1, h⟩ := h
    refine ps_iald (pc' := 30) (v := (M 126 (ix a2))) rfl dX3_follow_29 ia_126 b1 rfl ?_
    refine ps_callVV (pc' := 33) (As := [.ref 125, .int (M 126 (ix a2))]) (rest := []) (cT := (RX3, TX3, 12)) 2 rfl dX3_follow_30 cv_X3_carryOut ml_X3_180 (by decide) rfl rfl (by decide) (Nat.le_of_ble_eq_true rfl) ob_124 rfl rfl (CA.monoV h ?_)
    intro M2 h
    refine pw_iinc (pc' := 36) (lv' := [(0, .ref 124), (1, .ref 125), (2, .int (a2 + (nI 1)))]) 2 [1, 2, 0] rfl dX3_follow_33 rfl (ii_1 _) (by decide) rfl ?_
    refine pw_goto (tgt := 11) dX3_follow_36 (by decide) ?_
    exact pw_sub [0, 1, 2] rfl h
theorem T_X3_allHome {M : Mem}  {Q : Mem → Prop}  (h : P_X3_allHome_2 M (nI 0) Q) : C_X3_allHome M  Q := by
  refine CA_of rfl (Nat.le_of_ble_eq_true rfl) ?_
  show PS _ _ 0 [(0, .ref 124)] [] M _
  refine pw_iconst (pc' := 1) rfl dX3_allHome_0 ci_0 ?_
  refine pw_istore_n (pc' := 2) (lv' := [(0, .ref 124), (1, .int (nI 0))]) [1, 0] rfl dX3_allHome_1 rfl (by decide) rfl ?_
  exact pw_sub [0, 1] rfl h
theorem T_X3_allHome_2 {M : Mem} {a1 : Int32} {Q : Mem → Prop}  (h : (((M 30 0) ≤ a1) → (Q M)) ∧ ((¬ (M 30 0) ≤ a1) → (vp_in a1 3 ∧ (P_X3_allHome_2 (wr (wr M 165 (ix a1) (M 31 (ix a1))) 166 (ix a1) (nI 0)) (a1 + (nI 1)) Q)))) : P_X3_allHome_2 M a1 Q := by
  refine pw_iload_n (pc' := 3) 1 rfl dX3_allHome_2 rfl rfl ?_
  refine pw_aload_n (pc' := 4) 0 rfl dX3_allHome_3 rfl rfl ?_
  refine ps_getR (pc' := 7) (r := 30) rfl dX3_allHome_4 fl_X3_43 ob_124 rfl rfl ?_
  refine ps_getI (pc' := 10) (v := (M 30 0)) rfl dX3_allHome_7 fl_X3_70 ob_30 rfl rfl ?_
  refine pw_icmp_ge (pc' := 13) (tgt := 41) rfl dX3_allHome_10 (by decide) (fun q0 => ?_) (fun q0 => ?_)
  · have h := h.1 q0
    exact ps_vret dX3_allHome_41 rfl h
  · have h := h.2 q0
    refine pw_aload_n (pc' := 14) 0 rfl dX3_allHome_13 rfl rfl ?_
    refine ps_getR (pc' := 17) (r := 165) rfl dX3_allHome_14 fl_X3_33 ob_124 rfl rfl ?_
    refine pw_iload_n (pc' := 18) 1 rfl dX3_allHome_17 rfl rfl ?_
    refine pw_aload_n (pc' := 19) 0 rfl dX3_allHome_18 rfl rfl ?_
    refine ps_getR (pc' := 22) (r := 30) rfl dX3_allHome_19 fl_X3_43 ob_124 rfl rfl ?_
    refine ps_getR (pc' := 25) (r := 31) rfl dX3_allHome_22 fl_X3_144 ob_30 rfl rfl ?_
    refine pw_iload_n (pc' := 26) 1 rfl dX3_allHome_25 rfl rfl ?_
    obtain ⟨b1, h⟩ := h
    refine ps_iald (pc' := 27) (v := (M 31 (ix a1))) rfl dX3_allHome_26 ia_31 b1 rfl ?_
    refine ps_iast (pc' := 28) rfl dX3_allHome_27 ia_165 b1 ?_
    refine pw_aload_n (pc' := 29) 0 rfl dX3_allHome_28 rfl rfl ?_
    refine ps_getR (pc' := 32) (r := 166) rfl dX3_allHome_29 fl_X3_36 ob_124 rfl rfl ?_
    refine pw_iload_n (pc' := 33) 1 rfl dX3_allHome_32 rfl rfl ?_
    refine pw_iconst (pc' := 34) rfl dX3_allHome_33 ci_0 ?_
    refine ps_iast (pc' := 35) rfl dX3_allHome_34 ia_166 b1 ?_
    refine pw_iinc (pc' := 38) (lv' := [(0, .ref 124), (1, .int (a1 + (nI 1)))]) 1 [1, 0] rfl dX3_allHome_35 rfl (ii_1 _) (by decide) rfl ?_
    refine pw_goto (tgt := 2) dX3_allHome_38 (by decide) ?_
    exact pw_sub [0, 1] rfl h
theorem T_X3_carryOut_125 {M : Mem} {a2 : Int32} {Q : Mem → Prop}  (h : vp_in a2 5 ∧ (vp_in (M 127 (ix a2)) 3 ∧ (C_X3_doneAt M a2 (M 165 (ix (M 127 (ix a2)))) (M 166 (ix (M 127 (ix a2)))) (fun r3 M3 => ((¬ ((wr M3 128 (ix a2) r3) 128 (ix a2)) = (nI 24)) → (C_X3_takenAt (wr M3 128 (ix a2) r3) a2 (M3 165 (ix (M 127 (ix a2)))) (M3 166 (ix (M 127 (ix a2)))) (fun r9 M9 => C_X5_weight_30 (wr M9 129 (ix a2) r9) a2 (M9 128 (ix a2)) (fun r12 M12 => Q (wr (wr (wr M12 125 0 ((M9 125 0) + r12)) 165 (ix (M 127 (ix a2))) (M12 33 (ix a2))) 166 (ix (M 127 (ix a2))) (M12 128 (ix a2))))))) ∧ ((((wr M3 128 (ix a2) r3) 128 (ix a2)) = (nI 24)) → (C_X5_weight_30 (wr (wr M3 128 (ix a2) r3) 129 (ix a2) (nI 24)) a2 ((wr M3 128 (ix a2) r3) 128 (ix a2)) (fun r9 M9 => Q (wr (wr (wr M9 125 0 ((M3 125 0) + r9)) 165 (ix (M 127 (ix a2))) (M9 33 (ix a2))) 166 (ix (M 127 (ix a2))) (M9 128 (ix a2)))))))))) : C_X3_carryOut_125 M a2 Q := by
  refine CA_of rfl (Nat.le_of_ble_eq_true rfl) ?_
  show PS _ _ 0 [(0, .ref 124), (1, .ref 125), (2, .int a2)] [] M _
  refine pw_aload_n (pc' := 1) 1 rfl dX3_carryOut_0 rfl rfl ?_
  refine ps_getR (pc' := 4) (r := 127) rfl dX3_carryOut_1 fl_X3_167 ob_125 rfl rfl ?_
  refine pw_iload_n (pc' := 5) 2 rfl dX3_carryOut_4 rfl rfl ?_
  obtain ⟨b0, h⟩ := h
  refine ps_iald (pc' := 6) (v := (M 127 (ix a2))) rfl dX3_carryOut_5 ia_127 b0 rfl ?_
  refine pw_istore_n (pc' := 7) (lv' := [(0, .ref 124), (1, .ref 125), (2, .int a2), (3, .int (M 127 (ix a2)))]) [1, 2, 3, 0] rfl dX3_carryOut_6 rfl (by decide) rfl ?_
  refine pw_aload_n (pc' := 8) 1 rfl dX3_carryOut_7 rfl rfl ?_
  refine ps_getR (pc' := 11) (r := 128) rfl dX3_carryOut_8 fl_X3_184 ob_125 rfl rfl ?_
  refine pw_iload_n (pc' := 12) 2 rfl dX3_carryOut_11 rfl rfl ?_
  refine pw_aload_n (pc' := 13) 0 rfl dX3_carryOut_12 rfl rfl ?_
  refine pw_iload_n (pc' := 14) 2 rfl dX3_carryOut_13 rfl rfl ?_
  refine pw_aload_n (pc' := 15) 0 rfl dX3_carryOut_14 rfl rfl ?_
  refine ps_getR (pc' := 18) (r := 165) rfl dX3_carryOut_15 fl_X3_33 ob_124 rfl rfl ?_
  refine pw_iload_n (pc' := 19) 3 rfl dX3_carryOut_18 rfl rfl ?_
  obtain ⟨b1, h⟩ := h
  refine ps_iald (pc' := 20) (v := (M 165 (ix (M 127 (ix a2))))) rfl dX3_carryOut_19 ia_165 b1 rfl ?_
  refine pw_aload_n (pc' := 21) 0 rfl dX3_carryOut_20 rfl rfl ?_
  refine ps_getR (pc' := 24) (r := 166) rfl dX3_carryOut_21 fl_X3_36 ob_124 rfl rfl ?_
  refine pw_iload_n (pc' := 25) 3 rfl dX3_carryOut_24 rfl rfl ?_
  refine ps_iald (pc' := 26) (v := (M 166 (ix (M 127 (ix a2))))) rfl dX3_carryOut_25 ia_166 b1 rfl ?_
  refine ps_callVI (pc' := 29) (As := [.int a2, .int (M 165 (ix (M 127 (ix a2)))), .int (M 166 (ix (M 127 (ix a2))))]) (rest := [.int a2, .ref 128]) (cT := (RX3, TX3, 12)) 3 rfl dX3_carryOut_26 cv_X3_doneAt ml_X3_147 (by decide) rfl rfl (by decide) (Nat.le_of_ble_eq_true rfl) ob_124 rfl rfl (CA.monoI h ?_)
  intro r3 M3 h
  refine ps_iast (pc' := 30) rfl dX3_carryOut_29 ia_128 b0 ?_
  refine pw_aload_n (pc' := 31) 1 rfl dX3_carryOut_30 rfl rfl ?_
  refine ps_getR (pc' := 34) (r := 129) rfl dX3_carryOut_31 fl_X3_187 ob_125 rfl rfl ?_
  refine pw_iload_n (pc' := 35) 2 rfl dX3_carryOut_34 rfl rfl ?_
  refine pw_aload_n (pc' := 36) 1 rfl dX3_carryOut_35 rfl rfl ?_
  refine ps_getR (pc' := 39) (r := 128) rfl dX3_carryOut_36 fl_X3_184 ob_125 rfl rfl ?_
  refine pw_iload_n (pc' := 40) 2 rfl dX3_carryOut_39 rfl rfl ?_
  refine ps_iald (pc' := 41) (v := ((wr M3 128 (ix a2) r3) 128 (ix a2))) rfl dX3_carryOut_40 ia_128 b0 rfl ?_
  refine pw_bipush (pc' := 43) rfl dX3_carryOut_41 cb_24 ?_
  refine pw_icmp_ne (pc' := 46) (tgt := 51) rfl dX3_carryOut_43 (by decide) (fun q6 => ?_) (fun q6 => ?_)
  · have h := h.1 q6
    refine pw_aload_n (pc' := 52) 0 rfl dX3_carryOut_51 rfl rfl ?_
    refine pw_iload_n (pc' := 53) 2 rfl dX3_carryOut_52 rfl rfl ?_
    refine pw_aload_n (pc' := 54) 0 rfl dX3_carryOut_53 rfl rfl ?_
    refine ps_getR (pc' := 57) (r := 165) rfl dX3_carryOut_54 fl_X3_33 ob_124 rfl rfl ?_
    refine pw_iload_n (pc' := 58) 3 rfl dX3_carryOut_57 rfl rfl ?_
    refine ps_iald (pc' := 59) (v := (M3 165 (ix (M 127 (ix a2))))) rfl dX3_carryOut_58 ia_165 b1 rfl ?_
    refine pw_aload_n (pc' := 60) 0 rfl dX3_carryOut_59 rfl rfl ?_
    refine ps_getR (pc' := 63) (r := 166) rfl dX3_carryOut_60 fl_X3_36 ob_124 rfl rfl ?_
    refine pw_iload_n (pc' := 64) 3 rfl dX3_carryOut_63 rfl rfl ?_
    refine ps_iald (pc' := 65) (v := (M3 166 (ix (M 127 (ix a2))))) rfl dX3_carryOut_64 ia_166 b1 rfl ?_
    refine ps_callVI (pc' := 68) (As := [.int a2, .int (M3 165 (ix (M 127 (ix a2)))), .int (M3 166 (ix (M 127 (ix a2))))]) (rest := [.int a2, .ref 129]) (cT := (RX3, TX3, 12)) 3 rfl dX3_carryOut_65 cv_X3_takenAt ml_X3_125 (by decide) rfl rfl (by decide) (Nat.le_of_ble_eq_true rfl) ob_124 rfl rfl (CA.monoI h ?_)
    intro r9 M9 h
    refine ps_iast (pc' := 69) rfl dX3_carryOut_68 ia_129 b0 ?_
    refine pw_aload_n (pc' := 70) 1 rfl dX3_carryOut_69 rfl rfl ?_
    refine pw_dup (pc' := 71) rfl dX3_carryOut_70 rfl ?_
    refine ps_getI (pc' := 74) (v := (M9 125 0)) rfl dX3_carryOut_71 fl_X3_174 ob_125 rfl rfl ?_
    refine pw_aload_n (pc' := 75) 0 rfl dX3_carryOut_74 rfl rfl ?_
    refine ps_getR (pc' := 78) (r := 30) rfl dX3_carryOut_75 fl_X3_43 ob_124 rfl rfl ?_
    refine pw_iload_n (pc' := 79) 2 rfl dX3_carryOut_78 rfl rfl ?_
    refine pw_aload_n (pc' := 80) 1 rfl dX3_carryOut_79 rfl rfl ?_
    refine ps_getR (pc' := 83) (r := 128) rfl dX3_carryOut_80 fl_X3_184 ob_125 rfl rfl ?_
    refine pw_iload_n (pc' := 84) 2 rfl dX3_carryOut_83 rfl rfl ?_
    refine ps_iald (pc' := 85) (v := (M9 128 (ix a2))) rfl dX3_carryOut_84 ia_128 b0 rfl ?_
    refine ps_callVI (pc' := 88) (As := [.int a2, .int (M9 128 (ix a2))]) (rest := [.int (M9 125 0), .ref 125]) (cT := (RX5, TX5, 10)) 2 rfl dX3_carryOut_85 cv_X5_weight ml_X3_150 (by decide) rfl rfl (by decide) (Nat.le_of_ble_eq_true rfl) ob_30 rfl rfl (CA.monoI h ?_)
    intro r12 M12 h
    refine pw_iadd (pc' := 89) rfl dX3_carryOut_88 ?_
    refine ps_putI (pc' := 92) rfl dX3_carryOut_89 fl_X3_174 ob_125 rfl ?_
    refine pw_aload_n (pc' := 93) 0 rfl dX3_carryOut_92 rfl rfl ?_
    refine ps_getR (pc' := 96) (r := 165) rfl dX3_carryOut_93 fl_X3_33 ob_124 rfl rfl ?_
    refine pw_iload_n (pc' := 97) 3 rfl dX3_carryOut_96 rfl rfl ?_
    refine pw_aload_n (pc' := 98) 0 rfl dX3_carryOut_97 rfl rfl ?_
    refine ps_getR (pc' := 101) (r := 30) rfl dX3_carryOut_98 fl_X3_43 ob_124 rfl rfl ?_
    refine ps_getR (pc' := 104) (r := 33) rfl dX3_carryOut_101 fl_X3_114 ob_30 rfl rfl ?_
    refine pw_iload_n (pc' := 105) 2 rfl dX3_carryOut_104 rfl rfl ?_
    refine ps_iald (pc' := 106) (v := (M12 33 (ix a2))) rfl dX3_carryOut_105 ia_33 b0 rfl ?_
    refine ps_iast (pc' := 107) rfl dX3_carryOut_106 ia_165 b1 ?_
    refine pw_aload_n (pc' := 108) 0 rfl dX3_carryOut_107 rfl rfl ?_
    refine ps_getR (pc' := 111) (r := 166) rfl dX3_carryOut_108 fl_X3_36 ob_124 rfl rfl ?_
    refine pw_iload_n (pc' := 112) 3 rfl dX3_carryOut_111 rfl rfl ?_
    refine pw_aload_n (pc' := 113) 1 rfl dX3_carryOut_112 rfl rfl ?_
    refine ps_getR (pc' := 116) (r := 128) rfl dX3_carryOut_113 fl_X3_184 ob_125 rfl rfl ?_
    refine pw_iload_n (pc' := 117) 2 rfl dX3_carryOut_116 rfl rfl ?_
    refine ps_iald (pc' := 118) (v := (M12 128 (ix a2))) rfl dX3_carryOut_117 ia_128 b0 rfl ?_
    refine ps_iast (pc' := 119) rfl dX3_carryOut_118 ia_166 b1 ?_
    exact ps_vret dX3_carryOut_119 rfl h
  · have h := h.2 q6
    refine pw_bipush (pc' := 48) rfl dX3_carryOut_46 cb_24 ?_
    refine pw_goto (tgt := 68) dX3_carryOut_48 (by decide) ?_
    refine ps_iast (pc' := 69) rfl dX3_carryOut_68 ia_129 b0 ?_
    refine pw_aload_n (pc' := 70) 1 rfl dX3_carryOut_69 rfl rfl ?_
    refine pw_dup (pc' := 71) rfl dX3_carryOut_70 rfl ?_
    refine ps_getI (pc' := 74) (v := (M3 125 0)) rfl dX3_carryOut_71 fl_X3_174 ob_125 rfl rfl ?_
    refine pw_aload_n (pc' := 75) 0 rfl dX3_carryOut_74 rfl rfl ?_
    refine ps_getR (pc' := 78) (r := 30) rfl dX3_carryOut_75 fl_X3_43 ob_124 rfl rfl ?_
    refine pw_iload_n (pc' := 79) 2 rfl dX3_carryOut_78 rfl rfl ?_
    refine pw_aload_n (pc' := 80) 1 rfl dX3_carryOut_79 rfl rfl ?_
    refine ps_getR (pc' := 83) (r := 128) rfl dX3_carryOut_80 fl_X3_184 ob_125 rfl rfl ?_
    refine pw_iload_n (pc' := 84) 2 rfl dX3_carryOut_83 rfl rfl ?_
    refine ps_iald (pc' := 85) (v := ((wr M3 128 (ix a2) r3) 128 (ix a2))) rfl dX3_carryOut_84 ia_128 b0 rfl ?_
    refine ps_callVI (pc' := 88) (As := [.int a2, .int ((wr M3 128 (ix a2) r3) 128 (ix a2))]) (rest := [.int (M3 125 0), .ref 125]) (cT := (RX5, TX5, 10)) 2 rfl dX3_carryOut_85 cv_X5_weight ml_X3_150 (by decide) rfl rfl (by decide) (Nat.le_of_ble_eq_true rfl) ob_30 rfl rfl (CA.monoI h ?_)
    intro r9 M9 h
    refine pw_iadd (pc' := 89) rfl dX3_carryOut_88 ?_
    refine ps_putI (pc' := 92) rfl dX3_carryOut_89 fl_X3_174 ob_125 rfl ?_
    refine pw_aload_n (pc' := 93) 0 rfl dX3_carryOut_92 rfl rfl ?_
    refine ps_getR (pc' := 96) (r := 165) rfl dX3_carryOut_93 fl_X3_33 ob_124 rfl rfl ?_
    refine pw_iload_n (pc' := 97) 3 rfl dX3_carryOut_96 rfl rfl ?_
    refine pw_aload_n (pc' := 98) 0 rfl dX3_carryOut_97 rfl rfl ?_
    refine ps_getR (pc' := 101) (r := 30) rfl dX3_carryOut_98 fl_X3_43 ob_124 rfl rfl ?_
    refine ps_getR (pc' := 104) (r := 33) rfl dX3_carryOut_101 fl_X3_114 ob_30 rfl rfl ?_
    refine pw_iload_n (pc' := 105) 2 rfl dX3_carryOut_104 rfl rfl ?_
    refine ps_iald (pc' := 106) (v := (M9 33 (ix a2))) rfl dX3_carryOut_105 ia_33 b0 rfl ?_
    refine ps_iast (pc' := 107) rfl dX3_carryOut_106 ia_165 b1 ?_
    refine pw_aload_n (pc' := 108) 0 rfl dX3_carryOut_107 rfl rfl ?_
    refine ps_getR (pc' := 111) (r := 166) rfl dX3_carryOut_108 fl_X3_36 ob_124 rfl rfl ?_
    refine pw_iload_n (pc' := 112) 3 rfl dX3_carryOut_111 rfl rfl ?_
    refine pw_aload_n (pc' := 113) 1 rfl dX3_carryOut_112 rfl rfl ?_
    refine ps_getR (pc' := 116) (r := 128) rfl dX3_carryOut_113 fl_X3_184 ob_125 rfl rfl ?_
    refine pw_iload_n (pc' := 117) 2 rfl dX3_carryOut_116 rfl rfl ?_
    refine ps_iald (pc' := 118) (v := (M9 128 (ix a2))) rfl dX3_carryOut_117 ia_128 b0 rfl ?_
    refine ps_iast (pc' := 119) rfl dX3_carryOut_118 ia_166 b1 ?_
    exact ps_vret dX3_carryOut_119 rfl h
theorem T_X3_doneAt {M : Mem} {a1 : Int32} {a2 : Int32} {a3 : Int32} {Q : Int32 → Mem → Prop}  (h : ((¬ a3 = (nI 24)) → (vp_in a1 5 ∧ (((¬ (M 32 (ix a1)) = 0) → (C_X3_takenAt M a1 a2 a3 (fun r3 M3 => ((¬ r3 = (nI 24)) → (vp_in r3 24 ∧ (vp_in (M3 33 (ix a1)) 10 ∧ (Q (M3 (135 + 1 + ix r3) (ix (M3 33 (ix a1)))) M3)))) ∧ ((r3 = (nI 24)) → (Q (nI 24) M3))))) ∧ (((M 32 (ix a1)) = 0) → (vp_in a2 10 ∧ (vp_in (M 33 (ix a1)) 10 ∧ (Q (jmin (nI 24) ((jmax a3 (M 35 (ix a1))) + (M (19 + 1 + ix a2) (ix (M 33 (ix a1)))))) M))))))) ∧ ((a3 = (nI 24)) → (Q (nI 24) M))) : C_X3_doneAt M a1 a2 a3 Q := by
  refine CA_of rfl (Nat.le_of_ble_eq_true rfl) ?_
  show PS _ _ 0 [(0, .ref 124), (1, .int a1), (2, .int a2), (3, .int a3)] [] M _
  refine pw_iload_n (pc' := 1) 3 rfl dX3_doneAt_0 rfl rfl ?_
  refine pw_bipush (pc' := 3) rfl dX3_doneAt_1 cb_24 ?_
  refine pw_icmp_ne (pc' := 6) (tgt := 9) rfl dX3_doneAt_3 (by decide) (fun q0 => ?_) (fun q0 => ?_)
  · have h := h.1 q0
    refine pw_aload_n (pc' := 10) 0 rfl dX3_doneAt_9 rfl rfl ?_
    refine ps_getR (pc' := 13) (r := 30) rfl dX3_doneAt_10 fl_X3_43 ob_124 rfl rfl ?_
    refine ps_getR (pc' := 16) (r := 32) rfl dX3_doneAt_13 fl_X3_119 ob_30 rfl rfl ?_
    refine pw_iload_n (pc' := 17) 1 rfl dX3_doneAt_16 rfl rfl ?_
    obtain ⟨b1, h⟩ := h
    refine ps_iald (pc' := 18) (v := (M 32 (ix a1))) rfl dX3_doneAt_17 ia_32 b1 rfl ?_
    refine pw_if_ne (pc' := 21) (tgt := 64) rfl dX3_doneAt_18 (by decide) (fun q2 => ?_) (fun q2 => ?_)
    · have h := h.1 q2
      refine pw_aload_n (pc' := 65) 0 rfl dX3_doneAt_64 rfl rfl ?_
      refine pw_iload_n (pc' := 66) 1 rfl dX3_doneAt_65 rfl rfl ?_
      refine pw_iload_n (pc' := 67) 2 rfl dX3_doneAt_66 rfl rfl ?_
      refine pw_iload_n (pc' := 68) 3 rfl dX3_doneAt_67 rfl rfl ?_
      refine ps_callVI (pc' := 71) (As := [.int a1, .int a2, .int a3]) (rest := []) (cT := (RX3, TX3, 12)) 3 rfl dX3_doneAt_68 cv_X3_takenAt ml_X3_125 (by decide) rfl rfl (by decide) (Nat.le_of_ble_eq_true rfl) ob_124 rfl rfl (CA.monoI h ?_)
      intro r3 M3 h
      refine pw_istore (pc' := 73) (lv' := [(0, .ref 124), (1, .int a1), (2, .int a2), (3, .int a3), (4, .int r3)]) [1, 2, 3, 4, 0] rfl dX3_doneAt_71 (by decide) rfl ?_
      refine pw_iload (pc' := 75) 4 rfl dX3_doneAt_73 rfl ?_
      refine pw_bipush (pc' := 77) rfl dX3_doneAt_75 cb_24 ?_
      refine pw_icmp_ne (pc' := 80) (tgt := 85) rfl dX3_doneAt_77 (by decide) (fun q4 => ?_) (fun q4 => ?_)
      · have h := h.1 q4
        refine pw_aload_n (pc' := 86) 0 rfl dX3_doneAt_85 rfl rfl ?_
        refine ps_getR (pc' := 89) (r := 135) rfl dX3_doneAt_86 fl_X3_23 ob_124 rfl rfl ?_
        refine pw_iload (pc' := 91) 4 rfl dX3_doneAt_89 rfl ?_
        obtain ⟨b5, h⟩ := h
        refine ps_aald (pc' := 92) rfl dX3_doneAt_91 ra_135 b5 ?_
        refine pw_aload_n (pc' := 93) 0 rfl dX3_doneAt_92 rfl rfl ?_
        refine ps_getR (pc' := 96) (r := 30) rfl dX3_doneAt_93 fl_X3_43 ob_124 rfl rfl ?_
        refine ps_getR (pc' := 99) (r := 33) rfl dX3_doneAt_96 fl_X3_114 ob_30 rfl rfl ?_
        refine pw_iload_n (pc' := 100) 1 rfl dX3_doneAt_99 rfl rfl ?_
        refine ps_iald (pc' := 101) (v := (M3 33 (ix a1))) rfl dX3_doneAt_100 ia_33 b1 rfl ?_
        obtain ⟨b7, h⟩ := h
        refine ps_iald (pc' := 102) (v := (M3 (135 + 1 + ix r3) (ix (M3 33 (ix a1))))) rfl dX3_doneAt_101 (RA.row ra_135 b5) b7 rfl ?_
        exact ps_iret dX3_doneAt_102 rfl h
      · have h := h.2 q4
        refine pw_bipush (pc' := 82) rfl dX3_doneAt_80 cb_24 ?_
        refine pw_goto (tgt := 102) dX3_doneAt_82 (by decide) ?_
        exact ps_iret dX3_doneAt_102 rfl h
    · have h := h.2 q2
      refine pw_iload_n (pc' := 22) 3 rfl dX3_doneAt_21 rfl rfl ?_
      refine pw_aload_n (pc' := 23) 0 rfl dX3_doneAt_22 rfl rfl ?_
      refine ps_getR (pc' := 26) (r := 30) rfl dX3_doneAt_23 fl_X3_43 ob_124 rfl rfl ?_
      refine ps_getR (pc' := 29) (r := 35) rfl dX3_doneAt_26 fl_X3_105 ob_30 rfl rfl ?_
      refine pw_iload_n (pc' := 30) 1 rfl dX3_doneAt_29 rfl rfl ?_
      refine ps_iald (pc' := 31) (v := (M 35 (ix a1))) rfl dX3_doneAt_30 ia_35 b1 rfl ?_
      refine pw_max (pc' := 34) rfl dX3_doneAt_31 ml_X3_108 mx_max1 mx_ini mx_max3 (by decide) (Nat.le_of_ble_eq_true rfl) (Nat.le_refl 0) (Nat.le_refl 0) ?_
      refine pw_istore (pc' := 36) (lv' := [(0, .ref 124), (1, .int a1), (2, .int a2), (3, .int a3), (4, .int (jmax a3 (M 35 (ix a1))))]) [1, 2, 3, 4, 0] rfl dX3_doneAt_34 (by decide) rfl ?_
      refine pw_bipush (pc' := 38) rfl dX3_doneAt_36 cb_24 ?_
      refine pw_iload (pc' := 40) 4 rfl dX3_doneAt_38 rfl ?_
      refine pw_aload_n (pc' := 41) 0 rfl dX3_doneAt_40 rfl rfl ?_
      refine ps_getR (pc' := 44) (r := 1) rfl dX3_doneAt_41 fl_X3_39 ob_124 rfl rfl ?_
      refine ps_getR (pc' := 47) (r := 19) rfl dX3_doneAt_44 fl_X3_116 ob_1 rfl rfl ?_
      refine pw_iload_n (pc' := 48) 2 rfl dX3_doneAt_47 rfl rfl ?_
      obtain ⟨b4, h⟩ := h
      refine ps_aald (pc' := 49) rfl dX3_doneAt_48 ra_19 b4 ?_
      refine pw_aload_n (pc' := 50) 0 rfl dX3_doneAt_49 rfl rfl ?_
      refine ps_getR (pc' := 53) (r := 30) rfl dX3_doneAt_50 fl_X3_43 ob_124 rfl rfl ?_
      refine ps_getR (pc' := 56) (r := 33) rfl dX3_doneAt_53 fl_X3_114 ob_30 rfl rfl ?_
      refine pw_iload_n (pc' := 57) 1 rfl dX3_doneAt_56 rfl rfl ?_
      refine ps_iald (pc' := 58) (v := (M 33 (ix a1))) rfl dX3_doneAt_57 ia_33 b1 rfl ?_
      obtain ⟨b6, h⟩ := h
      refine ps_iald (pc' := 59) (v := (M (19 + 1 + ix a2) (ix (M 33 (ix a1))))) rfl dX3_doneAt_58 (RA.row ra_19 b4) b6 rfl ?_
      refine pw_iadd (pc' := 60) rfl dX3_doneAt_59 ?_
      refine pw_min (pc' := 63) rfl dX3_doneAt_60 ml_X3_122 mx_min1 mx_ini mx_min3 (by decide) (Nat.le_of_ble_eq_true rfl) (Nat.le_refl 0) (Nat.le_refl 0) ?_
      exact ps_iret dX3_doneAt_63 rfl h
  · have h := h.2 q0
    refine pw_bipush (pc' := 8) rfl dX3_doneAt_6 cb_24 ?_
    exact ps_iret dX3_doneAt_8 rfl h
theorem T_X3_takenAt {M : Mem} {a1 : Int32} {a2 : Int32} {a3 : Int32} {Q : Int32 → Mem → Prop}  (h : vp_in a1 5 ∧ (vp_in a2 10 ∧ (vp_in (M 30 2) 10 ∧ (P_X3_takenAt_48 M (M 33 (ix a1)) ((jmax a3 (M 35 (ix a1))) + (M (19 + 1 + ix a2) (ix (M 30 2)))) Q)))) : C_X3_takenAt M a1 a2 a3 Q := by
  refine CA_of rfl (Nat.le_of_ble_eq_true rfl) ?_
  show PS _ _ 0 [(0, .ref 124), (1, .int a1), (2, .int a2), (3, .int a3)] [] M _
  refine pw_iload_n (pc' := 1) 3 rfl dX3_takenAt_0 rfl rfl ?_
  refine pw_aload_n (pc' := 2) 0 rfl dX3_takenAt_1 rfl rfl ?_
  refine ps_getR (pc' := 5) (r := 30) rfl dX3_takenAt_2 fl_X3_43 ob_124 rfl rfl ?_
  refine ps_getR (pc' := 8) (r := 35) rfl dX3_takenAt_5 fl_X3_105 ob_30 rfl rfl ?_
  refine pw_iload_n (pc' := 9) 1 rfl dX3_takenAt_8 rfl rfl ?_
  obtain ⟨b0, h⟩ := h
  refine ps_iald (pc' := 10) (v := (M 35 (ix a1))) rfl dX3_takenAt_9 ia_35 b0 rfl ?_
  refine pw_max (pc' := 13) rfl dX3_takenAt_10 ml_X3_108 mx_max1 mx_ini mx_max3 (by decide) (Nat.le_of_ble_eq_true rfl) (Nat.le_refl 0) (Nat.le_refl 0) ?_
  refine pw_istore (pc' := 15) (lv' := [(0, .ref 124), (1, .int a1), (2, .int a2), (3, .int a3), (4, .int (jmax a3 (M 35 (ix a1))))]) [1, 2, 3, 4, 0] rfl dX3_takenAt_13 (by decide) rfl ?_
  refine pw_aload_n (pc' := 16) 0 rfl dX3_takenAt_15 rfl rfl ?_
  refine ps_getR (pc' := 19) (r := 30) rfl dX3_takenAt_16 fl_X3_43 ob_124 rfl rfl ?_
  refine ps_getR (pc' := 22) (r := 33) rfl dX3_takenAt_19 fl_X3_114 ob_30 rfl rfl ?_
  refine pw_iload_n (pc' := 23) 1 rfl dX3_takenAt_22 rfl rfl ?_
  refine ps_iald (pc' := 24) (v := (M 33 (ix a1))) rfl dX3_takenAt_23 ia_33 b0 rfl ?_
  refine pw_istore (pc' := 26) (lv' := [(0, .ref 124), (1, .int a1), (2, .int a2), (3, .int a3), (4, .int (jmax a3 (M 35 (ix a1)))), (5, .int (M 33 (ix a1)))]) [1, 2, 3, 4, 5, 0] rfl dX3_takenAt_24 (by decide) rfl ?_
  refine pw_iload (pc' := 28) 4 rfl dX3_takenAt_26 rfl ?_
  refine pw_aload_n (pc' := 29) 0 rfl dX3_takenAt_28 rfl rfl ?_
  refine ps_getR (pc' := 32) (r := 1) rfl dX3_takenAt_29 fl_X3_39 ob_124 rfl rfl ?_
  refine ps_getR (pc' := 35) (r := 19) rfl dX3_takenAt_32 fl_X3_116 ob_1 rfl rfl ?_
  refine pw_iload_n (pc' := 36) 2 rfl dX3_takenAt_35 rfl rfl ?_
  obtain ⟨b2, h⟩ := h
  refine ps_aald (pc' := 37) rfl dX3_takenAt_36 ra_19 b2 ?_
  refine pw_aload_n (pc' := 38) 0 rfl dX3_takenAt_37 rfl rfl ?_
  refine ps_getR (pc' := 41) (r := 30) rfl dX3_takenAt_38 fl_X3_43 ob_124 rfl rfl ?_
  refine ps_getI (pc' := 44) (v := (M 30 2)) rfl dX3_takenAt_41 fl_X3_89 ob_30 rfl rfl ?_
  obtain ⟨b3, h⟩ := h
  refine ps_iald (pc' := 45) (v := (M (19 + 1 + ix a2) (ix (M 30 2)))) rfl dX3_takenAt_44 (RA.row ra_19 b2) b3 rfl ?_
  refine pw_iadd (pc' := 46) rfl dX3_takenAt_45 ?_
  refine pw_istore (pc' := 48) (lv' := [(0, .ref 124), (1, .int a1), (2, .int a2), (3, .int a3), (4, .int (jmax a3 (M 35 (ix a1)))), (5, .int (M 33 (ix a1))), (6, .int ((jmax a3 (M 35 (ix a1))) + (M (19 + 1 + ix a2) (ix (M 30 2)))))]) [1, 2, 3, 4, 5, 6, 0] rfl dX3_takenAt_46 (by decide) rfl ?_
  exact pw_sub [0, 5, 6] rfl h
theorem T_X3_takenAt_48 {M : Mem} {a5 : Int32} {a6 : Int32} {Q : Int32 → Mem → Prop}  (h : (((nI 24) ≤ a6) → (Q (nI 24) M)) ∧ ((¬ (nI 24) ≤ a6) → (vp_in a6 24 ∧ (vp_in a5 10 ∧ ((((M (135 + 1 + ix a6) (ix a5)) = (nI 24)) → (P_X3_takenAt_48 M a5 (a6 + (nI 1)) Q)) ∧ ((¬ (M (135 + 1 + ix a6) (ix a5)) = (nI 24)) → (Q a6 M))))))) : P_X3_takenAt_48 M a5 a6 Q := by
  refine pw_iload (pc' := 50) 2 rfl dX3_takenAt_48 rfl ?_
  refine pw_bipush (pc' := 52) rfl dX3_takenAt_50 cb_24 ?_
  refine pw_icmp_ge (pc' := 55) (tgt := 79) rfl dX3_takenAt_52 (by decide) (fun q0 => ?_) (fun q0 => ?_)
  · have h := h.1 q0
    refine pw_bipush (pc' := 81) rfl dX3_takenAt_79 cb_24 ?_
    exact ps_iret dX3_takenAt_81 rfl h
  · have h := h.2 q0
    refine pw_aload_n (pc' := 56) 0 rfl dX3_takenAt_55 rfl rfl ?_
    refine ps_getR (pc' := 59) (r := 135) rfl dX3_takenAt_56 fl_X3_23 ob_124 rfl rfl ?_
    refine pw_iload (pc' := 61) 2 rfl dX3_takenAt_59 rfl ?_
    obtain ⟨b1, h⟩ := h
    refine ps_aald (pc' := 62) rfl dX3_takenAt_61 ra_135 b1 ?_
    refine pw_iload (pc' := 64) 1 rfl dX3_takenAt_62 rfl ?_
    obtain ⟨b2, h⟩ := h
    refine ps_iald (pc' := 65) (v := (M (135 + 1 + ix a6) (ix a5))) rfl dX3_takenAt_64 (RA.row ra_135 b1) b2 rfl ?_
    refine pw_bipush (pc' := 67) rfl dX3_takenAt_65 cb_24 ?_
    refine pw_icmp_eq (pc' := 70) (tgt := 73) rfl dX3_takenAt_67 (by decide) (fun q3 => ?_) (fun q3 => ?_)
    · have h := h.1 q3
      refine pw_iinc (pc' := 76) (lv' := [(0, .ref 124), (5, .int a5), (6, .int (a6 + (nI 1)))]) 2 [1, 2, 0] rfl dX3_takenAt_73 rfl (ii_1 _) (by decide) rfl ?_
      refine pw_goto (tgt := 48) dX3_takenAt_76 (by decide) ?_
      exact pw_sub [0, 1, 2] rfl h
    · have h := h.2 q3
      refine pw_iload (pc' := 72) 2 rfl dX3_takenAt_70 rfl ?_
      exact ps_iret dX3_takenAt_72 rfl h
theorem T_X3_nextOrder {M : Mem} {c1 : Nat} {n1 : Nat} {Q : Int32 → Mem → Prop} (hc1 : IA c1 n1) (h : P_X3_nextOrder_12 M c1 (M 30 3) ((M 30 3) - (nI 2)) Q) : C_X3_nextOrder M c1 Q := by
  refine CA_of rfl (Nat.le_of_ble_eq_true rfl) ?_
  show PS _ _ 0 [(0, .ref 124), (1, .ref c1)] [] M _
  refine pw_aload_n (pc' := 1) 0 rfl dX3_nextOrder_0 rfl rfl ?_
  refine ps_getR (pc' := 4) (r := 30) rfl dX3_nextOrder_1 fl_X3_43 ob_124 rfl rfl ?_
  refine ps_getI (pc' := 7) (v := (M 30 3)) rfl dX3_nextOrder_4 fl_X3_129 ob_30 rfl rfl ?_
  refine pw_istore_n (pc' := 8) (lv' := [(0, .ref 124), (1, .ref c1), (2, .int (M 30 3))]) [1, 2, 0] rfl dX3_nextOrder_7 rfl (by decide) rfl ?_
  refine pw_iload_n (pc' := 9) 2 rfl dX3_nextOrder_8 rfl rfl ?_
  refine pw_iconst (pc' := 10) rfl dX3_nextOrder_9 ci_2 ?_
  refine pw_isub (pc' := 11) rfl dX3_nextOrder_10 ?_
  refine pw_istore_n (pc' := 12) (lv' := [(0, .ref 124), (1, .ref c1), (2, .int (M 30 3)), (3, .int ((M 30 3) - (nI 2)))]) [1, 2, 3, 0] rfl dX3_nextOrder_11 rfl (by decide) rfl ?_
  exact pw_sub [0, 1, 2, 3] rfl h
theorem T_X3_nextOrder_12 {M : Mem} {c1 : Nat} {a2 : Int32} {a3 : Int32} {n1 : Nat} {Q : Int32 → Mem → Prop} (hc1 : IA c1 n1) (h : ((a3 < 0) → (((0 ≤ a3) → (P_X3_nextOrder_44 M c1 a2 a3 (a2 - (nI 1)) Q)) ∧ ((¬ 0 ≤ a3) → (Q (nI 0) M)))) ∧ ((¬ a3 < 0) → (vp_in a3 n1 ∧ (vp_in (a3 + (nI 1)) n1 ∧ ((((M c1 (ix a3)) ≤ (M c1 (ix (a3 + (nI 1))))) → (((0 ≤ a3) → (P_X3_nextOrder_44 M c1 a2 a3 (a2 - (nI 1)) Q)) ∧ ((¬ 0 ≤ a3) → (Q (nI 0) M)))) ∧ ((¬ (M c1 (ix a3)) ≤ (M c1 (ix (a3 + (nI 1))))) → (P_X3_nextOrder_12 M c1 a2 (a3 + (-1)) Q))))))) : P_X3_nextOrder_12 M c1 a2 a3 Q := by
  refine pw_iload_n (pc' := 13) 3 rfl dX3_nextOrder_12 rfl rfl ?_
  refine pw_if_lt (pc' := 16) (tgt := 33) rfl dX3_nextOrder_13 (by decide) (fun q0 => ?_) (fun q0 => ?_)
  · have h := h.1 q0
    refine pw_iload_n (pc' := 34) 3 rfl dX3_nextOrder_33 rfl rfl ?_
    refine pw_if_ge (pc' := 37) (tgt := 39) rfl dX3_nextOrder_34 (by decide) (fun q1 => ?_) (fun q1 => ?_)
    · have h := h.1 q1
      refine pw_iload_n (pc' := 40) 2 rfl dX3_nextOrder_39 rfl rfl ?_
      refine pw_iconst (pc' := 41) rfl dX3_nextOrder_40 ci_1 ?_
      refine pw_isub (pc' := 42) rfl dX3_nextOrder_41 ?_
      refine pw_istore (pc' := 44) (lv' := [(0, .ref 124), (1, .ref c1), (2, .int a2), (3, .int a3), (4, .int (a2 - (nI 1)))]) [1, 2, 3, 4, 0] rfl dX3_nextOrder_42 (by decide) rfl ?_
      exact pw_sub [0, 1, 2, 3, 4] rfl h
    · have h := h.2 q1
      refine pw_iconst (pc' := 38) rfl dX3_nextOrder_37 ci_0 ?_
      exact ps_zret dX3_nextOrder_38 rfl (by decide) h
  · have h := h.2 q0
    refine pw_aload_n (pc' := 17) 1 rfl dX3_nextOrder_16 rfl rfl ?_
    refine pw_iload_n (pc' := 18) 3 rfl dX3_nextOrder_17 rfl rfl ?_
    obtain ⟨b1, h⟩ := h
    refine ps_iald (pc' := 19) (v := (M c1 (ix a3))) rfl dX3_nextOrder_18 hc1 b1 rfl ?_
    refine pw_aload_n (pc' := 20) 1 rfl dX3_nextOrder_19 rfl rfl ?_
    refine pw_iload_n (pc' := 21) 3 rfl dX3_nextOrder_20 rfl rfl ?_
    refine pw_iconst (pc' := 22) rfl dX3_nextOrder_21 ci_1 ?_
    refine pw_iadd (pc' := 23) rfl dX3_nextOrder_22 ?_
    obtain ⟨b2, h⟩ := h
    refine ps_iald (pc' := 24) (v := (M c1 (ix (a3 + (nI 1))))) rfl dX3_nextOrder_23 hc1 b2 rfl ?_
    refine pw_icmp_le (pc' := 27) (tgt := 33) rfl dX3_nextOrder_24 (by decide) (fun q3 => ?_) (fun q3 => ?_)
    · have h := h.1 q3
      refine pw_iload_n (pc' := 34) 3 rfl dX3_nextOrder_33 rfl rfl ?_
      refine pw_if_ge (pc' := 37) (tgt := 39) rfl dX3_nextOrder_34 (by decide) (fun q4 => ?_) (fun q4 => ?_)
      · have h := h.1 q4
        refine pw_iload_n (pc' := 40) 2 rfl dX3_nextOrder_39 rfl rfl ?_
        refine pw_iconst (pc' := 41) rfl dX3_nextOrder_40 ci_1 ?_
        refine pw_isub (pc' := 42) rfl dX3_nextOrder_41 ?_
        refine pw_istore (pc' := 44) (lv' := [(0, .ref 124), (1, .ref c1), (2, .int a2), (3, .int a3), (4, .int (a2 - (nI 1)))]) [1, 2, 3, 4, 0] rfl dX3_nextOrder_42 (by decide) rfl ?_
        exact pw_sub [0, 1, 2, 3, 4] rfl h
      · have h := h.2 q4
        refine pw_iconst (pc' := 38) rfl dX3_nextOrder_37 ci_0 ?_
        exact ps_zret dX3_nextOrder_38 rfl (by decide) h
    · have h := h.2 q3
      refine pw_iinc (pc' := 30) (lv' := [(0, .ref 124), (1, .ref c1), (2, .int a2), (3, .int (a3 + (-1)))]) 3 [1, 2, 3, 0] rfl dX3_nextOrder_27 rfl (ii_m1 _) (by decide) rfl ?_
      refine pw_goto (tgt := 12) dX3_nextOrder_30 (by decide) ?_
      exact pw_sub [0, 1, 2, 3] rfl h
theorem T_X3_nextOrder_44 {M : Mem} {c1 : Nat} {a2 : Int32} {a3 : Int32} {a4 : Int32} {n1 : Nat} {Q : Int32 → Mem → Prop} (hc1 : IA c1 n1) (h : ((a4 ≤ a3) → (C_X3_swap M c1 a3 a4 (fun M1 => P_X3_nextOrder_84 M1 c1 (a3 + (nI 1)) (a2 - (nI 1)) Q))) ∧ ((¬ a4 ≤ a3) → (vp_in a4 n1 ∧ (vp_in a3 n1 ∧ ((((M c1 (ix a3)) ≤ (M c1 (ix a4))) → (C_X3_swap M c1 a3 a4 (fun M4 => P_X3_nextOrder_84 M4 c1 (a3 + (nI 1)) (a2 - (nI 1)) Q))) ∧ ((¬ (M c1 (ix a3)) ≤ (M c1 (ix a4))) → (P_X3_nextOrder_44 M c1 a2 a3 (a4 + (-1)) Q))))))) : P_X3_nextOrder_44 M c1 a2 a3 a4 Q := by
  refine pw_iload (pc' := 46) 4 rfl dX3_nextOrder_44 rfl ?_
  refine pw_iload_n (pc' := 47) 3 rfl dX3_nextOrder_46 rfl rfl ?_
  refine pw_icmp_le (pc' := 50) (tgt := 66) rfl dX3_nextOrder_47 (by decide) (fun q0 => ?_) (fun q0 => ?_)
  · have h := h.1 q0
    refine pw_aload_n (pc' := 67) 0 rfl dX3_nextOrder_66 rfl rfl ?_
    refine pw_aload_n (pc' := 68) 1 rfl dX3_nextOrder_67 rfl rfl ?_
    refine pw_iload_n (pc' := 69) 3 rfl dX3_nextOrder_68 rfl rfl ?_
    refine pw_iload (pc' := 71) 4 rfl dX3_nextOrder_69 rfl ?_
    refine ps_callVV (pc' := 74) (As := [.ref c1, .int a3, .int a4]) (rest := []) (cT := (RX3, TX3, 12)) 3 rfl dX3_nextOrder_71 cv_X3_swap ml_X3_132 (by decide) rfl rfl (by decide) (Nat.le_of_ble_eq_true rfl) ob_124 rfl rfl (CA.monoV h ?_)
    intro M1 h
    refine pw_iload_n (pc' := 75) 3 rfl dX3_nextOrder_74 rfl rfl ?_
    refine pw_iconst (pc' := 76) rfl dX3_nextOrder_75 ci_1 ?_
    refine pw_iadd (pc' := 77) rfl dX3_nextOrder_76 ?_
    refine pw_istore (pc' := 79) (lv' := [(0, .ref 124), (1, .ref c1), (2, .int a2), (3, .int a3), (4, .int a4), (5, .int (a3 + (nI 1)))]) [1, 2, 3, 4, 5, 0] rfl dX3_nextOrder_77 (by decide) rfl ?_
    refine pw_iload_n (pc' := 80) 2 rfl dX3_nextOrder_79 rfl rfl ?_
    refine pw_iconst (pc' := 81) rfl dX3_nextOrder_80 ci_1 ?_
    refine pw_isub (pc' := 82) rfl dX3_nextOrder_81 ?_
    refine pw_istore (pc' := 84) (lv' := [(0, .ref 124), (1, .ref c1), (2, .int a2), (3, .int a3), (4, .int a4), (5, .int (a3 + (nI 1))), (6, .int (a2 - (nI 1)))]) [1, 2, 3, 4, 5, 6, 0] rfl dX3_nextOrder_82 (by decide) rfl ?_
    exact pw_sub [0, 1, 5, 6] rfl h
  · have h := h.2 q0
    refine pw_aload_n (pc' := 51) 1 rfl dX3_nextOrder_50 rfl rfl ?_
    refine pw_iload (pc' := 53) 4 rfl dX3_nextOrder_51 rfl ?_
    obtain ⟨b1, h⟩ := h
    refine ps_iald (pc' := 54) (v := (M c1 (ix a4))) rfl dX3_nextOrder_53 hc1 b1 rfl ?_
    refine pw_aload_n (pc' := 55) 1 rfl dX3_nextOrder_54 rfl rfl ?_
    refine pw_iload_n (pc' := 56) 3 rfl dX3_nextOrder_55 rfl rfl ?_
    obtain ⟨b2, h⟩ := h
    refine ps_iald (pc' := 57) (v := (M c1 (ix a3))) rfl dX3_nextOrder_56 hc1 b2 rfl ?_
    refine pw_icmp_ge (pc' := 60) (tgt := 66) rfl dX3_nextOrder_57 (by decide) (fun q3 => ?_) (fun q3 => ?_)
    · have h := h.1 q3
      refine pw_aload_n (pc' := 67) 0 rfl dX3_nextOrder_66 rfl rfl ?_
      refine pw_aload_n (pc' := 68) 1 rfl dX3_nextOrder_67 rfl rfl ?_
      refine pw_iload_n (pc' := 69) 3 rfl dX3_nextOrder_68 rfl rfl ?_
      refine pw_iload (pc' := 71) 4 rfl dX3_nextOrder_69 rfl ?_
      refine ps_callVV (pc' := 74) (As := [.ref c1, .int a3, .int a4]) (rest := []) (cT := (RX3, TX3, 12)) 3 rfl dX3_nextOrder_71 cv_X3_swap ml_X3_132 (by decide) rfl rfl (by decide) (Nat.le_of_ble_eq_true rfl) ob_124 rfl rfl (CA.monoV h ?_)
      intro M4 h
      refine pw_iload_n (pc' := 75) 3 rfl dX3_nextOrder_74 rfl rfl ?_
      refine pw_iconst (pc' := 76) rfl dX3_nextOrder_75 ci_1 ?_
      refine pw_iadd (pc' := 77) rfl dX3_nextOrder_76 ?_
      refine pw_istore (pc' := 79) (lv' := [(0, .ref 124), (1, .ref c1), (2, .int a2), (3, .int a3), (4, .int a4), (5, .int (a3 + (nI 1)))]) [1, 2, 3, 4, 5, 0] rfl dX3_nextOrder_77 (by decide) rfl ?_
      refine pw_iload_n (pc' := 80) 2 rfl dX3_nextOrder_79 rfl rfl ?_
      refine pw_iconst (pc' := 81) rfl dX3_nextOrder_80 ci_1 ?_
      refine pw_isub (pc' := 82) rfl dX3_nextOrder_81 ?_
      refine pw_istore (pc' := 84) (lv' := [(0, .ref 124), (1, .ref c1), (2, .int a2), (3, .int a3), (4, .int a4), (5, .int (a3 + (nI 1))), (6, .int (a2 - (nI 1)))]) [1, 2, 3, 4, 5, 6, 0] rfl dX3_nextOrder_82 (by decide) rfl ?_
      exact pw_sub [0, 1, 5, 6] rfl h
    · have h := h.2 q3
      refine pw_iinc (pc' := 63) (lv' := [(0, .ref 124), (1, .ref c1), (2, .int a2), (3, .int a3), (4, .int (a4 + (-1)))]) 4 [1, 2, 3, 4, 0] rfl dX3_nextOrder_60 rfl (ii_m1 _) (by decide) rfl ?_
      refine pw_goto (tgt := 44) dX3_nextOrder_63 (by decide) ?_
      exact pw_sub [0, 1, 2, 3, 4] rfl h
theorem T_X3_nextOrder_84 {M : Mem} {c1 : Nat} {a5 : Int32} {a6 : Int32} {n1 : Nat} {Q : Int32 → Mem → Prop} (hc1 : IA c1 n1) (h : ((a6 ≤ a5) → (Q (nI 1) M)) ∧ ((¬ a6 ≤ a5) → (C_X3_swap M c1 a5 a6 (fun M1 => P_X3_nextOrder_84 M1 c1 (a5 + (nI 1)) (a6 + (-1)) Q)))) : P_X3_nextOrder_84 M c1 a5 a6 Q := by
  refine pw_iload (pc' := 86) 2 rfl dX3_nextOrder_84 rfl ?_
  refine pw_iload (pc' := 88) 3 rfl dX3_nextOrder_86 rfl ?_
  refine pw_icmp_ge (pc' := 91) (tgt := 109) rfl dX3_nextOrder_88 (by decide) (fun q0 => ?_) (fun q0 => ?_)
  · have h := h.1 q0
    refine pw_iconst (pc' := 110) rfl dX3_nextOrder_109 ci_1 ?_
    exact ps_zret dX3_nextOrder_110 rfl (by decide) h
  · have h := h.2 q0
    refine pw_aload_n (pc' := 92) 0 rfl dX3_nextOrder_91 rfl rfl ?_
    refine pw_aload_n (pc' := 93) 1 rfl dX3_nextOrder_92 rfl rfl ?_
    refine pw_iload (pc' := 95) 2 rfl dX3_nextOrder_93 rfl ?_
    refine pw_iload (pc' := 97) 3 rfl dX3_nextOrder_95 rfl ?_
    refine ps_callVV (pc' := 100) (As := [.ref c1, .int a5, .int a6]) (rest := []) (cT := (RX3, TX3, 12)) 3 rfl dX3_nextOrder_97 cv_X3_swap ml_X3_132 (by decide) rfl rfl (by decide) (Nat.le_of_ble_eq_true rfl) ob_124 rfl rfl (CA.monoV h ?_)
    intro M1 h
    refine pw_iinc (pc' := 103) (lv' := [(0, .ref 124), (1, .ref c1), (5, .int (a5 + (nI 1))), (6, .int a6)]) 2 [1, 2, 0, 3] rfl dX3_nextOrder_100 rfl (ii_1 _) (by decide) rfl ?_
    refine pw_iinc (pc' := 106) (lv' := [(0, .ref 124), (1, .ref c1), (5, .int (a5 + (nI 1))), (6, .int (a6 + (-1)))]) 3 [1, 2, 3, 0] rfl dX3_nextOrder_103 rfl (ii_m1 _) (by decide) rfl ?_
    refine pw_goto (tgt := 84) dX3_nextOrder_106 (by decide) ?_
    exact pw_sub [0, 1, 2, 3] rfl h
theorem T_X3_swap {M : Mem} {c1 : Nat} {a2 : Int32} {a3 : Int32} {n1 : Nat} {Q : Mem → Prop} (hc1 : IA c1 n1) (h : vp_in a2 n1 ∧ (vp_in a3 n1 ∧ (Q (wr (wr M c1 (ix a2) (M c1 (ix a3))) c1 (ix a3) (M c1 (ix a2)))))) : C_X3_swap M c1 a2 a3 Q := by
  refine CA_of rfl (Nat.le_of_ble_eq_true rfl) ?_
  show PS _ _ 0 [(0, .ref 124), (1, .ref c1), (2, .int a2), (3, .int a3)] [] M _
  refine pw_aload_n (pc' := 1) 1 rfl dX3_swap_0 rfl rfl ?_
  refine pw_iload_n (pc' := 2) 2 rfl dX3_swap_1 rfl rfl ?_
  obtain ⟨b0, h⟩ := h
  refine ps_iald (pc' := 3) (v := (M c1 (ix a2))) rfl dX3_swap_2 hc1 b0 rfl ?_
  refine pw_istore (pc' := 5) (lv' := [(0, .ref 124), (1, .ref c1), (2, .int a2), (3, .int a3), (4, .int (M c1 (ix a2)))]) [1, 2, 3, 4, 0] rfl dX3_swap_3 (by decide) rfl ?_
  refine pw_aload_n (pc' := 6) 1 rfl dX3_swap_5 rfl rfl ?_
  refine pw_iload_n (pc' := 7) 2 rfl dX3_swap_6 rfl rfl ?_
  refine pw_aload_n (pc' := 8) 1 rfl dX3_swap_7 rfl rfl ?_
  refine pw_iload_n (pc' := 9) 3 rfl dX3_swap_8 rfl rfl ?_
  obtain ⟨b1, h⟩ := h
  refine ps_iald (pc' := 10) (v := (M c1 (ix a3))) rfl dX3_swap_9 hc1 b1 rfl ?_
  refine ps_iast (pc' := 11) rfl dX3_swap_10 hc1 b0 ?_
  refine pw_aload_n (pc' := 12) 1 rfl dX3_swap_11 rfl rfl ?_
  refine pw_iload_n (pc' := 13) 3 rfl dX3_swap_12 rfl rfl ?_
  refine pw_iload (pc' := 15) 4 rfl dX3_swap_13 rfl ?_
  refine ps_iast (pc' := 16) rfl dX3_swap_15 hc1 b1 ?_
  exact ps_vret dX3_swap_16 rfl h
theorem T_X3_makeRule {M : Mem} {a1 : Int32} {Q : Mem → Prop}  (h : C_X3_firstOrder M 131 (fun M0 => P_X3_makeRule_13 M0 a1 (nI 1) Q)) : C_X3_makeRule M a1 Q := by
  refine CA_of rfl (Nat.le_of_ble_eq_true rfl) ?_
  show PS _ _ 0 [(0, .ref 124), (1, .int a1)] [] M _
  refine pw_aload_n (pc' := 1) 0 rfl dX3_makeRule_0 rfl rfl ?_
  refine pw_aload_n (pc' := 2) 0 rfl dX3_makeRule_1 rfl rfl ?_
  refine ps_getR (pc' := 5) (r := 130) rfl dX3_makeRule_2 fl_X3_18 ob_124 rfl rfl ?_
  refine ps_getR (pc' := 8) (r := 131) rfl dX3_makeRule_5 fl_X3_137 ob_130 rfl rfl ?_
  refine ps_callVV (pc' := 11) (As := [.ref 131]) (rest := []) (cT := (RX3, TX3, 12)) 1 rfl dX3_makeRule_8 cv_X3_firstOrder ml_X3_140 (by decide) rfl rfl (by decide) (Nat.le_of_ble_eq_true rfl) ob_124 rfl rfl (CA.monoV h ?_)
  intro M0 h
  refine pw_iconst (pc' := 12) rfl dX3_makeRule_11 ci_1 ?_
  refine pw_istore_n (pc' := 13) (lv' := [(0, .ref 124), (1, .int a1), (2, .int (nI 1))]) [1, 2, 0] rfl dX3_makeRule_12 rfl (by decide) rfl ?_
  exact pw_sub [0, 1, 2] rfl h
theorem T_X3_makeRule_13 {M : Mem} {a1 : Int32} {a2 : Int32} {Q : Mem → Prop}  (h : (((M 30 3) ≤ a2) → (C_X3_allHome M (fun M1 => P_X3_makeRule_98 (wr M1 130 0 (nI 0)) a1 (nI 0) Q))) ∧ ((¬ (M 30 3) ≤ a2) → (P_X3_makeRule_26 M a1 a2 a2 Q))) : P_X3_makeRule_13 M a1 a2 Q := by
  refine pw_iload_n (pc' := 14) 2 rfl dX3_makeRule_13 rfl rfl ?_
  refine pw_aload_n (pc' := 15) 0 rfl dX3_makeRule_14 rfl rfl ?_
  refine ps_getR (pc' := 18) (r := 30) rfl dX3_makeRule_15 fl_X3_43 ob_124 rfl rfl ?_
  refine ps_getI (pc' := 21) (v := (M 30 3)) rfl dX3_makeRule_18 fl_X3_129 ob_30 rfl rfl ?_
  refine pw_icmp_ge (pc' := 24) (tgt := 84) rfl dX3_makeRule_21 (by decide) (fun q0 => ?_) (fun q0 => ?_)
  · have h := h.1 q0
    refine pw_aload_n (pc' := 85) 0 rfl dX3_makeRule_84 rfl rfl ?_
    refine ps_callVV (pc' := 88) (As := []) (rest := []) (cT := (RX3, TX3, 12)) 0 rfl dX3_makeRule_85 cv_X3_allHome ml_X3_177 (by decide) rfl rfl (by decide) (Nat.le_of_ble_eq_true rfl) ob_124 rfl rfl (CA.monoV h ?_)
    intro M1 h
    refine pw_aload_n (pc' := 89) 0 rfl dX3_makeRule_88 rfl rfl ?_
    refine ps_getR (pc' := 92) (r := 130) rfl dX3_makeRule_89 fl_X3_18 ob_124 rfl rfl ?_
    refine pw_iconst (pc' := 93) rfl dX3_makeRule_92 ci_0 ?_
    refine ps_putI (pc' := 96) rfl dX3_makeRule_93 fl_X3_174 ob_130 rfl ?_
    refine pw_iconst (pc' := 97) rfl dX3_makeRule_96 ci_0 ?_
    refine pw_istore_n (pc' := 98) (lv' := [(0, .ref 124), (1, .int a1), (2, .int (nI 0))]) [1, 2, 0] rfl dX3_makeRule_97 rfl (by decide) rfl ?_
    exact pw_sub [0, 1, 2] rfl h
  · have h := h.2 q0
    refine pw_iload_n (pc' := 25) 2 rfl dX3_makeRule_24 rfl rfl ?_
    refine pw_istore_n (pc' := 26) (lv' := [(0, .ref 124), (1, .int a1), (2, .int a2), (3, .int a2)]) [1, 2, 3, 0] rfl dX3_makeRule_25 rfl (by decide) rfl ?_
    exact pw_sub [0, 1, 2, 3] rfl h
theorem T_X3_makeRule_26 {M : Mem} {a1 : Int32} {a2 : Int32} {a3 : Int32} {Q : Mem → Prop}  (h : ((a3 ≤ 0) → (P_X3_makeRule_13 M a1 (a2 + (nI 1)) Q)) ∧ ((¬ a3 ≤ 0) → (vp_in a3 5 ∧ (vp_in (a3 - (nI 1)) 5 ∧ (C_X3_isAhead M (M 131 (ix a3)) (M 131 (ix (a3 - (nI 1)))) (fun r3 M3 => ((r3 = 0) → (P_X3_makeRule_13 M3 a1 (a2 + (nI 1)) Q)) ∧ ((¬ r3 = 0) → (C_X3_swap M3 131 a3 (a3 - (nI 1)) (fun M5 => P_X3_makeRule_26 M5 a1 a2 (a3 + (-1)) Q))))))))) : P_X3_makeRule_26 M a1 a2 a3 Q := by
  refine pw_iload_n (pc' := 27) 3 rfl dX3_makeRule_26 rfl rfl ?_
  refine pw_if_le (pc' := 30) (tgt := 78) rfl dX3_makeRule_27 (by decide) (fun q0 => ?_) (fun q0 => ?_)
  · have h := h.1 q0
    refine pw_iinc (pc' := 81) (lv' := [(0, .ref 124), (1, .int a1), (2, .int (a2 + (nI 1))), (3, .int a3)]) 2 [1, 2, 0, 3] rfl dX3_makeRule_78 rfl (ii_1 _) (by decide) rfl ?_
    refine pw_goto (tgt := 13) dX3_makeRule_81 (by decide) ?_
    exact pw_sub [0, 1, 2] rfl h
  · have h := h.2 q0
    refine pw_aload_n (pc' := 31) 0 rfl dX3_makeRule_30 rfl rfl ?_
    refine pw_aload_n (pc' := 32) 0 rfl dX3_makeRule_31 rfl rfl ?_
    refine ps_getR (pc' := 35) (r := 130) rfl dX3_makeRule_32 fl_X3_18 ob_124 rfl rfl ?_
    refine ps_getR (pc' := 38) (r := 131) rfl dX3_makeRule_35 fl_X3_137 ob_130 rfl rfl ?_
    refine pw_iload_n (pc' := 39) 3 rfl dX3_makeRule_38 rfl rfl ?_
    obtain ⟨b1, h⟩ := h
    refine ps_iald (pc' := 40) (v := (M 131 (ix a3))) rfl dX3_makeRule_39 ia_131 b1 rfl ?_
    refine pw_aload_n (pc' := 41) 0 rfl dX3_makeRule_40 rfl rfl ?_
    refine ps_getR (pc' := 44) (r := 130) rfl dX3_makeRule_41 fl_X3_18 ob_124 rfl rfl ?_
    refine ps_getR (pc' := 47) (r := 131) rfl dX3_makeRule_44 fl_X3_137 ob_130 rfl rfl ?_
    refine pw_iload_n (pc' := 48) 3 rfl dX3_makeRule_47 rfl rfl ?_
    refine pw_iconst (pc' := 49) rfl dX3_makeRule_48 ci_1 ?_
    refine pw_isub (pc' := 50) rfl dX3_makeRule_49 ?_
    obtain ⟨b2, h⟩ := h
    refine ps_iald (pc' := 51) (v := (M 131 (ix (a3 - (nI 1))))) rfl dX3_makeRule_50 ia_131 b2 rfl ?_
    refine ps_callVI (pc' := 54) (As := [.int (M 131 (ix a3)), .int (M 131 (ix (a3 - (nI 1))))]) (rest := []) (cT := (RX3, TX3, 12)) 2 rfl dX3_makeRule_51 cv_X3_isAhead ml_X3_190 (by decide) rfl rfl (by decide) (Nat.le_of_ble_eq_true rfl) ob_124 rfl rfl (CA.monoI h ?_)
    intro r3 M3 h
    refine pw_if_eq (pc' := 57) (tgt := 78) rfl dX3_makeRule_54 (by decide) (fun q4 => ?_) (fun q4 => ?_)
    · have h := h.1 q4
      refine pw_iinc (pc' := 81) (lv' := [(0, .ref 124), (1, .int a1), (2, .int (a2 + (nI 1))), (3, .int a3)]) 2 [1, 2, 0, 3] rfl dX3_makeRule_78 rfl (ii_1 _) (by decide) rfl ?_
      refine pw_goto (tgt := 13) dX3_makeRule_81 (by decide) ?_
      exact pw_sub [0, 1, 2] rfl h
    · have h := h.2 q4
      refine pw_aload_n (pc' := 58) 0 rfl dX3_makeRule_57 rfl rfl ?_
      refine pw_aload_n (pc' := 59) 0 rfl dX3_makeRule_58 rfl rfl ?_
      refine ps_getR (pc' := 62) (r := 130) rfl dX3_makeRule_59 fl_X3_18 ob_124 rfl rfl ?_
      refine ps_getR (pc' := 65) (r := 131) rfl dX3_makeRule_62 fl_X3_137 ob_130 rfl rfl ?_
      refine pw_iload_n (pc' := 66) 3 rfl dX3_makeRule_65 rfl rfl ?_
      refine pw_iload_n (pc' := 67) 3 rfl dX3_makeRule_66 rfl rfl ?_
      refine pw_iconst (pc' := 68) rfl dX3_makeRule_67 ci_1 ?_
      refine pw_isub (pc' := 69) rfl dX3_makeRule_68 ?_
      refine ps_callVV (pc' := 72) (As := [.ref 131, .int a3, .int (a3 - (nI 1))]) (rest := []) (cT := (RX3, TX3, 12)) 3 rfl dX3_makeRule_69 cv_X3_swap ml_X3_132 (by decide) rfl rfl (by decide) (Nat.le_of_ble_eq_true rfl) ob_124 rfl rfl (CA.monoV h ?_)
      intro M5 h
      refine pw_iinc (pc' := 75) (lv' := [(0, .ref 124), (1, .int a1), (2, .int a2), (3, .int (a3 + (-1)))]) 3 [1, 2, 3, 0] rfl dX3_makeRule_72 rfl (ii_m1 _) (by decide) rfl ?_
      refine pw_goto (tgt := 26) dX3_makeRule_75 (by decide) ?_
      exact pw_sub [0, 1, 2, 3] rfl h
theorem T_X3_makeRule_98 {M : Mem} {a1 : Int32} {a2 : Int32} {Q : Mem → Prop}  (h : (((M 30 3) ≤ a2) → (Q M)) ∧ ((¬ (M 30 3) ≤ a2) → (vp_in a2 5 ∧ (C_X3_soonestFor M (M 131 (ix a2)) a1 (fun r2 M2 => vp_in (M 131 (ix a2)) 5 ∧ (C_X3_carryOut_130 (wr M2 132 (ix (M 131 (ix a2))) r2) (M 131 (ix a2)) (fun M4 => P_X3_makeRule_98 M4 a1 (a2 + (nI 1)) Q))))))) : P_X3_makeRule_98 M a1 a2 Q := by
  refine pw_iload_n (pc' := 99) 2 rfl dX3_makeRule_98 rfl rfl ?_
  refine pw_aload_n (pc' := 100) 0 rfl dX3_makeRule_99 rfl rfl ?_
  refine ps_getR (pc' := 103) (r := 30) rfl dX3_makeRule_100 fl_X3_43 ob_124 rfl rfl ?_
  refine ps_getI (pc' := 106) (v := (M 30 3)) rfl dX3_makeRule_103 fl_X3_129 ob_30 rfl rfl ?_
  refine pw_icmp_ge (pc' := 109) (tgt := 149) rfl dX3_makeRule_106 (by decide) (fun q0 => ?_) (fun q0 => ?_)
  · have h := h.1 q0
    exact ps_vret dX3_makeRule_149 rfl h
  · have h := h.2 q0
    refine pw_aload_n (pc' := 110) 0 rfl dX3_makeRule_109 rfl rfl ?_
    refine ps_getR (pc' := 113) (r := 130) rfl dX3_makeRule_110 fl_X3_18 ob_124 rfl rfl ?_
    refine ps_getR (pc' := 116) (r := 131) rfl dX3_makeRule_113 fl_X3_137 ob_130 rfl rfl ?_
    refine pw_iload_n (pc' := 117) 2 rfl dX3_makeRule_116 rfl rfl ?_
    obtain ⟨b1, h⟩ := h
    refine ps_iald (pc' := 118) (v := (M 131 (ix a2))) rfl dX3_makeRule_117 ia_131 b1 rfl ?_
    refine pw_istore_n (pc' := 119) (lv' := [(0, .ref 124), (1, .int a1), (2, .int a2), (3, .int (M 131 (ix a2)))]) [1, 2, 3, 0] rfl dX3_makeRule_118 rfl (by decide) rfl ?_
    refine pw_aload_n (pc' := 120) 0 rfl dX3_makeRule_119 rfl rfl ?_
    refine ps_getR (pc' := 123) (r := 130) rfl dX3_makeRule_120 fl_X3_18 ob_124 rfl rfl ?_
    refine ps_getR (pc' := 126) (r := 132) rfl dX3_makeRule_123 fl_X3_167 ob_130 rfl rfl ?_
    refine pw_iload_n (pc' := 127) 3 rfl dX3_makeRule_126 rfl rfl ?_
    refine pw_aload_n (pc' := 128) 0 rfl dX3_makeRule_127 rfl rfl ?_
    refine pw_iload_n (pc' := 129) 3 rfl dX3_makeRule_128 rfl rfl ?_
    refine pw_iload_n (pc' := 130) 1 rfl dX3_makeRule_129 rfl rfl ?_
    refine ps_callVI (pc' := 133) (As := [.int (M 131 (ix a2)), .int a1]) (rest := [.int (M 131 (ix a2)), .ref 132]) (cT := (RX3, TX3, 12)) 2 rfl dX3_makeRule_130 cv_X3_soonestFor ml_X3_194 (by decide) rfl rfl (by decide) (Nat.le_of_ble_eq_true rfl) ob_124 rfl rfl (CA.monoI h ?_)
    intro r2 M2 h
    obtain ⟨b3, h⟩ := h
    refine ps_iast (pc' := 134) rfl dX3_makeRule_133 ia_132 b3 ?_
    refine pw_aload_n (pc' := 135) 0 rfl dX3_makeRule_134 rfl rfl ?_
    refine pw_aload_n (pc' := 136) 0 rfl dX3_makeRule_135 rfl rfl ?_
    refine ps_getR (pc' := 139) (r := 130) rfl dX3_makeRule_136 fl_X3_18 ob_124 rfl rfl ?_
    refine pw_iload_n (pc' := 140) 3 rfl dX3_makeRule_139 rfl rfl ?_
    refine ps_callVV (pc' := 143) (As := [.ref 130, .int (M 131 (ix a2))]) (rest := []) (cT := (RX3, TX3, 12)) 2 rfl dX3_makeRule_140 cv_X3_carryOut ml_X3_180 (by decide) rfl rfl (by decide) (Nat.le_of_ble_eq_true rfl) ob_124 rfl rfl (CA.monoV h ?_)
    intro M4 h
    refine pw_iinc (pc' := 146) (lv' := [(0, .ref 124), (1, .int a1), (2, .int (a2 + (nI 1))), (3, .int (M 131 (ix a2)))]) 2 [1, 2, 0, 3] rfl dX3_makeRule_143 rfl (ii_1 _) (by decide) rfl ?_
    refine pw_goto (tgt := 98) dX3_makeRule_146 (by decide) ?_
    exact pw_sub [0, 1, 2] rfl h
theorem T_X3_isAhead {M : Mem} {a1 : Int32} {a2 : Int32} {Q : Int32 → Mem → Prop}  (h : vp_in a1 5 ∧ (vp_in a2 5 ∧ ((((M 35 (ix a1)) = (M 35 (ix a2))) → ((((M 34 (ix a1)) = (M 34 (ix a2))) → (((a2 ≤ a1) → (Q (nI 0) M)) ∧ ((¬ a2 ≤ a1) → (Q (nI 1) M)))) ∧ ((¬ (M 34 (ix a1)) = (M 34 (ix a2))) → ((((M 34 (ix a1)) ≤ (M 34 (ix a2))) → (Q (nI 0) M)) ∧ ((¬ (M 34 (ix a1)) ≤ (M 34 (ix a2))) → (Q (nI 1) M)))))) ∧ ((¬ (M 35 (ix a1)) = (M 35 (ix a2))) → ((((M 35 (ix a2)) ≤ (M 35 (ix a1))) → (Q (nI 0) M)) ∧ ((¬ (M 35 (ix a2)) ≤ (M 35 (ix a1))) → (Q (nI 1) M))))))) : C_X3_isAhead M a1 a2 Q := by
  refine CA_of rfl (Nat.le_of_ble_eq_true rfl) ?_
  show PS _ _ 0 [(0, .ref 124), (1, .int a1), (2, .int a2)] [] M _
  refine pw_aload_n (pc' := 1) 0 rfl dX3_isAhead_0 rfl rfl ?_
  refine ps_getR (pc' := 4) (r := 30) rfl dX3_isAhead_1 fl_X3_43 ob_124 rfl rfl ?_
  refine ps_getR (pc' := 7) (r := 35) rfl dX3_isAhead_4 fl_X3_105 ob_30 rfl rfl ?_
  refine pw_iload_n (pc' := 8) 1 rfl dX3_isAhead_7 rfl rfl ?_
  obtain ⟨b0, h⟩ := h
  refine ps_iald (pc' := 9) (v := (M 35 (ix a1))) rfl dX3_isAhead_8 ia_35 b0 rfl ?_
  refine pw_aload_n (pc' := 10) 0 rfl dX3_isAhead_9 rfl rfl ?_
  refine ps_getR (pc' := 13) (r := 30) rfl dX3_isAhead_10 fl_X3_43 ob_124 rfl rfl ?_
  refine ps_getR (pc' := 16) (r := 35) rfl dX3_isAhead_13 fl_X3_105 ob_30 rfl rfl ?_
  refine pw_iload_n (pc' := 17) 2 rfl dX3_isAhead_16 rfl rfl ?_
  obtain ⟨b1, h⟩ := h
  refine ps_iald (pc' := 18) (v := (M 35 (ix a2))) rfl dX3_isAhead_17 ia_35 b1 rfl ?_
  refine pw_icmp_eq (pc' := 21) (tgt := 48) rfl dX3_isAhead_18 (by decide) (fun q2 => ?_) (fun q2 => ?_)
  · have h := h.1 q2
    refine pw_aload_n (pc' := 49) 0 rfl dX3_isAhead_48 rfl rfl ?_
    refine ps_getR (pc' := 52) (r := 30) rfl dX3_isAhead_49 fl_X3_43 ob_124 rfl rfl ?_
    refine ps_getR (pc' := 55) (r := 34) rfl dX3_isAhead_52 fl_X3_197 ob_30 rfl rfl ?_
    refine pw_iload_n (pc' := 56) 1 rfl dX3_isAhead_55 rfl rfl ?_
    refine ps_iald (pc' := 57) (v := (M 34 (ix a1))) rfl dX3_isAhead_56 ia_34 b0 rfl ?_
    refine pw_aload_n (pc' := 58) 0 rfl dX3_isAhead_57 rfl rfl ?_
    refine ps_getR (pc' := 61) (r := 30) rfl dX3_isAhead_58 fl_X3_43 ob_124 rfl rfl ?_
    refine ps_getR (pc' := 64) (r := 34) rfl dX3_isAhead_61 fl_X3_197 ob_30 rfl rfl ?_
    refine pw_iload_n (pc' := 65) 2 rfl dX3_isAhead_64 rfl rfl ?_
    refine ps_iald (pc' := 66) (v := (M 34 (ix a2))) rfl dX3_isAhead_65 ia_34 b1 rfl ?_
    refine pw_icmp_eq (pc' := 69) (tgt := 96) rfl dX3_isAhead_66 (by decide) (fun q5 => ?_) (fun q5 => ?_)
    · have h := h.1 q5
      refine pw_iload_n (pc' := 97) 1 rfl dX3_isAhead_96 rfl rfl ?_
      refine pw_iload_n (pc' := 98) 2 rfl dX3_isAhead_97 rfl rfl ?_
      refine pw_icmp_ge (pc' := 101) (tgt := 105) rfl dX3_isAhead_98 (by decide) (fun q6 => ?_) (fun q6 => ?_)
      · have h := h.1 q6
        refine pw_iconst (pc' := 106) rfl dX3_isAhead_105 ci_0 ?_
        exact ps_zret dX3_isAhead_106 rfl (by decide) h
      · have h := h.2 q6
        refine pw_iconst (pc' := 102) rfl dX3_isAhead_101 ci_1 ?_
        refine pw_goto (tgt := 106) dX3_isAhead_102 (by decide) ?_
        exact ps_zret dX3_isAhead_106 rfl (by decide) h
    · have h := h.2 q5
      refine pw_aload_n (pc' := 70) 0 rfl dX3_isAhead_69 rfl rfl ?_
      refine ps_getR (pc' := 73) (r := 30) rfl dX3_isAhead_70 fl_X3_43 ob_124 rfl rfl ?_
      refine ps_getR (pc' := 76) (r := 34) rfl dX3_isAhead_73 fl_X3_197 ob_30 rfl rfl ?_
      refine pw_iload_n (pc' := 77) 1 rfl dX3_isAhead_76 rfl rfl ?_
      refine ps_iald (pc' := 78) (v := (M 34 (ix a1))) rfl dX3_isAhead_77 ia_34 b0 rfl ?_
      refine pw_aload_n (pc' := 79) 0 rfl dX3_isAhead_78 rfl rfl ?_
      refine ps_getR (pc' := 82) (r := 30) rfl dX3_isAhead_79 fl_X3_43 ob_124 rfl rfl ?_
      refine ps_getR (pc' := 85) (r := 34) rfl dX3_isAhead_82 fl_X3_197 ob_30 rfl rfl ?_
      refine pw_iload_n (pc' := 86) 2 rfl dX3_isAhead_85 rfl rfl ?_
      refine ps_iald (pc' := 87) (v := (M 34 (ix a2))) rfl dX3_isAhead_86 ia_34 b1 rfl ?_
      refine pw_icmp_le (pc' := 90) (tgt := 94) rfl dX3_isAhead_87 (by decide) (fun q8 => ?_) (fun q8 => ?_)
      · have h := h.1 q8
        refine pw_iconst (pc' := 95) rfl dX3_isAhead_94 ci_0 ?_
        exact ps_zret dX3_isAhead_95 rfl (by decide) h
      · have h := h.2 q8
        refine pw_iconst (pc' := 91) rfl dX3_isAhead_90 ci_1 ?_
        refine pw_goto (tgt := 95) dX3_isAhead_91 (by decide) ?_
        exact ps_zret dX3_isAhead_95 rfl (by decide) h
  · have h := h.2 q2
    refine pw_aload_n (pc' := 22) 0 rfl dX3_isAhead_21 rfl rfl ?_
    refine ps_getR (pc' := 25) (r := 30) rfl dX3_isAhead_22 fl_X3_43 ob_124 rfl rfl ?_
    refine ps_getR (pc' := 28) (r := 35) rfl dX3_isAhead_25 fl_X3_105 ob_30 rfl rfl ?_
    refine pw_iload_n (pc' := 29) 1 rfl dX3_isAhead_28 rfl rfl ?_
    refine ps_iald (pc' := 30) (v := (M 35 (ix a1))) rfl dX3_isAhead_29 ia_35 b0 rfl ?_
    refine pw_aload_n (pc' := 31) 0 rfl dX3_isAhead_30 rfl rfl ?_
    refine ps_getR (pc' := 34) (r := 30) rfl dX3_isAhead_31 fl_X3_43 ob_124 rfl rfl ?_
    refine ps_getR (pc' := 37) (r := 35) rfl dX3_isAhead_34 fl_X3_105 ob_30 rfl rfl ?_
    refine pw_iload_n (pc' := 38) 2 rfl dX3_isAhead_37 rfl rfl ?_
    refine ps_iald (pc' := 39) (v := (M 35 (ix a2))) rfl dX3_isAhead_38 ia_35 b1 rfl ?_
    refine pw_icmp_ge (pc' := 42) (tgt := 46) rfl dX3_isAhead_39 (by decide) (fun q5 => ?_) (fun q5 => ?_)
    · have h := h.1 q5
      refine pw_iconst (pc' := 47) rfl dX3_isAhead_46 ci_0 ?_
      exact ps_zret dX3_isAhead_47 rfl (by decide) h
    · have h := h.2 q5
      refine pw_iconst (pc' := 43) rfl dX3_isAhead_42 ci_1 ?_
      refine pw_goto (tgt := 47) dX3_isAhead_43 (by decide) ?_
      exact ps_zret dX3_isAhead_47 rfl (by decide) h
theorem T_X3_soonestFor {M : Mem} {a1 : Int32} {a2 : Int32} {Q : Int32 → Mem → Prop}  (h : P_X3_soonestFor_9 M a1 a2 (-1) (nI 24) (nI 0) Q) : C_X3_soonestFor M a1 a2 Q := by
  refine CA_of rfl (Nat.le_of_ble_eq_true rfl) ?_
  show PS _ _ 0 [(0, .ref 124), (1, .int a1), (2, .int a2)] [] M _
  refine pw_iconst (pc' := 1) rfl dX3_soonestFor_0 ci_m1 ?_
  refine pw_istore_n (pc' := 2) (lv' := [(0, .ref 124), (1, .int a1), (2, .int a2), (3, .int (-1))]) [1, 2, 3, 0] rfl dX3_soonestFor_1 rfl (by decide) rfl ?_
  refine pw_bipush (pc' := 4) rfl dX3_soonestFor_2 cb_24 ?_
  refine pw_istore (pc' := 6) (lv' := [(0, .ref 124), (1, .int a1), (2, .int a2), (3, .int (-1)), (4, .int (nI 24))]) [1, 2, 3, 4, 0] rfl dX3_soonestFor_4 (by decide) rfl ?_
  refine pw_iconst (pc' := 7) rfl dX3_soonestFor_6 ci_0 ?_
  refine pw_istore (pc' := 9) (lv' := [(0, .ref 124), (1, .int a1), (2, .int a2), (3, .int (-1)), (4, .int (nI 24)), (5, .int (nI 0))]) [1, 2, 3, 4, 5, 0] rfl dX3_soonestFor_7 (by decide) rfl ?_
  exact pw_sub [0, 1, 2, 3, 4, 5] rfl h
theorem T_X3_soonestFor_9 {M : Mem} {a1 : Int32} {a2 : Int32} {a3 : Int32} {a4 : Int32} {a5 : Int32} {Q : Int32 → Mem → Prop}  (h : (((M 30 0) ≤ a5) → (Q (jmax a3 (nI 0)) M)) ∧ ((¬ (M 30 0) ≤ a5) → (((((a2 >>> (a5 &&& 31)) &&& (nI 1)) = 0) → (P_X3_soonestFor_9 M a1 a2 a3 a4 (a5 + (nI 1)) Q)) ∧ ((¬ ((a2 >>> (a5 &&& 31)) &&& (nI 1)) = 0) → (vp_in a5 3 ∧ (C_X3_doneAt M a1 (M 165 (ix a5)) (M 166 (ix a5)) (fun r4 M4 => ((a3 < 0) → (P_X3_soonestFor_9 M4 a1 a2 a5 r4 (a5 + (nI 1)) Q)) ∧ ((¬ a3 < 0) → (((a4 ≤ r4) → (P_X3_soonestFor_9 M4 a1 a2 a3 a4 (a5 + (nI 1)) Q)) ∧ ((¬ a4 ≤ r4) → (P_X3_soonestFor_9 M4 a1 a2 a5 r4 (a5 + (nI 1)) Q))))))))))) : P_X3_soonestFor_9 M a1 a2 a3 a4 a5 Q := by
  refine pw_iload (pc' := 11) 5 rfl dX3_soonestFor_9 rfl ?_
  refine pw_aload_n (pc' := 12) 0 rfl dX3_soonestFor_11 rfl rfl ?_
  refine ps_getR (pc' := 15) (r := 30) rfl dX3_soonestFor_12 fl_X3_43 ob_124 rfl rfl ?_
  refine ps_getI (pc' := 18) (v := (M 30 0)) rfl dX3_soonestFor_15 fl_X3_70 ob_30 rfl rfl ?_
  refine pw_icmp_ge (pc' := 21) (tgt := 75) rfl dX3_soonestFor_18 (by decide) (fun q0 => ?_) (fun q0 => ?_)
  · have h := h.1 q0
    refine pw_iload_n (pc' := 76) 3 rfl dX3_soonestFor_75 rfl rfl ?_
    refine pw_iconst (pc' := 77) rfl dX3_soonestFor_76 ci_0 ?_
    refine pw_max (pc' := 80) rfl dX3_soonestFor_77 ml_X3_108 mx_max1 mx_ini mx_max3 (by decide) (Nat.le_of_ble_eq_true rfl) (Nat.le_refl 0) (Nat.le_refl 0) ?_
    exact ps_iret dX3_soonestFor_80 rfl h
  · have h := h.2 q0
    refine pw_iload_n (pc' := 22) 2 rfl dX3_soonestFor_21 rfl rfl ?_
    refine pw_iload (pc' := 24) 5 rfl dX3_soonestFor_22 rfl ?_
    refine pw_ishr (pc' := 25) rfl dX3_soonestFor_24 ?_
    refine pw_iconst (pc' := 26) rfl dX3_soonestFor_25 ci_1 ?_
    refine pw_iand (pc' := 27) rfl dX3_soonestFor_26 ?_
    refine pw_if_eq (pc' := 30) (tgt := 69) rfl dX3_soonestFor_27 (by decide) (fun q1 => ?_) (fun q1 => ?_)
    · have h := h.1 q1
      refine pw_iinc (pc' := 72) (lv' := [(0, .ref 124), (1, .int a1), (2, .int a2), (3, .int a3), (4, .int a4), (5, .int (a5 + (nI 1)))]) 5 [1, 2, 3, 4, 5, 0] rfl dX3_soonestFor_69 rfl (ii_1 _) (by decide) rfl ?_
      refine pw_goto (tgt := 9) dX3_soonestFor_72 (by decide) ?_
      exact pw_sub [0, 1, 2, 3, 4, 5] rfl h
    · have h := h.2 q1
      refine pw_aload_n (pc' := 31) 0 rfl dX3_soonestFor_30 rfl rfl ?_
      refine pw_iload_n (pc' := 32) 1 rfl dX3_soonestFor_31 rfl rfl ?_
      refine pw_aload_n (pc' := 33) 0 rfl dX3_soonestFor_32 rfl rfl ?_
      refine ps_getR (pc' := 36) (r := 165) rfl dX3_soonestFor_33 fl_X3_33 ob_124 rfl rfl ?_
      refine pw_iload (pc' := 38) 5 rfl dX3_soonestFor_36 rfl ?_
      obtain ⟨b2, h⟩ := h
      refine ps_iald (pc' := 39) (v := (M 165 (ix a5))) rfl dX3_soonestFor_38 ia_165 b2 rfl ?_
      refine pw_aload_n (pc' := 40) 0 rfl dX3_soonestFor_39 rfl rfl ?_
      refine ps_getR (pc' := 43) (r := 166) rfl dX3_soonestFor_40 fl_X3_36 ob_124 rfl rfl ?_
      refine pw_iload (pc' := 45) 5 rfl dX3_soonestFor_43 rfl ?_
      refine ps_iald (pc' := 46) (v := (M 166 (ix a5))) rfl dX3_soonestFor_45 ia_166 b2 rfl ?_
      refine ps_callVI (pc' := 49) (As := [.int a1, .int (M 165 (ix a5)), .int (M 166 (ix a5))]) (rest := []) (cT := (RX3, TX3, 12)) 3 rfl dX3_soonestFor_46 cv_X3_doneAt ml_X3_147 (by decide) rfl rfl (by decide) (Nat.le_of_ble_eq_true rfl) ob_124 rfl rfl (CA.monoI h ?_)
      intro r4 M4 h
      refine pw_istore (pc' := 51) (lv' := [(0, .ref 124), (1, .int a1), (2, .int a2), (3, .int a3), (4, .int a4), (5, .int a5), (6, .int r4)]) [1, 2, 3, 4, 5, 6, 0] rfl dX3_soonestFor_49 (by decide) rfl ?_
      refine pw_iload_n (pc' := 52) 3 rfl dX3_soonestFor_51 rfl rfl ?_
      refine pw_if_lt (pc' := 55) (tgt := 62) rfl dX3_soonestFor_52 (by decide) (fun q5 => ?_) (fun q5 => ?_)
      · have h := h.1 q5
        refine pw_iload (pc' := 64) 5 rfl dX3_soonestFor_62 rfl ?_
        refine pw_istore_n (pc' := 65) (lv' := [(0, .ref 124), (1, .int a1), (2, .int a2), (3, .int a5), (4, .int a4), (5, .int a5), (6, .int r4)]) [1, 2, 3, 0, 4, 5, 6] rfl dX3_soonestFor_64 rfl (by decide) rfl ?_
        refine pw_iload (pc' := 67) 6 rfl dX3_soonestFor_65 rfl ?_
        refine pw_istore (pc' := 69) (lv' := [(0, .ref 124), (1, .int a1), (2, .int a2), (3, .int a5), (4, .int r4), (5, .int a5), (6, .int r4)]) [1, 2, 3, 4, 0, 5, 6] rfl dX3_soonestFor_67 (by decide) rfl ?_
        refine pw_iinc (pc' := 72) (lv' := [(0, .ref 124), (1, .int a1), (2, .int a2), (3, .int a5), (4, .int r4), (5, .int (a5 + (nI 1))), (6, .int r4)]) 5 [1, 2, 3, 4, 5, 0, 6] rfl dX3_soonestFor_69 rfl (ii_1 _) (by decide) rfl ?_
        refine pw_goto (tgt := 9) dX3_soonestFor_72 (by decide) ?_
        exact pw_sub [0, 1, 2, 3, 4, 5] rfl h
      · have h := h.2 q5
        refine pw_iload (pc' := 57) 6 rfl dX3_soonestFor_55 rfl ?_
        refine pw_iload (pc' := 59) 4 rfl dX3_soonestFor_57 rfl ?_
        refine pw_icmp_ge (pc' := 62) (tgt := 69) rfl dX3_soonestFor_59 (by decide) (fun q6 => ?_) (fun q6 => ?_)
        · have h := h.1 q6
          refine pw_iinc (pc' := 72) (lv' := [(0, .ref 124), (1, .int a1), (2, .int a2), (3, .int a3), (4, .int a4), (5, .int (a5 + (nI 1))), (6, .int r4)]) 5 [1, 2, 3, 4, 5, 0, 6] rfl dX3_soonestFor_69 rfl (ii_1 _) (by decide) rfl ?_
          refine pw_goto (tgt := 9) dX3_soonestFor_72 (by decide) ?_
          exact pw_sub [0, 1, 2, 3, 4, 5] rfl h
        · have h := h.2 q6
          refine pw_iload (pc' := 64) 5 rfl dX3_soonestFor_62 rfl ?_
          refine pw_istore_n (pc' := 65) (lv' := [(0, .ref 124), (1, .int a1), (2, .int a2), (3, .int a5), (4, .int a4), (5, .int a5), (6, .int r4)]) [1, 2, 3, 0, 4, 5, 6] rfl dX3_soonestFor_64 rfl (by decide) rfl ?_
          refine pw_iload (pc' := 67) 6 rfl dX3_soonestFor_65 rfl ?_
          refine pw_istore (pc' := 69) (lv' := [(0, .ref 124), (1, .int a1), (2, .int a2), (3, .int a5), (4, .int r4), (5, .int a5), (6, .int r4)]) [1, 2, 3, 4, 0, 5, 6] rfl dX3_soonestFor_67 (by decide) rfl ?_
          refine pw_iinc (pc' := 72) (lv' := [(0, .ref 124), (1, .int a1), (2, .int a2), (3, .int a5), (4, .int r4), (5, .int (a5 + (nI 1))), (6, .int r4)]) 5 [1, 2, 3, 4, 5, 0, 6] rfl dX3_soonestFor_69 rfl (ii_1 _) (by decide) rfl ?_
          refine pw_goto (tgt := 9) dX3_soonestFor_72 (by decide) ?_
          exact pw_sub [0, 1, 2, 3, 4, 5] rfl h
theorem T_X3_carryOut_130 {M : Mem} {a2 : Int32} {Q : Mem → Prop}  (h : vp_in a2 5 ∧ (vp_in (M 132 (ix a2)) 3 ∧ (C_X3_doneAt M a2 (M 165 (ix (M 132 (ix a2)))) (M 166 (ix (M 132 (ix a2)))) (fun r3 M3 => ((¬ ((wr M3 133 (ix a2) r3) 133 (ix a2)) = (nI 24)) → (C_X3_takenAt (wr M3 133 (ix a2) r3) a2 (M3 165 (ix (M 132 (ix a2)))) (M3 166 (ix (M 132 (ix a2)))) (fun r9 M9 => C_X5_weight_30 (wr M9 134 (ix a2) r9) a2 (M9 133 (ix a2)) (fun r12 M12 => Q (wr (wr (wr M12 130 0 ((M9 130 0) + r12)) 165 (ix (M 132 (ix a2))) (M12 33 (ix a2))) 166 (ix (M 132 (ix a2))) (M12 133 (ix a2))))))) ∧ ((((wr M3 133 (ix a2) r3) 133 (ix a2)) = (nI 24)) → (C_X5_weight_30 (wr (wr M3 133 (ix a2) r3) 134 (ix a2) (nI 24)) a2 ((wr M3 133 (ix a2) r3) 133 (ix a2)) (fun r9 M9 => Q (wr (wr (wr M9 130 0 ((M3 130 0) + r9)) 165 (ix (M 132 (ix a2))) (M9 33 (ix a2))) 166 (ix (M 132 (ix a2))) (M9 133 (ix a2)))))))))) : C_X3_carryOut_130 M a2 Q := by
  refine CA_of rfl (Nat.le_of_ble_eq_true rfl) ?_
  show PS _ _ 0 [(0, .ref 124), (1, .ref 130), (2, .int a2)] [] M _
  refine pw_aload_n (pc' := 1) 1 rfl dX3_carryOut_0 rfl rfl ?_
  refine ps_getR (pc' := 4) (r := 132) rfl dX3_carryOut_1 fl_X3_167 ob_130 rfl rfl ?_
  refine pw_iload_n (pc' := 5) 2 rfl dX3_carryOut_4 rfl rfl ?_
  obtain ⟨b0, h⟩ := h
  refine ps_iald (pc' := 6) (v := (M 132 (ix a2))) rfl dX3_carryOut_5 ia_132 b0 rfl ?_
  refine pw_istore_n (pc' := 7) (lv' := [(0, .ref 124), (1, .ref 130), (2, .int a2), (3, .int (M 132 (ix a2)))]) [1, 2, 3, 0] rfl dX3_carryOut_6 rfl (by decide) rfl ?_
  refine pw_aload_n (pc' := 8) 1 rfl dX3_carryOut_7 rfl rfl ?_
  refine ps_getR (pc' := 11) (r := 133) rfl dX3_carryOut_8 fl_X3_184 ob_130 rfl rfl ?_
  refine pw_iload_n (pc' := 12) 2 rfl dX3_carryOut_11 rfl rfl ?_
  refine pw_aload_n (pc' := 13) 0 rfl dX3_carryOut_12 rfl rfl ?_
  refine pw_iload_n (pc' := 14) 2 rfl dX3_carryOut_13 rfl rfl ?_
  refine pw_aload_n (pc' := 15) 0 rfl dX3_carryOut_14 rfl rfl ?_
  refine ps_getR (pc' := 18) (r := 165) rfl dX3_carryOut_15 fl_X3_33 ob_124 rfl rfl ?_
  refine pw_iload_n (pc' := 19) 3 rfl dX3_carryOut_18 rfl rfl ?_
  obtain ⟨b1, h⟩ := h
  refine ps_iald (pc' := 20) (v := (M 165 (ix (M 132 (ix a2))))) rfl dX3_carryOut_19 ia_165 b1 rfl ?_
  refine pw_aload_n (pc' := 21) 0 rfl dX3_carryOut_20 rfl rfl ?_
  refine ps_getR (pc' := 24) (r := 166) rfl dX3_carryOut_21 fl_X3_36 ob_124 rfl rfl ?_
  refine pw_iload_n (pc' := 25) 3 rfl dX3_carryOut_24 rfl rfl ?_
  refine ps_iald (pc' := 26) (v := (M 166 (ix (M 132 (ix a2))))) rfl dX3_carryOut_25 ia_166 b1 rfl ?_
  refine ps_callVI (pc' := 29) (As := [.int a2, .int (M 165 (ix (M 132 (ix a2)))), .int (M 166 (ix (M 132 (ix a2))))]) (rest := [.int a2, .ref 133]) (cT := (RX3, TX3, 12)) 3 rfl dX3_carryOut_26 cv_X3_doneAt ml_X3_147 (by decide) rfl rfl (by decide) (Nat.le_of_ble_eq_true rfl) ob_124 rfl rfl (CA.monoI h ?_)
  intro r3 M3 h
  refine ps_iast (pc' := 30) rfl dX3_carryOut_29 ia_133 b0 ?_
  refine pw_aload_n (pc' := 31) 1 rfl dX3_carryOut_30 rfl rfl ?_
  refine ps_getR (pc' := 34) (r := 134) rfl dX3_carryOut_31 fl_X3_187 ob_130 rfl rfl ?_
  refine pw_iload_n (pc' := 35) 2 rfl dX3_carryOut_34 rfl rfl ?_
  refine pw_aload_n (pc' := 36) 1 rfl dX3_carryOut_35 rfl rfl ?_
  refine ps_getR (pc' := 39) (r := 133) rfl dX3_carryOut_36 fl_X3_184 ob_130 rfl rfl ?_
  refine pw_iload_n (pc' := 40) 2 rfl dX3_carryOut_39 rfl rfl ?_
  refine ps_iald (pc' := 41) (v := ((wr M3 133 (ix a2) r3) 133 (ix a2))) rfl dX3_carryOut_40 ia_133 b0 rfl ?_
  refine pw_bipush (pc' := 43) rfl dX3_carryOut_41 cb_24 ?_
  refine pw_icmp_ne (pc' := 46) (tgt := 51) rfl dX3_carryOut_43 (by decide) (fun q6 => ?_) (fun q6 => ?_)
  · have h := h.1 q6
    refine pw_aload_n (pc' := 52) 0 rfl dX3_carryOut_51 rfl rfl ?_
    refine pw_iload_n (pc' := 53) 2 rfl dX3_carryOut_52 rfl rfl ?_
    refine pw_aload_n (pc' := 54) 0 rfl dX3_carryOut_53 rfl rfl ?_
    refine ps_getR (pc' := 57) (r := 165) rfl dX3_carryOut_54 fl_X3_33 ob_124 rfl rfl ?_
    refine pw_iload_n (pc' := 58) 3 rfl dX3_carryOut_57 rfl rfl ?_
    refine ps_iald (pc' := 59) (v := (M3 165 (ix (M 132 (ix a2))))) rfl dX3_carryOut_58 ia_165 b1 rfl ?_
    refine pw_aload_n (pc' := 60) 0 rfl dX3_carryOut_59 rfl rfl ?_
    refine ps_getR (pc' := 63) (r := 166) rfl dX3_carryOut_60 fl_X3_36 ob_124 rfl rfl ?_
    refine pw_iload_n (pc' := 64) 3 rfl dX3_carryOut_63 rfl rfl ?_
    refine ps_iald (pc' := 65) (v := (M3 166 (ix (M 132 (ix a2))))) rfl dX3_carryOut_64 ia_166 b1 rfl ?_
    refine ps_callVI (pc' := 68) (As := [.int a2, .int (M3 165 (ix (M 132 (ix a2)))), .int (M3 166 (ix (M 132 (ix a2))))]) (rest := [.int a2, .ref 134]) (cT := (RX3, TX3, 12)) 3 rfl dX3_carryOut_65 cv_X3_takenAt ml_X3_125 (by decide) rfl rfl (by decide) (Nat.le_of_ble_eq_true rfl) ob_124 rfl rfl (CA.monoI h ?_)
    intro r9 M9 h
    refine ps_iast (pc' := 69) rfl dX3_carryOut_68 ia_134 b0 ?_
    refine pw_aload_n (pc' := 70) 1 rfl dX3_carryOut_69 rfl rfl ?_
    refine pw_dup (pc' := 71) rfl dX3_carryOut_70 rfl ?_
    refine ps_getI (pc' := 74) (v := (M9 130 0)) rfl dX3_carryOut_71 fl_X3_174 ob_130 rfl rfl ?_
    refine pw_aload_n (pc' := 75) 0 rfl dX3_carryOut_74 rfl rfl ?_
    refine ps_getR (pc' := 78) (r := 30) rfl dX3_carryOut_75 fl_X3_43 ob_124 rfl rfl ?_
    refine pw_iload_n (pc' := 79) 2 rfl dX3_carryOut_78 rfl rfl ?_
    refine pw_aload_n (pc' := 80) 1 rfl dX3_carryOut_79 rfl rfl ?_
    refine ps_getR (pc' := 83) (r := 133) rfl dX3_carryOut_80 fl_X3_184 ob_130 rfl rfl ?_
    refine pw_iload_n (pc' := 84) 2 rfl dX3_carryOut_83 rfl rfl ?_
    refine ps_iald (pc' := 85) (v := (M9 133 (ix a2))) rfl dX3_carryOut_84 ia_133 b0 rfl ?_
    refine ps_callVI (pc' := 88) (As := [.int a2, .int (M9 133 (ix a2))]) (rest := [.int (M9 130 0), .ref 130]) (cT := (RX5, TX5, 10)) 2 rfl dX3_carryOut_85 cv_X5_weight ml_X3_150 (by decide) rfl rfl (by decide) (Nat.le_of_ble_eq_true rfl) ob_30 rfl rfl (CA.monoI h ?_)
    intro r12 M12 h
    refine pw_iadd (pc' := 89) rfl dX3_carryOut_88 ?_
    refine ps_putI (pc' := 92) rfl dX3_carryOut_89 fl_X3_174 ob_130 rfl ?_
    refine pw_aload_n (pc' := 93) 0 rfl dX3_carryOut_92 rfl rfl ?_
    refine ps_getR (pc' := 96) (r := 165) rfl dX3_carryOut_93 fl_X3_33 ob_124 rfl rfl ?_
    refine pw_iload_n (pc' := 97) 3 rfl dX3_carryOut_96 rfl rfl ?_
    refine pw_aload_n (pc' := 98) 0 rfl dX3_carryOut_97 rfl rfl ?_
    refine ps_getR (pc' := 101) (r := 30) rfl dX3_carryOut_98 fl_X3_43 ob_124 rfl rfl ?_
    refine ps_getR (pc' := 104) (r := 33) rfl dX3_carryOut_101 fl_X3_114 ob_30 rfl rfl ?_
    refine pw_iload_n (pc' := 105) 2 rfl dX3_carryOut_104 rfl rfl ?_
    refine ps_iald (pc' := 106) (v := (M12 33 (ix a2))) rfl dX3_carryOut_105 ia_33 b0 rfl ?_
    refine ps_iast (pc' := 107) rfl dX3_carryOut_106 ia_165 b1 ?_
    refine pw_aload_n (pc' := 108) 0 rfl dX3_carryOut_107 rfl rfl ?_
    refine ps_getR (pc' := 111) (r := 166) rfl dX3_carryOut_108 fl_X3_36 ob_124 rfl rfl ?_
    refine pw_iload_n (pc' := 112) 3 rfl dX3_carryOut_111 rfl rfl ?_
    refine pw_aload_n (pc' := 113) 1 rfl dX3_carryOut_112 rfl rfl ?_
    refine ps_getR (pc' := 116) (r := 133) rfl dX3_carryOut_113 fl_X3_184 ob_130 rfl rfl ?_
    refine pw_iload_n (pc' := 117) 2 rfl dX3_carryOut_116 rfl rfl ?_
    refine ps_iald (pc' := 118) (v := (M12 133 (ix a2))) rfl dX3_carryOut_117 ia_133 b0 rfl ?_
    refine ps_iast (pc' := 119) rfl dX3_carryOut_118 ia_166 b1 ?_
    exact ps_vret dX3_carryOut_119 rfl h
  · have h := h.2 q6
    refine pw_bipush (pc' := 48) rfl dX3_carryOut_46 cb_24 ?_
    refine pw_goto (tgt := 68) dX3_carryOut_48 (by decide) ?_
    refine ps_iast (pc' := 69) rfl dX3_carryOut_68 ia_134 b0 ?_
    refine pw_aload_n (pc' := 70) 1 rfl dX3_carryOut_69 rfl rfl ?_
    refine pw_dup (pc' := 71) rfl dX3_carryOut_70 rfl ?_
    refine ps_getI (pc' := 74) (v := (M3 130 0)) rfl dX3_carryOut_71 fl_X3_174 ob_130 rfl rfl ?_
    refine pw_aload_n (pc' := 75) 0 rfl dX3_carryOut_74 rfl rfl ?_
    refine ps_getR (pc' := 78) (r := 30) rfl dX3_carryOut_75 fl_X3_43 ob_124 rfl rfl ?_
    refine pw_iload_n (pc' := 79) 2 rfl dX3_carryOut_78 rfl rfl ?_
    refine pw_aload_n (pc' := 80) 1 rfl dX3_carryOut_79 rfl rfl ?_
    refine ps_getR (pc' := 83) (r := 133) rfl dX3_carryOut_80 fl_X3_184 ob_130 rfl rfl ?_
    refine pw_iload_n (pc' := 84) 2 rfl dX3_carryOut_83 rfl rfl ?_
    refine ps_iald (pc' := 85) (v := ((wr M3 133 (ix a2) r3) 133 (ix a2))) rfl dX3_carryOut_84 ia_133 b0 rfl ?_
    refine ps_callVI (pc' := 88) (As := [.int a2, .int ((wr M3 133 (ix a2) r3) 133 (ix a2))]) (rest := [.int (M3 130 0), .ref 130]) (cT := (RX5, TX5, 10)) 2 rfl dX3_carryOut_85 cv_X5_weight ml_X3_150 (by decide) rfl rfl (by decide) (Nat.le_of_ble_eq_true rfl) ob_30 rfl rfl (CA.monoI h ?_)
    intro r9 M9 h
    refine pw_iadd (pc' := 89) rfl dX3_carryOut_88 ?_
    refine ps_putI (pc' := 92) rfl dX3_carryOut_89 fl_X3_174 ob_130 rfl ?_
    refine pw_aload_n (pc' := 93) 0 rfl dX3_carryOut_92 rfl rfl ?_
    refine ps_getR (pc' := 96) (r := 165) rfl dX3_carryOut_93 fl_X3_33 ob_124 rfl rfl ?_
    refine pw_iload_n (pc' := 97) 3 rfl dX3_carryOut_96 rfl rfl ?_
    refine pw_aload_n (pc' := 98) 0 rfl dX3_carryOut_97 rfl rfl ?_
    refine ps_getR (pc' := 101) (r := 30) rfl dX3_carryOut_98 fl_X3_43 ob_124 rfl rfl ?_
    refine ps_getR (pc' := 104) (r := 33) rfl dX3_carryOut_101 fl_X3_114 ob_30 rfl rfl ?_
    refine pw_iload_n (pc' := 105) 2 rfl dX3_carryOut_104 rfl rfl ?_
    refine ps_iald (pc' := 106) (v := (M9 33 (ix a2))) rfl dX3_carryOut_105 ia_33 b0 rfl ?_
    refine ps_iast (pc' := 107) rfl dX3_carryOut_106 ia_165 b1 ?_
    refine pw_aload_n (pc' := 108) 0 rfl dX3_carryOut_107 rfl rfl ?_
    refine ps_getR (pc' := 111) (r := 166) rfl dX3_carryOut_108 fl_X3_36 ob_124 rfl rfl ?_
    refine pw_iload_n (pc' := 112) 3 rfl dX3_carryOut_111 rfl rfl ?_
    refine pw_aload_n (pc' := 113) 1 rfl dX3_carryOut_112 rfl rfl ?_
    refine ps_getR (pc' := 116) (r := 133) rfl dX3_carryOut_113 fl_X3_184 ob_130 rfl rfl ?_
    refine pw_iload_n (pc' := 117) 2 rfl dX3_carryOut_116 rfl rfl ?_
    refine ps_iald (pc' := 118) (v := (M9 133 (ix a2))) rfl dX3_carryOut_117 ia_133 b0 rfl ?_
    refine ps_iast (pc' := 119) rfl dX3_carryOut_118 ia_166 b1 ?_
    exact ps_vret dX3_carryOut_119 rfl h
theorem T_X3_fillLeast {M : Mem} {a1 : Int32} {Q : Mem → Prop}  (h : vp_in a1 3 ∧ (C_J7_fill_53178 M (160 + 1 + ix a1) (1000000 : Int32) (fun M1 => C_X3_firstOrder (wr M1 (160 + 1 + ix a1) (ix (nI 0)) (nI 0)) 126 (fun M3 => P_X3_fillLeast_33 M3 a1 (160 + 1 + ix a1) 126 (nI 0) Q)))) : C_X3_fillLeast M a1 Q := by
  refine CA_of rfl (Nat.le_of_ble_eq_true rfl) ?_
  show PS _ _ 0 [(0, .ref 124), (1, .int a1)] [] M _
  refine pw_aload_n (pc' := 1) 0 rfl dX3_fillLeast_0 rfl rfl ?_
  refine ps_getR (pc' := 4) (r := 160) rfl dX3_fillLeast_1 fl_X3_26 ob_124 rfl rfl ?_
  refine pw_iload_n (pc' := 5) 1 rfl dX3_fillLeast_4 rfl rfl ?_
  obtain ⟨b0, h⟩ := h
  refine ps_aald (pc' := 6) rfl dX3_fillLeast_5 ra_160 b0 ?_
  refine pw_astore_n (pc' := 7) (lv' := [(0, .ref 124), (1, .int a1), (2, .ref (160 + 1 + ix a1))]) [1, 2, 0] rfl dX3_fillLeast_6 rfl (by decide) rfl ?_
  refine pw_aload_n (pc' := 8) 2 rfl dX3_fillLeast_7 rfl rfl ?_
  refine pw_ldc (pc' := 10) rfl dX3_fillLeast_8 cn_X3_136 ?_
  refine ps_callSV (pc' := 13) (As := [.ref (160 + 1 + ix a1), .int (1000000 : Int32)]) (rest := []) 2 rfl dX3_fillLeast_10 cs_J7_fill_53178 ml_X3_83 (by decide) rfl rfl (by decide) (Nat.le_of_ble_eq_true rfl) (CA.monoV h ?_)
  intro M1 h
  refine pw_aload_n (pc' := 14) 2 rfl dX3_fillLeast_13 rfl rfl ?_
  refine pw_iconst (pc' := 15) rfl dX3_fillLeast_14 ci_0 ?_
  refine pw_iconst (pc' := 16) rfl dX3_fillLeast_15 ci_0 ?_
  refine ps_iast (pc' := 17) rfl dX3_fillLeast_16 (RA.row ra_160 b0) (vp_in_nI (n := 0) (N := 32) (by decide) (by decide)) ?_
  refine pw_aload_n (pc' := 18) 0 rfl dX3_fillLeast_17 rfl rfl ?_
  refine ps_getR (pc' := 21) (r := 125) rfl dX3_fillLeast_18 fl_X3_12 ob_124 rfl rfl ?_
  refine ps_getR (pc' := 24) (r := 126) rfl dX3_fillLeast_21 fl_X3_137 ob_125 rfl rfl ?_
  refine pw_astore_n (pc' := 25) (lv' := [(0, .ref 124), (1, .int a1), (2, .ref (160 + 1 + ix a1)), (3, .ref 126)]) [1, 2, 3, 0] rfl dX3_fillLeast_24 rfl (by decide) rfl ?_
  refine pw_aload_n (pc' := 26) 0 rfl dX3_fillLeast_25 rfl rfl ?_
  refine pw_aload_n (pc' := 27) 3 rfl dX3_fillLeast_26 rfl rfl ?_
  refine ps_callVV (pc' := 30) (As := [.ref 126]) (rest := []) (cT := (RX3, TX3, 12)) 1 rfl dX3_fillLeast_27 cv_X3_firstOrder ml_X3_140 (by decide) rfl rfl (by decide) (Nat.le_of_ble_eq_true rfl) ob_124 rfl rfl (CA.monoV h ?_)
  intro M3 h
  refine pw_iconst (pc' := 31) rfl dX3_fillLeast_30 ci_0 ?_
  refine pw_istore (pc' := 33) (lv' := [(0, .ref 124), (1, .int a1), (2, .ref (160 + 1 + ix a1)), (3, .ref 126), (4, .int (nI 0))]) [1, 2, 3, 4, 0] rfl dX3_fillLeast_31 (by decide) rfl ?_
  exact pw_sub [0, 1, 2, 3, 4] rfl h
theorem T_X3_fillLeast_33 {M : Mem} {a1 : Int32} {c2 : Nat} {c3 : Nat} {a4 : Int32} {Q : Mem → Prop} (hc2 : IA c2 32) (hc3 : IA c3 5) (h : (((nI 120) ≤ a4) → (Q M)) ∧ ((¬ (nI 120) ≤ a4) → (vp_in a1 3 ∧ (P_X3_fillLeast_63 M a1 c2 c3 a4 (M 31 (ix a1)) (nI 0) (nI 0) (nI 0) (nI 0) Q)))) : P_X3_fillLeast_33 M a1 c2 c3 a4 Q := by
  refine pw_iload (pc' := 35) 4 rfl dX3_fillLeast_33 rfl ?_
  refine pw_bipush (pc' := 37) rfl dX3_fillLeast_35 cb_120 ?_
  refine pw_icmp_ge (pc' := 40) (tgt := 164) rfl dX3_fillLeast_37 (by decide) (fun q0 => ?_) (fun q0 => ?_)
  · have h := h.1 q0
    exact ps_vret dX3_fillLeast_164 rfl h
  · have h := h.2 q0
    refine pw_aload_n (pc' := 41) 0 rfl dX3_fillLeast_40 rfl rfl ?_
    refine ps_getR (pc' := 44) (r := 30) rfl dX3_fillLeast_41 fl_X3_43 ob_124 rfl rfl ?_
    refine ps_getR (pc' := 47) (r := 31) rfl dX3_fillLeast_44 fl_X3_144 ob_30 rfl rfl ?_
    refine pw_iload_n (pc' := 48) 1 rfl dX3_fillLeast_47 rfl rfl ?_
    obtain ⟨b1, h⟩ := h
    refine ps_iald (pc' := 49) (v := (M 31 (ix a1))) rfl dX3_fillLeast_48 ia_31 b1 rfl ?_
    refine pw_istore (pc' := 51) (lv' := [(0, .ref 124), (1, .int a1), (2, .ref c2), (3, .ref c3), (4, .int a4), (5, .int (M 31 (ix a1)))]) [1, 2, 3, 4, 5, 0] rfl dX3_fillLeast_49 (by decide) rfl ?_
    refine pw_iconst (pc' := 52) rfl dX3_fillLeast_51 ci_0 ?_
    refine pw_istore (pc' := 54) (lv' := [(0, .ref 124), (1, .int a1), (2, .ref c2), (3, .ref c3), (4, .int a4), (5, .int (M 31 (ix a1))), (6, .int (nI 0))]) [1, 2, 3, 4, 5, 6, 0] rfl dX3_fillLeast_52 (by decide) rfl ?_
    refine pw_iconst (pc' := 55) rfl dX3_fillLeast_54 ci_0 ?_
    refine pw_istore (pc' := 57) (lv' := [(0, .ref 124), (1, .int a1), (2, .ref c2), (3, .ref c3), (4, .int a4), (5, .int (M 31 (ix a1))), (6, .int (nI 0)), (7, .int (nI 0))]) [1, 2, 3, 4, 5, 6, 7, 0] rfl dX3_fillLeast_55 (by decide) rfl ?_
    refine pw_iconst (pc' := 58) rfl dX3_fillLeast_57 ci_0 ?_
    refine pw_istore (pc' := 60) (lv' := [(0, .ref 124), (1, .int a1), (2, .ref c2), (3, .ref c3), (4, .int a4), (5, .int (M 31 (ix a1))), (6, .int (nI 0)), (7, .int (nI 0)), (8, .int (nI 0))]) [1, 2, 3, 4, 5, 6, 7, 8, 0] rfl dX3_fillLeast_58 (by decide) rfl ?_
    refine pw_iconst (pc' := 61) rfl dX3_fillLeast_60 ci_0 ?_
    refine pw_istore (pc' := 63) (lv' := [(0, .ref 124), (1, .int a1), (2, .ref c2), (3, .ref c3), (4, .int a4), (5, .int (M 31 (ix a1))), (6, .int (nI 0)), (7, .int (nI 0)), (8, .int (nI 0)), (9, .int (nI 0))]) [1, 2, 3, 4, 5, 6, 7, 8, 9, 0] rfl dX3_fillLeast_61 (by decide) rfl ?_
    exact pw_sub [0, 1, 2, 3, 4, 5, 6, 7, 8, 9] rfl h
theorem T_X3_fillLeast_63 {M : Mem} {a1 : Int32} {c2 : Nat} {c3 : Nat} {a4 : Int32} {a5 : Int32} {a6 : Int32} {a7 : Int32} {a8 : Int32} {a9 : Int32} {Q : Mem → Prop} (hc2 : IA c2 32) (hc3 : IA c3 5) (h : (((M 30 3) ≤ a9) → (C_X3_nextOrder M c3 (fun r1 M1 => ((¬ r1 = 0) → (P_X3_fillLeast_33 M1 a1 c2 c3 (a4 + (nI 1)) Q)) ∧ ((r1 = 0) → (Q M1))))) ∧ ((¬ (M 30 3) ≤ a9) → (vp_in a9 5 ∧ (C_X3_doneAt M (M c3 (ix a9)) a5 a6 (fun r2 M2 => vp_in (M c3 (ix a9)) 5 ∧ (C_X5_weight_30 M2 (M c3 (ix a9)) r2 (fun r4 M4 => vp_in (a8 ||| ((nI 1) <<< ((M c3 (ix a9)) &&& 31))) 32 ∧ (P_X3_fillLeast_63 (wr M4 c2 (ix (a8 ||| ((nI 1) <<< ((M c3 (ix a9)) &&& 31)))) (jmin (M4 c2 (ix (a8 ||| ((nI 1) <<< ((M c3 (ix a9)) &&& 31))))) (a7 + r4))) a1 c2 c3 a4 (M2 33 (ix (M c3 (ix a9)))) r2 (a7 + r4) (a8 ||| ((nI 1) <<< ((M c3 (ix a9)) &&& 31))) (a9 + (nI 1)) Q)))))))) : P_X3_fillLeast_63 M a1 c2 c3 a4 a5 a6 a7 a8 a9 Q := by
  refine pw_iload (pc' := 65) 9 rfl dX3_fillLeast_63 rfl ?_
  refine pw_aload_n (pc' := 66) 0 rfl dX3_fillLeast_65 rfl rfl ?_
  refine ps_getR (pc' := 69) (r := 30) rfl dX3_fillLeast_66 fl_X3_43 ob_124 rfl rfl ?_
  refine ps_getI (pc' := 72) (v := (M 30 3)) rfl dX3_fillLeast_69 fl_X3_129 ob_30 rfl rfl ?_
  refine pw_icmp_ge (pc' := 75) (tgt := 149) rfl dX3_fillLeast_72 (by decide) (fun q0 => ?_) (fun q0 => ?_)
  · have h := h.1 q0
    refine pw_aload_n (pc' := 150) 0 rfl dX3_fillLeast_149 rfl rfl ?_
    refine pw_aload_n (pc' := 151) 3 rfl dX3_fillLeast_150 rfl rfl ?_
    refine ps_callVI (pc' := 154) (As := [.ref c3]) (rest := []) (cT := (RX3, TX3, 12)) 1 rfl dX3_fillLeast_151 cv_X3_nextOrder ml_X3_153 (by decide) rfl rfl (by decide) (Nat.le_of_ble_eq_true rfl) ob_124 rfl rfl (CA.monoI h ?_)
    intro r1 M1 h
    refine pw_if_ne (pc' := 157) (tgt := 158) rfl dX3_fillLeast_154 (by decide) (fun q2 => ?_) (fun q2 => ?_)
    · have h := h.1 q2
      refine pw_iinc (pc' := 161) (lv' := [(0, .ref 124), (1, .int a1), (2, .ref c2), (3, .ref c3), (4, .int (a4 + (nI 1))), (5, .int a5), (6, .int a6), (7, .int a7), (8, .int a8), (9, .int a9)]) 4 [1, 2, 3, 4, 0, 5, 6, 7, 8, 9] rfl dX3_fillLeast_158 rfl (ii_1 _) (by decide) rfl ?_
      refine pw_goto (tgt := 33) dX3_fillLeast_161 (by decide) ?_
      exact pw_sub [0, 1, 2, 3, 4] rfl h
    · have h := h.2 q2
      exact ps_vret dX3_fillLeast_157 rfl h
  · have h := h.2 q0
    refine pw_aload_n (pc' := 76) 3 rfl dX3_fillLeast_75 rfl rfl ?_
    refine pw_iload (pc' := 78) 9 rfl dX3_fillLeast_76 rfl ?_
    obtain ⟨b1, h⟩ := h
    refine ps_iald (pc' := 79) (v := (M c3 (ix a9))) rfl dX3_fillLeast_78 hc3 b1 rfl ?_
    refine pw_istore (pc' := 81) (lv' := [(0, .ref 124), (1, .int a1), (2, .ref c2), (3, .ref c3), (4, .int a4), (5, .int a5), (6, .int a6), (7, .int a7), (8, .int a8), (9, .int a9), (10, .int (M c3 (ix a9)))]) [1, 2, 3, 4, 5, 6, 7, 8, 9, 10, 0] rfl dX3_fillLeast_79 (by decide) rfl ?_
    refine pw_aload_n (pc' := 82) 0 rfl dX3_fillLeast_81 rfl rfl ?_
    refine pw_iload (pc' := 84) 10 rfl dX3_fillLeast_82 rfl ?_
    refine pw_iload (pc' := 86) 5 rfl dX3_fillLeast_84 rfl ?_
    refine pw_iload (pc' := 88) 6 rfl dX3_fillLeast_86 rfl ?_
    refine ps_callVI (pc' := 91) (As := [.int (M c3 (ix a9)), .int a5, .int a6]) (rest := []) (cT := (RX3, TX3, 12)) 3 rfl dX3_fillLeast_88 cv_X3_doneAt ml_X3_147 (by decide) rfl rfl (by decide) (Nat.le_of_ble_eq_true rfl) ob_124 rfl rfl (CA.monoI h ?_)
    intro r2 M2 h
    refine pw_istore (pc' := 93) (lv' := [(0, .ref 124), (1, .int a1), (2, .ref c2), (3, .ref c3), (4, .int a4), (5, .int a5), (6, .int r2), (7, .int a7), (8, .int a8), (9, .int a9), (10, .int (M c3 (ix a9)))]) [1, 2, 3, 4, 5, 6, 0, 7, 8, 9, 10] rfl dX3_fillLeast_91 (by decide) rfl ?_
    refine pw_aload_n (pc' := 94) 0 rfl dX3_fillLeast_93 rfl rfl ?_
    refine ps_getR (pc' := 97) (r := 30) rfl dX3_fillLeast_94 fl_X3_43 ob_124 rfl rfl ?_
    refine ps_getR (pc' := 100) (r := 33) rfl dX3_fillLeast_97 fl_X3_114 ob_30 rfl rfl ?_
    refine pw_iload (pc' := 102) 10 rfl dX3_fillLeast_100 rfl ?_
    obtain ⟨b3, h⟩ := h
    refine ps_iald (pc' := 103) (v := (M2 33 (ix (M c3 (ix a9))))) rfl dX3_fillLeast_102 ia_33 b3 rfl ?_
    refine pw_istore (pc' := 105) (lv' := [(0, .ref 124), (1, .int a1), (2, .ref c2), (3, .ref c3), (4, .int a4), (5, .int (M2 33 (ix (M c3 (ix a9))))), (6, .int r2), (7, .int a7), (8, .int a8), (9, .int a9), (10, .int (M c3 (ix a9)))]) [1, 2, 3, 4, 5, 0, 6, 7, 8, 9, 10] rfl dX3_fillLeast_103 (by decide) rfl ?_
    refine pw_iload (pc' := 107) 7 rfl dX3_fillLeast_105 rfl ?_
    refine pw_aload_n (pc' := 108) 0 rfl dX3_fillLeast_107 rfl rfl ?_
    refine ps_getR (pc' := 111) (r := 30) rfl dX3_fillLeast_108 fl_X3_43 ob_124 rfl rfl ?_
    refine pw_iload (pc' := 113) 10 rfl dX3_fillLeast_111 rfl ?_
    refine pw_iload (pc' := 115) 6 rfl dX3_fillLeast_113 rfl ?_
    refine ps_callVI (pc' := 118) (As := [.int (M c3 (ix a9)), .int r2]) (rest := [.int a7]) (cT := (RX5, TX5, 10)) 2 rfl dX3_fillLeast_115 cv_X5_weight ml_X3_150 (by decide) rfl rfl (by decide) (Nat.le_of_ble_eq_true rfl) ob_30 rfl rfl (CA.monoI h ?_)
    intro r4 M4 h
    refine pw_iadd (pc' := 119) rfl dX3_fillLeast_118 ?_
    refine pw_istore (pc' := 121) (lv' := [(0, .ref 124), (1, .int a1), (2, .ref c2), (3, .ref c3), (4, .int a4), (5, .int (M2 33 (ix (M c3 (ix a9))))), (6, .int r2), (7, .int (a7 + r4)), (8, .int a8), (9, .int a9), (10, .int (M c3 (ix a9)))]) [1, 2, 3, 4, 5, 6, 7, 0, 8, 9, 10] rfl dX3_fillLeast_119 (by decide) rfl ?_
    refine pw_iload (pc' := 123) 8 rfl dX3_fillLeast_121 rfl ?_
    refine pw_iconst (pc' := 124) rfl dX3_fillLeast_123 ci_1 ?_
    refine pw_iload (pc' := 126) 10 rfl dX3_fillLeast_124 rfl ?_
    refine pw_ishl (pc' := 127) rfl dX3_fillLeast_126 ?_
    refine pw_ior (pc' := 128) rfl dX3_fillLeast_127 ?_
    refine pw_istore (pc' := 130) (lv' := [(0, .ref 124), (1, .int a1), (2, .ref c2), (3, .ref c3), (4, .int a4), (5, .int (M2 33 (ix (M c3 (ix a9))))), (6, .int r2), (7, .int (a7 + r4)), (8, .int (a8 ||| ((nI 1) <<< ((M c3 (ix a9)) &&& 31)))), (9, .int a9), (10, .int (M c3 (ix a9)))]) [1, 2, 3, 4, 5, 6, 7, 8, 0, 9, 10] rfl dX3_fillLeast_128 (by decide) rfl ?_
    refine pw_aload_n (pc' := 131) 2 rfl dX3_fillLeast_130 rfl rfl ?_
    refine pw_iload (pc' := 133) 8 rfl dX3_fillLeast_131 rfl ?_
    refine pw_aload_n (pc' := 134) 2 rfl dX3_fillLeast_133 rfl rfl ?_
    refine pw_iload (pc' := 136) 8 rfl dX3_fillLeast_134 rfl ?_
    obtain ⟨b5, h⟩ := h
    refine ps_iald (pc' := 137) (v := (M4 c2 (ix (a8 ||| ((nI 1) <<< ((M c3 (ix a9)) &&& 31)))))) rfl dX3_fillLeast_136 hc2 b5 rfl ?_
    refine pw_iload (pc' := 139) 7 rfl dX3_fillLeast_137 rfl ?_
    refine pw_min (pc' := 142) rfl dX3_fillLeast_139 ml_X3_122 mx_min1 mx_ini mx_min3 (by decide) (Nat.le_of_ble_eq_true rfl) (Nat.le_refl 0) (Nat.le_refl 0) ?_
    refine ps_iast (pc' := 143) rfl dX3_fillLeast_142 hc2 b5 ?_
    refine pw_iinc (pc' := 146) (lv' := [(0, .ref 124), (1, .int a1), (2, .ref c2), (3, .ref c3), (4, .int a4), (5, .int (M2 33 (ix (M c3 (ix a9))))), (6, .int r2), (7, .int (a7 + r4)), (8, .int (a8 ||| ((nI 1) <<< ((M c3 (ix a9)) &&& 31)))), (9, .int (a9 + (nI 1))), (10, .int (M c3 (ix a9)))]) 9 [1, 2, 3, 4, 5, 6, 7, 8, 9, 0, 10] rfl dX3_fillLeast_143 rfl (ii_1 _) (by decide) rfl ?_
    refine pw_goto (tgt := 63) dX3_fillLeast_146 (by decide) ?_
    exact pw_sub [0, 1, 2, 3, 4, 5, 6, 7, 8, 9] rfl h
theorem T_X3_plan {M : Mem} {a1 : Int32} {Q : Nat → Mem → Prop}  (h : ((¬ a1 = 0) → (Q 130 M)) ∧ ((a1 = 0) → (Q 125 M))) : C_X3_plan M a1 Q := by
  refine CA_of rfl (Nat.le_of_ble_eq_true rfl) ?_
  show PS _ _ 0 [(0, .ref 124), (1, .int a1)] [] M _
  refine pw_iload_n (pc' := 1) 1 rfl dX3_plan_0 rfl rfl ?_
  refine pw_if_ne (pc' := 4) (tgt := 11) rfl dX3_plan_1 (by decide) (fun q0 => ?_) (fun q0 => ?_)
  · have h := h.1 q0
    refine pw_aload_n (pc' := 12) 0 rfl dX3_plan_11 rfl rfl ?_
    refine ps_getR (pc' := 15) (r := 130) rfl dX3_plan_12 fl_X3_18 ob_124 rfl rfl ?_
    exact ps_aret dX3_plan_15 rfl (Or.inl ⟨_, rfl⟩) h
  · have h := h.2 q0
    refine pw_aload_n (pc' := 5) 0 rfl dX3_plan_4 rfl rfl ?_
    refine ps_getR (pc' := 8) (r := 125) rfl dX3_plan_5 fl_X3_12 ob_124 rfl rfl ?_
    refine pw_goto (tgt := 15) dX3_plan_8 (by decide) ?_
    exact ps_aret dX3_plan_15 rfl (Or.inl ⟨_, rfl⟩) h
theorem T_X1_findLiars {M : Mem} {a1 : Int32} {Q : Int32 → Mem → Prop}  (h : P_X1_findLiars_4 M a1 (nI 0) (nI 0) Q) : C_X1_findLiars M a1 Q := by
  refine CA_of rfl (Nat.le_of_ble_eq_true rfl) ?_
  show PS _ _ 0 [(0, .ref 167), (1, .int a1)] [] M _
  refine pw_iconst (pc' := 1) rfl dX1_findLiars_0 ci_0 ?_
  refine pw_istore_n (pc' := 2) (lv' := [(0, .ref 167), (1, .int a1), (2, .int (nI 0))]) [1, 2, 0] rfl dX1_findLiars_1 rfl (by decide) rfl ?_
  refine pw_iconst (pc' := 3) rfl dX1_findLiars_2 ci_0 ?_
  refine pw_istore_n (pc' := 4) (lv' := [(0, .ref 167), (1, .int a1), (2, .int (nI 0)), (3, .int (nI 0))]) [1, 2, 3, 0] rfl dX1_findLiars_3 rfl (by decide) rfl ?_
  exact pw_sub [0, 1, 2, 3] rfl h
theorem T_X1_findLiars_4 {M : Mem} {a1 : Int32} {a2 : Int32} {a3 : Int32} {Q : Int32 → Mem → Prop}  (h : (((M 37 1) ≤ a3) → (P_X1_findLiars_42 M a1 a2 (nI 0) Q)) ∧ ((¬ (M 37 1) ≤ a3) → (((a3 = a1) → (P_X1_findLiars_4 M a1 a2 (a3 + (nI 1)) Q)) ∧ ((¬ a3 = a1) → (vp_in a3 12 ∧ (P_X1_findLiars_4 M a1 (a2 ||| ((nI 1) <<< ((M 39 (ix a3)) &&& 31))) (a3 + (nI 1)) Q)))))) : P_X1_findLiars_4 M a1 a2 a3 Q := by
  refine pw_iload_n (pc' := 5) 3 rfl dX1_findLiars_4 rfl rfl ?_
  refine pw_aload_n (pc' := 6) 0 rfl dX1_findLiars_5 rfl rfl ?_
  refine ps_getR (pc' := 9) (r := 37) rfl dX1_findLiars_6 fl_X1_20 ob_167 rfl rfl ?_
  refine ps_getI (pc' := 12) (v := (M 37 1)) rfl dX1_findLiars_9 fl_X1_24 ob_37 rfl rfl ?_
  refine pw_icmp_ge (pc' := 15) (tgt := 40) rfl dX1_findLiars_12 (by decide) (fun q0 => ?_) (fun q0 => ?_)
  · have h := h.1 q0
    refine pw_iconst (pc' := 41) rfl dX1_findLiars_40 ci_0 ?_
    refine pw_istore_n (pc' := 42) (lv' := [(0, .ref 167), (1, .int a1), (2, .int a2), (3, .int (nI 0))]) [1, 2, 3, 0] rfl dX1_findLiars_41 rfl (by decide) rfl ?_
    exact pw_sub [0, 1, 2, 3] rfl h
  · have h := h.2 q0
    refine pw_iload_n (pc' := 16) 3 rfl dX1_findLiars_15 rfl rfl ?_
    refine pw_iload_n (pc' := 17) 1 rfl dX1_findLiars_16 rfl rfl ?_
    refine pw_icmp_eq (pc' := 20) (tgt := 34) rfl dX1_findLiars_17 (by decide) (fun q1 => ?_) (fun q1 => ?_)
    · have h := h.1 q1
      refine pw_iinc (pc' := 37) (lv' := [(0, .ref 167), (1, .int a1), (2, .int a2), (3, .int (a3 + (nI 1)))]) 3 [1, 2, 3, 0] rfl dX1_findLiars_34 rfl (ii_1 _) (by decide) rfl ?_
      refine pw_goto (tgt := 4) dX1_findLiars_37 (by decide) ?_
      exact pw_sub [0, 1, 2, 3] rfl h
    · have h := h.2 q1
      refine pw_iload_n (pc' := 21) 2 rfl dX1_findLiars_20 rfl rfl ?_
      refine pw_iconst (pc' := 22) rfl dX1_findLiars_21 ci_1 ?_
      refine pw_aload_n (pc' := 23) 0 rfl dX1_findLiars_22 rfl rfl ?_
      refine ps_getR (pc' := 26) (r := 37) rfl dX1_findLiars_23 fl_X1_20 ob_167 rfl rfl ?_
      refine ps_getR (pc' := 29) (r := 39) rfl dX1_findLiars_26 fl_X1_30 ob_37 rfl rfl ?_
      refine pw_iload_n (pc' := 30) 3 rfl dX1_findLiars_29 rfl rfl ?_
      obtain ⟨b2, h⟩ := h
      refine ps_iald (pc' := 31) (v := (M 39 (ix a3))) rfl dX1_findLiars_30 ia_39 b2 rfl ?_
      refine pw_ishl (pc' := 32) rfl dX1_findLiars_31 ?_
      refine pw_ior (pc' := 33) rfl dX1_findLiars_32 ?_
      refine pw_istore_n (pc' := 34) (lv' := [(0, .ref 167), (1, .int a1), (2, .int (a2 ||| ((nI 1) <<< ((M 39 (ix a3)) &&& 31)))), (3, .int a3)]) [1, 2, 0, 3] rfl dX1_findLiars_33 rfl (by decide) rfl ?_
      refine pw_iinc (pc' := 37) (lv' := [(0, .ref 167), (1, .int a1), (2, .int (a2 ||| ((nI 1) <<< ((M 39 (ix a3)) &&& 31)))), (3, .int (a3 + (nI 1)))]) 3 [1, 2, 3, 0] rfl dX1_findLiars_34 rfl (ii_1 _) (by decide) rfl ?_
      refine pw_goto (tgt := 4) dX1_findLiars_37 (by decide) ?_
      exact pw_sub [0, 1, 2, 3] rfl h
theorem T_X1_findLiars_42 {M : Mem} {a1 : Int32} {a2 : Int32} {a3 : Int32} {Q : Int32 → Mem → Prop}  (h : (((M 37 0) ≤ a3) → (C_X1_haveWays M (((nI 1) <<< ((M 37 0) &&& 31)) - (nI 1)) a1 (fun r1 M1 => Q (((nI 1) <<< ((M 37 0) &&& 31)) - (nI 1)) M1))) ∧ ((¬ (M 37 0) ≤ a3) → (P_X1_findLiars_56 M a1 a2 a3 (nI 0) Q))) : P_X1_findLiars_42 M a1 a2 a3 Q := by
  refine pw_iload_n (pc' := 43) 3 rfl dX1_findLiars_42 rfl rfl ?_
  refine pw_aload_n (pc' := 44) 0 rfl dX1_findLiars_43 rfl rfl ?_
  refine ps_getR (pc' := 47) (r := 37) rfl dX1_findLiars_44 fl_X1_20 ob_167 rfl rfl ?_
  refine ps_getI (pc' := 50) (v := (M 37 0)) rfl dX1_findLiars_47 fl_X1_34 ob_37 rfl rfl ?_
  refine pw_icmp_ge (pc' := 53) (tgt := 113) rfl dX1_findLiars_50 (by decide) (fun q0 => ?_) (fun q0 => ?_)
  · have h := h.1 q0
    refine pw_iconst (pc' := 114) rfl dX1_findLiars_113 ci_1 ?_
    refine pw_aload_n (pc' := 115) 0 rfl dX1_findLiars_114 rfl rfl ?_
    refine ps_getR (pc' := 118) (r := 37) rfl dX1_findLiars_115 fl_X1_20 ob_167 rfl rfl ?_
    refine ps_getI (pc' := 121) (v := (M 37 0)) rfl dX1_findLiars_118 fl_X1_34 ob_37 rfl rfl ?_
    refine pw_ishl (pc' := 122) rfl dX1_findLiars_121 ?_
    refine pw_iconst (pc' := 123) rfl dX1_findLiars_122 ci_1 ?_
    refine pw_isub (pc' := 124) rfl dX1_findLiars_123 ?_
    refine pw_istore_n (pc' := 125) (lv' := [(0, .ref 167), (1, .int a1), (2, .int a2), (3, .int (((nI 1) <<< ((M 37 0) &&& 31)) - (nI 1)))]) [1, 2, 3, 0] rfl dX1_findLiars_124 rfl (by decide) rfl ?_
    refine pw_aload_n (pc' := 126) 0 rfl dX1_findLiars_125 rfl rfl ?_
    refine pw_iload_n (pc' := 127) 3 rfl dX1_findLiars_126 rfl rfl ?_
    refine pw_iload_n (pc' := 128) 1 rfl dX1_findLiars_127 rfl rfl ?_
    refine ps_callVI (pc' := 131) (As := [.int (((nI 1) <<< ((M 37 0) &&& 31)) - (nI 1)), .int a1]) (rest := []) (cT := (RX1, TX1, 3)) 2 rfl dX1_findLiars_128 cv_X1_haveWays ml_X1_43 (by decide) rfl rfl (by decide) (Nat.le_of_ble_eq_true rfl) ob_167 rfl rfl (CA.monoI h ?_)
    intro r1 M1 h
    refine pw_pop (pc' := 132) rfl dX1_findLiars_131 rfl ?_
    refine pw_iload_n (pc' := 133) 3 rfl dX1_findLiars_132 rfl rfl ?_
    exact ps_iret dX1_findLiars_133 rfl h
  · have h := h.2 q0
    refine pw_iconst (pc' := 54) rfl dX1_findLiars_53 ci_0 ?_
    refine pw_istore (pc' := 56) (lv' := [(0, .ref 167), (1, .int a1), (2, .int a2), (3, .int a3), (4, .int (nI 0))]) [1, 2, 3, 4, 0] rfl dX1_findLiars_54 (by decide) rfl ?_
    exact pw_sub [0, 1, 2, 3, 4] rfl h
theorem T_X1_findLiars_56 {M : Mem} {a1 : Int32} {a2 : Int32} {a3 : Int32} {a4 : Int32} {Q : Int32 → Mem → Prop}  (h : ((((nI 1) <<< ((M 37 0) &&& 31)) ≤ a4) → (P_X1_findLiars_42 M a1 a2 (a3 + (nI 1)) Q)) ∧ ((¬ ((nI 1) <<< ((M 37 0) &&& 31)) ≤ a4) → (((¬ (a4 &&& (a2 ^^^ (-1))) = 0) → (P_X1_findLiars_56 M a1 a2 a3 (a4 + (nI 1)) Q)) ∧ (((a4 &&& (a2 ^^^ (-1))) = 0) → (C_J6_bitCount_0f7a4 M a4 (fun r2 M2 => ((¬ r2 = a3) → (P_X1_findLiars_56 M2 a1 a2 a3 (a4 + (nI 1)) Q)) ∧ ((r2 = a3) → (C_X1_haveWays M2 a4 a1 (fun r4 M4 => ((r4 = 0) → (P_X1_findLiars_56 M4 a1 a2 a3 (a4 + (nI 1)) Q)) ∧ ((¬ r4 = 0) → (Q a4 M4))))))))))) : P_X1_findLiars_56 M a1 a2 a3 a4 Q := by
  refine pw_iload (pc' := 58) 4 rfl dX1_findLiars_56 rfl ?_
  refine pw_iconst (pc' := 59) rfl dX1_findLiars_58 ci_1 ?_
  refine pw_aload_n (pc' := 60) 0 rfl dX1_findLiars_59 rfl rfl ?_
  refine ps_getR (pc' := 63) (r := 37) rfl dX1_findLiars_60 fl_X1_20 ob_167 rfl rfl ?_
  refine ps_getI (pc' := 66) (v := (M 37 0)) rfl dX1_findLiars_63 fl_X1_34 ob_37 rfl rfl ?_
  refine pw_ishl (pc' := 67) rfl dX1_findLiars_66 ?_
  refine pw_icmp_ge (pc' := 70) (tgt := 107) rfl dX1_findLiars_67 (by decide) (fun q0 => ?_) (fun q0 => ?_)
  · have h := h.1 q0
    refine pw_iinc (pc' := 110) (lv' := [(0, .ref 167), (1, .int a1), (2, .int a2), (3, .int (a3 + (nI 1))), (4, .int a4)]) 3 [1, 2, 3, 0, 4] rfl dX1_findLiars_107 rfl (ii_1 _) (by decide) rfl ?_
    refine pw_goto (tgt := 42) dX1_findLiars_110 (by decide) ?_
    exact pw_sub [0, 1, 2, 3] rfl h
  · have h := h.2 q0
    refine pw_iload (pc' := 72) 4 rfl dX1_findLiars_70 rfl ?_
    refine pw_iload_n (pc' := 73) 2 rfl dX1_findLiars_72 rfl rfl ?_
    refine pw_iconst (pc' := 74) rfl dX1_findLiars_73 ci_m1 ?_
    refine pw_ixor (pc' := 75) rfl dX1_findLiars_74 ?_
    refine pw_iand (pc' := 76) rfl dX1_findLiars_75 ?_
    refine pw_if_ne (pc' := 79) (tgt := 101) rfl dX1_findLiars_76 (by decide) (fun q1 => ?_) (fun q1 => ?_)
    · have h := h.1 q1
      refine pw_iinc (pc' := 104) (lv' := [(0, .ref 167), (1, .int a1), (2, .int a2), (3, .int a3), (4, .int (a4 + (nI 1)))]) 4 [1, 2, 3, 4, 0] rfl dX1_findLiars_101 rfl (ii_1 _) (by decide) rfl ?_
      refine pw_goto (tgt := 56) dX1_findLiars_104 (by decide) ?_
      exact pw_sub [0, 1, 2, 3, 4] rfl h
    · have h := h.2 q1
      refine pw_iload (pc' := 81) 4 rfl dX1_findLiars_79 rfl ?_
      refine ps_callSI (pc' := 84) (As := [.int a4]) (rest := []) 1 rfl dX1_findLiars_81 cs_J6_bitCount_0f7a4 ml_X1_37 (by decide) rfl rfl (by decide) (Nat.le_of_ble_eq_true rfl) (CA.monoI h ?_)
      intro r2 M2 h
      refine pw_iload_n (pc' := 85) 3 rfl dX1_findLiars_84 rfl rfl ?_
      refine pw_icmp_ne (pc' := 88) (tgt := 101) rfl dX1_findLiars_85 (by decide) (fun q3 => ?_) (fun q3 => ?_)
      · have h := h.1 q3
        refine pw_iinc (pc' := 104) (lv' := [(0, .ref 167), (1, .int a1), (2, .int a2), (3, .int a3), (4, .int (a4 + (nI 1)))]) 4 [1, 2, 3, 4, 0] rfl dX1_findLiars_101 rfl (ii_1 _) (by decide) rfl ?_
        refine pw_goto (tgt := 56) dX1_findLiars_104 (by decide) ?_
        exact pw_sub [0, 1, 2, 3, 4] rfl h
      · have h := h.2 q3
        refine pw_aload_n (pc' := 89) 0 rfl dX1_findLiars_88 rfl rfl ?_
        refine pw_iload (pc' := 91) 4 rfl dX1_findLiars_89 rfl ?_
        refine pw_iload_n (pc' := 92) 1 rfl dX1_findLiars_91 rfl rfl ?_
        refine ps_callVI (pc' := 95) (As := [.int a4, .int a1]) (rest := []) (cT := (RX1, TX1, 3)) 2 rfl dX1_findLiars_92 cv_X1_haveWays ml_X1_43 (by decide) rfl rfl (by decide) (Nat.le_of_ble_eq_true rfl) ob_167 rfl rfl (CA.monoI h ?_)
        intro r4 M4 h
        refine pw_if_eq (pc' := 98) (tgt := 101) rfl dX1_findLiars_95 (by decide) (fun q5 => ?_) (fun q5 => ?_)
        · have h := h.1 q5
          refine pw_iinc (pc' := 104) (lv' := [(0, .ref 167), (1, .int a1), (2, .int a2), (3, .int a3), (4, .int (a4 + (nI 1)))]) 4 [1, 2, 3, 4, 0] rfl dX1_findLiars_101 rfl (ii_1 _) (by decide) rfl ?_
          refine pw_goto (tgt := 56) dX1_findLiars_104 (by decide) ?_
          exact pw_sub [0, 1, 2, 3, 4] rfl h
        · have h := h.2 q5
          refine pw_iload (pc' := 100) 4 rfl dX1_findLiars_98 rfl ?_
          exact ps_iret dX1_findLiars_100 rfl h
theorem T_X1_haveWays {M : Mem} {a1 : Int32} {a2 : Int32} {Q : Int32 → Mem → Prop}  (h : P_X1_haveWays_2 M a1 a2 (nI 0) Q) : C_X1_haveWays M a1 a2 Q := by
  refine CA_of rfl (Nat.le_of_ble_eq_true rfl) ?_
  show PS _ _ 0 [(0, .ref 167), (1, .int a1), (2, .int a2)] [] M _
  refine pw_iconst (pc' := 1) rfl dX1_haveWays_0 ci_0 ?_
  refine pw_istore_n (pc' := 2) (lv' := [(0, .ref 167), (1, .int a1), (2, .int a2), (3, .int (nI 0))]) [1, 2, 3, 0] rfl dX1_haveWays_1 rfl (by decide) rfl ?_
  exact pw_sub [0, 1, 2, 3] rfl h
theorem T_X1_haveWays_2 {M : Mem} {a1 : Int32} {a2 : Int32} {a3 : Int32} {Q : Int32 → Mem → Prop}  (h : (((M 37 0) ≤ a3) → (P_X1_haveWays_31 M a1 a2 (nI 0) Q)) ∧ ((¬ (M 37 0) ≤ a3) → (vp_in a3 5 ∧ (C_J7_fill_53178 M (168 + 1 + ix a3) (-1) (fun M2 => P_X1_haveWays_2 M2 a1 a2 (a3 + (nI 1)) Q))))) : P_X1_haveWays_2 M a1 a2 a3 Q := by
  refine pw_iload_n (pc' := 3) 3 rfl dX1_haveWays_2 rfl rfl ?_
  refine pw_aload_n (pc' := 4) 0 rfl dX1_haveWays_3 rfl rfl ?_
  refine ps_getR (pc' := 7) (r := 37) rfl dX1_haveWays_4 fl_X1_20 ob_167 rfl rfl ?_
  refine ps_getI (pc' := 10) (v := (M 37 0)) rfl dX1_haveWays_7 fl_X1_34 ob_37 rfl rfl ?_
  refine pw_icmp_ge (pc' := 13) (tgt := 29) rfl dX1_haveWays_10 (by decide) (fun q0 => ?_) (fun q0 => ?_)
  · have h := h.1 q0
    refine pw_iconst (pc' := 30) rfl dX1_haveWays_29 ci_0 ?_
    refine pw_istore_n (pc' := 31) (lv' := [(0, .ref 167), (1, .int a1), (2, .int a2), (3, .int (nI 0))]) [1, 2, 3, 0] rfl dX1_haveWays_30 rfl (by decide) rfl ?_
    exact pw_sub [0, 1, 2, 3] rfl h
  · have h := h.2 q0
    refine pw_aload_n (pc' := 14) 0 rfl dX1_haveWays_13 rfl rfl ?_
    refine ps_getR (pc' := 17) (r := 168) rfl dX1_haveWays_14 fl_X1_11 ob_167 rfl rfl ?_
    refine pw_iload_n (pc' := 18) 3 rfl dX1_haveWays_17 rfl rfl ?_
    obtain ⟨b1, h⟩ := h
    refine ps_aald (pc' := 19) rfl dX1_haveWays_18 ra_168 b1 ?_
    refine pw_iconst (pc' := 20) rfl dX1_haveWays_19 ci_m1 ?_
    refine ps_callSV (pc' := 23) (As := [.ref (168 + 1 + ix a3), .int (-1)]) (rest := []) 2 rfl dX1_haveWays_20 cs_J7_fill_53178 ml_X1_47 (by decide) rfl rfl (by decide) (Nat.le_of_ble_eq_true rfl) (CA.monoV h ?_)
    intro M2 h
    refine pw_iinc (pc' := 26) (lv' := [(0, .ref 167), (1, .int a1), (2, .int a2), (3, .int (a3 + (nI 1)))]) 3 [1, 2, 3, 0] rfl dX1_haveWays_23 rfl (ii_1 _) (by decide) rfl ?_
    refine pw_goto (tgt := 2) dX1_haveWays_26 (by decide) ?_
    exact pw_sub [0, 1, 2, 3] rfl h
theorem T_X1_haveWays_31 {M : Mem} {a1 : Int32} {a2 : Int32} {a3 : Int32} {Q : Int32 → Mem → Prop}  (h : (((M 37 1) ≤ a3) → (P_X1_haveWays_144 M (nI 0) Q)) ∧ ((¬ (M 37 1) ≤ a3) → (((a3 = a2) → (P_X1_haveWays_31 M a1 a2 (a3 + (nI 1)) Q)) ∧ ((¬ a3 = a2) → (vp_in a3 12 ∧ (((((a1 >>> ((M 39 (ix a3)) &&& 31)) &&& (nI 1)) = 0) → (C_X1_pin M (M 39 (ix a3)) (M 41 (ix a3)) (M 42 (ix a3)) (fun r7 M7 => ((r7 = 0) → (Q (nI 0) M7)) ∧ ((¬ r7 = 0) → (C_X1_pin M7 (M7 40 (ix a3)) (M7 41 (ix a3)) (M7 42 (ix a3)) (fun r12 M12 => ((¬ r12 = 0) → (P_X1_haveWays_31 M12 a1 a2 (a3 + (nI 1)) Q)) ∧ ((r12 = 0) → (Q (nI 0) M12)))))))) ∧ ((¬ ((a1 >>> ((M 39 (ix a3)) &&& 31)) &&& (nI 1)) = 0) → (P_X1_haveWays_31 M a1 a2 (a3 + (nI 1)) Q)))))))) : P_X1_haveWays_31 M a1 a2 a3 Q := by
  refine pw_iload_n (pc' := 32) 3 rfl dX1_haveWays_31 rfl rfl ?_
  refine pw_aload_n (pc' := 33) 0 rfl dX1_haveWays_32 rfl rfl ?_
  refine ps_getR (pc' := 36) (r := 37) rfl dX1_haveWays_33 fl_X1_20 ob_167 rfl rfl ?_
  refine ps_getI (pc' := 39) (v := (M 37 1)) rfl dX1_haveWays_36 fl_X1_24 ob_37 rfl rfl ?_
  refine pw_icmp_ge (pc' := 42) (tgt := 142) rfl dX1_haveWays_39 (by decide) (fun q0 => ?_) (fun q0 => ?_)
  · have h := h.1 q0
    refine pw_iconst (pc' := 143) rfl dX1_haveWays_142 ci_0 ?_
    refine pw_istore_n (pc' := 144) (lv' := [(0, .ref 167), (1, .int a1), (2, .int a2), (3, .int (nI 0))]) [1, 2, 3, 0] rfl dX1_haveWays_143 rfl (by decide) rfl ?_
    exact pw_sub [0, 3] rfl h
  · have h := h.2 q0
    refine pw_iload_n (pc' := 43) 3 rfl dX1_haveWays_42 rfl rfl ?_
    refine pw_iload_n (pc' := 44) 2 rfl dX1_haveWays_43 rfl rfl ?_
    refine pw_icmp_eq (pc' := 47) (tgt := 136) rfl dX1_haveWays_44 (by decide) (fun q1 => ?_) (fun q1 => ?_)
    · have h := h.1 q1
      refine pw_iinc (pc' := 139) (lv' := [(0, .ref 167), (1, .int a1), (2, .int a2), (3, .int (a3 + (nI 1)))]) 3 [1, 2, 3, 0] rfl dX1_haveWays_136 rfl (ii_1 _) (by decide) rfl ?_
      refine pw_goto (tgt := 31) dX1_haveWays_139 (by decide) ?_
      exact pw_sub [0, 1, 2, 3] rfl h
    · have h := h.2 q1
      refine pw_iload_n (pc' := 48) 1 rfl dX1_haveWays_47 rfl rfl ?_
      refine pw_aload_n (pc' := 49) 0 rfl dX1_haveWays_48 rfl rfl ?_
      refine ps_getR (pc' := 52) (r := 37) rfl dX1_haveWays_49 fl_X1_20 ob_167 rfl rfl ?_
      refine ps_getR (pc' := 55) (r := 39) rfl dX1_haveWays_52 fl_X1_30 ob_37 rfl rfl ?_
      refine pw_iload_n (pc' := 56) 3 rfl dX1_haveWays_55 rfl rfl ?_
      obtain ⟨b2, h⟩ := h
      refine ps_iald (pc' := 57) (v := (M 39 (ix a3))) rfl dX1_haveWays_56 ia_39 b2 rfl ?_
      refine pw_ishr (pc' := 58) rfl dX1_haveWays_57 ?_
      refine pw_iconst (pc' := 59) rfl dX1_haveWays_58 ci_1 ?_
      refine pw_iand (pc' := 60) rfl dX1_haveWays_59 ?_
      refine pw_if_eq (pc' := 63) (tgt := 66) rfl dX1_haveWays_60 (by decide) (fun q3 => ?_) (fun q3 => ?_)
      · have h := h.1 q3
        refine pw_aload_n (pc' := 67) 0 rfl dX1_haveWays_66 rfl rfl ?_
        refine pw_aload_n (pc' := 68) 0 rfl dX1_haveWays_67 rfl rfl ?_
        refine ps_getR (pc' := 71) (r := 37) rfl dX1_haveWays_68 fl_X1_20 ob_167 rfl rfl ?_
        refine ps_getR (pc' := 74) (r := 39) rfl dX1_haveWays_71 fl_X1_30 ob_37 rfl rfl ?_
        refine pw_iload_n (pc' := 75) 3 rfl dX1_haveWays_74 rfl rfl ?_
        refine ps_iald (pc' := 76) (v := (M 39 (ix a3))) rfl dX1_haveWays_75 ia_39 b2 rfl ?_
        refine pw_aload_n (pc' := 77) 0 rfl dX1_haveWays_76 rfl rfl ?_
        refine ps_getR (pc' := 80) (r := 37) rfl dX1_haveWays_77 fl_X1_20 ob_167 rfl rfl ?_
        refine ps_getR (pc' := 83) (r := 41) rfl dX1_haveWays_80 fl_X1_53 ob_37 rfl rfl ?_
        refine pw_iload_n (pc' := 84) 3 rfl dX1_haveWays_83 rfl rfl ?_
        refine ps_iald (pc' := 85) (v := (M 41 (ix a3))) rfl dX1_haveWays_84 ia_41 b2 rfl ?_
        refine pw_aload_n (pc' := 86) 0 rfl dX1_haveWays_85 rfl rfl ?_
        refine ps_getR (pc' := 89) (r := 37) rfl dX1_haveWays_86 fl_X1_20 ob_167 rfl rfl ?_
        refine ps_getR (pc' := 92) (r := 42) rfl dX1_haveWays_89 fl_X1_56 ob_37 rfl rfl ?_
        refine pw_iload_n (pc' := 93) 3 rfl dX1_haveWays_92 rfl rfl ?_
        refine ps_iald (pc' := 94) (v := (M 42 (ix a3))) rfl dX1_haveWays_93 ia_42 b2 rfl ?_
        refine ps_callVI (pc' := 97) (As := [.int (M 39 (ix a3)), .int (M 41 (ix a3)), .int (M 42 (ix a3))]) (rest := []) (cT := (RX1, TX1, 3)) 3 rfl dX1_haveWays_94 cv_X1_pin ml_X1_59 (by decide) rfl rfl (by decide) (Nat.le_of_ble_eq_true rfl) ob_167 rfl rfl (CA.monoI h ?_)
        intro r7 M7 h
        refine pw_if_eq (pc' := 100) (tgt := 134) rfl dX1_haveWays_97 (by decide) (fun q8 => ?_) (fun q8 => ?_)
        · have h := h.1 q8
          refine pw_iconst (pc' := 135) rfl dX1_haveWays_134 ci_0 ?_
          exact ps_zret dX1_haveWays_135 rfl (by decide) h
        · have h := h.2 q8
          refine pw_aload_n (pc' := 101) 0 rfl dX1_haveWays_100 rfl rfl ?_
          refine pw_aload_n (pc' := 102) 0 rfl dX1_haveWays_101 rfl rfl ?_
          refine ps_getR (pc' := 105) (r := 37) rfl dX1_haveWays_102 fl_X1_20 ob_167 rfl rfl ?_
          refine ps_getR (pc' := 108) (r := 40) rfl dX1_haveWays_105 fl_X1_63 ob_37 rfl rfl ?_
          refine pw_iload_n (pc' := 109) 3 rfl dX1_haveWays_108 rfl rfl ?_
          refine ps_iald (pc' := 110) (v := (M7 40 (ix a3))) rfl dX1_haveWays_109 ia_40 b2 rfl ?_
          refine pw_aload_n (pc' := 111) 0 rfl dX1_haveWays_110 rfl rfl ?_
          refine ps_getR (pc' := 114) (r := 37) rfl dX1_haveWays_111 fl_X1_20 ob_167 rfl rfl ?_
          refine ps_getR (pc' := 117) (r := 41) rfl dX1_haveWays_114 fl_X1_53 ob_37 rfl rfl ?_
          refine pw_iload_n (pc' := 118) 3 rfl dX1_haveWays_117 rfl rfl ?_
          refine ps_iald (pc' := 119) (v := (M7 41 (ix a3))) rfl dX1_haveWays_118 ia_41 b2 rfl ?_
          refine pw_aload_n (pc' := 120) 0 rfl dX1_haveWays_119 rfl rfl ?_
          refine ps_getR (pc' := 123) (r := 37) rfl dX1_haveWays_120 fl_X1_20 ob_167 rfl rfl ?_
          refine ps_getR (pc' := 126) (r := 42) rfl dX1_haveWays_123 fl_X1_56 ob_37 rfl rfl ?_
          refine pw_iload_n (pc' := 127) 3 rfl dX1_haveWays_126 rfl rfl ?_
          refine ps_iald (pc' := 128) (v := (M7 42 (ix a3))) rfl dX1_haveWays_127 ia_42 b2 rfl ?_
          refine ps_callVI (pc' := 131) (As := [.int (M7 40 (ix a3)), .int (M7 41 (ix a3)), .int (M7 42 (ix a3))]) (rest := []) (cT := (RX1, TX1, 3)) 3 rfl dX1_haveWays_128 cv_X1_pin ml_X1_59 (by decide) rfl rfl (by decide) (Nat.le_of_ble_eq_true rfl) ob_167 rfl rfl (CA.monoI h ?_)
          intro r12 M12 h
          refine pw_if_ne (pc' := 134) (tgt := 136) rfl dX1_haveWays_131 (by decide) (fun q13 => ?_) (fun q13 => ?_)
          · have h := h.1 q13
            refine pw_iinc (pc' := 139) (lv' := [(0, .ref 167), (1, .int a1), (2, .int a2), (3, .int (a3 + (nI 1)))]) 3 [1, 2, 3, 0] rfl dX1_haveWays_136 rfl (ii_1 _) (by decide) rfl ?_
            refine pw_goto (tgt := 31) dX1_haveWays_139 (by decide) ?_
            exact pw_sub [0, 1, 2, 3] rfl h
          · have h := h.2 q13
            refine pw_iconst (pc' := 135) rfl dX1_haveWays_134 ci_0 ?_
            exact ps_zret dX1_haveWays_135 rfl (by decide) h
      · have h := h.2 q3
        refine pw_goto (tgt := 136) dX1_haveWays_63 (by decide) ?_
        refine pw_iinc (pc' := 139) (lv' := [(0, .ref 167), (1, .int a1), (2, .int a2), (3, .int (a3 + (nI 1)))]) 3 [1, 2, 3, 0] rfl dX1_haveWays_136 rfl (ii_1 _) (by decide) rfl ?_
        refine pw_goto (tgt := 31) dX1_haveWays_139 (by decide) ?_
        exact pw_sub [0, 1, 2, 3] rfl h
theorem T_X1_haveWays_144 {M : Mem} {a3 : Int32} {Q : Int32 → Mem → Prop}  (h : (((M 37 0) ≤ a3) → (Q (nI 1) M)) ∧ ((¬ (M 37 0) ≤ a3) → (C_X1_hasWay M a3 (fun r1 M1 => ((¬ r1 = 0) → (P_X1_haveWays_144 M1 (a3 + (nI 1)) Q)) ∧ ((r1 = 0) → (Q (nI 0) M1)))))) : P_X1_haveWays_144 M a3 Q := by
  refine pw_iload_n (pc' := 145) 1 rfl dX1_haveWays_144 rfl rfl ?_
  refine pw_aload_n (pc' := 146) 0 rfl dX1_haveWays_145 rfl rfl ?_
  refine ps_getR (pc' := 149) (r := 37) rfl dX1_haveWays_146 fl_X1_20 ob_167 rfl rfl ?_
  refine ps_getI (pc' := 152) (v := (M 37 0)) rfl dX1_haveWays_149 fl_X1_34 ob_37 rfl rfl ?_
  refine pw_icmp_ge (pc' := 155) (tgt := 171) rfl dX1_haveWays_152 (by decide) (fun q0 => ?_) (fun q0 => ?_)
  · have h := h.1 q0
    refine pw_iconst (pc' := 172) rfl dX1_haveWays_171 ci_1 ?_
    exact ps_zret dX1_haveWays_172 rfl (by decide) h
  · have h := h.2 q0
    refine pw_aload_n (pc' := 156) 0 rfl dX1_haveWays_155 rfl rfl ?_
    refine pw_iload_n (pc' := 157) 1 rfl dX1_haveWays_156 rfl rfl ?_
    refine ps_callVI (pc' := 160) (As := [.int a3]) (rest := []) (cT := (RX1, TX1, 3)) 1 rfl dX1_haveWays_157 cv_X1_hasWay ml_X1_66 (by decide) rfl rfl (by decide) (Nat.le_of_ble_eq_true rfl) ob_167 rfl rfl (CA.monoI h ?_)
    intro r1 M1 h
    refine pw_if_ne (pc' := 163) (tgt := 165) rfl dX1_haveWays_160 (by decide) (fun q2 => ?_) (fun q2 => ?_)
    · have h := h.1 q2
      refine pw_iinc (pc' := 168) (lv' := [(0, .ref 167), (3, .int (a3 + (nI 1)))]) 1 [1, 0] rfl dX1_haveWays_165 rfl (ii_1 _) (by decide) rfl ?_
      refine pw_goto (tgt := 144) dX1_haveWays_168 (by decide) ?_
      exact pw_sub [0, 1] rfl h
    · have h := h.2 q2
      refine pw_iconst (pc' := 164) rfl dX1_haveWays_163 ci_0 ?_
      exact ps_zret dX1_haveWays_164 rfl (by decide) h
theorem T_X1_pin {M : Mem} {a1 : Int32} {a2 : Int32} {a3 : Int32} {Q : Int32 → Mem → Prop}  (h : vp_in a1 5 ∧ (vp_in a3 24 ∧ ((((M (168 + 1 + ix a1) (ix a3)) = (-1)) → (Q (nI 1) (wr M (168 + 1 + ix a1) (ix a3) a2))) ∧ ((¬ (M (168 + 1 + ix a1) (ix a3)) = (-1)) → (((¬ (M (168 + 1 + ix a1) (ix a3)) = a2) → (Q (nI 0) (wr M (168 + 1 + ix a1) (ix a3) a2))) ∧ (((M (168 + 1 + ix a1) (ix a3)) = a2) → (Q (nI 1) (wr M (168 + 1 + ix a1) (ix a3) a2)))))))) : C_X1_pin M a1 a2 a3 Q := by
  refine CA_of rfl (Nat.le_of_ble_eq_true rfl) ?_
  show PS _ _ 0 [(0, .ref 167), (1, .int a1), (2, .int a2), (3, .int a3)] [] M _
  refine pw_aload_n (pc' := 1) 0 rfl dX1_pin_0 rfl rfl ?_
  refine ps_getR (pc' := 4) (r := 168) rfl dX1_pin_1 fl_X1_11 ob_167 rfl rfl ?_
  refine pw_iload_n (pc' := 5) 1 rfl dX1_pin_4 rfl rfl ?_
  obtain ⟨b0, h⟩ := h
  refine ps_aald (pc' := 6) rfl dX1_pin_5 ra_168 b0 ?_
  refine pw_iload_n (pc' := 7) 3 rfl dX1_pin_6 rfl rfl ?_
  obtain ⟨b1, h⟩ := h
  refine ps_iald (pc' := 8) (v := (M (168 + 1 + ix a1) (ix a3))) rfl dX1_pin_7 (RA.row ra_168 b0) b1 rfl ?_
  refine pw_istore (pc' := 10) (lv' := [(0, .ref 167), (1, .int a1), (2, .int a2), (3, .int a3), (4, .int (M (168 + 1 + ix a1) (ix a3)))]) [1, 2, 3, 4, 0] rfl dX1_pin_8 (by decide) rfl ?_
  refine pw_aload_n (pc' := 11) 0 rfl dX1_pin_10 rfl rfl ?_
  refine ps_getR (pc' := 14) (r := 168) rfl dX1_pin_11 fl_X1_11 ob_167 rfl rfl ?_
  refine pw_iload_n (pc' := 15) 1 rfl dX1_pin_14 rfl rfl ?_
  refine ps_aald (pc' := 16) rfl dX1_pin_15 ra_168 b0 ?_
  refine pw_iload_n (pc' := 17) 3 rfl dX1_pin_16 rfl rfl ?_
  refine pw_iload_n (pc' := 18) 2 rfl dX1_pin_17 rfl rfl ?_
  refine ps_iast (pc' := 19) rfl dX1_pin_18 (RA.row ra_168 b0) b1 ?_
  refine pw_iload (pc' := 21) 4 rfl dX1_pin_19 rfl ?_
  refine pw_iconst (pc' := 22) rfl dX1_pin_21 ci_m1 ?_
  refine pw_icmp_eq (pc' := 25) (tgt := 31) rfl dX1_pin_22 (by decide) (fun q4 => ?_) (fun q4 => ?_)
  · have h := h.1 q4
    refine pw_iconst (pc' := 32) rfl dX1_pin_31 ci_1 ?_
    refine pw_goto (tgt := 36) dX1_pin_32 (by decide) ?_
    exact ps_zret dX1_pin_36 rfl (by decide) h
  · have h := h.2 q4
    refine pw_iload (pc' := 27) 4 rfl dX1_pin_25 rfl ?_
    refine pw_iload_n (pc' := 28) 2 rfl dX1_pin_27 rfl rfl ?_
    refine pw_icmp_ne (pc' := 31) (tgt := 35) rfl dX1_pin_28 (by decide) (fun q5 => ?_) (fun q5 => ?_)
    · have h := h.1 q5
      refine pw_iconst (pc' := 36) rfl dX1_pin_35 ci_0 ?_
      exact ps_zret dX1_pin_36 rfl (by decide) h
    · have h := h.2 q5
      refine pw_iconst (pc' := 32) rfl dX1_pin_31 ci_1 ?_
      refine pw_goto (tgt := 36) dX1_pin_32 (by decide) ?_
      exact ps_zret dX1_pin_36 rfl (by decide) h
theorem T_X1_hasWay {M : Mem} {a1 : Int32} {Q : Int32 → Mem → Prop}  (h : C_X1_wayOf M a1 (fun r0 M0 => RA r0 10 10 ∧ (P_X1_hasWay_11 M0 a1 r0 (-1) (nI 0) Q))) : C_X1_hasWay M a1 Q := by
  refine CA_of rfl (Nat.le_of_ble_eq_true rfl) ?_
  show PS _ _ 0 [(0, .ref 167), (1, .int a1)] [] M _
  refine pw_aload_n (pc' := 1) 0 rfl dX1_hasWay_0 rfl rfl ?_
  refine pw_iload_n (pc' := 2) 1 rfl dX1_hasWay_1 rfl rfl ?_
  refine ps_callVR (pc' := 5) (As := [.int a1]) (rest := []) (cT := (RX1, TX1, 3)) 1 rfl dX1_hasWay_2 cv_X1_wayOf ml_X1_81 (by decide) rfl rfl (by decide) (Nat.le_of_ble_eq_true rfl) ob_167 rfl rfl (CA.monoR h ?_)
  intro r0 M0 h
  obtain ⟨hr0, h⟩ := h
  refine pw_astore_n (pc' := 6) (lv' := [(0, .ref 167), (1, .int a1), (2, .ref r0)]) [1, 2, 0] rfl dX1_hasWay_5 rfl (by decide) rfl ?_
  refine pw_iconst (pc' := 7) rfl dX1_hasWay_6 ci_m1 ?_
  refine pw_istore_n (pc' := 8) (lv' := [(0, .ref 167), (1, .int a1), (2, .ref r0), (3, .int (-1))]) [1, 2, 3, 0] rfl dX1_hasWay_7 rfl (by decide) rfl ?_
  refine pw_iconst (pc' := 9) rfl dX1_hasWay_8 ci_0 ?_
  refine pw_istore (pc' := 11) (lv' := [(0, .ref 167), (1, .int a1), (2, .ref r0), (3, .int (-1)), (4, .int (nI 0))]) [1, 2, 3, 4, 0] rfl dX1_hasWay_9 (by decide) rfl ?_
  exact pw_sub [0, 1, 2, 3, 4] rfl h
theorem T_X1_hasWay_11 {M : Mem} {a1 : Int32} {c2 : Nat} {a3 : Int32} {a4 : Int32} {Q : Int32 → Mem → Prop} (hc2 : RA c2 10 10) (h : (((nI 24) ≤ a4) → (Q (nI 1) M)) ∧ ((¬ (nI 24) ≤ a4) → (vp_in a1 5 ∧ (vp_in a4 24 ∧ ((((M (168 + 1 + ix a1) (ix a4)) = (-1)) → (P_X1_hasWay_11 M a1 c2 a3 (a4 + (nI 1)) Q)) ∧ ((¬ (M (168 + 1 + ix a1) (ix a4)) = (-1)) → (((a3 < 0) → (P_X1_hasWay_11 M a1 c2 a4 (a4 + (nI 1)) Q)) ∧ ((¬ a3 < 0) → (vp_in a3 24 ∧ (vp_in (M (168 + 1 + ix a1) (ix a3)) 10 ∧ (vp_in (M (168 + 1 + ix a1) (ix a4)) 10 ∧ ((((M (c2 + 1 + ix (M (168 + 1 + ix a1) (ix a3))) (ix (M (168 + 1 + ix a1) (ix a4)))) ≤ (a4 - a3)) → (P_X1_hasWay_11 M a1 c2 a4 (a4 + (nI 1)) Q)) ∧ ((¬ (M (c2 + 1 + ix (M (168 + 1 + ix a1) (ix a3))) (ix (M (168 + 1 + ix a1) (ix a4)))) ≤ (a4 - a3)) → (Q (nI 0) M)))))))))))))) : P_X1_hasWay_11 M a1 c2 a3 a4 Q := by
  refine pw_iload (pc' := 13) 4 rfl dX1_hasWay_11 rfl ?_
  refine pw_bipush (pc' := 15) rfl dX1_hasWay_13 cb_24 ?_
  refine pw_icmp_ge (pc' := 18) (tgt := 70) rfl dX1_hasWay_15 (by decide) (fun q0 => ?_) (fun q0 => ?_)
  · have h := h.1 q0
    refine pw_iconst (pc' := 71) rfl dX1_hasWay_70 ci_1 ?_
    exact ps_zret dX1_hasWay_71 rfl (by decide) h
  · have h := h.2 q0
    refine pw_aload_n (pc' := 19) 0 rfl dX1_hasWay_18 rfl rfl ?_
    refine ps_getR (pc' := 22) (r := 168) rfl dX1_hasWay_19 fl_X1_11 ob_167 rfl rfl ?_
    refine pw_iload_n (pc' := 23) 1 rfl dX1_hasWay_22 rfl rfl ?_
    obtain ⟨b1, h⟩ := h
    refine ps_aald (pc' := 24) rfl dX1_hasWay_23 ra_168 b1 ?_
    refine pw_iload (pc' := 26) 4 rfl dX1_hasWay_24 rfl ?_
    obtain ⟨b2, h⟩ := h
    refine ps_iald (pc' := 27) (v := (M (168 + 1 + ix a1) (ix a4))) rfl dX1_hasWay_26 (RA.row ra_168 b1) b2 rfl ?_
    refine pw_istore (pc' := 29) (lv' := [(0, .ref 167), (1, .int a1), (2, .ref c2), (3, .int a3), (4, .int a4), (5, .int (M (168 + 1 + ix a1) (ix a4)))]) [1, 2, 3, 4, 5, 0] rfl dX1_hasWay_27 (by decide) rfl ?_
    refine pw_iload (pc' := 31) 5 rfl dX1_hasWay_29 rfl ?_
    refine pw_iconst (pc' := 32) rfl dX1_hasWay_31 ci_m1 ?_
    refine pw_icmp_eq (pc' := 35) (tgt := 64) rfl dX1_hasWay_32 (by decide) (fun q3 => ?_) (fun q3 => ?_)
    · have h := h.1 q3
      refine pw_iinc (pc' := 67) (lv' := [(0, .ref 167), (1, .int a1), (2, .ref c2), (3, .int a3), (4, .int (a4 + (nI 1))), (5, .int (M (168 + 1 + ix a1) (ix a4)))]) 4 [1, 2, 3, 4, 0, 5] rfl dX1_hasWay_64 rfl (ii_1 _) (by decide) rfl ?_
      refine pw_goto (tgt := 11) dX1_hasWay_67 (by decide) ?_
      exact pw_sub [0, 1, 2, 3, 4] rfl h
    · have h := h.2 q3
      refine pw_iload_n (pc' := 36) 3 rfl dX1_hasWay_35 rfl rfl ?_
      refine pw_if_lt (pc' := 39) (tgt := 61) rfl dX1_hasWay_36 (by decide) (fun q4 => ?_) (fun q4 => ?_)
      · have h := h.1 q4
        refine pw_iload (pc' := 63) 4 rfl dX1_hasWay_61 rfl ?_
        refine pw_istore_n (pc' := 64) (lv' := [(0, .ref 167), (1, .int a1), (2, .ref c2), (3, .int a4), (4, .int a4), (5, .int (M (168 + 1 + ix a1) (ix a4)))]) [1, 2, 3, 0, 4, 5] rfl dX1_hasWay_63 rfl (by decide) rfl ?_
        refine pw_iinc (pc' := 67) (lv' := [(0, .ref 167), (1, .int a1), (2, .ref c2), (3, .int a4), (4, .int (a4 + (nI 1))), (5, .int (M (168 + 1 + ix a1) (ix a4)))]) 4 [1, 2, 3, 4, 0, 5] rfl dX1_hasWay_64 rfl (ii_1 _) (by decide) rfl ?_
        refine pw_goto (tgt := 11) dX1_hasWay_67 (by decide) ?_
        exact pw_sub [0, 1, 2, 3, 4] rfl h
      · have h := h.2 q4
        refine pw_aload_n (pc' := 40) 2 rfl dX1_hasWay_39 rfl rfl ?_
        refine pw_aload_n (pc' := 41) 0 rfl dX1_hasWay_40 rfl rfl ?_
        refine ps_getR (pc' := 44) (r := 168) rfl dX1_hasWay_41 fl_X1_11 ob_167 rfl rfl ?_
        refine pw_iload_n (pc' := 45) 1 rfl dX1_hasWay_44 rfl rfl ?_
        refine ps_aald (pc' := 46) rfl dX1_hasWay_45 ra_168 b1 ?_
        refine pw_iload_n (pc' := 47) 3 rfl dX1_hasWay_46 rfl rfl ?_
        obtain ⟨b6, h⟩ := h
        refine ps_iald (pc' := 48) (v := (M (168 + 1 + ix a1) (ix a3))) rfl dX1_hasWay_47 (RA.row ra_168 b1) b6 rfl ?_
        obtain ⟨b7, h⟩ := h
        refine ps_aald (pc' := 49) rfl dX1_hasWay_48 hc2 b7 ?_
        refine pw_iload (pc' := 51) 5 rfl dX1_hasWay_49 rfl ?_
        obtain ⟨b8, h⟩ := h
        refine ps_iald (pc' := 52) (v := (M (c2 + 1 + ix (M (168 + 1 + ix a1) (ix a3))) (ix (M (168 + 1 + ix a1) (ix a4))))) rfl dX1_hasWay_51 (RA.row hc2 b7) b8 rfl ?_
        refine pw_iload (pc' := 54) 4 rfl dX1_hasWay_52 rfl ?_
        refine pw_iload_n (pc' := 55) 3 rfl dX1_hasWay_54 rfl rfl ?_
        refine pw_isub (pc' := 56) rfl dX1_hasWay_55 ?_
        refine pw_icmp_le (pc' := 59) (tgt := 61) rfl dX1_hasWay_56 (by decide) (fun q9 => ?_) (fun q9 => ?_)
        · have h := h.1 q9
          refine pw_iload (pc' := 63) 4 rfl dX1_hasWay_61 rfl ?_
          refine pw_istore_n (pc' := 64) (lv' := [(0, .ref 167), (1, .int a1), (2, .ref c2), (3, .int a4), (4, .int a4), (5, .int (M (168 + 1 + ix a1) (ix a4)))]) [1, 2, 3, 0, 4, 5] rfl dX1_hasWay_63 rfl (by decide) rfl ?_
          refine pw_iinc (pc' := 67) (lv' := [(0, .ref 167), (1, .int a1), (2, .ref c2), (3, .int a4), (4, .int (a4 + (nI 1))), (5, .int (M (168 + 1 + ix a1) (ix a4)))]) 4 [1, 2, 3, 4, 0, 5] rfl dX1_hasWay_64 rfl (ii_1 _) (by decide) rfl ?_
          refine pw_goto (tgt := 11) dX1_hasWay_67 (by decide) ?_
          exact pw_sub [0, 1, 2, 3, 4] rfl h
        · have h := h.2 q9
          refine pw_iconst (pc' := 60) rfl dX1_hasWay_59 ci_0 ?_
          exact ps_zret dX1_hasWay_60 rfl (by decide) h
theorem T_X1_wayOf {M : Mem} {a1 : Int32} {Q : Nat → Mem → Prop}  (h : vp_in a1 5 ∧ (((¬ (M 38 (ix a1)) = 0) → (Q 19 M)) ∧ (((M 38 (ix a1)) = 0) → (Q 8 M)))) : C_X1_wayOf M a1 Q := by
  refine CA_of rfl (Nat.le_of_ble_eq_true rfl) ?_
  show PS _ _ 0 [(0, .ref 167), (1, .int a1)] [] M _
  refine pw_aload_n (pc' := 1) 0 rfl dX1_wayOf_0 rfl rfl ?_
  refine ps_getR (pc' := 4) (r := 37) rfl dX1_wayOf_1 fl_X1_20 ob_167 rfl rfl ?_
  refine ps_getR (pc' := 7) (r := 38) rfl dX1_wayOf_4 fl_X1_70 ob_37 rfl rfl ?_
  refine pw_iload_n (pc' := 8) 1 rfl dX1_wayOf_7 rfl rfl ?_
  obtain ⟨b0, h⟩ := h
  refine ps_iald (pc' := 9) (v := (M 38 (ix a1))) rfl dX1_wayOf_8 ia_38 b0 rfl ?_
  refine pw_if_ne (pc' := 12) (tgt := 22) rfl dX1_wayOf_9 (by decide) (fun q1 => ?_) (fun q1 => ?_)
  · have h := h.1 q1
    refine pw_aload_n (pc' := 23) 0 rfl dX1_wayOf_22 rfl rfl ?_
    refine ps_getR (pc' := 26) (r := 1) rfl dX1_wayOf_23 fl_X1_16 ob_167 rfl rfl ?_
    refine ps_getR (pc' := 29) (r := 19) rfl dX1_wayOf_26 fl_X1_78 ob_1 rfl rfl ?_
    exact ps_aret dX1_wayOf_29 rfl (Or.inr ⟨_, rfl⟩) h
  · have h := h.2 q1
    refine pw_aload_n (pc' := 13) 0 rfl dX1_wayOf_12 rfl rfl ?_
    refine ps_getR (pc' := 16) (r := 1) rfl dX1_wayOf_13 fl_X1_16 ob_167 rfl rfl ?_
    refine ps_getR (pc' := 19) (r := 8) rfl dX1_wayOf_16 fl_X1_73 ob_1 rfl rfl ?_
    refine pw_goto (tgt := 29) dX1_wayOf_19 (by decide) ?_
    exact ps_aret dX1_wayOf_29 rfl (Or.inr ⟨_, rfl⟩) h
theorem T_X1_roomsOf {M : Mem} {a1 : Int32} {a2 : Int32} {Q : Int32 → Mem → Prop}  (h : P_X1_roomsOf_2 M a1 a2 a2 Q) : C_X1_roomsOf M a1 a2 Q := by
  refine CA_of rfl (Nat.le_of_ble_eq_true rfl) ?_
  show PS _ _ 0 [(0, .ref 167), (1, .int a1), (2, .int a2)] [] M _
  refine pw_iload_n (pc' := 1) 2 rfl dX1_roomsOf_0 rfl rfl ?_
  refine pw_istore_n (pc' := 2) (lv' := [(0, .ref 167), (1, .int a1), (2, .int a2), (3, .int a2)]) [1, 2, 3, 0] rfl dX1_roomsOf_1 rfl (by decide) rfl ?_
  exact pw_sub [0, 1, 2, 3] rfl h
theorem T_X1_roomsOf_2 {M : Mem} {a1 : Int32} {a2 : Int32} {a3 : Int32} {Q : Int32 → Mem → Prop}  (h : ((a3 < 0) → (P_X1_roomsOf_27 M a1 a2 a3 a2 Q)) ∧ ((¬ a3 < 0) → (vp_in a1 5 ∧ (vp_in a3 24 ∧ (((¬ (M (168 + 1 + ix a1) (ix a3)) = (-1)) → (P_X1_roomsOf_27 M a1 a2 a3 a2 Q)) ∧ (((M (168 + 1 + ix a1) (ix a3)) = (-1)) → (P_X1_roomsOf_2 M a1 a2 (a3 + (-1)) Q))))))) : P_X1_roomsOf_2 M a1 a2 a3 Q := by
  refine pw_iload_n (pc' := 3) 3 rfl dX1_roomsOf_2 rfl rfl ?_
  refine pw_if_lt (pc' := 6) (tgt := 24) rfl dX1_roomsOf_3 (by decide) (fun q0 => ?_) (fun q0 => ?_)
  · have h := h.1 q0
    refine pw_iload_n (pc' := 25) 2 rfl dX1_roomsOf_24 rfl rfl ?_
    refine pw_istore (pc' := 27) (lv' := [(0, .ref 167), (1, .int a1), (2, .int a2), (3, .int a3), (4, .int a2)]) [1, 2, 3, 4, 0] rfl dX1_roomsOf_25 (by decide) rfl ?_
    exact pw_sub [0, 1, 2, 3, 4] rfl h
  · have h := h.2 q0
    refine pw_aload_n (pc' := 7) 0 rfl dX1_roomsOf_6 rfl rfl ?_
    refine ps_getR (pc' := 10) (r := 168) rfl dX1_roomsOf_7 fl_X1_11 ob_167 rfl rfl ?_
    refine pw_iload_n (pc' := 11) 1 rfl dX1_roomsOf_10 rfl rfl ?_
    obtain ⟨b1, h⟩ := h
    refine ps_aald (pc' := 12) rfl dX1_roomsOf_11 ra_168 b1 ?_
    refine pw_iload_n (pc' := 13) 3 rfl dX1_roomsOf_12 rfl rfl ?_
    obtain ⟨b2, h⟩ := h
    refine ps_iald (pc' := 14) (v := (M (168 + 1 + ix a1) (ix a3))) rfl dX1_roomsOf_13 (RA.row ra_168 b1) b2 rfl ?_
    refine pw_iconst (pc' := 15) rfl dX1_roomsOf_14 ci_m1 ?_
    refine pw_icmp_ne (pc' := 18) (tgt := 24) rfl dX1_roomsOf_15 (by decide) (fun q3 => ?_) (fun q3 => ?_)
    · have h := h.1 q3
      refine pw_iload_n (pc' := 25) 2 rfl dX1_roomsOf_24 rfl rfl ?_
      refine pw_istore (pc' := 27) (lv' := [(0, .ref 167), (1, .int a1), (2, .int a2), (3, .int a3), (4, .int a2)]) [1, 2, 3, 4, 0] rfl dX1_roomsOf_25 (by decide) rfl ?_
      exact pw_sub [0, 1, 2, 3, 4] rfl h
    · have h := h.2 q3
      refine pw_iinc (pc' := 21) (lv' := [(0, .ref 167), (1, .int a1), (2, .int a2), (3, .int (a3 + (-1)))]) 3 [1, 2, 3, 0] rfl dX1_roomsOf_18 rfl (ii_m1 _) (by decide) rfl ?_
      refine pw_goto (tgt := 2) dX1_roomsOf_21 (by decide) ?_
      exact pw_sub [0, 1, 2, 3] rfl h
theorem T_X1_roomsOf_27 {M : Mem} {a1 : Int32} {a2 : Int32} {a3 : Int32} {a4 : Int32} {Q : Int32 → Mem → Prop}  (h : (((nI 24) ≤ a4) → (C_X1_wayOf M a1 (fun r1 M1 => RA r1 10 10 ∧ (P_X1_roomsOf_66 M1 a1 a2 a3 a4 r1 (nI 0) (nI 0) Q)))) ∧ ((¬ (nI 24) ≤ a4) → (vp_in a1 5 ∧ (vp_in a4 24 ∧ (((¬ (M (168 + 1 + ix a1) (ix a4)) = (-1)) → (C_X1_wayOf M a1 (fun r4 M4 => RA r4 10 10 ∧ (P_X1_roomsOf_66 M4 a1 a2 a3 a4 r4 (nI 0) (nI 0) Q)))) ∧ (((M (168 + 1 + ix a1) (ix a4)) = (-1)) → (P_X1_roomsOf_27 M a1 a2 a3 (a4 + (nI 1)) Q))))))) : P_X1_roomsOf_27 M a1 a2 a3 a4 Q := by
  refine pw_iload (pc' := 29) 4 rfl dX1_roomsOf_27 rfl ?_
  refine pw_bipush (pc' := 31) rfl dX1_roomsOf_29 cb_24 ?_
  refine pw_icmp_ge (pc' := 34) (tgt := 53) rfl dX1_roomsOf_31 (by decide) (fun q0 => ?_) (fun q0 => ?_)
  · have h := h.1 q0
    refine pw_aload_n (pc' := 54) 0 rfl dX1_roomsOf_53 rfl rfl ?_
    refine pw_iload_n (pc' := 55) 1 rfl dX1_roomsOf_54 rfl rfl ?_
    refine ps_callVR (pc' := 58) (As := [.int a1]) (rest := []) (cT := (RX1, TX1, 3)) 1 rfl dX1_roomsOf_55 cv_X1_wayOf ml_X1_81 (by decide) rfl rfl (by decide) (Nat.le_of_ble_eq_true rfl) ob_167 rfl rfl (CA.monoR h ?_)
    intro r1 M1 h
    obtain ⟨hr1, h⟩ := h
    refine pw_astore (pc' := 60) (lv' := [(0, .ref 167), (1, .int a1), (2, .int a2), (3, .int a3), (4, .int a4), (5, .ref r1)]) [1, 2, 3, 4, 5, 0] rfl dX1_roomsOf_58 (by decide) rfl ?_
    refine pw_iconst (pc' := 61) rfl dX1_roomsOf_60 ci_0 ?_
    refine pw_istore (pc' := 63) (lv' := [(0, .ref 167), (1, .int a1), (2, .int a2), (3, .int a3), (4, .int a4), (5, .ref r1), (6, .int (nI 0))]) [1, 2, 3, 4, 5, 6, 0] rfl dX1_roomsOf_61 (by decide) rfl ?_
    refine pw_iconst (pc' := 64) rfl dX1_roomsOf_63 ci_0 ?_
    refine pw_istore (pc' := 66) (lv' := [(0, .ref 167), (1, .int a1), (2, .int a2), (3, .int a3), (4, .int a4), (5, .ref r1), (6, .int (nI 0)), (7, .int (nI 0))]) [1, 2, 3, 4, 5, 6, 7, 0] rfl dX1_roomsOf_64 (by decide) rfl ?_
    exact pw_sub [0, 1, 2, 3, 4, 5, 6, 7] rfl h
  · have h := h.2 q0
    refine pw_aload_n (pc' := 35) 0 rfl dX1_roomsOf_34 rfl rfl ?_
    refine ps_getR (pc' := 38) (r := 168) rfl dX1_roomsOf_35 fl_X1_11 ob_167 rfl rfl ?_
    refine pw_iload_n (pc' := 39) 1 rfl dX1_roomsOf_38 rfl rfl ?_
    obtain ⟨b1, h⟩ := h
    refine ps_aald (pc' := 40) rfl dX1_roomsOf_39 ra_168 b1 ?_
    refine pw_iload (pc' := 42) 4 rfl dX1_roomsOf_40 rfl ?_
    obtain ⟨b2, h⟩ := h
    refine ps_iald (pc' := 43) (v := (M (168 + 1 + ix a1) (ix a4))) rfl dX1_roomsOf_42 (RA.row ra_168 b1) b2 rfl ?_
    refine pw_iconst (pc' := 44) rfl dX1_roomsOf_43 ci_m1 ?_
    refine pw_icmp_ne (pc' := 47) (tgt := 53) rfl dX1_roomsOf_44 (by decide) (fun q3 => ?_) (fun q3 => ?_)
    · have h := h.1 q3
      refine pw_aload_n (pc' := 54) 0 rfl dX1_roomsOf_53 rfl rfl ?_
      refine pw_iload_n (pc' := 55) 1 rfl dX1_roomsOf_54 rfl rfl ?_
      refine ps_callVR (pc' := 58) (As := [.int a1]) (rest := []) (cT := (RX1, TX1, 3)) 1 rfl dX1_roomsOf_55 cv_X1_wayOf ml_X1_81 (by decide) rfl rfl (by decide) (Nat.le_of_ble_eq_true rfl) ob_167 rfl rfl (CA.monoR h ?_)
      intro r4 M4 h
      obtain ⟨hr4, h⟩ := h
      refine pw_astore (pc' := 60) (lv' := [(0, .ref 167), (1, .int a1), (2, .int a2), (3, .int a3), (4, .int a4), (5, .ref r4)]) [1, 2, 3, 4, 5, 0] rfl dX1_roomsOf_58 (by decide) rfl ?_
      refine pw_iconst (pc' := 61) rfl dX1_roomsOf_60 ci_0 ?_
      refine pw_istore (pc' := 63) (lv' := [(0, .ref 167), (1, .int a1), (2, .int a2), (3, .int a3), (4, .int a4), (5, .ref r4), (6, .int (nI 0))]) [1, 2, 3, 4, 5, 6, 0] rfl dX1_roomsOf_61 (by decide) rfl ?_
      refine pw_iconst (pc' := 64) rfl dX1_roomsOf_63 ci_0 ?_
      refine pw_istore (pc' := 66) (lv' := [(0, .ref 167), (1, .int a1), (2, .int a2), (3, .int a3), (4, .int a4), (5, .ref r4), (6, .int (nI 0)), (7, .int (nI 0))]) [1, 2, 3, 4, 5, 6, 7, 0] rfl dX1_roomsOf_64 (by decide) rfl ?_
      exact pw_sub [0, 1, 2, 3, 4, 5, 6, 7] rfl h
    · have h := h.2 q3
      refine pw_iinc (pc' := 50) (lv' := [(0, .ref 167), (1, .int a1), (2, .int a2), (3, .int a3), (4, .int (a4 + (nI 1)))]) 4 [1, 2, 3, 4, 0] rfl dX1_roomsOf_47 rfl (ii_1 _) (by decide) rfl ?_
      refine pw_goto (tgt := 27) dX1_roomsOf_50 (by decide) ?_
      exact pw_sub [0, 1, 2, 3, 4] rfl h
theorem T_X1_roomsOf_66 {M : Mem} {a1 : Int32} {a2 : Int32} {a3 : Int32} {a4 : Int32} {c5 : Nat} {a6 : Int32} {a7 : Int32} {Q : Int32 → Mem → Prop} (hc5 : RA c5 10 10) (h : (((M 1 0) ≤ a7) → (Q a6 M)) ∧ ((¬ (M 1 0) ≤ a7) → (((a3 < 0) → (((a4 = (nI 24)) → (P_X1_roomsOf_66 M a1 a2 a3 a4 c5 (a6 ||| ((nI 1) <<< (a7 &&& 31))) (a7 + (nI 1)) Q)) ∧ ((¬ a4 = (nI 24)) → (vp_in a7 10 ∧ (vp_in a1 5 ∧ (vp_in a4 24 ∧ (vp_in (M (168 + 1 + ix a1) (ix a4)) 10 ∧ ((((a4 - a2) < (M (c5 + 1 + ix a7) (ix (M (168 + 1 + ix a1) (ix a4))))) → (P_X1_roomsOf_66 M a1 a2 a3 a4 c5 a6 (a7 + (nI 1)) Q)) ∧ ((¬ (a4 - a2) < (M (c5 + 1 + ix a7) (ix (M (168 + 1 + ix a1) (ix a4))))) → (P_X1_roomsOf_66 M a1 a2 a3 a4 c5 (a6 ||| ((nI 1) <<< (a7 &&& 31))) (a7 + (nI 1)) Q)))))))))) ∧ ((¬ a3 < 0) → (vp_in a1 5 ∧ (vp_in a3 24 ∧ (vp_in (M (168 + 1 + ix a1) (ix a3)) 10 ∧ (vp_in a7 10 ∧ ((((a2 - a3) < (M (c5 + 1 + ix (M (168 + 1 + ix a1) (ix a3))) (ix a7))) → (P_X1_roomsOf_66 M a1 a2 a3 a4 c5 a6 (a7 + (nI 1)) Q)) ∧ ((¬ (a2 - a3) < (M (c5 + 1 + ix (M (168 + 1 + ix a1) (ix a3))) (ix a7))) → (((a4 = (nI 24)) → (P_X1_roomsOf_66 M a1 a2 a3 a4 c5 (a6 ||| ((nI 1) <<< (a7 &&& 31))) (a7 + (nI 1)) Q)) ∧ ((¬ a4 = (nI 24)) → (vp_in a4 24 ∧ (vp_in (M (168 + 1 + ix a1) (ix a4)) 10 ∧ ((((a4 - a2) < (M (c5 + 1 + ix a7) (ix (M (168 + 1 + ix a1) (ix a4))))) → (P_X1_roomsOf_66 M a1 a2 a3 a4 c5 a6 (a7 + (nI 1)) Q)) ∧ ((¬ (a4 - a2) < (M (c5 + 1 + ix a7) (ix (M (168 + 1 + ix a1) (ix a4))))) → (P_X1_roomsOf_66 M a1 a2 a3 a4 c5 (a6 ||| ((nI 1) <<< (a7 &&& 31))) (a7 + (nI 1)) Q))))))))))))))))) : P_X1_roomsOf_66 M a1 a2 a3 a4 c5 a6 a7 Q := by
  refine pw_iload (pc' := 68) 7 rfl dX1_roomsOf_66 rfl ?_
  refine pw_aload_n (pc' := 69) 0 rfl dX1_roomsOf_68 rfl rfl ?_
  refine ps_getR (pc' := 72) (r := 1) rfl dX1_roomsOf_69 fl_X1_16 ob_167 rfl rfl ?_
  refine ps_getI (pc' := 75) (v := (M 1 0)) rfl dX1_roomsOf_72 fl_X1_85 ob_1 rfl rfl ?_
  refine pw_icmp_ge (pc' := 78) (tgt := 146) rfl dX1_roomsOf_75 (by decide) (fun q0 => ?_) (fun q0 => ?_)
  · have h := h.1 q0
    refine pw_iload (pc' := 148) 6 rfl dX1_roomsOf_146 rfl ?_
    exact ps_iret dX1_roomsOf_148 rfl h
  · have h := h.2 q0
    refine pw_iload_n (pc' := 79) 3 rfl dX1_roomsOf_78 rfl rfl ?_
    refine pw_if_lt (pc' := 82) (tgt := 102) rfl dX1_roomsOf_79 (by decide) (fun q1 => ?_) (fun q1 => ?_)
    · have h := h.1 q1
      refine pw_iload (pc' := 104) 4 rfl dX1_roomsOf_102 rfl ?_
      refine pw_bipush (pc' := 106) rfl dX1_roomsOf_104 cb_24 ?_
      refine pw_icmp_eq (pc' := 109) (tgt := 131) rfl dX1_roomsOf_106 (by decide) (fun q2 => ?_) (fun q2 => ?_)
      · have h := h.1 q2
        refine pw_iload (pc' := 133) 6 rfl dX1_roomsOf_131 rfl ?_
        refine pw_iconst (pc' := 134) rfl dX1_roomsOf_133 ci_1 ?_
        refine pw_iload (pc' := 136) 7 rfl dX1_roomsOf_134 rfl ?_
        refine pw_ishl (pc' := 137) rfl dX1_roomsOf_136 ?_
        refine pw_ior (pc' := 138) rfl dX1_roomsOf_137 ?_
        refine pw_istore (pc' := 140) (lv' := [(0, .ref 167), (1, .int a1), (2, .int a2), (3, .int a3), (4, .int a4), (5, .ref c5), (6, .int (a6 ||| ((nI 1) <<< (a7 &&& 31)))), (7, .int a7)]) [1, 2, 3, 4, 5, 6, 0, 7] rfl dX1_roomsOf_138 (by decide) rfl ?_
        refine pw_iinc (pc' := 143) (lv' := [(0, .ref 167), (1, .int a1), (2, .int a2), (3, .int a3), (4, .int a4), (5, .ref c5), (6, .int (a6 ||| ((nI 1) <<< (a7 &&& 31)))), (7, .int (a7 + (nI 1)))]) 7 [1, 2, 3, 4, 5, 6, 7, 0] rfl dX1_roomsOf_140 rfl (ii_1 _) (by decide) rfl ?_
        refine pw_goto (tgt := 66) dX1_roomsOf_143 (by decide) ?_
        exact pw_sub [0, 1, 2, 3, 4, 5, 6, 7] rfl h
      · have h := h.2 q2
        refine pw_aload (pc' := 111) 5 rfl dX1_roomsOf_109 rfl ?_
        refine pw_iload (pc' := 113) 7 rfl dX1_roomsOf_111 rfl ?_
        obtain ⟨b3, h⟩ := h
        refine ps_aald (pc' := 114) rfl dX1_roomsOf_113 hc5 b3 ?_
        refine pw_aload_n (pc' := 115) 0 rfl dX1_roomsOf_114 rfl rfl ?_
        refine ps_getR (pc' := 118) (r := 168) rfl dX1_roomsOf_115 fl_X1_11 ob_167 rfl rfl ?_
        refine pw_iload_n (pc' := 119) 1 rfl dX1_roomsOf_118 rfl rfl ?_
        obtain ⟨b4, h⟩ := h
        refine ps_aald (pc' := 120) rfl dX1_roomsOf_119 ra_168 b4 ?_
        refine pw_iload (pc' := 122) 4 rfl dX1_roomsOf_120 rfl ?_
        obtain ⟨b5, h⟩ := h
        refine ps_iald (pc' := 123) (v := (M (168 + 1 + ix a1) (ix a4))) rfl dX1_roomsOf_122 (RA.row ra_168 b4) b5 rfl ?_
        obtain ⟨b6, h⟩ := h
        refine ps_iald (pc' := 124) (v := (M (c5 + 1 + ix a7) (ix (M (168 + 1 + ix a1) (ix a4))))) rfl dX1_roomsOf_123 (RA.row hc5 b3) b6 rfl ?_
        refine pw_iload (pc' := 126) 4 rfl dX1_roomsOf_124 rfl ?_
        refine pw_iload_n (pc' := 127) 2 rfl dX1_roomsOf_126 rfl rfl ?_
        refine pw_isub (pc' := 128) rfl dX1_roomsOf_127 ?_
        refine pw_icmp_gt (pc' := 131) (tgt := 140) rfl dX1_roomsOf_128 (by decide) (fun q7 => ?_) (fun q7 => ?_)
        · have h := h.1 q7
          refine pw_iinc (pc' := 143) (lv' := [(0, .ref 167), (1, .int a1), (2, .int a2), (3, .int a3), (4, .int a4), (5, .ref c5), (6, .int a6), (7, .int (a7 + (nI 1)))]) 7 [1, 2, 3, 4, 5, 6, 7, 0] rfl dX1_roomsOf_140 rfl (ii_1 _) (by decide) rfl ?_
          refine pw_goto (tgt := 66) dX1_roomsOf_143 (by decide) ?_
          exact pw_sub [0, 1, 2, 3, 4, 5, 6, 7] rfl h
        · have h := h.2 q7
          refine pw_iload (pc' := 133) 6 rfl dX1_roomsOf_131 rfl ?_
          refine pw_iconst (pc' := 134) rfl dX1_roomsOf_133 ci_1 ?_
          refine pw_iload (pc' := 136) 7 rfl dX1_roomsOf_134 rfl ?_
          refine pw_ishl (pc' := 137) rfl dX1_roomsOf_136 ?_
          refine pw_ior (pc' := 138) rfl dX1_roomsOf_137 ?_
          refine pw_istore (pc' := 140) (lv' := [(0, .ref 167), (1, .int a1), (2, .int a2), (3, .int a3), (4, .int a4), (5, .ref c5), (6, .int (a6 ||| ((nI 1) <<< (a7 &&& 31)))), (7, .int a7)]) [1, 2, 3, 4, 5, 6, 0, 7] rfl dX1_roomsOf_138 (by decide) rfl ?_
          refine pw_iinc (pc' := 143) (lv' := [(0, .ref 167), (1, .int a1), (2, .int a2), (3, .int a3), (4, .int a4), (5, .ref c5), (6, .int (a6 ||| ((nI 1) <<< (a7 &&& 31)))), (7, .int (a7 + (nI 1)))]) 7 [1, 2, 3, 4, 5, 6, 7, 0] rfl dX1_roomsOf_140 rfl (ii_1 _) (by decide) rfl ?_
          refine pw_goto (tgt := 66) dX1_roomsOf_143 (by decide) ?_
          exact pw_sub [0, 1, 2, 3, 4, 5, 6, 7] rfl h
    · have h := h.2 q1
      refine pw_aload (pc' := 84) 5 rfl dX1_roomsOf_82 rfl ?_
      refine pw_aload_n (pc' := 85) 0 rfl dX1_roomsOf_84 rfl rfl ?_
      refine ps_getR (pc' := 88) (r := 168) rfl dX1_roomsOf_85 fl_X1_11 ob_167 rfl rfl ?_
      refine pw_iload_n (pc' := 89) 1 rfl dX1_roomsOf_88 rfl rfl ?_
      obtain ⟨b2, h⟩ := h
      refine ps_aald (pc' := 90) rfl dX1_roomsOf_89 ra_168 b2 ?_
      refine pw_iload_n (pc' := 91) 3 rfl dX1_roomsOf_90 rfl rfl ?_
      obtain ⟨b3, h⟩ := h
      refine ps_iald (pc' := 92) (v := (M (168 + 1 + ix a1) (ix a3))) rfl dX1_roomsOf_91 (RA.row ra_168 b2) b3 rfl ?_
      obtain ⟨b4, h⟩ := h
      refine ps_aald (pc' := 93) rfl dX1_roomsOf_92 hc5 b4 ?_
      refine pw_iload (pc' := 95) 7 rfl dX1_roomsOf_93 rfl ?_
      obtain ⟨b5, h⟩ := h
      refine ps_iald (pc' := 96) (v := (M (c5 + 1 + ix (M (168 + 1 + ix a1) (ix a3))) (ix a7))) rfl dX1_roomsOf_95 (RA.row hc5 b4) b5 rfl ?_
      refine pw_iload_n (pc' := 97) 2 rfl dX1_roomsOf_96 rfl rfl ?_
      refine pw_iload_n (pc' := 98) 3 rfl dX1_roomsOf_97 rfl rfl ?_
      refine pw_isub (pc' := 99) rfl dX1_roomsOf_98 ?_
      refine pw_icmp_gt (pc' := 102) (tgt := 140) rfl dX1_roomsOf_99 (by decide) (fun q6 => ?_) (fun q6 => ?_)
      · have h := h.1 q6
        refine pw_iinc (pc' := 143) (lv' := [(0, .ref 167), (1, .int a1), (2, .int a2), (3, .int a3), (4, .int a4), (5, .ref c5), (6, .int a6), (7, .int (a7 + (nI 1)))]) 7 [1, 2, 3, 4, 5, 6, 7, 0] rfl dX1_roomsOf_140 rfl (ii_1 _) (by decide) rfl ?_
        refine pw_goto (tgt := 66) dX1_roomsOf_143 (by decide) ?_
        exact pw_sub [0, 1, 2, 3, 4, 5, 6, 7] rfl h
      · have h := h.2 q6
        refine pw_iload (pc' := 104) 4 rfl dX1_roomsOf_102 rfl ?_
        refine pw_bipush (pc' := 106) rfl dX1_roomsOf_104 cb_24 ?_
        refine pw_icmp_eq (pc' := 109) (tgt := 131) rfl dX1_roomsOf_106 (by decide) (fun q7 => ?_) (fun q7 => ?_)
        · have h := h.1 q7
          refine pw_iload (pc' := 133) 6 rfl dX1_roomsOf_131 rfl ?_
          refine pw_iconst (pc' := 134) rfl dX1_roomsOf_133 ci_1 ?_
          refine pw_iload (pc' := 136) 7 rfl dX1_roomsOf_134 rfl ?_
          refine pw_ishl (pc' := 137) rfl dX1_roomsOf_136 ?_
          refine pw_ior (pc' := 138) rfl dX1_roomsOf_137 ?_
          refine pw_istore (pc' := 140) (lv' := [(0, .ref 167), (1, .int a1), (2, .int a2), (3, .int a3), (4, .int a4), (5, .ref c5), (6, .int (a6 ||| ((nI 1) <<< (a7 &&& 31)))), (7, .int a7)]) [1, 2, 3, 4, 5, 6, 0, 7] rfl dX1_roomsOf_138 (by decide) rfl ?_
          refine pw_iinc (pc' := 143) (lv' := [(0, .ref 167), (1, .int a1), (2, .int a2), (3, .int a3), (4, .int a4), (5, .ref c5), (6, .int (a6 ||| ((nI 1) <<< (a7 &&& 31)))), (7, .int (a7 + (nI 1)))]) 7 [1, 2, 3, 4, 5, 6, 7, 0] rfl dX1_roomsOf_140 rfl (ii_1 _) (by decide) rfl ?_
          refine pw_goto (tgt := 66) dX1_roomsOf_143 (by decide) ?_
          exact pw_sub [0, 1, 2, 3, 4, 5, 6, 7] rfl h
        · have h := h.2 q7
          refine pw_aload (pc' := 111) 5 rfl dX1_roomsOf_109 rfl ?_
          refine pw_iload (pc' := 113) 7 rfl dX1_roomsOf_111 rfl ?_
          refine ps_aald (pc' := 114) rfl dX1_roomsOf_113 hc5 b5 ?_
          refine pw_aload_n (pc' := 115) 0 rfl dX1_roomsOf_114 rfl rfl ?_
          refine ps_getR (pc' := 118) (r := 168) rfl dX1_roomsOf_115 fl_X1_11 ob_167 rfl rfl ?_
          refine pw_iload_n (pc' := 119) 1 rfl dX1_roomsOf_118 rfl rfl ?_
          refine ps_aald (pc' := 120) rfl dX1_roomsOf_119 ra_168 b2 ?_
          refine pw_iload (pc' := 122) 4 rfl dX1_roomsOf_120 rfl ?_
          obtain ⟨b10, h⟩ := h
          refine ps_iald (pc' := 123) (v := (M (168 + 1 + ix a1) (ix a4))) rfl dX1_roomsOf_122 (RA.row ra_168 b2) b10 rfl ?_
          obtain ⟨b11, h⟩ := h
          refine ps_iald (pc' := 124) (v := (M (c5 + 1 + ix a7) (ix (M (168 + 1 + ix a1) (ix a4))))) rfl dX1_roomsOf_123 (RA.row hc5 b5) b11 rfl ?_
          refine pw_iload (pc' := 126) 4 rfl dX1_roomsOf_124 rfl ?_
          refine pw_iload_n (pc' := 127) 2 rfl dX1_roomsOf_126 rfl rfl ?_
          refine pw_isub (pc' := 128) rfl dX1_roomsOf_127 ?_
          refine pw_icmp_gt (pc' := 131) (tgt := 140) rfl dX1_roomsOf_128 (by decide) (fun q12 => ?_) (fun q12 => ?_)
          · have h := h.1 q12
            refine pw_iinc (pc' := 143) (lv' := [(0, .ref 167), (1, .int a1), (2, .int a2), (3, .int a3), (4, .int a4), (5, .ref c5), (6, .int a6), (7, .int (a7 + (nI 1)))]) 7 [1, 2, 3, 4, 5, 6, 7, 0] rfl dX1_roomsOf_140 rfl (ii_1 _) (by decide) rfl ?_
            refine pw_goto (tgt := 66) dX1_roomsOf_143 (by decide) ?_
            exact pw_sub [0, 1, 2, 3, 4, 5, 6, 7] rfl h
          · have h := h.2 q12
            refine pw_iload (pc' := 133) 6 rfl dX1_roomsOf_131 rfl ?_
            refine pw_iconst (pc' := 134) rfl dX1_roomsOf_133 ci_1 ?_
            refine pw_iload (pc' := 136) 7 rfl dX1_roomsOf_134 rfl ?_
            refine pw_ishl (pc' := 137) rfl dX1_roomsOf_136 ?_
            refine pw_ior (pc' := 138) rfl dX1_roomsOf_137 ?_
            refine pw_istore (pc' := 140) (lv' := [(0, .ref 167), (1, .int a1), (2, .int a2), (3, .int a3), (4, .int a4), (5, .ref c5), (6, .int (a6 ||| ((nI 1) <<< (a7 &&& 31)))), (7, .int a7)]) [1, 2, 3, 4, 5, 6, 0, 7] rfl dX1_roomsOf_138 (by decide) rfl ?_
            refine pw_iinc (pc' := 143) (lv' := [(0, .ref 167), (1, .int a1), (2, .int a2), (3, .int a3), (4, .int a4), (5, .ref c5), (6, .int (a6 ||| ((nI 1) <<< (a7 &&& 31)))), (7, .int (a7 + (nI 1)))]) 7 [1, 2, 3, 4, 5, 6, 7, 0] rfl dX1_roomsOf_140 rfl (ii_1 _) (by decide) rfl ?_
            refine pw_goto (tgt := 66) dX1_roomsOf_143 (by decide) ?_
            exact pw_sub [0, 1, 2, 3, 4, 5, 6, 7] rfl h
theorem T_X1_isSuspect {M : Mem} {a1 : Int32} {Q : Int32 → Mem → Prop}  (h : P_X1_isSuspect_8 M a1 (M 37 4) Q) : C_X1_isSuspect M a1 Q := by
  refine CA_of rfl (Nat.le_of_ble_eq_true rfl) ?_
  show PS _ _ 0 [(0, .ref 167), (1, .int a1)] [] M _
  refine pw_aload_n (pc' := 1) 0 rfl dX1_isSuspect_0 rfl rfl ?_
  refine ps_getR (pc' := 4) (r := 37) rfl dX1_isSuspect_1 fl_X1_20 ob_167 rfl rfl ?_
  refine ps_getI (pc' := 7) (v := (M 37 4)) rfl dX1_isSuspect_4 fl_X1_87 ob_37 rfl rfl ?_
  refine pw_istore_n (pc' := 8) (lv' := [(0, .ref 167), (1, .int a1), (2, .int (M 37 4))]) [1, 2, 0] rfl dX1_isSuspect_7 rfl (by decide) rfl ?_
  exact pw_sub [0, 1, 2] rfl h
theorem T_X1_isSuspect_8 {M : Mem} {a1 : Int32} {a2 : Int32} {Q : Int32 → Mem → Prop}  (h : (((M 37 5) < a2) → (Q (nI 0) M)) ∧ ((¬ (M 37 5) < a2) → (C_X1_roomsOf M a1 a2 (fun r1 M1 => ((((r1 >>> ((M1 37 3) &&& 31)) &&& (nI 1)) = 0) → (P_X1_isSuspect_8 M1 a1 (a2 + (nI 1)) Q)) ∧ ((¬ ((r1 >>> ((M1 37 3) &&& 31)) &&& (nI 1)) = 0) → (C_X1_othersMayBeElsewhere M1 a1 a2 (fun r3 M3 => ((r3 = 0) → (P_X1_isSuspect_8 M3 a1 (a2 + (nI 1)) Q)) ∧ ((¬ r3 = 0) → (Q (nI 1) M3))))))))) : P_X1_isSuspect_8 M a1 a2 Q := by
  refine pw_iload_n (pc' := 9) 2 rfl dX1_isSuspect_8 rfl rfl ?_
  refine pw_aload_n (pc' := 10) 0 rfl dX1_isSuspect_9 rfl rfl ?_
  refine ps_getR (pc' := 13) (r := 37) rfl dX1_isSuspect_10 fl_X1_20 ob_167 rfl rfl ?_
  refine ps_getI (pc' := 16) (v := (M 37 5)) rfl dX1_isSuspect_13 fl_X1_90 ob_37 rfl rfl ?_
  refine pw_icmp_gt (pc' := 19) (tgt := 55) rfl dX1_isSuspect_16 (by decide) (fun q0 => ?_) (fun q0 => ?_)
  · have h := h.1 q0
    refine pw_iconst (pc' := 56) rfl dX1_isSuspect_55 ci_0 ?_
    exact ps_zret dX1_isSuspect_56 rfl (by decide) h
  · have h := h.2 q0
    refine pw_aload_n (pc' := 20) 0 rfl dX1_isSuspect_19 rfl rfl ?_
    refine pw_iload_n (pc' := 21) 1 rfl dX1_isSuspect_20 rfl rfl ?_
    refine pw_iload_n (pc' := 22) 2 rfl dX1_isSuspect_21 rfl rfl ?_
    refine ps_callVI (pc' := 25) (As := [.int a1, .int a2]) (rest := []) (cT := (RX1, TX1, 3)) 2 rfl dX1_isSuspect_22 cv_X1_roomsOf ml_X1_93 (by decide) rfl rfl (by decide) (Nat.le_of_ble_eq_true rfl) ob_167 rfl rfl (CA.monoI h ?_)
    intro r1 M1 h
    refine pw_aload_n (pc' := 26) 0 rfl dX1_isSuspect_25 rfl rfl ?_
    refine ps_getR (pc' := 29) (r := 37) rfl dX1_isSuspect_26 fl_X1_20 ob_167 rfl rfl ?_
    refine ps_getI (pc' := 32) (v := (M1 37 3)) rfl dX1_isSuspect_29 fl_X1_97 ob_37 rfl rfl ?_
    refine pw_ishr (pc' := 33) rfl dX1_isSuspect_32 ?_
    refine pw_iconst (pc' := 34) rfl dX1_isSuspect_33 ci_1 ?_
    refine pw_iand (pc' := 35) rfl dX1_isSuspect_34 ?_
    refine pw_if_eq (pc' := 38) (tgt := 49) rfl dX1_isSuspect_35 (by decide) (fun q2 => ?_) (fun q2 => ?_)
    · have h := h.1 q2
      refine pw_iinc (pc' := 52) (lv' := [(0, .ref 167), (1, .int a1), (2, .int (a2 + (nI 1)))]) 2 [1, 2, 0] rfl dX1_isSuspect_49 rfl (ii_1 _) (by decide) rfl ?_
      refine pw_goto (tgt := 8) dX1_isSuspect_52 (by decide) ?_
      exact pw_sub [0, 1, 2] rfl h
    · have h := h.2 q2
      refine pw_aload_n (pc' := 39) 0 rfl dX1_isSuspect_38 rfl rfl ?_
      refine pw_iload_n (pc' := 40) 1 rfl dX1_isSuspect_39 rfl rfl ?_
      refine pw_iload_n (pc' := 41) 2 rfl dX1_isSuspect_40 rfl rfl ?_
      refine ps_callVI (pc' := 44) (As := [.int a1, .int a2]) (rest := []) (cT := (RX1, TX1, 3)) 2 rfl dX1_isSuspect_41 cv_X1_othersMayBeElsewhere ml_X1_100 (by decide) rfl rfl (by decide) (Nat.le_of_ble_eq_true rfl) ob_167 rfl rfl (CA.monoI h ?_)
      intro r3 M3 h
      refine pw_if_eq (pc' := 47) (tgt := 49) rfl dX1_isSuspect_44 (by decide) (fun q4 => ?_) (fun q4 => ?_)
      · have h := h.1 q4
        refine pw_iinc (pc' := 52) (lv' := [(0, .ref 167), (1, .int a1), (2, .int (a2 + (nI 1)))]) 2 [1, 2, 0] rfl dX1_isSuspect_49 rfl (ii_1 _) (by decide) rfl ?_
        refine pw_goto (tgt := 8) dX1_isSuspect_52 (by decide) ?_
        exact pw_sub [0, 1, 2] rfl h
      · have h := h.2 q4
        refine pw_iconst (pc' := 48) rfl dX1_isSuspect_47 ci_1 ?_
        exact ps_zret dX1_isSuspect_48 rfl (by decide) h
theorem T_X1_othersMayBeElsewhere {M : Mem} {a1 : Int32} {a2 : Int32} {Q : Int32 → Mem → Prop}  (h : P_X1_othersMayBeElsewhere_2 M a1 a2 (nI 0) Q) : C_X1_othersMayBeElsewhere M a1 a2 Q := by
  refine CA_of rfl (Nat.le_of_ble_eq_true rfl) ?_
  show PS _ _ 0 [(0, .ref 167), (1, .int a1), (2, .int a2)] [] M _
  refine pw_iconst (pc' := 1) rfl dX1_othersMayBeElsewhere_0 ci_0 ?_
  refine pw_istore_n (pc' := 2) (lv' := [(0, .ref 167), (1, .int a1), (2, .int a2), (3, .int (nI 0))]) [1, 2, 3, 0] rfl dX1_othersMayBeElsewhere_1 rfl (by decide) rfl ?_
  exact pw_sub [0, 1, 2, 3] rfl h
theorem T_X1_othersMayBeElsewhere_2 {M : Mem} {a1 : Int32} {a2 : Int32} {a3 : Int32} {Q : Int32 → Mem → Prop}  (h : (((M 37 0) ≤ a3) → (Q (nI 1) M)) ∧ ((¬ (M 37 0) ≤ a3) → (((a3 = a1) → (P_X1_othersMayBeElsewhere_2 M a1 a2 (a3 + (nI 1)) Q)) ∧ ((¬ a3 = a1) → (C_X1_roomsOf M a3 a2 (fun r2 M2 => ((¬ (r2 &&& (((nI 1) <<< ((M2 37 3) &&& 31)) ^^^ (-1))) = 0) → (P_X1_othersMayBeElsewhere_2 M2 a1 a2 (a3 + (nI 1)) Q)) ∧ (((r2 &&& (((nI 1) <<< ((M2 37 3) &&& 31)) ^^^ (-1))) = 0) → (Q (nI 0) M2)))))))) : P_X1_othersMayBeElsewhere_2 M a1 a2 a3 Q := by
  refine pw_iload_n (pc' := 3) 3 rfl dX1_othersMayBeElsewhere_2 rfl rfl ?_
  refine pw_aload_n (pc' := 4) 0 rfl dX1_othersMayBeElsewhere_3 rfl rfl ?_
  refine ps_getR (pc' := 7) (r := 37) rfl dX1_othersMayBeElsewhere_4 fl_X1_20 ob_167 rfl rfl ?_
  refine ps_getI (pc' := 10) (v := (M 37 0)) rfl dX1_othersMayBeElsewhere_7 fl_X1_34 ob_37 rfl rfl ?_
  refine pw_icmp_ge (pc' := 13) (tgt := 47) rfl dX1_othersMayBeElsewhere_10 (by decide) (fun q0 => ?_) (fun q0 => ?_)
  · have h := h.1 q0
    refine pw_iconst (pc' := 48) rfl dX1_othersMayBeElsewhere_47 ci_1 ?_
    exact ps_zret dX1_othersMayBeElsewhere_48 rfl (by decide) h
  · have h := h.2 q0
    refine pw_iload_n (pc' := 14) 3 rfl dX1_othersMayBeElsewhere_13 rfl rfl ?_
    refine pw_iload_n (pc' := 15) 1 rfl dX1_othersMayBeElsewhere_14 rfl rfl ?_
    refine pw_icmp_eq (pc' := 18) (tgt := 41) rfl dX1_othersMayBeElsewhere_15 (by decide) (fun q1 => ?_) (fun q1 => ?_)
    · have h := h.1 q1
      refine pw_iinc (pc' := 44) (lv' := [(0, .ref 167), (1, .int a1), (2, .int a2), (3, .int (a3 + (nI 1)))]) 3 [1, 2, 3, 0] rfl dX1_othersMayBeElsewhere_41 rfl (ii_1 _) (by decide) rfl ?_
      refine pw_goto (tgt := 2) dX1_othersMayBeElsewhere_44 (by decide) ?_
      exact pw_sub [0, 1, 2, 3] rfl h
    · have h := h.2 q1
      refine pw_aload_n (pc' := 19) 0 rfl dX1_othersMayBeElsewhere_18 rfl rfl ?_
      refine pw_iload_n (pc' := 20) 3 rfl dX1_othersMayBeElsewhere_19 rfl rfl ?_
      refine pw_iload_n (pc' := 21) 2 rfl dX1_othersMayBeElsewhere_20 rfl rfl ?_
      refine ps_callVI (pc' := 24) (As := [.int a3, .int a2]) (rest := []) (cT := (RX1, TX1, 3)) 2 rfl dX1_othersMayBeElsewhere_21 cv_X1_roomsOf ml_X1_93 (by decide) rfl rfl (by decide) (Nat.le_of_ble_eq_true rfl) ob_167 rfl rfl (CA.monoI h ?_)
      intro r2 M2 h
      refine pw_iconst (pc' := 25) rfl dX1_othersMayBeElsewhere_24 ci_1 ?_
      refine pw_aload_n (pc' := 26) 0 rfl dX1_othersMayBeElsewhere_25 rfl rfl ?_
      refine ps_getR (pc' := 29) (r := 37) rfl dX1_othersMayBeElsewhere_26 fl_X1_20 ob_167 rfl rfl ?_
      refine ps_getI (pc' := 32) (v := (M2 37 3)) rfl dX1_othersMayBeElsewhere_29 fl_X1_97 ob_37 rfl rfl ?_
      refine pw_ishl (pc' := 33) rfl dX1_othersMayBeElsewhere_32 ?_
      refine pw_iconst (pc' := 34) rfl dX1_othersMayBeElsewhere_33 ci_m1 ?_
      refine pw_ixor (pc' := 35) rfl dX1_othersMayBeElsewhere_34 ?_
      refine pw_iand (pc' := 36) rfl dX1_othersMayBeElsewhere_35 ?_
      refine pw_if_ne (pc' := 39) (tgt := 41) rfl dX1_othersMayBeElsewhere_36 (by decide) (fun q3 => ?_) (fun q3 => ?_)
      · have h := h.1 q3
        refine pw_iinc (pc' := 44) (lv' := [(0, .ref 167), (1, .int a1), (2, .int a2), (3, .int (a3 + (nI 1)))]) 3 [1, 2, 3, 0] rfl dX1_othersMayBeElsewhere_41 rfl (ii_1 _) (by decide) rfl ?_
        refine pw_goto (tgt := 2) dX1_othersMayBeElsewhere_44 (by decide) ?_
        exact pw_sub [0, 1, 2, 3] rfl h
      · have h := h.2 q3
        refine pw_iconst (pc' := 40) rfl dX1_othersMayBeElsewhere_39 ci_0 ?_
        exact ps_zret dX1_othersMayBeElsewhere_40 rfl (by decide) h
