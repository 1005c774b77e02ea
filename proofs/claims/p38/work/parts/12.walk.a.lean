theorem T_X0_measure_1 {M : Mem}  {Q : Mem → Prop}  (h : P_X0_measure_1_2 M (nI 0) Q) : C_X0_measure_1 M  Q := by
  refine CA_of rfl (Nat.le_of_ble_eq_true rfl) ?_
  show PS _ _ 0 [(0, .ref 1)] [] M _
  refine pw_iconst (pc' := 1) rfl dX0_measure_0 ci_0 ?_
  refine pw_istore_n (pc' := 2) (lv' := [(0, .ref 1), (1, .int (nI 0))]) [1, 0] rfl dX0_measure_1 rfl (by decide) rfl ?_
  exact pw_sub [0, 1] rfl h
theorem T_X0_measure_1_2 {M : Mem} {a1 : Int32} {Q : Mem → Prop}  (h : (((M 1 0) ≤ a1) → (Q M)) ∧ ((¬ (M 1 0) ≤ a1) → (vp_in a1 10 ∧ (C_X0_measureFrom_1 M a1 (nI 0) (8 + 1 + ix a1) (fun M2 => C_X0_measureFrom_1 M2 a1 (nI 1) (19 + 1 + ix a1) (fun M4 => P_X0_measure_1_2 M4 (a1 + (nI 1)) Q)))))) : P_X0_measure_1_2 M a1 Q := by
  refine pw_iload_n (pc' := 3) 1 rfl dX0_measure_2 rfl rfl ?_
  refine pw_aload_n (pc' := 4) 0 rfl dX0_measure_3 rfl rfl ?_
  refine ps_getI (pc' := 7) (v := (M 1 0)) rfl dX0_measure_4 fl_X0_29 ob_1 rfl rfl ?_
  refine pw_icmp_ge (pc' := 10) (tgt := 40) rfl dX0_measure_7 (by decide) (fun q0 => ?_) (fun q0 => ?_)
  · have h := h.1 q0
    exact ps_vret dX0_measure_40 rfl h
  · have h := h.2 q0
    refine pw_aload_n (pc' := 11) 0 rfl dX0_measure_10 rfl rfl ?_
    refine pw_iload_n (pc' := 12) 1 rfl dX0_measure_11 rfl rfl ?_
    refine pw_iconst (pc' := 13) rfl dX0_measure_12 ci_0 ?_
    refine pw_aload_n (pc' := 14) 0 rfl dX0_measure_13 rfl rfl ?_
    refine ps_getR (pc' := 17) (r := 8) rfl dX0_measure_14 fl_X0_23 ob_1 rfl rfl ?_
    refine pw_iload_n (pc' := 18) 1 rfl dX0_measure_17 rfl rfl ?_
    obtain ⟨b1, h⟩ := h
    refine ps_aald (pc' := 19) rfl dX0_measure_18 ra_8 b1 ?_
    refine ps_callVV (pc' := 22) (As := [.int a1, .int (nI 0), .ref (8 + 1 + ix a1)]) (rest := []) (cT := (RX0, TX0, 8)) 3 rfl dX0_measure_19 cv_X0_measureFrom ml_X0_43 (by decide) rfl rfl (by decide) (Nat.le_of_ble_eq_true rfl) ob_1 rfl rfl (CA.monoV h ?_)
    intro M2 h
    refine pw_aload_n (pc' := 23) 0 rfl dX0_measure_22 rfl rfl ?_
    refine pw_iload_n (pc' := 24) 1 rfl dX0_measure_23 rfl rfl ?_
    refine pw_iconst (pc' := 25) rfl dX0_measure_24 ci_1 ?_
    refine pw_aload_n (pc' := 26) 0 rfl dX0_measure_25 rfl rfl ?_
    refine ps_getR (pc' := 29) (r := 19) rfl dX0_measure_26 fl_X0_26 ob_1 rfl rfl ?_
    refine pw_iload_n (pc' := 30) 1 rfl dX0_measure_29 rfl rfl ?_
    refine ps_aald (pc' := 31) rfl dX0_measure_30 ra_19 b1 ?_
    refine ps_callVV (pc' := 34) (As := [.int a1, .int (nI 1), .ref (19 + 1 + ix a1)]) (rest := []) (cT := (RX0, TX0, 8)) 3 rfl dX0_measure_31 cv_X0_measureFrom ml_X0_43 (by decide) rfl rfl (by decide) (Nat.le_of_ble_eq_true rfl) ob_1 rfl rfl (CA.monoV h ?_)
    intro M4 h
    refine pw_iinc (pc' := 37) (lv' := [(0, .ref 1), (1, .int (a1 + (nI 1)))]) 1 [1, 0] rfl dX0_measure_34 rfl (ii_1 _) (by decide) rfl ?_
    refine pw_goto (tgt := 2) dX0_measure_37 (by decide) ?_
    exact pw_sub [0, 1] rfl h
theorem T_X0_measureFrom_1 {M : Mem} {a1 : Int32} {a2 : Int32} {c3 : Nat} {n3 : Nat} {Q : Mem → Prop} (hc3 : IA c3 n3) (h : C_J7_fill_53178 M c3 (nI 24) (fun M0 => P_X0_measureFrom_1_17 M0 a2 c3 (nI 0) ((nI 1) <<< (a1 &&& 31)) (nI 0) Q)) : C_X0_measureFrom_1 M a1 a2 c3 Q := by
  refine CA_of rfl (Nat.le_of_ble_eq_true rfl) ?_
  show PS _ _ 0 [(0, .ref 1), (1, .int a1), (2, .int a2), (3, .ref c3)] [] M _
  refine pw_aload_n (pc' := 1) 3 rfl dX0_measureFrom_0 rfl rfl ?_
  refine pw_bipush (pc' := 3) rfl dX0_measureFrom_1 cb_24 ?_
  refine ps_callSV (pc' := 6) (As := [.ref c3, .int (nI 24)]) (rest := []) 2 rfl dX0_measureFrom_3 cs_J7_fill_53178 ml_X0_47 (by decide) rfl rfl (by decide) (Nat.le_of_ble_eq_true rfl) (CA.monoV h ?_)
  intro M0 h
  refine pw_iconst (pc' := 7) rfl dX0_measureFrom_6 ci_0 ?_
  refine pw_istore (pc' := 9) (lv' := [(0, .ref 1), (1, .int a1), (2, .int a2), (3, .ref c3), (4, .int (nI 0))]) [1, 2, 3, 4, 0] rfl dX0_measureFrom_7 (by decide) rfl ?_
  refine pw_iconst (pc' := 10) rfl dX0_measureFrom_9 ci_1 ?_
  refine pw_iload_n (pc' := 11) 1 rfl dX0_measureFrom_10 rfl rfl ?_
  refine pw_ishl (pc' := 12) rfl dX0_measureFrom_11 ?_
  refine pw_istore (pc' := 14) (lv' := [(0, .ref 1), (1, .int a1), (2, .int a2), (3, .ref c3), (4, .int (nI 0)), (5, .int ((nI 1) <<< (a1 &&& 31)))]) [1, 2, 3, 4, 5, 0] rfl dX0_measureFrom_12 (by decide) rfl ?_
  refine pw_iconst (pc' := 15) rfl dX0_measureFrom_14 ci_0 ?_
  refine pw_istore (pc' := 17) (lv' := [(0, .ref 1), (1, .int a1), (2, .int a2), (3, .ref c3), (4, .int (nI 0)), (5, .int ((nI 1) <<< (a1 &&& 31))), (6, .int (nI 0))]) [1, 2, 3, 4, 5, 6, 0] rfl dX0_measureFrom_15 (by decide) rfl ?_
  exact pw_sub [0, 2, 3, 4, 5, 6] rfl h
theorem T_X0_measureFrom_1_17 {M : Mem} {a2 : Int32} {c3 : Nat} {a4 : Int32} {a5 : Int32} {a6 : Int32} {n3 : Nat} {Q : Mem → Prop} (hc3 : IA c3 n3) (h : (((nI 10) ≤ a6) → (Q M)) ∧ ((¬ (nI 10) ≤ a6) → (((a5 = 0) → (Q M)) ∧ ((¬ a5 = 0) → (P_X0_measureFrom_1_35 M a2 c3 a4 a5 a6 (nI 0) (nI 0) Q))))) : P_X0_measureFrom_1_17 M a2 c3 a4 a5 a6 Q := by
  refine pw_iload (pc' := 19) 5 rfl dX0_measureFrom_17 rfl ?_
  refine pw_bipush (pc' := 21) rfl dX0_measureFrom_19 cb_10 ?_
  refine pw_icmp_ge (pc' := 24) (tgt := 100) rfl dX0_measureFrom_21 (by decide) (fun q0 => ?_) (fun q0 => ?_)
  · have h := h.1 q0
    exact ps_vret dX0_measureFrom_100 rfl h
  · have h := h.2 q0
    refine pw_iload (pc' := 26) 4 rfl dX0_measureFrom_24 rfl ?_
    refine pw_if_eq (pc' := 29) (tgt := 100) rfl dX0_measureFrom_26 (by decide) (fun q1 => ?_) (fun q1 => ?_)
    · have h := h.1 q1
      exact ps_vret dX0_measureFrom_100 rfl h
    · have h := h.2 q1
      refine pw_iconst (pc' := 30) rfl dX0_measureFrom_29 ci_0 ?_
      refine pw_istore (pc' := 32) (lv' := [(0, .ref 1), (2, .int a2), (3, .ref c3), (4, .int a4), (5, .int a5), (6, .int a6), (7, .int (nI 0))]) [1, 2, 3, 4, 5, 6, 0] rfl dX0_measureFrom_30 (by decide) rfl ?_
      refine pw_iconst (pc' := 33) rfl dX0_measureFrom_32 ci_0 ?_
      refine pw_istore (pc' := 35) (lv' := [(0, .ref 1), (2, .int a2), (3, .ref c3), (4, .int a4), (5, .int a5), (6, .int a6), (7, .int (nI 0)), (8, .int (nI 0))]) [1, 2, 3, 4, 5, 6, 7, 0] rfl dX0_measureFrom_33 (by decide) rfl ?_
      exact pw_sub [0, 1, 2, 3, 4, 5, 6, 7] rfl h
theorem T_X0_measureFrom_1_35 {M : Mem} {a2 : Int32} {c3 : Nat} {a4 : Int32} {a5 : Int32} {a6 : Int32} {a7 : Int32} {a8 : Int32} {n3 : Nat} {Q : Mem → Prop} (hc3 : IA c3 n3) (h : (((M 1 0) ≤ a8) → (P_X0_measureFrom_1_17 M a2 c3 (a4 ||| a5) (a7 &&& ((a4 ||| a5) ^^^ (-1))) (a6 + (nI 1)) Q)) ∧ ((¬ (M 1 0) ≤ a8) → (((((a5 >>> (a8 &&& 31)) &&& (nI 1)) = 0) → (P_X0_measureFrom_1_35 M a2 c3 a4 a5 a6 a7 (a8 + (nI 1)) Q)) ∧ ((¬ ((a5 >>> (a8 &&& 31)) &&& (nI 1)) = 0) → (vp_in a8 n3 ∧ (C_X0_around_1 (wr M c3 (ix a8) a6) a8 a2 (fun r3 M3 => P_X0_measureFrom_1_35 M3 a2 c3 a4 a5 a6 (a7 ||| r3) (a8 + (nI 1)) Q))))))) : P_X0_measureFrom_1_35 M a2 c3 a4 a5 a6 a7 a8 Q := by
  refine pw_iload (pc' := 37) 7 rfl dX0_measureFrom_35 rfl ?_
  refine pw_aload_n (pc' := 38) 0 rfl dX0_measureFrom_37 rfl rfl ?_
  refine ps_getI (pc' := 41) (v := (M 1 0)) rfl dX0_measureFrom_38 fl_X0_29 ob_1 rfl rfl ?_
  refine pw_icmp_ge (pc' := 44) (tgt := 78) rfl dX0_measureFrom_41 (by decide) (fun q0 => ?_) (fun q0 => ?_)
  · have h := h.1 q0
    refine pw_iload (pc' := 80) 3 rfl dX0_measureFrom_78 rfl ?_
    refine pw_iload (pc' := 82) 4 rfl dX0_measureFrom_80 rfl ?_
    refine pw_ior (pc' := 83) rfl dX0_measureFrom_82 ?_
    refine pw_istore (pc' := 85) (lv' := [(0, .ref 1), (2, .int a2), (3, .ref c3), (4, .int (a4 ||| a5)), (5, .int a5), (6, .int a6), (7, .int a7), (8, .int a8)]) [1, 2, 3, 0, 4, 5, 6, 7] rfl dX0_measureFrom_83 (by decide) rfl ?_
    refine pw_iload (pc' := 87) 6 rfl dX0_measureFrom_85 rfl ?_
    refine pw_iload (pc' := 89) 3 rfl dX0_measureFrom_87 rfl ?_
    refine pw_iconst (pc' := 90) rfl dX0_measureFrom_89 ci_m1 ?_
    refine pw_ixor (pc' := 91) rfl dX0_measureFrom_90 ?_
    refine pw_iand (pc' := 92) rfl dX0_measureFrom_91 ?_
    refine pw_istore (pc' := 94) (lv' := [(0, .ref 1), (2, .int a2), (3, .ref c3), (4, .int (a4 ||| a5)), (5, .int (a7 &&& ((a4 ||| a5) ^^^ (-1)))), (6, .int a6), (7, .int a7), (8, .int a8)]) [1, 2, 3, 4, 0, 5, 6, 7] rfl dX0_measureFrom_92 (by decide) rfl ?_
    refine pw_iinc (pc' := 97) (lv' := [(0, .ref 1), (2, .int a2), (3, .ref c3), (4, .int (a4 ||| a5)), (5, .int (a7 &&& ((a4 ||| a5) ^^^ (-1)))), (6, .int (a6 + (nI 1))), (7, .int a7), (8, .int a8)]) 5 [1, 2, 3, 4, 5, 0, 6, 7] rfl dX0_measureFrom_94 rfl (ii_1 _) (by decide) rfl ?_
    refine pw_goto (tgt := 17) dX0_measureFrom_97 (by decide) ?_
    exact pw_sub [0, 1, 2, 3, 4, 5] rfl h
  · have h := h.2 q0
    refine pw_iload (pc' := 46) 4 rfl dX0_measureFrom_44 rfl ?_
    refine pw_iload (pc' := 48) 7 rfl dX0_measureFrom_46 rfl ?_
    refine pw_ishr (pc' := 49) rfl dX0_measureFrom_48 ?_
    refine pw_iconst (pc' := 50) rfl dX0_measureFrom_49 ci_1 ?_
    refine pw_iand (pc' := 51) rfl dX0_measureFrom_50 ?_
    refine pw_if_eq (pc' := 54) (tgt := 72) rfl dX0_measureFrom_51 (by decide) (fun q1 => ?_) (fun q1 => ?_)
    · have h := h.1 q1
      refine pw_iinc (pc' := 75) (lv' := [(0, .ref 1), (2, .int a2), (3, .ref c3), (4, .int a4), (5, .int a5), (6, .int a6), (7, .int a7), (8, .int (a8 + (nI 1)))]) 7 [1, 2, 3, 4, 5, 6, 7, 0] rfl dX0_measureFrom_72 rfl (ii_1 _) (by decide) rfl ?_
      refine pw_goto (tgt := 35) dX0_measureFrom_75 (by decide) ?_
      exact pw_sub [0, 1, 2, 3, 4, 5, 6, 7] rfl h
    · have h := h.2 q1
      refine pw_aload_n (pc' := 55) 2 rfl dX0_measureFrom_54 rfl rfl ?_
      refine pw_iload (pc' := 57) 7 rfl dX0_measureFrom_55 rfl ?_
      refine pw_iload (pc' := 59) 5 rfl dX0_measureFrom_57 rfl ?_
      obtain ⟨b2, h⟩ := h
      refine ps_iast (pc' := 60) rfl dX0_measureFrom_59 hc3 b2 ?_
      refine pw_iload (pc' := 62) 6 rfl dX0_measureFrom_60 rfl ?_
      refine pw_aload_n (pc' := 63) 0 rfl dX0_measureFrom_62 rfl rfl ?_
      refine pw_iload (pc' := 65) 7 rfl dX0_measureFrom_63 rfl ?_
      refine pw_iload_n (pc' := 66) 1 rfl dX0_measureFrom_65 rfl rfl ?_
      refine ps_callVI (pc' := 69) (As := [.int a8, .int a2]) (rest := [.int a7]) (cT := (RX0, TX0, 8)) 2 rfl dX0_measureFrom_66 cv_X0_around ml_X0_53 (by decide) rfl rfl (by decide) (Nat.le_of_ble_eq_true rfl) ob_1 rfl rfl (CA.monoI h ?_)
      intro r3 M3 h
      refine pw_ior (pc' := 70) rfl dX0_measureFrom_69 ?_
      refine pw_istore (pc' := 72) (lv' := [(0, .ref 1), (2, .int a2), (3, .ref c3), (4, .int a4), (5, .int a5), (6, .int a6), (7, .int (a7 ||| r3)), (8, .int a8)]) [1, 2, 3, 4, 5, 6, 0, 7] rfl dX0_measureFrom_70 (by decide) rfl ?_
      refine pw_iinc (pc' := 75) (lv' := [(0, .ref 1), (2, .int a2), (3, .ref c3), (4, .int a4), (5, .int a5), (6, .int a6), (7, .int (a7 ||| r3)), (8, .int (a8 + (nI 1)))]) 7 [1, 2, 3, 4, 5, 6, 7, 0] rfl dX0_measureFrom_72 rfl (ii_1 _) (by decide) rfl ?_
      refine pw_goto (tgt := 35) dX0_measureFrom_75 (by decide) ?_
      exact pw_sub [0, 1, 2, 3, 4, 5, 6, 7] rfl h
theorem T_J7_fill_53178 {M : Mem} {c0 : Nat} {a1 : Int32} {n0 : Nat} {Q : Mem → Prop} (hc0 : IA c0 n0) (h : P_J7_fill_53178_5 M c0 a1 (nI 0) (nI n0) Q) : C_J7_fill_53178 M c0 a1 Q := by
  refine CA_of rfl (Nat.le_of_ble_eq_true rfl) ?_
  show PS _ _ 0 [(0, .ref c0), (1, .int a1)] [] M _
  refine pw_iconst (pc' := 1) rfl dJ7_fill_53178_0 ci_0 ?_
  refine pw_istore_n (pc' := 2) (lv' := [(0, .ref c0), (1, .int a1), (2, .int (nI 0))]) [1, 2, 0] rfl dJ7_fill_53178_1 rfl (by decide) rfl ?_
  refine pw_aload_n (pc' := 3) 0 rfl dJ7_fill_53178_2 rfl rfl ?_
  refine ps_alen (pc' := 4) rfl dJ7_fill_53178_3 hc0 ?_
  refine pw_istore_n (pc' := 5) (lv' := [(0, .ref c0), (1, .int a1), (2, .int (nI 0)), (3, .int (nI n0))]) [1, 2, 3, 0] rfl dJ7_fill_53178_4 rfl (by decide) rfl ?_
  exact pw_sub [0, 1, 2, 3] rfl h
theorem T_J7_fill_53178_5 {M : Mem} {c0 : Nat} {a1 : Int32} {a2 : Int32} {a3 : Int32} {n0 : Nat} {Q : Mem → Prop} (hc0 : IA c0 n0) (h : ((a3 ≤ a2) → (Q M)) ∧ ((¬ a3 ≤ a2) → (vp_in a2 n0 ∧ (P_J7_fill_53178_5 (wr M c0 (ix a2) a1) c0 a1 (a2 + (nI 1)) a3 Q)))) : P_J7_fill_53178_5 M c0 a1 a2 a3 Q := by
  refine pw_iload_n (pc' := 6) 2 rfl dJ7_fill_53178_5 rfl rfl ?_
  refine pw_iload_n (pc' := 7) 3 rfl dJ7_fill_53178_6 rfl rfl ?_
  refine pw_icmp_ge (pc' := 10) (tgt := 20) rfl dJ7_fill_53178_7 (by decide) (fun q0 => ?_) (fun q0 => ?_)
  · have h := h.1 q0
    exact ps_vret dJ7_fill_53178_20 rfl h
  · have h := h.2 q0
    refine pw_aload_n (pc' := 11) 0 rfl dJ7_fill_53178_10 rfl rfl ?_
    refine pw_iload_n (pc' := 12) 2 rfl dJ7_fill_53178_11 rfl rfl ?_
    refine pw_iload_n (pc' := 13) 1 rfl dJ7_fill_53178_12 rfl rfl ?_
    obtain ⟨b1, h⟩ := h
    refine ps_iast (pc' := 14) rfl dJ7_fill_53178_13 hc0 b1 ?_
    refine pw_iinc (pc' := 17) (lv' := [(0, .ref c0), (1, .int a1), (2, .int (a2 + (nI 1))), (3, .int a3)]) 2 [1, 2, 0, 3] rfl dJ7_fill_53178_14 rfl (ii_1 _) (by decide) rfl ?_
    refine pw_goto (tgt := 5) dJ7_fill_53178_17 (by decide) ?_
    exact pw_sub [0, 1, 2, 3] rfl h
theorem T_X0_around_1 {M : Mem} {a1 : Int32} {a2 : Int32} {Q : Int32 → Mem → Prop}  (h : vp_in a1 10 ∧ (((a2 = 0) → (Q (((nI 1) <<< (a1 &&& 31)) ||| (M 2 (ix a1))) M)) ∧ ((¬ a2 = 0) → (Q ((((nI 1) <<< (a1 &&& 31)) ||| (M 2 (ix a1))) ||| (M 3 (ix a1))) M)))) : C_X0_around_1 M a1 a2 Q := by
  refine CA_of rfl (Nat.le_of_ble_eq_true rfl) ?_
  show PS _ _ 0 [(0, .ref 1), (1, .int a1), (2, .int a2)] [] M _
  refine pw_iconst (pc' := 1) rfl dX0_around_0 ci_1 ?_
  refine pw_iload_n (pc' := 2) 1 rfl dX0_around_1 rfl rfl ?_
  refine pw_ishl (pc' := 3) rfl dX0_around_2 ?_
  refine pw_aload_n (pc' := 4) 0 rfl dX0_around_3 rfl rfl ?_
  refine ps_getR (pc' := 7) (r := 2) rfl dX0_around_4 fl_X0_9 ob_1 rfl rfl ?_
  refine pw_iload_n (pc' := 8) 1 rfl dX0_around_7 rfl rfl ?_
  obtain ⟨b0, h⟩ := h
  refine ps_iald (pc' := 9) (v := (M 2 (ix a1))) rfl dX0_around_8 ia_2 b0 rfl ?_
  refine pw_ior (pc' := 10) rfl dX0_around_9 ?_
  refine pw_istore_n (pc' := 11) (lv' := [(0, .ref 1), (1, .int a1), (2, .int a2), (3, .int (((nI 1) <<< (a1 &&& 31)) ||| (M 2 (ix a1))))]) [1, 2, 3, 0] rfl dX0_around_10 rfl (by decide) rfl ?_
  refine pw_iload_n (pc' := 12) 2 rfl dX0_around_11 rfl rfl ?_
  refine pw_if_eq (pc' := 15) (tgt := 26) rfl dX0_around_12 (by decide) (fun q1 => ?_) (fun q1 => ?_)
  · have h := h.1 q1
    refine pw_iload_n (pc' := 27) 3 rfl dX0_around_26 rfl rfl ?_
    exact ps_iret dX0_around_27 rfl h
  · have h := h.2 q1
    refine pw_iload_n (pc' := 16) 3 rfl dX0_around_15 rfl rfl ?_
    refine pw_aload_n (pc' := 17) 0 rfl dX0_around_16 rfl rfl ?_
    refine ps_getR (pc' := 20) (r := 3) rfl dX0_around_17 fl_X0_15 ob_1 rfl rfl ?_
    refine pw_iload_n (pc' := 21) 1 rfl dX0_around_20 rfl rfl ?_
    refine ps_iald (pc' := 22) (v := (M 3 (ix a1))) rfl dX0_around_21 ia_3 b0 rfl ?_
    refine pw_ior (pc' := 23) rfl dX0_around_22 ?_
    refine pw_goto (tgt := 27) dX0_around_23 (by decide) ?_
    exact ps_iret dX0_around_27 rfl h
theorem T_X0_arePair_1 {M : Mem} {a1 : Int32} {a2 : Int32} {Q : Int32 → Mem → Prop}  (h : C_X0_hasRoom_1 M a1 (fun r0 M0 => ((r0 = 0) → (Q (nI 0) M0)) ∧ ((¬ r0 = 0) → (C_X0_hasRoom_1 M0 a2 (fun r2 M2 => ((r2 = 0) → (Q (nI 0) M2)) ∧ ((¬ r2 = 0) → (((a1 = a2) → (Q (nI 0) M2)) ∧ ((¬ a1 = a2) → (Q (nI 1) M2))))))))) : C_X0_arePair_1 M a1 a2 Q := by
  refine CA_of rfl (Nat.le_of_ble_eq_true rfl) ?_
  show PS _ _ 0 [(0, .ref 1), (1, .int a1), (2, .int a2)] [] M _
  refine pw_aload_n (pc' := 1) 0 rfl dX0_arePair_0 rfl rfl ?_
  refine pw_iload_n (pc' := 2) 1 rfl dX0_arePair_1 rfl rfl ?_
  refine ps_callVI (pc' := 5) (As := [.int a1]) (rest := []) (cT := (RX0, TX0, 8)) 1 rfl dX0_arePair_2 cv_X0_hasRoom ml_X0_33 (by decide) rfl rfl (by decide) (Nat.le_of_ble_eq_true rfl) ob_1 rfl rfl (CA.monoI h ?_)
  intro r0 M0 h
  refine pw_if_eq (pc' := 8) (tgt := 25) rfl dX0_arePair_5 (by decide) (fun q1 => ?_) (fun q1 => ?_)
  · have h := h.1 q1
    refine pw_iconst (pc' := 26) rfl dX0_arePair_25 ci_0 ?_
    exact ps_zret dX0_arePair_26 rfl (by decide) h
  · have h := h.2 q1
    refine pw_aload_n (pc' := 9) 0 rfl dX0_arePair_8 rfl rfl ?_
    refine pw_iload_n (pc' := 10) 2 rfl dX0_arePair_9 rfl rfl ?_
    refine ps_callVI (pc' := 13) (As := [.int a2]) (rest := []) (cT := (RX0, TX0, 8)) 1 rfl dX0_arePair_10 cv_X0_hasRoom ml_X0_33 (by decide) rfl rfl (by decide) (Nat.le_of_ble_eq_true rfl) ob_1 rfl rfl (CA.monoI h ?_)
    intro r2 M2 h
    refine pw_if_eq (pc' := 16) (tgt := 25) rfl dX0_arePair_13 (by decide) (fun q3 => ?_) (fun q3 => ?_)
    · have h := h.1 q3
      refine pw_iconst (pc' := 26) rfl dX0_arePair_25 ci_0 ?_
      exact ps_zret dX0_arePair_26 rfl (by decide) h
    · have h := h.2 q3
      refine pw_iload_n (pc' := 17) 1 rfl dX0_arePair_16 rfl rfl ?_
      refine pw_iload_n (pc' := 18) 2 rfl dX0_arePair_17 rfl rfl ?_
      refine pw_icmp_eq (pc' := 21) (tgt := 25) rfl dX0_arePair_18 (by decide) (fun q4 => ?_) (fun q4 => ?_)
      · have h := h.1 q4
        refine pw_iconst (pc' := 26) rfl dX0_arePair_25 ci_0 ?_
        exact ps_zret dX0_arePair_26 rfl (by decide) h
      · have h := h.2 q4
        refine pw_iconst (pc' := 22) rfl dX0_arePair_21 ci_1 ?_
        refine pw_goto (tgt := 26) dX0_arePair_22 (by decide) ?_
        exact ps_zret dX0_arePair_26 rfl (by decide) h
theorem T_X0_hasRoom_1 {M : Mem} {a1 : Int32} {Q : Int32 → Mem → Prop}  (h : ((a1 < 0) → (Q (nI 0) M)) ∧ ((¬ a1 < 0) → ((((M 1 0) ≤ a1) → (Q (nI 0) M)) ∧ ((¬ (M 1 0) ≤ a1) → (Q (nI 1) M))))) : C_X0_hasRoom_1 M a1 Q := by
  refine CA_of rfl (Nat.le_of_ble_eq_true rfl) ?_
  show PS _ _ 0 [(0, .ref 1), (1, .int a1)] [] M _
  refine pw_iload_n (pc' := 1) 1 rfl dX0_hasRoom_0 rfl rfl ?_
  refine pw_if_lt (pc' := 4) (tgt := 16) rfl dX0_hasRoom_1 (by decide) (fun q0 => ?_) (fun q0 => ?_)
  · have h := h.1 q0
    refine pw_iconst (pc' := 17) rfl dX0_hasRoom_16 ci_0 ?_
    exact ps_zret dX0_hasRoom_17 rfl (by decide) h
  · have h := h.2 q0
    refine pw_iload_n (pc' := 5) 1 rfl dX0_hasRoom_4 rfl rfl ?_
    refine pw_aload_n (pc' := 6) 0 rfl dX0_hasRoom_5 rfl rfl ?_
    refine ps_getI (pc' := 9) (v := (M 1 0)) rfl dX0_hasRoom_6 fl_X0_29 ob_1 rfl rfl ?_
    refine pw_icmp_ge (pc' := 12) (tgt := 16) rfl dX0_hasRoom_9 (by decide) (fun q1 => ?_) (fun q1 => ?_)
    · have h := h.1 q1
      refine pw_iconst (pc' := 17) rfl dX0_hasRoom_16 ci_0 ?_
      exact ps_zret dX0_hasRoom_17 rfl (by decide) h
    · have h := h.2 q1
      refine pw_iconst (pc' := 13) rfl dX0_hasRoom_12 ci_1 ?_
      refine pw_goto (tgt := 17) dX0_hasRoom_13 (by decide) ?_
      exact ps_zret dX0_hasRoom_17 rfl (by decide) h
theorem T_X0_doorKind_1 {M : Mem} {a1 : Int32} {a2 : Int32} {Q : Int32 → Mem → Prop}  (h : vp_in a1 10 ∧ ((((((M 2 (ix a1)) >>> (a2 &&& 31)) &&& (nI 1)) = 0) → ((((((M 3 (ix a1)) >>> (a2 &&& 31)) &&& (nI 1)) = 0) → (Q (-1) M)) ∧ ((¬ (((M 3 (ix a1)) >>> (a2 &&& 31)) &&& (nI 1)) = 0) → (Q (nI 1) M)))) ∧ ((¬ (((M 2 (ix a1)) >>> (a2 &&& 31)) &&& (nI 1)) = 0) → (Q (nI 0) M)))) : C_X0_doorKind_1 M a1 a2 Q := by
  refine CA_of rfl (Nat.le_of_ble_eq_true rfl) ?_
  show PS _ _ 0 [(0, .ref 1), (1, .int a1), (2, .int a2)] [] M _
  refine pw_aload_n (pc' := 1) 0 rfl dX0_doorKind_0 rfl rfl ?_
  refine ps_getR (pc' := 4) (r := 2) rfl dX0_doorKind_1 fl_X0_9 ob_1 rfl rfl ?_
  refine pw_iload_n (pc' := 5) 1 rfl dX0_doorKind_4 rfl rfl ?_
  obtain ⟨b0, h⟩ := h
  refine ps_iald (pc' := 6) (v := (M 2 (ix a1))) rfl dX0_doorKind_5 ia_2 b0 rfl ?_
  refine pw_iload_n (pc' := 7) 2 rfl dX0_doorKind_6 rfl rfl ?_
  refine pw_ishr (pc' := 8) rfl dX0_doorKind_7 ?_
  refine pw_iconst (pc' := 9) rfl dX0_doorKind_8 ci_1 ?_
  refine pw_iand (pc' := 10) rfl dX0_doorKind_9 ?_
  refine pw_if_eq (pc' := 13) (tgt := 15) rfl dX0_doorKind_10 (by decide) (fun q1 => ?_) (fun q1 => ?_)
  · have h := h.1 q1
    refine pw_aload_n (pc' := 16) 0 rfl dX0_doorKind_15 rfl rfl ?_
    refine ps_getR (pc' := 19) (r := 3) rfl dX0_doorKind_16 fl_X0_15 ob_1 rfl rfl ?_
    refine pw_iload_n (pc' := 20) 1 rfl dX0_doorKind_19 rfl rfl ?_
    refine ps_iald (pc' := 21) (v := (M 3 (ix a1))) rfl dX0_doorKind_20 ia_3 b0 rfl ?_
    refine pw_iload_n (pc' := 22) 2 rfl dX0_doorKind_21 rfl rfl ?_
    refine pw_ishr (pc' := 23) rfl dX0_doorKind_22 ?_
    refine pw_iconst (pc' := 24) rfl dX0_doorKind_23 ci_1 ?_
    refine pw_iand (pc' := 25) rfl dX0_doorKind_24 ?_
    refine pw_if_eq (pc' := 28) (tgt := 32) rfl dX0_doorKind_25 (by decide) (fun q3 => ?_) (fun q3 => ?_)
    · have h := h.1 q3
      refine pw_iconst (pc' := 33) rfl dX0_doorKind_32 ci_m1 ?_
      exact ps_iret dX0_doorKind_33 rfl h
    · have h := h.2 q3
      refine pw_iconst (pc' := 29) rfl dX0_doorKind_28 ci_1 ?_
      refine pw_goto (tgt := 33) dX0_doorKind_29 (by decide) ?_
      exact ps_iret dX0_doorKind_33 rfl h
  · have h := h.2 q1
    refine pw_iconst (pc' := 14) rfl dX0_doorKind_13 ci_0 ?_
    exact ps_iret dX0_doorKind_14 rfl h
theorem T_X0_putDoor_1 {M : Mem} {a1 : Int32} {a2 : Int32} {a3 : Int32} {Q : Mem → Prop}  (h : ((¬ a3 = 0) → (vp_in a1 10 ∧ (vp_in a2 10 ∧ (Q (wr (wr (wr M 3 (ix a1) ((M 3 (ix a1)) ||| ((nI 1) <<< (a2 &&& 31)))) 3 (ix a2) (((wr M 3 (ix a1) ((M 3 (ix a1)) ||| ((nI 1) <<< (a2 &&& 31)))) 3 (ix a2)) ||| ((nI 1) <<< (a1 &&& 31)))) 1 1 ((M 1 1) + (nI 1))))))) ∧ ((a3 = 0) → (vp_in a1 10 ∧ (vp_in a2 10 ∧ (Q (wr (wr (wr M 2 (ix a1) ((M 2 (ix a1)) ||| ((nI 1) <<< (a2 &&& 31)))) 2 (ix a2) (((wr M 2 (ix a1) ((M 2 (ix a1)) ||| ((nI 1) <<< (a2 &&& 31)))) 2 (ix a2)) ||| ((nI 1) <<< (a1 &&& 31)))) 1 1 ((M 1 1) + (nI 1)))))))) : C_X0_putDoor_1 M a1 a2 a3 Q := by
  refine CA_of rfl (Nat.le_of_ble_eq_true rfl) ?_
  show PS _ _ 0 [(0, .ref 1), (1, .int a1), (2, .int a2), (3, .int a3)] [] M _
  refine pw_iload_n (pc' := 1) 3 rfl dX0_putDoor_0 rfl rfl ?_
  refine pw_if_ne (pc' := 4) (tgt := 11) rfl dX0_putDoor_1 (by decide) (fun q0 => ?_) (fun q0 => ?_)
  · have h := h.1 q0
    refine pw_aload_n (pc' := 12) 0 rfl dX0_putDoor_11 rfl rfl ?_
    refine ps_getR (pc' := 15) (r := 3) rfl dX0_putDoor_12 fl_X0_15 ob_1 rfl rfl ?_
    refine pw_astore (pc' := 17) (lv' := [(0, .ref 1), (1, .int a1), (2, .int a2), (3, .int a3), (4, .ref 3)]) [1, 2, 3, 4, 0] rfl dX0_putDoor_15 (by decide) rfl ?_
    refine pw_aload (pc' := 19) 4 rfl dX0_putDoor_17 rfl ?_
    refine pw_iload_n (pc' := 20) 1 rfl dX0_putDoor_19 rfl rfl ?_
    refine pw_dup2 (pc' := 21) rfl dX0_putDoor_20 rfl rfl ?_
    obtain ⟨b1, h⟩ := h
    refine ps_iald (pc' := 22) (v := (M 3 (ix a1))) rfl dX0_putDoor_21 ia_3 b1 rfl ?_
    refine pw_iconst (pc' := 23) rfl dX0_putDoor_22 ci_1 ?_
    refine pw_iload_n (pc' := 24) 2 rfl dX0_putDoor_23 rfl rfl ?_
    refine pw_ishl (pc' := 25) rfl dX0_putDoor_24 ?_
    refine pw_ior (pc' := 26) rfl dX0_putDoor_25 ?_
    refine ps_iast (pc' := 27) rfl dX0_putDoor_26 ia_3 b1 ?_
    refine pw_aload (pc' := 29) 4 rfl dX0_putDoor_27 rfl ?_
    refine pw_iload_n (pc' := 30) 2 rfl dX0_putDoor_29 rfl rfl ?_
    refine pw_dup2 (pc' := 31) rfl dX0_putDoor_30 rfl rfl ?_
    obtain ⟨b3, h⟩ := h
    refine ps_iald (pc' := 32) (v := ((wr M 3 (ix a1) ((M 3 (ix a1)) ||| ((nI 1) <<< (a2 &&& 31)))) 3 (ix a2))) rfl dX0_putDoor_31 ia_3 b3 rfl ?_
    refine pw_iconst (pc' := 33) rfl dX0_putDoor_32 ci_1 ?_
    refine pw_iload_n (pc' := 34) 1 rfl dX0_putDoor_33 rfl rfl ?_
    refine pw_ishl (pc' := 35) rfl dX0_putDoor_34 ?_
    refine pw_ior (pc' := 36) rfl dX0_putDoor_35 ?_
    refine ps_iast (pc' := 37) rfl dX0_putDoor_36 ia_3 b3 ?_
    refine pw_aload_n (pc' := 38) 0 rfl dX0_putDoor_37 rfl rfl ?_
    refine pw_dup (pc' := 39) rfl dX0_putDoor_38 rfl ?_
    refine ps_getI (pc' := 42) (v := (M 1 1)) rfl dX0_putDoor_39 fl_X0_37 ob_1 rfl rfl ?_
    refine pw_iconst (pc' := 43) rfl dX0_putDoor_42 ci_1 ?_
    refine pw_iadd (pc' := 44) rfl dX0_putDoor_43 ?_
    refine ps_putI (pc' := 47) rfl dX0_putDoor_44 fl_X0_37 ob_1 rfl ?_
    exact ps_vret dX0_putDoor_47 rfl h
  · have h := h.2 q0
    refine pw_aload_n (pc' := 5) 0 rfl dX0_putDoor_4 rfl rfl ?_
    refine ps_getR (pc' := 8) (r := 2) rfl dX0_putDoor_5 fl_X0_9 ob_1 rfl rfl ?_
    refine pw_goto (tgt := 15) dX0_putDoor_8 (by decide) ?_
    refine pw_astore (pc' := 17) (lv' := [(0, .ref 1), (1, .int a1), (2, .int a2), (3, .int a3), (4, .ref 2)]) [1, 2, 3, 4, 0] rfl dX0_putDoor_15 (by decide) rfl ?_
    refine pw_aload (pc' := 19) 4 rfl dX0_putDoor_17 rfl ?_
    refine pw_iload_n (pc' := 20) 1 rfl dX0_putDoor_19 rfl rfl ?_
    refine pw_dup2 (pc' := 21) rfl dX0_putDoor_20 rfl rfl ?_
    obtain ⟨b1, h⟩ := h
    refine ps_iald (pc' := 22) (v := (M 2 (ix a1))) rfl dX0_putDoor_21 ia_2 b1 rfl ?_
    refine pw_iconst (pc' := 23) rfl dX0_putDoor_22 ci_1 ?_
    refine pw_iload_n (pc' := 24) 2 rfl dX0_putDoor_23 rfl rfl ?_
    refine pw_ishl (pc' := 25) rfl dX0_putDoor_24 ?_
    refine pw_ior (pc' := 26) rfl dX0_putDoor_25 ?_
    refine ps_iast (pc' := 27) rfl dX0_putDoor_26 ia_2 b1 ?_
    refine pw_aload (pc' := 29) 4 rfl dX0_putDoor_27 rfl ?_
    refine pw_iload_n (pc' := 30) 2 rfl dX0_putDoor_29 rfl rfl ?_
    refine pw_dup2 (pc' := 31) rfl dX0_putDoor_30 rfl rfl ?_
    obtain ⟨b3, h⟩ := h
    refine ps_iald (pc' := 32) (v := ((wr M 2 (ix a1) ((M 2 (ix a1)) ||| ((nI 1) <<< (a2 &&& 31)))) 2 (ix a2))) rfl dX0_putDoor_31 ia_2 b3 rfl ?_
    refine pw_iconst (pc' := 33) rfl dX0_putDoor_32 ci_1 ?_
    refine pw_iload_n (pc' := 34) 1 rfl dX0_putDoor_33 rfl rfl ?_
    refine pw_ishl (pc' := 35) rfl dX0_putDoor_34 ?_
    refine pw_ior (pc' := 36) rfl dX0_putDoor_35 ?_
    refine ps_iast (pc' := 37) rfl dX0_putDoor_36 ia_2 b3 ?_
    refine pw_aload_n (pc' := 38) 0 rfl dX0_putDoor_37 rfl rfl ?_
    refine pw_dup (pc' := 39) rfl dX0_putDoor_38 rfl ?_
    refine ps_getI (pc' := 42) (v := (M 1 1)) rfl dX0_putDoor_39 fl_X0_37 ob_1 rfl rfl ?_
    refine pw_iconst (pc' := 43) rfl dX0_putDoor_42 ci_1 ?_
    refine pw_iadd (pc' := 44) rfl dX0_putDoor_43 ?_
    refine ps_putI (pc' := 47) rfl dX0_putDoor_44 fl_X0_37 ob_1 rfl ?_
    exact ps_vret dX0_putDoor_47 rfl h
theorem T_X7_add {M : Mem} {a1 : Int64} {a3 : Int32} {Q : Int32 → Mem → Prop}  (h : ((a3 < (nI 1)) → (Q (-1) M)) ∧ ((¬ a3 < (nI 1)) → (((a3 ≤ (nI 8)) → (P_X7_add_16 M a1 a3 (nI 0) Q)) ∧ ((¬ a3 ≤ (nI 8)) → (Q (-1) M))))) : C_X7_add M a1 a3 Q := by
  refine CA_of rfl (Nat.le_of_ble_eq_true rfl) ?_
  show PS _ _ 0 [(0, .ref 85), (1, .long a1), (3, .int a3)] [] M _
  refine pw_iload_n (pc' := 1) 2 rfl dX7_add_0 rfl rfl ?_
  refine pw_iconst (pc' := 2) rfl dX7_add_1 ci_1 ?_
  refine pw_icmp_lt (pc' := 5) (tgt := 11) rfl dX7_add_2 (by decide) (fun q0 => ?_) (fun q0 => ?_)
  · have h := h.1 q0
    refine pw_iconst (pc' := 12) rfl dX7_add_11 ci_m1 ?_
    exact ps_iret dX7_add_12 rfl h
  · have h := h.2 q0
    refine pw_iload_n (pc' := 6) 2 rfl dX7_add_5 rfl rfl ?_
    refine pw_bipush (pc' := 8) rfl dX7_add_6 cb_8 ?_
    refine pw_icmp_le (pc' := 11) (tgt := 13) rfl dX7_add_8 (by decide) (fun q1 => ?_) (fun q1 => ?_)
    · have h := h.1 q1
      refine pw_iconst (pc' := 14) rfl dX7_add_13 ci_0 ?_
      refine pw_istore (pc' := 16) (lv' := [(0, .ref 85), (1, .long a1), (3, .int a3), (4, .int (nI 0))]) [1, 2, 3, 0] rfl dX7_add_14 (by decide) rfl ?_
      exact pw_sub [0, 1, 2, 3] rfl h
    · have h := h.2 q1
      refine pw_iconst (pc' := 12) rfl dX7_add_11 ci_m1 ?_
      exact ps_iret dX7_add_12 rfl h
theorem T_X7_add_16 {M : Mem} {a1 : Int64} {a3 : Int32} {a4 : Int32} {Q : Int32 → Mem → Prop}  (h : ((a3 ≤ a4) → (((((M 85 0) + a3) ≤ (nI 80)) → (P_X7_add_71 M a1 (a3 - (nI 1)) Q)) ∧ ((¬ ((M 85 0) + a3) ≤ (nI 80)) → (Q (-3) M)))) ∧ ((¬ a3 ≤ a4) → (C_X7_byteOf M a1 a4 (fun r1 M1 => ((r1 < (nI 32)) → (Q (-1) M1)) ∧ ((¬ r1 < (nI 32)) → (((r1 ≤ (nI 126)) → (P_X7_add_16 M1 a1 a3 (a4 + (nI 1)) Q)) ∧ ((¬ r1 ≤ (nI 126)) → (Q (-1) M1)))))))) : P_X7_add_16 M a1 a3 a4 Q := by
  refine pw_iload (pc' := 18) 3 rfl dX7_add_16 rfl ?_
  refine pw_iload_n (pc' := 19) 2 rfl dX7_add_18 rfl rfl ?_
  refine pw_icmp_ge (pc' := 22) (tgt := 52) rfl dX7_add_19 (by decide) (fun q0 => ?_) (fun q0 => ?_)
  · have h := h.1 q0
    refine pw_aload_n (pc' := 53) 0 rfl dX7_add_52 rfl rfl ?_
    refine ps_getI (pc' := 56) (v := (M 85 0)) rfl dX7_add_53 fl_X7_19 ob_85 rfl rfl ?_
    refine pw_iload_n (pc' := 57) 2 rfl dX7_add_56 rfl rfl ?_
    refine pw_iadd (pc' := 58) rfl dX7_add_57 ?_
    refine pw_bipush (pc' := 60) rfl dX7_add_58 cb_80 ?_
    refine pw_icmp_le (pc' := 63) (tgt := 66) rfl dX7_add_60 (by decide) (fun q1 => ?_) (fun q1 => ?_)
    · have h := h.1 q1
      refine pw_iload_n (pc' := 67) 2 rfl dX7_add_66 rfl rfl ?_
      refine pw_iconst (pc' := 68) rfl dX7_add_67 ci_1 ?_
      refine pw_isub (pc' := 69) rfl dX7_add_68 ?_
      refine pw_istore (pc' := 71) (lv' := [(0, .ref 85), (1, .long a1), (3, .int a3), (4, .int (a3 - (nI 1)))]) [1, 2, 3, 0] rfl dX7_add_69 (by decide) rfl ?_
      exact pw_sub [0, 1, 3] rfl h
    · have h := h.2 q1
      refine pw_bipush (pc' := 65) rfl dX7_add_63 cb_m3 ?_
      exact ps_iret dX7_add_65 rfl h
  · have h := h.2 q0
    refine pw_lload_n (pc' := 23) 1 rfl dX7_add_22 rfl rfl ?_
    refine pw_iload (pc' := 25) 3 rfl dX7_add_23 rfl ?_
    refine ps_callSI (pc' := 28) (As := [.long a1, .int a4]) (rest := []) 2 rfl dX7_add_25 cs_X7_byteOf ml_X7_15 (by decide) rfl rfl (by decide) (Nat.le_of_ble_eq_true rfl) (CA.monoI h ?_)
    intro r1 M1 h
    refine pw_istore (pc' := 30) (lv' := [(0, .ref 85), (1, .long a1), (3, .int a3), (4, .int a4), (5, .int r1)]) [1, 2, 3, 4, 0] rfl dX7_add_28 (by decide) rfl ?_
    refine pw_iload (pc' := 32) 4 rfl dX7_add_30 rfl ?_
    refine pw_bipush (pc' := 34) rfl dX7_add_32 cb_32 ?_
    refine pw_icmp_lt (pc' := 37) (tgt := 44) rfl dX7_add_34 (by decide) (fun q2 => ?_) (fun q2 => ?_)
    · have h := h.1 q2
      refine pw_iconst (pc' := 45) rfl dX7_add_44 ci_m1 ?_
      exact ps_iret dX7_add_45 rfl h
    · have h := h.2 q2
      refine pw_iload (pc' := 39) 4 rfl dX7_add_37 rfl ?_
      refine pw_bipush (pc' := 41) rfl dX7_add_39 cb_126 ?_
      refine pw_icmp_le (pc' := 44) (tgt := 46) rfl dX7_add_41 (by decide) (fun q3 => ?_) (fun q3 => ?_)
      · have h := h.1 q3
        refine pw_iinc (pc' := 49) (lv' := [(0, .ref 85), (1, .long a1), (3, .int a3), (4, .int (a4 + (nI 1))), (5, .int r1)]) 3 [1, 2, 3, 0, 4] rfl dX7_add_46 rfl (ii_1 _) (by decide) rfl ?_
        refine pw_goto (tgt := 16) dX7_add_49 (by decide) ?_
        exact pw_sub [0, 1, 2, 3] rfl h
      · have h := h.2 q3
        refine pw_iconst (pc' := 45) rfl dX7_add_44 ci_m1 ?_
        exact ps_iret dX7_add_45 rfl h
theorem T_X7_add_71 {M : Mem} {a1 : Int64} {a4 : Int32} {Q : Int32 → Mem → Prop}  (h : ((a4 < 0) → (Q (M 85 0) M)) ∧ ((¬ a4 < 0) → (C_X7_byteOf M a1 a4 (fun r1 M1 => vp_in (M 85 0) 80 ∧ (P_X7_add_71 (wr (wr M1 86 (ix (M 85 0)) r1) 85 0 ((M1 85 0) + (nI 1))) a1 (a4 + (-1)) Q))))) : P_X7_add_71 M a1 a4 Q := by
  refine pw_iload (pc' := 73) 2 rfl dX7_add_71 rfl ?_
  refine pw_if_lt (pc' := 76) (tgt := 107) rfl dX7_add_73 (by decide) (fun q0 => ?_) (fun q0 => ?_)
  · have h := h.1 q0
    refine pw_aload_n (pc' := 108) 0 rfl dX7_add_107 rfl rfl ?_
    refine ps_getI (pc' := 111) (v := (M 85 0)) rfl dX7_add_108 fl_X7_19 ob_85 rfl rfl ?_
    exact ps_iret dX7_add_111 rfl h
  · have h := h.2 q0
    refine pw_aload_n (pc' := 77) 0 rfl dX7_add_76 rfl rfl ?_
    refine ps_getR (pc' := 80) (r := 86) rfl dX7_add_77 fl_X7_11 ob_85 rfl rfl ?_
    refine pw_aload_n (pc' := 81) 0 rfl dX7_add_80 rfl rfl ?_
    refine ps_getI (pc' := 84) (v := (M 85 0)) rfl dX7_add_81 fl_X7_19 ob_85 rfl rfl ?_
    refine pw_lload_n (pc' := 85) 1 rfl dX7_add_84 rfl rfl ?_
    refine pw_iload (pc' := 87) 2 rfl dX7_add_85 rfl ?_
    refine ps_callSI (pc' := 90) (As := [.long a1, .int a4]) (rest := [.int (M 85 0), .ref 86]) 2 rfl dX7_add_87 cs_X7_byteOf ml_X7_15 (by decide) rfl rfl (by decide) (Nat.le_of_ble_eq_true rfl) (CA.monoI h ?_)
    intro r1 M1 h
    obtain ⟨b2, h⟩ := h
    refine ps_iast (pc' := 91) rfl dX7_add_90 ia_86 b2 ?_
    refine pw_aload_n (pc' := 92) 0 rfl dX7_add_91 rfl rfl ?_
    refine pw_dup (pc' := 93) rfl dX7_add_92 rfl ?_
    refine ps_getI (pc' := 96) (v := (M1 85 0)) rfl dX7_add_93 fl_X7_19 ob_85 rfl rfl ?_
    refine pw_iconst (pc' := 97) rfl dX7_add_96 ci_1 ?_
    refine pw_iadd (pc' := 98) rfl dX7_add_97 ?_
    refine ps_putI (pc' := 101) rfl dX7_add_98 fl_X7_19 ob_85 rfl ?_
    refine pw_iinc (pc' := 104) (lv' := [(0, .ref 85), (1, .long a1), (4, .int (a4 + (-1)))]) 2 [1, 2, 0] rfl dX7_add_101 rfl (ii_m1 _) (by decide) rfl ?_
    refine pw_goto (tgt := 71) dX7_add_104 (by decide) ?_
    exact pw_sub [0, 1, 2] rfl h
theorem T_X7_byteOf {M : Mem} {a0 : Int64} {a2 : Int32} {Q : Int32 → Mem → Prop}  (h : Q (((a0 >>> (((nI 8) * a2).toInt64 &&& 63)).toInt32) &&& (nI 255)) M) : C_X7_byteOf M a0 a2 Q := by
  refine CA_of rfl (Nat.le_of_ble_eq_true rfl) ?_
  show PS _ _ 0 [(0, .long a0), (2, .int a2)] [] M _
  refine pw_lload_n (pc' := 1) 0 rfl dX7_byteOf_0 rfl rfl ?_
  refine pw_bipush (pc' := 3) rfl dX7_byteOf_1 cb_8 ?_
  refine pw_iload_n (pc' := 4) 1 rfl dX7_byteOf_3 rfl rfl ?_
  refine pw_imul (pc' := 5) rfl dX7_byteOf_4 ?_
  refine pw_lshr (pc' := 6) rfl dX7_byteOf_5 rfl ?_
  refine pw_l2i (pc' := 7) rfl dX7_byteOf_6 rfl ?_
  refine pw_sipush (pc' := 10) rfl dX7_byteOf_7 cs_255 ?_
  refine pw_iand (pc' := 11) rfl dX7_byteOf_10 ?_
  exact ps_iret dX7_byteOf_11 rfl h
theorem T_X7_readWalk_1 {M : Mem} {c2 : Nat} {n2 : Nat} {Q : Int32 → Mem → Prop} (hc2 : IA c2 n2) (h : P_X7_readWalk_1_13 (wr M 85 2 (nI 0)) c2 (-1) (nI 0) (nI 0) Q) : C_X7_readWalk_1 M c2 Q := by
  refine CA_of rfl (Nat.le_of_ble_eq_true rfl) ?_
  show PS _ _ 0 [(0, .ref 85), (1, .ref 1), (2, .ref c2)] [] M _
  refine pw_aload_n (pc' := 1) 0 rfl dX7_readWalk_0 rfl rfl ?_
  refine pw_iconst (pc' := 2) rfl dX7_readWalk_1 ci_0 ?_
  refine ps_putI (pc' := 5) rfl dX7_readWalk_2 fl_X7_23 ob_85 rfl ?_
  refine pw_iconst (pc' := 6) rfl dX7_readWalk_5 ci_m1 ?_
  refine pw_istore_n (pc' := 7) (lv' := [(0, .ref 85), (1, .ref 1), (2, .ref c2), (3, .int (-1))]) [1, 2, 3, 0] rfl dX7_readWalk_6 rfl (by decide) rfl ?_
  refine pw_iconst (pc' := 8) rfl dX7_readWalk_7 ci_0 ?_
  refine pw_istore (pc' := 10) (lv' := [(0, .ref 85), (1, .ref 1), (2, .ref c2), (3, .int (-1)), (4, .int (nI 0))]) [1, 2, 3, 4, 0] rfl dX7_readWalk_8 (by decide) rfl ?_
  refine pw_iconst (pc' := 11) rfl dX7_readWalk_10 ci_0 ?_
  refine pw_istore (pc' := 13) (lv' := [(0, .ref 85), (1, .ref 1), (2, .ref c2), (3, .int (-1)), (4, .int (nI 0)), (5, .int (nI 0))]) [1, 2, 3, 4, 5, 0] rfl dX7_readWalk_11 (by decide) rfl ?_
  exact pw_sub [0, 1, 2, 3, 4, 5] rfl h
theorem T_X7_readWalk_1_13 {M : Mem} {c2 : Nat} {a3 : Int32} {a4 : Int32} {a5 : Int32} {n2 : Nat} {Q : Int32 → Mem → Prop} (hc2 : IA c2 n2) (h : (((nI 8) ≤ a5) → (C_X7_fault M (fun r1 M1 => Q r1 M1))) ∧ ((¬ (nI 8) ≤ a5) → (C_X7_letter M (M 1 0) (fun r1 M1 => ((r1 < 0) → (C_X7_fault M1 (fun r3 M3 => Q r3 M3))) ∧ ((¬ r1 < 0) → (((a3 < 0) → (C_X7_number M1 (nI 1) ((nI 24) - a4) (fun r4 M4 => ((0 ≤ r4) → (C_J7_fill_fda19 M4 c2 a4 (nI 24) r1 (fun M6 => C_X7_peek M6 (fun r7 M7 => ((0 ≤ r7) → (P_X7_readWalk_1_13 M7 c2 r1 (a4 + r4) (a5 + (nI 1)) Q)) ∧ ((¬ 0 ≤ r7) → (Q (nI 0) M7)))))) ∧ ((¬ 0 ≤ r4) → (C_X7_fault M4 (fun r6 M6 => Q r6 M6)))))) ∧ ((¬ a3 < 0) → (C_X0_doorKind_1 M1 a3 r1 (fun r4 M4 => ((r4 = 0) → (C_X7_number M4 (nI 1) ((nI 24) - a4) (fun r6 M6 => ((0 ≤ r6) → (C_J7_fill_fda19 M6 c2 a4 (nI 24) r1 (fun M8 => C_X7_peek M8 (fun r9 M9 => ((0 ≤ r9) → (P_X7_readWalk_1_13 M9 c2 r1 (a4 + r6) (a5 + (nI 1)) Q)) ∧ ((¬ 0 ≤ r9) → (Q (nI 0) M9)))))) ∧ ((¬ 0 ≤ r6) → (C_X7_fault M6 (fun r8 M8 => Q r8 M8)))))) ∧ ((¬ r4 = 0) → (C_X7_fault M4 (fun r6 M6 => Q r6 M6)))))))))))) : P_X7_readWalk_1_13 M c2 a3 a4 a5 Q := by
  refine pw_iload (pc' := 15) 5 rfl dX7_readWalk_13 rfl ?_
  refine pw_bipush (pc' := 17) rfl dX7_readWalk_15 cb_8 ?_
  refine pw_icmp_ge (pc' := 20) (tgt := 111) rfl dX7_readWalk_17 (by decide) (fun q0 => ?_) (fun q0 => ?_)
  · have h := h.1 q0
    refine pw_aload_n (pc' := 112) 0 rfl dX7_readWalk_111 rfl rfl ?_
    refine ps_callVI (pc' := 115) (As := []) (rest := []) (cT := (RX7, TX7, 4)) 0 rfl dX7_readWalk_112 cv_X7_fault ml_X7_39 (by decide) rfl rfl (by decide) (Nat.le_of_ble_eq_true rfl) ob_85 rfl rfl (CA.monoI h ?_)
    intro r1 M1 h
    exact ps_iret dX7_readWalk_115 rfl h
  · have h := h.2 q0
    refine pw_aload_n (pc' := 21) 0 rfl dX7_readWalk_20 rfl rfl ?_
    refine pw_aload_n (pc' := 22) 1 rfl dX7_readWalk_21 rfl rfl ?_
    refine ps_getI (pc' := 25) (v := (M 1 0)) rfl dX7_readWalk_22 fl_X7_26 ob_1 rfl rfl ?_
    refine ps_callVI (pc' := 28) (As := [.int (M 1 0)]) (rest := []) (cT := (RX7, TX7, 4)) 1 rfl dX7_readWalk_25 cv_X7_letter ml_X7_31 (by decide) rfl rfl (by decide) (Nat.le_of_ble_eq_true rfl) ob_85 rfl rfl (CA.monoI h ?_)
    intro r1 M1 h
    refine pw_istore (pc' := 30) (lv' := [(0, .ref 85), (1, .ref 1), (2, .ref c2), (3, .int a3), (4, .int a4), (5, .int a5), (6, .int r1)]) [1, 2, 3, 4, 5, 6, 0] rfl dX7_readWalk_28 (by decide) rfl ?_
    refine pw_iload (pc' := 32) 6 rfl dX7_readWalk_30 rfl ?_
    refine pw_if_lt (pc' := 35) (tgt := 49) rfl dX7_readWalk_32 (by decide) (fun q2 => ?_) (fun q2 => ?_)
    · have h := h.1 q2
      refine pw_aload_n (pc' := 50) 0 rfl dX7_readWalk_49 rfl rfl ?_
      refine ps_callVI (pc' := 53) (As := []) (rest := []) (cT := (RX7, TX7, 4)) 0 rfl dX7_readWalk_50 cv_X7_fault ml_X7_39 (by decide) rfl rfl (by decide) (Nat.le_of_ble_eq_true rfl) ob_85 rfl rfl (CA.monoI h ?_)
      intro r3 M3 h
      exact ps_iret dX7_readWalk_53 rfl h
    · have h := h.2 q2
      refine pw_iload_n (pc' := 36) 3 rfl dX7_readWalk_35 rfl rfl ?_
      refine pw_if_lt (pc' := 39) (tgt := 54) rfl dX7_readWalk_36 (by decide) (fun q3 => ?_) (fun q3 => ?_)
      · have h := h.1 q3
        refine pw_aload_n (pc' := 55) 0 rfl dX7_readWalk_54 rfl rfl ?_
        refine pw_iconst (pc' := 56) rfl dX7_readWalk_55 ci_1 ?_
        refine pw_bipush (pc' := 58) rfl dX7_readWalk_56 cb_24 ?_
        refine pw_iload (pc' := 60) 4 rfl dX7_readWalk_58 rfl ?_
        refine pw_isub (pc' := 61) rfl dX7_readWalk_60 ?_
        refine ps_callVI (pc' := 64) (As := [.int (nI 1), .int ((nI 24) - a4)]) (rest := []) (cT := (RX7, TX7, 4)) 2 rfl dX7_readWalk_61 cv_X7_number ml_X7_43 (by decide) rfl rfl (by decide) (Nat.le_of_ble_eq_true rfl) ob_85 rfl rfl (CA.monoI h ?_)
        intro r4 M4 h
        refine pw_istore (pc' := 66) (lv' := [(0, .ref 85), (1, .ref 1), (2, .ref c2), (3, .int a3), (4, .int a4), (5, .int a5), (6, .int r1), (7, .int r4)]) [1, 2, 3, 4, 5, 6, 7, 0] rfl dX7_readWalk_64 (by decide) rfl ?_
        refine pw_iload (pc' := 68) 7 rfl dX7_readWalk_66 rfl ?_
        refine pw_if_ge (pc' := 71) (tgt := 76) rfl dX7_readWalk_68 (by decide) (fun q5 => ?_) (fun q5 => ?_)
        · have h := h.1 q5
          refine pw_aload_n (pc' := 77) 2 rfl dX7_readWalk_76 rfl rfl ?_
          refine pw_iload (pc' := 79) 4 rfl dX7_readWalk_77 rfl ?_
          refine pw_bipush (pc' := 81) rfl dX7_readWalk_79 cb_24 ?_
          refine pw_iload (pc' := 83) 6 rfl dX7_readWalk_81 rfl ?_
          refine ps_callSV (pc' := 86) (As := [.ref c2, .int a4, .int (nI 24), .int r1]) (rest := []) 4 rfl dX7_readWalk_83 cs_J7_fill_fda19 ml_X7_46 (by decide) rfl rfl (by decide) (Nat.le_of_ble_eq_true rfl) (CA.monoV h ?_)
          intro M6 h
          refine pw_iload (pc' := 88) 4 rfl dX7_readWalk_86 rfl ?_
          refine pw_iload (pc' := 90) 7 rfl dX7_readWalk_88 rfl ?_
          refine pw_iadd (pc' := 91) rfl dX7_readWalk_90 ?_
          refine pw_istore (pc' := 93) (lv' := [(0, .ref 85), (1, .ref 1), (2, .ref c2), (3, .int a3), (4, .int (a4 + r4)), (5, .int a5), (6, .int r1), (7, .int r4)]) [1, 2, 3, 4, 0, 5, 6, 7] rfl dX7_readWalk_91 (by decide) rfl ?_
          refine pw_iload (pc' := 95) 6 rfl dX7_readWalk_93 rfl ?_
          refine pw_istore_n (pc' := 96) (lv' := [(0, .ref 85), (1, .ref 1), (2, .ref c2), (3, .int r1), (4, .int (a4 + r4)), (5, .int a5), (6, .int r1), (7, .int r4)]) [1, 2, 3, 0, 4, 5, 6, 7] rfl dX7_readWalk_95 rfl (by decide) rfl ?_
          refine pw_aload_n (pc' := 97) 0 rfl dX7_readWalk_96 rfl rfl ?_
          refine ps_callVI (pc' := 100) (As := []) (rest := []) (cT := (RX7, TX7, 4)) 0 rfl dX7_readWalk_97 cv_X7_peek ml_X7_52 (by decide) rfl rfl (by decide) (Nat.le_of_ble_eq_true rfl) ob_85 rfl rfl (CA.monoI h ?_)
          intro r7 M7 h
          refine pw_if_ge (pc' := 103) (tgt := 105) rfl dX7_readWalk_100 (by decide) (fun q8 => ?_) (fun q8 => ?_)
          · have h := h.1 q8
            refine pw_iinc (pc' := 108) (lv' := [(0, .ref 85), (1, .ref 1), (2, .ref c2), (3, .int r1), (4, .int (a4 + r4)), (5, .int (a5 + (nI 1))), (6, .int r1), (7, .int r4)]) 5 [1, 2, 3, 4, 5, 0, 6, 7] rfl dX7_readWalk_105 rfl (ii_1 _) (by decide) rfl ?_
            refine pw_goto (tgt := 13) dX7_readWalk_108 (by decide) ?_
            exact pw_sub [0, 1, 2, 3, 4, 5] rfl h
          · have h := h.2 q8
            refine pw_iconst (pc' := 104) rfl dX7_readWalk_103 ci_0 ?_
            exact ps_iret dX7_readWalk_104 rfl h
        · have h := h.2 q5
          refine pw_aload_n (pc' := 72) 0 rfl dX7_readWalk_71 rfl rfl ?_
          refine ps_callVI (pc' := 75) (As := []) (rest := []) (cT := (RX7, TX7, 4)) 0 rfl dX7_readWalk_72 cv_X7_fault ml_X7_39 (by decide) rfl rfl (by decide) (Nat.le_of_ble_eq_true rfl) ob_85 rfl rfl (CA.monoI h ?_)
          intro r6 M6 h
          exact ps_iret dX7_readWalk_75 rfl h
      · have h := h.2 q3
        refine pw_aload_n (pc' := 40) 1 rfl dX7_readWalk_39 rfl rfl ?_
        refine pw_iload_n (pc' := 41) 3 rfl dX7_readWalk_40 rfl rfl ?_
        refine pw_iload (pc' := 43) 6 rfl dX7_readWalk_41 rfl ?_
        refine ps_callVI (pc' := 46) (As := [.int a3, .int r1]) (rest := []) (cT := (RX0, TX0, 8)) 2 rfl dX7_readWalk_43 cv_X0_doorKind ml_X7_35 (by decide) rfl rfl (by decide) (Nat.le_of_ble_eq_true rfl) ob_1 rfl rfl (CA.monoI h ?_)
        intro r4 M4 h
        refine pw_if_eq (pc' := 49) (tgt := 54) rfl dX7_readWalk_46 (by decide) (fun q5 => ?_) (fun q5 => ?_)
        · have h := h.1 q5
          refine pw_aload_n (pc' := 55) 0 rfl dX7_readWalk_54 rfl rfl ?_
          refine pw_iconst (pc' := 56) rfl dX7_readWalk_55 ci_1 ?_
          refine pw_bipush (pc' := 58) rfl dX7_readWalk_56 cb_24 ?_
          refine pw_iload (pc' := 60) 4 rfl dX7_readWalk_58 rfl ?_
          refine pw_isub (pc' := 61) rfl dX7_readWalk_60 ?_
          refine ps_callVI (pc' := 64) (As := [.int (nI 1), .int ((nI 24) - a4)]) (rest := []) (cT := (RX7, TX7, 4)) 2 rfl dX7_readWalk_61 cv_X7_number ml_X7_43 (by decide) rfl rfl (by decide) (Nat.le_of_ble_eq_true rfl) ob_85 rfl rfl (CA.monoI h ?_)
          intro r6 M6 h
          refine pw_istore (pc' := 66) (lv' := [(0, .ref 85), (1, .ref 1), (2, .ref c2), (3, .int a3), (4, .int a4), (5, .int a5), (6, .int r1), (7, .int r6)]) [1, 2, 3, 4, 5, 6, 7, 0] rfl dX7_readWalk_64 (by decide) rfl ?_
          refine pw_iload (pc' := 68) 7 rfl dX7_readWalk_66 rfl ?_
          refine pw_if_ge (pc' := 71) (tgt := 76) rfl dX7_readWalk_68 (by decide) (fun q7 => ?_) (fun q7 => ?_)
          · have h := h.1 q7
            refine pw_aload_n (pc' := 77) 2 rfl dX7_readWalk_76 rfl rfl ?_
            refine pw_iload (pc' := 79) 4 rfl dX7_readWalk_77 rfl ?_
            refine pw_bipush (pc' := 81) rfl dX7_readWalk_79 cb_24 ?_
            refine pw_iload (pc' := 83) 6 rfl dX7_readWalk_81 rfl ?_
            refine ps_callSV (pc' := 86) (As := [.ref c2, .int a4, .int (nI 24), .int r1]) (rest := []) 4 rfl dX7_readWalk_83 cs_J7_fill_fda19 ml_X7_46 (by decide) rfl rfl (by decide) (Nat.le_of_ble_eq_true rfl) (CA.monoV h ?_)
            intro M8 h
            refine pw_iload (pc' := 88) 4 rfl dX7_readWalk_86 rfl ?_
            refine pw_iload (pc' := 90) 7 rfl dX7_readWalk_88 rfl ?_
            refine pw_iadd (pc' := 91) rfl dX7_readWalk_90 ?_
            refine pw_istore (pc' := 93) (lv' := [(0, .ref 85), (1, .ref 1), (2, .ref c2), (3, .int a3), (4, .int (a4 + r6)), (5, .int a5), (6, .int r1), (7, .int r6)]) [1, 2, 3, 4, 0, 5, 6, 7] rfl dX7_readWalk_91 (by decide) rfl ?_
            refine pw_iload (pc' := 95) 6 rfl dX7_readWalk_93 rfl ?_
            refine pw_istore_n (pc' := 96) (lv' := [(0, .ref 85), (1, .ref 1), (2, .ref c2), (3, .int r1), (4, .int (a4 + r6)), (5, .int a5), (6, .int r1), (7, .int r6)]) [1, 2, 3, 0, 4, 5, 6, 7] rfl dX7_readWalk_95 rfl (by decide) rfl ?_
            refine pw_aload_n (pc' := 97) 0 rfl dX7_readWalk_96 rfl rfl ?_
            refine ps_callVI (pc' := 100) (As := []) (rest := []) (cT := (RX7, TX7, 4)) 0 rfl dX7_readWalk_97 cv_X7_peek ml_X7_52 (by decide) rfl rfl (by decide) (Nat.le_of_ble_eq_true rfl) ob_85 rfl rfl (CA.monoI h ?_)
            intro r9 M9 h
            refine pw_if_ge (pc' := 103) (tgt := 105) rfl dX7_readWalk_100 (by decide) (fun q10 => ?_) (fun q10 => ?_)
            · have h := h.1 q10
              refine pw_iinc (pc' := 108) (lv' := [(0, .ref 85), (1, .ref 1), (2, .ref c2), (3, .int r1), (4, .int (a4 + r6)), (5, .int (a5 + (nI 1))), (6, .int r1), (7, .int r6)]) 5 [1, 2, 3, 4, 5, 0, 6, 7] rfl dX7_readWalk_105 rfl (ii_1 _) (by decide) rfl ?_
              refine pw_goto (tgt := 13) dX7_readWalk_108 (by decide) ?_
              exact pw_sub [0, 1, 2, 3, 4, 5] rfl h
            · have h := h.2 q10
              refine pw_iconst (pc' := 104) rfl dX7_readWalk_103 ci_0 ?_
              exact ps_iret dX7_readWalk_104 rfl h
          · have h := h.2 q7
            refine pw_aload_n (pc' := 72) 0 rfl dX7_readWalk_71 rfl rfl ?_
            refine ps_callVI (pc' := 75) (As := []) (rest := []) (cT := (RX7, TX7, 4)) 0 rfl dX7_readWalk_72 cv_X7_fault ml_X7_39 (by decide) rfl rfl (by decide) (Nat.le_of_ble_eq_true rfl) ob_85 rfl rfl (CA.monoI h ?_)
            intro r8 M8 h
            exact ps_iret dX7_readWalk_75 rfl h
        · have h := h.2 q5
          refine pw_aload_n (pc' := 50) 0 rfl dX7_readWalk_49 rfl rfl ?_
          refine ps_callVI (pc' := 53) (As := []) (rest := []) (cT := (RX7, TX7, 4)) 0 rfl dX7_readWalk_50 cv_X7_fault ml_X7_39 (by decide) rfl rfl (by decide) (Nat.le_of_ble_eq_true rfl) ob_85 rfl rfl (CA.monoI h ?_)
          intro r6 M6 h
          exact ps_iret dX7_readWalk_53 rfl h
theorem T_X7_fault {M : Mem}  {Q : Int32 → Mem → Prop}  (h : Q ((-20) - (M 85 3)) M) : C_X7_fault M  Q := by
  refine CA_of rfl (Nat.le_of_ble_eq_true rfl) ?_
  show PS _ _ 0 [(0, .ref 85)] [] M _
  refine pw_bipush (pc' := 2) rfl dX7_fault_0 cb_m20 ?_
  refine pw_aload_n (pc' := 3) 0 rfl dX7_fault_2 rfl rfl ?_
  refine ps_getI (pc' := 6) (v := (M 85 3)) rfl dX7_fault_3 fl_X7_55 ob_85 rfl rfl ?_
  refine pw_isub (pc' := 7) rfl dX7_fault_6 ?_
  exact ps_iret dX7_fault_7 rfl h
theorem T_X7_letter {M : Mem} {a1 : Int32} {Q : Int32 → Mem → Prop}  (h : C_X7_peek M (fun r0 M0 => (((r0 - (nI 97)) < 0) → (Q (-1) M0)) ∧ ((¬ (r0 - (nI 97)) < 0) → ((((r0 - (nI 97)) < a1) → (Q (r0 - (nI 97)) (wr M0 85 2 ((M0 85 2) + (nI 1))))) ∧ ((¬ (r0 - (nI 97)) < a1) → (Q (-1) M0)))))) : C_X7_letter M a1 Q := by
  refine CA_of rfl (Nat.le_of_ble_eq_true rfl) ?_
  show PS _ _ 0 [(0, .ref 85), (1, .int a1)] [] M _
  refine pw_aload_n (pc' := 1) 0 rfl dX7_letter_0 rfl rfl ?_
  refine ps_callVI (pc' := 4) (As := []) (rest := []) (cT := (RX7, TX7, 4)) 0 rfl dX7_letter_1 cv_X7_peek ml_X7_52 (by decide) rfl rfl (by decide) (Nat.le_of_ble_eq_true rfl) ob_85 rfl rfl (CA.monoI h ?_)
  intro r0 M0 h
  refine pw_bipush (pc' := 6) rfl dX7_letter_4 cb_97 ?_
  refine pw_isub (pc' := 7) rfl dX7_letter_6 ?_
  refine pw_istore_n (pc' := 8) (lv' := [(0, .ref 85), (1, .int a1), (2, .int (r0 - (nI 97)))]) [1, 2, 0] rfl dX7_letter_7 rfl (by decide) rfl ?_
  refine pw_iload_n (pc' := 9) 2 rfl dX7_letter_8 rfl rfl ?_
  refine pw_if_lt (pc' := 12) (tgt := 17) rfl dX7_letter_9 (by decide) (fun q1 => ?_) (fun q1 => ?_)
  · have h := h.1 q1
    refine pw_iconst (pc' := 18) rfl dX7_letter_17 ci_m1 ?_
    exact ps_iret dX7_letter_18 rfl h
  · have h := h.2 q1
    refine pw_iload_n (pc' := 13) 2 rfl dX7_letter_12 rfl rfl ?_
    refine pw_iload_n (pc' := 14) 1 rfl dX7_letter_13 rfl rfl ?_
    refine pw_icmp_lt (pc' := 17) (tgt := 19) rfl dX7_letter_14 (by decide) (fun q2 => ?_) (fun q2 => ?_)
    · have h := h.1 q2
      refine pw_aload_n (pc' := 20) 0 rfl dX7_letter_19 rfl rfl ?_
      refine pw_dup (pc' := 21) rfl dX7_letter_20 rfl ?_
      refine ps_getI (pc' := 24) (v := (M0 85 2)) rfl dX7_letter_21 fl_X7_23 ob_85 rfl rfl ?_
      refine pw_iconst (pc' := 25) rfl dX7_letter_24 ci_1 ?_
      refine pw_iadd (pc' := 26) rfl dX7_letter_25 ?_
      refine ps_putI (pc' := 29) rfl dX7_letter_26 fl_X7_23 ob_85 rfl ?_
      refine pw_iload_n (pc' := 30) 2 rfl dX7_letter_29 rfl rfl ?_
      exact ps_iret dX7_letter_30 rfl h
    · have h := h.2 q2
      refine pw_iconst (pc' := 18) rfl dX7_letter_17 ci_m1 ?_
      exact ps_iret dX7_letter_18 rfl h
theorem T_X7_peek {M : Mem}  {Q : Int32 → Mem → Prop}  (h : (((M 85 0) ≤ (M 85 2)) → ((((M 85 0) ≤ (M 85 2)) → (Q (-1) (wr M 85 3 (M 85 2)))) ∧ ((¬ (M 85 0) ≤ (M 85 2)) → (vp_in (M 85 2) 80 ∧ (Q (M 86 (ix (M 85 2))) (wr M 85 3 (M 85 2))))))) ∧ ((¬ (M 85 0) ≤ (M 85 2)) → (vp_in (M 85 2) 80 ∧ (((¬ (M 86 (ix (M 85 2))) = (nI 32)) → ((((M 85 0) ≤ (M 85 2)) → (Q (-1) (wr M 85 3 (M 85 2)))) ∧ ((¬ (M 85 0) ≤ (M 85 2)) → (Q (M 86 (ix (M 85 2))) (wr M 85 3 (M 85 2)))))) ∧ (((M 86 (ix (M 85 2))) = (nI 32)) → (P_X7_peek_0 (wr M 85 2 ((M 85 2) + (nI 1))) Q)))))) : C_X7_peek M  Q := by
  refine CA_of rfl (Nat.le_of_ble_eq_true rfl) ?_
  show PS _ _ 0 [(0, .ref 85)] [] M _
  refine pw_aload_n (pc' := 1) 0 rfl dX7_peek_0 rfl rfl ?_
  refine ps_getI (pc' := 4) (v := (M 85 2)) rfl dX7_peek_1 fl_X7_23 ob_85 rfl rfl ?_
  refine pw_aload_n (pc' := 5) 0 rfl dX7_peek_4 rfl rfl ?_
  refine ps_getI (pc' := 8) (v := (M 85 0)) rfl dX7_peek_5 fl_X7_19 ob_85 rfl rfl ?_
  refine pw_icmp_ge (pc' := 11) (tgt := 38) rfl dX7_peek_8 (by decide) (fun q0 => ?_) (fun q0 => ?_)
  · have h := h.1 q0
    refine pw_aload_n (pc' := 39) 0 rfl dX7_peek_38 rfl rfl ?_
    refine pw_aload_n (pc' := 40) 0 rfl dX7_peek_39 rfl rfl ?_
    refine ps_getI (pc' := 43) (v := (M 85 2)) rfl dX7_peek_40 fl_X7_23 ob_85 rfl rfl ?_
    refine ps_putI (pc' := 46) rfl dX7_peek_43 fl_X7_55 ob_85 rfl ?_
    refine pw_aload_n (pc' := 47) 0 rfl dX7_peek_46 rfl rfl ?_
    refine ps_getI (pc' := 50) (v := (M 85 2)) rfl dX7_peek_47 fl_X7_23 ob_85 rfl rfl ?_
    refine pw_aload_n (pc' := 51) 0 rfl dX7_peek_50 rfl rfl ?_
    refine ps_getI (pc' := 54) (v := (M 85 0)) rfl dX7_peek_51 fl_X7_19 ob_85 rfl rfl ?_
    refine pw_icmp_ge (pc' := 57) (tgt := 69) rfl dX7_peek_54 (by decide) (fun q1 => ?_) (fun q1 => ?_)
    · have h := h.1 q1
      refine pw_iconst (pc' := 70) rfl dX7_peek_69 ci_m1 ?_
      exact ps_iret dX7_peek_70 rfl h
    · have h := h.2 q1
      refine pw_aload_n (pc' := 58) 0 rfl dX7_peek_57 rfl rfl ?_
      refine ps_getR (pc' := 61) (r := 86) rfl dX7_peek_58 fl_X7_11 ob_85 rfl rfl ?_
      refine pw_aload_n (pc' := 62) 0 rfl dX7_peek_61 rfl rfl ?_
      refine ps_getI (pc' := 65) (v := (M 85 2)) rfl dX7_peek_62 fl_X7_23 ob_85 rfl rfl ?_
      obtain ⟨b2, h⟩ := h
      refine ps_iald (pc' := 66) (v := (M 86 (ix (M 85 2)))) rfl dX7_peek_65 ia_86 b2 rfl ?_
      refine pw_goto (tgt := 70) dX7_peek_66 (by decide) ?_
      exact ps_iret dX7_peek_70 rfl h
  · have h := h.2 q0
    refine pw_aload_n (pc' := 12) 0 rfl dX7_peek_11 rfl rfl ?_
    refine ps_getR (pc' := 15) (r := 86) rfl dX7_peek_12 fl_X7_11 ob_85 rfl rfl ?_
    refine pw_aload_n (pc' := 16) 0 rfl dX7_peek_15 rfl rfl ?_
    refine ps_getI (pc' := 19) (v := (M 85 2)) rfl dX7_peek_16 fl_X7_23 ob_85 rfl rfl ?_
    obtain ⟨b1, h⟩ := h
    refine ps_iald (pc' := 20) (v := (M 86 (ix (M 85 2)))) rfl dX7_peek_19 ia_86 b1 rfl ?_
    refine pw_bipush (pc' := 22) rfl dX7_peek_20 cb_32 ?_
    refine pw_icmp_ne (pc' := 25) (tgt := 38) rfl dX7_peek_22 (by decide) (fun q2 => ?_) (fun q2 => ?_)
    · have h := h.1 q2
      refine pw_aload_n (pc' := 39) 0 rfl dX7_peek_38 rfl rfl ?_
      refine pw_aload_n (pc' := 40) 0 rfl dX7_peek_39 rfl rfl ?_
      refine ps_getI (pc' := 43) (v := (M 85 2)) rfl dX7_peek_40 fl_X7_23 ob_85 rfl rfl ?_
      refine ps_putI (pc' := 46) rfl dX7_peek_43 fl_X7_55 ob_85 rfl ?_
      refine pw_aload_n (pc' := 47) 0 rfl dX7_peek_46 rfl rfl ?_
      refine ps_getI (pc' := 50) (v := (M 85 2)) rfl dX7_peek_47 fl_X7_23 ob_85 rfl rfl ?_
      refine pw_aload_n (pc' := 51) 0 rfl dX7_peek_50 rfl rfl ?_
      refine ps_getI (pc' := 54) (v := (M 85 0)) rfl dX7_peek_51 fl_X7_19 ob_85 rfl rfl ?_
      refine pw_icmp_ge (pc' := 57) (tgt := 69) rfl dX7_peek_54 (by decide) (fun q3 => ?_) (fun q3 => ?_)
      · have h := h.1 q3
        refine pw_iconst (pc' := 70) rfl dX7_peek_69 ci_m1 ?_
        exact ps_iret dX7_peek_70 rfl h
      · have h := h.2 q3
        refine pw_aload_n (pc' := 58) 0 rfl dX7_peek_57 rfl rfl ?_
        refine ps_getR (pc' := 61) (r := 86) rfl dX7_peek_58 fl_X7_11 ob_85 rfl rfl ?_
        refine pw_aload_n (pc' := 62) 0 rfl dX7_peek_61 rfl rfl ?_
        refine ps_getI (pc' := 65) (v := (M 85 2)) rfl dX7_peek_62 fl_X7_23 ob_85 rfl rfl ?_
        refine ps_iald (pc' := 66) (v := (M 86 (ix (M 85 2)))) rfl dX7_peek_65 ia_86 b1 rfl ?_
        refine pw_goto (tgt := 70) dX7_peek_66 (by decide) ?_
        exact ps_iret dX7_peek_70 rfl h
    · have h := h.2 q2
      refine pw_aload_n (pc' := 26) 0 rfl dX7_peek_25 rfl rfl ?_
      refine pw_dup (pc' := 27) rfl dX7_peek_26 rfl ?_
      refine ps_getI (pc' := 30) (v := (M 85 2)) rfl dX7_peek_27 fl_X7_23 ob_85 rfl rfl ?_
      refine pw_iconst (pc' := 31) rfl dX7_peek_30 ci_1 ?_
      refine pw_iadd (pc' := 32) rfl dX7_peek_31 ?_
      refine ps_putI (pc' := 35) rfl dX7_peek_32 fl_X7_23 ob_85 rfl ?_
      refine pw_goto (tgt := 0) dX7_peek_35 (by decide) ?_
      exact pw_sub [0] rfl h
theorem T_X7_peek_0 {M : Mem}  {Q : Int32 → Mem → Prop}  (h : (((M 85 0) ≤ (M 85 2)) → ((((M 85 0) ≤ (M 85 2)) → (Q (-1) (wr M 85 3 (M 85 2)))) ∧ ((¬ (M 85 0) ≤ (M 85 2)) → (vp_in (M 85 2) 80 ∧ (Q (M 86 (ix (M 85 2))) (wr M 85 3 (M 85 2))))))) ∧ ((¬ (M 85 0) ≤ (M 85 2)) → (vp_in (M 85 2) 80 ∧ (((¬ (M 86 (ix (M 85 2))) = (nI 32)) → ((((M 85 0) ≤ (M 85 2)) → (Q (-1) (wr M 85 3 (M 85 2)))) ∧ ((¬ (M 85 0) ≤ (M 85 2)) → (Q (M 86 (ix (M 85 2))) (wr M 85 3 (M 85 2)))))) ∧ (((M 86 (ix (M 85 2))) = (nI 32)) → (P_X7_peek_0 (wr M 85 2 ((M 85 2) + (nI 1))) Q)))))) : P_X7_peek_0 M  Q := by
  refine pw_aload_n (pc' := 1) 0 rfl dX7_peek_0 rfl rfl ?_
  refine ps_getI (pc' := 4) (v := (M 85 2)) rfl dX7_peek_1 fl_X7_23 ob_85 rfl rfl ?_
  refine pw_aload_n (pc' := 5) 0 rfl dX7_peek_4 rfl rfl ?_
  refine ps_getI (pc' := 8) (v := (M 85 0)) rfl dX7_peek_5 fl_X7_19 ob_85 rfl rfl ?_
  refine pw_icmp_ge (pc' := 11) (tgt := 38) rfl dX7_peek_8 (by decide) (fun q0 => ?_) (fun q0 => ?_)
  · have h := h.1 q0
    refine pw_aload_n (pc' := 39) 0 rfl dX7_peek_38 rfl rfl ?_
    refine pw_aload_n (pc' := 40) 0 rfl dX7_peek_39 rfl rfl ?_
    refine ps_getI (pc' := 43) (v := (M 85 2)) rfl dX7_peek_40 fl_X7_23 ob_85 rfl rfl ?_
    refine ps_putI (pc' := 46) rfl dX7_peek_43 fl_X7_55 ob_85 rfl ?_
    refine pw_aload_n (pc' := 47) 0 rfl dX7_peek_46 rfl rfl ?_
    refine ps_getI (pc' := 50) (v := (M 85 2)) rfl dX7_peek_47 fl_X7_23 ob_85 rfl rfl ?_
    refine pw_aload_n (pc' := 51) 0 rfl dX7_peek_50 rfl rfl ?_
    refine ps_getI (pc' := 54) (v := (M 85 0)) rfl dX7_peek_51 fl_X7_19 ob_85 rfl rfl ?_
    refine pw_icmp_ge (pc' := 57) (tgt := 69) rfl dX7_peek_54 (by decide) (fun q1 => ?_) (fun q1 => ?_)
    · have h := h.1 q1
      refine pw_iconst (pc' := 70) rfl dX7_peek_69 ci_m1 ?_
      exact ps_iret dX7_peek_70 rfl h
    · have h := h.2 q1
      refine pw_aload_n (pc' := 58) 0 rfl dX7_peek_57 rfl rfl ?_
      refine ps_getR (pc' := 61) (r := 86) rfl dX7_peek_58 fl_X7_11 ob_85 rfl rfl ?_
      refine pw_aload_n (pc' := 62) 0 rfl dX7_peek_61 rfl rfl ?_
      refine ps_getI (pc' := 65) (v := (M 85 2)) rfl dX7_peek_62 fl_X7_23 ob_85 rfl rfl ?_
      obtain ⟨b2, h⟩ := h
      refine ps_iald (pc' := 66) (v := (M 86 (ix (M 85 2)))) rfl dX7_peek_65 ia_86 b2 rfl ?_
      refine pw_goto (tgt := 70) dX7_peek_66 (by decide) ?_
      exact ps_iret dX7_peek_70 rfl h
  · have h := h.2 q0
    refine pw_aload_n (pc' := 12) 0 rfl dX7_peek_11 rfl rfl ?_
    refine ps_getR (pc' := 15) (r := 86) rfl dX7_peek_12 fl_X7_11 ob_85 rfl rfl ?_
    refine pw_aload_n (pc' := 16) 0 rfl dX7_peek_15 rfl rfl ?_
    refine ps_getI (pc' := 19) (v := (M 85 2)) rfl dX7_peek_16 fl_X7_23 ob_85 rfl rfl ?_
    obtain ⟨b1, h⟩ := h
    refine ps_iald (pc' := 20) (v := (M 86 (ix (M 85 2)))) rfl dX7_peek_19 ia_86 b1 rfl ?_
    refine pw_bipush (pc' := 22) rfl dX7_peek_20 cb_32 ?_
    refine pw_icmp_ne (pc' := 25) (tgt := 38) rfl dX7_peek_22 (by decide) (fun q2 => ?_) (fun q2 => ?_)
    · have h := h.1 q2
      refine pw_aload_n (pc' := 39) 0 rfl dX7_peek_38 rfl rfl ?_
      refine pw_aload_n (pc' := 40) 0 rfl dX7_peek_39 rfl rfl ?_
      refine ps_getI (pc' := 43) (v := (M 85 2)) rfl dX7_peek_40 fl_X7_23 ob_85 rfl rfl ?_
      refine ps_putI (pc' := 46) rfl dX7_peek_43 fl_X7_55 ob_85 rfl ?_
      refine pw_aload_n (pc' := 47) 0 rfl dX7_peek_46 rfl rfl ?_
      refine ps_getI (pc' := 50) (v := (M 85 2)) rfl dX7_peek_47 fl_X7_23 ob_85 rfl rfl ?_
      refine pw_aload_n (pc' := 51) 0 rfl dX7_peek_50 rfl rfl ?_
      refine ps_getI (pc' := 54) (v := (M 85 0)) rfl dX7_peek_51 fl_X7_19 ob_85 rfl rfl ?_
      refine pw_icmp_ge (pc' := 57) (tgt := 69) rfl dX7_peek_54 (by decide) (fun q3 => ?_) (fun q3 => ?_)
      · have h := h.1 q3
        refine pw_iconst (pc' := 70) rfl dX7_peek_69 ci_m1 ?_
        exact ps_iret dX7_peek_70 rfl h
      · have h := h.2 q3
        refine pw_aload_n (pc' := 58) 0 rfl dX7_peek_57 rfl rfl ?_
        refine ps_getR (pc' := 61) (r := 86) rfl dX7_peek_58 fl_X7_11 ob_85 rfl rfl ?_
        refine pw_aload_n (pc' := 62) 0 rfl dX7_peek_61 rfl rfl ?_
        refine ps_getI (pc' := 65) (v := (M 85 2)) rfl dX7_peek_62 fl_X7_23 ob_85 rfl rfl ?_
        refine ps_iald (pc' := 66) (v := (M 86 (ix (M 85 2)))) rfl dX7_peek_65 ia_86 b1 rfl ?_
        refine pw_goto (tgt := 70) dX7_peek_66 (by decide) ?_
        exact ps_iret dX7_peek_70 rfl h
    · have h := h.2 q2
      refine pw_aload_n (pc' := 26) 0 rfl dX7_peek_25 rfl rfl ?_
      refine pw_dup (pc' := 27) rfl dX7_peek_26 rfl ?_
      refine ps_getI (pc' := 30) (v := (M 85 2)) rfl dX7_peek_27 fl_X7_23 ob_85 rfl rfl ?_
      refine pw_iconst (pc' := 31) rfl dX7_peek_30 ci_1 ?_
      refine pw_iadd (pc' := 32) rfl dX7_peek_31 ?_
      refine ps_putI (pc' := 35) rfl dX7_peek_32 fl_X7_23 ob_85 rfl ?_
      refine pw_goto (tgt := 0) dX7_peek_35 (by decide) ?_
      exact pw_sub [0] rfl h
theorem T_X7_number {M : Mem} {a1 : Int32} {a2 : Int32} {Q : Int32 → Mem → Prop}  (h : C_X7_peek M (fun r0 M0 => P_X7_number_7 M0 a1 a2 (-1) Q)) : C_X7_number M a1 a2 Q := by
  refine CA_of rfl (Nat.le_of_ble_eq_true rfl) ?_
  show PS _ _ 0 [(0, .ref 85), (1, .int a1), (2, .int a2)] [] M _
  refine pw_aload_n (pc' := 1) 0 rfl dX7_number_0 rfl rfl ?_
  refine ps_callVI (pc' := 4) (As := []) (rest := []) (cT := (RX7, TX7, 4)) 0 rfl dX7_number_1 cv_X7_peek ml_X7_52 (by decide) rfl rfl (by decide) (Nat.le_of_ble_eq_true rfl) ob_85 rfl rfl (CA.monoI h ?_)
  intro r0 M0 h
  refine pw_pop (pc' := 5) rfl dX7_number_4 rfl ?_
  refine pw_iconst (pc' := 6) rfl dX7_number_5 ci_m1 ?_
  refine pw_istore_n (pc' := 7) (lv' := [(0, .ref 85), (1, .int a1), (2, .int a2), (3, .int (-1))]) [1, 2, 3, 0] rfl dX7_number_6 rfl (by decide) rfl ?_
  exact pw_sub [0, 1, 2, 3] rfl h
theorem T_X7_number_7 {M : Mem} {a1 : Int32} {a2 : Int32} {a3 : Int32} {Q : Int32 → Mem → Prop}  (h : (((M 85 0) ≤ (M 85 2)) → (((a3 < a1) → (Q (-1) M)) ∧ ((¬ a3 < a1) → (((a3 ≤ a2) → (Q a3 M)) ∧ ((¬ a3 ≤ a2) → (Q (-1) M)))))) ∧ ((¬ (M 85 0) ≤ (M 85 2)) → (vp_in (M 85 2) 80 ∧ ((((M 86 (ix (M 85 2))) < (nI 48)) → (((a3 < a1) → (Q (-1) M)) ∧ ((¬ a3 < a1) → (((a3 ≤ a2) → (Q a3 M)) ∧ ((¬ a3 ≤ a2) → (Q (-1) M)))))) ∧ ((¬ (M 86 (ix (M 85 2))) < (nI 48)) → ((((nI 57) < (M 86 (ix (M 85 2)))) → (((a3 < a1) → (Q (-1) M)) ∧ ((¬ a3 < a1) → (((a3 ≤ a2) → (Q a3 M)) ∧ ((¬ a3 ≤ a2) → (Q (-1) M)))))) ∧ ((¬ (nI 57) < (M 86 (ix (M 85 2)))) → (P_X7_number_7 (wr M 85 2 ((M 85 2) + (nI 1))) a1 a2 (jmin (nI 1000) ((((jmax a3 (nI 0)) * (nI 10)) + (M 86 (ix (M 85 2)))) - (nI 48))) Q)))))))) : P_X7_number_7 M a1 a2 a3 Q := by
  refine pw_aload_n (pc' := 8) 0 rfl dX7_number_7 rfl rfl ?_
  refine ps_getI (pc' := 11) (v := (M 85 2)) rfl dX7_number_8 fl_X7_23 ob_85 rfl rfl ?_
  refine pw_aload_n (pc' := 12) 0 rfl dX7_number_11 rfl rfl ?_
  refine ps_getI (pc' := 15) (v := (M 85 0)) rfl dX7_number_12 fl_X7_19 ob_85 rfl rfl ?_
  refine pw_icmp_ge (pc' := 18) (tgt := 87) rfl dX7_number_15 (by decide) (fun q0 => ?_) (fun q0 => ?_)
  · have h := h.1 q0
    refine pw_iload_n (pc' := 88) 3 rfl dX7_number_87 rfl rfl ?_
    refine pw_iload_n (pc' := 89) 1 rfl dX7_number_88 rfl rfl ?_
    refine pw_icmp_lt (pc' := 92) (tgt := 97) rfl dX7_number_89 (by decide) (fun q1 => ?_) (fun q1 => ?_)
    · have h := h.1 q1
      refine pw_iconst (pc' := 98) rfl dX7_number_97 ci_m1 ?_
      refine pw_goto (tgt := 102) dX7_number_98 (by decide) ?_
      exact ps_iret dX7_number_102 rfl h
    · have h := h.2 q1
      refine pw_iload_n (pc' := 93) 3 rfl dX7_number_92 rfl rfl ?_
      refine pw_iload_n (pc' := 94) 2 rfl dX7_number_93 rfl rfl ?_
      refine pw_icmp_le (pc' := 97) (tgt := 101) rfl dX7_number_94 (by decide) (fun q2 => ?_) (fun q2 => ?_)
      · have h := h.1 q2
        refine pw_iload_n (pc' := 102) 3 rfl dX7_number_101 rfl rfl ?_
        exact ps_iret dX7_number_102 rfl h
      · have h := h.2 q2
        refine pw_iconst (pc' := 98) rfl dX7_number_97 ci_m1 ?_
        refine pw_goto (tgt := 102) dX7_number_98 (by decide) ?_
        exact ps_iret dX7_number_102 rfl h
  · have h := h.2 q0
    refine pw_aload_n (pc' := 19) 0 rfl dX7_number_18 rfl rfl ?_
    refine ps_getR (pc' := 22) (r := 86) rfl dX7_number_19 fl_X7_11 ob_85 rfl rfl ?_
    refine pw_aload_n (pc' := 23) 0 rfl dX7_number_22 rfl rfl ?_
    refine ps_getI (pc' := 26) (v := (M 85 2)) rfl dX7_number_23 fl_X7_23 ob_85 rfl rfl ?_
    obtain ⟨b1, h⟩ := h
    refine ps_iald (pc' := 27) (v := (M 86 (ix (M 85 2)))) rfl dX7_number_26 ia_86 b1 rfl ?_
    refine pw_bipush (pc' := 29) rfl dX7_number_27 cb_48 ?_
    refine pw_icmp_lt (pc' := 32) (tgt := 87) rfl dX7_number_29 (by decide) (fun q2 => ?_) (fun q2 => ?_)
    · have h := h.1 q2
      refine pw_iload_n (pc' := 88) 3 rfl dX7_number_87 rfl rfl ?_
      refine pw_iload_n (pc' := 89) 1 rfl dX7_number_88 rfl rfl ?_
      refine pw_icmp_lt (pc' := 92) (tgt := 97) rfl dX7_number_89 (by decide) (fun q3 => ?_) (fun q3 => ?_)
      · have h := h.1 q3
        refine pw_iconst (pc' := 98) rfl dX7_number_97 ci_m1 ?_
        refine pw_goto (tgt := 102) dX7_number_98 (by decide) ?_
        exact ps_iret dX7_number_102 rfl h
      · have h := h.2 q3
        refine pw_iload_n (pc' := 93) 3 rfl dX7_number_92 rfl rfl ?_
        refine pw_iload_n (pc' := 94) 2 rfl dX7_number_93 rfl rfl ?_
        refine pw_icmp_le (pc' := 97) (tgt := 101) rfl dX7_number_94 (by decide) (fun q4 => ?_) (fun q4 => ?_)
        · have h := h.1 q4
          refine pw_iload_n (pc' := 102) 3 rfl dX7_number_101 rfl rfl ?_
          exact ps_iret dX7_number_102 rfl h
        · have h := h.2 q4
          refine pw_iconst (pc' := 98) rfl dX7_number_97 ci_m1 ?_
          refine pw_goto (tgt := 102) dX7_number_98 (by decide) ?_
          exact ps_iret dX7_number_102 rfl h
    · have h := h.2 q2
      refine pw_aload_n (pc' := 33) 0 rfl dX7_number_32 rfl rfl ?_
      refine ps_getR (pc' := 36) (r := 86) rfl dX7_number_33 fl_X7_11 ob_85 rfl rfl ?_
      refine pw_aload_n (pc' := 37) 0 rfl dX7_number_36 rfl rfl ?_
      refine ps_getI (pc' := 40) (v := (M 85 2)) rfl dX7_number_37 fl_X7_23 ob_85 rfl rfl ?_
      refine ps_iald (pc' := 41) (v := (M 86 (ix (M 85 2)))) rfl dX7_number_40 ia_86 b1 rfl ?_
      refine pw_bipush (pc' := 43) rfl dX7_number_41 cb_57 ?_
      refine pw_icmp_gt (pc' := 46) (tgt := 87) rfl dX7_number_43 (by decide) (fun q4 => ?_) (fun q4 => ?_)
      · have h := h.1 q4
        refine pw_iload_n (pc' := 88) 3 rfl dX7_number_87 rfl rfl ?_
        refine pw_iload_n (pc' := 89) 1 rfl dX7_number_88 rfl rfl ?_
        refine pw_icmp_lt (pc' := 92) (tgt := 97) rfl dX7_number_89 (by decide) (fun q5 => ?_) (fun q5 => ?_)
        · have h := h.1 q5
          refine pw_iconst (pc' := 98) rfl dX7_number_97 ci_m1 ?_
          refine pw_goto (tgt := 102) dX7_number_98 (by decide) ?_
          exact ps_iret dX7_number_102 rfl h
        · have h := h.2 q5
          refine pw_iload_n (pc' := 93) 3 rfl dX7_number_92 rfl rfl ?_
          refine pw_iload_n (pc' := 94) 2 rfl dX7_number_93 rfl rfl ?_
          refine pw_icmp_le (pc' := 97) (tgt := 101) rfl dX7_number_94 (by decide) (fun q6 => ?_) (fun q6 => ?_)
          · have h := h.1 q6
            refine pw_iload_n (pc' := 102) 3 rfl dX7_number_101 rfl rfl ?_
            exact ps_iret dX7_number_102 rfl h
          · have h := h.2 q6
            refine pw_iconst (pc' := 98) rfl dX7_number_97 ci_m1 ?_
            refine pw_goto (tgt := 102) dX7_number_98 (by decide) ?_
            exact ps_iret dX7_number_102 rfl h
      · have h := h.2 q4
        refine pw_sipush (pc' := 49) rfl dX7_number_46 cs_1000 ?_
        refine pw_iload_n (pc' := 50) 3 rfl dX7_number_49 rfl rfl ?_
        refine pw_iconst (pc' := 51) rfl dX7_number_50 ci_0 ?_
        refine pw_max (pc' := 54) rfl dX7_number_51 ml_X7_58 mx_max1 mx_ini mx_max3 (by decide) (Nat.le_of_ble_eq_true rfl) (Nat.le_refl 0) (Nat.le_refl 0) ?_
        refine pw_bipush (pc' := 56) rfl dX7_number_54 cb_10 ?_
        refine pw_imul (pc' := 57) rfl dX7_number_56 ?_
        refine pw_aload_n (pc' := 58) 0 rfl dX7_number_57 rfl rfl ?_
        refine ps_getR (pc' := 61) (r := 86) rfl dX7_number_58 fl_X7_11 ob_85 rfl rfl ?_
        refine pw_aload_n (pc' := 62) 0 rfl dX7_number_61 rfl rfl ?_
        refine ps_getI (pc' := 65) (v := (M 85 2)) rfl dX7_number_62 fl_X7_23 ob_85 rfl rfl ?_
        refine ps_iald (pc' := 66) (v := (M 86 (ix (M 85 2)))) rfl dX7_number_65 ia_86 b1 rfl ?_
        refine pw_iadd (pc' := 67) rfl dX7_number_66 ?_
        refine pw_bipush (pc' := 69) rfl dX7_number_67 cb_48 ?_
        refine pw_isub (pc' := 70) rfl dX7_number_69 ?_
        refine pw_min (pc' := 73) rfl dX7_number_70 ml_X7_63 mx_min1 mx_ini mx_min3 (by decide) (Nat.le_of_ble_eq_true rfl) (Nat.le_refl 0) (Nat.le_refl 0) ?_
        refine pw_istore_n (pc' := 74) (lv' := [(0, .ref 85), (1, .int a1), (2, .int a2), (3, .int (jmin (nI 1000) ((((jmax a3 (nI 0)) * (nI 10)) + (M 86 (ix (M 85 2)))) - (nI 48))))]) [1, 2, 3, 0] rfl dX7_number_73 rfl (by decide) rfl ?_
        refine pw_aload_n (pc' := 75) 0 rfl dX7_number_74 rfl rfl ?_
        refine pw_dup (pc' := 76) rfl dX7_number_75 rfl ?_
        refine ps_getI (pc' := 79) (v := (M 85 2)) rfl dX7_number_76 fl_X7_23 ob_85 rfl rfl ?_
        refine pw_iconst (pc' := 80) rfl dX7_number_79 ci_1 ?_
        refine pw_iadd (pc' := 81) rfl dX7_number_80 ?_
        refine ps_putI (pc' := 84) rfl dX7_number_81 fl_X7_23 ob_85 rfl ?_
        refine pw_goto (tgt := 7) dX7_number_84 (by decide) ?_
        exact pw_sub [0, 1, 2, 3] rfl h
theorem T_J7_fill_fda19 {M : Mem} {c0 : Nat} {a1 : Int32} {a2 : Int32} {a3 : Int32} {n0 : Nat} {Q : Mem → Prop} (hc0 : IA c0 n0) (h : C_J7_rangeCheck_23922 M (nI n0) a1 a2 (fun M0 => P_J7_fill_fda19_10 M0 c0 a2 a3 a1 Q)) : C_J7_fill_fda19 M c0 a1 a2 a3 Q := by
  refine CA_of rfl (Nat.le_of_ble_eq_true rfl) ?_
  show PS _ _ 0 [(0, .ref c0), (1, .int a1), (2, .int a2), (3, .int a3)] [] M _
  refine pw_aload_n (pc' := 1) 0 rfl dJ7_fill_fda19_0 rfl rfl ?_
  refine ps_alen (pc' := 2) rfl dJ7_fill_fda19_1 hc0 ?_
  refine pw_iload_n (pc' := 3) 1 rfl dJ7_fill_fda19_2 rfl rfl ?_
  refine pw_iload_n (pc' := 4) 2 rfl dJ7_fill_fda19_3 rfl rfl ?_
  refine ps_callSV (pc' := 7) (As := [.int (nI n0), .int a1, .int a2]) (rest := []) 3 rfl dJ7_fill_fda19_4 cs_J7_rangeCheck_23922 ml_J7_13 (by decide) rfl rfl (by decide) (Nat.le_of_ble_eq_true rfl) (CA.monoV h ?_)
  intro M0 h
  refine pw_iload_n (pc' := 8) 1 rfl dJ7_fill_fda19_7 rfl rfl ?_
  refine pw_istore (pc' := 10) (lv' := [(0, .ref c0), (1, .int a1), (2, .int a2), (3, .int a3), (4, .int a1)]) [1, 2, 3, 4, 0] rfl dJ7_fill_fda19_8 (by decide) rfl ?_
  exact pw_sub [0, 2, 3, 4] rfl h
theorem T_J7_fill_fda19_10 {M : Mem} {c0 : Nat} {a2 : Int32} {a3 : Int32} {a4 : Int32} {n0 : Nat} {Q : Mem → Prop} (hc0 : IA c0 n0) (h : ((a2 ≤ a4) → (Q M)) ∧ ((¬ a2 ≤ a4) → (vp_in a4 n0 ∧ (P_J7_fill_fda19_10 (wr M c0 (ix a4) a3) c0 a2 a3 (a4 + (nI 1)) Q)))) : P_J7_fill_fda19_10 M c0 a2 a3 a4 Q := by
  refine pw_iload (pc' := 12) 3 rfl dJ7_fill_fda19_10 rfl ?_
  refine pw_iload_n (pc' := 13) 1 rfl dJ7_fill_fda19_12 rfl rfl ?_
  refine pw_icmp_ge (pc' := 16) (tgt := 27) rfl dJ7_fill_fda19_13 (by decide) (fun q0 => ?_) (fun q0 => ?_)
  · have h := h.1 q0
    exact ps_vret dJ7_fill_fda19_27 rfl h
  · have h := h.2 q0
    refine pw_aload_n (pc' := 17) 0 rfl dJ7_fill_fda19_16 rfl rfl ?_
    refine pw_iload (pc' := 19) 3 rfl dJ7_fill_fda19_17 rfl ?_
    refine pw_iload_n (pc' := 20) 2 rfl dJ7_fill_fda19_19 rfl rfl ?_
    obtain ⟨b1, h⟩ := h
    refine ps_iast (pc' := 21) rfl dJ7_fill_fda19_20 hc0 b1 ?_
    refine pw_iinc (pc' := 24) (lv' := [(0, .ref c0), (2, .int a2), (3, .int a3), (4, .int (a4 + (nI 1)))]) 3 [1, 2, 3, 0] rfl dJ7_fill_fda19_21 rfl (ii_1 _) (by decide) rfl ?_
    refine pw_goto (tgt := 10) dJ7_fill_fda19_24 (by decide) ?_
    exact pw_sub [0, 1, 2, 3] rfl h
theorem T_J7_rangeCheck_23922 {M : Mem} {a0 : Int32} {a1 : Int32} {a2 : Int32} {Q : Mem → Prop}  (h : ((a1 ≤ a2) → (((0 ≤ a1) → (((a2 ≤ a0) → (Q M)) ∧ ((¬ a2 ≤ a0) → (False)))) ∧ ((¬ 0 ≤ a1) → (False)))) ∧ ((¬ a1 ≤ a2) → (False))) : C_J7_rangeCheck_23922 M a0 a1 a2 Q := by
  refine CA_of rfl (Nat.le_of_ble_eq_true rfl) ?_
  show PS _ _ 0 [(0, .int a0), (1, .int a1), (2, .int a2)] [] M _
  refine pw_iload_n (pc' := 1) 1 rfl dJ7_rangeCheck_23922_0 rfl rfl ?_
  refine pw_iload_n (pc' := 2) 2 rfl dJ7_rangeCheck_23922_1 rfl rfl ?_
  refine pw_icmp_le (pc' := 5) (tgt := 46) rfl dJ7_rangeCheck_23922_2 (by decide) (fun q0 => ?_) (fun q0 => ?_)
  · have h := h.1 q0
    refine pw_iload_n (pc' := 47) 1 rfl dJ7_rangeCheck_23922_46 rfl rfl ?_
    refine pw_if_ge (pc' := 50) (tgt := 59) rfl dJ7_rangeCheck_23922_47 (by decide) (fun q1 => ?_) (fun q1 => ?_)
    · have h := h.1 q1
      refine pw_iload_n (pc' := 60) 2 rfl dJ7_rangeCheck_23922_59 rfl rfl ?_
      refine pw_iload_n (pc' := 61) 0 rfl dJ7_rangeCheck_23922_60 rfl rfl ?_
      refine pw_icmp_le (pc' := 64) (tgt := 73) rfl dJ7_rangeCheck_23922_61 (by decide) (fun q2 => ?_) (fun q2 => ?_)
      · have h := h.1 q2
        exact ps_vret dJ7_rangeCheck_23922_73 rfl h
      · have h := h.2 q2
        exact h.elim
    · have h := h.2 q1
      exact h.elim
  · have h := h.2 q0
    exact h.elim
theorem T_X7_clear {M : Mem}  {Q : Mem → Prop}  (h : Q (wr M 85 0 (nI 0))) : C_X7_clear M  Q := by
  refine CA_of rfl (Nat.le_of_ble_eq_true rfl) ?_
  show PS _ _ 0 [(0, .ref 85)] [] M _
  refine pw_aload_n (pc' := 1) 0 rfl dX7_clear_0 rfl rfl ?_
  refine pw_iconst (pc' := 2) rfl dX7_clear_1 ci_0 ?_
  refine ps_putI (pc' := 5) rfl dX7_clear_2 fl_X7_19 ob_85 rfl ?_
  exact ps_vret dX7_clear_5 rfl h
theorem T_X8_soonest {M : Mem} {a1 : Int32} {a2 : Int32} {a3 : Int32} {a4 : Int32} {Q : Int32 → Mem → Prop}  (h : C_X8_prepare M (fun M0 => C_X8_mayBegin M0 a1 a2 a4 (fun r1 M1 => ((¬ r1 = 0) → (vp_in a2 24 ∧ (P_X8_soonest_30 (wr M1 122 (ix a2) ((nI 1) <<< (a1 &&& 31))) a3 a4 a2 Q))) ∧ ((r1 = 0) → (Q (nI 24) M1))))) : C_X8_soonest M a1 a2 a3 a4 Q := by
  refine CA_of rfl (Nat.le_of_ble_eq_true rfl) ?_
  show PS _ _ 0 [(0, .ref 95), (1, .int a1), (2, .int a2), (3, .int a3), (4, .int a4)] [] M _
  refine pw_aload_n (pc' := 1) 0 rfl dX8_soonest_0 rfl rfl ?_
  refine ps_callVV (pc' := 4) (As := []) (rest := []) (cT := (RX8, TX8, 6)) 0 rfl dX8_soonest_1 cv_X8_prepare ml_X8_64 (by decide) rfl rfl (by decide) (Nat.le_of_ble_eq_true rfl) ob_95 rfl rfl (CA.monoV h ?_)
  intro M0 h
  refine pw_aload_n (pc' := 5) 0 rfl dX8_soonest_4 rfl rfl ?_
  refine pw_iload_n (pc' := 6) 1 rfl dX8_soonest_5 rfl rfl ?_
  refine pw_iload_n (pc' := 7) 2 rfl dX8_soonest_6 rfl rfl ?_
  refine pw_iload (pc' := 9) 4 rfl dX8_soonest_7 rfl ?_
  refine ps_callVI (pc' := 12) (As := [.int a1, .int a2, .int a4]) (rest := []) (cT := (RX8, TX8, 6)) 3 rfl dX8_soonest_9 cv_X8_mayBegin ml_X8_67 (by decide) rfl rfl (by decide) (Nat.le_of_ble_eq_true rfl) ob_95 rfl rfl (CA.monoI h ?_)
  intro r1 M1 h
  refine pw_if_ne (pc' := 15) (tgt := 18) rfl dX8_soonest_12 (by decide) (fun q2 => ?_) (fun q2 => ?_)
  · have h := h.1 q2
    refine pw_aload_n (pc' := 19) 0 rfl dX8_soonest_18 rfl rfl ?_
    refine ps_getR (pc' := 22) (r := 122) rfl dX8_soonest_19 fl_X8_20 ob_95 rfl rfl ?_
    refine pw_iload_n (pc' := 23) 2 rfl dX8_soonest_22 rfl rfl ?_
    refine pw_iconst (pc' := 24) rfl dX8_soonest_23 ci_1 ?_
    refine pw_iload_n (pc' := 25) 1 rfl dX8_soonest_24 rfl rfl ?_
    refine pw_ishl (pc' := 26) rfl dX8_soonest_25 ?_
    obtain ⟨b3, h⟩ := h
    refine ps_iast (pc' := 27) rfl dX8_soonest_26 ia_122 b3 ?_
    refine pw_iload_n (pc' := 28) 2 rfl dX8_soonest_27 rfl rfl ?_
    refine pw_istore (pc' := 30) (lv' := [(0, .ref 95), (1, .int a1), (2, .int a2), (3, .int a3), (4, .int a4), (5, .int a2)]) [1, 2, 3, 4, 5, 0] rfl dX8_soonest_28 (by decide) rfl ?_
    exact pw_sub [0, 3, 4, 5] rfl h
  · have h := h.2 q2
    refine pw_bipush (pc' := 17) rfl dX8_soonest_15 cb_24 ?_
    exact ps_iret dX8_soonest_17 rfl h
theorem T_X8_soonest_30 {M : Mem} {a3 : Int32} {a4 : Int32} {a5 : Int32} {Q : Int32 → Mem → Prop}  (h : (((nI 24) ≤ a5) → (Q (nI 24) M)) ∧ ((¬ (nI 24) ≤ a5) → (vp_in a5 24 ∧ ((((((M 122 (ix a5)) >>> (a3 &&& 31)) &&& (nI 1)) = 0) → ((((nI 23) ≤ a5) → (P_X8_soonest_30 M a3 a4 (a5 + (nI 1)) Q)) ∧ ((¬ (nI 23) ≤ a5) → (C_X8_onward M (M 122 (ix a5)) a5 a4 (fun r5 M5 => vp_in (a5 + (nI 1)) 24 ∧ (P_X8_soonest_30 (wr M5 122 (ix (a5 + (nI 1))) r5) a3 a4 (a5 + (nI 1)) Q)))))) ∧ ((¬ (((M 122 (ix a5)) >>> (a3 &&& 31)) &&& (nI 1)) = 0) → (Q a5 (wr M 123 (ix a5) ((nI 1) <<< (a3 &&& 31))))))))) : P_X8_soonest_30 M a3 a4 a5 Q := by
  refine pw_iload (pc' := 32) 3 rfl dX8_soonest_30 rfl ?_
  refine pw_bipush (pc' := 34) rfl dX8_soonest_32 cb_24 ?_
  refine pw_icmp_ge (pc' := 37) (tgt := 101) rfl dX8_soonest_34 (by decide) (fun q0 => ?_) (fun q0 => ?_)
  · have h := h.1 q0
    refine pw_bipush (pc' := 103) rfl dX8_soonest_101 cb_24 ?_
    exact ps_iret dX8_soonest_103 rfl h
  · have h := h.2 q0
    refine pw_aload_n (pc' := 38) 0 rfl dX8_soonest_37 rfl rfl ?_
    refine ps_getR (pc' := 41) (r := 122) rfl dX8_soonest_38 fl_X8_20 ob_95 rfl rfl ?_
    refine pw_iload (pc' := 43) 3 rfl dX8_soonest_41 rfl ?_
    obtain ⟨b1, h⟩ := h
    refine ps_iald (pc' := 44) (v := (M 122 (ix a5))) rfl dX8_soonest_43 ia_122 b1 rfl ?_
    refine pw_iload_n (pc' := 45) 1 rfl dX8_soonest_44 rfl rfl ?_
    refine pw_ishr (pc' := 46) rfl dX8_soonest_45 ?_
    refine pw_iconst (pc' := 47) rfl dX8_soonest_46 ci_1 ?_
    refine pw_iand (pc' := 48) rfl dX8_soonest_47 ?_
    refine pw_if_eq (pc' := 51) (tgt := 64) rfl dX8_soonest_48 (by decide) (fun q2 => ?_) (fun q2 => ?_)
    · have h := h.1 q2
      refine pw_iload (pc' := 66) 3 rfl dX8_soonest_64 rfl ?_
      refine pw_bipush (pc' := 68) rfl dX8_soonest_66 cb_23 ?_
      refine pw_icmp_ge (pc' := 71) (tgt := 95) rfl dX8_soonest_68 (by decide) (fun q3 => ?_) (fun q3 => ?_)
      · have h := h.1 q3
        refine pw_iinc (pc' := 98) (lv' := [(0, .ref 95), (3, .int a3), (4, .int a4), (5, .int (a5 + (nI 1)))]) 3 [1, 2, 3, 0] rfl dX8_soonest_95 rfl (ii_1 _) (by decide) rfl ?_
        refine pw_goto (tgt := 30) dX8_soonest_98 (by decide) ?_
        exact pw_sub [0, 1, 2, 3] rfl h
      · have h := h.2 q3
        refine pw_aload_n (pc' := 72) 0 rfl dX8_soonest_71 rfl rfl ?_
        refine ps_getR (pc' := 75) (r := 122) rfl dX8_soonest_72 fl_X8_20 ob_95 rfl rfl ?_
        refine pw_iload (pc' := 77) 3 rfl dX8_soonest_75 rfl ?_
        refine pw_iconst (pc' := 78) rfl dX8_soonest_77 ci_1 ?_
        refine pw_iadd (pc' := 79) rfl dX8_soonest_78 ?_
        refine pw_aload_n (pc' := 80) 0 rfl dX8_soonest_79 rfl rfl ?_
        refine pw_aload_n (pc' := 81) 0 rfl dX8_soonest_80 rfl rfl ?_
        refine ps_getR (pc' := 84) (r := 122) rfl dX8_soonest_81 fl_X8_20 ob_95 rfl rfl ?_
        refine pw_iload (pc' := 86) 3 rfl dX8_soonest_84 rfl ?_
        refine ps_iald (pc' := 87) (v := (M 122 (ix a5))) rfl dX8_soonest_86 ia_122 b1 rfl ?_
        refine pw_iload (pc' := 89) 3 rfl dX8_soonest_87 rfl ?_
        refine pw_iload (pc' := 91) 2 rfl dX8_soonest_89 rfl ?_
        refine ps_callVI (pc' := 94) (As := [.int (M 122 (ix a5)), .int a5, .int a4]) (rest := [.int (a5 + (nI 1)), .ref 122]) (cT := (RX8, TX8, 6)) 3 rfl dX8_soonest_91 cv_X8_onward ml_X8_71 (by decide) rfl rfl (by decide) (Nat.le_of_ble_eq_true rfl) ob_95 rfl rfl (CA.monoI h ?_)
        intro r5 M5 h
        obtain ⟨b6, h⟩ := h
        refine ps_iast (pc' := 95) rfl dX8_soonest_94 ia_122 b6 ?_
        refine pw_iinc (pc' := 98) (lv' := [(0, .ref 95), (3, .int a3), (4, .int a4), (5, .int (a5 + (nI 1)))]) 3 [1, 2, 3, 0] rfl dX8_soonest_95 rfl (ii_1 _) (by decide) rfl ?_
        refine pw_goto (tgt := 30) dX8_soonest_98 (by decide) ?_
        exact pw_sub [0, 1, 2, 3] rfl h
    · have h := h.2 q2
      refine pw_aload_n (pc' := 52) 0 rfl dX8_soonest_51 rfl rfl ?_
      refine ps_getR (pc' := 55) (r := 123) rfl dX8_soonest_52 fl_X8_23 ob_95 rfl rfl ?_
      refine pw_iload (pc' := 57) 3 rfl dX8_soonest_55 rfl ?_
      refine pw_iconst (pc' := 58) rfl dX8_soonest_57 ci_1 ?_
      refine pw_iload_n (pc' := 59) 1 rfl dX8_soonest_58 rfl rfl ?_
      refine pw_ishl (pc' := 60) rfl dX8_soonest_59 ?_
      refine ps_iast (pc' := 61) rfl dX8_soonest_60 ia_123 b1 ?_
      refine pw_iload (pc' := 63) 3 rfl dX8_soonest_61 rfl ?_
      exact ps_iret dX8_soonest_63 rfl h
theorem T_X8_prepare {M : Mem}  {Q : Mem → Prop}  (h : (((M 95 1) = 0) → (C_J7_fill_53178 M 96 (nI 0) (fun M1 => P_X8_prepare_18 M1 (nI 0) Q))) ∧ ((¬ (M 95 1) = 0) → (Q M))) : C_X8_prepare M  Q := by
  refine CA_of rfl (Nat.le_of_ble_eq_true rfl) ?_
  show PS _ _ 0 [(0, .ref 95)] [] M _
  refine pw_aload_n (pc' := 1) 0 rfl dX8_prepare_0 rfl rfl ?_
  refine ps_getI (pc' := 4) (v := (M 95 1)) rfl dX8_prepare_1 fl_X8_30 ob_95 rfl rfl ?_
  refine pw_if_eq (pc' := 7) (tgt := 8) rfl dX8_prepare_4 (by decide) (fun q0 => ?_) (fun q0 => ?_)
  · have h := h.1 q0
    refine pw_aload_n (pc' := 9) 0 rfl dX8_prepare_8 rfl rfl ?_
    refine ps_getR (pc' := 12) (r := 96) rfl dX8_prepare_9 fl_X8_9 ob_95 rfl rfl ?_
    refine pw_iconst (pc' := 13) rfl dX8_prepare_12 ci_0 ?_
    refine ps_callSV (pc' := 16) (As := [.ref 96, .int (nI 0)]) (rest := []) 2 rfl dX8_prepare_13 cs_J7_fill_53178 ml_X8_34 (by decide) rfl rfl (by decide) (Nat.le_of_ble_eq_true rfl) (CA.monoV h ?_)
    intro M1 h
    refine pw_iconst (pc' := 17) rfl dX8_prepare_16 ci_0 ?_
    refine pw_istore_n (pc' := 18) (lv' := [(0, .ref 95), (1, .int (nI 0))]) [1, 0] rfl dX8_prepare_17 rfl (by decide) rfl ?_
    exact pw_sub [0, 1] rfl h
  · have h := h.2 q0
    exact ps_vret dX8_prepare_7 rfl h
theorem T_X8_prepare_18 {M : Mem} {a1 : Int32} {Q : Mem → Prop}  (h : (((M 1 2) ≤ a1) → (P_X8_prepare_73 M (nI 0) Q)) ∧ ((¬ (M 1 2) ≤ a1) → (P_X8_prepare_31 M a1 (nI 0) Q))) : P_X8_prepare_18 M a1 Q := by
  refine pw_iload_n (pc' := 19) 1 rfl dX8_prepare_18 rfl rfl ?_
  refine pw_aload_n (pc' := 20) 0 rfl dX8_prepare_19 rfl rfl ?_
  refine ps_getR (pc' := 23) (r := 1) rfl dX8_prepare_20 fl_X8_26 ob_95 rfl rfl ?_
  refine ps_getI (pc' := 26) (v := (M 1 2)) rfl dX8_prepare_23 fl_X8_40 ob_1 rfl rfl ?_
  refine pw_icmp_ge (pc' := 29) (tgt := 71) rfl dX8_prepare_26 (by decide) (fun q0 => ?_) (fun q0 => ?_)
  · have h := h.1 q0
    refine pw_iconst (pc' := 72) rfl dX8_prepare_71 ci_0 ?_
    refine pw_istore_n (pc' := 73) (lv' := [(0, .ref 95), (1, .int (nI 0))]) [1, 0] rfl dX8_prepare_72 rfl (by decide) rfl ?_
    exact pw_sub [0, 1] rfl h
  · have h := h.2 q0
    refine pw_iconst (pc' := 30) rfl dX8_prepare_29 ci_0 ?_
    refine pw_istore_n (pc' := 31) (lv' := [(0, .ref 95), (1, .int a1), (2, .int (nI 0))]) [1, 2, 0] rfl dX8_prepare_30 rfl (by decide) rfl ?_
    exact pw_sub [0, 1, 2] rfl h
theorem T_X8_prepare_31 {M : Mem} {a1 : Int32} {a2 : Int32} {Q : Mem → Prop}  (h : (((nI 24) ≤ a2) → (P_X8_prepare_18 M (a1 + (nI 1)) Q)) ∧ ((¬ (nI 24) ≤ a2) → (vp_in a2 24 ∧ (vp_in a1 3 ∧ (P_X8_prepare_31 (wr M 96 (ix a2) ((M 96 (ix a2)) ||| ((nI 1) <<< ((M (4 + 1 + ix a1) (ix a2)) &&& 31)))) a1 (a2 + (nI 1)) Q))))) : P_X8_prepare_31 M a1 a2 Q := by
  refine pw_iload_n (pc' := 32) 2 rfl dX8_prepare_31 rfl rfl ?_
  refine pw_bipush (pc' := 34) rfl dX8_prepare_32 cb_24 ?_
  refine pw_icmp_ge (pc' := 37) (tgt := 65) rfl dX8_prepare_34 (by decide) (fun q0 => ?_) (fun q0 => ?_)
  · have h := h.1 q0
    refine pw_iinc (pc' := 68) (lv' := [(0, .ref 95), (1, .int (a1 + (nI 1))), (2, .int a2)]) 1 [1, 0, 2] rfl dX8_prepare_65 rfl (ii_1 _) (by decide) rfl ?_
    refine pw_goto (tgt := 18) dX8_prepare_68 (by decide) ?_
    exact pw_sub [0, 1] rfl h
  · have h := h.2 q0
    refine pw_aload_n (pc' := 38) 0 rfl dX8_prepare_37 rfl rfl ?_
    refine ps_getR (pc' := 41) (r := 96) rfl dX8_prepare_38 fl_X8_9 ob_95 rfl rfl ?_
    refine pw_iload_n (pc' := 42) 2 rfl dX8_prepare_41 rfl rfl ?_
    refine pw_dup2 (pc' := 43) rfl dX8_prepare_42 rfl rfl ?_
    obtain ⟨b1, h⟩ := h
    refine ps_iald (pc' := 44) (v := (M 96 (ix a2))) rfl dX8_prepare_43 ia_96 b1 rfl ?_
    refine pw_iconst (pc' := 45) rfl dX8_prepare_44 ci_1 ?_
    refine pw_aload_n (pc' := 46) 0 rfl dX8_prepare_45 rfl rfl ?_
    refine ps_getR (pc' := 49) (r := 1) rfl dX8_prepare_46 fl_X8_26 ob_95 rfl rfl ?_
    refine ps_getR (pc' := 52) (r := 4) rfl dX8_prepare_49 fl_X8_46 ob_1 rfl rfl ?_
    refine pw_iload_n (pc' := 53) 1 rfl dX8_prepare_52 rfl rfl ?_
    obtain ⟨b2, h⟩ := h
    refine ps_aald (pc' := 54) rfl dX8_prepare_53 ra_4 b2 ?_
    refine pw_iload_n (pc' := 55) 2 rfl dX8_prepare_54 rfl rfl ?_
    refine ps_iald (pc' := 56) (v := (M (4 + 1 + ix a1) (ix a2))) rfl dX8_prepare_55 (RA.row ra_4 b2) b1 rfl ?_
    refine pw_ishl (pc' := 57) rfl dX8_prepare_56 ?_
    refine pw_ior (pc' := 58) rfl dX8_prepare_57 ?_
    refine ps_iast (pc' := 59) rfl dX8_prepare_58 ia_96 b1 ?_
    refine pw_iinc (pc' := 62) (lv' := [(0, .ref 95), (1, .int a1), (2, .int (a2 + (nI 1)))]) 2 [1, 2, 0] rfl dX8_prepare_59 rfl (ii_1 _) (by decide) rfl ?_
    refine pw_goto (tgt := 31) dX8_prepare_62 (by decide) ?_
    exact pw_sub [0, 1, 2] rfl h
theorem T_X8_prepare_73 {M : Mem} {a1 : Int32} {Q : Mem → Prop}  (h : (((nI 23) ≤ a1) → (Q (wr M 95 1 (nI 1)))) ∧ ((¬ (nI 23) ≤ a1) → (P_X8_prepare_81 M a1 (nI 0) Q))) : P_X8_prepare_73 M a1 Q := by
  refine pw_iload_n (pc' := 74) 1 rfl dX8_prepare_73 rfl rfl ?_
  refine pw_bipush (pc' := 76) rfl dX8_prepare_74 cb_23 ?_
  refine pw_icmp_ge (pc' := 79) (tgt := 141) rfl dX8_prepare_76 (by decide) (fun q0 => ?_) (fun q0 => ?_)
  · have h := h.1 q0
    refine pw_aload_n (pc' := 142) 0 rfl dX8_prepare_141 rfl rfl ?_
    refine pw_iconst (pc' := 143) rfl dX8_prepare_142 ci_1 ?_
    refine ps_putZ (pc' := 146) rfl dX8_prepare_143 fl_X8_30 ob_95 rfl (by decide) ?_
    exact ps_vret dX8_prepare_146 rfl h
  · have h := h.2 q0
    refine pw_iconst (pc' := 80) rfl dX8_prepare_79 ci_0 ?_
    refine pw_istore_n (pc' := 81) (lv' := [(0, .ref 95), (1, .int a1), (2, .int (nI 0))]) [1, 2, 0] rfl dX8_prepare_80 rfl (by decide) rfl ?_
    exact pw_sub [0, 1, 2] rfl h
theorem T_X8_prepare_81 {M : Mem} {a1 : Int32} {a2 : Int32} {Q : Mem → Prop}  (h : (((M 1 0) ≤ a2) → (P_X8_prepare_73 M (a1 + (nI 1)) Q)) ∧ ((¬ (M 1 0) ≤ a2) → (vp_in a1 24 ∧ (C_X0_around_1 M a2 (nI 1) (fun r2 M2 => vp_in (a1 + (nI 1)) 24 ∧ (C_X8_comersInto M2 a2 a1 (fun r4 M4 => vp_in a2 10 ∧ (P_X8_prepare_81 (wr M4 (97 + 1 + ix a1) (ix a2) ((r2 &&& ((M2 96 (ix (a1 + (nI 1)))) ^^^ (-1))) &&& (r4 ^^^ (-1)))) a1 (a2 + (nI 1)) Q)))))))) : P_X8_prepare_81 M a1 a2 Q := by
  refine pw_iload_n (pc' := 82) 2 rfl dX8_prepare_81 rfl rfl ?_
  refine pw_aload_n (pc' := 83) 0 rfl dX8_prepare_82 rfl rfl ?_
  refine ps_getR (pc' := 86) (r := 1) rfl dX8_prepare_83 fl_X8_26 ob_95 rfl rfl ?_
  refine ps_getI (pc' := 89) (v := (M 1 0)) rfl dX8_prepare_86 fl_X8_49 ob_1 rfl rfl ?_
  refine pw_icmp_ge (pc' := 92) (tgt := 135) rfl dX8_prepare_89 (by decide) (fun q0 => ?_) (fun q0 => ?_)
  · have h := h.1 q0
    refine pw_iinc (pc' := 138) (lv' := [(0, .ref 95), (1, .int (a1 + (nI 1))), (2, .int a2)]) 1 [1, 0, 2] rfl dX8_prepare_135 rfl (ii_1 _) (by decide) rfl ?_
    refine pw_goto (tgt := 73) dX8_prepare_138 (by decide) ?_
    exact pw_sub [0, 1] rfl h
  · have h := h.2 q0
    refine pw_aload_n (pc' := 93) 0 rfl dX8_prepare_92 rfl rfl ?_
    refine ps_getR (pc' := 96) (r := 97) rfl dX8_prepare_93 fl_X8_17 ob_95 rfl rfl ?_
    refine pw_iload_n (pc' := 97) 1 rfl dX8_prepare_96 rfl rfl ?_
    obtain ⟨b1, h⟩ := h
    refine ps_aald (pc' := 98) rfl dX8_prepare_97 ra_97 b1 ?_
    refine pw_iload_n (pc' := 99) 2 rfl dX8_prepare_98 rfl rfl ?_
    refine pw_aload_n (pc' := 100) 0 rfl dX8_prepare_99 rfl rfl ?_
    refine ps_getR (pc' := 103) (r := 1) rfl dX8_prepare_100 fl_X8_26 ob_95 rfl rfl ?_
    refine pw_iload_n (pc' := 104) 2 rfl dX8_prepare_103 rfl rfl ?_
    refine pw_iconst (pc' := 105) rfl dX8_prepare_104 ci_1 ?_
    refine ps_callVI (pc' := 108) (As := [.int a2, .int (nI 1)]) (rest := [.int a2, .ref (97 + 1 + ix a1)]) (cT := (RX0, TX0, 8)) 2 rfl dX8_prepare_105 cv_X0_around ml_X8_52 (by decide) rfl rfl (by decide) (Nat.le_of_ble_eq_true rfl) ob_1 rfl rfl (CA.monoI h ?_)
    intro r2 M2 h
    refine pw_aload_n (pc' := 109) 0 rfl dX8_prepare_108 rfl rfl ?_
    refine ps_getR (pc' := 112) (r := 96) rfl dX8_prepare_109 fl_X8_9 ob_95 rfl rfl ?_
    refine pw_iload_n (pc' := 113) 1 rfl dX8_prepare_112 rfl rfl ?_
    refine pw_iconst (pc' := 114) rfl dX8_prepare_113 ci_1 ?_
    refine pw_iadd (pc' := 115) rfl dX8_prepare_114 ?_
    obtain ⟨b3, h⟩ := h
    refine ps_iald (pc' := 116) (v := (M2 96 (ix (a1 + (nI 1))))) rfl dX8_prepare_115 ia_96 b3 rfl ?_
    refine pw_iconst (pc' := 117) rfl dX8_prepare_116 ci_m1 ?_
    refine pw_ixor (pc' := 118) rfl dX8_prepare_117 ?_
    refine pw_iand (pc' := 119) rfl dX8_prepare_118 ?_
    refine pw_aload_n (pc' := 120) 0 rfl dX8_prepare_119 rfl rfl ?_
    refine pw_iload_n (pc' := 121) 2 rfl dX8_prepare_120 rfl rfl ?_
    refine pw_iload_n (pc' := 122) 1 rfl dX8_prepare_121 rfl rfl ?_
    refine ps_callVI (pc' := 125) (As := [.int a2, .int a1]) (rest := [.int (r2 &&& ((M2 96 (ix (a1 + (nI 1)))) ^^^ (-1))), .int a2, .ref (97 + 1 + ix a1)]) (cT := (RX8, TX8, 6)) 2 rfl dX8_prepare_122 cv_X8_comersInto ml_X8_56 (by decide) rfl rfl (by decide) (Nat.le_of_ble_eq_true rfl) ob_95 rfl rfl (CA.monoI h ?_)
    intro r4 M4 h
    refine pw_iconst (pc' := 126) rfl dX8_prepare_125 ci_m1 ?_
    refine pw_ixor (pc' := 127) rfl dX8_prepare_126 ?_
    refine pw_iand (pc' := 128) rfl dX8_prepare_127 ?_
    obtain ⟨b5, h⟩ := h
    refine ps_iast (pc' := 129) rfl dX8_prepare_128 (RA.row ra_97 b1) b5 ?_
    refine pw_iinc (pc' := 132) (lv' := [(0, .ref 95), (1, .int a1), (2, .int (a2 + (nI 1)))]) 2 [1, 2, 0] rfl dX8_prepare_129 rfl (ii_1 _) (by decide) rfl ?_
    refine pw_goto (tgt := 81) dX8_prepare_132 (by decide) ?_
    exact pw_sub [0, 1, 2] rfl h
theorem T_X8_comersInto {M : Mem} {a1 : Int32} {a2 : Int32} {Q : Int32 → Mem → Prop}  (h : P_X8_comersInto_5 M a1 a2 (nI 0) (nI 0) Q) : C_X8_comersInto M a1 a2 Q := by
  refine CA_of rfl (Nat.le_of_ble_eq_true rfl) ?_
  show PS _ _ 0 [(0, .ref 95), (1, .int a1), (2, .int a2)] [] M _
  refine pw_iconst (pc' := 1) rfl dX8_comersInto_0 ci_0 ?_
  refine pw_istore_n (pc' := 2) (lv' := [(0, .ref 95), (1, .int a1), (2, .int a2), (3, .int (nI 0))]) [1, 2, 3, 0] rfl dX8_comersInto_1 rfl (by decide) rfl ?_
  refine pw_iconst (pc' := 3) rfl dX8_comersInto_2 ci_0 ?_
  refine pw_istore (pc' := 5) (lv' := [(0, .ref 95), (1, .int a1), (2, .int a2), (3, .int (nI 0)), (4, .int (nI 0))]) [1, 2, 3, 4, 0] rfl dX8_comersInto_3 (by decide) rfl ?_
  exact pw_sub [0, 1, 2, 3, 4] rfl h
theorem T_X8_comersInto_5 {M : Mem} {a1 : Int32} {a2 : Int32} {a3 : Int32} {a4 : Int32} {Q : Int32 → Mem → Prop}  (h : (((M 1 2) ≤ a4) → (Q a3 M)) ∧ ((¬ (M 1 2) ≤ a4) → (vp_in a4 3 ∧ (vp_in (a2 + (nI 1)) 24 ∧ (((¬ (M (4 + 1 + ix a4) (ix (a2 + (nI 1)))) = a1) → (P_X8_comersInto_5 M a1 a2 a3 (a4 + (nI 1)) Q)) ∧ (((M (4 + 1 + ix a4) (ix (a2 + (nI 1)))) = a1) → (vp_in a2 24 ∧ (P_X8_comersInto_5 M a1 a2 (a3 ||| ((nI 1) <<< ((M (4 + 1 + ix a4) (ix a2)) &&& 31))) (a4 + (nI 1)) Q)))))))) : P_X8_comersInto_5 M a1 a2 a3 a4 Q := by
  refine pw_iload (pc' := 7) 4 rfl dX8_comersInto_5 rfl ?_
  refine pw_aload_n (pc' := 8) 0 rfl dX8_comersInto_7 rfl rfl ?_
  refine ps_getR (pc' := 11) (r := 1) rfl dX8_comersInto_8 fl_X8_26 ob_95 rfl rfl ?_
  refine ps_getI (pc' := 14) (v := (M 1 2)) rfl dX8_comersInto_11 fl_X8_40 ob_1 rfl rfl ?_
  refine pw_icmp_ge (pc' := 17) (tgt := 58) rfl dX8_comersInto_14 (by decide) (fun q0 => ?_) (fun q0 => ?_)
  · have h := h.1 q0
    refine pw_iload_n (pc' := 59) 3 rfl dX8_comersInto_58 rfl rfl ?_
    exact ps_iret dX8_comersInto_59 rfl h
  · have h := h.2 q0
    refine pw_aload_n (pc' := 18) 0 rfl dX8_comersInto_17 rfl rfl ?_
    refine ps_getR (pc' := 21) (r := 1) rfl dX8_comersInto_18 fl_X8_26 ob_95 rfl rfl ?_
    refine ps_getR (pc' := 24) (r := 4) rfl dX8_comersInto_21 fl_X8_46 ob_1 rfl rfl ?_
    refine pw_iload (pc' := 26) 4 rfl dX8_comersInto_24 rfl ?_
    obtain ⟨b1, h⟩ := h
    refine ps_aald (pc' := 27) rfl dX8_comersInto_26 ra_4 b1 ?_
    refine pw_iload_n (pc' := 28) 2 rfl dX8_comersInto_27 rfl rfl ?_
    refine pw_iconst (pc' := 29) rfl dX8_comersInto_28 ci_1 ?_
    refine pw_iadd (pc' := 30) rfl dX8_comersInto_29 ?_
    obtain ⟨b2, h⟩ := h
    refine ps_iald (pc' := 31) (v := (M (4 + 1 + ix a4) (ix (a2 + (nI 1))))) rfl dX8_comersInto_30 (RA.row ra_4 b1) b2 rfl ?_
    refine pw_iload_n (pc' := 32) 1 rfl dX8_comersInto_31 rfl rfl ?_
    refine pw_icmp_ne (pc' := 35) (tgt := 52) rfl dX8_comersInto_32 (by decide) (fun q3 => ?_) (fun q3 => ?_)
    · have h := h.1 q3
      refine pw_iinc (pc' := 55) (lv' := [(0, .ref 95), (1, .int a1), (2, .int a2), (3, .int a3), (4, .int (a4 + (nI 1)))]) 4 [1, 2, 3, 4, 0] rfl dX8_comersInto_52 rfl (ii_1 _) (by decide) rfl ?_
      refine pw_goto (tgt := 5) dX8_comersInto_55 (by decide) ?_
      exact pw_sub [0, 1, 2, 3, 4] rfl h
    · have h := h.2 q3
      refine pw_iload_n (pc' := 36) 3 rfl dX8_comersInto_35 rfl rfl ?_
      refine pw_iconst (pc' := 37) rfl dX8_comersInto_36 ci_1 ?_
      refine pw_aload_n (pc' := 38) 0 rfl dX8_comersInto_37 rfl rfl ?_
      refine ps_getR (pc' := 41) (r := 1) rfl dX8_comersInto_38 fl_X8_26 ob_95 rfl rfl ?_
      refine ps_getR (pc' := 44) (r := 4) rfl dX8_comersInto_41 fl_X8_46 ob_1 rfl rfl ?_
      refine pw_iload (pc' := 46) 4 rfl dX8_comersInto_44 rfl ?_
      refine ps_aald (pc' := 47) rfl dX8_comersInto_46 ra_4 b1 ?_
      refine pw_iload_n (pc' := 48) 2 rfl dX8_comersInto_47 rfl rfl ?_
      obtain ⟨b5, h⟩ := h
      refine ps_iald (pc' := 49) (v := (M (4 + 1 + ix a4) (ix a2))) rfl dX8_comersInto_48 (RA.row ra_4 b1) b5 rfl ?_
      refine pw_ishl (pc' := 50) rfl dX8_comersInto_49 ?_
      refine pw_ior (pc' := 51) rfl dX8_comersInto_50 ?_
      refine pw_istore_n (pc' := 52) (lv' := [(0, .ref 95), (1, .int a1), (2, .int a2), (3, .int (a3 ||| ((nI 1) <<< ((M (4 + 1 + ix a4) (ix a2)) &&& 31)))), (4, .int a4)]) [1, 2, 3, 0, 4] rfl dX8_comersInto_51 rfl (by decide) rfl ?_
      refine pw_iinc (pc' := 55) (lv' := [(0, .ref 95), (1, .int a1), (2, .int a2), (3, .int (a3 ||| ((nI 1) <<< ((M (4 + 1 + ix a4) (ix a2)) &&& 31)))), (4, .int (a4 + (nI 1)))]) 4 [1, 2, 3, 4, 0] rfl dX8_comersInto_52 rfl (ii_1 _) (by decide) rfl ?_
      refine pw_goto (tgt := 5) dX8_comersInto_55 (by decide) ?_
      exact pw_sub [0, 1, 2, 3, 4] rfl h
theorem T_X8_mayBegin {M : Mem} {a1 : Int32} {a2 : Int32} {a3 : Int32} {Q : Int32 → Mem → Prop}  (h : ((a3 = 0) → (Q (nI 1) M)) ∧ ((¬ a3 = 0) → (vp_in a2 24 ∧ (((¬ (((M 96 (ix a2)) >>> (a1 &&& 31)) &&& (nI 1)) = 0) → (Q (nI 0) M)) ∧ (((((M 96 (ix a2)) >>> (a1 &&& 31)) &&& (nI 1)) = 0) → (Q (nI 1) M)))))) : C_X8_mayBegin M a1 a2 a3 Q := by
  refine CA_of rfl (Nat.le_of_ble_eq_true rfl) ?_
  show PS _ _ 0 [(0, .ref 95), (1, .int a1), (2, .int a2), (3, .int a3)] [] M _
  refine pw_iload_n (pc' := 1) 3 rfl dX8_mayBegin_0 rfl rfl ?_
  refine pw_if_eq (pc' := 4) (tgt := 17) rfl dX8_mayBegin_1 (by decide) (fun q0 => ?_) (fun q0 => ?_)
  · have h := h.1 q0
    refine pw_iconst (pc' := 18) rfl dX8_mayBegin_17 ci_1 ?_
    refine pw_goto (tgt := 22) dX8_mayBegin_18 (by decide) ?_
    exact ps_zret dX8_mayBegin_22 rfl (by decide) h
  · have h := h.2 q0
    refine pw_aload_n (pc' := 5) 0 rfl dX8_mayBegin_4 rfl rfl ?_
    refine ps_getR (pc' := 8) (r := 96) rfl dX8_mayBegin_5 fl_X8_9 ob_95 rfl rfl ?_
    refine pw_iload_n (pc' := 9) 2 rfl dX8_mayBegin_8 rfl rfl ?_
    obtain ⟨b1, h⟩ := h
    refine ps_iald (pc' := 10) (v := (M 96 (ix a2))) rfl dX8_mayBegin_9 ia_96 b1 rfl ?_
    refine pw_iload_n (pc' := 11) 1 rfl dX8_mayBegin_10 rfl rfl ?_
    refine pw_ishr (pc' := 12) rfl dX8_mayBegin_11 ?_
    refine pw_iconst (pc' := 13) rfl dX8_mayBegin_12 ci_1 ?_
    refine pw_iand (pc' := 14) rfl dX8_mayBegin_13 ?_
    refine pw_if_ne (pc' := 17) (tgt := 21) rfl dX8_mayBegin_14 (by decide) (fun q2 => ?_) (fun q2 => ?_)
    · have h := h.1 q2
      refine pw_iconst (pc' := 22) rfl dX8_mayBegin_21 ci_0 ?_
      exact ps_zret dX8_mayBegin_22 rfl (by decide) h
    · have h := h.2 q2
      refine pw_iconst (pc' := 18) rfl dX8_mayBegin_17 ci_1 ?_
      refine pw_goto (tgt := 22) dX8_mayBegin_18 (by decide) ?_
      exact ps_zret dX8_mayBegin_22 rfl (by decide) h
theorem T_X8_onward {M : Mem} {a1 : Int32} {a2 : Int32} {a3 : Int32} {Q : Int32 → Mem → Prop}  (h : P_X8_onward_6 M a1 a2 a3 (nI 0) (nI 0) Q) : C_X8_onward M a1 a2 a3 Q := by
  refine CA_of rfl (Nat.le_of_ble_eq_true rfl) ?_
  show PS _ _ 0 [(0, .ref 95), (1, .int a1), (2, .int a2), (3, .int a3)] [] M _
  refine pw_iconst (pc' := 1) rfl dX8_onward_0 ci_0 ?_
  refine pw_istore (pc' := 3) (lv' := [(0, .ref 95), (1, .int a1), (2, .int a2), (3, .int a3), (4, .int (nI 0))]) [1, 2, 3, 4, 0] rfl dX8_onward_1 (by decide) rfl ?_
  refine pw_iconst (pc' := 4) rfl dX8_onward_3 ci_0 ?_
  refine pw_istore (pc' := 6) (lv' := [(0, .ref 95), (1, .int a1), (2, .int a2), (3, .int a3), (4, .int (nI 0)), (5, .int (nI 0))]) [1, 2, 3, 4, 5, 0] rfl dX8_onward_4 (by decide) rfl ?_
  exact pw_sub [0, 1, 2, 3, 4, 5] rfl h
theorem T_X8_onward_6 {M : Mem} {a1 : Int32} {a2 : Int32} {a3 : Int32} {a4 : Int32} {a5 : Int32} {Q : Int32 → Mem → Prop}  (h : (((M 1 0) ≤ a5) → (Q a4 M)) ∧ ((¬ (M 1 0) ≤ a5) → (((((a1 >>> (a5 &&& 31)) &&& (nI 1)) = 0) → (P_X8_onward_6 M a1 a2 a3 a4 (a5 + (nI 1)) Q)) ∧ ((¬ ((a1 >>> (a5 &&& 31)) &&& (nI 1)) = 0) → (C_X8_step M a5 a2 a3 (fun r2 M2 => P_X8_onward_6 M2 a1 a2 a3 (a4 ||| r2) (a5 + (nI 1)) Q)))))) : P_X8_onward_6 M a1 a2 a3 a4 a5 Q := by
  refine pw_iload (pc' := 8) 5 rfl dX8_onward_6 rfl ?_
  refine pw_aload_n (pc' := 9) 0 rfl dX8_onward_8 rfl rfl ?_
  refine ps_getR (pc' := 12) (r := 1) rfl dX8_onward_9 fl_X8_26 ob_95 rfl rfl ?_
  refine ps_getI (pc' := 15) (v := (M 1 0)) rfl dX8_onward_12 fl_X8_49 ob_1 rfl rfl ?_
  refine pw_icmp_ge (pc' := 18) (tgt := 46) rfl dX8_onward_15 (by decide) (fun q0 => ?_) (fun q0 => ?_)
  · have h := h.1 q0
    refine pw_iload (pc' := 48) 4 rfl dX8_onward_46 rfl ?_
    exact ps_iret dX8_onward_48 rfl h
  · have h := h.2 q0
    refine pw_iload_n (pc' := 19) 1 rfl dX8_onward_18 rfl rfl ?_
    refine pw_iload (pc' := 21) 5 rfl dX8_onward_19 rfl ?_
    refine pw_ishr (pc' := 22) rfl dX8_onward_21 ?_
    refine pw_iconst (pc' := 23) rfl dX8_onward_22 ci_1 ?_
    refine pw_iand (pc' := 24) rfl dX8_onward_23 ?_
    refine pw_if_eq (pc' := 27) (tgt := 40) rfl dX8_onward_24 (by decide) (fun q1 => ?_) (fun q1 => ?_)
    · have h := h.1 q1
      refine pw_iinc (pc' := 43) (lv' := [(0, .ref 95), (1, .int a1), (2, .int a2), (3, .int a3), (4, .int a4), (5, .int (a5 + (nI 1)))]) 5 [1, 2, 3, 4, 5, 0] rfl dX8_onward_40 rfl (ii_1 _) (by decide) rfl ?_
      refine pw_goto (tgt := 6) dX8_onward_43 (by decide) ?_
      exact pw_sub [0, 1, 2, 3, 4, 5] rfl h
    · have h := h.2 q1
      refine pw_iload (pc' := 29) 4 rfl dX8_onward_27 rfl ?_
      refine pw_aload_n (pc' := 30) 0 rfl dX8_onward_29 rfl rfl ?_
      refine pw_iload (pc' := 32) 5 rfl dX8_onward_30 rfl ?_
      refine pw_iload_n (pc' := 33) 2 rfl dX8_onward_32 rfl rfl ?_
      refine pw_iload_n (pc' := 34) 3 rfl dX8_onward_33 rfl rfl ?_
      refine ps_callVI (pc' := 37) (As := [.int a5, .int a2, .int a3]) (rest := [.int a4]) (cT := (RX8, TX8, 6)) 3 rfl dX8_onward_34 cv_X8_step ml_X8_60 (by decide) rfl rfl (by decide) (Nat.le_of_ble_eq_true rfl) ob_95 rfl rfl (CA.monoI h ?_)
      intro r2 M2 h
      refine pw_ior (pc' := 38) rfl dX8_onward_37 ?_
      refine pw_istore (pc' := 40) (lv' := [(0, .ref 95), (1, .int a1), (2, .int a2), (3, .int a3), (4, .int (a4 ||| r2)), (5, .int a5)]) [1, 2, 3, 4, 0, 5] rfl dX8_onward_38 (by decide) rfl ?_
      refine pw_iinc (pc' := 43) (lv' := [(0, .ref 95), (1, .int a1), (2, .int a2), (3, .int a3), (4, .int (a4 ||| r2)), (5, .int (a5 + (nI 1)))]) 5 [1, 2, 3, 4, 5, 0] rfl dX8_onward_40 rfl (ii_1 _) (by decide) rfl ?_
      refine pw_goto (tgt := 6) dX8_onward_43 (by decide) ?_
      exact pw_sub [0, 1, 2, 3, 4, 5] rfl h
theorem T_X8_step {M : Mem} {a1 : Int32} {a2 : Int32} {a3 : Int32} {Q : Int32 → Mem → Prop}  (h : ((a3 = 0) → (C_X0_around_1 M a1 (nI 1) (fun r1 M1 => Q r1 M1))) ∧ ((¬ a3 = 0) → (vp_in a2 24 ∧ (vp_in a1 10 ∧ (Q (M (97 + 1 + ix a2) (ix a1)) M))))) : C_X8_step M a1 a2 a3 Q := by
  refine CA_of rfl (Nat.le_of_ble_eq_true rfl) ?_
  show PS _ _ 0 [(0, .ref 95), (1, .int a1), (2, .int a2), (3, .int a3)] [] M _
  refine pw_iload_n (pc' := 1) 3 rfl dX8_step_0 rfl rfl ?_
  refine pw_if_eq (pc' := 4) (tgt := 15) rfl dX8_step_1 (by decide) (fun q0 => ?_) (fun q0 => ?_)
  · have h := h.1 q0
    refine pw_aload_n (pc' := 16) 0 rfl dX8_step_15 rfl rfl ?_
    refine ps_getR (pc' := 19) (r := 1) rfl dX8_step_16 fl_X8_26 ob_95 rfl rfl ?_
    refine pw_iload_n (pc' := 20) 1 rfl dX8_step_19 rfl rfl ?_
    refine pw_iconst (pc' := 21) rfl dX8_step_20 ci_1 ?_
    refine ps_callVI (pc' := 24) (As := [.int a1, .int (nI 1)]) (rest := []) (cT := (RX0, TX0, 8)) 2 rfl dX8_step_21 cv_X0_around ml_X8_52 (by decide) rfl rfl (by decide) (Nat.le_of_ble_eq_true rfl) ob_1 rfl rfl (CA.monoI h ?_)
    intro r1 M1 h
    exact ps_iret dX8_step_24 rfl h
  · have h := h.2 q0
    refine pw_aload_n (pc' := 5) 0 rfl dX8_step_4 rfl rfl ?_
    refine ps_getR (pc' := 8) (r := 97) rfl dX8_step_5 fl_X8_17 ob_95 rfl rfl ?_
    refine pw_iload_n (pc' := 9) 2 rfl dX8_step_8 rfl rfl ?_
    obtain ⟨b1, h⟩ := h
    refine ps_aald (pc' := 10) rfl dX8_step_9 ra_97 b1 ?_
    refine pw_iload_n (pc' := 11) 1 rfl dX8_step_10 rfl rfl ?_
    obtain ⟨b2, h⟩ := h
    refine ps_iald (pc' := 12) (v := (M (97 + 1 + ix a2) (ix a1))) rfl dX8_step_11 (RA.row ra_97 b1) b2 rfl ?_
    refine pw_goto (tgt := 24) dX8_step_12 (by decide) ?_
    exact ps_iret dX8_step_24 rfl h
theorem T_X8_roomOnTrip {M : Mem} {a1 : Int32} {a2 : Int32} {a3 : Int32} {a4 : Int32} {a5 : Int32} {Q : Int32 → Mem → Prop}  (h : P_X8_roomOnTrip_5 M a1 a2 a4 a5 (a3 - (nI 1)) Q) : C_X8_roomOnTrip M a1 a2 a3 a4 a5 Q := by
  refine CA_of rfl (Nat.le_of_ble_eq_true rfl) ?_
  show PS _ _ 0 [(0, .ref 95), (1, .int a1), (2, .int a2), (3, .int a3), (4, .int a4), (5, .int a5)] [] M _
  refine pw_iload_n (pc' := 1) 3 rfl dX8_roomOnTrip_0 rfl rfl ?_
  refine pw_iconst (pc' := 2) rfl dX8_roomOnTrip_1 ci_1 ?_
  refine pw_isub (pc' := 3) rfl dX8_roomOnTrip_2 ?_
  refine pw_istore (pc' := 5) (lv' := [(0, .ref 95), (1, .int a1), (2, .int a2), (3, .int a3), (4, .int a4), (5, .int a5), (6, .int (a3 - (nI 1)))]) [1, 2, 3, 4, 5, 6, 0] rfl dX8_roomOnTrip_3 (by decide) rfl ?_
  exact pw_sub [0, 1, 2, 4, 5, 6] rfl h
theorem T_X8_roomOnTrip_5 {M : Mem} {a1 : Int32} {a2 : Int32} {a4 : Int32} {a5 : Int32} {a6 : Int32} {Q : Int32 → Mem → Prop}  (h : ((a6 < a2) → (P_X8_roomOnTrip_104 M a4 a5 a1 a2 Q)) ∧ ((¬ a6 < a2) → (vp_in a6 24 ∧ (P_X8_roomOnTrip_22 (wr M 123 (ix a6) (nI 0)) a1 a2 a4 a5 a6 (nI 0) Q)))) : P_X8_roomOnTrip_5 M a1 a2 a4 a5 a6 Q := by
  refine pw_iload (pc' := 7) 5 rfl dX8_roomOnTrip_5 rfl ?_
  refine pw_iload_n (pc' := 8) 2 rfl dX8_roomOnTrip_7 rfl rfl ?_
  refine pw_icmp_lt (pc' := 11) (tgt := 98) rfl dX8_roomOnTrip_8 (by decide) (fun q0 => ?_) (fun q0 => ?_)
  · have h := h.1 q0
    refine pw_iload_n (pc' := 99) 1 rfl dX8_roomOnTrip_98 rfl rfl ?_
    refine pw_istore (pc' := 101) (lv' := [(0, .ref 95), (1, .int a1), (2, .int a2), (4, .int a4), (5, .int a5), (6, .int a1)]) [1, 2, 3, 4, 5, 0] rfl dX8_roomOnTrip_99 (by decide) rfl ?_
    refine pw_iload_n (pc' := 102) 2 rfl dX8_roomOnTrip_101 rfl rfl ?_
    refine pw_istore (pc' := 104) (lv' := [(0, .ref 95), (1, .int a1), (2, .int a2), (4, .int a4), (5, .int a5), (6, .int a1), (7, .int a2)]) [1, 2, 3, 4, 5, 6, 0] rfl dX8_roomOnTrip_102 (by decide) rfl ?_
    exact pw_sub [0, 3, 4, 5, 6] rfl h
  · have h := h.2 q0
    refine pw_aload_n (pc' := 12) 0 rfl dX8_roomOnTrip_11 rfl rfl ?_
    refine ps_getR (pc' := 15) (r := 123) rfl dX8_roomOnTrip_12 fl_X8_23 ob_95 rfl rfl ?_
    refine pw_iload (pc' := 17) 5 rfl dX8_roomOnTrip_15 rfl ?_
    refine pw_iconst (pc' := 18) rfl dX8_roomOnTrip_17 ci_0 ?_
    obtain ⟨b1, h⟩ := h
    refine ps_iast (pc' := 19) rfl dX8_roomOnTrip_18 ia_123 b1 ?_
    refine pw_iconst (pc' := 20) rfl dX8_roomOnTrip_19 ci_0 ?_
    refine pw_istore (pc' := 22) (lv' := [(0, .ref 95), (1, .int a1), (2, .int a2), (4, .int a4), (5, .int a5), (6, .int a6), (7, .int (nI 0))]) [1, 2, 3, 4, 5, 6, 0] rfl dX8_roomOnTrip_20 (by decide) rfl ?_
    exact pw_sub [0, 1, 2, 3, 4, 5, 6] rfl h
theorem T_X8_roomOnTrip_22 {M : Mem} {a1 : Int32} {a2 : Int32} {a4 : Int32} {a5 : Int32} {a6 : Int32} {a7 : Int32} {Q : Int32 → Mem → Prop}  (h : (((M 1 0) ≤ a7) → (P_X8_roomOnTrip_5 M a1 a2 a4 a5 (a6 + (-1)) Q)) ∧ ((¬ (M 1 0) ≤ a7) → (vp_in a6 24 ∧ ((((((M 122 (ix a6)) >>> (a7 &&& 31)) &&& (nI 1)) = 0) → (P_X8_roomOnTrip_22 M a1 a2 a4 a5 a6 (a7 + (nI 1)) Q)) ∧ ((¬ (((M 122 (ix a6)) >>> (a7 &&& 31)) &&& (nI 1)) = 0) → (C_X8_step M a7 a6 a4 (fun r3 M3 => vp_in (a6 + (nI 1)) 24 ∧ ((((r3 &&& (M3 123 (ix (a6 + (nI 1))))) = 0) → (P_X8_roomOnTrip_22 M3 a1 a2 a4 a5 a6 (a7 + (nI 1)) Q)) ∧ ((¬ (r3 &&& (M3 123 (ix (a6 + (nI 1))))) = 0) → (P_X8_roomOnTrip_22 (wr M3 123 (ix a6) ((M3 123 (ix a6)) ||| ((nI 1) <<< (a7 &&& 31)))) a1 a2 a4 a5 a6 (a7 + (nI 1)) Q)))))))))) : P_X8_roomOnTrip_22 M a1 a2 a4 a5 a6 a7 Q := by
  refine pw_iload (pc' := 24) 6 rfl dX8_roomOnTrip_22 rfl ?_
  refine pw_aload_n (pc' := 25) 0 rfl dX8_roomOnTrip_24 rfl rfl ?_
  refine ps_getR (pc' := 28) (r := 1) rfl dX8_roomOnTrip_25 fl_X8_26 ob_95 rfl rfl ?_
  refine ps_getI (pc' := 31) (v := (M 1 0)) rfl dX8_roomOnTrip_28 fl_X8_49 ob_1 rfl rfl ?_
  refine pw_icmp_ge (pc' := 34) (tgt := 92) rfl dX8_roomOnTrip_31 (by decide) (fun q0 => ?_) (fun q0 => ?_)
  · have h := h.1 q0
    refine pw_iinc (pc' := 95) (lv' := [(0, .ref 95), (1, .int a1), (2, .int a2), (4, .int a4), (5, .int a5), (6, .int (a6 + (-1))), (7, .int a7)]) 5 [1, 2, 3, 4, 5, 0, 6] rfl dX8_roomOnTrip_92 rfl (ii_m1 _) (by decide) rfl ?_
    refine pw_goto (tgt := 5) dX8_roomOnTrip_95 (by decide) ?_
    exact pw_sub [0, 1, 2, 3, 4, 5] rfl h
  · have h := h.2 q0
    refine pw_aload_n (pc' := 35) 0 rfl dX8_roomOnTrip_34 rfl rfl ?_
    refine ps_getR (pc' := 38) (r := 122) rfl dX8_roomOnTrip_35 fl_X8_20 ob_95 rfl rfl ?_
    refine pw_iload (pc' := 40) 5 rfl dX8_roomOnTrip_38 rfl ?_
    obtain ⟨b1, h⟩ := h
    refine ps_iald (pc' := 41) (v := (M 122 (ix a6))) rfl dX8_roomOnTrip_40 ia_122 b1 rfl ?_
    refine pw_iload (pc' := 43) 6 rfl dX8_roomOnTrip_41 rfl ?_
    refine pw_ishr (pc' := 44) rfl dX8_roomOnTrip_43 ?_
    refine pw_iconst (pc' := 45) rfl dX8_roomOnTrip_44 ci_1 ?_
    refine pw_iand (pc' := 46) rfl dX8_roomOnTrip_45 ?_
    refine pw_if_eq (pc' := 49) (tgt := 86) rfl dX8_roomOnTrip_46 (by decide) (fun q2 => ?_) (fun q2 => ?_)
    · have h := h.1 q2
      refine pw_iinc (pc' := 89) (lv' := [(0, .ref 95), (1, .int a1), (2, .int a2), (4, .int a4), (5, .int a5), (6, .int a6), (7, .int (a7 + (nI 1)))]) 6 [1, 2, 3, 4, 5, 6, 0] rfl dX8_roomOnTrip_86 rfl (ii_1 _) (by decide) rfl ?_
      refine pw_goto (tgt := 22) dX8_roomOnTrip_89 (by decide) ?_
      exact pw_sub [0, 1, 2, 3, 4, 5, 6] rfl h
    · have h := h.2 q2
      refine pw_aload_n (pc' := 50) 0 rfl dX8_roomOnTrip_49 rfl rfl ?_
      refine pw_iload (pc' := 52) 6 rfl dX8_roomOnTrip_50 rfl ?_
      refine pw_iload (pc' := 54) 5 rfl dX8_roomOnTrip_52 rfl ?_
      refine pw_iload (pc' := 56) 3 rfl dX8_roomOnTrip_54 rfl ?_
      refine ps_callVI (pc' := 59) (As := [.int a7, .int a6, .int a4]) (rest := []) (cT := (RX8, TX8, 6)) 3 rfl dX8_roomOnTrip_56 cv_X8_step ml_X8_60 (by decide) rfl rfl (by decide) (Nat.le_of_ble_eq_true rfl) ob_95 rfl rfl (CA.monoI h ?_)
      intro r3 M3 h
      refine pw_aload_n (pc' := 60) 0 rfl dX8_roomOnTrip_59 rfl rfl ?_
      refine ps_getR (pc' := 63) (r := 123) rfl dX8_roomOnTrip_60 fl_X8_23 ob_95 rfl rfl ?_
      refine pw_iload (pc' := 65) 5 rfl dX8_roomOnTrip_63 rfl ?_
      refine pw_iconst (pc' := 66) rfl dX8_roomOnTrip_65 ci_1 ?_
      refine pw_iadd (pc' := 67) rfl dX8_roomOnTrip_66 ?_
      obtain ⟨b4, h⟩ := h
      refine ps_iald (pc' := 68) (v := (M3 123 (ix (a6 + (nI 1))))) rfl dX8_roomOnTrip_67 ia_123 b4 rfl ?_
      refine pw_iand (pc' := 69) rfl dX8_roomOnTrip_68 ?_
      refine pw_if_eq (pc' := 72) (tgt := 86) rfl dX8_roomOnTrip_69 (by decide) (fun q5 => ?_) (fun q5 => ?_)
      · have h := h.1 q5
        refine pw_iinc (pc' := 89) (lv' := [(0, .ref 95), (1, .int a1), (2, .int a2), (4, .int a4), (5, .int a5), (6, .int a6), (7, .int (a7 + (nI 1)))]) 6 [1, 2, 3, 4, 5, 6, 0] rfl dX8_roomOnTrip_86 rfl (ii_1 _) (by decide) rfl ?_
        refine pw_goto (tgt := 22) dX8_roomOnTrip_89 (by decide) ?_
        exact pw_sub [0, 1, 2, 3, 4, 5, 6] rfl h
      · have h := h.2 q5
        refine pw_aload_n (pc' := 73) 0 rfl dX8_roomOnTrip_72 rfl rfl ?_
        refine ps_getR (pc' := 76) (r := 123) rfl dX8_roomOnTrip_73 fl_X8_23 ob_95 rfl rfl ?_
        refine pw_iload (pc' := 78) 5 rfl dX8_roomOnTrip_76 rfl ?_
        refine pw_dup2 (pc' := 79) rfl dX8_roomOnTrip_78 rfl rfl ?_
        refine ps_iald (pc' := 80) (v := (M3 123 (ix a6))) rfl dX8_roomOnTrip_79 ia_123 b1 rfl ?_
        refine pw_iconst (pc' := 81) rfl dX8_roomOnTrip_80 ci_1 ?_
        refine pw_iload (pc' := 83) 6 rfl dX8_roomOnTrip_81 rfl ?_
        refine pw_ishl (pc' := 84) rfl dX8_roomOnTrip_83 ?_
        refine pw_ior (pc' := 85) rfl dX8_roomOnTrip_84 ?_
        refine ps_iast (pc' := 86) rfl dX8_roomOnTrip_85 ia_123 b1 ?_
        refine pw_iinc (pc' := 89) (lv' := [(0, .ref 95), (1, .int a1), (2, .int a2), (4, .int a4), (5, .int a5), (6, .int a6), (7, .int (a7 + (nI 1)))]) 6 [1, 2, 3, 4, 5, 6, 0] rfl dX8_roomOnTrip_86 rfl (ii_1 _) (by decide) rfl ?_
        refine pw_goto (tgt := 22) dX8_roomOnTrip_89 (by decide) ?_
        exact pw_sub [0, 1, 2, 3, 4, 5, 6] rfl h
theorem T_X8_roomOnTrip_104 {M : Mem} {a4 : Int32} {a5 : Int32} {a6 : Int32} {a7 : Int32} {Q : Int32 → Mem → Prop}  (h : ((a5 ≤ a7) → (Q a6 M)) ∧ ((¬ a5 ≤ a7) → (C_X8_step M a6 a7 a4 (fun r1 M1 => vp_in (a7 + (nI 1)) 24 ∧ (C_X8_lowest M1 (r1 &&& (M1 123 (ix (a7 + (nI 1))))) (fun r3 M3 => P_X8_roomOnTrip_104 M3 a4 a5 r3 (a7 + (nI 1)) Q)))))) : P_X8_roomOnTrip_104 M a4 a5 a6 a7 Q := by
  refine pw_iload (pc' := 106) 4 rfl dX8_roomOnTrip_104 rfl ?_
  refine pw_iload (pc' := 108) 2 rfl dX8_roomOnTrip_106 rfl ?_
  refine pw_icmp_ge (pc' := 111) (tgt := 143) rfl dX8_roomOnTrip_108 (by decide) (fun q0 => ?_) (fun q0 => ?_)
  · have h := h.1 q0
    refine pw_iload (pc' := 145) 3 rfl dX8_roomOnTrip_143 rfl ?_
    exact ps_iret dX8_roomOnTrip_145 rfl h
  · have h := h.2 q0
    refine pw_aload_n (pc' := 112) 0 rfl dX8_roomOnTrip_111 rfl rfl ?_
    refine pw_aload_n (pc' := 113) 0 rfl dX8_roomOnTrip_112 rfl rfl ?_
    refine pw_iload (pc' := 115) 3 rfl dX8_roomOnTrip_113 rfl ?_
    refine pw_iload (pc' := 117) 4 rfl dX8_roomOnTrip_115 rfl ?_
    refine pw_iload (pc' := 119) 1 rfl dX8_roomOnTrip_117 rfl ?_
    refine ps_callVI (pc' := 122) (As := [.int a6, .int a7, .int a4]) (rest := [.ref 95]) (cT := (RX8, TX8, 6)) 3 rfl dX8_roomOnTrip_119 cv_X8_step ml_X8_60 (by decide) rfl rfl (by decide) (Nat.le_of_ble_eq_true rfl) ob_95 rfl rfl (CA.monoI h ?_)
    intro r1 M1 h
    refine pw_aload_n (pc' := 123) 0 rfl dX8_roomOnTrip_122 rfl rfl ?_
    refine ps_getR (pc' := 126) (r := 123) rfl dX8_roomOnTrip_123 fl_X8_23 ob_95 rfl rfl ?_
    refine pw_iload (pc' := 128) 4 rfl dX8_roomOnTrip_126 rfl ?_
    refine pw_iconst (pc' := 129) rfl dX8_roomOnTrip_128 ci_1 ?_
    refine pw_iadd (pc' := 130) rfl dX8_roomOnTrip_129 ?_
    obtain ⟨b2, h⟩ := h
    refine ps_iald (pc' := 131) (v := (M1 123 (ix (a7 + (nI 1))))) rfl dX8_roomOnTrip_130 ia_123 b2 rfl ?_
    refine pw_iand (pc' := 132) rfl dX8_roomOnTrip_131 ?_
    refine ps_callVI (pc' := 135) (As := [.int (r1 &&& (M1 123 (ix (a7 + (nI 1)))))]) (rest := []) (cT := (RX8, TX8, 6)) 1 rfl dX8_roomOnTrip_132 cv_X8_lowest ml_X8_74 (by decide) rfl rfl (by decide) (Nat.le_of_ble_eq_true rfl) ob_95 rfl rfl (CA.monoI h ?_)
    intro r3 M3 h
    refine pw_istore (pc' := 137) (lv' := [(0, .ref 95), (4, .int a4), (5, .int a5), (6, .int r3), (7, .int a7)]) [1, 2, 3, 0, 4] rfl dX8_roomOnTrip_135 (by decide) rfl ?_
    refine pw_iinc (pc' := 140) (lv' := [(0, .ref 95), (4, .int a4), (5, .int a5), (6, .int r3), (7, .int (a7 + (nI 1)))]) 4 [1, 2, 3, 4, 0] rfl dX8_roomOnTrip_137 rfl (ii_1 _) (by decide) rfl ?_
    refine pw_goto (tgt := 104) dX8_roomOnTrip_140 (by decide) ?_
    exact pw_sub [0, 1, 2, 3, 4] rfl h
theorem T_X8_lowest {M : Mem} {a1 : Int32} {Q : Int32 → Mem → Prop}  (h : P_X8_lowest_2 M a1 (nI 0) Q) : C_X8_lowest M a1 Q := by
  refine CA_of rfl (Nat.le_of_ble_eq_true rfl) ?_
  show PS _ _ 0 [(0, .ref 95), (1, .int a1)] [] M _
  refine pw_iconst (pc' := 1) rfl dX8_lowest_0 ci_0 ?_
  refine pw_istore_n (pc' := 2) (lv' := [(0, .ref 95), (1, .int a1), (2, .int (nI 0))]) [1, 2, 0] rfl dX8_lowest_1 rfl (by decide) rfl ?_
  exact pw_sub [1, 2] rfl h
theorem T_X8_lowest_2 {M : Mem} {a1 : Int32} {a2 : Int32} {Q : Int32 → Mem → Prop}  (h : (((nI 10) ≤ a2) → (Q (nI 0) M)) ∧ ((¬ (nI 10) ≤ a2) → (((((a1 >>> (a2 &&& 31)) &&& (nI 1)) = 0) → (P_X8_lowest_2 M a1 (a2 + (nI 1)) Q)) ∧ ((¬ ((a1 >>> (a2 &&& 31)) &&& (nI 1)) = 0) → (Q a2 M))))) : P_X8_lowest_2 M a1 a2 Q := by
  refine pw_iload_n (pc' := 3) 1 rfl dX8_lowest_2 rfl rfl ?_
  refine pw_bipush (pc' := 5) rfl dX8_lowest_3 cb_10 ?_
  refine pw_icmp_ge (pc' := 8) (tgt := 24) rfl dX8_lowest_5 (by decide) (fun q0 => ?_) (fun q0 => ?_)
  · have h := h.1 q0
    refine pw_iconst (pc' := 25) rfl dX8_lowest_24 ci_0 ?_
    exact ps_iret dX8_lowest_25 rfl h
  · have h := h.2 q0
    refine pw_iload_n (pc' := 9) 0 rfl dX8_lowest_8 rfl rfl ?_
    refine pw_iload_n (pc' := 10) 1 rfl dX8_lowest_9 rfl rfl ?_
    refine pw_ishr (pc' := 11) rfl dX8_lowest_10 ?_
    refine pw_iconst (pc' := 12) rfl dX8_lowest_11 ci_1 ?_
    refine pw_iand (pc' := 13) rfl dX8_lowest_12 ?_
    refine pw_if_eq (pc' := 16) (tgt := 18) rfl dX8_lowest_13 (by decide) (fun q1 => ?_) (fun q1 => ?_)
    · have h := h.1 q1
      refine pw_iinc (pc' := 21) (lv' := [(1, .int a1), (2, .int (a2 + (nI 1)))]) 1 [1, 0] rfl dX8_lowest_18 rfl (ii_1 _) (by decide) rfl ?_
      refine pw_goto (tgt := 2) dX8_lowest_21 (by decide) ?_
      exact pw_sub [0, 1] rfl h
    · have h := h.2 q1
      refine pw_iload_n (pc' := 17) 1 rfl dX8_lowest_16 rfl rfl ?_
      exact ps_iret dX8_lowest_17 rfl h
theorem T_X5_hasServant_30 {M : Mem} {a1 : Int32} {Q : Int32 → Mem → Prop}  (h : ((a1 < 0) → (Q (nI 0) M)) ∧ ((¬ a1 < 0) → ((((M 30 0) ≤ a1) → (Q (nI 0) M)) ∧ ((¬ (M 30 0) ≤ a1) → (Q (nI 1) M))))) : C_X5_hasServant_30 M a1 Q := by
  refine CA_of rfl (Nat.le_of_ble_eq_true rfl) ?_
  show PS _ _ 0 [(0, .ref 30), (1, .int a1)] [] M _
  refine pw_iload_n (pc' := 1) 1 rfl dX5_hasServant_0 rfl rfl ?_
  refine pw_if_lt (pc' := 4) (tgt := 16) rfl dX5_hasServant_1 (by decide) (fun q0 => ?_) (fun q0 => ?_)
  · have h := h.1 q0
    refine pw_iconst (pc' := 17) rfl dX5_hasServant_16 ci_0 ?_
    exact ps_zret dX5_hasServant_17 rfl (by decide) h
  · have h := h.2 q0
    refine pw_iload_n (pc' := 5) 1 rfl dX5_hasServant_4 rfl rfl ?_
    refine pw_aload_n (pc' := 6) 0 rfl dX5_hasServant_5 rfl rfl ?_
    refine ps_getI (pc' := 9) (v := (M 30 0)) rfl dX5_hasServant_6 fl_X5_30 ob_30 rfl rfl ?_
    refine pw_icmp_ge (pc' := 12) (tgt := 16) rfl dX5_hasServant_9 (by decide) (fun q1 => ?_) (fun q1 => ?_)
    · have h := h.1 q1
      refine pw_iconst (pc' := 17) rfl dX5_hasServant_16 ci_0 ?_
      exact ps_zret dX5_hasServant_17 rfl (by decide) h
    · have h := h.2 q1
      refine pw_iconst (pc' := 13) rfl dX5_hasServant_12 ci_1 ?_
      refine pw_goto (tgt := 17) dX5_hasServant_13 (by decide) ?_
      exact ps_zret dX5_hasServant_17 rfl (by decide) h
theorem T_X5_addErrand_30 {M : Mem} {a1 : Int32} {a2 : Int32} {a3 : Int32} {a4 : Int32} {a5 : Int32} {Q : Mem → Prop}  (h : vp_in (M 30 3) 5 ∧ (Q (wr (wr (wr (wr (wr (wr M 32 (ix (M 30 3)) a1) 33 (ix (M 30 3)) a2) 34 (ix (M 30 3)) a3) 35 (ix (M 30 3)) a4) 36 (ix (M 30 3)) a5) 30 3 ((M 30 3) + (nI 1))))) : C_X5_addErrand_30 M a1 a2 a3 a4 a5 Q := by
  refine CA_of rfl (Nat.le_of_ble_eq_true rfl) ?_
  show PS _ _ 0 [(0, .ref 30), (1, .int a1), (2, .int a2), (3, .int a3), (4, .int a4), (5, .int a5)] [] M _
  refine pw_aload_n (pc' := 1) 0 rfl dX5_addErrand_0 rfl rfl ?_
  refine ps_getR (pc' := 4) (r := 32) rfl dX5_addErrand_1 fl_X5_15 ob_30 rfl rfl ?_
  refine pw_aload_n (pc' := 5) 0 rfl dX5_addErrand_4 rfl rfl ?_
  refine ps_getI (pc' := 8) (v := (M 30 3)) rfl dX5_addErrand_5 fl_X5_34 ob_30 rfl rfl ?_
  refine pw_iload_n (pc' := 9) 1 rfl dX5_addErrand_8 rfl rfl ?_
  obtain ⟨b0, h⟩ := h
  refine ps_iast (pc' := 10) rfl dX5_addErrand_9 ia_32 b0 ?_
  refine pw_aload_n (pc' := 11) 0 rfl dX5_addErrand_10 rfl rfl ?_
  refine ps_getR (pc' := 14) (r := 33) rfl dX5_addErrand_11 fl_X5_18 ob_30 rfl rfl ?_
  refine pw_aload_n (pc' := 15) 0 rfl dX5_addErrand_14 rfl rfl ?_
  refine ps_getI (pc' := 18) (v := (M 30 3)) rfl dX5_addErrand_15 fl_X5_34 ob_30 rfl rfl ?_
  refine pw_iload_n (pc' := 19) 2 rfl dX5_addErrand_18 rfl rfl ?_
  refine ps_iast (pc' := 20) rfl dX5_addErrand_19 ia_33 b0 ?_
  refine pw_aload_n (pc' := 21) 0 rfl dX5_addErrand_20 rfl rfl ?_
  refine ps_getR (pc' := 24) (r := 34) rfl dX5_addErrand_21 fl_X5_21 ob_30 rfl rfl ?_
  refine pw_aload_n (pc' := 25) 0 rfl dX5_addErrand_24 rfl rfl ?_
  refine ps_getI (pc' := 28) (v := (M 30 3)) rfl dX5_addErrand_25 fl_X5_34 ob_30 rfl rfl ?_
  refine pw_iload_n (pc' := 29) 3 rfl dX5_addErrand_28 rfl rfl ?_
  refine ps_iast (pc' := 30) rfl dX5_addErrand_29 ia_34 b0 ?_
  refine pw_aload_n (pc' := 31) 0 rfl dX5_addErrand_30 rfl rfl ?_
  refine ps_getR (pc' := 34) (r := 35) rfl dX5_addErrand_31 fl_X5_24 ob_30 rfl rfl ?_
  refine pw_aload_n (pc' := 35) 0 rfl dX5_addErrand_34 rfl rfl ?_
  refine ps_getI (pc' := 38) (v := (M 30 3)) rfl dX5_addErrand_35 fl_X5_34 ob_30 rfl rfl ?_
  refine pw_iload (pc' := 40) 4 rfl dX5_addErrand_38 rfl ?_
  refine ps_iast (pc' := 41) rfl dX5_addErrand_40 ia_35 b0 ?_
  refine pw_aload_n (pc' := 42) 0 rfl dX5_addErrand_41 rfl rfl ?_
  refine ps_getR (pc' := 45) (r := 36) rfl dX5_addErrand_42 fl_X5_27 ob_30 rfl rfl ?_
  refine pw_aload_n (pc' := 46) 0 rfl dX5_addErrand_45 rfl rfl ?_
  refine ps_getI (pc' := 49) (v := (M 30 3)) rfl dX5_addErrand_46 fl_X5_34 ob_30 rfl rfl ?_
  refine pw_iload (pc' := 51) 5 rfl dX5_addErrand_49 rfl ?_
  refine ps_iast (pc' := 52) rfl dX5_addErrand_51 ia_36 b0 ?_
  refine pw_aload_n (pc' := 53) 0 rfl dX5_addErrand_52 rfl rfl ?_
  refine pw_dup (pc' := 54) rfl dX5_addErrand_53 rfl ?_
  refine ps_getI (pc' := 57) (v := (M 30 3)) rfl dX5_addErrand_54 fl_X5_34 ob_30 rfl rfl ?_
  refine pw_iconst (pc' := 58) rfl dX5_addErrand_57 ci_1 ?_
  refine pw_iadd (pc' := 59) rfl dX5_addErrand_58 ?_
  refine ps_putI (pc' := 62) rfl dX5_addErrand_59 fl_X5_34 ob_30 rfl ?_
  exact ps_vret dX5_addErrand_62 rfl h
theorem T_X5_hasErrand_30 {M : Mem} {a1 : Int32} {Q : Int32 → Mem → Prop}  (h : ((a1 < 0) → (Q (nI 0) M)) ∧ ((¬ a1 < 0) → ((((M 30 3) ≤ a1) → (Q (nI 0) M)) ∧ ((¬ (M 30 3) ≤ a1) → (Q (nI 1) M))))) : C_X5_hasErrand_30 M a1 Q := by
  refine CA_of rfl (Nat.le_of_ble_eq_true rfl) ?_
  show PS _ _ 0 [(0, .ref 30), (1, .int a1)] [] M _
  refine pw_iload_n (pc' := 1) 1 rfl dX5_hasErrand_0 rfl rfl ?_
  refine pw_if_lt (pc' := 4) (tgt := 16) rfl dX5_hasErrand_1 (by decide) (fun q0 => ?_) (fun q0 => ?_)
  · have h := h.1 q0
    refine pw_iconst (pc' := 17) rfl dX5_hasErrand_16 ci_0 ?_
    exact ps_zret dX5_hasErrand_17 rfl (by decide) h
  · have h := h.2 q0
    refine pw_iload_n (pc' := 5) 1 rfl dX5_hasErrand_4 rfl rfl ?_
    refine pw_aload_n (pc' := 6) 0 rfl dX5_hasErrand_5 rfl rfl ?_
    refine ps_getI (pc' := 9) (v := (M 30 3)) rfl dX5_hasErrand_6 fl_X5_34 ob_30 rfl rfl ?_
    refine pw_icmp_ge (pc' := 12) (tgt := 16) rfl dX5_hasErrand_9 (by decide) (fun q1 => ?_) (fun q1 => ?_)
    · have h := h.1 q1
      refine pw_iconst (pc' := 17) rfl dX5_hasErrand_16 ci_0 ?_
      exact ps_zret dX5_hasErrand_17 rfl (by decide) h
    · have h := h.2 q1
      refine pw_iconst (pc' := 13) rfl dX5_hasErrand_12 ci_1 ?_
      refine pw_goto (tgt := 17) dX5_hasErrand_13 (by decide) ?_
      exact ps_zret dX5_hasErrand_17 rfl (by decide) h
theorem T_X5_removeErrand_30 {M : Mem} {a1 : Int32} {Q : Mem → Prop}  (h : P_X5_removeErrand_30_12 (wr M 30 3 ((M 30 3) - (nI 1))) a1 Q) : C_X5_removeErrand_30 M a1 Q := by
  refine CA_of rfl (Nat.le_of_ble_eq_true rfl) ?_
  show PS _ _ 0 [(0, .ref 30), (1, .int a1)] [] M _
  refine pw_aload_n (pc' := 1) 0 rfl dX5_removeErrand_0 rfl rfl ?_
  refine pw_dup (pc' := 2) rfl dX5_removeErrand_1 rfl ?_
  refine ps_getI (pc' := 5) (v := (M 30 3)) rfl dX5_removeErrand_2 fl_X5_34 ob_30 rfl rfl ?_
  refine pw_iconst (pc' := 6) rfl dX5_removeErrand_5 ci_1 ?_
  refine pw_isub (pc' := 7) rfl dX5_removeErrand_6 ?_
  refine ps_putI (pc' := 10) rfl dX5_removeErrand_7 fl_X5_34 ob_30 rfl ?_
  refine pw_iload_n (pc' := 11) 1 rfl dX5_removeErrand_10 rfl rfl ?_
  refine pw_istore_n (pc' := 12) (lv' := [(0, .ref 30), (1, .int a1), (2, .int a1)]) [1, 2, 0] rfl dX5_removeErrand_11 rfl (by decide) rfl ?_
  exact pw_sub [0, 2] rfl h
theorem T_X5_removeErrand_30_12 {M : Mem} {a2 : Int32} {Q : Mem → Prop}  (h : (((M 30 3) ≤ a2) → (Q M)) ∧ ((¬ (M 30 3) ≤ a2) → (vp_in (a2 + (nI 1)) 5 ∧ (vp_in a2 5 ∧ (P_X5_removeErrand_30_12 (wr (wr (wr (wr (wr M 32 (ix a2) (M 32 (ix (a2 + (nI 1))))) 33 (ix a2) (M 33 (ix (a2 + (nI 1))))) 34 (ix a2) (M 34 (ix (a2 + (nI 1))))) 35 (ix a2) (M 35 (ix (a2 + (nI 1))))) 36 (ix a2) (M 36 (ix (a2 + (nI 1))))) (a2 + (nI 1)) Q))))) : P_X5_removeErrand_30_12 M a2 Q := by
  refine pw_iload_n (pc' := 13) 1 rfl dX5_removeErrand_12 rfl rfl ?_
  refine pw_aload_n (pc' := 14) 0 rfl dX5_removeErrand_13 rfl rfl ?_
  refine ps_getI (pc' := 17) (v := (M 30 3)) rfl dX5_removeErrand_14 fl_X5_34 ob_30 rfl rfl ?_
  refine pw_icmp_ge (pc' := 20) (tgt := 96) rfl dX5_removeErrand_17 (by decide) (fun q0 => ?_) (fun q0 => ?_)
  · have h := h.1 q0
    exact ps_vret dX5_removeErrand_96 rfl h
  · have h := h.2 q0
    refine pw_aload_n (pc' := 21) 0 rfl dX5_removeErrand_20 rfl rfl ?_
    refine ps_getR (pc' := 24) (r := 32) rfl dX5_removeErrand_21 fl_X5_15 ob_30 rfl rfl ?_
    refine pw_iload_n (pc' := 25) 1 rfl dX5_removeErrand_24 rfl rfl ?_
    refine pw_aload_n (pc' := 26) 0 rfl dX5_removeErrand_25 rfl rfl ?_
    refine ps_getR (pc' := 29) (r := 32) rfl dX5_removeErrand_26 fl_X5_15 ob_30 rfl rfl ?_
    refine pw_iload_n (pc' := 30) 1 rfl dX5_removeErrand_29 rfl rfl ?_
    refine pw_iconst (pc' := 31) rfl dX5_removeErrand_30 ci_1 ?_
    refine pw_iadd (pc' := 32) rfl dX5_removeErrand_31 ?_
    obtain ⟨b1, h⟩ := h
    refine ps_iald (pc' := 33) (v := (M 32 (ix (a2 + (nI 1))))) rfl dX5_removeErrand_32 ia_32 b1 rfl ?_
    obtain ⟨b2, h⟩ := h
    refine ps_iast (pc' := 34) rfl dX5_removeErrand_33 ia_32 b2 ?_
    refine pw_aload_n (pc' := 35) 0 rfl dX5_removeErrand_34 rfl rfl ?_
    refine ps_getR (pc' := 38) (r := 33) rfl dX5_removeErrand_35 fl_X5_18 ob_30 rfl rfl ?_
    refine pw_iload_n (pc' := 39) 1 rfl dX5_removeErrand_38 rfl rfl ?_
    refine pw_aload_n (pc' := 40) 0 rfl dX5_removeErrand_39 rfl rfl ?_
    refine ps_getR (pc' := 43) (r := 33) rfl dX5_removeErrand_40 fl_X5_18 ob_30 rfl rfl ?_
    refine pw_iload_n (pc' := 44) 1 rfl dX5_removeErrand_43 rfl rfl ?_
    refine pw_iconst (pc' := 45) rfl dX5_removeErrand_44 ci_1 ?_
    refine pw_iadd (pc' := 46) rfl dX5_removeErrand_45 ?_
    refine ps_iald (pc' := 47) (v := (M 33 (ix (a2 + (nI 1))))) rfl dX5_removeErrand_46 ia_33 b1 rfl ?_
    refine ps_iast (pc' := 48) rfl dX5_removeErrand_47 ia_33 b2 ?_
    refine pw_aload_n (pc' := 49) 0 rfl dX5_removeErrand_48 rfl rfl ?_
    refine ps_getR (pc' := 52) (r := 34) rfl dX5_removeErrand_49 fl_X5_21 ob_30 rfl rfl ?_
    refine pw_iload_n (pc' := 53) 1 rfl dX5_removeErrand_52 rfl rfl ?_
    refine pw_aload_n (pc' := 54) 0 rfl dX5_removeErrand_53 rfl rfl ?_
    refine ps_getR (pc' := 57) (r := 34) rfl dX5_removeErrand_54 fl_X5_21 ob_30 rfl rfl ?_
    refine pw_iload_n (pc' := 58) 1 rfl dX5_removeErrand_57 rfl rfl ?_
    refine pw_iconst (pc' := 59) rfl dX5_removeErrand_58 ci_1 ?_
    refine pw_iadd (pc' := 60) rfl dX5_removeErrand_59 ?_
    refine ps_iald (pc' := 61) (v := (M 34 (ix (a2 + (nI 1))))) rfl dX5_removeErrand_60 ia_34 b1 rfl ?_
    refine ps_iast (pc' := 62) rfl dX5_removeErrand_61 ia_34 b2 ?_
    refine pw_aload_n (pc' := 63) 0 rfl dX5_removeErrand_62 rfl rfl ?_
    refine ps_getR (pc' := 66) (r := 35) rfl dX5_removeErrand_63 fl_X5_24 ob_30 rfl rfl ?_
    refine pw_iload_n (pc' := 67) 1 rfl dX5_removeErrand_66 rfl rfl ?_
    refine pw_aload_n (pc' := 68) 0 rfl dX5_removeErrand_67 rfl rfl ?_
    refine ps_getR (pc' := 71) (r := 35) rfl dX5_removeErrand_68 fl_X5_24 ob_30 rfl rfl ?_
    refine pw_iload_n (pc' := 72) 1 rfl dX5_removeErrand_71 rfl rfl ?_
    refine pw_iconst (pc' := 73) rfl dX5_removeErrand_72 ci_1 ?_
    refine pw_iadd (pc' := 74) rfl dX5_removeErrand_73 ?_
    refine ps_iald (pc' := 75) (v := (M 35 (ix (a2 + (nI 1))))) rfl dX5_removeErrand_74 ia_35 b1 rfl ?_
    refine ps_iast (pc' := 76) rfl dX5_removeErrand_75 ia_35 b2 ?_
    refine pw_aload_n (pc' := 77) 0 rfl dX5_removeErrand_76 rfl rfl ?_
    refine ps_getR (pc' := 80) (r := 36) rfl dX5_removeErrand_77 fl_X5_27 ob_30 rfl rfl ?_
    refine pw_iload_n (pc' := 81) 1 rfl dX5_removeErrand_80 rfl rfl ?_
    refine pw_aload_n (pc' := 82) 0 rfl dX5_removeErrand_81 rfl rfl ?_
    refine ps_getR (pc' := 85) (r := 36) rfl dX5_removeErrand_82 fl_X5_27 ob_30 rfl rfl ?_
    refine pw_iload_n (pc' := 86) 1 rfl dX5_removeErrand_85 rfl rfl ?_
    refine pw_iconst (pc' := 87) rfl dX5_removeErrand_86 ci_1 ?_
    refine pw_iadd (pc' := 88) rfl dX5_removeErrand_87 ?_
    refine ps_iald (pc' := 89) (v := (M 36 (ix (a2 + (nI 1))))) rfl dX5_removeErrand_88 ia_36 b1 rfl ?_
    refine ps_iast (pc' := 90) rfl dX5_removeErrand_89 ia_36 b2 ?_
    refine pw_iinc (pc' := 93) (lv' := [(0, .ref 30), (2, .int (a2 + (nI 1)))]) 1 [1, 0] rfl dX5_removeErrand_90 rfl (ii_1 _) (by decide) rfl ?_
    refine pw_goto (tgt := 12) dX5_removeErrand_93 (by decide) ?_
    exact pw_sub [0, 1] rfl h
theorem T_X5_well_30 {M : Mem}  {Q : Int32 → Mem → Prop}  (h : Q ((((nI 1) <<< ((M 30 0) &&& 31)) - (nI 1)) &&& ((M 30 1) ^^^ (-1))) M) : C_X5_well_30 M  Q := by
  refine CA_of rfl (Nat.le_of_ble_eq_true rfl) ?_
  show PS _ _ 0 [(0, .ref 30)] [] M _
  refine pw_iconst (pc' := 1) rfl dX5_well_0 ci_1 ?_
  refine pw_aload_n (pc' := 2) 0 rfl dX5_well_1 rfl rfl ?_
  refine ps_getI (pc' := 5) (v := (M 30 0)) rfl dX5_well_2 fl_X5_30 ob_30 rfl rfl ?_
  refine pw_ishl (pc' := 6) rfl dX5_well_5 ?_
  refine pw_iconst (pc' := 7) rfl dX5_well_6 ci_1 ?_
  refine pw_isub (pc' := 8) rfl dX5_well_7 ?_
  refine pw_aload_n (pc' := 9) 0 rfl dX5_well_8 rfl rfl ?_
  refine ps_getI (pc' := 12) (v := (M 30 1)) rfl dX5_well_9 fl_X5_37 ob_30 rfl rfl ?_
  refine pw_iconst (pc' := 13) rfl dX5_well_12 ci_m1 ?_
  refine pw_ixor (pc' := 14) rfl dX5_well_13 ?_
  refine pw_iand (pc' := 15) rfl dX5_well_14 ?_
  exact ps_iret dX5_well_15 rfl h
theorem T_X5_weight_30 {M : Mem} {a1 : Int32} {a2 : Int32} {Q : Int32 → Mem → Prop}  (h : ((¬ a2 = (nI 24)) → (vp_in a1 5 ∧ (Q ((M 34 (ix a1)) * (jmax (nI 0) (a2 - (M 36 (ix a1))))) M))) ∧ ((a2 = (nI 24)) → (vp_in a1 5 ∧ (Q ((M 34 (ix a1)) * (nI 24)) M)))) : C_X5_weight_30 M a1 a2 Q := by
  refine CA_of rfl (Nat.le_of_ble_eq_true rfl) ?_
  show PS _ _ 0 [(0, .ref 30), (1, .int a1), (2, .int a2)] [] M _
  refine pw_iload_n (pc' := 1) 2 rfl dX5_weight_0 rfl rfl ?_
  refine pw_bipush (pc' := 3) rfl dX5_weight_1 cb_24 ?_
  refine pw_icmp_ne (pc' := 6) (tgt := 11) rfl dX5_weight_3 (by decide) (fun q0 => ?_) (fun q0 => ?_)
  · have h := h.1 q0
    refine pw_iconst (pc' := 12) rfl dX5_weight_11 ci_0 ?_
    refine pw_iload_n (pc' := 13) 2 rfl dX5_weight_12 rfl rfl ?_
    refine pw_aload_n (pc' := 14) 0 rfl dX5_weight_13 rfl rfl ?_
    refine ps_getR (pc' := 17) (r := 36) rfl dX5_weight_14 fl_X5_27 ob_30 rfl rfl ?_
    refine pw_iload_n (pc' := 18) 1 rfl dX5_weight_17 rfl rfl ?_
    obtain ⟨b1, h⟩ := h
    refine ps_iald (pc' := 19) (v := (M 36 (ix a1))) rfl dX5_weight_18 ia_36 b1 rfl ?_
    refine pw_isub (pc' := 20) rfl dX5_weight_19 ?_
    refine pw_max (pc' := 23) rfl dX5_weight_20 ml_X5_40 mx_max1 mx_ini mx_max3 (by decide) (Nat.le_of_ble_eq_true rfl) (Nat.le_refl 0) (Nat.le_refl 0) ?_
    refine pw_istore_n (pc' := 24) (lv' := [(0, .ref 30), (1, .int a1), (2, .int a2), (3, .int (jmax (nI 0) (a2 - (M 36 (ix a1)))))]) [1, 2, 3, 0] rfl dX5_weight_23 rfl (by decide) rfl ?_
    refine pw_aload_n (pc' := 25) 0 rfl dX5_weight_24 rfl rfl ?_
    refine ps_getR (pc' := 28) (r := 34) rfl dX5_weight_25 fl_X5_21 ob_30 rfl rfl ?_
    refine pw_iload_n (pc' := 29) 1 rfl dX5_weight_28 rfl rfl ?_
    refine ps_iald (pc' := 30) (v := (M 34 (ix a1))) rfl dX5_weight_29 ia_34 b1 rfl ?_
    refine pw_iload_n (pc' := 31) 3 rfl dX5_weight_30 rfl rfl ?_
    refine pw_imul (pc' := 32) rfl dX5_weight_31 ?_
    exact ps_iret dX5_weight_32 rfl h
  · have h := h.2 q0
    refine pw_bipush (pc' := 8) rfl dX5_weight_6 cb_24 ?_
    refine pw_goto (tgt := 23) dX5_weight_8 (by decide) ?_
    refine pw_istore_n (pc' := 24) (lv' := [(0, .ref 30), (1, .int a1), (2, .int a2), (3, .int (nI 24))]) [1, 2, 3, 0] rfl dX5_weight_23 rfl (by decide) rfl ?_
    refine pw_aload_n (pc' := 25) 0 rfl dX5_weight_24 rfl rfl ?_
    refine ps_getR (pc' := 28) (r := 34) rfl dX5_weight_25 fl_X5_21 ob_30 rfl rfl ?_
    refine pw_iload_n (pc' := 29) 1 rfl dX5_weight_28 rfl rfl ?_
    obtain ⟨b1, h⟩ := h
    refine ps_iald (pc' := 30) (v := (M 34 (ix a1))) rfl dX5_weight_29 ia_34 b1 rfl ?_
    refine pw_iload_n (pc' := 31) 3 rfl dX5_weight_30 rfl rfl ?_
    refine pw_imul (pc' := 32) rfl dX5_weight_31 ?_
    exact ps_iret dX5_weight_32 rfl h
theorem T_X6_hasOne_37 {M : Mem} {a1 : Int32} {Q : Int32 → Mem → Prop}  (h : ((a1 < 0) → (Q (nI 0) M)) ∧ ((¬ a1 < 0) → ((((M 37 0) ≤ a1) → (Q (nI 0) M)) ∧ ((¬ (M 37 0) ≤ a1) → (Q (nI 1) M))))) : C_X6_hasOne_37 M a1 Q := by
  refine CA_of rfl (Nat.le_of_ble_eq_true rfl) ?_
  show PS _ _ 0 [(0, .ref 37), (1, .int a1)] [] M _
  refine pw_iload_n (pc' := 1) 1 rfl dX6_hasOne_0 rfl rfl ?_
  refine pw_if_lt (pc' := 4) (tgt := 16) rfl dX6_hasOne_1 (by decide) (fun q0 => ?_) (fun q0 => ?_)
  · have h := h.1 q0
    refine pw_iconst (pc' := 17) rfl dX6_hasOne_16 ci_0 ?_
    exact ps_zret dX6_hasOne_17 rfl (by decide) h
  · have h := h.2 q0
    refine pw_iload_n (pc' := 5) 1 rfl dX6_hasOne_4 rfl rfl ?_
    refine pw_aload_n (pc' := 6) 0 rfl dX6_hasOne_5 rfl rfl ?_
    refine ps_getI (pc' := 9) (v := (M 37 0)) rfl dX6_hasOne_6 fl_X6_27 ob_37 rfl rfl ?_
    refine pw_icmp_ge (pc' := 12) (tgt := 16) rfl dX6_hasOne_9 (by decide) (fun q1 => ?_) (fun q1 => ?_)
    · have h := h.1 q1
      refine pw_iconst (pc' := 17) rfl dX6_hasOne_16 ci_0 ?_
      exact ps_zret dX6_hasOne_17 rfl (by decide) h
    · have h := h.2 q1
      refine pw_iconst (pc' := 13) rfl dX6_hasOne_12 ci_1 ?_
      refine pw_goto (tgt := 17) dX6_hasOne_13 (by decide) ?_
      exact ps_zret dX6_hasOne_17 rfl (by decide) h
theorem T_X6_addSaying_37 {M : Mem} {a1 : Int32} {a2 : Int32} {a3 : Int32} {a4 : Int32} {Q : Mem → Prop}  (h : vp_in (M 37 1) 12 ∧ (Q (wr (wr (wr (wr (wr M 39 (ix (M 37 1)) a1) 40 (ix (M 37 1)) a2) 41 (ix (M 37 1)) a3) 42 (ix (M 37 1)) a4) 37 1 ((M 37 1) + (nI 1))))) : C_X6_addSaying_37 M a1 a2 a3 a4 Q := by
  refine CA_of rfl (Nat.le_of_ble_eq_true rfl) ?_
  show PS _ _ 0 [(0, .ref 37), (1, .int a1), (2, .int a2), (3, .int a3), (4, .int a4)] [] M _
  refine pw_aload_n (pc' := 1) 0 rfl dX6_addSaying_0 rfl rfl ?_
  refine ps_getR (pc' := 4) (r := 39) rfl dX6_addSaying_1 fl_X6_15 ob_37 rfl rfl ?_
  refine pw_aload_n (pc' := 5) 0 rfl dX6_addSaying_4 rfl rfl ?_
  refine ps_getI (pc' := 8) (v := (M 37 1)) rfl dX6_addSaying_5 fl_X6_31 ob_37 rfl rfl ?_
  refine pw_iload_n (pc' := 9) 1 rfl dX6_addSaying_8 rfl rfl ?_
  obtain ⟨b0, h⟩ := h
  refine ps_iast (pc' := 10) rfl dX6_addSaying_9 ia_39 b0 ?_
  refine pw_aload_n (pc' := 11) 0 rfl dX6_addSaying_10 rfl rfl ?_
  refine ps_getR (pc' := 14) (r := 40) rfl dX6_addSaying_11 fl_X6_18 ob_37 rfl rfl ?_
  refine pw_aload_n (pc' := 15) 0 rfl dX6_addSaying_14 rfl rfl ?_
  refine ps_getI (pc' := 18) (v := (M 37 1)) rfl dX6_addSaying_15 fl_X6_31 ob_37 rfl rfl ?_
  refine pw_iload_n (pc' := 19) 2 rfl dX6_addSaying_18 rfl rfl ?_
  refine ps_iast (pc' := 20) rfl dX6_addSaying_19 ia_40 b0 ?_
  refine pw_aload_n (pc' := 21) 0 rfl dX6_addSaying_20 rfl rfl ?_
  refine ps_getR (pc' := 24) (r := 41) rfl dX6_addSaying_21 fl_X6_21 ob_37 rfl rfl ?_
  refine pw_aload_n (pc' := 25) 0 rfl dX6_addSaying_24 rfl rfl ?_
  refine ps_getI (pc' := 28) (v := (M 37 1)) rfl dX6_addSaying_25 fl_X6_31 ob_37 rfl rfl ?_
  refine pw_iload_n (pc' := 29) 3 rfl dX6_addSaying_28 rfl rfl ?_
  refine ps_iast (pc' := 30) rfl dX6_addSaying_29 ia_41 b0 ?_
  refine pw_aload_n (pc' := 31) 0 rfl dX6_addSaying_30 rfl rfl ?_
  refine ps_getR (pc' := 34) (r := 42) rfl dX6_addSaying_31 fl_X6_24 ob_37 rfl rfl ?_
  refine pw_aload_n (pc' := 35) 0 rfl dX6_addSaying_34 rfl rfl ?_
  refine ps_getI (pc' := 38) (v := (M 37 1)) rfl dX6_addSaying_35 fl_X6_31 ob_37 rfl rfl ?_
  refine pw_iload (pc' := 40) 4 rfl dX6_addSaying_38 rfl ?_
  refine ps_iast (pc' := 41) rfl dX6_addSaying_40 ia_42 b0 ?_
  refine pw_aload_n (pc' := 42) 0 rfl dX6_addSaying_41 rfl rfl ?_
  refine pw_dup (pc' := 43) rfl dX6_addSaying_42 rfl ?_
  refine ps_getI (pc' := 46) (v := (M 37 1)) rfl dX6_addSaying_43 fl_X6_31 ob_37 rfl rfl ?_
  refine pw_iconst (pc' := 47) rfl dX6_addSaying_46 ci_1 ?_
  refine pw_iadd (pc' := 48) rfl dX6_addSaying_47 ?_
  refine ps_putI (pc' := 51) rfl dX6_addSaying_48 fl_X6_31 ob_37 rfl ?_
  exact ps_vret dX6_addSaying_51 rfl h
theorem T_J6_bitCount_0f7a4 {M : Mem} {a0 : Int32} {Q : Int32 → Mem → Prop}  (h : Q ((((((((a0 - (((a0).toUInt32 >>> (((nI 1)).toUInt32 &&& Int32.toUInt32 31)).toInt32 &&& (1431655765 : Int32))) &&& (858993459 : Int32)) + ((((a0 - (((a0).toUInt32 >>> (((nI 1)).toUInt32 &&& Int32.toUInt32 31)).toInt32 &&& (1431655765 : Int32)))).toUInt32 >>> (((nI 2)).toUInt32 &&& Int32.toUInt32 31)).toInt32 &&& (858993459 : Int32))) + (((((a0 - (((a0).toUInt32 >>> (((nI 1)).toUInt32 &&& Int32.toUInt32 31)).toInt32 &&& (1431655765 : Int32))) &&& (858993459 : Int32)) + ((((a0 - (((a0).toUInt32 >>> (((nI 1)).toUInt32 &&& Int32.toUInt32 31)).toInt32 &&& (1431655765 : Int32)))).toUInt32 >>> (((nI 2)).toUInt32 &&& Int32.toUInt32 31)).toInt32 &&& (858993459 : Int32)))).toUInt32 >>> (((nI 4)).toUInt32 &&& Int32.toUInt32 31)).toInt32) &&& (252645135 : Int32)) + (((((((a0 - (((a0).toUInt32 >>> (((nI 1)).toUInt32 &&& Int32.toUInt32 31)).toInt32 &&& (1431655765 : Int32))) &&& (858993459 : Int32)) + ((((a0 - (((a0).toUInt32 >>> (((nI 1)).toUInt32 &&& Int32.toUInt32 31)).toInt32 &&& (1431655765 : Int32)))).toUInt32 >>> (((nI 2)).toUInt32 &&& Int32.toUInt32 31)).toInt32 &&& (858993459 : Int32))) + (((((a0 - (((a0).toUInt32 >>> (((nI 1)).toUInt32 &&& Int32.toUInt32 31)).toInt32 &&& (1431655765 : Int32))) &&& (858993459 : Int32)) + ((((a0 - (((a0).toUInt32 >>> (((nI 1)).toUInt32 &&& Int32.toUInt32 31)).toInt32 &&& (1431655765 : Int32)))).toUInt32 >>> (((nI 2)).toUInt32 &&& Int32.toUInt32 31)).toInt32 &&& (858993459 : Int32)))).toUInt32 >>> (((nI 4)).toUInt32 &&& Int32.toUInt32 31)).toInt32) &&& (252645135 : Int32))).toUInt32 >>> (((nI 8)).toUInt32 &&& Int32.toUInt32 31)).toInt32) + ((((((((a0 - (((a0).toUInt32 >>> (((nI 1)).toUInt32 &&& Int32.toUInt32 31)).toInt32 &&& (1431655765 : Int32))) &&& (858993459 : Int32)) + ((((a0 - (((a0).toUInt32 >>> (((nI 1)).toUInt32 &&& Int32.toUInt32 31)).toInt32 &&& (1431655765 : Int32)))).toUInt32 >>> (((nI 2)).toUInt32 &&& Int32.toUInt32 31)).toInt32 &&& (858993459 : Int32))) + (((((a0 - (((a0).toUInt32 >>> (((nI 1)).toUInt32 &&& Int32.toUInt32 31)).toInt32 &&& (1431655765 : Int32))) &&& (858993459 : Int32)) + ((((a0 - (((a0).toUInt32 >>> (((nI 1)).toUInt32 &&& Int32.toUInt32 31)).toInt32 &&& (1431655765 : Int32)))).toUInt32 >>> (((nI 2)).toUInt32 &&& Int32.toUInt32 31)).toInt32 &&& (858993459 : Int32)))).toUInt32 >>> (((nI 4)).toUInt32 &&& Int32.toUInt32 31)).toInt32) &&& (252645135 : Int32)) + (((((((a0 - (((a0).toUInt32 >>> (((nI 1)).toUInt32 &&& Int32.toUInt32 31)).toInt32 &&& (1431655765 : Int32))) &&& (858993459 : Int32)) + ((((a0 - (((a0).toUInt32 >>> (((nI 1)).toUInt32 &&& Int32.toUInt32 31)).toInt32 &&& (1431655765 : Int32)))).toUInt32 >>> (((nI 2)).toUInt32 &&& Int32.toUInt32 31)).toInt32 &&& (858993459 : Int32))) + (((((a0 - (((a0).toUInt32 >>> (((nI 1)).toUInt32 &&& Int32.toUInt32 31)).toInt32 &&& (1431655765 : Int32))) &&& (858993459 : Int32)) + ((((a0 - (((a0).toUInt32 >>> (((nI 1)).toUInt32 &&& Int32.toUInt32 31)).toInt32 &&& (1431655765 : Int32)))).toUInt32 >>> (((nI 2)).toUInt32 &&& Int32.toUInt32 31)).toInt32 &&& (858993459 : Int32)))).toUInt32 >>> (((nI 4)).toUInt32 &&& Int32.toUInt32 31)).toInt32) &&& (252645135 : Int32))).toUInt32 >>> (((nI 8)).toUInt32 &&& Int32.toUInt32 31)).toInt32)).toUInt32 >>> (((nI 16)).toUInt32 &&& Int32.toUInt32 31)).toInt32) &&& (nI 63)) M) : C_J6_bitCount_0f7a4 M a0 Q := by
  refine CA_of rfl (Nat.le_of_ble_eq_true rfl) ?_
  show PS _ _ 0 [(0, .int a0)] [] M _
  refine pw_iload_n (pc' := 1) 0 rfl dJ6_bitCount_0f7a4_0 rfl rfl ?_
  refine pw_iload_n (pc' := 2) 0 rfl dJ6_bitCount_0f7a4_1 rfl rfl ?_
  refine pw_iconst (pc' := 3) rfl dJ6_bitCount_0f7a4_2 ci_1 ?_
  refine pw_iushr (pc' := 4) rfl dJ6_bitCount_0f7a4_3 rfl ?_
  refine pw_ldcw (pc' := 7) rfl dJ6_bitCount_0f7a4_4 cn_J6_265 ?_
  refine pw_iand (pc' := 8) rfl dJ6_bitCount_0f7a4_7 ?_
  refine pw_isub (pc' := 9) rfl dJ6_bitCount_0f7a4_8 ?_
  refine pw_istore_n (pc' := 10) (lv' := [(0, .int (a0 - (((a0).toUInt32 >>> (((nI 1)).toUInt32 &&& Int32.toUInt32 31)).toInt32 &&& (1431655765 : Int32))))]) [0] rfl dJ6_bitCount_0f7a4_9 rfl (by decide) rfl ?_
  refine pw_iload_n (pc' := 11) 0 rfl dJ6_bitCount_0f7a4_10 rfl rfl ?_
  refine pw_ldcw (pc' := 14) rfl dJ6_bitCount_0f7a4_11 cn_J6_266 ?_
  refine pw_iand (pc' := 15) rfl dJ6_bitCount_0f7a4_14 ?_
  refine pw_iload_n (pc' := 16) 0 rfl dJ6_bitCount_0f7a4_15 rfl rfl ?_
  refine pw_iconst (pc' := 17) rfl dJ6_bitCount_0f7a4_16 ci_2 ?_
  refine pw_iushr (pc' := 18) rfl dJ6_bitCount_0f7a4_17 rfl ?_
  refine pw_ldcw (pc' := 21) rfl dJ6_bitCount_0f7a4_18 cn_J6_266 ?_
  refine pw_iand (pc' := 22) rfl dJ6_bitCount_0f7a4_21 ?_
  refine pw_iadd (pc' := 23) rfl dJ6_bitCount_0f7a4_22 ?_
  refine pw_istore_n (pc' := 24) (lv' := [(0, .int (((a0 - (((a0).toUInt32 >>> (((nI 1)).toUInt32 &&& Int32.toUInt32 31)).toInt32 &&& (1431655765 : Int32))) &&& (858993459 : Int32)) + ((((a0 - (((a0).toUInt32 >>> (((nI 1)).toUInt32 &&& Int32.toUInt32 31)).toInt32 &&& (1431655765 : Int32)))).toUInt32 >>> (((nI 2)).toUInt32 &&& Int32.toUInt32 31)).toInt32 &&& (858993459 : Int32))))]) [0] rfl dJ6_bitCount_0f7a4_23 rfl (by decide) rfl ?_
  refine pw_iload_n (pc' := 25) 0 rfl dJ6_bitCount_0f7a4_24 rfl rfl ?_
  refine pw_iload_n (pc' := 26) 0 rfl dJ6_bitCount_0f7a4_25 rfl rfl ?_
  refine pw_iconst (pc' := 27) rfl dJ6_bitCount_0f7a4_26 ci_4 ?_
  refine pw_iushr (pc' := 28) rfl dJ6_bitCount_0f7a4_27 rfl ?_
  refine pw_iadd (pc' := 29) rfl dJ6_bitCount_0f7a4_28 ?_
  refine pw_ldcw (pc' := 32) rfl dJ6_bitCount_0f7a4_29 cn_J6_267 ?_
  refine pw_iand (pc' := 33) rfl dJ6_bitCount_0f7a4_32 ?_
  refine pw_istore_n (pc' := 34) (lv' := [(0, .int (((((a0 - (((a0).toUInt32 >>> (((nI 1)).toUInt32 &&& Int32.toUInt32 31)).toInt32 &&& (1431655765 : Int32))) &&& (858993459 : Int32)) + ((((a0 - (((a0).toUInt32 >>> (((nI 1)).toUInt32 &&& Int32.toUInt32 31)).toInt32 &&& (1431655765 : Int32)))).toUInt32 >>> (((nI 2)).toUInt32 &&& Int32.toUInt32 31)).toInt32 &&& (858993459 : Int32))) + (((((a0 - (((a0).toUInt32 >>> (((nI 1)).toUInt32 &&& Int32.toUInt32 31)).toInt32 &&& (1431655765 : Int32))) &&& (858993459 : Int32)) + ((((a0 - (((a0).toUInt32 >>> (((nI 1)).toUInt32 &&& Int32.toUInt32 31)).toInt32 &&& (1431655765 : Int32)))).toUInt32 >>> (((nI 2)).toUInt32 &&& Int32.toUInt32 31)).toInt32 &&& (858993459 : Int32)))).toUInt32 >>> (((nI 4)).toUInt32 &&& Int32.toUInt32 31)).toInt32) &&& (252645135 : Int32)))]) [0] rfl dJ6_bitCount_0f7a4_33 rfl (by decide) rfl ?_
  refine pw_iload_n (pc' := 35) 0 rfl dJ6_bitCount_0f7a4_34 rfl rfl ?_
  refine pw_iload_n (pc' := 36) 0 rfl dJ6_bitCount_0f7a4_35 rfl rfl ?_
  refine pw_bipush (pc' := 38) rfl dJ6_bitCount_0f7a4_36 cb_8 ?_
  refine pw_iushr (pc' := 39) rfl dJ6_bitCount_0f7a4_38 rfl ?_
  refine pw_iadd (pc' := 40) rfl dJ6_bitCount_0f7a4_39 ?_
  refine pw_istore_n (pc' := 41) (lv' := [(0, .int ((((((a0 - (((a0).toUInt32 >>> (((nI 1)).toUInt32 &&& Int32.toUInt32 31)).toInt32 &&& (1431655765 : Int32))) &&& (858993459 : Int32)) + ((((a0 - (((a0).toUInt32 >>> (((nI 1)).toUInt32 &&& Int32.toUInt32 31)).toInt32 &&& (1431655765 : Int32)))).toUInt32 >>> (((nI 2)).toUInt32 &&& Int32.toUInt32 31)).toInt32 &&& (858993459 : Int32))) + (((((a0 - (((a0).toUInt32 >>> (((nI 1)).toUInt32 &&& Int32.toUInt32 31)).toInt32 &&& (1431655765 : Int32))) &&& (858993459 : Int32)) + ((((a0 - (((a0).toUInt32 >>> (((nI 1)).toUInt32 &&& Int32.toUInt32 31)).toInt32 &&& (1431655765 : Int32)))).toUInt32 >>> (((nI 2)).toUInt32 &&& Int32.toUInt32 31)).toInt32 &&& (858993459 : Int32)))).toUInt32 >>> (((nI 4)).toUInt32 &&& Int32.toUInt32 31)).toInt32) &&& (252645135 : Int32)) + (((((((a0 - (((a0).toUInt32 >>> (((nI 1)).toUInt32 &&& Int32.toUInt32 31)).toInt32 &&& (1431655765 : Int32))) &&& (858993459 : Int32)) + ((((a0 - (((a0).toUInt32 >>> (((nI 1)).toUInt32 &&& Int32.toUInt32 31)).toInt32 &&& (1431655765 : Int32)))).toUInt32 >>> (((nI 2)).toUInt32 &&& Int32.toUInt32 31)).toInt32 &&& (858993459 : Int32))) + (((((a0 - (((a0).toUInt32 >>> (((nI 1)).toUInt32 &&& Int32.toUInt32 31)).toInt32 &&& (1431655765 : Int32))) &&& (858993459 : Int32)) + ((((a0 - (((a0).toUInt32 >>> (((nI 1)).toUInt32 &&& Int32.toUInt32 31)).toInt32 &&& (1431655765 : Int32)))).toUInt32 >>> (((nI 2)).toUInt32 &&& Int32.toUInt32 31)).toInt32 &&& (858993459 : Int32)))).toUInt32 >>> (((nI 4)).toUInt32 &&& Int32.toUInt32 31)).toInt32) &&& (252645135 : Int32))).toUInt32 >>> (((nI 8)).toUInt32 &&& Int32.toUInt32 31)).toInt32))]) [0] rfl dJ6_bitCount_0f7a4_40 rfl (by decide) rfl ?_
  refine pw_iload_n (pc' := 42) 0 rfl dJ6_bitCount_0f7a4_41 rfl rfl ?_
  refine pw_iload_n (pc' := 43) 0 rfl dJ6_bitCount_0f7a4_42 rfl rfl ?_
  refine pw_bipush (pc' := 45) rfl dJ6_bitCount_0f7a4_43 cb_16 ?_
  refine pw_iushr (pc' := 46) rfl dJ6_bitCount_0f7a4_45 rfl ?_
  refine pw_iadd (pc' := 47) rfl dJ6_bitCount_0f7a4_46 ?_
  refine pw_istore_n (pc' := 48) (lv' := [(0, .int (((((((a0 - (((a0).toUInt32 >>> (((nI 1)).toUInt32 &&& Int32.toUInt32 31)).toInt32 &&& (1431655765 : Int32))) &&& (858993459 : Int32)) + ((((a0 - (((a0).toUInt32 >>> (((nI 1)).toUInt32 &&& Int32.toUInt32 31)).toInt32 &&& (1431655765 : Int32)))).toUInt32 >>> (((nI 2)).toUInt32 &&& Int32.toUInt32 31)).toInt32 &&& (858993459 : Int32))) + (((((a0 - (((a0).toUInt32 >>> (((nI 1)).toUInt32 &&& Int32.toUInt32 31)).toInt32 &&& (1431655765 : Int32))) &&& (858993459 : Int32)) + ((((a0 - (((a0).toUInt32 >>> (((nI 1)).toUInt32 &&& Int32.toUInt32 31)).toInt32 &&& (1431655765 : Int32)))).toUInt32 >>> (((nI 2)).toUInt32 &&& Int32.toUInt32 31)).toInt32 &&& (858993459 : Int32)))).toUInt32 >>> (((nI 4)).toUInt32 &&& Int32.toUInt32 31)).toInt32) &&& (252645135 : Int32)) + (((((((a0 - (((a0).toUInt32 >>> (((nI 1)).toUInt32 &&& Int32.toUInt32 31)).toInt32 &&& (1431655765 : Int32))) &&& (858993459 : Int32)) + ((((a0 - (((a0).toUInt32 >>> (((nI 1)).toUInt32 &&& Int32.toUInt32 31)).toInt32 &&& (1431655765 : Int32)))).toUInt32 >>> (((nI 2)).toUInt32 &&& Int32.toUInt32 31)).toInt32 &&& (858993459 : Int32))) + (((((a0 - (((a0).toUInt32 >>> (((nI 1)).toUInt32 &&& Int32.toUInt32 31)).toInt32 &&& (1431655765 : Int32))) &&& (858993459 : Int32)) + ((((a0 - (((a0).toUInt32 >>> (((nI 1)).toUInt32 &&& Int32.toUInt32 31)).toInt32 &&& (1431655765 : Int32)))).toUInt32 >>> (((nI 2)).toUInt32 &&& Int32.toUInt32 31)).toInt32 &&& (858993459 : Int32)))).toUInt32 >>> (((nI 4)).toUInt32 &&& Int32.toUInt32 31)).toInt32) &&& (252645135 : Int32))).toUInt32 >>> (((nI 8)).toUInt32 &&& Int32.toUInt32 31)).toInt32) + ((((((((a0 - (((a0).toUInt32 >>> (((nI 1)).toUInt32 &&& Int32.toUInt32 31)).toInt32 &&& (1431655765 : Int32))) &&& (858993459 : Int32)) + ((((a0 - (((a0).toUInt32 >>> (((nI 1)).toUInt32 &&& Int32.toUInt32 31)).toInt32 &&& (1431655765 : Int32)))).toUInt32 >>> (((nI 2)).toUInt32 &&& Int32.toUInt32 31)).toInt32 &&& (858993459 : Int32))) + (((((a0 - (((a0).toUInt32 >>> (((nI 1)).toUInt32 &&& Int32.toUInt32 31)).toInt32 &&& (1431655765 : Int32))) &&& (858993459 : Int32)) + ((((a0 - (((a0).toUInt32 >>> (((nI 1)).toUInt32 &&& Int32.toUInt32 31)).toInt32 &&& (1431655765 : Int32)))).toUInt32 >>> (((nI 2)).toUInt32 &&& Int32.toUInt32 31)).toInt32 &&& (858993459 : Int32)))).toUInt32 >>> (((nI 4)).toUInt32 &&& Int32.toUInt32 31)).toInt32) &&& (252645135 : Int32)) + (((((((a0 - (((a0).toUInt32 >>> (((nI 1)).toUInt32 &&& Int32.toUInt32 31)).toInt32 &&& (1431655765 : Int32))) &&& (858993459 : Int32)) + ((((a0 - (((a0).toUInt32 >>> (((nI 1)).toUInt32 &&& Int32.toUInt32 31)).toInt32 &&& (1431655765 : Int32)))).toUInt32 >>> (((nI 2)).toUInt32 &&& Int32.toUInt32 31)).toInt32 &&& (858993459 : Int32))) + (((((a0 - (((a0).toUInt32 >>> (((nI 1)).toUInt32 &&& Int32.toUInt32 31)).toInt32 &&& (1431655765 : Int32))) &&& (858993459 : Int32)) + ((((a0 - (((a0).toUInt32 >>> (((nI 1)).toUInt32 &&& Int32.toUInt32 31)).toInt32 &&& (1431655765 : Int32)))).toUInt32 >>> (((nI 2)).toUInt32 &&& Int32.toUInt32 31)).toInt32 &&& (858993459 : Int32)))).toUInt32 >>> (((nI 4)).toUInt32 &&& Int32.toUInt32 31)).toInt32) &&& (252645135 : Int32))).toUInt32 >>> (((nI 8)).toUInt32 &&& Int32.toUInt32 31)).toInt32)).toUInt32 >>> (((nI 16)).toUInt32 &&& Int32.toUInt32 31)).toInt32))]) [0] rfl dJ6_bitCount_0f7a4_47 rfl (by decide) rfl ?_
  refine pw_iload_n (pc' := 49) 0 rfl dJ6_bitCount_0f7a4_48 rfl rfl ?_
  refine pw_bipush (pc' := 51) rfl dJ6_bitCount_0f7a4_49 cb_63 ?_
  refine pw_iand (pc' := 52) rfl dJ6_bitCount_0f7a4_51 ?_
  exact ps_iret dJ6_bitCount_0f7a4_52 rfl h
theorem T_X0_become_43_1 {M : Mem}  {Q : Mem → Prop}  (h : (¬ (nI 0) < 0 ∧ ¬ (nI 0) < 0 ∧ ¬ (nI 10) < 0 ∧ ix (nI 0) + ix (nI 10) ≤ 10 ∧ ix (nI 0) + ix (nI 10) ≤ 10) ∧ ((¬ (nI 0) < 0 ∧ ¬ (nI 0) < 0 ∧ ¬ (nI 10) < 0 ∧ ix (nI 0) + ix (nI 10) ≤ 10 ∧ ix (nI 0) + ix (nI 10) ≤ 10) ∧ (P_X0_become_43_1_56 (cpy (cpy (wr (wr (wr M 43 0 (M 1 0)) 43 1 (M 1 1)) 43 2 (M 1 2)) 2 44 (ix (nI 0)) (ix (nI 0)) (ix (nI 10))) 3 45 (ix (nI 0)) (ix (nI 0)) (ix (nI 10))) (nI 0) Q))) : C_X0_become_43_1 M  Q := by
  refine CA_of rfl (Nat.le_of_ble_eq_true rfl) ?_
  show PS _ _ 0 [(0, .ref 43), (1, .ref 1)] [] M _
  refine pw_aload_n (pc' := 1) 0 rfl dX0_become_0 rfl rfl ?_
  refine pw_aload_n (pc' := 2) 1 rfl dX0_become_1 rfl rfl ?_
  refine ps_getI (pc' := 5) (v := (M 1 0)) rfl dX0_become_2 fl_X0_29 ob_1 rfl rfl ?_
  refine ps_putI (pc' := 8) rfl dX0_become_5 fl_X0_29 ob_43 rfl ?_
  refine pw_aload_n (pc' := 9) 0 rfl dX0_become_8 rfl rfl ?_
  refine pw_aload_n (pc' := 10) 1 rfl dX0_become_9 rfl rfl ?_
  refine ps_getI (pc' := 13) (v := (M 1 1)) rfl dX0_become_10 fl_X0_37 ob_1 rfl rfl ?_
  refine ps_putI (pc' := 16) rfl dX0_become_13 fl_X0_37 ob_43 rfl ?_
  refine pw_aload_n (pc' := 17) 0 rfl dX0_become_16 rfl rfl ?_
  refine pw_aload_n (pc' := 18) 1 rfl dX0_become_17 rfl rfl ?_
  refine ps_getI (pc' := 21) (v := (M 1 2)) rfl dX0_become_18 fl_X0_40 ob_1 rfl rfl ?_
  refine ps_putI (pc' := 24) rfl dX0_become_21 fl_X0_40 ob_43 rfl ?_
  refine pw_aload_n (pc' := 25) 1 rfl dX0_become_24 rfl rfl ?_
  refine ps_getR (pc' := 28) (r := 2) rfl dX0_become_25 fl_X0_9 ob_1 rfl rfl ?_
  refine pw_iconst (pc' := 29) rfl dX0_become_28 ci_0 ?_
  refine pw_aload_n (pc' := 30) 0 rfl dX0_become_29 rfl rfl ?_
  refine ps_getR (pc' := 33) (r := 44) rfl dX0_become_30 fl_X0_9 ob_43 rfl rfl ?_
  refine pw_iconst (pc' := 34) rfl dX0_become_33 ci_0 ?_
  refine pw_bipush (pc' := 36) rfl dX0_become_34 cb_10 ?_
  obtain ⟨g0, h⟩ := h
  refine ps_copy (pc' := 39) rfl dX0_become_36 ml_X0_57 ia_2 ia_44 g0 (by decide) (Nat.le_of_ble_eq_true rfl) ?_
  refine pw_aload_n (pc' := 40) 1 rfl dX0_become_39 rfl rfl ?_
  refine ps_getR (pc' := 43) (r := 3) rfl dX0_become_40 fl_X0_15 ob_1 rfl rfl ?_
  refine pw_iconst (pc' := 44) rfl dX0_become_43 ci_0 ?_
  refine pw_aload_n (pc' := 45) 0 rfl dX0_become_44 rfl rfl ?_
  refine ps_getR (pc' := 48) (r := 45) rfl dX0_become_45 fl_X0_15 ob_43 rfl rfl ?_
  refine pw_iconst (pc' := 49) rfl dX0_become_48 ci_0 ?_
  refine pw_bipush (pc' := 51) rfl dX0_become_49 cb_10 ?_
  obtain ⟨g1, h⟩ := h
  refine ps_copy (pc' := 54) rfl dX0_become_51 ml_X0_57 ia_3 ia_45 g1 (by decide) (Nat.le_of_ble_eq_true rfl) ?_
  refine pw_iconst (pc' := 55) rfl dX0_become_54 ci_0 ?_
  refine pw_istore_n (pc' := 56) (lv' := [(0, .ref 43), (1, .ref 1), (2, .int (nI 0))]) [1, 2, 0] rfl dX0_become_55 rfl (by decide) rfl ?_
  exact pw_sub [0, 1, 2] rfl h
theorem T_X0_become_43_1_56 {M : Mem} {a2 : Int32} {Q : Mem → Prop}  (h : (((nI 3) ≤ a2) → (Q M)) ∧ ((¬ (nI 3) ≤ a2) → (vp_in a2 3 ∧ ((¬ (nI 0) < 0 ∧ ¬ (nI 0) < 0 ∧ ¬ (nI 24) < 0 ∧ ix (nI 0) + ix (nI 24) ≤ 24 ∧ ix (nI 0) + ix (nI 24) ≤ 24) ∧ (P_X0_become_43_1_56 (cpy M (4 + 1 + ix a2) (46 + 1 + ix a2) (ix (nI 0)) (ix (nI 0)) (ix (nI 24))) (a2 + (nI 1)) Q))))) : P_X0_become_43_1_56 M a2 Q := by
  refine pw_iload_n (pc' := 57) 2 rfl dX0_become_56 rfl rfl ?_
  refine pw_iconst (pc' := 58) rfl dX0_become_57 ci_3 ?_
  refine pw_icmp_ge (pc' := 61) (tgt := 86) rfl dX0_become_58 (by decide) (fun q0 => ?_) (fun q0 => ?_)
  · have h := h.1 q0
    exact ps_vret dX0_become_86 rfl h
  · have h := h.2 q0
    refine pw_aload_n (pc' := 62) 1 rfl dX0_become_61 rfl rfl ?_
    refine ps_getR (pc' := 65) (r := 4) rfl dX0_become_62 fl_X0_20 ob_1 rfl rfl ?_
    refine pw_iload_n (pc' := 66) 2 rfl dX0_become_65 rfl rfl ?_
    obtain ⟨b1, h⟩ := h
    refine ps_aald (pc' := 67) rfl dX0_become_66 ra_4 b1 ?_
    refine pw_iconst (pc' := 68) rfl dX0_become_67 ci_0 ?_
    refine pw_aload_n (pc' := 69) 0 rfl dX0_become_68 rfl rfl ?_
    refine ps_getR (pc' := 72) (r := 46) rfl dX0_become_69 fl_X0_20 ob_43 rfl rfl ?_
    refine pw_iload_n (pc' := 73) 2 rfl dX0_become_72 rfl rfl ?_
    refine ps_aald (pc' := 74) rfl dX0_become_73 ra_46 b1 ?_
    refine pw_iconst (pc' := 75) rfl dX0_become_74 ci_0 ?_
    refine pw_bipush (pc' := 77) rfl dX0_become_75 cb_24 ?_
    obtain ⟨g3, h⟩ := h
    refine ps_copy (pc' := 80) rfl dX0_become_77 ml_X0_57 (RA.row ra_4 b1) (RA.row ra_46 b1) g3 (by decide) (Nat.le_of_ble_eq_true rfl) ?_
    refine pw_iinc (pc' := 83) (lv' := [(0, .ref 43), (1, .ref 1), (2, .int (a2 + (nI 1)))]) 2 [1, 2, 0] rfl dX0_become_80 rfl (ii_1 _) (by decide) rfl ?_
    refine pw_goto (tgt := 56) dX0_become_83 (by decide) ?_
    exact pw_sub [0, 1, 2] rfl h
theorem T_X5_become_72_30 {M : Mem}  {Q : Mem → Prop}  (h : (¬ (nI 0) < 0 ∧ ¬ (nI 0) < 0 ∧ ¬ (nI 3) < 0 ∧ ix (nI 0) + ix (nI 3) ≤ 3 ∧ ix (nI 0) + ix (nI 3) ≤ 3) ∧ ((¬ (nI 0) < 0 ∧ ¬ (nI 0) < 0 ∧ ¬ (nI 5) < 0 ∧ ix (nI 0) + ix (nI 5) ≤ 5 ∧ ix (nI 0) + ix (nI 5) ≤ 5) ∧ ((¬ (nI 0) < 0 ∧ ¬ (nI 0) < 0 ∧ ¬ (nI 5) < 0 ∧ ix (nI 0) + ix (nI 5) ≤ 5 ∧ ix (nI 0) + ix (nI 5) ≤ 5) ∧ ((¬ (nI 0) < 0 ∧ ¬ (nI 0) < 0 ∧ ¬ (nI 5) < 0 ∧ ix (nI 0) + ix (nI 5) ≤ 5 ∧ ix (nI 0) + ix (nI 5) ≤ 5) ∧ ((¬ (nI 0) < 0 ∧ ¬ (nI 0) < 0 ∧ ¬ (nI 5) < 0 ∧ ix (nI 0) + ix (nI 5) ≤ 5 ∧ ix (nI 0) + ix (nI 5) ≤ 5) ∧ ((¬ (nI 0) < 0 ∧ ¬ (nI 0) < 0 ∧ ¬ (nI 5) < 0 ∧ ix (nI 0) + ix (nI 5) ≤ 5 ∧ ix (nI 0) + ix (nI 5) ≤ 5) ∧ (Q (cpy (cpy (cpy (cpy (cpy (cpy (wr (wr (wr (wr M 72 0 (M 30 0)) 72 1 (M 30 1)) 72 2 (M 30 2)) 72 3 (M 30 3)) 31 73 (ix (nI 0)) (ix (nI 0)) (ix (nI 3))) 32 74 (ix (nI 0)) (ix (nI 0)) (ix (nI 5))) 33 75 (ix (nI 0)) (ix (nI 0)) (ix (nI 5))) 34 76 (ix (nI 0)) (ix (nI 0)) (ix (nI 5))) 35 77 (ix (nI 0)) (ix (nI 0)) (ix (nI 5))) 36 78 (ix (nI 0)) (ix (nI 0)) (ix (nI 5)))))))))) : C_X5_become_72_30 M  Q := by
  refine CA_of rfl (Nat.le_of_ble_eq_true rfl) ?_
  show PS _ _ 0 [(0, .ref 72), (1, .ref 30)] [] M _
  refine pw_aload_n (pc' := 1) 0 rfl dX5_become_0 rfl rfl ?_
  refine pw_aload_n (pc' := 2) 1 rfl dX5_become_1 rfl rfl ?_
  refine ps_getI (pc' := 5) (v := (M 30 0)) rfl dX5_become_2 fl_X5_30 ob_30 rfl rfl ?_
  refine ps_putI (pc' := 8) rfl dX5_become_5 fl_X5_30 ob_72 rfl ?_
  refine pw_aload_n (pc' := 9) 0 rfl dX5_become_8 rfl rfl ?_
  refine pw_aload_n (pc' := 10) 1 rfl dX5_become_9 rfl rfl ?_
  refine ps_getI (pc' := 13) (v := (M 30 1)) rfl dX5_become_10 fl_X5_37 ob_30 rfl rfl ?_
  refine ps_putI (pc' := 16) rfl dX5_become_13 fl_X5_37 ob_72 rfl ?_
  refine pw_aload_n (pc' := 17) 0 rfl dX5_become_16 rfl rfl ?_
  refine pw_aload_n (pc' := 18) 1 rfl dX5_become_17 rfl rfl ?_
  refine ps_getI (pc' := 21) (v := (M 30 2)) rfl dX5_become_18 fl_X5_46 ob_30 rfl rfl ?_
  refine ps_putI (pc' := 24) rfl dX5_become_21 fl_X5_46 ob_72 rfl ?_
  refine pw_aload_n (pc' := 25) 0 rfl dX5_become_24 rfl rfl ?_
  refine pw_aload_n (pc' := 26) 1 rfl dX5_become_25 rfl rfl ?_
  refine ps_getI (pc' := 29) (v := (M 30 3)) rfl dX5_become_26 fl_X5_34 ob_30 rfl rfl ?_
  refine ps_putI (pc' := 32) rfl dX5_become_29 fl_X5_34 ob_72 rfl ?_
  refine pw_aload_n (pc' := 33) 1 rfl dX5_become_32 rfl rfl ?_
  refine ps_getR (pc' := 36) (r := 31) rfl dX5_become_33 fl_X5_9 ob_30 rfl rfl ?_
  refine pw_iconst (pc' := 37) rfl dX5_become_36 ci_0 ?_
  refine pw_aload_n (pc' := 38) 0 rfl dX5_become_37 rfl rfl ?_
  refine ps_getR (pc' := 41) (r := 73) rfl dX5_become_38 fl_X5_9 ob_72 rfl rfl ?_
  refine pw_iconst (pc' := 42) rfl dX5_become_41 ci_0 ?_
  refine pw_iconst (pc' := 43) rfl dX5_become_42 ci_3 ?_
  obtain ⟨g0, h⟩ := h
  refine ps_copy (pc' := 46) rfl dX5_become_43 ml_X5_49 ia_31 ia_73 g0 (by decide) (Nat.le_of_ble_eq_true rfl) ?_
  refine pw_aload_n (pc' := 47) 1 rfl dX5_become_46 rfl rfl ?_
  refine ps_getR (pc' := 50) (r := 32) rfl dX5_become_47 fl_X5_15 ob_30 rfl rfl ?_
  refine pw_iconst (pc' := 51) rfl dX5_become_50 ci_0 ?_
  refine pw_aload_n (pc' := 52) 0 rfl dX5_become_51 rfl rfl ?_
  refine ps_getR (pc' := 55) (r := 74) rfl dX5_become_52 fl_X5_15 ob_72 rfl rfl ?_
  refine pw_iconst (pc' := 56) rfl dX5_become_55 ci_0 ?_
  refine pw_iconst (pc' := 57) rfl dX5_become_56 ci_5 ?_
  obtain ⟨g1, h⟩ := h
  refine ps_copy (pc' := 60) rfl dX5_become_57 ml_X5_49 ia_32 ia_74 g1 (by decide) (Nat.le_of_ble_eq_true rfl) ?_
  refine pw_aload_n (pc' := 61) 1 rfl dX5_become_60 rfl rfl ?_
  refine ps_getR (pc' := 64) (r := 33) rfl dX5_become_61 fl_X5_18 ob_30 rfl rfl ?_
  refine pw_iconst (pc' := 65) rfl dX5_become_64 ci_0 ?_
  refine pw_aload_n (pc' := 66) 0 rfl dX5_become_65 rfl rfl ?_
  refine ps_getR (pc' := 69) (r := 75) rfl dX5_become_66 fl_X5_18 ob_72 rfl rfl ?_
  refine pw_iconst (pc' := 70) rfl dX5_become_69 ci_0 ?_
  refine pw_iconst (pc' := 71) rfl dX5_become_70 ci_5 ?_
  obtain ⟨g2, h⟩ := h
  refine ps_copy (pc' := 74) rfl dX5_become_71 ml_X5_49 ia_33 ia_75 g2 (by decide) (Nat.le_of_ble_eq_true rfl) ?_
  refine pw_aload_n (pc' := 75) 1 rfl dX5_become_74 rfl rfl ?_
  refine ps_getR (pc' := 78) (r := 34) rfl dX5_become_75 fl_X5_21 ob_30 rfl rfl ?_
  refine pw_iconst (pc' := 79) rfl dX5_become_78 ci_0 ?_
  refine pw_aload_n (pc' := 80) 0 rfl dX5_become_79 rfl rfl ?_
  refine ps_getR (pc' := 83) (r := 76) rfl dX5_become_80 fl_X5_21 ob_72 rfl rfl ?_
  refine pw_iconst (pc' := 84) rfl dX5_become_83 ci_0 ?_
  refine pw_iconst (pc' := 85) rfl dX5_become_84 ci_5 ?_
  obtain ⟨g3, h⟩ := h
  refine ps_copy (pc' := 88) rfl dX5_become_85 ml_X5_49 ia_34 ia_76 g3 (by decide) (Nat.le_of_ble_eq_true rfl) ?_
  refine pw_aload_n (pc' := 89) 1 rfl dX5_become_88 rfl rfl ?_
  refine ps_getR (pc' := 92) (r := 35) rfl dX5_become_89 fl_X5_24 ob_30 rfl rfl ?_
  refine pw_iconst (pc' := 93) rfl dX5_become_92 ci_0 ?_
  refine pw_aload_n (pc' := 94) 0 rfl dX5_become_93 rfl rfl ?_
  refine ps_getR (pc' := 97) (r := 77) rfl dX5_become_94 fl_X5_24 ob_72 rfl rfl ?_
  refine pw_iconst (pc' := 98) rfl dX5_become_97 ci_0 ?_
  refine pw_iconst (pc' := 99) rfl dX5_become_98 ci_5 ?_
  obtain ⟨g4, h⟩ := h
  refine ps_copy (pc' := 102) rfl dX5_become_99 ml_X5_49 ia_35 ia_77 g4 (by decide) (Nat.le_of_ble_eq_true rfl) ?_
  refine pw_aload_n (pc' := 103) 1 rfl dX5_become_102 rfl rfl ?_
  refine ps_getR (pc' := 106) (r := 36) rfl dX5_become_103 fl_X5_27 ob_30 rfl rfl ?_
  refine pw_iconst (pc' := 107) rfl dX5_become_106 ci_0 ?_
  refine pw_aload_n (pc' := 108) 0 rfl dX5_become_107 rfl rfl ?_
  refine ps_getR (pc' := 111) (r := 78) rfl dX5_become_108 fl_X5_27 ob_72 rfl rfl ?_
  refine pw_iconst (pc' := 112) rfl dX5_become_111 ci_0 ?_
  refine pw_iconst (pc' := 113) rfl dX5_become_112 ci_5 ?_
  obtain ⟨g5, h⟩ := h
  refine ps_copy (pc' := 116) rfl dX5_become_113 ml_X5_49 ia_36 ia_78 g5 (by decide) (Nat.le_of_ble_eq_true rfl) ?_
  exact ps_vret dX5_become_116 rfl h
theorem T_X6_become_79_37 {M : Mem}  {Q : Mem → Prop}  (h : ((M 37 2) = 0 ∨ (M 37 2) = 1) ∧ ((¬ (nI 0) < 0 ∧ ¬ (nI 0) < 0 ∧ ¬ (nI 5) < 0 ∧ ix (nI 0) + ix (nI 5) ≤ 5 ∧ ix (nI 0) + ix (nI 5) ≤ 5) ∧ ((¬ (nI 0) < 0 ∧ ¬ (nI 0) < 0 ∧ ¬ (nI 12) < 0 ∧ ix (nI 0) + ix (nI 12) ≤ 12 ∧ ix (nI 0) + ix (nI 12) ≤ 12) ∧ ((¬ (nI 0) < 0 ∧ ¬ (nI 0) < 0 ∧ ¬ (nI 12) < 0 ∧ ix (nI 0) + ix (nI 12) ≤ 12 ∧ ix (nI 0) + ix (nI 12) ≤ 12) ∧ ((¬ (nI 0) < 0 ∧ ¬ (nI 0) < 0 ∧ ¬ (nI 12) < 0 ∧ ix (nI 0) + ix (nI 12) ≤ 12 ∧ ix (nI 0) + ix (nI 12) ≤ 12) ∧ ((¬ (nI 0) < 0 ∧ ¬ (nI 0) < 0 ∧ ¬ (nI 12) < 0 ∧ ix (nI 0) + ix (nI 12) ≤ 12 ∧ ix (nI 0) + ix (nI 12) ≤ 12) ∧ (Q (cpy (cpy (cpy (cpy (cpy (wr (wr (wr (wr (wr (wr M 79 0 (M 37 0)) 79 1 (M 37 1)) 79 2 (M 37 2)) 79 3 (M 37 3)) 79 4 (M 37 4)) 79 5 (M 37 5)) 38 80 (ix (nI 0)) (ix (nI 0)) (ix (nI 5))) 39 81 (ix (nI 0)) (ix (nI 0)) (ix (nI 12))) 40 82 (ix (nI 0)) (ix (nI 0)) (ix (nI 12))) 41 83 (ix (nI 0)) (ix (nI 0)) (ix (nI 12))) 42 84 (ix (nI 0)) (ix (nI 0)) (ix (nI 12)))))))))) : C_X6_become_79_37 M  Q := by
  refine CA_of rfl (Nat.le_of_ble_eq_true rfl) ?_
  show PS _ _ 0 [(0, .ref 79), (1, .ref 37)] [] M _
  refine pw_aload_n (pc' := 1) 0 rfl dX6_become_0 rfl rfl ?_
  refine pw_aload_n (pc' := 2) 1 rfl dX6_become_1 rfl rfl ?_
  refine ps_getI (pc' := 5) (v := (M 37 0)) rfl dX6_become_2 fl_X6_27 ob_37 rfl rfl ?_
  refine ps_putI (pc' := 8) rfl dX6_become_5 fl_X6_27 ob_79 rfl ?_
  refine pw_aload_n (pc' := 9) 0 rfl dX6_become_8 rfl rfl ?_
  refine pw_aload_n (pc' := 10) 1 rfl dX6_become_9 rfl rfl ?_
  refine ps_getI (pc' := 13) (v := (M 37 1)) rfl dX6_become_10 fl_X6_31 ob_37 rfl rfl ?_
  refine ps_putI (pc' := 16) rfl dX6_become_13 fl_X6_31 ob_79 rfl ?_
  refine pw_aload_n (pc' := 17) 0 rfl dX6_become_16 rfl rfl ?_
  refine pw_aload_n (pc' := 18) 1 rfl dX6_become_17 rfl rfl ?_
  refine ps_getI (pc' := 21) (v := (M 37 2)) rfl dX6_become_18 fl_X6_34 ob_37 rfl rfl ?_
  obtain ⟨z0, h⟩ := h
  refine ps_putZ (pc' := 24) rfl dX6_become_21 fl_X6_34 ob_79 rfl z0 ?_
  refine pw_aload_n (pc' := 25) 0 rfl dX6_become_24 rfl rfl ?_
  refine pw_aload_n (pc' := 26) 1 rfl dX6_become_25 rfl rfl ?_
  refine ps_getI (pc' := 29) (v := (M 37 3)) rfl dX6_become_26 fl_X6_38 ob_37 rfl rfl ?_
  refine ps_putI (pc' := 32) rfl dX6_become_29 fl_X6_38 ob_79 rfl ?_
  refine pw_aload_n (pc' := 33) 0 rfl dX6_become_32 rfl rfl ?_
  refine pw_aload_n (pc' := 34) 1 rfl dX6_become_33 rfl rfl ?_
  refine ps_getI (pc' := 37) (v := (M 37 4)) rfl dX6_become_34 fl_X6_41 ob_37 rfl rfl ?_
  refine ps_putI (pc' := 40) rfl dX6_become_37 fl_X6_41 ob_79 rfl ?_
  refine pw_aload_n (pc' := 41) 0 rfl dX6_become_40 rfl rfl ?_
  refine pw_aload_n (pc' := 42) 1 rfl dX6_become_41 rfl rfl ?_
  refine ps_getI (pc' := 45) (v := (M 37 5)) rfl dX6_become_42 fl_X6_44 ob_37 rfl rfl ?_
  refine ps_putI (pc' := 48) rfl dX6_become_45 fl_X6_44 ob_79 rfl ?_
  refine pw_aload_n (pc' := 49) 1 rfl dX6_become_48 rfl rfl ?_
  refine ps_getR (pc' := 52) (r := 38) rfl dX6_become_49 fl_X6_9 ob_37 rfl rfl ?_
  refine pw_iconst (pc' := 53) rfl dX6_become_52 ci_0 ?_
  refine pw_aload_n (pc' := 54) 0 rfl dX6_become_53 rfl rfl ?_
  refine ps_getR (pc' := 57) (r := 80) rfl dX6_become_54 fl_X6_9 ob_79 rfl rfl ?_
  refine pw_iconst (pc' := 58) rfl dX6_become_57 ci_0 ?_
  refine pw_iconst (pc' := 59) rfl dX6_become_58 ci_5 ?_
  obtain ⟨g1, h⟩ := h
  refine ps_copy (pc' := 62) rfl dX6_become_59 ml_X6_47 ia_38 ia_80 g1 (by decide) (Nat.le_of_ble_eq_true rfl) ?_
  refine pw_aload_n (pc' := 63) 1 rfl dX6_become_62 rfl rfl ?_
  refine ps_getR (pc' := 66) (r := 39) rfl dX6_become_63 fl_X6_15 ob_37 rfl rfl ?_
  refine pw_iconst (pc' := 67) rfl dX6_become_66 ci_0 ?_
  refine pw_aload_n (pc' := 68) 0 rfl dX6_become_67 rfl rfl ?_
  refine ps_getR (pc' := 71) (r := 81) rfl dX6_become_68 fl_X6_15 ob_79 rfl rfl ?_
  refine pw_iconst (pc' := 72) rfl dX6_become_71 ci_0 ?_
  refine pw_bipush (pc' := 74) rfl dX6_become_72 cb_12 ?_
  obtain ⟨g2, h⟩ := h
  refine ps_copy (pc' := 77) rfl dX6_become_74 ml_X6_47 ia_39 ia_81 g2 (by decide) (Nat.le_of_ble_eq_true rfl) ?_
  refine pw_aload_n (pc' := 78) 1 rfl dX6_become_77 rfl rfl ?_
  refine ps_getR (pc' := 81) (r := 40) rfl dX6_become_78 fl_X6_18 ob_37 rfl rfl ?_
  refine pw_iconst (pc' := 82) rfl dX6_become_81 ci_0 ?_
  refine pw_aload_n (pc' := 83) 0 rfl dX6_become_82 rfl rfl ?_
  refine ps_getR (pc' := 86) (r := 82) rfl dX6_become_83 fl_X6_18 ob_79 rfl rfl ?_
  refine pw_iconst (pc' := 87) rfl dX6_become_86 ci_0 ?_
  refine pw_bipush (pc' := 89) rfl dX6_become_87 cb_12 ?_
  obtain ⟨g3, h⟩ := h
  refine ps_copy (pc' := 92) rfl dX6_become_89 ml_X6_47 ia_40 ia_82 g3 (by decide) (Nat.le_of_ble_eq_true rfl) ?_
  refine pw_aload_n (pc' := 93) 1 rfl dX6_become_92 rfl rfl ?_
  refine ps_getR (pc' := 96) (r := 41) rfl dX6_become_93 fl_X6_21 ob_37 rfl rfl ?_
  refine pw_iconst (pc' := 97) rfl dX6_become_96 ci_0 ?_
  refine pw_aload_n (pc' := 98) 0 rfl dX6_become_97 rfl rfl ?_
  refine ps_getR (pc' := 101) (r := 83) rfl dX6_become_98 fl_X6_21 ob_79 rfl rfl ?_
  refine pw_iconst (pc' := 102) rfl dX6_become_101 ci_0 ?_
  refine pw_bipush (pc' := 104) rfl dX6_become_102 cb_12 ?_
  obtain ⟨g4, h⟩ := h
  refine ps_copy (pc' := 107) rfl dX6_become_104 ml_X6_47 ia_41 ia_83 g4 (by decide) (Nat.le_of_ble_eq_true rfl) ?_
  refine pw_aload_n (pc' := 108) 1 rfl dX6_become_107 rfl rfl ?_
  refine ps_getR (pc' := 111) (r := 42) rfl dX6_become_108 fl_X6_24 ob_37 rfl rfl ?_
  refine pw_iconst (pc' := 112) rfl dX6_become_111 ci_0 ?_
  refine pw_aload_n (pc' := 113) 0 rfl dX6_become_112 rfl rfl ?_
  refine ps_getR (pc' := 116) (r := 84) rfl dX6_become_113 fl_X6_24 ob_79 rfl rfl ?_
  refine pw_iconst (pc' := 117) rfl dX6_become_116 ci_0 ?_
  refine pw_bipush (pc' := 119) rfl dX6_become_117 cb_12 ?_
  obtain ⟨g5, h⟩ := h
  refine ps_copy (pc' := 122) rfl dX6_become_119 ml_X6_47 ia_42 ia_84 g5 (by decide) (Nat.le_of_ble_eq_true rfl) ?_
  exact ps_vret dX6_become_122 rfl h
theorem T_X0_become_1_43 {M : Mem}  {Q : Mem → Prop}  (h : (¬ (nI 0) < 0 ∧ ¬ (nI 0) < 0 ∧ ¬ (nI 10) < 0 ∧ ix (nI 0) + ix (nI 10) ≤ 10 ∧ ix (nI 0) + ix (nI 10) ≤ 10) ∧ ((¬ (nI 0) < 0 ∧ ¬ (nI 0) < 0 ∧ ¬ (nI 10) < 0 ∧ ix (nI 0) + ix (nI 10) ≤ 10 ∧ ix (nI 0) + ix (nI 10) ≤ 10) ∧ (P_X0_become_1_43_56 (cpy (cpy (wr (wr (wr M 1 0 (M 43 0)) 1 1 (M 43 1)) 1 2 (M 43 2)) 44 2 (ix (nI 0)) (ix (nI 0)) (ix (nI 10))) 45 3 (ix (nI 0)) (ix (nI 0)) (ix (nI 10))) (nI 0) Q))) : C_X0_become_1_43 M  Q := by
  refine CA_of rfl (Nat.le_of_ble_eq_true rfl) ?_
  show PS _ _ 0 [(0, .ref 1), (1, .ref 43)] [] M _
  refine pw_aload_n (pc' := 1) 0 rfl dX0_become_0 rfl rfl ?_
  refine pw_aload_n (pc' := 2) 1 rfl dX0_become_1 rfl rfl ?_
  refine ps_getI (pc' := 5) (v := (M 43 0)) rfl dX0_become_2 fl_X0_29 ob_43 rfl rfl ?_
  refine ps_putI (pc' := 8) rfl dX0_become_5 fl_X0_29 ob_1 rfl ?_
  refine pw_aload_n (pc' := 9) 0 rfl dX0_become_8 rfl rfl ?_
  refine pw_aload_n (pc' := 10) 1 rfl dX0_become_9 rfl rfl ?_
  refine ps_getI (pc' := 13) (v := (M 43 1)) rfl dX0_become_10 fl_X0_37 ob_43 rfl rfl ?_
  refine ps_putI (pc' := 16) rfl dX0_become_13 fl_X0_37 ob_1 rfl ?_
  refine pw_aload_n (pc' := 17) 0 rfl dX0_become_16 rfl rfl ?_
  refine pw_aload_n (pc' := 18) 1 rfl dX0_become_17 rfl rfl ?_
  refine ps_getI (pc' := 21) (v := (M 43 2)) rfl dX0_become_18 fl_X0_40 ob_43 rfl rfl ?_
  refine ps_putI (pc' := 24) rfl dX0_become_21 fl_X0_40 ob_1 rfl ?_
  refine pw_aload_n (pc' := 25) 1 rfl dX0_become_24 rfl rfl ?_
  refine ps_getR (pc' := 28) (r := 44) rfl dX0_become_25 fl_X0_9 ob_43 rfl rfl ?_
  refine pw_iconst (pc' := 29) rfl dX0_become_28 ci_0 ?_
  refine pw_aload_n (pc' := 30) 0 rfl dX0_become_29 rfl rfl ?_
  refine ps_getR (pc' := 33) (r := 2) rfl dX0_become_30 fl_X0_9 ob_1 rfl rfl ?_
  refine pw_iconst (pc' := 34) rfl dX0_become_33 ci_0 ?_
  refine pw_bipush (pc' := 36) rfl dX0_become_34 cb_10 ?_
  obtain ⟨g0, h⟩ := h
  refine ps_copy (pc' := 39) rfl dX0_become_36 ml_X0_57 ia_44 ia_2 g0 (by decide) (Nat.le_of_ble_eq_true rfl) ?_
  refine pw_aload_n (pc' := 40) 1 rfl dX0_become_39 rfl rfl ?_
  refine ps_getR (pc' := 43) (r := 45) rfl dX0_become_40 fl_X0_15 ob_43 rfl rfl ?_
  refine pw_iconst (pc' := 44) rfl dX0_become_43 ci_0 ?_
  refine pw_aload_n (pc' := 45) 0 rfl dX0_become_44 rfl rfl ?_
  refine ps_getR (pc' := 48) (r := 3) rfl dX0_become_45 fl_X0_15 ob_1 rfl rfl ?_
  refine pw_iconst (pc' := 49) rfl dX0_become_48 ci_0 ?_
  refine pw_bipush (pc' := 51) rfl dX0_become_49 cb_10 ?_
  obtain ⟨g1, h⟩ := h
  refine ps_copy (pc' := 54) rfl dX0_become_51 ml_X0_57 ia_45 ia_3 g1 (by decide) (Nat.le_of_ble_eq_true rfl) ?_
  refine pw_iconst (pc' := 55) rfl dX0_become_54 ci_0 ?_
  refine pw_istore_n (pc' := 56) (lv' := [(0, .ref 1), (1, .ref 43), (2, .int (nI 0))]) [1, 2, 0] rfl dX0_become_55 rfl (by decide) rfl ?_
  exact pw_sub [0, 1, 2] rfl h
theorem T_X0_become_1_43_56 {M : Mem} {a2 : Int32} {Q : Mem → Prop}  (h : (((nI 3) ≤ a2) → (Q M)) ∧ ((¬ (nI 3) ≤ a2) → (vp_in a2 3 ∧ ((¬ (nI 0) < 0 ∧ ¬ (nI 0) < 0 ∧ ¬ (nI 24) < 0 ∧ ix (nI 0) + ix (nI 24) ≤ 24 ∧ ix (nI 0) + ix (nI 24) ≤ 24) ∧ (P_X0_become_1_43_56 (cpy M (46 + 1 + ix a2) (4 + 1 + ix a2) (ix (nI 0)) (ix (nI 0)) (ix (nI 24))) (a2 + (nI 1)) Q))))) : P_X0_become_1_43_56 M a2 Q := by
  refine pw_iload_n (pc' := 57) 2 rfl dX0_become_56 rfl rfl ?_
  refine pw_iconst (pc' := 58) rfl dX0_become_57 ci_3 ?_
  refine pw_icmp_ge (pc' := 61) (tgt := 86) rfl dX0_become_58 (by decide) (fun q0 => ?_) (fun q0 => ?_)
  · have h := h.1 q0
    exact ps_vret dX0_become_86 rfl h
  · have h := h.2 q0
    refine pw_aload_n (pc' := 62) 1 rfl dX0_become_61 rfl rfl ?_
    refine ps_getR (pc' := 65) (r := 46) rfl dX0_become_62 fl_X0_20 ob_43 rfl rfl ?_
    refine pw_iload_n (pc' := 66) 2 rfl dX0_become_65 rfl rfl ?_
    obtain ⟨b1, h⟩ := h
    refine ps_aald (pc' := 67) rfl dX0_become_66 ra_46 b1 ?_
    refine pw_iconst (pc' := 68) rfl dX0_become_67 ci_0 ?_
    refine pw_aload_n (pc' := 69) 0 rfl dX0_become_68 rfl rfl ?_
    refine ps_getR (pc' := 72) (r := 4) rfl dX0_become_69 fl_X0_20 ob_1 rfl rfl ?_
    refine pw_iload_n (pc' := 73) 2 rfl dX0_become_72 rfl rfl ?_
    refine ps_aald (pc' := 74) rfl dX0_become_73 ra_4 b1 ?_
    refine pw_iconst (pc' := 75) rfl dX0_become_74 ci_0 ?_
    refine pw_bipush (pc' := 77) rfl dX0_become_75 cb_24 ?_
    obtain ⟨g3, h⟩ := h
    refine ps_copy (pc' := 80) rfl dX0_become_77 ml_X0_57 (RA.row ra_46 b1) (RA.row ra_4 b1) g3 (by decide) (Nat.le_of_ble_eq_true rfl) ?_
    refine pw_iinc (pc' := 83) (lv' := [(0, .ref 1), (1, .ref 43), (2, .int (a2 + (nI 1)))]) 2 [1, 2, 0] rfl dX0_become_80 rfl (ii_1 _) (by decide) rfl ?_
    refine pw_goto (tgt := 56) dX0_become_83 (by decide) ?_
    exact pw_sub [0, 1, 2] rfl h
theorem T_X5_become_30_72 {M : Mem}  {Q : Mem → Prop}  (h : (¬ (nI 0) < 0 ∧ ¬ (nI 0) < 0 ∧ ¬ (nI 3) < 0 ∧ ix (nI 0) + ix (nI 3) ≤ 3 ∧ ix (nI 0) + ix (nI 3) ≤ 3) ∧ ((¬ (nI 0) < 0 ∧ ¬ (nI 0) < 0 ∧ ¬ (nI 5) < 0 ∧ ix (nI 0) + ix (nI 5) ≤ 5 ∧ ix (nI 0) + ix (nI 5) ≤ 5) ∧ ((¬ (nI 0) < 0 ∧ ¬ (nI 0) < 0 ∧ ¬ (nI 5) < 0 ∧ ix (nI 0) + ix (nI 5) ≤ 5 ∧ ix (nI 0) + ix (nI 5) ≤ 5) ∧ ((¬ (nI 0) < 0 ∧ ¬ (nI 0) < 0 ∧ ¬ (nI 5) < 0 ∧ ix (nI 0) + ix (nI 5) ≤ 5 ∧ ix (nI 0) + ix (nI 5) ≤ 5) ∧ ((¬ (nI 0) < 0 ∧ ¬ (nI 0) < 0 ∧ ¬ (nI 5) < 0 ∧ ix (nI 0) + ix (nI 5) ≤ 5 ∧ ix (nI 0) + ix (nI 5) ≤ 5) ∧ ((¬ (nI 0) < 0 ∧ ¬ (nI 0) < 0 ∧ ¬ (nI 5) < 0 ∧ ix (nI 0) + ix (nI 5) ≤ 5 ∧ ix (nI 0) + ix (nI 5) ≤ 5) ∧ (Q (cpy (cpy (cpy (cpy (cpy (cpy (wr (wr (wr (wr M 30 0 (M 72 0)) 30 1 (M 72 1)) 30 2 (M 72 2)) 30 3 (M 72 3)) 73 31 (ix (nI 0)) (ix (nI 0)) (ix (nI 3))) 74 32 (ix (nI 0)) (ix (nI 0)) (ix (nI 5))) 75 33 (ix (nI 0)) (ix (nI 0)) (ix (nI 5))) 76 34 (ix (nI 0)) (ix (nI 0)) (ix (nI 5))) 77 35 (ix (nI 0)) (ix (nI 0)) (ix (nI 5))) 78 36 (ix (nI 0)) (ix (nI 0)) (ix (nI 5)))))))))) : C_X5_become_30_72 M  Q := by
  refine CA_of rfl (Nat.le_of_ble_eq_true rfl) ?_
  show PS _ _ 0 [(0, .ref 30), (1, .ref 72)] [] M _
  refine pw_aload_n (pc' := 1) 0 rfl dX5_become_0 rfl rfl ?_
  refine pw_aload_n (pc' := 2) 1 rfl dX5_become_1 rfl rfl ?_
  refine ps_getI (pc' := 5) (v := (M 72 0)) rfl dX5_become_2 fl_X5_30 ob_72 rfl rfl ?_
  refine ps_putI (pc' := 8) rfl dX5_become_5 fl_X5_30 ob_30 rfl ?_
  refine pw_aload_n (pc' := 9) 0 rfl dX5_become_8 rfl rfl ?_
  refine pw_aload_n (pc' := 10) 1 rfl dX5_become_9 rfl rfl ?_
  refine ps_getI (pc' := 13) (v := (M 72 1)) rfl dX5_become_10 fl_X5_37 ob_72 rfl rfl ?_
  refine ps_putI (pc' := 16) rfl dX5_become_13 fl_X5_37 ob_30 rfl ?_
  refine pw_aload_n (pc' := 17) 0 rfl dX5_become_16 rfl rfl ?_
  refine pw_aload_n (pc' := 18) 1 rfl dX5_become_17 rfl rfl ?_
  refine ps_getI (pc' := 21) (v := (M 72 2)) rfl dX5_become_18 fl_X5_46 ob_72 rfl rfl ?_
  refine ps_putI (pc' := 24) rfl dX5_become_21 fl_X5_46 ob_30 rfl ?_
  refine pw_aload_n (pc' := 25) 0 rfl dX5_become_24 rfl rfl ?_
  refine pw_aload_n (pc' := 26) 1 rfl dX5_become_25 rfl rfl ?_
  refine ps_getI (pc' := 29) (v := (M 72 3)) rfl dX5_become_26 fl_X5_34 ob_72 rfl rfl ?_
  refine ps_putI (pc' := 32) rfl dX5_become_29 fl_X5_34 ob_30 rfl ?_
  refine pw_aload_n (pc' := 33) 1 rfl dX5_become_32 rfl rfl ?_
  refine ps_getR (pc' := 36) (r := 73) rfl dX5_become_33 fl_X5_9 ob_72 rfl rfl ?_
  refine pw_iconst (pc' := 37) rfl dX5_become_36 ci_0 ?_
  refine pw_aload_n (pc' := 38) 0 rfl dX5_become_37 rfl rfl ?_
  refine ps_getR (pc' := 41) (r := 31) rfl dX5_become_38 fl_X5_9 ob_30 rfl rfl ?_
  refine pw_iconst (pc' := 42) rfl dX5_become_41 ci_0 ?_
  refine pw_iconst (pc' := 43) rfl dX5_become_42 ci_3 ?_
  obtain ⟨g0, h⟩ := h
  refine ps_copy (pc' := 46) rfl dX5_become_43 ml_X5_49 ia_73 ia_31 g0 (by decide) (Nat.le_of_ble_eq_true rfl) ?_
  refine pw_aload_n (pc' := 47) 1 rfl dX5_become_46 rfl rfl ?_
  refine ps_getR (pc' := 50) (r := 74) rfl dX5_become_47 fl_X5_15 ob_72 rfl rfl ?_
  refine pw_iconst (pc' := 51) rfl dX5_become_50 ci_0 ?_
  refine pw_aload_n (pc' := 52) 0 rfl dX5_become_51 rfl rfl ?_
  refine ps_getR (pc' := 55) (r := 32) rfl dX5_become_52 fl_X5_15 ob_30 rfl rfl ?_
  refine pw_iconst (pc' := 56) rfl dX5_become_55 ci_0 ?_
  refine pw_iconst (pc' := 57) rfl dX5_become_56 ci_5 ?_
  obtain ⟨g1, h⟩ := h
  refine ps_copy (pc' := 60) rfl dX5_become_57 ml_X5_49 ia_74 ia_32 g1 (by decide) (Nat.le_of_ble_eq_true rfl) ?_
  refine pw_aload_n (pc' := 61) 1 rfl dX5_become_60 rfl rfl ?_
  refine ps_getR (pc' := 64) (r := 75) rfl dX5_become_61 fl_X5_18 ob_72 rfl rfl ?_
  refine pw_iconst (pc' := 65) rfl dX5_become_64 ci_0 ?_
  refine pw_aload_n (pc' := 66) 0 rfl dX5_become_65 rfl rfl ?_
  refine ps_getR (pc' := 69) (r := 33) rfl dX5_become_66 fl_X5_18 ob_30 rfl rfl ?_
  refine pw_iconst (pc' := 70) rfl dX5_become_69 ci_0 ?_
  refine pw_iconst (pc' := 71) rfl dX5_become_70 ci_5 ?_
  obtain ⟨g2, h⟩ := h
  refine ps_copy (pc' := 74) rfl dX5_become_71 ml_X5_49 ia_75 ia_33 g2 (by decide) (Nat.le_of_ble_eq_true rfl) ?_
  refine pw_aload_n (pc' := 75) 1 rfl dX5_become_74 rfl rfl ?_
  refine ps_getR (pc' := 78) (r := 76) rfl dX5_become_75 fl_X5_21 ob_72 rfl rfl ?_
  refine pw_iconst (pc' := 79) rfl dX5_become_78 ci_0 ?_
  refine pw_aload_n (pc' := 80) 0 rfl dX5_become_79 rfl rfl ?_
  refine ps_getR (pc' := 83) (r := 34) rfl dX5_become_80 fl_X5_21 ob_30 rfl rfl ?_
  refine pw_iconst (pc' := 84) rfl dX5_become_83 ci_0 ?_
  refine pw_iconst (pc' := 85) rfl dX5_become_84 ci_5 ?_
  obtain ⟨g3, h⟩ := h
  refine ps_copy (pc' := 88) rfl dX5_become_85 ml_X5_49 ia_76 ia_34 g3 (by decide) (Nat.le_of_ble_eq_true rfl) ?_
  refine pw_aload_n (pc' := 89) 1 rfl dX5_become_88 rfl rfl ?_
  refine ps_getR (pc' := 92) (r := 77) rfl dX5_become_89 fl_X5_24 ob_72 rfl rfl ?_
  refine pw_iconst (pc' := 93) rfl dX5_become_92 ci_0 ?_
  refine pw_aload_n (pc' := 94) 0 rfl dX5_become_93 rfl rfl ?_
  refine ps_getR (pc' := 97) (r := 35) rfl dX5_become_94 fl_X5_24 ob_30 rfl rfl ?_
  refine pw_iconst (pc' := 98) rfl dX5_become_97 ci_0 ?_
  refine pw_iconst (pc' := 99) rfl dX5_become_98 ci_5 ?_
  obtain ⟨g4, h⟩ := h
  refine ps_copy (pc' := 102) rfl dX5_become_99 ml_X5_49 ia_77 ia_35 g4 (by decide) (Nat.le_of_ble_eq_true rfl) ?_
  refine pw_aload_n (pc' := 103) 1 rfl dX5_become_102 rfl rfl ?_
  refine ps_getR (pc' := 106) (r := 78) rfl dX5_become_103 fl_X5_27 ob_72 rfl rfl ?_
  refine pw_iconst (pc' := 107) rfl dX5_become_106 ci_0 ?_
  refine pw_aload_n (pc' := 108) 0 rfl dX5_become_107 rfl rfl ?_
  refine ps_getR (pc' := 111) (r := 36) rfl dX5_become_108 fl_X5_27 ob_30 rfl rfl ?_
  refine pw_iconst (pc' := 112) rfl dX5_become_111 ci_0 ?_
  refine pw_iconst (pc' := 113) rfl dX5_become_112 ci_5 ?_
  obtain ⟨g5, h⟩ := h
  refine ps_copy (pc' := 116) rfl dX5_become_113 ml_X5_49 ia_78 ia_36 g5 (by decide) (Nat.le_of_ble_eq_true rfl) ?_
  exact ps_vret dX5_become_116 rfl h
theorem T_X6_become_37_79 {M : Mem}  {Q : Mem → Prop}  (h : ((M 79 2) = 0 ∨ (M 79 2) = 1) ∧ ((¬ (nI 0) < 0 ∧ ¬ (nI 0) < 0 ∧ ¬ (nI 5) < 0 ∧ ix (nI 0) + ix (nI 5) ≤ 5 ∧ ix (nI 0) + ix (nI 5) ≤ 5) ∧ ((¬ (nI 0) < 0 ∧ ¬ (nI 0) < 0 ∧ ¬ (nI 12) < 0 ∧ ix (nI 0) + ix (nI 12) ≤ 12 ∧ ix (nI 0) + ix (nI 12) ≤ 12) ∧ ((¬ (nI 0) < 0 ∧ ¬ (nI 0) < 0 ∧ ¬ (nI 12) < 0 ∧ ix (nI 0) + ix (nI 12) ≤ 12 ∧ ix (nI 0) + ix (nI 12) ≤ 12) ∧ ((¬ (nI 0) < 0 ∧ ¬ (nI 0) < 0 ∧ ¬ (nI 12) < 0 ∧ ix (nI 0) + ix (nI 12) ≤ 12 ∧ ix (nI 0) + ix (nI 12) ≤ 12) ∧ ((¬ (nI 0) < 0 ∧ ¬ (nI 0) < 0 ∧ ¬ (nI 12) < 0 ∧ ix (nI 0) + ix (nI 12) ≤ 12 ∧ ix (nI 0) + ix (nI 12) ≤ 12) ∧ (Q (cpy (cpy (cpy (cpy (cpy (wr (wr (wr (wr (wr (wr M 37 0 (M 79 0)) 37 1 (M 79 1)) 37 2 (M 79 2)) 37 3 (M 79 3)) 37 4 (M 79 4)) 37 5 (M 79 5)) 80 38 (ix (nI 0)) (ix (nI 0)) (ix (nI 5))) 81 39 (ix (nI 0)) (ix (nI 0)) (ix (nI 12))) 82 40 (ix (nI 0)) (ix (nI 0)) (ix (nI 12))) 83 41 (ix (nI 0)) (ix (nI 0)) (ix (nI 12))) 84 42 (ix (nI 0)) (ix (nI 0)) (ix (nI 12)))))))))) : C_X6_become_37_79 M  Q := by
  refine CA_of rfl (Nat.le_of_ble_eq_true rfl) ?_
  show PS _ _ 0 [(0, .ref 37), (1, .ref 79)] [] M _
  refine pw_aload_n (pc' := 1) 0 rfl dX6_become_0 rfl rfl ?_
  refine pw_aload_n (pc' := 2) 1 rfl dX6_become_1 rfl rfl ?_
  refine ps_getI (pc' := 5) (v := (M 79 0)) rfl dX6_become_2 fl_X6_27 ob_79 rfl rfl ?_
  refine ps_putI (pc' := 8) rfl dX6_become_5 fl_X6_27 ob_37 rfl ?_
  refine pw_aload_n (pc' := 9) 0 rfl dX6_become_8 rfl rfl ?_
  refine pw_aload_n (pc' := 10) 1 rfl dX6_become_9 rfl rfl ?_
  refine ps_getI (pc' := 13) (v := (M 79 1)) rfl dX6_become_10 fl_X6_31 ob_79 rfl rfl ?_
  refine ps_putI (pc' := 16) rfl dX6_become_13 fl_X6_31 ob_37 rfl ?_
  refine pw_aload_n (pc' := 17) 0 rfl dX6_become_16 rfl rfl ?_
  refine pw_aload_n (pc' := 18) 1 rfl dX6_become_17 rfl rfl ?_
  refine ps_getI (pc' := 21) (v := (M 79 2)) rfl dX6_become_18 fl_X6_34 ob_79 rfl rfl ?_
  obtain ⟨z0, h⟩ := h
  refine ps_putZ (pc' := 24) rfl dX6_become_21 fl_X6_34 ob_37 rfl z0 ?_
  refine pw_aload_n (pc' := 25) 0 rfl dX6_become_24 rfl rfl ?_
  refine pw_aload_n (pc' := 26) 1 rfl dX6_become_25 rfl rfl ?_
  refine ps_getI (pc' := 29) (v := (M 79 3)) rfl dX6_become_26 fl_X6_38 ob_79 rfl rfl ?_
  refine ps_putI (pc' := 32) rfl dX6_become_29 fl_X6_38 ob_37 rfl ?_
  refine pw_aload_n (pc' := 33) 0 rfl dX6_become_32 rfl rfl ?_
  refine pw_aload_n (pc' := 34) 1 rfl dX6_become_33 rfl rfl ?_
  refine ps_getI (pc' := 37) (v := (M 79 4)) rfl dX6_become_34 fl_X6_41 ob_79 rfl rfl ?_
  refine ps_putI (pc' := 40) rfl dX6_become_37 fl_X6_41 ob_37 rfl ?_
  refine pw_aload_n (pc' := 41) 0 rfl dX6_become_40 rfl rfl ?_
  refine pw_aload_n (pc' := 42) 1 rfl dX6_become_41 rfl rfl ?_
  refine ps_getI (pc' := 45) (v := (M 79 5)) rfl dX6_become_42 fl_X6_44 ob_79 rfl rfl ?_
  refine ps_putI (pc' := 48) rfl dX6_become_45 fl_X6_44 ob_37 rfl ?_
  refine pw_aload_n (pc' := 49) 1 rfl dX6_become_48 rfl rfl ?_
  refine ps_getR (pc' := 52) (r := 80) rfl dX6_become_49 fl_X6_9 ob_79 rfl rfl ?_
  refine pw_iconst (pc' := 53) rfl dX6_become_52 ci_0 ?_
  refine pw_aload_n (pc' := 54) 0 rfl dX6_become_53 rfl rfl ?_
  refine ps_getR (pc' := 57) (r := 38) rfl dX6_become_54 fl_X6_9 ob_37 rfl rfl ?_
  refine pw_iconst (pc' := 58) rfl dX6_become_57 ci_0 ?_
  refine pw_iconst (pc' := 59) rfl dX6_become_58 ci_5 ?_
  obtain ⟨g1, h⟩ := h
  refine ps_copy (pc' := 62) rfl dX6_become_59 ml_X6_47 ia_80 ia_38 g1 (by decide) (Nat.le_of_ble_eq_true rfl) ?_
  refine pw_aload_n (pc' := 63) 1 rfl dX6_become_62 rfl rfl ?_
  refine ps_getR (pc' := 66) (r := 81) rfl dX6_become_63 fl_X6_15 ob_79 rfl rfl ?_
  refine pw_iconst (pc' := 67) rfl dX6_become_66 ci_0 ?_
  refine pw_aload_n (pc' := 68) 0 rfl dX6_become_67 rfl rfl ?_
  refine ps_getR (pc' := 71) (r := 39) rfl dX6_become_68 fl_X6_15 ob_37 rfl rfl ?_
  refine pw_iconst (pc' := 72) rfl dX6_become_71 ci_0 ?_
  refine pw_bipush (pc' := 74) rfl dX6_become_72 cb_12 ?_
  obtain ⟨g2, h⟩ := h
  refine ps_copy (pc' := 77) rfl dX6_become_74 ml_X6_47 ia_81 ia_39 g2 (by decide) (Nat.le_of_ble_eq_true rfl) ?_
  refine pw_aload_n (pc' := 78) 1 rfl dX6_become_77 rfl rfl ?_
  refine ps_getR (pc' := 81) (r := 82) rfl dX6_become_78 fl_X6_18 ob_79 rfl rfl ?_
  refine pw_iconst (pc' := 82) rfl dX6_become_81 ci_0 ?_
  refine pw_aload_n (pc' := 83) 0 rfl dX6_become_82 rfl rfl ?_
  refine ps_getR (pc' := 86) (r := 40) rfl dX6_become_83 fl_X6_18 ob_37 rfl rfl ?_
  refine pw_iconst (pc' := 87) rfl dX6_become_86 ci_0 ?_
  refine pw_bipush (pc' := 89) rfl dX6_become_87 cb_12 ?_
  obtain ⟨g3, h⟩ := h
  refine ps_copy (pc' := 92) rfl dX6_become_89 ml_X6_47 ia_82 ia_40 g3 (by decide) (Nat.le_of_ble_eq_true rfl) ?_
  refine pw_aload_n (pc' := 93) 1 rfl dX6_become_92 rfl rfl ?_
  refine ps_getR (pc' := 96) (r := 83) rfl dX6_become_93 fl_X6_21 ob_79 rfl rfl ?_
  refine pw_iconst (pc' := 97) rfl dX6_become_96 ci_0 ?_
  refine pw_aload_n (pc' := 98) 0 rfl dX6_become_97 rfl rfl ?_
  refine ps_getR (pc' := 101) (r := 41) rfl dX6_become_98 fl_X6_21 ob_37 rfl rfl ?_
  refine pw_iconst (pc' := 102) rfl dX6_become_101 ci_0 ?_
  refine pw_bipush (pc' := 104) rfl dX6_become_102 cb_12 ?_
  obtain ⟨g4, h⟩ := h
  refine ps_copy (pc' := 107) rfl dX6_become_104 ml_X6_47 ia_83 ia_41 g4 (by decide) (Nat.le_of_ble_eq_true rfl) ?_
  refine pw_aload_n (pc' := 108) 1 rfl dX6_become_107 rfl rfl ?_
  refine ps_getR (pc' := 111) (r := 84) rfl dX6_become_108 fl_X6_24 ob_79 rfl rfl ?_
  refine pw_iconst (pc' := 112) rfl dX6_become_111 ci_0 ?_
  refine pw_aload_n (pc' := 113) 0 rfl dX6_become_112 rfl rfl ?_
  refine ps_getR (pc' := 116) (r := 42) rfl dX6_become_113 fl_X6_24 ob_37 rfl rfl ?_
  refine pw_iconst (pc' := 117) rfl dX6_become_116 ci_0 ?_
  refine pw_bipush (pc' := 119) rfl dX6_become_117 cb_12 ?_
  obtain ⟨g5, h⟩ := h
  refine ps_copy (pc' := 122) rfl dX6_become_119 ml_X6_47 ia_84 ia_42 g5 (by decide) (Nat.le_of_ble_eq_true rfl) ?_
  exact ps_vret dX6_become_122 rfl h
