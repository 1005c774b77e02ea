def C_L_lays (L : Nat) (xs : Nat → Int32) (M : Mem)  (Q : Int32 → Mem → Prop) : Prop := HLc 5 mdL_lays L xs (fun B b => [.ref (B + 0), .ref b]) M Q
def P_L_lays_15 (X : HX) (M : Mem) (a2 : Int32) (a3 : Int32) (a4 : Int32) : Prop := SW mdL_lays X 0 0 15 [(0, .ref (BX X + 0)), (1, .ref (bX X)), (2, .int a2), (3, .int a3), (4, .int a4)] [] (w0 M)
def P_L_lays_49 (X : HX) (M : Mem) (a2 : Int32) (a3 : Int32) (a4 : Int32) : Prop := SW mdL_lays X 0 0 49 [(0, .ref (BX X + 0)), (1, .ref (bX X)), (2, .int a2), (3, .int a3), (4, .int a4)] [] (w0 M)
theorem T_L_lays {X : HX} {L : Nat} {xs : Nat → Int32} {M : Mem}  {Q : Int32 → Mem → Prop} (C : LC mdL_lays 5 0 0 X L xs) (R : RT mdL_lays X 0 0 Q) (h : P_L_lays_15 X M ((nI 4) + (remI (clI L xs (nI 0)) (nI 5))) (nI 1) (nI 0)) : SW mdL_lays X 0 0 0 [(0, .ref (BX X + 0)), (1, .ref (bX X))] [] (w0 M) := by
  refine lr_iconst (pc' := 1) C rfl dL_lays_0 ci_4 ?_
  refine lr_aload_n (pc' := 2) 1 C rfl dL_lays_1 rfl rfl ?_
  refine lr_iconst (pc' := 3) C rfl dL_lays_2 ci_0 ?_
  refine lr_callS (As := (fun B b => [.ref b, .int (nI 0)])) (rest := [.int (nI 4)]) (pc' := 6) 2 C rfl dL_lays_3 cs_L_cell ml_L_9 (by decide) (fun _ _ => rfl) rfl (by decide) (Nat.le_of_ble_eq_true rfl) (Nat.le_of_ble_eq_true rfl) (Nat.le_of_ble_eq_true rfl) (u_cell (LC_L C) (by decide) ?_)
  refine lr_iconst (pc' := 7) C rfl dL_lays_6 ci_5 ?_
  refine lr_irem (pc' := 8) C rfl dL_lays_7 (by decide) ?_
  refine lr_iadd (pc' := 9) C rfl dL_lays_8 ?_
  refine lr_istore_n (pc' := 10) (lv' := [(0, .ref (BX X + 0)), (1, .ref (bX X)), (2, .int ((nI 4) + (remI (clI L xs (nI 0)) (nI 5))))]) [1, 2, 0] C rfl dL_lays_9 rfl (by decide) rfl ?_
  refine lr_iconst (pc' := 11) C rfl dL_lays_10 ci_1 ?_
  refine lr_istore_n (pc' := 12) (lv' := [(0, .ref (BX X + 0)), (1, .ref (bX X)), (2, .int ((nI 4) + (remI (clI L xs (nI 0)) (nI 5)))), (3, .int (nI 1))]) [1, 2, 3, 0] C rfl dL_lays_11 rfl (by decide) rfl ?_
  refine lr_iconst (pc' := 13) C rfl dL_lays_12 ci_0 ?_
  refine lr_istore (pc' := 15) (lv' := [(0, .ref (BX X + 0)), (1, .ref (bX X)), (2, .int ((nI 4) + (remI (clI L xs (nI 0)) (nI 5)))), (3, .int (nI 1)), (4, .int (nI 0))]) [1, 2, 3, 4, 0] C rfl dL_lays_13 (by decide) rfl ?_
  exact lr_sub [0, 1, 2, 3, 4] rfl h
theorem T_L_lays_15 {X : HX} {L : Nat} {xs : Nat → Int32} {M : Mem} {a2 : Int32} {a3 : Int32} {a4 : Int32} {Q : Int32 → Mem → Prop} (C : LC mdL_lays 5 0 0 X L xs) (R : RT mdL_lays X 0 0 Q) (h : ((a2 ≤ a4) → (P_L_lays_49 X M a2 a3 (nI 0))) ∧ ((¬ a2 ≤ a4) → (((a3 = 0) → (P_L_lays_49 X M a2 a3 (nI 0))) ∧ ((¬ a3 = 0) → (C_X9_room M (fun r2 M2 => ((¬ r2 = a4) → (P_L_lays_15 X M2 a2 (nI 0) (a4 + (nI 1)))) ∧ ((r2 = a4) → (P_L_lays_15 X M2 a2 (nI 1) (a4 + (nI 1)))))))))) : P_L_lays_15 X M a2 a3 a4 := by
  refine lr_iload (pc' := 17) 4 C rfl dL_lays_15 rfl ?_
  refine lr_iload_n (pc' := 18) 2 C rfl dL_lays_17 rfl rfl ?_
  refine lr_icmp_ge (tgt := 46) (pc' := 21) C rfl dL_lays_18 (by decide) (fun q0 => ?_) (fun q0 => ?_)
  · have h := h.1 q0
    refine lr_iconst (pc' := 47) C rfl dL_lays_46 ci_0 ?_
    refine lr_istore (pc' := 49) (lv' := [(0, .ref (BX X + 0)), (1, .ref (bX X)), (2, .int a2), (3, .int a3), (4, .int (nI 0))]) [1, 2, 3, 4, 0] C rfl dL_lays_47 (by decide) rfl ?_
    exact lr_sub [0, 1, 2, 3, 4] rfl h
  · have h := h.2 q0
    refine lr_iload_n (pc' := 22) 3 C rfl dL_lays_21 rfl rfl ?_
    refine lr_if_eq (tgt := 46) (pc' := 25) C rfl dL_lays_22 (by decide) (fun q1 => ?_) (fun q1 => ?_)
    · have h := h.1 q1
      refine lr_iconst (pc' := 47) C rfl dL_lays_46 ci_0 ?_
      refine lr_istore (pc' := 49) (lv' := [(0, .ref (BX X + 0)), (1, .ref (bX X)), (2, .int a2), (3, .int a3), (4, .int (nI 0))]) [1, 2, 3, 4, 0] C rfl dL_lays_47 (by decide) rfl ?_
      exact lr_sub [0, 1, 2, 3, 4] rfl h
    · have h := h.2 q1
      refine lr_aload_n (pc' := 26) 0 C rfl dL_lays_25 rfl rfl ?_
      refine lr_callV (As := []) (rest := []) (c0 := 0) (cT := (RX9, TX9, 14)) (pc' := 29) 0 C rfl dL_lays_26 cv_X9_room ml_L_15 (by decide) rfl rfl (by decide) (Nat.le_of_ble_eq_true rfl) ob_0 rfl rfl (Nat.le_of_ble_eq_true rfl) (Nat.le_of_ble_eq_true rfl) (CA.monoI h ?_)
      intro r2 M2 h
      refine lr_iload (pc' := 31) 4 C rfl dL_lays_29 rfl ?_
      refine lr_icmp_ne (tgt := 38) (pc' := 34) C rfl dL_lays_31 (by decide) (fun q3 => ?_) (fun q3 => ?_)
      · have h := h.1 q3
        refine lr_iconst (pc' := 39) C rfl dL_lays_38 ci_0 ?_
        refine lr_istore_n (pc' := 40) (lv' := [(0, .ref (BX X + 0)), (1, .ref (bX X)), (2, .int a2), (3, .int (nI 0)), (4, .int a4)]) [1, 2, 3, 0, 4] C rfl dL_lays_39 rfl (by decide) rfl ?_
        refine lr_iinc (pc' := 43) (lv' := [(0, .ref (BX X + 0)), (1, .ref (bX X)), (2, .int a2), (3, .int (nI 0)), (4, .int (a4 + (nI 1)))]) 4 [1, 2, 3, 4, 0] C rfl dL_lays_40 rfl (ii_1 _) (by decide) rfl ?_
        refine lr_goto (tgt := 15) C dL_lays_43 (by decide) ?_
        exact lr_sub [0, 1, 2, 3, 4] rfl h
      · have h := h.2 q3
        refine lr_iconst (pc' := 35) C rfl dL_lays_34 ci_1 ?_
        refine lr_goto (tgt := 39) C dL_lays_35 (by decide) ?_
        refine lr_istore_n (pc' := 40) (lv' := [(0, .ref (BX X + 0)), (1, .ref (bX X)), (2, .int a2), (3, .int (nI 1)), (4, .int a4)]) [1, 2, 3, 0, 4] C rfl dL_lays_39 rfl (by decide) rfl ?_
        refine lr_iinc (pc' := 43) (lv' := [(0, .ref (BX X + 0)), (1, .ref (bX X)), (2, .int a2), (3, .int (nI 1)), (4, .int (a4 + (nI 1)))]) 4 [1, 2, 3, 4, 0] C rfl dL_lays_40 rfl (ii_1 _) (by decide) rfl ?_
        refine lr_goto (tgt := 15) C dL_lays_43 (by decide) ?_
        exact lr_sub [0, 1, 2, 3, 4] rfl h
theorem T_L_lays_49 {X : HX} {L : Nat} {xs : Nat → Int32} {M : Mem} {a2 : Int32} {a3 : Int32} {a4 : Int32} {Q : Int32 → Mem → Prop} (C : LC mdL_lays 5 0 0 X L xs) (R : RT mdL_lays X 0 0 Q) (h : ((a2 ≤ a4) → (((a3 = 0) → (Q (-1) M)) ∧ ((¬ a3 = 0) → (C_X9_door M (nI 0) (nI 2) (((clI L xs (nI 0)) >>> ((nI 12) &&& 31)) &&& (nI 1)) (fun r3 M3 => ((¬ r3 = (a2 + (nI 1))) → (Q (-1) M3)) ∧ ((r3 = (a2 + (nI 1))) → (Q a2 M3))))))) ∧ ((¬ a2 ≤ a4) → (((a3 = 0) → (((a3 = 0) → (Q (-1) M)) ∧ ((¬ a3 = 0) → (C_X9_door M (nI 0) (nI 2) (((clI L xs (nI 0)) >>> ((nI 12) &&& 31)) &&& (nI 1)) (fun r4 M4 => ((¬ r4 = (a2 + (nI 1))) → (Q (-1) M4)) ∧ ((r4 = (a2 + (nI 1))) → (Q a2 M4))))))) ∧ ((¬ a3 = 0) → (¬ a2 = 0 ∧ (C_X9_door M a4 (remI (a4 + (nI 1)) a2) (((clI L xs (nI 0)) >>> (((nI 3) + a4) &&& 31)) &&& (nI 1)) (fun r4 M4 => ((¬ r4 = (a4 + (nI 1))) → (P_L_lays_49 X M4 a2 (nI 0) (a4 + (nI 1)))) ∧ ((r4 = (a4 + (nI 1))) → (P_L_lays_49 X M4 a2 (nI 1) (a4 + (nI 1))))))))))) : P_L_lays_49 X M a2 a3 a4 := by
  refine lr_iload (pc' := 51) 4 C rfl dL_lays_49 rfl ?_
  refine lr_iload_n (pc' := 52) 2 C rfl dL_lays_51 rfl rfl ?_
  refine lr_icmp_ge (tgt := 102) (pc' := 55) C rfl dL_lays_52 (by decide) (fun q0 => ?_) (fun q0 => ?_)
  · have h := h.1 q0
    refine lr_iload_n (pc' := 103) 3 C rfl dL_lays_102 rfl rfl ?_
    refine lr_if_eq (tgt := 132) (pc' := 106) C rfl dL_lays_103 (by decide) (fun q1 => ?_) (fun q1 => ?_)
    · have h := h.1 q1
      refine lr_iconst (pc' := 133) C rfl dL_lays_132 ci_m1 ?_
      exact R _ _ _ _ dL_lays_133 h
    · have h := h.2 q1
      refine lr_aload_n (pc' := 107) 0 C rfl dL_lays_106 rfl rfl ?_
      refine lr_iconst (pc' := 108) C rfl dL_lays_107 ci_0 ?_
      refine lr_iconst (pc' := 109) C rfl dL_lays_108 ci_2 ?_
      refine lr_aload_n (pc' := 110) 1 C rfl dL_lays_109 rfl rfl ?_
      refine lr_iconst (pc' := 111) C rfl dL_lays_110 ci_0 ?_
      refine lr_callS (As := (fun B b => [.ref b, .int (nI 0)])) (rest := [.int (nI 2), .int (nI 0), .ref (BX X + 0)]) (pc' := 114) 2 C rfl dL_lays_111 cs_L_cell ml_L_9 (by decide) (fun _ _ => rfl) rfl (by decide) (Nat.le_of_ble_eq_true rfl) (Nat.le_of_ble_eq_true rfl) (Nat.le_of_ble_eq_true rfl) (u_cell (LC_L C) (by decide) ?_)
      refine lr_bipush (pc' := 116) C rfl dL_lays_114 cb_12 ?_
      refine lr_ishr (pc' := 117) C rfl dL_lays_116 ?_
      refine lr_iconst (pc' := 118) C rfl dL_lays_117 ci_1 ?_
      refine lr_iand (pc' := 119) C rfl dL_lays_118 ?_
      refine lr_callV (As := [.int (nI 0), .int (nI 2), .int (((clI L xs (nI 0)) >>> ((nI 12) &&& 31)) &&& (nI 1))]) (rest := []) (c0 := 0) (cT := (RX9, TX9, 14)) (pc' := 122) 3 C rfl dL_lays_119 cv_X9_door ml_L_21 (by decide) rfl rfl (by decide) (Nat.le_of_ble_eq_true rfl) ob_0 rfl rfl (Nat.le_of_ble_eq_true rfl) (Nat.le_of_ble_eq_true rfl) (CA.monoI h ?_)
      intro r3 M3 h
      refine lr_iload_n (pc' := 123) 2 C rfl dL_lays_122 rfl rfl ?_
      refine lr_iconst (pc' := 124) C rfl dL_lays_123 ci_1 ?_
      refine lr_iadd (pc' := 125) C rfl dL_lays_124 ?_
      refine lr_icmp_ne (tgt := 132) (pc' := 128) C rfl dL_lays_125 (by decide) (fun q4 => ?_) (fun q4 => ?_)
      · have h := h.1 q4
        refine lr_iconst (pc' := 133) C rfl dL_lays_132 ci_m1 ?_
        exact R _ _ _ _ dL_lays_133 h
      · have h := h.2 q4
        refine lr_iload_n (pc' := 129) 2 C rfl dL_lays_128 rfl rfl ?_
        refine lr_goto (tgt := 133) C dL_lays_129 (by decide) ?_
        exact R _ _ _ _ dL_lays_133 h
  · have h := h.2 q0
    refine lr_iload_n (pc' := 56) 3 C rfl dL_lays_55 rfl rfl ?_
    refine lr_if_eq (tgt := 102) (pc' := 59) C rfl dL_lays_56 (by decide) (fun q1 => ?_) (fun q1 => ?_)
    · have h := h.1 q1
      refine lr_iload_n (pc' := 103) 3 C rfl dL_lays_102 rfl rfl ?_
      refine lr_if_eq (tgt := 132) (pc' := 106) C rfl dL_lays_103 (by decide) (fun q2 => ?_) (fun q2 => ?_)
      · have h := h.1 q2
        refine lr_iconst (pc' := 133) C rfl dL_lays_132 ci_m1 ?_
        exact R _ _ _ _ dL_lays_133 h
      · have h := h.2 q2
        refine lr_aload_n (pc' := 107) 0 C rfl dL_lays_106 rfl rfl ?_
        refine lr_iconst (pc' := 108) C rfl dL_lays_107 ci_0 ?_
        refine lr_iconst (pc' := 109) C rfl dL_lays_108 ci_2 ?_
        refine lr_aload_n (pc' := 110) 1 C rfl dL_lays_109 rfl rfl ?_
        refine lr_iconst (pc' := 111) C rfl dL_lays_110 ci_0 ?_
        refine lr_callS (As := (fun B b => [.ref b, .int (nI 0)])) (rest := [.int (nI 2), .int (nI 0), .ref (BX X + 0)]) (pc' := 114) 2 C rfl dL_lays_111 cs_L_cell ml_L_9 (by decide) (fun _ _ => rfl) rfl (by decide) (Nat.le_of_ble_eq_true rfl) (Nat.le_of_ble_eq_true rfl) (Nat.le_of_ble_eq_true rfl) (u_cell (LC_L C) (by decide) ?_)
        refine lr_bipush (pc' := 116) C rfl dL_lays_114 cb_12 ?_
        refine lr_ishr (pc' := 117) C rfl dL_lays_116 ?_
        refine lr_iconst (pc' := 118) C rfl dL_lays_117 ci_1 ?_
        refine lr_iand (pc' := 119) C rfl dL_lays_118 ?_
        refine lr_callV (As := [.int (nI 0), .int (nI 2), .int (((clI L xs (nI 0)) >>> ((nI 12) &&& 31)) &&& (nI 1))]) (rest := []) (c0 := 0) (cT := (RX9, TX9, 14)) (pc' := 122) 3 C rfl dL_lays_119 cv_X9_door ml_L_21 (by decide) rfl rfl (by decide) (Nat.le_of_ble_eq_true rfl) ob_0 rfl rfl (Nat.le_of_ble_eq_true rfl) (Nat.le_of_ble_eq_true rfl) (CA.monoI h ?_)
        intro r4 M4 h
        refine lr_iload_n (pc' := 123) 2 C rfl dL_lays_122 rfl rfl ?_
        refine lr_iconst (pc' := 124) C rfl dL_lays_123 ci_1 ?_
        refine lr_iadd (pc' := 125) C rfl dL_lays_124 ?_
        refine lr_icmp_ne (tgt := 132) (pc' := 128) C rfl dL_lays_125 (by decide) (fun q5 => ?_) (fun q5 => ?_)
        · have h := h.1 q5
          refine lr_iconst (pc' := 133) C rfl dL_lays_132 ci_m1 ?_
          exact R _ _ _ _ dL_lays_133 h
        · have h := h.2 q5
          refine lr_iload_n (pc' := 129) 2 C rfl dL_lays_128 rfl rfl ?_
          refine lr_goto (tgt := 133) C dL_lays_129 (by decide) ?_
          exact R _ _ _ _ dL_lays_133 h
    · have h := h.2 q1
      refine lr_aload_n (pc' := 60) 0 C rfl dL_lays_59 rfl rfl ?_
      refine lr_iload (pc' := 62) 4 C rfl dL_lays_60 rfl ?_
      refine lr_iload (pc' := 64) 4 C rfl dL_lays_62 rfl ?_
      refine lr_iconst (pc' := 65) C rfl dL_lays_64 ci_1 ?_
      refine lr_iadd (pc' := 66) C rfl dL_lays_65 ?_
      refine lr_iload_n (pc' := 67) 2 C rfl dL_lays_66 rfl rfl ?_
      obtain ⟨z2, h⟩ := h
      refine lr_irem (pc' := 68) C rfl dL_lays_67 z2 ?_
      refine lr_aload_n (pc' := 69) 1 C rfl dL_lays_68 rfl rfl ?_
      refine lr_iconst (pc' := 70) C rfl dL_lays_69 ci_0 ?_
      refine lr_callS (As := (fun B b => [.ref b, .int (nI 0)])) (rest := [.int (remI (a4 + (nI 1)) a2), .int a4, .ref (BX X + 0)]) (pc' := 73) 2 C rfl dL_lays_70 cs_L_cell ml_L_9 (by decide) (fun _ _ => rfl) rfl (by decide) (Nat.le_of_ble_eq_true rfl) (Nat.le_of_ble_eq_true rfl) (Nat.le_of_ble_eq_true rfl) (u_cell (LC_L C) (by decide) ?_)
      refine lr_iconst (pc' := 74) C rfl dL_lays_73 ci_3 ?_
      refine lr_iload (pc' := 76) 4 C rfl dL_lays_74 rfl ?_
      refine lr_iadd (pc' := 77) C rfl dL_lays_76 ?_
      refine lr_ishr (pc' := 78) C rfl dL_lays_77 ?_
      refine lr_iconst (pc' := 79) C rfl dL_lays_78 ci_1 ?_
      refine lr_iand (pc' := 80) C rfl dL_lays_79 ?_
      refine lr_callV (As := [.int a4, .int (remI (a4 + (nI 1)) a2), .int (((clI L xs (nI 0)) >>> (((nI 3) + a4) &&& 31)) &&& (nI 1))]) (rest := []) (c0 := 0) (cT := (RX9, TX9, 14)) (pc' := 83) 3 C rfl dL_lays_80 cv_X9_door ml_L_21 (by decide) rfl rfl (by decide) (Nat.le_of_ble_eq_true rfl) ob_0 rfl rfl (Nat.le_of_ble_eq_true rfl) (Nat.le_of_ble_eq_true rfl) (CA.monoI h ?_)
      intro r4 M4 h
      refine lr_iload (pc' := 85) 4 C rfl dL_lays_83 rfl ?_
      refine lr_iconst (pc' := 86) C rfl dL_lays_85 ci_1 ?_
      refine lr_iadd (pc' := 87) C rfl dL_lays_86 ?_
      refine lr_icmp_ne (tgt := 94) (pc' := 90) C rfl dL_lays_87 (by decide) (fun q5 => ?_) (fun q5 => ?_)
      · have h := h.1 q5
        refine lr_iconst (pc' := 95) C rfl dL_lays_94 ci_0 ?_
        refine lr_istore_n (pc' := 96) (lv' := [(0, .ref (BX X + 0)), (1, .ref (bX X)), (2, .int a2), (3, .int (nI 0)), (4, .int a4)]) [1, 2, 3, 0, 4] C rfl dL_lays_95 rfl (by decide) rfl ?_
        refine lr_iinc (pc' := 99) (lv' := [(0, .ref (BX X + 0)), (1, .ref (bX X)), (2, .int a2), (3, .int (nI 0)), (4, .int (a4 + (nI 1)))]) 4 [1, 2, 3, 4, 0] C rfl dL_lays_96 rfl (ii_1 _) (by decide) rfl ?_
        refine lr_goto (tgt := 49) C dL_lays_99 (by decide) ?_
        exact lr_sub [0, 1, 2, 3, 4] rfl h
      · have h := h.2 q5
        refine lr_iconst (pc' := 91) C rfl dL_lays_90 ci_1 ?_
        refine lr_goto (tgt := 95) C dL_lays_91 (by decide) ?_
        refine lr_istore_n (pc' := 96) (lv' := [(0, .ref (BX X + 0)), (1, .ref (bX X)), (2, .int a2), (3, .int (nI 1)), (4, .int a4)]) [1, 2, 3, 0, 4] C rfl dL_lays_95 rfl (by decide) rfl ?_
        refine lr_iinc (pc' := 99) (lv' := [(0, .ref (BX X + 0)), (1, .ref (bX X)), (2, .int a2), (3, .int (nI 1)), (4, .int (a4 + (nI 1)))]) 4 [1, 2, 3, 4, 0] C rfl dL_lays_96 rfl (ii_1 _) (by decide) rfl ?_
        refine lr_goto (tgt := 49) C dL_lays_99 (by decide) ?_
        exact lr_sub [0, 1, 2, 3, 4] rfl h
def C_L_walks (L : Nat) (xs : Nat → Int32) (M : Mem) (a2 : Int32) (Q : Int32 → Mem → Prop) : Prop := HLc 4 mdL_walks L xs (fun B b => [.ref (B + 0), .ref b, .int a2, .ref (B + 182)]) M Q
def P_L_walks_15 (X : HX) (M : Mem) (a2 : Int32) (a4 : Int32) (a5 : Int32) (a6 : Int32) : Prop := SW mdL_walks X 0 0 15 [(0, .ref (BX X + 0)), (1, .ref (bX X)), (2, .int a2), (3, .ref (BX X + 182)), (4, .int a4), (5, .int a5), (6, .int a6)] [] (w0 M)
def P_L_walks_49 (X : HX) (M : Mem) (a2 : Int32) (a4 : Int32) (a5 : Int32) (a6 : Int32) (a7 : Int32) (a8 : Int32) (a9 : Int32) (a10 : Int32) : Prop := SW mdL_walks X 0 0 49 [(0, .ref (BX X + 0)), (1, .ref (bX X)), (2, .int a2), (3, .ref (BX X + 182)), (4, .int a4), (5, .int a5), (6, .int a6), (7, .int a7), (8, .int a8), (9, .int a9), (10, .int a10)] [] (w0 M)
def P_L_walks_81 (X : HX) (M : Mem) (a2 : Int32) (a4 : Int32) (a5 : Int32) (a6 : Int32) (a7 : Int32) (a8 : Int32) (a9 : Int32) (a10 : Int32) (a11 : Int32) (a12 : Int32) (a13 : Int32) : Prop := SW mdL_walks X 0 0 81 [(0, .ref (BX X + 0)), (1, .ref (bX X)), (2, .int a2), (3, .ref (BX X + 182)), (4, .int a4), (5, .int a5), (6, .int a6), (7, .int a7), (8, .int a8), (9, .int a9), (10, .int a10), (11, .int a11), (12, .int a12), (13, .int a13)] [] (w0 M)
def P_L_walks_168 (X : HX) (M : Mem) (a2 : Int32) (a4 : Int32) (a6 : Int32) (a7 : Int32) (a9 : Int32) (a10 : Int32) (a11 : Int32) (s0 : Int32) : Prop := SW mdL_walks X 0 0 168 [(0, .ref (BX X + 0)), (1, .ref (bX X)), (2, .int a2), (3, .ref (BX X + 182)), (4, .int a4), (6, .int a6), (7, .int a7), (9, .int a9), (10, .int a10), (11, .int a11)] [.int s0] (w0 M)
def P_L_walks_204 (X : HX) (M : Mem) (a2 : Int32) (a4 : Int32) (a6 : Int32) (a7 : Int32) (a8 : Int32) (a9 : Int32) (a10 : Int32) (a11 : Int32) : Prop := SW mdL_walks X 0 0 204 [(0, .ref (BX X + 0)), (1, .ref (bX X)), (2, .int a2), (3, .ref (BX X + 182)), (4, .int a4), (6, .int a6), (7, .int a7), (8, .int a8), (9, .int a9), (10, .int a10), (11, .int a11)] [] (w0 M)
def P_L_walks_205 (X : HX) (M : Mem) (a2 : Int32) (a4 : Int32) (a6 : Int32) (a7 : Int32) (a8 : Int32) (a9 : Int32) (a10 : Int32) (a11 : Int32) (s0 : Int32) : Prop := SW mdL_walks X 0 0 205 [(0, .ref (BX X + 0)), (1, .ref (bX X)), (2, .int a2), (3, .ref (BX X + 182)), (4, .int a4), (6, .int a6), (7, .int a7), (8, .int a8), (9, .int a9), (10, .int a10), (11, .int a11)] [.int s0] (w0 M)
def P_L_walks_210 (X : HX) (M : Mem) (a2 : Int32) (a4 : Int32) (a5 : Int32) (a6 : Int32) (a7 : Int32) (a8 : Int32) (a9 : Int32) (a10 : Int32) (a11 : Int32) (a13 : Int32) : Prop := SW mdL_walks X 0 0 210 [(0, .ref (BX X + 0)), (1, .ref (bX X)), (2, .int a2), (3, .ref (BX X + 182)), (4, .int a4), (5, .int a5), (6, .int a6), (7, .int a7), (8, .int a8), (9, .int a9), (10, .int a10), (11, .int a11), (13, .int a13)] [] (w0 M)
def P_L_walks_244 (X : HX) (M : Mem) (a2 : Int32) (a4 : Int32) (a5 : Int32) (a6 : Int32) (a8 : Int32) (a9 : Int32) : Prop := SW mdL_walks X 0 0 244 [(0, .ref (BX X + 0)), (1, .ref (bX X)), (2, .int a2), (3, .ref (BX X + 182)), (4, .int a4), (5, .int a5), (6, .int a6), (8, .int a8), (9, .int a9)] [] (w0 M)
theorem T_L_walks {X : HX} {L : Nat} {xs : Nat → Int32} {M : Mem} {a2 : Int32} {Q : Int32 → Mem → Prop} (C : LC mdL_walks 4 0 0 X L xs) (R : RT mdL_walks X 0 0 Q) (h : P_L_walks_15 X M a2 (remI (clI L xs (nI 1)) (nI 3)) (nI 1) (nI 0)) : SW mdL_walks X 0 0 0 [(0, .ref (BX X + 0)), (1, .ref (bX X)), (2, .int a2), (3, .ref (BX X + 182))] [] (w0 M) := by
  refine lr_aload_n (pc' := 1) 1 C rfl dL_walks_0 rfl rfl ?_
  refine lr_iconst (pc' := 2) C rfl dL_walks_1 ci_1 ?_
  refine lr_callS (As := (fun B b => [.ref b, .int (nI 1)])) (rest := []) (pc' := 5) 2 C rfl dL_walks_2 cs_L_cell ml_L_9 (by decide) (fun _ _ => rfl) rfl (by decide) (Nat.le_of_ble_eq_true rfl) (Nat.le_of_ble_eq_true rfl) (Nat.le_of_ble_eq_true rfl) (u_cell (LC_L C) (by decide) ?_)
  refine lr_iconst (pc' := 6) C rfl dL_walks_5 ci_3 ?_
  refine lr_irem (pc' := 7) C rfl dL_walks_6 (by decide) ?_
  refine lr_istore (pc' := 9) (lv' := [(0, .ref (BX X + 0)), (1, .ref (bX X)), (2, .int a2), (3, .ref (BX X + 182)), (4, .int (remI (clI L xs (nI 1)) (nI 3)))]) [1, 2, 3, 4, 0] C rfl dL_walks_7 (by decide) rfl ?_
  refine lr_iconst (pc' := 10) C rfl dL_walks_9 ci_1 ?_
  refine lr_istore (pc' := 12) (lv' := [(0, .ref (BX X + 0)), (1, .ref (bX X)), (2, .int a2), (3, .ref (BX X + 182)), (4, .int (remI (clI L xs (nI 1)) (nI 3))), (5, .int (nI 1))]) [1, 2, 3, 4, 5, 0] C rfl dL_walks_10 (by decide) rfl ?_
  refine lr_iconst (pc' := 13) C rfl dL_walks_12 ci_0 ?_
  refine lr_istore (pc' := 15) (lv' := [(0, .ref (BX X + 0)), (1, .ref (bX X)), (2, .int a2), (3, .ref (BX X + 182)), (4, .int (remI (clI L xs (nI 1)) (nI 3))), (5, .int (nI 1)), (6, .int (nI 0))]) [1, 2, 3, 4, 5, 6, 0] C rfl dL_walks_13 (by decide) rfl ?_
  exact lr_sub [0, 1, 2, 3, 4, 5, 6] rfl h
theorem T_L_walks_15 {X : HX} {L : Nat} {xs : Nat → Int32} {M : Mem} {a2 : Int32} {a4 : Int32} {a5 : Int32} {a6 : Int32} {Q : Int32 → Mem → Prop} (C : LC mdL_walks 4 0 0 X L xs) (R : RT mdL_walks X 0 0 Q) (h : ((a4 ≤ a6) → (((a5 = 0) → (Q (-1) M)) ∧ ((¬ a5 = 0) → (Q a4 M)))) ∧ ((¬ a4 ≤ a6) → (((a5 = 0) → (((a5 = 0) → (Q (-1) M)) ∧ ((¬ a5 = 0) → (Q a4 M)))) ∧ ((¬ a5 = 0) → (¬ ((nI 2) + a6) < 0 ∧ (¬ a2 = 0 ∧ (P_L_walks_49 X M a2 a4 a5 a6 (clI L xs ((nI 2) + a6)) (remI (clI L xs ((nI 2) + a6)) a2) (nI 0) (nI 0)))))))) : P_L_walks_15 X M a2 a4 a5 a6 := by
  refine lr_iload (pc' := 17) 6 C rfl dL_walks_15 rfl ?_
  refine lr_iload (pc' := 19) 4 C rfl dL_walks_17 rfl ?_
  refine lr_icmp_ge (tgt := 296) (pc' := 22) C rfl dL_walks_19 (by decide) (fun q0 => ?_) (fun q0 => ?_)
  · have h := h.1 q0
    refine lr_iload (pc' := 298) 5 C rfl dL_walks_296 rfl ?_
    refine lr_if_eq (tgt := 306) (pc' := 301) C rfl dL_walks_298 (by decide) (fun q1 => ?_) (fun q1 => ?_)
    · have h := h.1 q1
      refine lr_iconst (pc' := 307) C rfl dL_walks_306 ci_m1 ?_
      exact R _ _ _ _ dL_walks_307 h
    · have h := h.2 q1
      refine lr_iload (pc' := 303) 4 C rfl dL_walks_301 rfl ?_
      refine lr_goto (tgt := 307) C dL_walks_303 (by decide) ?_
      exact R _ _ _ _ dL_walks_307 h
  · have h := h.2 q0
    refine lr_iload (pc' := 24) 5 C rfl dL_walks_22 rfl ?_
    refine lr_if_eq (tgt := 296) (pc' := 27) C rfl dL_walks_24 (by decide) (fun q1 => ?_) (fun q1 => ?_)
    · have h := h.1 q1
      refine lr_iload (pc' := 298) 5 C rfl dL_walks_296 rfl ?_
      refine lr_if_eq (tgt := 306) (pc' := 301) C rfl dL_walks_298 (by decide) (fun q2 => ?_) (fun q2 => ?_)
      · have h := h.1 q2
        refine lr_iconst (pc' := 307) C rfl dL_walks_306 ci_m1 ?_
        exact R _ _ _ _ dL_walks_307 h
      · have h := h.2 q2
        refine lr_iload (pc' := 303) 4 C rfl dL_walks_301 rfl ?_
        refine lr_goto (tgt := 307) C dL_walks_303 (by decide) ?_
        exact R _ _ _ _ dL_walks_307 h
    · have h := h.2 q1
      refine lr_aload_n (pc' := 28) 1 C rfl dL_walks_27 rfl rfl ?_
      refine lr_iconst (pc' := 29) C rfl dL_walks_28 ci_2 ?_
      refine lr_iload (pc' := 31) 6 C rfl dL_walks_29 rfl ?_
      refine lr_iadd (pc' := 32) C rfl dL_walks_31 ?_
      obtain ⟨b2, h⟩ := h
      refine lr_callS (As := (fun B b => [.ref b, .int ((nI 2) + a6)])) (rest := []) (pc' := 35) 2 C rfl dL_walks_32 cs_L_cell ml_L_9 (by decide) (fun _ _ => rfl) rfl (by decide) (Nat.le_of_ble_eq_true rfl) (Nat.le_of_ble_eq_true rfl) (Nat.le_of_ble_eq_true rfl) (u_cell (LC_L C) b2 ?_)
      refine lr_istore (pc' := 37) (lv' := [(0, .ref (BX X + 0)), (1, .ref (bX X)), (2, .int a2), (3, .ref (BX X + 182)), (4, .int a4), (5, .int a5), (6, .int a6), (7, .int (clI L xs ((nI 2) + a6)))]) [1, 2, 3, 4, 5, 6, 7, 0] C rfl dL_walks_35 (by decide) rfl ?_
      refine lr_iload (pc' := 39) 7 C rfl dL_walks_37 rfl ?_
      refine lr_iload_n (pc' := 40) 2 C rfl dL_walks_39 rfl rfl ?_
      obtain ⟨z3, h⟩ := h
      refine lr_irem (pc' := 41) C rfl dL_walks_40 z3 ?_
      refine lr_istore (pc' := 43) (lv' := [(0, .ref (BX X + 0)), (1, .ref (bX X)), (2, .int a2), (3, .ref (BX X + 182)), (4, .int a4), (5, .int a5), (6, .int a6), (7, .int (clI L xs ((nI 2) + a6))), (8, .int (remI (clI L xs ((nI 2) + a6)) a2))]) [1, 2, 3, 4, 5, 6, 7, 8, 0] C rfl dL_walks_41 (by decide) rfl ?_
      refine lr_iconst (pc' := 44) C rfl dL_walks_43 ci_0 ?_
      refine lr_istore (pc' := 46) (lv' := [(0, .ref (BX X + 0)), (1, .ref (bX X)), (2, .int a2), (3, .ref (BX X + 182)), (4, .int a4), (5, .int a5), (6, .int a6), (7, .int (clI L xs ((nI 2) + a6))), (8, .int (remI (clI L xs ((nI 2) + a6)) a2)), (9, .int (nI 0))]) [1, 2, 3, 4, 5, 6, 7, 8, 9, 0] C rfl dL_walks_44 (by decide) rfl ?_
      refine lr_iconst (pc' := 47) C rfl dL_walks_46 ci_0 ?_
      refine lr_istore (pc' := 49) (lv' := [(0, .ref (BX X + 0)), (1, .ref (bX X)), (2, .int a2), (3, .ref (BX X + 182)), (4, .int a4), (5, .int a5), (6, .int a6), (7, .int (clI L xs ((nI 2) + a6))), (8, .int (remI (clI L xs ((nI 2) + a6)) a2)), (9, .int (nI 0)), (10, .int (nI 0))]) [1, 2, 3, 4, 5, 6, 7, 8, 9, 10, 0] C rfl dL_walks_47 (by decide) rfl ?_
      exact lr_sub [0, 1, 2, 3, 4, 5, 6, 7, 8, 9, 10] rfl h
theorem T_L_walks_49 {X : HX} {L : Nat} {xs : Nat → Int32} {M : Mem} {a2 : Int32} {a4 : Int32} {a5 : Int32} {a6 : Int32} {a7 : Int32} {a8 : Int32} {a9 : Int32} {a10 : Int32} {Q : Int32 → Mem → Prop} (C : LC mdL_walks 4 0 0 X L xs) (R : RT mdL_walks X 0 0 Q) (h : (((nI 5) ≤ a10) → (P_L_walks_244 X M a2 a4 a5 a6 a8 a9)) ∧ ((¬ (nI 5) ≤ a10) → (((a5 = 0) → (P_L_walks_244 X M a2 a4 a5 a6 a8 a9)) ∧ ((¬ a5 = 0) → (P_L_walks_81 X M a2 a4 a5 a6 a7 a8 a9 a10 ((nI 1) + (remI (a7 >>> (((nI 3) + ((nI 3) * a10)) &&& 31)) (nI 4))) (-1) (nI 0)))))) : P_L_walks_49 X M a2 a4 a5 a6 a7 a8 a9 a10 := by
  refine lr_iload (pc' := 51) 10 C rfl dL_walks_49 rfl ?_
  refine lr_iconst (pc' := 52) C rfl dL_walks_51 ci_5 ?_
  refine lr_icmp_ge (tgt := 244) (pc' := 55) C rfl dL_walks_52 (by decide) (fun q0 => ?_) (fun q0 => ?_)
  · have h := h.1 q0
    exact lr_sub [0, 1, 2, 3, 4, 5, 6, 8, 9] rfl h
  · have h := h.2 q0
    refine lr_iload (pc' := 57) 5 C rfl dL_walks_55 rfl ?_
    refine lr_if_eq (tgt := 244) (pc' := 60) C rfl dL_walks_57 (by decide) (fun q1 => ?_) (fun q1 => ?_)
    · have h := h.1 q1
      exact lr_sub [0, 1, 2, 3, 4, 5, 6, 8, 9] rfl h
    · have h := h.2 q1
      refine lr_iconst (pc' := 61) C rfl dL_walks_60 ci_1 ?_
      refine lr_iload (pc' := 63) 7 C rfl dL_walks_61 rfl ?_
      refine lr_iconst (pc' := 64) C rfl dL_walks_63 ci_3 ?_
      refine lr_iconst (pc' := 65) C rfl dL_walks_64 ci_3 ?_
      refine lr_iload (pc' := 67) 10 C rfl dL_walks_65 rfl ?_
      refine lr_imul (pc' := 68) C rfl dL_walks_67 ?_
      refine lr_iadd (pc' := 69) C rfl dL_walks_68 ?_
      refine lr_ishr (pc' := 70) C rfl dL_walks_69 ?_
      refine lr_iconst (pc' := 71) C rfl dL_walks_70 ci_4 ?_
      refine lr_irem (pc' := 72) C rfl dL_walks_71 (by decide) ?_
      refine lr_iadd (pc' := 73) C rfl dL_walks_72 ?_
      refine lr_istore (pc' := 75) (lv' := [(0, .ref (BX X + 0)), (1, .ref (bX X)), (2, .int a2), (3, .ref (BX X + 182)), (4, .int a4), (5, .int a5), (6, .int a6), (7, .int a7), (8, .int a8), (9, .int a9), (10, .int a10), (11, .int ((nI 1) + (remI (a7 >>> (((nI 3) + ((nI 3) * a10)) &&& 31)) (nI 4))))]) [1, 2, 3, 4, 5, 6, 7, 8, 9, 10, 11, 0] C rfl dL_walks_73 (by decide) rfl ?_
      refine lr_iconst (pc' := 76) C rfl dL_walks_75 ci_m1 ?_
      refine lr_istore (pc' := 78) (lv' := [(0, .ref (BX X + 0)), (1, .ref (bX X)), (2, .int a2), (3, .ref (BX X + 182)), (4, .int a4), (5, .int a5), (6, .int a6), (7, .int a7), (8, .int a8), (9, .int a9), (10, .int a10), (11, .int ((nI 1) + (remI (a7 >>> (((nI 3) + ((nI 3) * a10)) &&& 31)) (nI 4)))), (12, .int (-1))]) [1, 2, 3, 4, 5, 6, 7, 8, 9, 10, 11, 12, 0] C rfl dL_walks_76 (by decide) rfl ?_
      refine lr_iconst (pc' := 79) C rfl dL_walks_78 ci_0 ?_
      refine lr_istore (pc' := 81) (lv' := [(0, .ref (BX X + 0)), (1, .ref (bX X)), (2, .int a2), (3, .ref (BX X + 182)), (4, .int a4), (5, .int a5), (6, .int a6), (7, .int a7), (8, .int a8), (9, .int a9), (10, .int a10), (11, .int ((nI 1) + (remI (a7 >>> (((nI 3) + ((nI 3) * a10)) &&& 31)) (nI 4)))), (12, .int (-1)), (13, .int (nI 0))]) [1, 2, 3, 4, 5, 6, 7, 8, 9, 10, 11, 12, 13, 0] C rfl dL_walks_79 (by decide) rfl ?_
      exact lr_sub [0, 1, 2, 3, 4, 5, 6, 7, 8, 9, 10, 11, 12, 13] rfl h
theorem T_L_walks_81 {X : HX} {L : Nat} {xs : Nat → Int32} {M : Mem} {a2 : Int32} {a4 : Int32} {a5 : Int32} {a6 : Int32} {a7 : Int32} {a8 : Int32} {a9 : Int32} {a10 : Int32} {a11 : Int32} {a12 : Int32} {a13 : Int32} {Q : Int32 → Mem → Prop} (C : LC mdL_walks 4 0 0 X L xs) (R : RT mdL_walks X 0 0 Q) (h : ((a2 ≤ a13) → (((a10 = 0) → (((¬ a10 = 0) → (P_L_walks_168 X M a2 a4 a6 a7 a9 a10 a11 a12)) ∧ ((a10 = 0) → (P_L_walks_168 X M a2 a4 a6 a7 a9 a10 a11 a8)))) ∧ ((¬ a10 = 0) → (((a12 < 0) → (P_L_walks_49 X M a2 a4 a5 a6 a7 a8 a9 (a10 + (nI 1)))) ∧ ((¬ a12 < 0) → (((¬ a10 = 0) → (P_L_walks_168 X M a2 a4 a6 a7 a9 a10 a11 a12)) ∧ ((a10 = 0) → (P_L_walks_168 X M a2 a4 a6 a7 a9 a10 a11 a8)))))))) ∧ ((¬ a2 ≤ a13) → (((a10 ≤ 0) → (((a10 = 0) → (((¬ a10 = 0) → (P_L_walks_168 X M a2 a4 a6 a7 a9 a10 a11 a12)) ∧ ((a10 = 0) → (P_L_walks_168 X M a2 a4 a6 a7 a9 a10 a11 a8)))) ∧ ((¬ a10 = 0) → (((a12 < 0) → (P_L_walks_49 X M a2 a4 a5 a6 a7 a8 a9 (a10 + (nI 1)))) ∧ ((¬ a12 < 0) → (((¬ a10 = 0) → (P_L_walks_168 X M a2 a4 a6 a7 a9 a10 a11 a12)) ∧ ((a10 = 0) → (P_L_walks_168 X M a2 a4 a6 a7 a9 a10 a11 a8)))))))) ∧ ((¬ a10 ≤ 0) → (¬ a2 = 0 ∧ (((0 ≤ a12) → (P_L_walks_81 X M a2 a4 a5 a6 a7 a8 a9 a10 a11 a12 (a13 + (nI 1)))) ∧ ((¬ 0 ≤ a12) → ((((remI (a13 + (a7 >>> (((nI 18) + a10) &&& 31))) a2) = a8) → (P_L_walks_81 X M a2 a4 a5 a6 a7 a8 a9 a10 a11 a12 (a13 + (nI 1)))) ∧ ((¬ (remI (a13 + (a7 >>> (((nI 18) + a10) &&& 31))) a2) = a8) → (((¬ (drI L xs a2 a8 (remI (a13 + (a7 >>> (((nI 18) + a10) &&& 31))) a2)) = 0) → (P_L_walks_81 X M a2 a4 a5 a6 a7 a8 a9 a10 a11 a12 (a13 + (nI 1)))) ∧ (((drI L xs a2 a8 (remI (a13 + (a7 >>> (((nI 18) + a10) &&& 31))) a2)) = 0) → (P_L_walks_81 X M a2 a4 a5 a6 a7 a8 a9 a10 a11 (remI (a13 + (a7 >>> (((nI 18) + a10) &&& 31))) a2) (a13 + (nI 1)))))))))))))) : P_L_walks_81 X M a2 a4 a5 a6 a7 a8 a9 a10 a11 a12 a13 := by
  refine lr_iload (pc' := 83) 13 C rfl dL_walks_81 rfl ?_
  refine lr_iload_n (pc' := 84) 2 C rfl dL_walks_83 rfl rfl ?_
  refine lr_icmp_ge (tgt := 146) (pc' := 87) C rfl dL_walks_84 (by decide) (fun q0 => ?_) (fun q0 => ?_)
  · have h := h.1 q0
    refine lr_iload (pc' := 148) 10 C rfl dL_walks_146 rfl ?_
    refine lr_if_eq (tgt := 156) (pc' := 151) C rfl dL_walks_148 (by decide) (fun q1 => ?_) (fun q1 => ?_)
    · have h := h.1 q1
      refine lr_iload (pc' := 158) 10 C rfl dL_walks_156 rfl ?_
      refine lr_if_ne (tgt := 166) (pc' := 161) C rfl dL_walks_158 (by decide) (fun q2 => ?_) (fun q2 => ?_)
      · have h := h.1 q2
        refine lr_iload (pc' := 168) 12 C rfl dL_walks_166 rfl ?_
        exact lr_sub [0, 1, 2, 3, 4, 6, 7, 9, 10, 11] rfl h
      · have h := h.2 q2
        refine lr_iload (pc' := 163) 8 C rfl dL_walks_161 rfl ?_
        refine lr_goto (tgt := 168) C dL_walks_163 (by decide) ?_
        exact lr_sub [0, 1, 2, 3, 4, 6, 7, 9, 10, 11] rfl h
    · have h := h.2 q1
      refine lr_iload (pc' := 153) 12 C rfl dL_walks_151 rfl ?_
      refine lr_if_lt (tgt := 238) (pc' := 156) C rfl dL_walks_153 (by decide) (fun q2 => ?_) (fun q2 => ?_)
      · have h := h.1 q2
        refine lr_iinc (pc' := 241) (lv' := [(0, .ref (BX X + 0)), (1, .ref (bX X)), (2, .int a2), (3, .ref (BX X + 182)), (4, .int a4), (5, .int a5), (6, .int a6), (7, .int a7), (8, .int a8), (9, .int a9), (10, .int (a10 + (nI 1))), (11, .int a11), (12, .int a12), (13, .int a13)]) 10 [1, 2, 3, 4, 5, 6, 7, 8, 9, 10, 0, 11, 12, 13] C rfl dL_walks_238 rfl (ii_1 _) (by decide) rfl ?_
        refine lr_goto (tgt := 49) C dL_walks_241 (by decide) ?_
        exact lr_sub [0, 1, 2, 3, 4, 5, 6, 7, 8, 9, 10] rfl h
      · have h := h.2 q2
        refine lr_iload (pc' := 158) 10 C rfl dL_walks_156 rfl ?_
        refine lr_if_ne (tgt := 166) (pc' := 161) C rfl dL_walks_158 (by decide) (fun q3 => ?_) (fun q3 => ?_)
        · have h := h.1 q3
          refine lr_iload (pc' := 168) 12 C rfl dL_walks_166 rfl ?_
          exact lr_sub [0, 1, 2, 3, 4, 6, 7, 9, 10, 11] rfl h
        · have h := h.2 q3
          refine lr_iload (pc' := 163) 8 C rfl dL_walks_161 rfl ?_
          refine lr_goto (tgt := 168) C dL_walks_163 (by decide) ?_
          exact lr_sub [0, 1, 2, 3, 4, 6, 7, 9, 10, 11] rfl h
  · have h := h.2 q0
    refine lr_iload (pc' := 89) 10 C rfl dL_walks_87 rfl ?_
    refine lr_if_le (tgt := 146) (pc' := 92) C rfl dL_walks_89 (by decide) (fun q1 => ?_) (fun q1 => ?_)
    · have h := h.1 q1
      refine lr_iload (pc' := 148) 10 C rfl dL_walks_146 rfl ?_
      refine lr_if_eq (tgt := 156) (pc' := 151) C rfl dL_walks_148 (by decide) (fun q2 => ?_) (fun q2 => ?_)
      · have h := h.1 q2
        refine lr_iload (pc' := 158) 10 C rfl dL_walks_156 rfl ?_
        refine lr_if_ne (tgt := 166) (pc' := 161) C rfl dL_walks_158 (by decide) (fun q3 => ?_) (fun q3 => ?_)
        · have h := h.1 q3
          refine lr_iload (pc' := 168) 12 C rfl dL_walks_166 rfl ?_
          exact lr_sub [0, 1, 2, 3, 4, 6, 7, 9, 10, 11] rfl h
        · have h := h.2 q3
          refine lr_iload (pc' := 163) 8 C rfl dL_walks_161 rfl ?_
          refine lr_goto (tgt := 168) C dL_walks_163 (by decide) ?_
          exact lr_sub [0, 1, 2, 3, 4, 6, 7, 9, 10, 11] rfl h
      · have h := h.2 q2
        refine lr_iload (pc' := 153) 12 C rfl dL_walks_151 rfl ?_
        refine lr_if_lt (tgt := 238) (pc' := 156) C rfl dL_walks_153 (by decide) (fun q3 => ?_) (fun q3 => ?_)
        · have h := h.1 q3
          refine lr_iinc (pc' := 241) (lv' := [(0, .ref (BX X + 0)), (1, .ref (bX X)), (2, .int a2), (3, .ref (BX X + 182)), (4, .int a4), (5, .int a5), (6, .int a6), (7, .int a7), (8, .int a8), (9, .int a9), (10, .int (a10 + (nI 1))), (11, .int a11), (12, .int a12), (13, .int a13)]) 10 [1, 2, 3, 4, 5, 6, 7, 8, 9, 10, 0, 11, 12, 13] C rfl dL_walks_238 rfl (ii_1 _) (by decide) rfl ?_
          refine lr_goto (tgt := 49) C dL_walks_241 (by decide) ?_
          exact lr_sub [0, 1, 2, 3, 4, 5, 6, 7, 8, 9, 10] rfl h
        · have h := h.2 q3
          refine lr_iload (pc' := 158) 10 C rfl dL_walks_156 rfl ?_
          refine lr_if_ne (tgt := 166) (pc' := 161) C rfl dL_walks_158 (by decide) (fun q4 => ?_) (fun q4 => ?_)
          · have h := h.1 q4
            refine lr_iload (pc' := 168) 12 C rfl dL_walks_166 rfl ?_
            exact lr_sub [0, 1, 2, 3, 4, 6, 7, 9, 10, 11] rfl h
          · have h := h.2 q4
            refine lr_iload (pc' := 163) 8 C rfl dL_walks_161 rfl ?_
            refine lr_goto (tgt := 168) C dL_walks_163 (by decide) ?_
            exact lr_sub [0, 1, 2, 3, 4, 6, 7, 9, 10, 11] rfl h
    · have h := h.2 q1
      refine lr_iload (pc' := 94) 13 C rfl dL_walks_92 rfl ?_
      refine lr_iload (pc' := 96) 7 C rfl dL_walks_94 rfl ?_
      refine lr_bipush (pc' := 98) C rfl dL_walks_96 cb_18 ?_
      refine lr_iload (pc' := 100) 10 C rfl dL_walks_98 rfl ?_
      refine lr_iadd (pc' := 101) C rfl dL_walks_100 ?_
      refine lr_ishr (pc' := 102) C rfl dL_walks_101 ?_
      refine lr_iadd (pc' := 103) C rfl dL_walks_102 ?_
      refine lr_iload_n (pc' := 104) 2 C rfl dL_walks_103 rfl rfl ?_
      obtain ⟨z2, h⟩ := h
      refine lr_irem (pc' := 105) C rfl dL_walks_104 z2 ?_
      refine lr_istore (pc' := 107) (lv' := [(0, .ref (BX X + 0)), (1, .ref (bX X)), (2, .int a2), (3, .ref (BX X + 182)), (4, .int a4), (5, .int a5), (6, .int a6), (7, .int a7), (8, .int a8), (9, .int a9), (10, .int a10), (11, .int a11), (12, .int a12), (13, .int a13), (14, .int (remI (a13 + (a7 >>> (((nI 18) + a10) &&& 31))) a2))]) [1, 2, 3, 4, 5, 6, 7, 8, 9, 10, 11, 12, 13, 14, 0] C rfl dL_walks_105 (by decide) rfl ?_
      refine lr_iload (pc' := 109) 12 C rfl dL_walks_107 rfl ?_
      refine lr_if_ge (tgt := 136) (pc' := 112) C rfl dL_walks_109 (by decide) (fun q3 => ?_) (fun q3 => ?_)
      · have h := h.1 q3
        refine lr_iload (pc' := 138) 12 C rfl dL_walks_136 rfl ?_
        refine lr_istore (pc' := 140) (lv' := [(0, .ref (BX X + 0)), (1, .ref (bX X)), (2, .int a2), (3, .ref (BX X + 182)), (4, .int a4), (5, .int a5), (6, .int a6), (7, .int a7), (8, .int a8), (9, .int a9), (10, .int a10), (11, .int a11), (12, .int a12), (13, .int a13), (14, .int (remI (a13 + (a7 >>> (((nI 18) + a10) &&& 31))) a2))]) [1, 2, 3, 4, 5, 6, 7, 8, 9, 10, 11, 12, 0, 13, 14] C rfl dL_walks_138 (by decide) rfl ?_
        refine lr_iinc (pc' := 143) (lv' := [(0, .ref (BX X + 0)), (1, .ref (bX X)), (2, .int a2), (3, .ref (BX X + 182)), (4, .int a4), (5, .int a5), (6, .int a6), (7, .int a7), (8, .int a8), (9, .int a9), (10, .int a10), (11, .int a11), (12, .int a12), (13, .int (a13 + (nI 1))), (14, .int (remI (a13 + (a7 >>> (((nI 18) + a10) &&& 31))) a2))]) 13 [1, 2, 3, 4, 5, 6, 7, 8, 9, 10, 11, 12, 13, 0, 14] C rfl dL_walks_140 rfl (ii_1 _) (by decide) rfl ?_
        refine lr_goto (tgt := 81) C dL_walks_143 (by decide) ?_
        exact lr_sub [0, 1, 2, 3, 4, 5, 6, 7, 8, 9, 10, 11, 12, 13] rfl h
      · have h := h.2 q3
        refine lr_iload (pc' := 114) 14 C rfl dL_walks_112 rfl ?_
        refine lr_iload (pc' := 116) 8 C rfl dL_walks_114 rfl ?_
        refine lr_icmp_eq (tgt := 136) (pc' := 119) C rfl dL_walks_116 (by decide) (fun q4 => ?_) (fun q4 => ?_)
        · have h := h.1 q4
          refine lr_iload (pc' := 138) 12 C rfl dL_walks_136 rfl ?_
          refine lr_istore (pc' := 140) (lv' := [(0, .ref (BX X + 0)), (1, .ref (bX X)), (2, .int a2), (3, .ref (BX X + 182)), (4, .int a4), (5, .int a5), (6, .int a6), (7, .int a7), (8, .int a8), (9, .int a9), (10, .int a10), (11, .int a11), (12, .int a12), (13, .int a13), (14, .int (remI (a13 + (a7 >>> (((nI 18) + a10) &&& 31))) a2))]) [1, 2, 3, 4, 5, 6, 7, 8, 9, 10, 11, 12, 0, 13, 14] C rfl dL_walks_138 (by decide) rfl ?_
          refine lr_iinc (pc' := 143) (lv' := [(0, .ref (BX X + 0)), (1, .ref (bX X)), (2, .int a2), (3, .ref (BX X + 182)), (4, .int a4), (5, .int a5), (6, .int a6), (7, .int a7), (8, .int a8), (9, .int a9), (10, .int a10), (11, .int a11), (12, .int a12), (13, .int (a13 + (nI 1))), (14, .int (remI (a13 + (a7 >>> (((nI 18) + a10) &&& 31))) a2))]) 13 [1, 2, 3, 4, 5, 6, 7, 8, 9, 10, 11, 12, 13, 0, 14] C rfl dL_walks_140 rfl (ii_1 _) (by decide) rfl ?_
          refine lr_goto (tgt := 81) C dL_walks_143 (by decide) ?_
          exact lr_sub [0, 1, 2, 3, 4, 5, 6, 7, 8, 9, 10, 11, 12, 13] rfl h
        · have h := h.2 q4
          refine lr_aload_n (pc' := 120) 1 C rfl dL_walks_119 rfl rfl ?_
          refine lr_iload_n (pc' := 121) 2 C rfl dL_walks_120 rfl rfl ?_
          refine lr_iload (pc' := 123) 8 C rfl dL_walks_121 rfl ?_
          refine lr_iload (pc' := 125) 14 C rfl dL_walks_123 rfl ?_
          refine lr_callS (As := (fun B b => [.ref b, .int a2, .int a8, .int (remI (a13 + (a7 >>> (((nI 18) + a10) &&& 31))) a2)])) (rest := []) (pc' := 128) 4 C rfl dL_walks_125 cs_L_door ml_L_25 (by decide) (fun _ _ => rfl) rfl (by decide) (Nat.le_of_ble_eq_true rfl) (Nat.le_of_ble_eq_true rfl) (Nat.le_of_ble_eq_true rfl) (u_door (LC_L C) ?_)
          refine lr_if_ne (tgt := 136) (pc' := 131) C rfl dL_walks_128 (by decide) (fun q6 => ?_) (fun q6 => ?_)
          · have h := h.1 q6
            refine lr_iload (pc' := 138) 12 C rfl dL_walks_136 rfl ?_
            refine lr_istore (pc' := 140) (lv' := [(0, .ref (BX X + 0)), (1, .ref (bX X)), (2, .int a2), (3, .ref (BX X + 182)), (4, .int a4), (5, .int a5), (6, .int a6), (7, .int a7), (8, .int a8), (9, .int a9), (10, .int a10), (11, .int a11), (12, .int a12), (13, .int a13), (14, .int (remI (a13 + (a7 >>> (((nI 18) + a10) &&& 31))) a2))]) [1, 2, 3, 4, 5, 6, 7, 8, 9, 10, 11, 12, 0, 13, 14] C rfl dL_walks_138 (by decide) rfl ?_
            refine lr_iinc (pc' := 143) (lv' := [(0, .ref (BX X + 0)), (1, .ref (bX X)), (2, .int a2), (3, .ref (BX X + 182)), (4, .int a4), (5, .int a5), (6, .int a6), (7, .int a7), (8, .int a8), (9, .int a9), (10, .int a10), (11, .int a11), (12, .int a12), (13, .int (a13 + (nI 1))), (14, .int (remI (a13 + (a7 >>> (((nI 18) + a10) &&& 31))) a2))]) 13 [1, 2, 3, 4, 5, 6, 7, 8, 9, 10, 11, 12, 13, 0, 14] C rfl dL_walks_140 rfl (ii_1 _) (by decide) rfl ?_
            refine lr_goto (tgt := 81) C dL_walks_143 (by decide) ?_
            exact lr_sub [0, 1, 2, 3, 4, 5, 6, 7, 8, 9, 10, 11, 12, 13] rfl h
          · have h := h.2 q6
            refine lr_iload (pc' := 133) 14 C rfl dL_walks_131 rfl ?_
            refine lr_goto (tgt := 138) C dL_walks_133 (by decide) ?_
            refine lr_istore (pc' := 140) (lv' := [(0, .ref (BX X + 0)), (1, .ref (bX X)), (2, .int a2), (3, .ref (BX X + 182)), (4, .int a4), (5, .int a5), (6, .int a6), (7, .int a7), (8, .int a8), (9, .int a9), (10, .int a10), (11, .int a11), (12, .int (remI (a13 + (a7 >>> (((nI 18) + a10) &&& 31))) a2)), (13, .int a13), (14, .int (remI (a13 + (a7 >>> (((nI 18) + a10) &&& 31))) a2))]) [1, 2, 3, 4, 5, 6, 7, 8, 9, 10, 11, 12, 0, 13, 14] C rfl dL_walks_138 (by decide) rfl ?_
            refine lr_iinc (pc' := 143) (lv' := [(0, .ref (BX X + 0)), (1, .ref (bX X)), (2, .int a2), (3, .ref (BX X + 182)), (4, .int a4), (5, .int a5), (6, .int a6), (7, .int a7), (8, .int a8), (9, .int a9), (10, .int a10), (11, .int a11), (12, .int (remI (a13 + (a7 >>> (((nI 18) + a10) &&& 31))) a2)), (13, .int (a13 + (nI 1))), (14, .int (remI (a13 + (a7 >>> (((nI 18) + a10) &&& 31))) a2))]) 13 [1, 2, 3, 4, 5, 6, 7, 8, 9, 10, 11, 12, 13, 0, 14] C rfl dL_walks_140 rfl (ii_1 _) (by decide) rfl ?_
            refine lr_goto (tgt := 81) C dL_walks_143 (by decide) ?_
            exact lr_sub [0, 1, 2, 3, 4, 5, 6, 7, 8, 9, 10, 11, 12, 13] rfl h
theorem T_L_walks_168 {X : HX} {L : Nat} {xs : Nat → Int32} {M : Mem} {a2 : Int32} {a4 : Int32} {a6 : Int32} {a7 : Int32} {a9 : Int32} {a10 : Int32} {a11 : Int32} {s0 : Int32} {Q : Int32 → Mem → Prop} (C : LC mdL_walks 4 0 0 X L xs) (R : RT mdL_walks X 0 0 Q) (h : C_X9_type M ((97 : Int64) + (s0.toInt64)) (nI 1) (fun r0 M0 => ((r0 ≤ 0) → (P_L_walks_204 X M0 a2 a4 a6 a7 s0 a9 a10 a11)) ∧ ((¬ r0 ≤ 0) → (C_X9_type M0 ((48 : Int64) + (a11.toInt64)) (nI 1) (fun r2 M2 => ((r2 ≤ 0) → (P_L_walks_204 X M2 a2 a4 a6 a7 s0 a9 a10 a11)) ∧ ((¬ r2 ≤ 0) → (P_L_walks_205 X M2 a2 a4 a6 a7 s0 a9 a10 a11 (nI 1)))))))) : P_L_walks_168 X M a2 a4 a6 a7 a9 a10 a11 s0 := by
  refine lr_istore (pc' := 170) (lv' := [(0, .ref (BX X + 0)), (1, .ref (bX X)), (2, .int a2), (3, .ref (BX X + 182)), (4, .int a4), (6, .int a6), (7, .int a7), (8, .int s0), (9, .int a9), (10, .int a10), (11, .int a11)]) [1, 2, 3, 4, 5, 6, 7, 0, 8, 9, 10] C rfl dL_walks_168 (by decide) rfl ?_
  refine lr_aload_n (pc' := 171) 0 C rfl dL_walks_170 rfl rfl ?_
  refine lr_ldc2 (pc' := 174) C rfl dL_walks_171 cn_L_28 ?_
  refine lr_iload (pc' := 176) 7 C rfl dL_walks_174 rfl ?_
  refine lr_i2l (pc' := 177) C rfl dL_walks_176 rfl ?_
  refine lr_ladd (pc' := 178) C rfl dL_walks_177 ?_
  refine lr_iconst (pc' := 179) C rfl dL_walks_178 ci_1 ?_
  refine lr_callV (As := [.long ((97 : Int64) + (s0.toInt64)), .int (nI 1)]) (rest := []) (c0 := 0) (cT := (RX9, TX9, 14)) (pc' := 182) 2 C rfl dL_walks_179 cv_X9_type ml_L_30 (by decide) rfl rfl (by decide) (Nat.le_of_ble_eq_true rfl) ob_0 rfl rfl (Nat.le_of_ble_eq_true rfl) (Nat.le_of_ble_eq_true rfl) (CA.monoI h ?_)
  intro r0 M0 h
  refine lr_if_le (tgt := 204) (pc' := 185) C rfl dL_walks_182 (by decide) (fun q1 => ?_) (fun q1 => ?_)
  · have h := h.1 q1
    exact lr_sub [0, 1, 2, 3, 4, 5, 6, 7, 8, 9, 10] rfl h
  · have h := h.2 q1
    refine lr_aload_n (pc' := 186) 0 C rfl dL_walks_185 rfl rfl ?_
    refine lr_ldc2 (pc' := 189) C rfl dL_walks_186 cn_L_34 ?_
    refine lr_iload (pc' := 191) 10 C rfl dL_walks_189 rfl ?_
    refine lr_i2l (pc' := 192) C rfl dL_walks_191 rfl ?_
    refine lr_ladd (pc' := 193) C rfl dL_walks_192 ?_
    refine lr_iconst (pc' := 194) C rfl dL_walks_193 ci_1 ?_
    refine lr_callV (As := [.long ((48 : Int64) + (a11.toInt64)), .int (nI 1)]) (rest := []) (c0 := 0) (cT := (RX9, TX9, 14)) (pc' := 197) 2 C rfl dL_walks_194 cv_X9_type ml_L_30 (by decide) rfl rfl (by decide) (Nat.le_of_ble_eq_true rfl) ob_0 rfl rfl (Nat.le_of_ble_eq_true rfl) (Nat.le_of_ble_eq_true rfl) (CA.monoI h ?_)
    intro r2 M2 h
    refine lr_if_le (tgt := 204) (pc' := 200) C rfl dL_walks_197 (by decide) (fun q3 => ?_) (fun q3 => ?_)
    · have h := h.1 q3
      exact lr_sub [0, 1, 2, 3, 4, 5, 6, 7, 8, 9, 10] rfl h
    · have h := h.2 q3
      refine lr_iconst (pc' := 201) C rfl dL_walks_200 ci_1 ?_
      refine lr_goto (tgt := 205) C dL_walks_201 (by decide) ?_
      exact lr_sub [0, 1, 2, 3, 4, 5, 6, 7, 8, 9, 10] rfl h
theorem T_L_walks_204 {X : HX} {L : Nat} {xs : Nat → Int32} {M : Mem} {a2 : Int32} {a4 : Int32} {a6 : Int32} {a7 : Int32} {a8 : Int32} {a9 : Int32} {a10 : Int32} {a11 : Int32} {Q : Int32 → Mem → Prop} (C : LC mdL_walks 4 0 0 X L xs) (R : RT mdL_walks X 0 0 Q) (h : P_L_walks_205 X M a2 a4 a6 a7 a8 a9 a10 a11 (nI 0)) : P_L_walks_204 X M a2 a4 a6 a7 a8 a9 a10 a11 := by
  refine lr_iconst (pc' := 205) C rfl dL_walks_204 ci_0 ?_
  exact lr_sub [0, 1, 2, 3, 4, 5, 6, 7, 8, 9, 10] rfl h
theorem T_L_walks_205 {X : HX} {L : Nat} {xs : Nat → Int32} {M : Mem} {a2 : Int32} {a4 : Int32} {a6 : Int32} {a7 : Int32} {a8 : Int32} {a9 : Int32} {a10 : Int32} {a11 : Int32} {s0 : Int32} {Q : Int32 → Mem → Prop} (C : LC mdL_walks 4 0 0 X L xs) (R : RT mdL_walks X 0 0 Q) (h : P_L_walks_210 X M a2 a4 s0 a6 a7 a8 a9 a10 a11 (nI 0)) : P_L_walks_205 X M a2 a4 a6 a7 a8 a9 a10 a11 s0 := by
  refine lr_istore (pc' := 207) (lv' := [(0, .ref (BX X + 0)), (1, .ref (bX X)), (2, .int a2), (3, .ref (BX X + 182)), (4, .int a4), (5, .int s0), (6, .int a6), (7, .int a7), (8, .int a8), (9, .int a9), (10, .int a10), (11, .int a11)]) [1, 2, 3, 4, 5, 0, 6, 7, 8, 9, 10, 11] C rfl dL_walks_205 (by decide) rfl ?_
  refine lr_iconst (pc' := 208) C rfl dL_walks_207 ci_0 ?_
  refine lr_istore (pc' := 210) (lv' := [(0, .ref (BX X + 0)), (1, .ref (bX X)), (2, .int a2), (3, .ref (BX X + 182)), (4, .int a4), (5, .int s0), (6, .int a6), (7, .int a7), (8, .int a8), (9, .int a9), (10, .int a10), (11, .int a11), (13, .int (nI 0))]) [1, 2, 3, 4, 5, 6, 7, 8, 9, 10, 11, 12, 0] C rfl dL_walks_208 (by decide) rfl ?_
  exact lr_sub [0, 1, 2, 3, 4, 5, 6, 7, 8, 9, 10, 11, 12] rfl h
theorem T_L_walks_210 {X : HX} {L : Nat} {xs : Nat → Int32} {M : Mem} {a2 : Int32} {a4 : Int32} {a5 : Int32} {a6 : Int32} {a7 : Int32} {a8 : Int32} {a9 : Int32} {a10 : Int32} {a11 : Int32} {a13 : Int32} {Q : Int32 → Mem → Prop} (C : LC mdL_walks 4 0 0 X L xs) (R : RT mdL_walks X 0 0 Q) (h : ((a11 ≤ a13) → (P_L_walks_49 X M a2 a4 a5 a6 a7 a8 a9 (a10 + (nI 1)))) ∧ ((¬ a11 ≤ a13) → ((182 < 182 + gx M ∧ vp_in (((nI 24) * a6) + a9) 48) ∧ (P_L_walks_210 X (wr M 182 (ix (((nI 24) * a6) + a9)) a8) a2 a4 a5 a6 a7 a8 (a9 + (nI 1)) a10 a11 (a13 + (nI 1)))))) : P_L_walks_210 X M a2 a4 a5 a6 a7 a8 a9 a10 a11 a13 := by
  refine lr_iload (pc' := 212) 12 C rfl dL_walks_210 rfl ?_
  refine lr_iload (pc' := 214) 11 C rfl dL_walks_212 rfl ?_
  refine lr_icmp_ge (tgt := 238) (pc' := 217) C rfl dL_walks_214 (by decide) (fun q0 => ?_) (fun q0 => ?_)
  · have h := h.1 q0
    refine lr_iinc (pc' := 241) (lv' := [(0, .ref (BX X + 0)), (1, .ref (bX X)), (2, .int a2), (3, .ref (BX X + 182)), (4, .int a4), (5, .int a5), (6, .int a6), (7, .int a7), (8, .int a8), (9, .int a9), (10, .int (a10 + (nI 1))), (11, .int a11), (13, .int a13)]) 10 [1, 2, 3, 4, 5, 6, 7, 8, 9, 10, 0, 11, 12] C rfl dL_walks_238 rfl (ii_1 _) (by decide) rfl ?_
    refine lr_goto (tgt := 49) C dL_walks_241 (by decide) ?_
    exact lr_sub [0, 1, 2, 3, 4, 5, 6, 7, 8, 9, 10] rfl h
  · have h := h.2 q0
    refine lr_aload_n (pc' := 218) 3 C rfl dL_walks_217 rfl rfl ?_
    refine lr_bipush (pc' := 220) C rfl dL_walks_218 cb_24 ?_
    refine lr_iload (pc' := 222) 6 C rfl dL_walks_220 rfl ?_
    refine lr_imul (pc' := 223) C rfl dL_walks_222 ?_
    refine lr_iload (pc' := 225) 9 C rfl dL_walks_223 rfl ?_
    refine lr_iadd (pc' := 226) C rfl dL_walks_225 ?_
    refine lr_iload (pc' := 228) 8 C rfl dL_walks_226 rfl ?_
    obtain ⟨b1, h⟩ := h
    refine lr_iast (n := 48) (pc' := 229) C rfl dL_walks_228 b1.1 (by omega) rfl b1.2 ?_
    refine lr_iinc (pc' := 232) (lv' := [(0, .ref (BX X + 0)), (1, .ref (bX X)), (2, .int a2), (3, .ref (BX X + 182)), (4, .int a4), (5, .int a5), (6, .int a6), (7, .int a7), (8, .int a8), (9, .int (a9 + (nI 1))), (10, .int a10), (11, .int a11), (13, .int a13)]) 9 [1, 2, 3, 4, 5, 6, 7, 8, 9, 0, 10, 11, 12] C rfl dL_walks_229 rfl (ii_1 _) (by decide) rfl ?_
    refine lr_iinc (pc' := 235) (lv' := [(0, .ref (BX X + 0)), (1, .ref (bX X)), (2, .int a2), (3, .ref (BX X + 182)), (4, .int a4), (5, .int a5), (6, .int a6), (7, .int a7), (8, .int a8), (9, .int (a9 + (nI 1))), (10, .int a10), (11, .int a11), (13, .int (a13 + (nI 1)))]) 12 [1, 2, 3, 4, 5, 6, 7, 8, 9, 10, 11, 12, 0] C rfl dL_walks_232 rfl (ii_1 _) (by decide) rfl ?_
    refine lr_goto (tgt := 210) C dL_walks_235 (by decide) ?_
    exact lr_sub [0, 1, 2, 3, 4, 5, 6, 7, 8, 9, 10, 11, 12] rfl h
theorem T_L_walks_244 {X : HX} {L : Nat} {xs : Nat → Int32} {M : Mem} {a2 : Int32} {a4 : Int32} {a5 : Int32} {a6 : Int32} {a8 : Int32} {a9 : Int32} {Q : Int32 → Mem → Prop} (C : LC mdL_walks 4 0 0 X L xs) (R : RT mdL_walks X 0 0 Q) (h : (((nI 24) ≤ a9) → (((a5 = 0) → (P_L_walks_15 X M a2 a4 (nI 0) (a6 + (nI 1)))) ∧ ((¬ a5 = 0) → (C_X9_walk M (fun r2 M2 => ((¬ r2 = a6) → (P_L_walks_15 X M2 a2 a4 (nI 0) (a6 + (nI 1)))) ∧ ((r2 = a6) → (P_L_walks_15 X M2 a2 a4 (nI 1) (a6 + (nI 1))))))))) ∧ ((¬ (nI 24) ≤ a9) → ((182 < 182 + gx M ∧ vp_in (((nI 24) * a6) + a9) 48) ∧ (P_L_walks_244 X (wr M 182 (ix (((nI 24) * a6) + a9)) a8) a2 a4 a5 a6 a8 (a9 + (nI 1)))))) : P_L_walks_244 X M a2 a4 a5 a6 a8 a9 := by
  refine lr_iload (pc' := 246) 8 C rfl dL_walks_244 rfl ?_
  refine lr_bipush (pc' := 248) C rfl dL_walks_246 cb_24 ?_
  refine lr_icmp_ge (tgt := 269) (pc' := 251) C rfl dL_walks_248 (by decide) (fun q0 => ?_) (fun q0 => ?_)
  · have h := h.1 q0
    refine lr_iload (pc' := 271) 5 C rfl dL_walks_269 rfl ?_
    refine lr_if_eq (tgt := 287) (pc' := 274) C rfl dL_walks_271 (by decide) (fun q1 => ?_) (fun q1 => ?_)
    · have h := h.1 q1
      refine lr_iconst (pc' := 288) C rfl dL_walks_287 ci_0 ?_
      refine lr_istore (pc' := 290) (lv' := [(0, .ref (BX X + 0)), (1, .ref (bX X)), (2, .int a2), (3, .ref (BX X + 182)), (4, .int a4), (5, .int (nI 0)), (6, .int a6), (8, .int a8), (9, .int a9)]) [1, 2, 3, 4, 5, 0, 6, 7, 8] C rfl dL_walks_288 (by decide) rfl ?_
      refine lr_iinc (pc' := 293) (lv' := [(0, .ref (BX X + 0)), (1, .ref (bX X)), (2, .int a2), (3, .ref (BX X + 182)), (4, .int a4), (5, .int (nI 0)), (6, .int (a6 + (nI 1))), (8, .int a8), (9, .int a9)]) 6 [1, 2, 3, 4, 5, 6, 0, 7, 8] C rfl dL_walks_290 rfl (ii_1 _) (by decide) rfl ?_
      refine lr_goto (tgt := 15) C dL_walks_293 (by decide) ?_
      exact lr_sub [0, 1, 2, 3, 4, 5, 6] rfl h
    · have h := h.2 q1
      refine lr_aload_n (pc' := 275) 0 C rfl dL_walks_274 rfl rfl ?_
      refine lr_callV (As := []) (rest := []) (c0 := 0) (cT := (RX9, TX9, 14)) (pc' := 278) 0 C rfl dL_walks_275 cv_X9_walk ml_L_36 (by decide) rfl rfl (by decide) (Nat.le_of_ble_eq_true rfl) ob_0 rfl rfl (Nat.le_of_ble_eq_true rfl) (Nat.le_of_ble_eq_true rfl) (CA.monoI h ?_)
      intro r2 M2 h
      refine lr_iload (pc' := 280) 6 C rfl dL_walks_278 rfl ?_
      refine lr_icmp_ne (tgt := 287) (pc' := 283) C rfl dL_walks_280 (by decide) (fun q3 => ?_) (fun q3 => ?_)
      · have h := h.1 q3
        refine lr_iconst (pc' := 288) C rfl dL_walks_287 ci_0 ?_
        refine lr_istore (pc' := 290) (lv' := [(0, .ref (BX X + 0)), (1, .ref (bX X)), (2, .int a2), (3, .ref (BX X + 182)), (4, .int a4), (5, .int (nI 0)), (6, .int a6), (8, .int a8), (9, .int a9)]) [1, 2, 3, 4, 5, 0, 6, 7, 8] C rfl dL_walks_288 (by decide) rfl ?_
        refine lr_iinc (pc' := 293) (lv' := [(0, .ref (BX X + 0)), (1, .ref (bX X)), (2, .int a2), (3, .ref (BX X + 182)), (4, .int a4), (5, .int (nI 0)), (6, .int (a6 + (nI 1))), (8, .int a8), (9, .int a9)]) 6 [1, 2, 3, 4, 5, 6, 0, 7, 8] C rfl dL_walks_290 rfl (ii_1 _) (by decide) rfl ?_
        refine lr_goto (tgt := 15) C dL_walks_293 (by decide) ?_
        exact lr_sub [0, 1, 2, 3, 4, 5, 6] rfl h
      · have h := h.2 q3
        refine lr_iconst (pc' := 284) C rfl dL_walks_283 ci_1 ?_
        refine lr_goto (tgt := 288) C dL_walks_284 (by decide) ?_
        refine lr_istore (pc' := 290) (lv' := [(0, .ref (BX X + 0)), (1, .ref (bX X)), (2, .int a2), (3, .ref (BX X + 182)), (4, .int a4), (5, .int (nI 1)), (6, .int a6), (8, .int a8), (9, .int a9)]) [1, 2, 3, 4, 5, 0, 6, 7, 8] C rfl dL_walks_288 (by decide) rfl ?_
        refine lr_iinc (pc' := 293) (lv' := [(0, .ref (BX X + 0)), (1, .ref (bX X)), (2, .int a2), (3, .ref (BX X + 182)), (4, .int a4), (5, .int (nI 1)), (6, .int (a6 + (nI 1))), (8, .int a8), (9, .int a9)]) 6 [1, 2, 3, 4, 5, 6, 0, 7, 8] C rfl dL_walks_290 rfl (ii_1 _) (by decide) rfl ?_
        refine lr_goto (tgt := 15) C dL_walks_293 (by decide) ?_
        exact lr_sub [0, 1, 2, 3, 4, 5, 6] rfl h
  · have h := h.2 q0
    refine lr_aload_n (pc' := 252) 3 C rfl dL_walks_251 rfl rfl ?_
    refine lr_bipush (pc' := 254) C rfl dL_walks_252 cb_24 ?_
    refine lr_iload (pc' := 256) 6 C rfl dL_walks_254 rfl ?_
    refine lr_imul (pc' := 257) C rfl dL_walks_256 ?_
    refine lr_iload (pc' := 259) 8 C rfl dL_walks_257 rfl ?_
    refine lr_iadd (pc' := 260) C rfl dL_walks_259 ?_
    refine lr_iload (pc' := 262) 7 C rfl dL_walks_260 rfl ?_
    obtain ⟨b1, h⟩ := h
    refine lr_iast (n := 48) (pc' := 263) C rfl dL_walks_262 b1.1 (by omega) rfl b1.2 ?_
    refine lr_iinc (pc' := 266) (lv' := [(0, .ref (BX X + 0)), (1, .ref (bX X)), (2, .int a2), (3, .ref (BX X + 182)), (4, .int a4), (5, .int a5), (6, .int a6), (8, .int a8), (9, .int (a9 + (nI 1)))]) 8 [1, 2, 3, 4, 5, 6, 7, 8, 0] C rfl dL_walks_263 rfl (ii_1 _) (by decide) rfl ?_
    refine lr_goto (tgt := 244) C dL_walks_266 (by decide) ?_
    exact lr_sub [0, 1, 2, 3, 4, 5, 6, 7, 8] rfl h
def C_L_hires (L : Nat) (xs : Nat → Int32) (M : Mem) (a2 : Int32) (Q : Int32 → Mem → Prop) : Prop := HLc 3 mdL_hires L xs (fun B b => [.ref (B + 0), .ref b, .int a2]) M Q
def P_L_hires_36 (X : HX) (M : Mem) (a2 : Int32) (a3 : Int32) (a4 : Int32) (a5 : Int32) : Prop := SW mdL_hires X 0 0 36 [(0, .ref (BX X + 0)), (1, .ref (bX X)), (2, .int a2), (3, .int a3), (4, .int a4), (5, .int a5)] [] (w0 M)
def P_L_hires_101 (X : HX) (M : Mem) (a2 : Int32) (a4 : Int32) (a5 : Int32) (a6 : Int32) : Prop := SW mdL_hires X 0 0 101 [(0, .ref (BX X + 0)), (1, .ref (bX X)), (2, .int a2), (4, .int a4), (5, .int a5), (6, .int a6)] [] (w0 M)
theorem T_L_hires {X : HX} {L : Nat} {xs : Nat → Int32} {M : Mem} {a2 : Int32} {Q : Int32 → Mem → Prop} (C : LC mdL_hires 3 0 0 X L xs) (R : RT mdL_hires X 0 0 Q) (h : ¬ a2 = 0 ∧ (C_X9_cellar M (remI ((clI L xs (nI 4)) >>> ((nI 2) &&& 31)) a2) (fun r3 M3 => ((¬ r3 = 0) → (P_L_hires_36 X M3 a2 ((nI 1) + (remI (clI L xs (nI 4)) (nI 3))) (nI 0) (nI 0))) ∧ ((r3 = 0) → (P_L_hires_36 X M3 a2 ((nI 1) + (remI (clI L xs (nI 4)) (nI 3))) (nI 1) (nI 0)))))) : SW mdL_hires X 0 0 0 [(0, .ref (BX X + 0)), (1, .ref (bX X)), (2, .int a2)] [] (w0 M) := by
  refine lr_iconst (pc' := 1) C rfl dL_hires_0 ci_1 ?_
  refine lr_aload_n (pc' := 2) 1 C rfl dL_hires_1 rfl rfl ?_
  refine lr_iconst (pc' := 3) C rfl dL_hires_2 ci_4 ?_
  refine lr_callS (As := (fun B b => [.ref b, .int (nI 4)])) (rest := [.int (nI 1)]) (pc' := 6) 2 C rfl dL_hires_3 cs_L_cell ml_L_9 (by decide) (fun _ _ => rfl) rfl (by decide) (Nat.le_of_ble_eq_true rfl) (Nat.le_of_ble_eq_true rfl) (Nat.le_of_ble_eq_true rfl) (u_cell (LC_L C) (by decide) ?_)
  refine lr_iconst (pc' := 7) C rfl dL_hires_6 ci_3 ?_
  refine lr_irem (pc' := 8) C rfl dL_hires_7 (by decide) ?_
  refine lr_iadd (pc' := 9) C rfl dL_hires_8 ?_
  refine lr_istore_n (pc' := 10) (lv' := [(0, .ref (BX X + 0)), (1, .ref (bX X)), (2, .int a2), (3, .int ((nI 1) + (remI (clI L xs (nI 4)) (nI 3))))]) [1, 2, 3, 0] C rfl dL_hires_9 rfl (by decide) rfl ?_
  refine lr_aload_n (pc' := 11) 0 C rfl dL_hires_10 rfl rfl ?_
  refine lr_aload_n (pc' := 12) 1 C rfl dL_hires_11 rfl rfl ?_
  refine lr_iconst (pc' := 13) C rfl dL_hires_12 ci_4 ?_
  refine lr_callS (As := (fun B b => [.ref b, .int (nI 4)])) (rest := [.ref (BX X + 0)]) (pc' := 16) 2 C rfl dL_hires_13 cs_L_cell ml_L_9 (by decide) (fun _ _ => rfl) rfl (by decide) (Nat.le_of_ble_eq_true rfl) (Nat.le_of_ble_eq_true rfl) (Nat.le_of_ble_eq_true rfl) (u_cell (LC_L C) (by decide) ?_)
  refine lr_iconst (pc' := 17) C rfl dL_hires_16 ci_2 ?_
  refine lr_ishr (pc' := 18) C rfl dL_hires_17 ?_
  refine lr_iload_n (pc' := 19) 2 C rfl dL_hires_18 rfl rfl ?_
  obtain ⟨z2, h⟩ := h
  refine lr_irem (pc' := 20) C rfl dL_hires_19 z2 ?_
  refine lr_callV (As := [.int (remI ((clI L xs (nI 4)) >>> ((nI 2) &&& 31)) a2)]) (rest := []) (c0 := 0) (cT := (RX9, TX9, 14)) (pc' := 23) 1 C rfl dL_hires_20 cv_X9_cellar ml_L_39 (by decide) rfl rfl (by decide) (Nat.le_of_ble_eq_true rfl) ob_0 rfl rfl (Nat.le_of_ble_eq_true rfl) (Nat.le_of_ble_eq_true rfl) (CA.monoI h ?_)
  intro r3 M3 h
  refine lr_if_ne (tgt := 30) (pc' := 26) C rfl dL_hires_23 (by decide) (fun q4 => ?_) (fun q4 => ?_)
  · have h := h.1 q4
    refine lr_iconst (pc' := 31) C rfl dL_hires_30 ci_0 ?_
    refine lr_istore (pc' := 33) (lv' := [(0, .ref (BX X + 0)), (1, .ref (bX X)), (2, .int a2), (3, .int ((nI 1) + (remI (clI L xs (nI 4)) (nI 3)))), (4, .int (nI 0))]) [1, 2, 3, 4, 0] C rfl dL_hires_31 (by decide) rfl ?_
    refine lr_iconst (pc' := 34) C rfl dL_hires_33 ci_0 ?_
    refine lr_istore (pc' := 36) (lv' := [(0, .ref (BX X + 0)), (1, .ref (bX X)), (2, .int a2), (3, .int ((nI 1) + (remI (clI L xs (nI 4)) (nI 3)))), (4, .int (nI 0)), (5, .int (nI 0))]) [1, 2, 3, 4, 5, 0] C rfl dL_hires_34 (by decide) rfl ?_
    exact lr_sub [0, 1, 2, 3, 4, 5] rfl h
  · have h := h.2 q4
    refine lr_iconst (pc' := 27) C rfl dL_hires_26 ci_1 ?_
    refine lr_goto (tgt := 31) C dL_hires_27 (by decide) ?_
    refine lr_istore (pc' := 33) (lv' := [(0, .ref (BX X + 0)), (1, .ref (bX X)), (2, .int a2), (3, .int ((nI 1) + (remI (clI L xs (nI 4)) (nI 3)))), (4, .int (nI 1))]) [1, 2, 3, 4, 0] C rfl dL_hires_31 (by decide) rfl ?_
    refine lr_iconst (pc' := 34) C rfl dL_hires_33 ci_0 ?_
    refine lr_istore (pc' := 36) (lv' := [(0, .ref (BX X + 0)), (1, .ref (bX X)), (2, .int a2), (3, .int ((nI 1) + (remI (clI L xs (nI 4)) (nI 3)))), (4, .int (nI 1)), (5, .int (nI 0))]) [1, 2, 3, 4, 5, 0] C rfl dL_hires_34 (by decide) rfl ?_
    exact lr_sub [0, 1, 2, 3, 4, 5] rfl h
theorem T_L_hires_36 {X : HX} {L : Nat} {xs : Nat → Int32} {M : Mem} {a2 : Int32} {a3 : Int32} {a4 : Int32} {a5 : Int32} {Q : Int32 → Mem → Prop} (C : LC mdL_hires 3 0 0 X L xs) (R : RT mdL_hires X 0 0 Q) (h : ((a3 ≤ a5) → (P_L_hires_101 X M a2 a4 ((nI 1) + (remI ((clI L xs (nI 4)) >>> ((nI 20) &&& 31)) (nI 4))) (nI 0))) ∧ ((¬ a3 ≤ a5) → (((a4 = 0) → (P_L_hires_101 X M a2 a4 ((nI 1) + (remI ((clI L xs (nI 4)) >>> ((nI 20) &&& 31)) (nI 4))) (nI 0))) ∧ ((¬ a4 = 0) → (¬ a2 = 0 ∧ (C_X9_servant M (remI ((clI L xs (nI 4)) >>> (((nI 6) + ((nI 4) * a5)) &&& 31)) a2) (fun r4 M4 => ((¬ r4 = a5) → (P_L_hires_36 X M4 a2 a3 (nI 0) (a5 + (nI 1)))) ∧ ((r4 = a5) → (P_L_hires_36 X M4 a2 a3 (nI 1) (a5 + (nI 1))))))))))) : P_L_hires_36 X M a2 a3 a4 a5 := by
  refine lr_iload (pc' := 38) 5 C rfl dL_hires_36 rfl ?_
  refine lr_iload_n (pc' := 39) 3 C rfl dL_hires_38 rfl rfl ?_
  refine lr_icmp_ge (tgt := 84) (pc' := 42) C rfl dL_hires_39 (by decide) (fun q0 => ?_) (fun q0 => ?_)
  · have h := h.1 q0
    refine lr_iconst (pc' := 85) C rfl dL_hires_84 ci_1 ?_
    refine lr_aload_n (pc' := 86) 1 C rfl dL_hires_85 rfl rfl ?_
    refine lr_iconst (pc' := 87) C rfl dL_hires_86 ci_4 ?_
    refine lr_callS (As := (fun B b => [.ref b, .int (nI 4)])) (rest := [.int (nI 1)]) (pc' := 90) 2 C rfl dL_hires_87 cs_L_cell ml_L_9 (by decide) (fun _ _ => rfl) rfl (by decide) (Nat.le_of_ble_eq_true rfl) (Nat.le_of_ble_eq_true rfl) (Nat.le_of_ble_eq_true rfl) (u_cell (LC_L C) (by decide) ?_)
    refine lr_bipush (pc' := 92) C rfl dL_hires_90 cb_20 ?_
    refine lr_ishr (pc' := 93) C rfl dL_hires_92 ?_
    refine lr_iconst (pc' := 94) C rfl dL_hires_93 ci_4 ?_
    refine lr_irem (pc' := 95) C rfl dL_hires_94 (by decide) ?_
    refine lr_iadd (pc' := 96) C rfl dL_hires_95 ?_
    refine lr_istore (pc' := 98) (lv' := [(0, .ref (BX X + 0)), (1, .ref (bX X)), (2, .int a2), (3, .int a3), (4, .int a4), (5, .int ((nI 1) + (remI ((clI L xs (nI 4)) >>> ((nI 20) &&& 31)) (nI 4))))]) [1, 2, 3, 4, 5, 0] C rfl dL_hires_96 (by decide) rfl ?_
    refine lr_iconst (pc' := 99) C rfl dL_hires_98 ci_0 ?_
    refine lr_istore (pc' := 101) (lv' := [(0, .ref (BX X + 0)), (1, .ref (bX X)), (2, .int a2), (3, .int a3), (4, .int a4), (5, .int ((nI 1) + (remI ((clI L xs (nI 4)) >>> ((nI 20) &&& 31)) (nI 4)))), (6, .int (nI 0))]) [1, 2, 3, 4, 5, 6, 0] C rfl dL_hires_99 (by decide) rfl ?_
    exact lr_sub [0, 1, 2, 4, 5, 6] rfl h
  · have h := h.2 q0
    refine lr_iload (pc' := 44) 4 C rfl dL_hires_42 rfl ?_
    refine lr_if_eq (tgt := 84) (pc' := 47) C rfl dL_hires_44 (by decide) (fun q1 => ?_) (fun q1 => ?_)
    · have h := h.1 q1
      refine lr_iconst (pc' := 85) C rfl dL_hires_84 ci_1 ?_
      refine lr_aload_n (pc' := 86) 1 C rfl dL_hires_85 rfl rfl ?_
      refine lr_iconst (pc' := 87) C rfl dL_hires_86 ci_4 ?_
      refine lr_callS (As := (fun B b => [.ref b, .int (nI 4)])) (rest := [.int (nI 1)]) (pc' := 90) 2 C rfl dL_hires_87 cs_L_cell ml_L_9 (by decide) (fun _ _ => rfl) rfl (by decide) (Nat.le_of_ble_eq_true rfl) (Nat.le_of_ble_eq_true rfl) (Nat.le_of_ble_eq_true rfl) (u_cell (LC_L C) (by decide) ?_)
      refine lr_bipush (pc' := 92) C rfl dL_hires_90 cb_20 ?_
      refine lr_ishr (pc' := 93) C rfl dL_hires_92 ?_
      refine lr_iconst (pc' := 94) C rfl dL_hires_93 ci_4 ?_
      refine lr_irem (pc' := 95) C rfl dL_hires_94 (by decide) ?_
      refine lr_iadd (pc' := 96) C rfl dL_hires_95 ?_
      refine lr_istore (pc' := 98) (lv' := [(0, .ref (BX X + 0)), (1, .ref (bX X)), (2, .int a2), (3, .int a3), (4, .int a4), (5, .int ((nI 1) + (remI ((clI L xs (nI 4)) >>> ((nI 20) &&& 31)) (nI 4))))]) [1, 2, 3, 4, 5, 0] C rfl dL_hires_96 (by decide) rfl ?_
      refine lr_iconst (pc' := 99) C rfl dL_hires_98 ci_0 ?_
      refine lr_istore (pc' := 101) (lv' := [(0, .ref (BX X + 0)), (1, .ref (bX X)), (2, .int a2), (3, .int a3), (4, .int a4), (5, .int ((nI 1) + (remI ((clI L xs (nI 4)) >>> ((nI 20) &&& 31)) (nI 4)))), (6, .int (nI 0))]) [1, 2, 3, 4, 5, 6, 0] C rfl dL_hires_99 (by decide) rfl ?_
      exact lr_sub [0, 1, 2, 4, 5, 6] rfl h
    · have h := h.2 q1
      refine lr_aload_n (pc' := 48) 0 C rfl dL_hires_47 rfl rfl ?_
      refine lr_aload_n (pc' := 49) 1 C rfl dL_hires_48 rfl rfl ?_
      refine lr_iconst (pc' := 50) C rfl dL_hires_49 ci_4 ?_
      refine lr_callS (As := (fun B b => [.ref b, .int (nI 4)])) (rest := [.ref (BX X + 0)]) (pc' := 53) 2 C rfl dL_hires_50 cs_L_cell ml_L_9 (by decide) (fun _ _ => rfl) rfl (by decide) (Nat.le_of_ble_eq_true rfl) (Nat.le_of_ble_eq_true rfl) (Nat.le_of_ble_eq_true rfl) (u_cell (LC_L C) (by decide) ?_)
      refine lr_bipush (pc' := 55) C rfl dL_hires_53 cb_6 ?_
      refine lr_iconst (pc' := 56) C rfl dL_hires_55 ci_4 ?_
      refine lr_iload (pc' := 58) 5 C rfl dL_hires_56 rfl ?_
      refine lr_imul (pc' := 59) C rfl dL_hires_58 ?_
      refine lr_iadd (pc' := 60) C rfl dL_hires_59 ?_
      refine lr_ishr (pc' := 61) C rfl dL_hires_60 ?_
      refine lr_iload_n (pc' := 62) 2 C rfl dL_hires_61 rfl rfl ?_
      obtain ⟨z3, h⟩ := h
      refine lr_irem (pc' := 63) C rfl dL_hires_62 z3 ?_
      refine lr_callV (As := [.int (remI ((clI L xs (nI 4)) >>> (((nI 6) + ((nI 4) * a5)) &&& 31)) a2)]) (rest := []) (c0 := 0) (cT := (RX9, TX9, 14)) (pc' := 66) 1 C rfl dL_hires_63 cv_X9_servant ml_L_43 (by decide) rfl rfl (by decide) (Nat.le_of_ble_eq_true rfl) ob_0 rfl rfl (Nat.le_of_ble_eq_true rfl) (Nat.le_of_ble_eq_true rfl) (CA.monoI h ?_)
      intro r4 M4 h
      refine lr_iload (pc' := 68) 5 C rfl dL_hires_66 rfl ?_
      refine lr_icmp_ne (tgt := 75) (pc' := 71) C rfl dL_hires_68 (by decide) (fun q5 => ?_) (fun q5 => ?_)
      · have h := h.1 q5
        refine lr_iconst (pc' := 76) C rfl dL_hires_75 ci_0 ?_
        refine lr_istore (pc' := 78) (lv' := [(0, .ref (BX X + 0)), (1, .ref (bX X)), (2, .int a2), (3, .int a3), (4, .int (nI 0)), (5, .int a5)]) [1, 2, 3, 4, 0, 5] C rfl dL_hires_76 (by decide) rfl ?_
        refine lr_iinc (pc' := 81) (lv' := [(0, .ref (BX X + 0)), (1, .ref (bX X)), (2, .int a2), (3, .int a3), (4, .int (nI 0)), (5, .int (a5 + (nI 1)))]) 5 [1, 2, 3, 4, 5, 0] C rfl dL_hires_78 rfl (ii_1 _) (by decide) rfl ?_
        refine lr_goto (tgt := 36) C dL_hires_81 (by decide) ?_
        exact lr_sub [0, 1, 2, 3, 4, 5] rfl h
      · have h := h.2 q5
        refine lr_iconst (pc' := 72) C rfl dL_hires_71 ci_1 ?_
        refine lr_goto (tgt := 76) C dL_hires_72 (by decide) ?_
        refine lr_istore (pc' := 78) (lv' := [(0, .ref (BX X + 0)), (1, .ref (bX X)), (2, .int a2), (3, .int a3), (4, .int (nI 1)), (5, .int a5)]) [1, 2, 3, 4, 0, 5] C rfl dL_hires_76 (by decide) rfl ?_
        refine lr_iinc (pc' := 81) (lv' := [(0, .ref (BX X + 0)), (1, .ref (bX X)), (2, .int a2), (3, .int a3), (4, .int (nI 1)), (5, .int (a5 + (nI 1)))]) 5 [1, 2, 3, 4, 5, 0] C rfl dL_hires_78 rfl (ii_1 _) (by decide) rfl ?_
        refine lr_goto (tgt := 36) C dL_hires_81 (by decide) ?_
        exact lr_sub [0, 1, 2, 3, 4, 5] rfl h
theorem T_L_hires_101 {X : HX} {L : Nat} {xs : Nat → Int32} {M : Mem} {a2 : Int32} {a4 : Int32} {a5 : Int32} {a6 : Int32} {Q : Int32 → Mem → Prop} (C : LC mdL_hires 3 0 0 X L xs) (R : RT mdL_hires X 0 0 Q) (h : ((a5 ≤ a6) → (((a4 = 0) → (Q (-1) M)) ∧ ((¬ a4 = 0) → (Q a5 M)))) ∧ ((¬ a5 ≤ a6) → (((a4 = 0) → (((a4 = 0) → (Q (-1) M)) ∧ ((¬ a4 = 0) → (Q a5 M)))) ∧ ((¬ a4 = 0) → (¬ ((nI 5) + a6) < 0 ∧ (¬ a2 = 0 ∧ (C_X9_errand M ((clI L xs ((nI 5) + a6)) &&& (nI 1)) (remI ((clI L xs ((nI 5) + a6)) >>> ((nI 1) &&& 31)) a2) ((nI 1) + (remI ((clI L xs ((nI 5) + a6)) >>> ((nI 5) &&& 31)) (nI 9))) (remI ((clI L xs ((nI 5) + a6)) >>> ((nI 8) &&& 31)) (nI 16)) ((remI ((clI L xs ((nI 5) + a6)) >>> ((nI 8) &&& 31)) (nI 16)) + (remI ((clI L xs ((nI 5) + a6)) >>> ((nI 12) &&& 31)) (nI 8))) (fun r4 M4 => ((¬ r4 = a6) → (P_L_hires_101 X M4 a2 (nI 0) a5 (a6 + (nI 1)))) ∧ ((r4 = a6) → (P_L_hires_101 X M4 a2 (nI 1) a5 (a6 + (nI 1)))))))))))) : P_L_hires_101 X M a2 a4 a5 a6 := by
  refine lr_iload (pc' := 103) 5 C rfl dL_hires_101 rfl ?_
  refine lr_iload (pc' := 105) 4 C rfl dL_hires_103 rfl ?_
  refine lr_icmp_ge (tgt := 187) (pc' := 108) C rfl dL_hires_105 (by decide) (fun q0 => ?_) (fun q0 => ?_)
  · have h := h.1 q0
    refine lr_iload (pc' := 189) 3 C rfl dL_hires_187 rfl ?_
    refine lr_if_eq (tgt := 197) (pc' := 192) C rfl dL_hires_189 (by decide) (fun q1 => ?_) (fun q1 => ?_)
    · have h := h.1 q1
      refine lr_iconst (pc' := 198) C rfl dL_hires_197 ci_m1 ?_
      exact R _ _ _ _ dL_hires_198 h
    · have h := h.2 q1
      refine lr_iload (pc' := 194) 4 C rfl dL_hires_192 rfl ?_
      refine lr_goto (tgt := 198) C dL_hires_194 (by decide) ?_
      exact R _ _ _ _ dL_hires_198 h
  · have h := h.2 q0
    refine lr_iload (pc' := 110) 3 C rfl dL_hires_108 rfl ?_
    refine lr_if_eq (tgt := 187) (pc' := 113) C rfl dL_hires_110 (by decide) (fun q1 => ?_) (fun q1 => ?_)
    · have h := h.1 q1
      refine lr_iload (pc' := 189) 3 C rfl dL_hires_187 rfl ?_
      refine lr_if_eq (tgt := 197) (pc' := 192) C rfl dL_hires_189 (by decide) (fun q2 => ?_) (fun q2 => ?_)
      · have h := h.1 q2
        refine lr_iconst (pc' := 198) C rfl dL_hires_197 ci_m1 ?_
        exact R _ _ _ _ dL_hires_198 h
      · have h := h.2 q2
        refine lr_iload (pc' := 194) 4 C rfl dL_hires_192 rfl ?_
        refine lr_goto (tgt := 198) C dL_hires_194 (by decide) ?_
        exact R _ _ _ _ dL_hires_198 h
    · have h := h.2 q1
      refine lr_aload_n (pc' := 114) 1 C rfl dL_hires_113 rfl rfl ?_
      refine lr_iconst (pc' := 115) C rfl dL_hires_114 ci_5 ?_
      refine lr_iload (pc' := 117) 5 C rfl dL_hires_115 rfl ?_
      refine lr_iadd (pc' := 118) C rfl dL_hires_117 ?_
      obtain ⟨b2, h⟩ := h
      refine lr_callS (As := (fun B b => [.ref b, .int ((nI 5) + a6)])) (rest := []) (pc' := 121) 2 C rfl dL_hires_118 cs_L_cell ml_L_9 (by decide) (fun _ _ => rfl) rfl (by decide) (Nat.le_of_ble_eq_true rfl) (Nat.le_of_ble_eq_true rfl) (Nat.le_of_ble_eq_true rfl) (u_cell (LC_L C) b2 ?_)
      refine lr_istore (pc' := 123) (lv' := [(0, .ref (BX X + 0)), (1, .ref (bX X)), (2, .int a2), (4, .int a4), (5, .int a5), (6, .int a6), (7, .int (clI L xs ((nI 5) + a6)))]) [1, 2, 3, 4, 5, 6, 0] C rfl dL_hires_121 (by decide) rfl ?_
      refine lr_iload (pc' := 125) 6 C rfl dL_hires_123 rfl ?_
      refine lr_bipush (pc' := 127) C rfl dL_hires_125 cb_8 ?_
      refine lr_ishr (pc' := 128) C rfl dL_hires_127 ?_
      refine lr_bipush (pc' := 130) C rfl dL_hires_128 cb_16 ?_
      refine lr_irem (pc' := 131) C rfl dL_hires_130 (by decide) ?_
      refine lr_istore (pc' := 133) (lv' := [(0, .ref (BX X + 0)), (1, .ref (bX X)), (2, .int a2), (4, .int a4), (5, .int a5), (6, .int a6), (7, .int (clI L xs ((nI 5) + a6))), (8, .int (remI ((clI L xs ((nI 5) + a6)) >>> ((nI 8) &&& 31)) (nI 16)))]) [1, 2, 3, 4, 5, 6, 7, 0] C rfl dL_hires_131 (by decide) rfl ?_
      refine lr_aload_n (pc' := 134) 0 C rfl dL_hires_133 rfl rfl ?_
      refine lr_iload (pc' := 136) 6 C rfl dL_hires_134 rfl ?_
      refine lr_iconst (pc' := 137) C rfl dL_hires_136 ci_1 ?_
      refine lr_iand (pc' := 138) C rfl dL_hires_137 ?_
      refine lr_iload (pc' := 140) 6 C rfl dL_hires_138 rfl ?_
      refine lr_iconst (pc' := 141) C rfl dL_hires_140 ci_1 ?_
      refine lr_ishr (pc' := 142) C rfl dL_hires_141 ?_
      refine lr_iload_n (pc' := 143) 2 C rfl dL_hires_142 rfl rfl ?_
      obtain ⟨z3, h⟩ := h
      refine lr_irem (pc' := 144) C rfl dL_hires_143 z3 ?_
      refine lr_iconst (pc' := 145) C rfl dL_hires_144 ci_1 ?_
      refine lr_iload (pc' := 147) 6 C rfl dL_hires_145 rfl ?_
      refine lr_iconst (pc' := 148) C rfl dL_hires_147 ci_5 ?_
      refine lr_ishr (pc' := 149) C rfl dL_hires_148 ?_
      refine lr_bipush (pc' := 151) C rfl dL_hires_149 cb_9 ?_
      refine lr_irem (pc' := 152) C rfl dL_hires_151 (by decide) ?_
      refine lr_iadd (pc' := 153) C rfl dL_hires_152 ?_
      refine lr_iload (pc' := 155) 7 C rfl dL_hires_153 rfl ?_
      refine lr_iload (pc' := 157) 7 C rfl dL_hires_155 rfl ?_
      refine lr_iload (pc' := 159) 6 C rfl dL_hires_157 rfl ?_
      refine lr_bipush (pc' := 161) C rfl dL_hires_159 cb_12 ?_
      refine lr_ishr (pc' := 162) C rfl dL_hires_161 ?_
      refine lr_bipush (pc' := 164) C rfl dL_hires_162 cb_8 ?_
      refine lr_irem (pc' := 165) C rfl dL_hires_164 (by decide) ?_
      refine lr_iadd (pc' := 166) C rfl dL_hires_165 ?_
      refine lr_callV (As := [.int ((clI L xs ((nI 5) + a6)) &&& (nI 1)), .int (remI ((clI L xs ((nI 5) + a6)) >>> ((nI 1) &&& 31)) a2), .int ((nI 1) + (remI ((clI L xs ((nI 5) + a6)) >>> ((nI 5) &&& 31)) (nI 9))), .int (remI ((clI L xs ((nI 5) + a6)) >>> ((nI 8) &&& 31)) (nI 16)), .int ((remI ((clI L xs ((nI 5) + a6)) >>> ((nI 8) &&& 31)) (nI 16)) + (remI ((clI L xs ((nI 5) + a6)) >>> ((nI 12) &&& 31)) (nI 8)))]) (rest := []) (c0 := 0) (cT := (RX9, TX9, 14)) (pc' := 169) 5 C rfl dL_hires_166 cv_X9_errand ml_L_46 (by decide) rfl rfl (by decide) (Nat.le_of_ble_eq_true rfl) ob_0 rfl rfl (Nat.le_of_ble_eq_true rfl) (Nat.le_of_ble_eq_true rfl) (CA.monoI h ?_)
      intro r4 M4 h
      refine lr_iload (pc' := 171) 5 C rfl dL_hires_169 rfl ?_
      refine lr_icmp_ne (tgt := 178) (pc' := 174) C rfl dL_hires_171 (by decide) (fun q5 => ?_) (fun q5 => ?_)
      · have h := h.1 q5
        refine lr_iconst (pc' := 179) C rfl dL_hires_178 ci_0 ?_
        refine lr_istore (pc' := 181) (lv' := [(0, .ref (BX X + 0)), (1, .ref (bX X)), (2, .int a2), (4, .int (nI 0)), (5, .int a5), (6, .int a6), (7, .int (clI L xs ((nI 5) + a6))), (8, .int (remI ((clI L xs ((nI 5) + a6)) >>> ((nI 8) &&& 31)) (nI 16)))]) [1, 2, 3, 0, 4, 5, 6, 7] C rfl dL_hires_179 (by decide) rfl ?_
        refine lr_iinc (pc' := 184) (lv' := [(0, .ref (BX X + 0)), (1, .ref (bX X)), (2, .int a2), (4, .int (nI 0)), (5, .int a5), (6, .int (a6 + (nI 1))), (7, .int (clI L xs ((nI 5) + a6))), (8, .int (remI ((clI L xs ((nI 5) + a6)) >>> ((nI 8) &&& 31)) (nI 16)))]) 5 [1, 2, 3, 4, 5, 0, 6, 7] C rfl dL_hires_181 rfl (ii_1 _) (by decide) rfl ?_
        refine lr_goto (tgt := 101) C dL_hires_184 (by decide) ?_
        exact lr_sub [0, 1, 2, 3, 4, 5] rfl h
      · have h := h.2 q5
        refine lr_iconst (pc' := 175) C rfl dL_hires_174 ci_1 ?_
        refine lr_goto (tgt := 179) C dL_hires_175 (by decide) ?_
        refine lr_istore (pc' := 181) (lv' := [(0, .ref (BX X + 0)), (1, .ref (bX X)), (2, .int a2), (4, .int (nI 1)), (5, .int a5), (6, .int a6), (7, .int (clI L xs ((nI 5) + a6))), (8, .int (remI ((clI L xs ((nI 5) + a6)) >>> ((nI 8) &&& 31)) (nI 16)))]) [1, 2, 3, 0, 4, 5, 6, 7] C rfl dL_hires_179 (by decide) rfl ?_
        refine lr_iinc (pc' := 184) (lv' := [(0, .ref (BX X + 0)), (1, .ref (bX X)), (2, .int a2), (4, .int (nI 1)), (5, .int a5), (6, .int (a6 + (nI 1))), (7, .int (clI L xs ((nI 5) + a6))), (8, .int (remI ((clI L xs ((nI 5) + a6)) >>> ((nI 8) &&& 31)) (nI 16)))]) 5 [1, 2, 3, 4, 5, 0, 6, 7] C rfl dL_hires_181 rfl (ii_1 _) (by decide) rfl ?_
        refine lr_goto (tgt := 101) C dL_hires_184 (by decide) ?_
        exact lr_sub [0, 1, 2, 3, 4, 5] rfl h
