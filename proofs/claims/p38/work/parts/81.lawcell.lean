/-! ===== the law: cuts, and what its regions do ===== -/
abbrev remI (x z : Int32) : Int32 := x - x / z * z
theorem cb_107 : (Int8.ofInt (107)).toInt32 = nI 107 := by decide
theorem cb_15 : (Int8.ofInt (15)).toInt32 = nI 15 := by decide
theorem cb_17 : (Int8.ofInt (17)).toInt32 = nI 17 := by decide
theorem cb_18 : (Int8.ofInt (18)).toInt32 = nI 18 := by decide
theorem cb_20 : (Int8.ofInt (20)).toInt32 = nI 20 := by decide
theorem cb_6 : (Int8.ofInt (6)).toInt32 = nI 6 := by decide
theorem cb_7 : (Int8.ofInt (7)).toInt32 = nI 7 := by decide
def C_L_cell (L : Nat) (xs : Nat → Int32) (M : Mem) (a1 : Int32) (Q : Int32 → Mem → Prop) : Prop := HLc 0 mdL_cell L xs (fun B b => [.ref b, .int a1]) M Q
theorem T_L_cell {X : HX} {L : Nat} {xs : Nat → Int32} {M : Mem} {a1 : Int32} {Q : Int32 → Mem → Prop} (C : LC mdL_cell 0 0 0 X L xs) (R : RT mdL_cell X 0 0 Q) (h : (((nI L) ≤ a1) → (Q ((((15485957 : Int32) * a1) + (nI 107)) &&& (2147483647 : Int32)) M)) ∧ ((¬ (nI L) ≤ a1) → (vp_in a1 L ∧ (Q ((xs (ix a1)) &&& (2147483647 : Int32)) M)))) : SW mdL_cell X 0 0 0 [(0, .ref (bX X)), (1, .int a1)] [] (w0 M) := by
  refine lr_iload_n (pc' := 1) 1 C rfl dL_cell_0 rfl rfl ?_
  refine lr_aload_n (pc' := 2) 0 C rfl dL_cell_1 rfl rfl ?_
  refine lr_slen (pc' := 3) C rfl dL_cell_2 ?_
  refine lr_icmp_ge (tgt := 12) (pc' := 6) C rfl dL_cell_3 (by decide) (fun q0 => ?_) (fun q0 => ?_)
  · have h := h.1 q0
    refine lr_ldc (pc' := 14) C rfl dL_cell_12 cn_L_7 ?_
    refine lr_iload_n (pc' := 15) 1 C rfl dL_cell_14 rfl rfl ?_
    refine lr_imul (pc' := 16) C rfl dL_cell_15 ?_
    refine lr_bipush (pc' := 18) C rfl dL_cell_16 cb_107 ?_
    refine lr_iadd (pc' := 19) C rfl dL_cell_18 ?_
    refine lr_ldc (pc' := 21) C rfl dL_cell_19 cn_L_8 ?_
    refine lr_iand (pc' := 22) C rfl dL_cell_21 ?_
    exact R _ _ _ _ dL_cell_22 h
  · have h := h.2 q0
    refine lr_aload_n (pc' := 7) 0 C rfl dL_cell_6 rfl rfl ?_
    refine lr_iload_n (pc' := 8) 1 C rfl dL_cell_7 rfl rfl ?_
    obtain ⟨b1, h⟩ := h
    refine lr_sld (pc' := 9) C rfl dL_cell_8 b1 ?_
    refine lr_goto (tgt := 19) C dL_cell_9 (by decide) ?_
    refine lr_ldc (pc' := 21) C rfl dL_cell_19 cn_L_8 ?_
    refine lr_iand (pc' := 22) C rfl dL_cell_21 ?_
    exact R _ _ _ _ dL_cell_22 h
/-- a cell of the script -/
def clI (L : Nat) (xs : Nat → Int32) (k : Int32) : Int32 := (if nI L ≤ k then (15485957 : Int32) * k + nI 107 else xs (ix k)) &&& (2147483647 : Int32)
theorem u_cell {L : Nat} {xs : Nat → Int32} {M : Mem} {k : Int32} {Q : Int32 → Mem → Prop} (hL : L ≤ 260) (hk : ¬ k < 0) (h : Q (clI L xs k) M) : HLc 0 mdL_cell L xs (fun B b => [.ref b, .int k]) M Q := by
  refine HLc_of (by decide +kernel) (fun _ _ => Nat.le_of_ble_eq_true rfl) rfl hL (fun X C R => T_L_cell C R ⟨fun q => ?_, fun q => ⟨okN_vin.mp (okN_in (by omega) hk q), ?_⟩⟩)
  · unfold clI at h; rw [if_pos q] at h; exact h
  · unfold clI at h; rw [if_neg q] at h; exact h
def C_L_door (L : Nat) (xs : Nat → Int32) (M : Mem) (a1 : Int32) (a2 : Int32) (a3 : Int32) (Q : Int32 → Mem → Prop) : Prop := HLc 1 mdL_door L xs (fun B b => [.ref b, .int a1, .int a2, .int a3]) M Q
def P_L_door_48 (X : HX) (M : Mem) (a1 : Int32) (a4 : Int32) (a5 : Int32) : Prop := SW mdL_door X 0 0 48 [(0, .ref (bX X)), (1, .int a1), (4, .int a4), (5, .int a5)] [] (w0 M)
def P_L_door_100 (X : HX) (M : Mem)  : Prop := SW mdL_door X 0 0 100 [] [] (w0 M)
def P_L_door_101 (X : HX) (M : Mem) (s0 : Int32) : Prop := SW mdL_door X 0 0 101 [] [.int s0] (w0 M)
theorem T_L_door {X : HX} {L : Nat} {xs : Nat → Int32} {M : Mem} {a1 : Int32} {a2 : Int32} {a3 : Int32} {Q : Int32 → Mem → Prop} (C : LC mdL_door 1 0 0 X L xs) (R : RT mdL_door X 0 0 Q) (h : ((a3 ≤ a2) → (((a3 ≤ a2) → (((¬ a3 = 0) → (P_L_door_48 X M a1 a3 a2)) ∧ ((a3 = 0) → (((¬ a2 = (nI 2)) → (P_L_door_48 X M a1 a3 a2)) ∧ ((a2 = (nI 2)) → (P_L_door_101 X M (((clI L xs (nI 0)) >>> ((nI 12) &&& 31)) &&& (nI 1)))))))) ∧ ((¬ a3 ≤ a2) → (((¬ a3 = 0) → (P_L_door_48 X M a1 a3 a3)) ∧ ((a3 = 0) → (((¬ a3 = (nI 2)) → (P_L_door_48 X M a1 a3 a3)) ∧ ((a3 = (nI 2)) → (P_L_door_101 X M (((clI L xs (nI 0)) >>> ((nI 12) &&& 31)) &&& (nI 1)))))))))) ∧ ((¬ a3 ≤ a2) → (((a3 ≤ a2) → (((¬ a2 = 0) → (P_L_door_48 X M a1 a2 a2)) ∧ ((a2 = 0) → (((¬ a2 = (nI 2)) → (P_L_door_48 X M a1 a2 a2)) ∧ ((a2 = (nI 2)) → (P_L_door_101 X M (((clI L xs (nI 0)) >>> ((nI 12) &&& 31)) &&& (nI 1)))))))) ∧ ((¬ a3 ≤ a2) → (((¬ a2 = 0) → (P_L_door_48 X M a1 a2 a3)) ∧ ((a2 = 0) → (((¬ a3 = (nI 2)) → (P_L_door_48 X M a1 a2 a3)) ∧ ((a3 = (nI 2)) → (P_L_door_101 X M (((clI L xs (nI 0)) >>> ((nI 12) &&& 31)) &&& (nI 1))))))))))) : SW mdL_door X 0 0 0 [(0, .ref (bX X)), (1, .int a1), (2, .int a2), (3, .int a3)] [] (w0 M) := by
  refine lr_iload_n (pc' := 1) 2 C rfl dL_door_0 rfl rfl ?_
  refine lr_iload_n (pc' := 2) 3 C rfl dL_door_1 rfl rfl ?_
  refine lr_icmp_ge (tgt := 9) (pc' := 5) C rfl dL_door_2 (by decide) (fun q0 => ?_) (fun q0 => ?_)
  · have h := h.1 q0
    refine lr_iload_n (pc' := 10) 3 C rfl dL_door_9 rfl rfl ?_
    refine lr_istore (pc' := 12) (lv' := [(0, .ref (bX X)), (1, .int a1), (2, .int a2), (3, .int a3), (4, .int a3)]) [1, 2, 3, 4, 0] C rfl dL_door_10 (by decide) rfl ?_
    refine lr_iload_n (pc' := 13) 2 C rfl dL_door_12 rfl rfl ?_
    refine lr_iload_n (pc' := 14) 3 C rfl dL_door_13 rfl rfl ?_
    refine lr_icmp_ge (tgt := 21) (pc' := 17) C rfl dL_door_14 (by decide) (fun q1 => ?_) (fun q1 => ?_)
    · have h := h.1 q1
      refine lr_iload_n (pc' := 22) 2 C rfl dL_door_21 rfl rfl ?_
      refine lr_istore (pc' := 24) (lv' := [(0, .ref (bX X)), (1, .int a1), (2, .int a2), (3, .int a3), (4, .int a3), (5, .int a2)]) [1, 2, 3, 4, 5, 0] C rfl dL_door_22 (by decide) rfl ?_
      refine lr_iload (pc' := 26) 4 C rfl dL_door_24 rfl ?_
      refine lr_if_ne (tgt := 48) (pc' := 29) C rfl dL_door_26 (by decide) (fun q2 => ?_) (fun q2 => ?_)
      · have h := h.1 q2
        exact lr_sub [0, 1, 4, 5] rfl h
      · have h := h.2 q2
        refine lr_iload (pc' := 31) 5 C rfl dL_door_29 rfl ?_
        refine lr_iconst (pc' := 32) C rfl dL_door_31 ci_2 ?_
        refine lr_icmp_ne (tgt := 48) (pc' := 35) C rfl dL_door_32 (by decide) (fun q3 => ?_) (fun q3 => ?_)
        · have h := h.1 q3
          exact lr_sub [0, 1, 4, 5] rfl h
        · have h := h.2 q3
          refine lr_aload_n (pc' := 36) 0 C rfl dL_door_35 rfl rfl ?_
          refine lr_iconst (pc' := 37) C rfl dL_door_36 ci_0 ?_
          refine lr_callS (As := (fun B b => [.ref b, .int (nI 0)])) (rest := []) (pc' := 40) 2 C rfl dL_door_37 cs_L_cell ml_L_9 (by decide) (fun _ _ => rfl) rfl (by decide) (Nat.le_of_ble_eq_true rfl) (Nat.le_of_ble_eq_true rfl) (Nat.le_of_ble_eq_true rfl) (u_cell (LC_L C) (by decide) ?_)
          refine lr_bipush (pc' := 42) C rfl dL_door_40 cb_12 ?_
          refine lr_ishr (pc' := 43) C rfl dL_door_42 ?_
          refine lr_iconst (pc' := 44) C rfl dL_door_43 ci_1 ?_
          refine lr_iand (pc' := 45) C rfl dL_door_44 ?_
          refine lr_goto (tgt := 101) C dL_door_45 (by decide) ?_
          exact lr_sub [] rfl h
    · have h := h.2 q1
      refine lr_iload_n (pc' := 18) 3 C rfl dL_door_17 rfl rfl ?_
      refine lr_goto (tgt := 22) C dL_door_18 (by decide) ?_
      refine lr_istore (pc' := 24) (lv' := [(0, .ref (bX X)), (1, .int a1), (2, .int a2), (3, .int a3), (4, .int a3), (5, .int a3)]) [1, 2, 3, 4, 5, 0] C rfl dL_door_22 (by decide) rfl ?_
      refine lr_iload (pc' := 26) 4 C rfl dL_door_24 rfl ?_
      refine lr_if_ne (tgt := 48) (pc' := 29) C rfl dL_door_26 (by decide) (fun q2 => ?_) (fun q2 => ?_)
      · have h := h.1 q2
        exact lr_sub [0, 1, 4, 5] rfl h
      · have h := h.2 q2
        refine lr_iload (pc' := 31) 5 C rfl dL_door_29 rfl ?_
        refine lr_iconst (pc' := 32) C rfl dL_door_31 ci_2 ?_
        refine lr_icmp_ne (tgt := 48) (pc' := 35) C rfl dL_door_32 (by decide) (fun q3 => ?_) (fun q3 => ?_)
        · have h := h.1 q3
          exact lr_sub [0, 1, 4, 5] rfl h
        · have h := h.2 q3
          refine lr_aload_n (pc' := 36) 0 C rfl dL_door_35 rfl rfl ?_
          refine lr_iconst (pc' := 37) C rfl dL_door_36 ci_0 ?_
          refine lr_callS (As := (fun B b => [.ref b, .int (nI 0)])) (rest := []) (pc' := 40) 2 C rfl dL_door_37 cs_L_cell ml_L_9 (by decide) (fun _ _ => rfl) rfl (by decide) (Nat.le_of_ble_eq_true rfl) (Nat.le_of_ble_eq_true rfl) (Nat.le_of_ble_eq_true rfl) (u_cell (LC_L C) (by decide) ?_)
          refine lr_bipush (pc' := 42) C rfl dL_door_40 cb_12 ?_
          refine lr_ishr (pc' := 43) C rfl dL_door_42 ?_
          refine lr_iconst (pc' := 44) C rfl dL_door_43 ci_1 ?_
          refine lr_iand (pc' := 45) C rfl dL_door_44 ?_
          refine lr_goto (tgt := 101) C dL_door_45 (by decide) ?_
          exact lr_sub [] rfl h
  · have h := h.2 q0
    refine lr_iload_n (pc' := 6) 2 C rfl dL_door_5 rfl rfl ?_
    refine lr_goto (tgt := 10) C dL_door_6 (by decide) ?_
    refine lr_istore (pc' := 12) (lv' := [(0, .ref (bX X)), (1, .int a1), (2, .int a2), (3, .int a3), (4, .int a2)]) [1, 2, 3, 4, 0] C rfl dL_door_10 (by decide) rfl ?_
    refine lr_iload_n (pc' := 13) 2 C rfl dL_door_12 rfl rfl ?_
    refine lr_iload_n (pc' := 14) 3 C rfl dL_door_13 rfl rfl ?_
    refine lr_icmp_ge (tgt := 21) (pc' := 17) C rfl dL_door_14 (by decide) (fun q1 => ?_) (fun q1 => ?_)
    · have h := h.1 q1
      refine lr_iload_n (pc' := 22) 2 C rfl dL_door_21 rfl rfl ?_
      refine lr_istore (pc' := 24) (lv' := [(0, .ref (bX X)), (1, .int a1), (2, .int a2), (3, .int a3), (4, .int a2), (5, .int a2)]) [1, 2, 3, 4, 5, 0] C rfl dL_door_22 (by decide) rfl ?_
      refine lr_iload (pc' := 26) 4 C rfl dL_door_24 rfl ?_
      refine lr_if_ne (tgt := 48) (pc' := 29) C rfl dL_door_26 (by decide) (fun q2 => ?_) (fun q2 => ?_)
      · have h := h.1 q2
        exact lr_sub [0, 1, 4, 5] rfl h
      · have h := h.2 q2
        refine lr_iload (pc' := 31) 5 C rfl dL_door_29 rfl ?_
        refine lr_iconst (pc' := 32) C rfl dL_door_31 ci_2 ?_
        refine lr_icmp_ne (tgt := 48) (pc' := 35) C rfl dL_door_32 (by decide) (fun q3 => ?_) (fun q3 => ?_)
        · have h := h.1 q3
          exact lr_sub [0, 1, 4, 5] rfl h
        · have h := h.2 q3
          refine lr_aload_n (pc' := 36) 0 C rfl dL_door_35 rfl rfl ?_
          refine lr_iconst (pc' := 37) C rfl dL_door_36 ci_0 ?_
          refine lr_callS (As := (fun B b => [.ref b, .int (nI 0)])) (rest := []) (pc' := 40) 2 C rfl dL_door_37 cs_L_cell ml_L_9 (by decide) (fun _ _ => rfl) rfl (by decide) (Nat.le_of_ble_eq_true rfl) (Nat.le_of_ble_eq_true rfl) (Nat.le_of_ble_eq_true rfl) (u_cell (LC_L C) (by decide) ?_)
          refine lr_bipush (pc' := 42) C rfl dL_door_40 cb_12 ?_
          refine lr_ishr (pc' := 43) C rfl dL_door_42 ?_
          refine lr_iconst (pc' := 44) C rfl dL_door_43 ci_1 ?_
          refine lr_iand (pc' := 45) C rfl dL_door_44 ?_
          refine lr_goto (tgt := 101) C dL_door_45 (by decide) ?_
          exact lr_sub [] rfl h
    · have h := h.2 q1
      refine lr_iload_n (pc' := 18) 3 C rfl dL_door_17 rfl rfl ?_
      refine lr_goto (tgt := 22) C dL_door_18 (by decide) ?_
      refine lr_istore (pc' := 24) (lv' := [(0, .ref (bX X)), (1, .int a1), (2, .int a2), (3, .int a3), (4, .int a2), (5, .int a3)]) [1, 2, 3, 4, 5, 0] C rfl dL_door_22 (by decide) rfl ?_
      refine lr_iload (pc' := 26) 4 C rfl dL_door_24 rfl ?_
      refine lr_if_ne (tgt := 48) (pc' := 29) C rfl dL_door_26 (by decide) (fun q2 => ?_) (fun q2 => ?_)
      · have h := h.1 q2
        exact lr_sub [0, 1, 4, 5] rfl h
      · have h := h.2 q2
        refine lr_iload (pc' := 31) 5 C rfl dL_door_29 rfl ?_
        refine lr_iconst (pc' := 32) C rfl dL_door_31 ci_2 ?_
        refine lr_icmp_ne (tgt := 48) (pc' := 35) C rfl dL_door_32 (by decide) (fun q3 => ?_) (fun q3 => ?_)
        · have h := h.1 q3
          exact lr_sub [0, 1, 4, 5] rfl h
        · have h := h.2 q3
          refine lr_aload_n (pc' := 36) 0 C rfl dL_door_35 rfl rfl ?_
          refine lr_iconst (pc' := 37) C rfl dL_door_36 ci_0 ?_
          refine lr_callS (As := (fun B b => [.ref b, .int (nI 0)])) (rest := []) (pc' := 40) 2 C rfl dL_door_37 cs_L_cell ml_L_9 (by decide) (fun _ _ => rfl) rfl (by decide) (Nat.le_of_ble_eq_true rfl) (Nat.le_of_ble_eq_true rfl) (Nat.le_of_ble_eq_true rfl) (u_cell (LC_L C) (by decide) ?_)
          refine lr_bipush (pc' := 42) C rfl dL_door_40 cb_12 ?_
          refine lr_ishr (pc' := 43) C rfl dL_door_42 ?_
          refine lr_iconst (pc' := 44) C rfl dL_door_43 ci_1 ?_
          refine lr_iand (pc' := 45) C rfl dL_door_44 ?_
          refine lr_goto (tgt := 101) C dL_door_45 (by decide) ?_
          exact lr_sub [] rfl h
theorem T_L_door_48 {X : HX} {L : Nat} {xs : Nat → Int32} {M : Mem} {a1 : Int32} {a4 : Int32} {a5 : Int32} {Q : Int32 → Mem → Prop} (C : LC mdL_door 1 0 0 X L xs) (R : RT mdL_door X 0 0 Q) (h : ((¬ (a5 - a4) = (nI 1)) → (((¬ a4 = 0) → (P_L_door_100 X M )) ∧ ((a4 = 0) → (((¬ a5 = (a1 - (nI 1))) → (P_L_door_100 X M )) ∧ ((a5 = (a1 - (nI 1))) → (P_L_door_101 X M (((clI L xs (nI 0)) >>> (((nI 3) + a5) &&& 31)) &&& (nI 1)))))))) ∧ (((a5 - a4) = (nI 1)) → (P_L_door_101 X M (((clI L xs (nI 0)) >>> (((nI 3) + a4) &&& 31)) &&& (nI 1))))) : P_L_door_48 X M a1 a4 a5 := by
  refine lr_iload (pc' := 50) 3 C rfl dL_door_48 rfl ?_
  refine lr_iload (pc' := 52) 2 C rfl dL_door_50 rfl ?_
  refine lr_isub (pc' := 53) C rfl dL_door_52 ?_
  refine lr_iconst (pc' := 54) C rfl dL_door_53 ci_1 ?_
  refine lr_icmp_ne (tgt := 72) (pc' := 57) C rfl dL_door_54 (by decide) (fun q0 => ?_) (fun q0 => ?_)
  · have h := h.1 q0
    refine lr_iload (pc' := 74) 2 C rfl dL_door_72 rfl ?_
    refine lr_if_ne (tgt := 100) (pc' := 77) C rfl dL_door_74 (by decide) (fun q1 => ?_) (fun q1 => ?_)
    · have h := h.1 q1
      exact lr_sub [] rfl h
    · have h := h.2 q1
      refine lr_iload (pc' := 79) 3 C rfl dL_door_77 rfl ?_
      refine lr_iload_n (pc' := 80) 1 C rfl dL_door_79 rfl rfl ?_
      refine lr_iconst (pc' := 81) C rfl dL_door_80 ci_1 ?_
      refine lr_isub (pc' := 82) C rfl dL_door_81 ?_
      refine lr_icmp_ne (tgt := 100) (pc' := 85) C rfl dL_door_82 (by decide) (fun q2 => ?_) (fun q2 => ?_)
      · have h := h.1 q2
        exact lr_sub [] rfl h
      · have h := h.2 q2
        refine lr_aload_n (pc' := 86) 0 C rfl dL_door_85 rfl rfl ?_
        refine lr_iconst (pc' := 87) C rfl dL_door_86 ci_0 ?_
        refine lr_callS (As := (fun B b => [.ref b, .int (nI 0)])) (rest := []) (pc' := 90) 2 C rfl dL_door_87 cs_L_cell ml_L_9 (by decide) (fun _ _ => rfl) rfl (by decide) (Nat.le_of_ble_eq_true rfl) (Nat.le_of_ble_eq_true rfl) (Nat.le_of_ble_eq_true rfl) (u_cell (LC_L C) (by decide) ?_)
        refine lr_iconst (pc' := 91) C rfl dL_door_90 ci_3 ?_
        refine lr_iload (pc' := 93) 3 C rfl dL_door_91 rfl ?_
        refine lr_iadd (pc' := 94) C rfl dL_door_93 ?_
        refine lr_ishr (pc' := 95) C rfl dL_door_94 ?_
        refine lr_iconst (pc' := 96) C rfl dL_door_95 ci_1 ?_
        refine lr_iand (pc' := 97) C rfl dL_door_96 ?_
        refine lr_goto (tgt := 101) C dL_door_97 (by decide) ?_
        exact lr_sub [] rfl h
  · have h := h.2 q0
    refine lr_aload_n (pc' := 58) 0 C rfl dL_door_57 rfl rfl ?_
    refine lr_iconst (pc' := 59) C rfl dL_door_58 ci_0 ?_
    refine lr_callS (As := (fun B b => [.ref b, .int (nI 0)])) (rest := []) (pc' := 62) 2 C rfl dL_door_59 cs_L_cell ml_L_9 (by decide) (fun _ _ => rfl) rfl (by decide) (Nat.le_of_ble_eq_true rfl) (Nat.le_of_ble_eq_true rfl) (Nat.le_of_ble_eq_true rfl) (u_cell (LC_L C) (by decide) ?_)
    refine lr_iconst (pc' := 63) C rfl dL_door_62 ci_3 ?_
    refine lr_iload (pc' := 65) 2 C rfl dL_door_63 rfl ?_
    refine lr_iadd (pc' := 66) C rfl dL_door_65 ?_
    refine lr_ishr (pc' := 67) C rfl dL_door_66 ?_
    refine lr_iconst (pc' := 68) C rfl dL_door_67 ci_1 ?_
    refine lr_iand (pc' := 69) C rfl dL_door_68 ?_
    refine lr_goto (tgt := 101) C dL_door_69 (by decide) ?_
    exact lr_sub [] rfl h
theorem T_L_door_100 {X : HX} {L : Nat} {xs : Nat → Int32} {M : Mem}  {Q : Int32 → Mem → Prop} (C : LC mdL_door 1 0 0 X L xs) (R : RT mdL_door X 0 0 Q) (h : P_L_door_101 X M (-1)) : P_L_door_100 X M  := by
  refine lr_iconst (pc' := 101) C rfl dL_door_100 ci_m1 ?_
  exact lr_sub [] rfl h
theorem T_L_door_101 {X : HX} {L : Nat} {xs : Nat → Int32} {M : Mem} {s0 : Int32} {Q : Int32 → Mem → Prop} (C : LC mdL_door 1 0 0 X L xs) (R : RT mdL_door X 0 0 Q) (h : Q s0 M) : P_L_door_101 X M s0 := by
  exact R _ _ _ _ dL_door_101 h
def dr2 (L : Nat) (xs : Nat → Int32) (n lo hi : Int32) : Int32 :=
  if lo = 0 ∧ hi = nI 2 then (clI L xs (nI 0) >>> (nI 12 &&& 31)) &&& nI 1
  else if hi - lo = nI 1 then (clI L xs (nI 0) >>> ((nI 3 + lo) &&& 31)) &&& nI 1
  else if lo = 0 ∧ hi = n - nI 1 then (clI L xs (nI 0) >>> ((nI 3 + hi) &&& 31)) &&& nI 1 else -1
def drI (L : Nat) (xs : Nat → Int32) (n a b : Int32) : Int32 := dr2 L xs n (if b ≤ a then b else a) (if b ≤ a then a else b)
theorem u_door {L : Nat} {xs : Nat → Int32} {M : Mem} {n a b : Int32} {Q : Int32 → Mem → Prop} (hL : L ≤ 260) (h : Q (drI L xs n a b) M) : HLc 1 mdL_door L xs (fun B v => [.ref v, .int n, .int a, .int b]) M Q := by
  refine HLc_of (by decide +kernel) (fun _ _ => Nat.le_of_ble_eq_true rfl) rfl hL (fun X C R => T_L_door C R ?_)
  have k101 : ∀ v, Q v M → P_L_door_101 X M v := fun v hv => T_L_door_101 C R hv
  have m : ∀ lo hi, Q (dr2 L xs n lo hi) M → ((¬ lo = 0 → P_L_door_48 X M n lo hi) ∧ (lo = 0 → (¬ hi = nI 2 → P_L_door_48 X M n lo hi) ∧ (hi = nI 2 → P_L_door_101 X M ((clI L xs (nI 0) >>> (nI 12 &&& 31)) &&& nI 1)))) := by
    intro lo hi hq
    have k48 : ¬ (lo = 0 ∧ hi = nI 2) → P_L_door_48 X M n lo hi := by
      intro w
      unfold dr2 at hq
      rw [if_neg w] at hq
      refine T_L_door_48 C R ⟨fun q => ?_, fun q => ?_⟩
      · rw [if_neg q] at hq
        refine ⟨fun q2 => ?_, fun q2 => ⟨fun q3 => ?_, fun q3 => ?_⟩⟩
        · rw [if_neg (fun z => q2 z.1)] at hq; exact T_L_door_100 C R (k101 _ hq)
        · rw [if_neg (fun z => q3 z.2)] at hq; exact T_L_door_100 C R (k101 _ hq)
        · rw [if_pos ⟨q2, q3⟩] at hq; exact k101 _ hq
      · rw [if_pos q] at hq; exact k101 _ hq
    exact ⟨fun q => k48 (fun z => q z.1), fun q => ⟨fun q2 => k48 (fun z => q2 z.2), fun q2 => k101 _ (by unfold dr2 at hq; rw [if_pos ⟨q, q2⟩] at hq; exact hq)⟩⟩
  unfold drI at h
  by_cases e : b ≤ a
  · rw [if_pos e, if_pos e] at h
    exact ⟨fun _ => ⟨fun _ => m b a h, fun q => absurd e q⟩, fun q => absurd e q⟩
  · rw [if_neg e, if_neg e] at h
    exact ⟨fun q => absurd q e, fun _ => ⟨fun q => absurd q e, fun _ => m a b h⟩⟩
