/-! ===== errands: how they are done ===== -/
def tk (h : HS) (s : SS) (e r t : Nat) : Nat := lst (fun u => decide (ed h true s.2.2.1 u (s.2.2.2.2.2 e 1) < 24)) (24 - ed h false r (max t (s.2.2.2.2.2 e 3)) s.2.2.1) (ed h false r (max t (s.2.2.2.2.2 e 3)) s.2.2.1)
def dn (h : HS) (s : SS) (e r t : Nat) : Nat := if t = 24 then 24 else if s.2.2.2.2.2 e 0 = 0 then ed h false r (max t (s.2.2.2.2.2 e 3)) (s.2.2.2.2.2 e 1) else if tk h s e r t = 24 then 24 else ed h true s.2.2.1 (tk h s e r t) (s.2.2.2.2.2 e 1)
def wt (s : SS) (e d : Nat) : Nat := s.2.2.2.2.2 e 2 * (if d = 24 then 24 else d - s.2.2.2.2.2 e 4)
def pos (h : HS) (s : SS) (by_ ord : Nat → Nat) : Nat → Nat → Nat × Nat
  | 0 => fun v => (s.2.2.2.1 v, 0)
  | i + 1 => fun v => if v = by_ (ord i) then (s.2.2.2.2.2 (ord i) 1, dn h s (ord i) (pos h s by_ ord i v).1 (pos h s by_ ord i v).2) else pos h s by_ ord i v
def dk_ (h : HS) (s : SS) (by_ ord : Nat → Nat) (i : Nat) : Nat := dn h s (ord i) (pos h s by_ ord i (by_ (ord i))).1 (pos h s by_ ord i (by_ (ord i))).2
def tkk (h : HS) (s : SS) (by_ ord : Nat → Nat) (i : Nat) : Nat := if dk_ h s by_ ord i = 24 then 24 else tk h s (ord i) (pos h s by_ ord i (by_ (ord i))).1 (pos h s by_ ord i (by_ (ord i))).2
def cst (h : HS) (s : SS) (by_ ord : Nat → Nat) : Nat → Nat
  | 0 => 0
  | i + 1 => cst h s by_ ord i + wt s (ord i) (dk_ h s by_ ord i)
theorem tk_le {h : HS} {s : SS} {R : Nat} (O : SO s R) {e r t : Nat} (he : e < s.2.1) (ht : t < 24) : tk h s e r t ≤ 24 := by
  have h1 := (O.2.2.2.2 e he)
  have h2 := ed_le h false r (max t (s.2.2.2.2.2 e 3)) s.2.2.1 (by omega)
  have h3 := lst_le (fun u => decide (ed h true s.2.2.1 u (s.2.2.2.2.2 e 1) < 24)) (24 - ed h false r (max t (s.2.2.2.2.2 e 3)) s.2.2.1) (ed h false r (max t (s.2.2.2.2.2 e 3)) s.2.2.1)
  unfold tk
  omega
theorem dn_le {h : HS} {s : SS} {R : Nat} (O : SO s R) {e r t : Nat} (he : e < s.2.1) (ht : t ≤ 24) : dn h s e r t ≤ 24 := by
  have h1 := (O.2.2.2.2 e he)
  unfold dn
  split
  · omega
  · split
    · exact (ed_le _ _ _ _ _ (by omega)).2
    · split
      · omega
      · have := tk_le O (h := h) (r := r) he (show t < 24 by omega)
        exact (ed_le _ _ _ _ _ (by omega)).2
theorem wt_le {s : SS} {R : Nat} (O : SO s R) {e d : Nat} (he : e < s.2.1) (hd : d ≤ 24) : wt s e d ≤ 216 := by
  have h1 := (O.2.2.2.2 e he)
  unfold wt
  have : (if d = 24 then 24 else d - s.2.2.2.2.2 e 4) ≤ 24 := by split <;> omega
  calc s.2.2.2.2.2 e 2 * (if d = 24 then 24 else d - s.2.2.2.2.2 e 4) ≤ 9 * 24 := Nat.mul_le_mul h1.2.2.2.1 this
    _ = 216 := rfl
theorem pos_ok {h : HS} {s : SS} (O : SO s h.1) {by_ ord : Nat → Nat} : ∀ i, (∀ j, j < i → ord j < s.2.1) → ∀ v, v < s.1 → (pos h s by_ ord i v).1 < h.1 ∧ (pos h s by_ ord i v).2 ≤ 24 := by
  intro i
  induction i with
  | zero => intro _ v hv; exact ⟨O.2.2.2.1 v hv, by simp [pos]⟩
  | succ i ih =>
    intro ho v hv
    have ih' := ih (fun j hj => ho j (by omega)) v hv
    simp only [pos]
    split
    · exact ⟨(O.2.2.2.2 _ (ho i (by omega))).2.1, dn_le O (ho i (by omega)) ih'.2⟩
    · exact ih'
theorem dk_le {h : HS} {s : SS} (O : SO s h.1) {by_ ord : Nat → Nat} {i : Nat} (ho : ∀ j, j ≤ i → ord j < s.2.1) (hb : by_ (ord i) < s.1) : dk_ h s by_ ord i ≤ 24 := dn_le O (ho i (Nat.le_refl _)) (pos_ok O i (fun j hj => ho j (by omega)) _ hb).2
theorem cst_le {h : HS} {s : SS} (O : SO s h.1) {by_ ord : Nat → Nat} : ∀ i, (∀ j, j < i → ord j < s.2.1 ∧ by_ (ord j) < s.1) → cst h s by_ ord i ≤ 216 * i := by
  intro i
  induction i with
  | zero => intro _; exact Nat.le_refl _
  | succ i ih =>
    intro ho
    have := ih (fun j hj => ho j (by omega))
    have := wt_le O (ho i (by omega)).1 (dk_le O (fun j hj => (ho j (by omega)).1) (ho i (by omega)).2)
    simp only [cst]
    omega
/-! ===== the class's: tables and single errands ===== -/
theorem n_max {a b : Nat} (h : a < 2147483648 ∧ b < 2147483648) : jmax (nI a) (nI b) = nI (max a b) := by
  unfold jmax
  by_cases q : a < b
  · rw [if_pos ((n_lt h.1 h.2).mpr q), Nat.max_eq_right (by omega)]
  · rw [if_neg (fun w => q ((n_lt h.1 h.2).mp w)), Nat.max_eq_left (by omega)]
theorem n_min {a b : Nat} (h : a < 2147483648 ∧ b < 2147483648) : jmin (nI a) (nI b) = nI (min a b) := by
  unfold jmin
  by_cases q : b < a
  · rw [if_pos ((n_lt h.2 h.1).mpr q), Nat.min_eq_right (by omega)]
  · rw [if_neg (fun w => q ((n_lt h.2 h.1).mp w)), Nat.min_eq_left (by omega)]
theorem n_subZ {a b : Nat} (h : a < 1073741824 ∧ b < 1073741824) : jmax (nI 0) (nI a - nI b) = nI (a - b) := by
  unfold jmax
  by_cases q : b ≤ a
  · rw [pk_sub q]
    by_cases q2 : 0 < a - b
    · rw [if_pos ((n_lt (by omega) (by omega)).mpr q2)]
    · rw [if_neg (fun w => q2 ((n_lt (by omega) (by omega)).mp w)), show a - b = 0 by omega]
  · rw [if_neg, show a - b = 0 by omega]
    intro w
    rw [Int32.lt_iff_toInt_lt, pk_sub_toInt h.1 h.2, nI_toInt (by omega)] at w
    omega
def ET (M : Mem) (h : HS) (s : SS) : Prop := ∀ t, t < 24 → ∀ b, b < h.1 → M (136 + t) b = nI (ed h true s.2.2.1 t b)
theorem s_well {s : SS} {M : Mem} (H : SC 30 M s) (hs : s.1 ≤ 3) {Q : Int32 → Mem → Prop} (k : Q (mk (fun i => decide (i < s.1) && !s.2.2.2.2.1 i)) M) : C_X5_well_30 M Q := by
  refine T_X5_well_30 ?_
  rw [H.1, mk_full _ (by omega), H.2.1, mk_not, mk_and]
  rw [show (mk fun i => decide (i < s.1) && !(decide (i < s.1) && s.2.2.2.2.1 i)) = mk (fun i => decide (i < s.1) && !s.2.2.2.2.1 i) from mk_ext (fun i _ => by cases decide (i < s.1) <;> simp)]
  exact k
theorem s_takenAt {h : HS} {s : SS} (O : HO h) (P : SO s h.1) {M : Mem} (H : SC 30 M s) (W : WY M h) (T : ET M h s) {e r t : Nat} (he : e < s.2.1) (hr : r < h.1) (ht : t < 24) {Q : Int32 → Mem → Prop} (k : Q (nI (tk h s e r t)) M) : C_X3_takenAt M (nI e) (nI r) (nI t) Q := by
  have hR := O.1
  have hE := P.2.1
  have hp := P.2.2.2.2 e he
  have hc : s.2.2.1 < h.1 := by
    have := P.2.2.1
    omega
  have key : ∀ n u, u + n = 24 → lst (fun u => decide (ed h true s.2.2.1 u (s.2.2.2.2.2 e 1) < 24)) n u = tk h s e r t → P_X3_takenAt_48 M (nI (s.2.2.2.2.2 e 1)) (nI u) Q := by
    intro n
    induction n with
    | zero =>
      intro u hu hk
      refine T_X3_takenAt_48 ?_
      simp (disch := omega) only [n_lt, n_le, n_eq, n_lt0, n_le0, n_ge0, n_gt0, n_eq0, n_add, n_mul, n_sub, n_m1, ix_n, vin, bI_0, bI_1, nT_le, nF_le, nT_lt, nF_lt, nT_eq, nF_eq, mk_test, true_imp_iff, false_imp_iff, not_true_eq_false, not_false_eq_true, true_and, and_true, tf_, ft_, eq_self, true_or, or_true, false_or, or_false, ]
      rw [← hk] at k
      simp only [lst] at k
      rw [show u = 24 by omega] at k
      exact k
    | succ n ih =>
      intro u hu hk
      have eT := T u (by omega) _ hp.2.1
      have hle := ed_le h true s.2.2.1 u (s.2.2.2.2.2 e 1) (by omega)
      refine T_X3_takenAt_48 ?_
      simp only [lst] at hk
      simp (disch := omega) only [n_lt, n_le, n_eq, n_lt0, n_le0, n_ge0, n_gt0, n_eq0, n_add, n_mul, n_sub, n_m1, ix_n, vin, bI_0, bI_1, nT_le, nF_le, nT_lt, nF_lt, nT_eq, nF_eq, mk_test, true_imp_iff, false_imp_iff, not_true_eq_false, not_false_eq_true, true_and, and_true, tf_, ft_, eq_self, true_or, or_true, false_or, or_false, show (135 + 1 + u) = 136 + u by omega, eT]
      refine ⟨fun q => ih (u + 1) (by omega) (by rw [if_neg (by simp; omega)] at hk; exact hk), fun q => ?_⟩
      rw [if_pos (by simp; omega)] at hk
      rw [← hk] at k
      exact k
  have e3 : M 33 e = nI (s.2.2.2.2.2 e 1) := H.2.2.2.2.2 e he 1 (by omega)
  have e5 : M 35 e = nI (s.2.2.2.2.2 e 3) := H.2.2.2.2.2 e he 3 (by omega)
  have e2 : M 30 2 = nI s.2.2.1 := H.2.2.1
  have eW := (W r hr s.2.2.1 hc).2
  have hd := ds_le h true r s.2.2.1
  have eed := ed_f O (t := max t (s.2.2.2.2.2 e 3)) (b := s.2.2.1) hr (by omega)
  refine T_X3_takenAt ?_
  simp (disch := omega) only [n_lt, n_le, n_eq, n_lt0, n_le0, n_ge0, n_gt0, n_eq0, n_add, n_mul, n_sub, n_m1, ix_n, vin, bI_0, bI_1, nT_le, nF_le, nT_lt, nF_lt, nT_eq, nF_eq, mk_test, true_imp_iff, false_imp_iff, not_true_eq_false, not_false_eq_true, true_and, and_true, tf_, ft_, eq_self, true_or, or_true, false_or, or_false, e2, e3, e5, show 19 + 1 + r = 20 + r by omega, eW, n_max]
  by_cases q : max t (s.2.2.2.2.2 e 3) + ds h true r s.2.2.1 < 24
  · rw [Nat.min_eq_right (by omega)] at eed
    refine key (24 - (max t (s.2.2.2.2.2 e 3) + ds h true r s.2.2.1)) _ (by omega) ?_
    unfold tk
    rw [eed]
  · rw [Nat.min_eq_left (by omega)] at eed
    refine T_X3_takenAt_48 ?_
    simp (disch := omega) only [n_lt, n_le, n_eq, n_lt0, n_le0, n_ge0, n_gt0, n_eq0, n_add, n_mul, n_sub, n_m1, ix_n, vin, bI_0, bI_1, nT_le, nF_le, nT_lt, nF_lt, nT_eq, nF_eq, mk_test, true_imp_iff, false_imp_iff, not_true_eq_false, not_false_eq_true, true_and, and_true, tf_, ft_, eq_self, true_or, or_true, false_or, or_false, ]
    unfold tk at k
    rw [eed] at k
    exact k
theorem s_doneAt {h : HS} {s : SS} (O : HO h) (P : SO s h.1) {M : Mem} (H : SC 30 M s) (W : WY M h) (T : ET M h s) {e r t : Nat} (he : e < s.2.1) (hr : r < h.1) (ht : t ≤ 24) {Q : Int32 → Mem → Prop} (k : Q (nI (dn h s e r t)) M) : C_X3_doneAt M (nI e) (nI r) (nI t) Q := by
  have hR := O.1
  have hE := P.2.1
  have hp := P.2.2.2.2 e he
  have e3 : M 33 e = nI (s.2.2.2.2.2 e 1) := H.2.2.2.2.2 e he 1 (by omega)
  have e4 : M 32 e = nI (s.2.2.2.2.2 e 0) := H.2.2.2.2.2 e he 0 (by omega)
  have e5 : M 35 e = nI (s.2.2.2.2.2 e 3) := H.2.2.2.2.2 e he 3 (by omega)
  have eW := (W r hr (s.2.2.2.2.2 e 1) hp.2.1).2
  have hd := ds_le h true r (s.2.2.2.2.2 e 1)
  refine T_X3_doneAt ?_
  unfold dn at k
  simp (disch := omega) only [n_lt, n_le, n_eq, n_lt0, n_le0, n_ge0, n_gt0, n_eq0, n_add, n_mul, n_sub, n_m1, ix_n, vin, bI_0, bI_1, nT_le, nF_le, nT_lt, nF_lt, nT_eq, nF_eq, mk_test, true_imp_iff, false_imp_iff, not_true_eq_false, not_false_eq_true, true_and, and_true, tf_, ft_, eq_self, true_or, or_true, false_or, or_false, e3, e4, e5, show 19 + 1 + r = 20 + r by omega, eW, n_max, n_min]
  refine ⟨fun q => ⟨fun q2 => ?_, fun q2 => ?_⟩, fun q => ?_⟩
  · rw [if_neg q, if_neg q2] at k
    have hk := tk_le P (h := h) (r := r) he (show t < 24 by omega)
    refine s_takenAt O P H W T he hr (by omega) ?_
    simp (disch := omega) only [n_lt, n_le, n_eq, n_lt0, n_le0, n_ge0, n_gt0, n_eq0, n_add, n_mul, n_sub, n_m1, ix_n, vin, bI_0, bI_1, nT_le, nF_le, nT_lt, nF_lt, nT_eq, nF_eq, mk_test, true_imp_iff, false_imp_iff, not_true_eq_false, not_false_eq_true, true_and, and_true, tf_, ft_, eq_self, true_or, or_true, false_or, or_false, e3, n_eq]
    refine ⟨fun q3 => ?_, fun q3 => ?_⟩
    · rw [if_neg q3] at k
      have := T _ (show tk h s e r t < 24 by omega) _ hp.2.1
      rw [show 135 + 1 + tk h s e r t = 136 + tk h s e r t by omega, this]
      exact ⟨by omega, k⟩
    · rw [if_pos q3] at k; exact k
  · rw [if_neg q, if_pos q2, ed_f O hr (by omega)] at k
    exact k
  · rw [if_pos q] at k; exact k
theorem s_weight {s : SS} {R : Nat} (P : SO s R) {M : Mem} (H : SC 30 M s) {e d : Nat} (he : e < s.2.1) (hd : d ≤ 24) {Q : Int32 → Mem → Prop} (k : Q (nI (wt s e d)) M) : C_X5_weight_30 M (nI e) (nI d) Q := by
  have hE := P.2.1
  have hp := P.2.2.2.2 e he
  have e3 : M 34 e = nI (s.2.2.2.2.2 e 2) := H.2.2.2.2.2 e he 2 (by omega)
  have e4 : M 36 e = nI (s.2.2.2.2.2 e 4) := H.2.2.2.2.2 e he 4 (by omega)
  unfold wt at k
  refine T_X5_weight_30 ?_
  simp (disch := omega) only [e3, e4, n_eq, ix_n, vin, nT_lt, n_subZ, n_mul, true_and]
  refine ⟨fun q => ?_, fun q => ?_⟩
  · rw [if_neg q] at k; exact k
  · rw [if_pos q] at k; exact k
