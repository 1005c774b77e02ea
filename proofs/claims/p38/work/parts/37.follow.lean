theorem pos_c {h : HS} {s : SS} {f g o o' : Nat → Nat} : ∀ {i : Nat}, (∀ j, j < i → o j = o' j ∧ f (o j) = g (o j)) → ∀ v, pos h s f o i v = pos h s g o' i v := by
  intro i
  induction i with
  | zero => intro _ v; rfl
  | succ i ih =>
    intro hj v
    have h1 := hj i (by omega)
    have h2 := ih (fun j hj' => hj j (by omega)) v
    simp only [pos]
    rw [h2, h1.2, h1.1]
theorem dk_c {h : HS} {s : SS} {f g o o' : Nat → Nat} {i : Nat} (hj : ∀ j, j ≤ i → o j = o' j ∧ f (o j) = g (o j)) : dk_ h s f o i = dk_ h s g o' i := by
  have h1 := hj i (Nat.le_refl _)
  unfold dk_
  rw [pos_c (fun j hj' => hj j (by omega)), h1.2, h1.1]
theorem tkk_c {h : HS} {s : SS} {f g o o' : Nat → Nat} {i : Nat} (hj : ∀ j, j ≤ i → o j = o' j ∧ f (o j) = g (o j)) : tkk h s f o i = tkk h s g o' i := by
  have h1 := hj i (Nat.le_refl _)
  unfold tkk
  rw [dk_c hj, pos_c (fun j hj' => hj j (by omega)), h1.2, h1.1]
theorem cst_c {h : HS} {s : SS} {f g o o' : Nat → Nat} : ∀ {i : Nat}, (∀ j, j < i → o j = o' j ∧ f (o j) = g (o j)) → cst h s f o i = cst h s g o' i := by
  intro i
  induction i with
  | zero => intro _; rfl
  | succ i ih =>
    intro hj
    simp only [cst]
    rw [ih (fun j hj' => hj j (by omega)), dk_c (fun j hj' => hj j (by omega)), (hj i (by omega)).1]
def rnD (h : HS) (s : SS) (by_ o : Nat → Nat) : Nat → Nat → Nat
  | 0 => fun _ => 0
  | i + 1 => fun e => if e = o i then dk_ h s by_ o i else rnD h s by_ o i e
def rnT (h : HS) (s : SS) (by_ o : Nat → Nat) : Nat → Nat → Nat
  | 0 => fun _ => 0
  | i + 1 => fun e => if e = o i then tkk h s by_ o i else rnT h s by_ o i e
theorem rnD_c {h : HS} {s : SS} {f g o o' : Nat → Nat} : ∀ {i : Nat}, (∀ j, j < i → o j = o' j ∧ f (o j) = g (o j)) → ∀ e, rnD h s f o i e = rnD h s g o' i e := by
  intro i
  induction i with
  | zero => intro _ e; rfl
  | succ i ih =>
    intro hj e
    simp only [rnD]
    rw [ih (fun j hj' => hj j (by omega)), dk_c (fun j hj' => hj j (by omega)), (hj i (by omega)).1]
theorem rnT_c {h : HS} {s : SS} {f g o o' : Nat → Nat} : ∀ {i : Nat}, (∀ j, j < i → o j = o' j ∧ f (o j) = g (o j)) → ∀ e, rnT h s f o i e = rnT h s g o' i e := by
  intro i
  induction i with
  | zero => intro _ e; rfl
  | succ i ih =>
    intro hj e
    simp only [rnT]
    rw [ih (fun j hj' => hj j (by omega)), tkk_c (fun j hj' => hj j (by omega)), (hj i (by omega)).1]
def PP (M : Mem) (h : HS) (s : SS) (by_ o : Nat → Nat) (i : Nat) : Prop := ∀ v, v < s.1 → M 165 v = nI (pos h s by_ o i v).1 ∧ M 166 v = nI (pos h s by_ o i v).2
theorem s_allHome {h : HS} {s : SS} (P : SO s h.1) {M0 : Mem} (H0 : SC 30 M0 s) {by_ o : Nat → Nat} {Q : Mem → Prop}
    (K : ∀ M', (∀ c k, c ≠ 165 → c ≠ 166 → M' c k = M0 c k) → PP M' h s by_ o 0 → Q M') : C_X3_allHome M0 Q := by
  have hS := P.1
  have key : ∀ n v (M : Mem), v + n = s.1 → (∀ c k, c ≠ 165 → c ≠ 166 → M c k = M0 c k) → (∀ u, u < v → M 165 u = nI (s.2.2.2.1 u) ∧ M 166 u = nI 0) → P_X3_allHome_2 M (nI v) Q := by
    intro n
    induction n with
    | zero =>
      intro v M hv hf hw
      refine T_X3_allHome_2 ?_
      simp (disch := omega) only [n_lt, n_le, n_eq, n_lt0, n_le0, n_ge0, n_gt0, n_eq0, n_add, n_mul, n_sub, n_m1, ix_n, vin, bI_0, bI_1, nT_le, nF_le, nT_lt, nF_lt, nT_eq, nF_eq, mk_test, true_imp_iff, false_imp_iff, not_true_eq_false, not_false_eq_true, true_and, and_true, tf_, ft_, eq_self, true_or, or_true, false_or, or_false, show M 30 0 = nI s.1 from by rw [hf _ _ (by omega) (by omega)]; exact H0.1]
      exact K M hf (fun u hu => hw u (by omega))
    | succ n ih =>
      intro v M hv hf hw
      have e1 : M 31 v = nI (s.2.2.2.1 v) := by rw [hf _ _ (by omega) (by omega)]; exact H0.2.2.2.2.1 v (by omega)
      refine T_X3_allHome_2 ?_
      simp (disch := omega) only [n_lt, n_le, n_eq, n_lt0, n_le0, n_ge0, n_gt0, n_eq0, n_add, n_mul, n_sub, n_m1, ix_n, vin, bI_0, bI_1, nT_le, nF_le, nT_lt, nF_lt, nT_eq, nF_eq, mk_test, true_imp_iff, false_imp_iff, not_true_eq_false, not_false_eq_true, true_and, and_true, tf_, ft_, eq_self, true_or, or_true, false_or, or_false, show M 30 0 = nI s.1 from by rw [hf _ _ (by omega) (by omega)]; exact H0.1, e1]
      refine ih (v + 1) _ (by omega) (fun c k q1 q2 => by rw [wr_nc _ _ _ _ q2, wr_nc _ _ _ _ q1]; exact hf c k q1 q2) (fun u hu => ?_)
      by_cases e : u = v
      · subst e; exact ⟨by rw [wr_nc _ _ _ _ (by omega), wr_eq], wr_eq _ _ _ _⟩
      · exact ⟨by rw [wr_nc _ _ _ _ (by omega), wr_nk _ _ _ _ e]; exact (hw u (by omega)).1, by rw [wr_nk _ _ _ _ e, wr_nc _ _ _ _ (by omega)]; exact (hw u (by omega)).2⟩
  exact T_X3_allHome (key s.1 0 M0 (by omega) (fun _ _ _ _ => rfl) (fun u hu => by omega))
/-! ===== the class's plan at 125: carried out ===== -/
theorem s_carryOut_125 {h : HS} {s : SS} (O : HO h) (P : SO s h.1) {M0 : Mem} (H0 : SC 30 M0 s) (W0 : WY M0 h) (T0 : ET M0 h s) {e v r t : Nat} (he : e < s.2.1) (hv : v < s.1) (hr : r < h.1) (ht : t ≤ 24) (e1 : M0 127 e = nI v) (e2 : M0 165 v = nI r) (e3 : M0 166 v = nI t) {Q : Mem → Prop}
    (K : ∀ M', (∀ c k, ¬ ((c = 125 ∧ k = 0) ∨ (c = 128 ∧ k = e) ∨ (c = 129 ∧ k = e) ∨ (c = 165 ∧ k = v) ∨ (c = 166 ∧ k = v)) → M' c k = M0 c k) → M' 125 0 = M0 125 0 + nI (wt s e (dn h s e r t)) → M' 128 e = nI (dn h s e r t) → M' 129 e = nI (if dn h s e r t = 24 then 24 else tk h s e r t) → M' 165 v = nI (s.2.2.2.2.2 e 1) → M' 166 v = nI (dn h s e r t) → Q M') : C_X3_carryOut_125 M0 (nI e) Q := by
  have hS := P.1
  have hE := P.2.1
  have hR := O.1
  have hdn := dn_le P (h := h) (r := r) he ht
  have good : ∀ M : Mem, (∀ c k, c ≠ 128 → c ≠ 129 → M c k = M0 c k) → SC 30 M s ∧ WY M h ∧ ET M h s := fun M f => ⟨H0.congr (fun c k q1 q2 => f c k (by omega) (by omega)), W0.congr hR (fun c k q => f c k (by omega) (by omega)), fun t ht b hb => by rw [f _ _ (by omega) (by omega)]; exact T0 t ht b hb⟩
  refine T_X3_carryOut_125 ⟨by rw [vin (by omega)]; omega, ?_⟩
  rw [ix_n (by omega), e1]
  refine ⟨by rw [vin (by omega)]; omega, ?_⟩
  rw [ix_n (by omega), e2, e3]
  refine s_doneAt O P H0 W0 T0 he hr ht ?_
  rw [wr_eq, n_eq (by omega) (by omega)]
  obtain ⟨H1, W1, T1⟩ := good (wr M0 128 e (nI (dn h s e r t))) (fun c k q1 q2 => wr_nc _ _ _ _ q1)
  refine ⟨fun q => ?_, fun q => ?_⟩
  · have htn : t < 24 := by
      apply Classical.byContradiction
      intro q2
      apply q
      unfold dn
      rw [if_pos (by omega)]
    rw [e2, e3]
    refine s_takenAt O P H1 W1 T1 he hr htn ?_
    rw [wr_eq]
    obtain ⟨H2, W2, T2⟩ := good (wr (wr M0 128 e (nI (dn h s e r t))) 129 e (nI (tk h s e r t))) (fun c k q1 q2 => by rw [wr_nc _ _ _ _ q2, wr_nc _ _ _ _ q1])
    refine s_weight P H2 he hdn ?_
    refine K _ (fun c k q => ?_) ?_ ?_ ?_ ?_ ?_
    · simp only [wr]
      rw [if_neg (by omega), if_neg (by omega), if_neg (by omega), if_neg (by omega), if_neg (by omega)]
    · simp [wr]
    · simp [wr]
    · simp [wr, q]
    · have := H2.2.2.2.2.2 e he 1 (by omega)
      simp only [wr] at this ⊢
      simpa using this
    · simp [wr]
  · obtain ⟨H2, W2, T2⟩ := good (wr (wr M0 128 e (nI (dn h s e r t))) 129 e (nI 24)) (fun c k q1 q2 => by rw [wr_nc _ _ _ _ q2, wr_nc _ _ _ _ q1])
    refine s_weight P H2 he hdn ?_
    refine K _ (fun c k q => ?_) ?_ ?_ ?_ ?_ ?_
    · simp only [wr]
      rw [if_neg (by omega), if_neg (by omega), if_neg (by omega), if_neg (by omega), if_neg (by omega)]
    · simp [wr]
    · simp [wr]
    · simp [wr, q]
    · have := H2.2.2.2.2.2 e he 1 (by omega)
      simp only [wr] at this ⊢
      simpa using this
    · simp [wr]
/-! ===== the class's plan at 130: carried out ===== -/
theorem s_carryOut_130 {h : HS} {s : SS} (O : HO h) (P : SO s h.1) {M0 : Mem} (H0 : SC 30 M0 s) (W0 : WY M0 h) (T0 : ET M0 h s) {e v r t : Nat} (he : e < s.2.1) (hv : v < s.1) (hr : r < h.1) (ht : t ≤ 24) (e1 : M0 132 e = nI v) (e2 : M0 165 v = nI r) (e3 : M0 166 v = nI t) {Q : Mem → Prop}
    (K : ∀ M', (∀ c k, ¬ ((c = 130 ∧ k = 0) ∨ (c = 133 ∧ k = e) ∨ (c = 134 ∧ k = e) ∨ (c = 165 ∧ k = v) ∨ (c = 166 ∧ k = v)) → M' c k = M0 c k) → M' 130 0 = M0 130 0 + nI (wt s e (dn h s e r t)) → M' 133 e = nI (dn h s e r t) → M' 134 e = nI (if dn h s e r t = 24 then 24 else tk h s e r t) → M' 165 v = nI (s.2.2.2.2.2 e 1) → M' 166 v = nI (dn h s e r t) → Q M') : C_X3_carryOut_130 M0 (nI e) Q := by
  have hS := P.1
  have hE := P.2.1
  have hR := O.1
  have hdn := dn_le P (h := h) (r := r) he ht
  have good : ∀ M : Mem, (∀ c k, c ≠ 133 → c ≠ 134 → M c k = M0 c k) → SC 30 M s ∧ WY M h ∧ ET M h s := fun M f => ⟨H0.congr (fun c k q1 q2 => f c k (by omega) (by omega)), W0.congr hR (fun c k q => f c k (by omega) (by omega)), fun t ht b hb => by rw [f _ _ (by omega) (by omega)]; exact T0 t ht b hb⟩
  refine T_X3_carryOut_130 ⟨by rw [vin (by omega)]; omega, ?_⟩
  rw [ix_n (by omega), e1]
  refine ⟨by rw [vin (by omega)]; omega, ?_⟩
  rw [ix_n (by omega), e2, e3]
  refine s_doneAt O P H0 W0 T0 he hr ht ?_
  rw [wr_eq, n_eq (by omega) (by omega)]
  obtain ⟨H1, W1, T1⟩ := good (wr M0 133 e (nI (dn h s e r t))) (fun c k q1 q2 => wr_nc _ _ _ _ q1)
  refine ⟨fun q => ?_, fun q => ?_⟩
  · have htn : t < 24 := by
      apply Classical.byContradiction
      intro q2
      apply q
      unfold dn
      rw [if_pos (by omega)]
    rw [e2, e3]
    refine s_takenAt O P H1 W1 T1 he hr htn ?_
    rw [wr_eq]
    obtain ⟨H2, W2, T2⟩ := good (wr (wr M0 133 e (nI (dn h s e r t))) 134 e (nI (tk h s e r t))) (fun c k q1 q2 => by rw [wr_nc _ _ _ _ q2, wr_nc _ _ _ _ q1])
    refine s_weight P H2 he hdn ?_
    refine K _ (fun c k q => ?_) ?_ ?_ ?_ ?_ ?_
    · simp only [wr]
      rw [if_neg (by omega), if_neg (by omega), if_neg (by omega), if_neg (by omega), if_neg (by omega)]
    · simp [wr]
    · simp [wr]
    · simp [wr, q]
    · have := H2.2.2.2.2.2 e he 1 (by omega)
      simp only [wr] at this ⊢
      simpa using this
    · simp [wr]
  · obtain ⟨H2, W2, T2⟩ := good (wr (wr M0 133 e (nI (dn h s e r t))) 134 e (nI 24)) (fun c k q1 q2 => by rw [wr_nc _ _ _ _ q2, wr_nc _ _ _ _ q1])
    refine s_weight P H2 he hdn ?_
    refine K _ (fun c k q => ?_) ?_ ?_ ?_ ?_ ?_
    · simp only [wr]
      rw [if_neg (by omega), if_neg (by omega), if_neg (by omega), if_neg (by omega), if_neg (by omega)]
    · simp [wr]
    · simp [wr]
    · simp [wr, q]
    · have := H2.2.2.2.2.2 e he 1 (by omega)
      simp only [wr] at this ⊢
      simpa using this
    · simp [wr]
theorem s_follow {h : HS} {s : SS} (O : HO h) (P : SO s h.1) {M0 : Mem} (H0 : SC 30 M0 s) (W0 : WY M0 h) (T0 : ET M0 h s) {by_ o : Nat → Nat} (A : AR M0 126 o) (ho : ∀ i, i < s.2.1 → o i < s.2.1) (e1 : ∀ e, e < s.2.1 → M0 127 e = nI (by_ e)) (hb : ∀ e, e < s.2.1 → by_ e < s.1) {Q : Mem → Prop}
    (K : ∀ M', (∀ c k, ¬ ((c = 125 ∧ k = 0) ∨ c = 128 ∨ c = 129 ∨ c = 165 ∨ c = 166) → M' c k = M0 c k) → M' 125 0 = nI (cst h s by_ o s.2.1) → (∀ e, (∃ j, j < s.2.1 ∧ o j = e) → M' 128 e = nI (rnD h s by_ o s.2.1 e) ∧ M' 129 e = nI (rnT h s by_ o s.2.1 e)) → Q M') : C_X3_follow_125 M0 Q := by
  have hS := P.1
  have hE := P.2.1
  have hR := O.1
  have good : ∀ M : Mem, (∀ c k, ¬ ((c = 125 ∧ k = 0) ∨ c = 128 ∨ c = 129 ∨ c = 165 ∨ c = 166) → M c k = M0 c k) → SC 30 M s ∧ WY M h ∧ ET M h s := fun M f => ⟨H0.congr (fun c k q1 q2 => f c k (by omega)), W0.congr hR (fun c k q => f c k (by omega)), fun t ht b hb => by rw [f _ _ (by omega)]; exact T0 t ht b hb⟩
  have key : ∀ n i (M : Mem), i + n = s.2.1 → (∀ c k, ¬ ((c = 125 ∧ k = 0) ∨ c = 128 ∨ c = 129 ∨ c = 165 ∨ c = 166) → M c k = M0 c k) → PP M h s by_ o i → M 125 0 = nI (cst h s by_ o i) → (∀ e, (∃ j, j < i ∧ o j = e) → M 128 e = nI (rnD h s by_ o i e) ∧ M 129 e = nI (rnT h s by_ o i e)) → P_X3_follow_125_11 M (nI i) Q := by
    intro n
    induction n with
    | zero =>
      intro i M hi hf hp hs hw
      obtain ⟨H, W, T⟩ := good M hf
      have : i = s.2.1 := by omega
      subst this
      refine T_X3_follow_125_11 ?_
      simp (disch := omega) only [n_lt, n_le, n_eq, n_lt0, n_le0, n_ge0, n_gt0, n_eq0, n_add, n_mul, n_sub, n_m1, ix_n, vin, bI_0, bI_1, nT_le, nF_le, nT_lt, nF_lt, nT_eq, nF_eq, mk_test, true_imp_iff, false_imp_iff, not_true_eq_false, not_false_eq_true, true_and, and_true, tf_, ft_, eq_self, true_or, or_true, false_or, or_false, show M 30 3 = nI s.2.1 from H.2.2.2.1]
      exact K M hf hs hw
    | succ n ih =>
      intro i M hi hf hp hs hw
      obtain ⟨H, W, T⟩ := good M hf
      have hoi := ho i (by omega)
      have hbi := hb _ hoi
      have hpos := pos_ok (h := h) P (by_ := by_) (ord := o) i (fun j hj => ho j (by omega)) _ hbi
      have hpp := hp _ hbi
      have eA : M 126 i = nI (o i) := by rw [hf _ _ (by omega)]; exact A i (by omega)
      refine T_X3_follow_125_11 ?_
      simp (disch := omega) only [n_lt, n_le, n_eq, n_lt0, n_le0, n_ge0, n_gt0, n_eq0, n_add, n_mul, n_sub, n_m1, ix_n, vin, bI_0, bI_1, nT_le, nF_le, nT_lt, nF_lt, nT_eq, nF_eq, mk_test, true_imp_iff, false_imp_iff, not_true_eq_false, not_false_eq_true, true_and, and_true, tf_, ft_, eq_self, true_or, or_true, false_or, or_false, show M 30 3 = nI s.2.1 from H.2.2.2.1, eA]
      refine s_carryOut_125 O P H W T hoi hbi hpos.1 hpos.2 (by rw [hf _ _ (by omega)]; exact e1 _ hoi) hpp.1 hpp.2 (fun M' f' g1 g2 g3 g4 g5 => ?_)
      refine ih (i + 1) M' (by omega) (fun c k q => by rw [f' c k (by omega)]; exact hf c k q) (fun v hv => ?_) ?_ (fun e he => ?_)
      · simp only [pos]
        by_cases q : v = by_ (o i)
        · subst q; rw [if_pos rfl]; exact ⟨g4, g5⟩
        · rw [if_neg q, f' _ _ (by omega), f' _ _ (by omega)]; exact hp v hv
      · rw [g1, hs, n_add]; rfl
      · simp only [rnD, rnT]
        by_cases q : e = o i
        · subst q; rw [if_pos rfl, if_pos rfl]; exact ⟨g2, g3⟩
        · rw [if_neg q, if_neg q, f' _ _ (by omega), f' _ _ (by omega)]
          refine hw e ?_
          obtain ⟨j, hj, hj2⟩ := he
          by_cases q2 : j = i
          · subst q2; exact absurd hj2.symm q
          · exact ⟨j, by omega, hj2⟩
  refine T_X3_follow_125 (s_allHome (h := h) (by_ := by_) (o := o) P H0 (fun M1 f1 p1 => ?_))
  refine key s.2.1 0 _ (by omega) (fun c k q => by rw [wr, if_neg (by omega)]; exact f1 c k (by omega) (by omega)) (fun v hv => ?_) (wr_eq _ _ _ _) (fun e he => ?_)
  · rw [wr_nc _ _ _ _ (by omega), wr_nc _ _ _ _ (by omega)]; exact p1 v hv
  · obtain ⟨j, hj, _⟩ := he; omega
