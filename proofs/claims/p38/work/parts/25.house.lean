/-! ===== the class's house ===== -/
theorem s_fill {c n : Nat} (hc : IA c n) (hn : n < 2147483648) {v : Int32} {M : Mem} {Q : Mem → Prop} (k : ∀ M', (∀ j, j < n → M' c j = v) → (∀ c' j, c' ≠ c → M' c' j = M c' j) → Q M') : C_J7_fill_53178 M c v Q := by
  have key : ∀ m i (M1 : Mem), i + m = n → (∀ j, j < i → M1 c j = v) → (∀ c' j, c' ≠ c → M1 c' j = M c' j) → P_J7_fill_53178_5 M1 c v (nI i) (nI n) Q := by
    intro m
    induction m with
    | zero =>
      intro i M1 hi h1 h2
      refine T_J7_fill_53178_5 hc ?_
      simp (disch := omega) only [n_lt, n_le, n_eq, n_lt0, n_le0, n_ge0, n_gt0, n_eq0, n_add, n_mul, n_sub, n_m1, ix_n, vin, bI_0, bI_1, nT_le, nF_le, nT_lt, nF_lt, nT_eq, nF_eq, mk_test, true_imp_iff, false_imp_iff, not_true_eq_false, not_false_eq_true, true_and, and_true, tf_, ft_, eq_self, true_or, or_true, false_or, or_false, ]
      exact k M1 (fun j hj => h1 j (by omega)) h2
    | succ m ih =>
      intro i M1 hi h1 h2
      refine T_J7_fill_53178_5 hc ?_
      simp (disch := omega) only [n_lt, n_le, n_eq, n_lt0, n_le0, n_ge0, n_gt0, n_eq0, n_add, n_mul, n_sub, n_m1, ix_n, vin, bI_0, bI_1, nT_le, nF_le, nT_lt, nF_lt, nT_eq, nF_eq, mk_test, true_imp_iff, false_imp_iff, not_true_eq_false, not_false_eq_true, true_and, and_true, tf_, ft_, eq_self, true_or, or_true, false_or, or_false, ]
      refine ih (i + 1) _ (by omega) (fun j hj => ?_) (fun c' j hc' => ?_)
      · by_cases e : j = i
        · subst e; exact wr_eq _ _ _ _
        · rw [wr_nk _ _ _ _ e]; exact h1 j (by omega)
      · rw [wr_nc _ _ _ _ hc']; exact h2 c' j hc'
  exact T_J7_fill_53178 hc (key n 0 M (by omega) (fun j hj => by omega) (fun _ _ _ => rfl))
theorem nb_mk {h : HS} {M : Mem} {o : Nat} (H : HC o M h) {a : Nat} (ha : a < 10) (bk : Bool) : (if bk then (mk (fun i => decide (i = a)) ||| M (o + 1) a) ||| M (o + 2) a else mk (fun i => decide (i = a)) ||| M (o + 1) a) = mk (nb h bk a) := by
  obtain ⟨_, _, _, h4, h5, _⟩ := H
  rw [h4 a ha, h5 a ha]
  cases bk
  · rw [if_neg (by simp), mk_or]
    exact mk_ext (fun i _ => by simp [nb, eq_comm])
  · rw [if_pos rfl, mk_or, mk_or]
    refine mk_ext (fun i _ => ?_)
    simp only [nb, Bool.true_and, Bool.or_assoc]
    rw [show decide (i = a) = decide (a = i) from by rw [decide_eq_decide]; exact eq_comm]
theorem s_around {h : HS} {M : Mem} (H : HC 1 M h) {a : Nat} (ha : a < 10) {bk : Bool} {Q : Int32 → Mem → Prop} (k : Q (mk (nb h bk a)) M) : C_X0_around_1 M (nI a) (bI bk) Q := by
  have e := nb_mk H ha bk
  refine T_X0_around_1 ⟨vin (by omega) |>.mpr ha, ?_⟩
  rw [ix_n (by omega), mk_one (by omega)]
  refine br (fun hb => ?_) (fun hb => ?_)
  · subst hb; rw [← e] at k; exact k
  · subst hb; rw [← e] at k; exact k
def WY (M : Mem) (h : HS) : Prop := ∀ a, a < h.1 → ∀ b, b < h.1 → M (9 + a) b = nI (ds h false a b) ∧ M (20 + a) b = nI (ds h true a b)
theorem WY.congr {M M' : Mem} {h : HS} (H : WY M h) (hr : h.1 ≤ 10) (e : ∀ c k, (9 ≤ c ∧ c ≤ 18) ∨ (20 ≤ c ∧ c ≤ 29) → M' c k = M c k) : WY M' h := by
  intro a ha b hb
  rw [e _ _ (by omega), e _ _ (by omega)]
  exact H a ha b hb
theorem l_mf35 {h : HS} (O : HO h) {bk : Bool} {c : Nat} (hc : IA c 10) (hcc : 9 ≤ c) {SE ED : Nat → Bool} {k : Nat} {Q : Mem → Prop} {M0 : Mem} (H0 : HC 1 M0 h) (w0 : Nat → Nat)
    (K : ∀ M', (∀ c' j, c' ≠ c → M' c' j = M0 c' j) → (∀ b, b < 10 → M' c b = nI (if b < h.1 ∧ ED b = true then k else w0 b)) → P_X0_measureFrom_1_17 M' (bI bk) c (mk (fun i => SE i || ED i)) (mk (fun i => anyN (fun a => ED a && nb h bk a i) h.1 && !(SE i || ED i))) (nI k + nI 1) Q) :
    ∀ n r (M : Mem), r + n = h.1 → (∀ c' j, c' ≠ c → M c' j = M0 c' j) → (∀ b, b < 10 → M c b = nI (if b < r ∧ ED b = true then k else w0 b)) → P_X0_measureFrom_1_35 M (bI bk) c (mk SE) (mk ED) (nI k) (mk (fun i => anyN (fun a => ED a && nb h bk a i) r)) (nI r) Q := by
  intro n
  have hR := O.1
  induction n with
  | zero =>
    intro r M hr hf hw
    have e1 : M 1 0 = nI h.1 := by rw [hf 1 0 (by omega)]; exact H0.1
    have hr' : r = h.1 := by omega
    subst hr'
    refine T_X0_measureFrom_1_35 hc ?_
    simp (disch := omega) only [n_lt, n_le, n_eq, n_lt0, n_le0, n_ge0, n_gt0, n_eq0, n_add, n_mul, n_sub, n_m1, ix_n, vin, bI_0, bI_1, nT_le, nF_le, nT_lt, nF_lt, nT_eq, nF_eq, mk_test, true_imp_iff, false_imp_iff, not_true_eq_false, not_false_eq_true, true_and, and_true, tf_, ft_, eq_self, true_or, or_true, false_or, or_false, e1]
    rw [mk_or, mk_not, mk_and]
    have := K M hf hw
    rw [n_add] at this
    exact this
  | succ n ih =>
    intro r M hr hf hw
    have H : HC 1 M h := H0.congr O.2.1 (fun c' j h1 h2 => hf c' j (by omega))
    have e1 : M 1 0 = nI h.1 := H.1
    refine T_X0_measureFrom_1_35 hc ?_
    cases hE : ED r with
    | false =>
      simp (disch := omega) only [n_lt, n_le, n_eq, n_lt0, n_le0, n_ge0, n_gt0, n_eq0, n_add, n_mul, n_sub, n_m1, ix_n, vin, bI_0, bI_1, nT_le, nF_le, nT_lt, nF_lt, nT_eq, nF_eq, mk_test, true_imp_iff, false_imp_iff, not_true_eq_false, not_false_eq_true, true_and, and_true, tf_, ft_, eq_self, true_or, or_true, false_or, or_false, e1, hE]
      have := ih (r + 1) M (by omega) hf (fun b hb => by
        rw [hw b hb]
        by_cases e : b = r
        · subst e; simp [hE]
        · simp [show (b < r + 1) = (b < r) from by rw [eq_iff_iff]; omega])
      simp only [anyN, hE, Bool.false_and, Bool.or_false] at this
      exact this
    | true =>
      simp (disch := omega) only [n_lt, n_le, n_eq, n_lt0, n_le0, n_ge0, n_gt0, n_eq0, n_add, n_mul, n_sub, n_m1, ix_n, vin, bI_0, bI_1, nT_le, nF_le, nT_lt, nF_lt, nT_eq, nF_eq, mk_test, true_imp_iff, false_imp_iff, not_true_eq_false, not_false_eq_true, true_and, and_true, tf_, ft_, eq_self, true_or, or_true, false_or, or_false, e1, hE]
      refine s_around (H.congr O.2.1 (fun c' j h1 h2 => wr_nc _ _ _ _ (by omega))) (by omega) ?_
      rw [mk_or]
      have := ih (r + 1) (wr M c r (nI k)) (by omega) (fun c' j hc' => by rw [wr_nc _ _ _ _ hc']; exact hf c' j hc') (fun b hb => by
        by_cases e : b = r
        · subst e; rw [wr_eq]; simp [hE]
        · rw [wr_nk _ _ _ _ e, hw b hb]
          simp [show (b < r + 1) = (b < r) from by rw [eq_iff_iff]; omega])
      simp only [anyN, hE, Bool.true_and] at this
      exact this
theorem l_mf17 {h : HS} (O : HO h) {bk : Bool} {a c : Nat} (ha : a < h.1) (hc : IA c 10) (hcc : 9 ≤ c) {Q : Mem → Prop} {M0 : Mem} (H0 : HC 1 M0 h)
    (K : ∀ M', (∀ c' j, c' ≠ c → M' c' j = M0 c' j) → (∀ b, b < h.1 → M' c b = nI (ds h bk a b)) → Q M') :
    ∀ n k (M : Mem), k + n = 10 → (∀ c' j, c' ≠ c → M c' j = M0 c' j) → (∀ b, b < 10 → M c b = nI (if lst (fun i => rr h bk a i b) k 0 < k then lst (fun i => rr h bk a i b) k 0 else 24)) →
      P_X0_measureFrom_1_17 M (bI bk) c (mk (fun i => anyN (fun j => rr h bk a j i) k)) (mk (fun i => rr h bk a k i && !anyN (fun j => rr h bk a j i) k)) (nI k) Q := by
  intro n
  have hR := O.1
  induction n with
  | zero =>
    intro k M hk hf hw
    have : k = 10 := by omega
    subst this
    refine T_X0_measureFrom_1_17 hc ?_
    simp (disch := omega) only [n_lt, n_le, n_eq, n_lt0, n_le0, n_ge0, n_gt0, n_eq0, n_add, n_mul, n_sub, n_m1, ix_n, vin, bI_0, bI_1, nT_le, nF_le, nT_lt, nF_lt, nT_eq, nF_eq, mk_test, true_imp_iff, false_imp_iff, not_true_eq_false, not_false_eq_true, true_and, and_true, tf_, ft_, eq_self, true_or, or_true, false_or, or_false, ]
    exact K M hf (fun b hb => by rw [hw b (by omega)]; rfl)
  | succ n ih =>
    intro k M hk hf hw
    refine T_X0_measureFrom_1_17 hc ?_
    simp (disch := omega) only [n_lt, n_le, n_eq, n_lt0, n_le0, n_ge0, n_gt0, n_eq0, n_add, n_mul, n_sub, n_m1, ix_n, vin, bI_0, bI_1, nT_le, nF_le, nT_lt, nF_lt, nT_eq, nF_eq, mk_test, true_imp_iff, false_imp_iff, not_true_eq_false, not_false_eq_true, true_and, and_true, tf_, ft_, eq_self, true_or, or_true, false_or, or_false, mk_eq0]
    refine ⟨fun hz => K M hf (fun b hb => ?_), fun hz => ?_⟩
    · have hs : ∀ i b, rr h bk a i b = true → ∃ j, j < k ∧ rr h bk a j b = true := rr_stab (fun b hb => by
        have hb' := rr_lt O ha hb
        have := hz b (by omega)
        rw [hb, Bool.true_and, Bool.not_eq_false'] at this
        exact anyN_iff.mp this)
      rw [hw b (by omega)]
      congr 1
      have l1 := lst_le (fun i => rr h bk a i b) k 0
      unfold ds
      by_cases hl : lst (fun i => rr h bk a i b) k 0 < k
      · rw [if_pos hl]
        have e : lst (fun i => rr h bk a i b) 10 0 = lst (fun i => rr h bk a i b) k 0 := lst_eq (by omega) (by omega) (lst_is (fun i => rr h bk a i b) k 0 (by omega)) (fun v h1 h2 => lst_no (fun i => rr h bk a i b) k 0 v h1 h2)
        rw [e, if_pos (by omega)]
      · rw [if_neg hl]
        have hno : ∀ i, rr h bk a i b = false := by
          intro i
          cases hv : rr h bk a i b with
          | false => rfl
          | true =>
            obtain ⟨j, hj, h2⟩ := hs i b hv
            have := lst_no (fun i => rr h bk a i b) k 0 j (by omega) (by omega)
            rw [h2] at this; cases this
        rw [lst_none (p := fun k => rr h bk a k b) (n := 10) (t := 0) (fun v _ _ => hno v), if_neg (by omega)]
    · have hE0 : ∀ i, (fun i => anyN (fun c => (rr h bk a k c && !anyN (fun j => rr h bk a j c) k) && nb h bk c i) 0) i = false := fun i => rfl
      have e0 : mk (fun i => anyN (fun c => (rr h bk a k c && !anyN (fun j => rr h bk a j c) k) && nb h bk c i) 0) = nI 0 := by rw [mk_0]; rfl
      rw [← e0]
      refine l_mf35 O hc hcc H0 (fun b => if lst (fun i => rr h bk a i b) k 0 < k then lst (fun i => rr h bk a i b) k 0 else 24) (fun M' hf' hw' => ?_) h.1 0 M (by omega) hf (fun b hb => by rw [hw b hb]; simp)
      have s1 : ∀ i, (anyN (fun j => rr h bk a j i) k || (rr h bk a k i && !anyN (fun j => rr h bk a j i) k)) = anyN (fun j => rr h bk a j i) (k + 1) := by
        intro i
        simp only [anyN]
        cases anyN (fun j => rr h bk a j i) k <;> simp
      simp only [s1]
      have s2 : ∀ i, i < 32 → (anyN (fun c => (rr h bk a k c && !anyN (fun j => rr h bk a j c) k) && nb h bk c i) h.1 && !anyN (fun j => rr h bk a j i) (k + 1)) = (rr h bk a (k + 1) i && !anyN (fun j => rr h bk a j i) (k + 1)) := by
        intro i _
        cases hn : anyN (fun j => rr h bk a j i) (k + 1) with
        | true => simp
        | false =>
          simp only [Bool.not_false, Bool.and_true]
          apply b_of
          rw [anyN_iff]
          constructor
          · rintro ⟨c', hc', h2⟩
            simp only [Bool.and_eq_true] at h2
            exact rr_step hc' h2.1.1 h2.2
          · intro h2
            obtain ⟨c', hc', h3, h4⟩ := rr_inv h2
            refine ⟨c', hc', ?_⟩
            rw [h3, h4]
            simp only [Bool.true_and, Bool.and_true, Bool.not_eq_true']
            rw [anyN_f]
            intro j hj
            cases hv : rr h bk a j c' with
            | false => rfl
            | true =>
              rw [anyN_f] at hn
              have := hn (j + 1) (by omega)
              rw [rr_step hc' hv h4] at this; cases this
      rw [mk_ext s2, n_add]
      refine ih (k + 1) M' (by omega) hf' (fun b hb => ?_)
      rw [hw' b hb]
      congr 1
      have l1 := lst_le (fun i => rr h bk a i b) k 0
      have e2 : (b < h.1 ∧ (rr h bk a k b && !anyN (fun j => rr h bk a j b) k) = true) ↔ (rr h bk a k b = true ∧ anyN (fun j => rr h bk a j b) k = false) := by
        simp only [Bool.and_eq_true, Bool.not_eq_true']
        exact ⟨fun q => q.2, fun q => ⟨rr_lt O ha q.1, q⟩⟩
      by_cases hq : rr h bk a k b = true ∧ anyN (fun j => rr h bk a j b) k = false
      · rw [if_pos (e2.mpr hq)]
        have hno := anyN_f.mp hq.2
        rw [lst_eq (p := fun i => rr h bk a i b) (n := k + 1) (t := 0) (u := k) (by omega) (by omega) hq.1 (fun v _ h2 => hno v h2), if_pos (by omega)]
      · rw [if_neg (fun q => hq (e2.mp q))]
        by_cases hl : lst (fun i => rr h bk a i b) k 0 < k
        · rw [if_pos hl, lst_eq (p := fun i => rr h bk a i b) (n := k + 1) (t := 0) (u := lst (fun i => rr h bk a i b) k 0) (by omega) (by omega) (lst_is (fun i => rr h bk a i b) k 0 (by omega)) (fun v h1 h2 => lst_no (fun i => rr h bk a i b) k 0 v h1 h2), if_pos (by omega)]
        · rw [if_neg hl]
          have hno : ∀ v, v < k → rr h bk a v b = false := fun v hv => lst_no (fun i => rr h bk a i b) k 0 v (by omega) (by omega)
          have hk' : rr h bk a k b = false := by
            cases hv : rr h bk a k b with
            | false => rfl
            | true => exact absurd ⟨hv, anyN_f.mpr hno⟩ hq
          rw [lst_none (p := fun i => rr h bk a i b) (n := k + 1) (t := 0) (fun v _ h2 => by
            by_cases e : v = k
            · subst e; exact hk'
            · exact hno v (by omega)), if_neg (by omega)]
theorem s_measureFrom {h : HS} (O : HO h) {bk : Bool} {a c : Nat} (ha : a < h.1) (hc : IA c 10) (hcc : 9 ≤ c) {Q : Mem → Prop} {M : Mem} (H : HC 1 M h)
    (K : ∀ M', (∀ c' j, c' ≠ c → M' c' j = M c' j) → (∀ b, b < h.1 → M' c b = nI (ds h bk a b)) → Q M') : C_X0_measureFrom_1 M (nI a) (bI bk) c Q := by
  have hR := O.1
  refine T_X0_measureFrom_1 hc (s_fill hc (by omega) (fun M' h1 h2 => ?_))
  rw [mk_one (by omega)]
  have := l_mf17 O ha hc hcc H K 10 0 M' (by omega) h2 (fun b hb => by rw [h1 b hb]; rfl)
  rw [show nI 0 = mk (fun i => anyN (fun j => rr h bk a j i) 0) from mk_0]
  rw [show nI 0 = mk (fun i => anyN (fun j => rr h bk a j i) 0) from mk_0] at this
  simp only [anyN, Bool.not_false, Bool.and_true, rr] at this ⊢
  exact this
theorem s_measure {h : HS} (O : HO h) {Q : Mem → Prop} {M : Mem} (H : HC 1 M h)
    (K : ∀ M', (∀ c j, ¬ ((9 ≤ c ∧ c ≤ 18) ∨ (20 ≤ c ∧ c ≤ 29)) → M' c j = M c j) → WY M' h → Q M') : C_X0_measure_1 M Q := by
  have hR := O.1
  have key : ∀ n r (M1 : Mem), r + n = h.1 → (∀ c j, ¬ ((9 ≤ c ∧ c ≤ 18) ∨ (20 ≤ c ∧ c ≤ 29)) → M1 c j = M c j) → (∀ a, a < r → ∀ b, b < h.1 → M1 (9 + a) b = nI (ds h false a b) ∧ M1 (20 + a) b = nI (ds h true a b)) → P_X0_measure_1_2 M1 (nI r) Q := by
    intro n
    induction n with
    | zero =>
      intro r M1 hr hf hw
      have e1 : M1 1 0 = nI h.1 := by rw [hf 1 0 (by omega)]; exact H.1
      refine T_X0_measure_1_2 ?_
      simp (disch := omega) only [n_lt, n_le, n_eq, n_lt0, n_le0, n_ge0, n_gt0, n_eq0, n_add, n_mul, n_sub, n_m1, ix_n, vin, bI_0, bI_1, nT_le, nF_le, nT_lt, nF_lt, nT_eq, nF_eq, mk_test, true_imp_iff, false_imp_iff, not_true_eq_false, not_false_eq_true, true_and, and_true, tf_, ft_, eq_self, true_or, or_true, false_or, or_false, e1]
      exact K M1 hf (fun a ha => hw a (by omega))
    | succ n ih =>
      intro r M1 hr hf hw
      have H1 : HC 1 M1 h := H.congr O.2.1 (fun c' j h1 h2 => hf c' j (by omega))
      have e1 : M1 1 0 = nI h.1 := H1.1
      refine T_X0_measure_1_2 ?_
      simp (disch := omega) only [n_lt, n_le, n_eq, n_lt0, n_le0, n_ge0, n_gt0, n_eq0, n_add, n_mul, n_sub, n_m1, ix_n, vin, bI_0, bI_1, nT_le, nF_le, nT_lt, nF_lt, nT_eq, nF_eq, mk_test, true_imp_iff, false_imp_iff, not_true_eq_false, not_false_eq_true, true_and, and_true, tf_, ft_, eq_self, true_or, or_true, false_or, or_false, e1]
      have i1 : IA (8 + 1 + r) 10 := by
        have := ra_8.row (i := nI r) ((vin (by omega)).mpr (by omega))
        rw [ix_n (by omega)] at this; exact this
      have i2 : IA (19 + 1 + r) 10 := by
        have := ra_19.row (i := nI r) ((vin (by omega)).mpr (by omega))
        rw [ix_n (by omega)] at this; exact this
      refine s_measureFrom (bk := false) O (by omega) i1 (by omega) H1 (fun M2 f2 w2 => ?_)
      have H2 : HC 1 M2 h := H1.congr O.2.1 (fun c' j h1 h2 => f2 c' j (by omega))
      refine s_measureFrom (bk := true) O (by omega) i2 (by omega) H2 (fun M3 f3 w3 => ?_)
      refine ih (r + 1) M3 (by omega) (fun c j hc => by rw [f3 c j (by omega), f2 c j (by omega)]; exact hf c j hc) (fun a ha b hb => ?_)
      by_cases e : a = r
      · subst e
        exact ⟨by rw [f3 _ _ (by omega), show 9 + a = 8 + 1 + a by omega]; exact w2 b hb, by rw [show 20 + a = 19 + 1 + a by omega]; exact w3 b hb⟩
      · rw [f3 (9 + a) b (by omega), f2 (9 + a) b (by omega), f3 (20 + a) b (by omega), f2 (20 + a) b (by omega)]
        exact hw a (by omega) b hb
  exact T_X0_measure_1 (key h.1 0 M (by omega) (fun _ _ _ => rfl) (fun a ha => by omega))
