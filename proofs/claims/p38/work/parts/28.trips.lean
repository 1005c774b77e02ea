/-! ===== the class's trips ===== -/
def TT (M : Mem) (h : HS) : Prop := (∀ t, t < 24 → M 96 t = mk (fun r => met h r t)) ∧ ∀ t, t < 23 → ∀ a, a < h.1 → M (98 + t) a = mk (mv h true t a)
def TF (M : Mem) (h : HS) : Prop := M 95 1 = nI 0 ∨ (M 95 1 = nI 1 ∧ TT M h)
theorem TT.congr {M M' : Mem} {h : HS} (H : TT M h) (e : ∀ c k, 96 ≤ c → c ≤ 120 → M' c k = M c k) : TT M' h := ⟨fun t ht => by rw [e _ _ (by omega) (by omega)]; exact H.1 t ht, fun t ht a ha => by rw [e _ _ (by omega) (by omega)]; exact H.2 t ht a ha⟩
theorem TF.congr {M M' : Mem} {h : HS} (H : TF M h) (e : ∀ c k, (c = 95 ∧ k = 1) ∨ (96 ≤ c ∧ c ≤ 120) → M' c k = M c k) : TF M' h := by
  rcases H with h1 | ⟨h1, h2⟩
  · exact Or.inl (by rw [e _ _ (by omega)]; exact h1)
  · exact Or.inr ⟨by rw [e _ _ (by omega)]; exact h1, h2.congr (fun c k _ _ => e c k (by omega))⟩
theorem s_comers {h : HS} (O : HO h) {M : Mem} (H : HC 1 M h) {r t : Nat} (hr : r < 10) (ht : t < 23) {Q : Int32 → Mem → Prop}
    (k : Q (mk (fun b => anyN (fun g => decide (h.2.2.2.2 g t = b) && decide (h.2.2.2.2 g (t + 1) = r)) h.2.2.1)) M) : C_X8_comersInto M (nI r) (nI t) Q := by
  have hG := O.2.1
  have e1 : M 1 2 = nI h.2.2.1 := H.2.2.1
  have key : ∀ n g, g + n = h.2.2.1 → P_X8_comersInto_5 M (nI r) (nI t) (mk (fun b => anyN (fun g => decide (h.2.2.2.2 g t = b) && decide (h.2.2.2.2 g (t + 1) = r)) g)) (nI g) Q := by
    intro n
    induction n with
    | zero =>
      intro g hg
      have : g = h.2.2.1 := by omega
      subst this
      refine T_X8_comersInto_5 ?_
      simp (disch := omega) only [n_lt, n_le, n_eq, n_lt0, n_le0, n_ge0, n_gt0, n_eq0, n_add, n_mul, n_sub, n_m1, ix_n, vin, bI_0, bI_1, nT_le, nF_le, nT_lt, nF_lt, nT_eq, nF_eq, mk_test, true_imp_iff, false_imp_iff, not_true_eq_false, not_false_eq_true, true_and, and_true, tf_, ft_, eq_self, true_or, or_true, false_or, or_false, e1]
      exact k
    | succ n ih =>
      intro g hg
      have hp := pa_lt O (g := g) (by omega) (show t < 24 by omega)
      have hp1 := pa_lt O (g := g) (by omega) (show t + 1 < 24 by omega)
      have e2 := H.2.2.2.2.2 g (by omega) t (by omega)
      have e3 := H.2.2.2.2.2 g (by omega) (t + 1) (by omega)
      have ih' := ih (g + 1) (by omega)
      refine T_X8_comersInto_5 ?_
      simp (disch := omega) only [n_lt, n_le, n_eq, n_lt0, n_le0, n_ge0, n_gt0, n_eq0, n_add, n_mul, n_sub, n_m1, ix_n, vin, bI_0, bI_1, nT_le, nF_le, nT_lt, nF_lt, nT_eq, nF_eq, mk_test, true_imp_iff, false_imp_iff, not_true_eq_false, not_false_eq_true, true_and, and_true, tf_, ft_, eq_self, true_or, or_true, false_or, or_false, e1, e2, e3, mk_one, mk_or, Nat.reduceAdd]
      refine ⟨fun q => ?_, fun q => ?_⟩
      · rw [show mk (fun b => anyN (fun g => decide (h.2.2.2.2 g t = b) && decide (h.2.2.2.2 g (t + 1) = r)) g) = mk (fun b => anyN (fun g => decide (h.2.2.2.2 g t = b) && decide (h.2.2.2.2 g (t + 1) = r)) (g + 1)) from mk_ext (fun i _ => by simp [anyN, q])]
        exact ih'
      · rw [show mk (fun i => anyN (fun g => decide (h.2.2.2.2 g t = i) && decide (h.2.2.2.2 g (t + 1) = r)) g || decide (i = h.2.2.2.2 g t)) = mk (fun b => anyN (fun g => decide (h.2.2.2.2 g t = b) && decide (h.2.2.2.2 g (t + 1) = r)) (g + 1)) from mk_ext (fun i _ => by simp [anyN, q, eq_comm])]
        exact ih'
  refine T_X8_comersInto ?_
  have := key h.2.2.1 0 (by omega)
  simp only [anyN] at this
  rw [mk_0]
  exact this
theorem carry_mk {h : HS} (O : HO h) {t a : Nat} (ht : t < 23) : mk (fun i => (nb h true a i && !met h i (t + 1)) && !anyN (fun g => decide (h.2.2.2.2 g t = i) && decide (h.2.2.2.2 g (t + 1) = a)) h.2.2.1) = mk (mv h true t a) := by
  refine mk_ext (fun i _ => ?_)
  rw [show nb h true a i = (decide (a = i) || decide (h.2.2.2.1 a i ≠ 0)) from by
    have := mv_f O t a i
    rw [← this]; simp [mv]]
  unfold mv
  simp only [Bool.not_true, Bool.false_or]
  by_cases e : a = i
  · subst e
    cases hm : met h a (t + 1) with
    | true => simp
    | false =>
      have : anyN (fun g => decide (h.2.2.2.2 g t = a) && decide (h.2.2.2.2 g (t + 1) = a)) h.2.2.1 = false := by
        rw [anyN_f]
        intro g hg
        have := anyN_f.mp hm g hg
        simp only [decide_eq_false_iff_not] at this
        simp [this]
      simp [this]
  · simp [e, Bool.and_assoc]
theorem s_prepareT {h : HS} (O : HO h) {M0 : Mem} (H0 : HC 1 M0 h) (F0 : TF M0 h) {Q : Mem → Prop}
    (K : ∀ M', (∀ c k, ¬ ((c = 95 ∧ k = 1) ∨ (96 ≤ c ∧ c ≤ 121)) → M' c k = M0 c k) → M' 95 1 = nI 1 → TT M' h → Q M') : C_X8_prepare M0 Q := by
  have hR := O.1
  have hG := O.2.1
  refine T_X8_prepare ?_
  rcases F0 with z0 | ⟨z1, hT⟩
  case inr =>
    rw [z1]
    refine ⟨fun q => absurd q (by decide), fun _ => K M0 (fun _ _ _ => rfl) z1 hT⟩
  have good : ∀ M : Mem, (∀ c k, ¬ (96 ≤ c ∧ c ≤ 121) → M c k = M0 c k) → HC 1 M h := fun M f => H0.congr hG (fun c k q1 q2 => f c k (by omega))
  have k81 : ∀ n a t (M : Mem), a + n = h.1 → t < 23 → (∀ c k, ¬ (96 ≤ c ∧ c ≤ 121) → M c k = M0 c k) → (∀ t, t < 24 → M 96 t = mk (fun r => met h r t)) → (∀ b, b < a → M (98 + t) b = mk (mv h true t b)) →
      (∀ M', (∀ c k, ¬ (96 ≤ c ∧ c ≤ 121) → M' c k = M0 c k) → (∀ c k, c ≠ 98 + t → M' c k = M c k) → (∀ b, b < h.1 → M' (98 + t) b = mk (mv h true t b)) → P_X8_prepare_73 M' (nI t + nI 1) Q) → P_X8_prepare_81 M (nI t) (nI a) Q := by
    intro n
    induction n with
    | zero =>
      intro a t M ha ht hf hg hw K2
      have H := good M hf
      refine T_X8_prepare_81 ?_
      have := K2 M hf (fun _ _ _ => rfl) (fun b hb => hw b (by omega))
      rw [n_add] at this
      simp (disch := omega) only [n_lt, n_le, n_eq, n_lt0, n_le0, n_ge0, n_gt0, n_eq0, n_add, n_mul, n_sub, n_m1, ix_n, vin, bI_0, bI_1, nT_le, nF_le, nT_lt, nF_lt, nT_eq, nF_eq, mk_test, true_imp_iff, false_imp_iff, not_true_eq_false, not_false_eq_true, true_and, and_true, tf_, ft_, eq_self, true_or, or_true, false_or, or_false, H.1]
      exact this
    | succ n ih =>
      intro a t M ha ht hf hg hw K2
      have H := good M hf
      refine T_X8_prepare_81 ?_
      simp (disch := omega) only [n_lt, n_le, n_eq, n_lt0, n_le0, n_ge0, n_gt0, n_eq0, n_add, n_mul, n_sub, n_m1, ix_n, vin, bI_0, bI_1, nT_le, nF_le, nT_lt, nF_lt, nT_eq, nF_eq, mk_test, true_imp_iff, false_imp_iff, not_true_eq_false, not_false_eq_true, true_and, and_true, tf_, ft_, eq_self, true_or, or_true, false_or, or_false, H.1]
      refine s_around (bk := true) H (by omega) ?_
      refine s_comers O H (by omega) ht ?_
      rw [hg (t + 1) (by omega), mk_not, mk_not, mk_and, mk_and, carry_mk O ht, Nat.add_comm 97 1]
      refine ih (a + 1) t _ (by omega) ht (fun c k hc => by rw [wr_nc _ _ _ _ (by omega)]; exact hf c k hc) (fun u hu => by rw [wr_nc _ _ _ _ (by omega)]; exact hg u hu) (fun b hb => ?_) (fun M' f' g' w' => ?_)
      · by_cases e : b = a
        · subst e; rw [show 98 + t = 1 + 97 + t by omega]; exact wr_eq _ _ _ _
        · rw [wr_nk _ _ _ _ e]; exact hw b (by omega)
      · exact K2 M' f' (fun c k hc => by rw [g' c k hc, wr_nc _ _ _ _ (by omega)]) w'
  have k73 : ∀ n t (M : Mem), t + n = 23 → (∀ c k, ¬ (96 ≤ c ∧ c ≤ 121) → M c k = M0 c k) → (∀ t, t < 24 → M 96 t = mk (fun r => met h r t)) → (∀ u, u < t → ∀ b, b < h.1 → M (98 + u) b = mk (mv h true u b)) → P_X8_prepare_73 M (nI t) Q := by
    intro n
    induction n with
    | zero =>
      intro t M ht hf hg hw
      refine T_X8_prepare_73 ?_
      simp (disch := omega) only [n_lt, n_le, n_eq, n_lt0, n_le0, n_ge0, n_gt0, n_eq0, n_add, n_mul, n_sub, n_m1, ix_n, vin, bI_0, bI_1, nT_le, nF_le, nT_lt, nF_lt, nT_eq, nF_eq, mk_test, true_imp_iff, false_imp_iff, not_true_eq_false, not_false_eq_true, true_and, and_true, tf_, ft_, eq_self, true_or, or_true, false_or, or_false, ]
      refine K _ (fun c k hc => by rw [wr, if_neg (by omega)]; exact hf c k (by omega)) (wr_eq _ _ _ _) ⟨fun u hu => by rw [wr_nc _ _ _ _ (by omega)]; exact hg u hu, fun u hu b hb => by rw [wr_nc _ _ _ _ (by omega)]; exact hw u (by omega) b hb⟩
    | succ n ih =>
      intro t M ht hf hg hw
      refine T_X8_prepare_73 ?_
      simp (disch := omega) only [n_lt, n_le, n_eq, n_lt0, n_le0, n_ge0, n_gt0, n_eq0, n_add, n_mul, n_sub, n_m1, ix_n, vin, bI_0, bI_1, nT_le, nF_le, nT_lt, nF_lt, nT_eq, nF_eq, mk_test, true_imp_iff, false_imp_iff, not_true_eq_false, not_false_eq_true, true_and, and_true, tf_, ft_, eq_self, true_or, or_true, false_or, or_false, ]
      refine k81 h.1 0 t M (by omega) (by omega) hf hg (fun b hb => by omega) (fun M' f' g' w' => ?_)
      rw [n_add]
      refine ih (t + 1) M' (by omega) f' (fun u hu => by rw [g' _ _ (by omega)]; exact hg u hu) (fun u hu b hb => ?_)
      by_cases e : u = t
      · subst e; exact w' b hb
      · rw [g' _ _ (by omega)]; exact hw u (by omega) b hb
  have k31 : ∀ n t g (M : Mem), t + n = 24 → g < h.2.2.1 → (∀ c k, ¬ (96 ≤ c ∧ c ≤ 121) → M c k = M0 c k) → (∀ u, u < 24 → M 96 u = mk (fun r => anyN (fun g => decide (h.2.2.2.2 g u = r)) g || (decide (u < t) && decide (h.2.2.2.2 g u = r)))) →
      (∀ M', (∀ c k, ¬ (96 ≤ c ∧ c ≤ 121) → M' c k = M0 c k) → (∀ u, u < 24 → M' 96 u = mk (fun r => anyN (fun g => decide (h.2.2.2.2 g u = r)) (g + 1))) → P_X8_prepare_18 M' (nI g + nI 1) Q) → P_X8_prepare_31 M (nI g) (nI t) Q := by
    intro n
    induction n with
    | zero =>
      intro t g M ht hg hf hw K2
      refine T_X8_prepare_31 ?_
      have := K2 M hf (fun u hu => by rw [hw u hu]; exact mk_ext (fun r _ => by simp [anyN, show u < t by omega]))
      rw [n_add] at this
      simp (disch := omega) only [n_lt, n_le, n_eq, n_lt0, n_le0, n_ge0, n_gt0, n_eq0, n_add, n_mul, n_sub, n_m1, ix_n, vin, bI_0, bI_1, nT_le, nF_le, nT_lt, nF_lt, nT_eq, nF_eq, mk_test, true_imp_iff, false_imp_iff, not_true_eq_false, not_false_eq_true, true_and, and_true, tf_, ft_, eq_self, true_or, or_true, false_or, or_false, ]
      exact this
    | succ n ih =>
      intro t g M ht hg hf hw K2
      have H := good M hf
      have hp := pa_lt O hg (show t < 24 by omega)
      have e2 := H.2.2.2.2.2 g hg t (by omega)
      have e3 := hw t (by omega)
      refine T_X8_prepare_31 ?_
      simp only [Nat.reduceAdd] at e2 ⊢
      simp (disch := omega) only [n_lt, n_le, n_eq, n_lt0, n_le0, n_ge0, n_gt0, n_eq0, n_add, n_mul, n_sub, n_m1, ix_n, vin, bI_0, bI_1, nT_le, nF_le, nT_lt, nF_lt, nT_eq, nF_eq, mk_test, true_imp_iff, false_imp_iff, not_true_eq_false, not_false_eq_true, true_and, and_true, tf_, ft_, eq_self, true_or, or_true, false_or, or_false, e2, e3, mk_one, mk_or]
      refine ih (t + 1) g _ (by omega) hg (fun c k hc => by rw [wr_nc _ _ _ _ (by omega)]; exact hf c k hc) (fun u hu => ?_) K2
      by_cases e : u = t
      · subst e
        rw [wr_eq]
        exact mk_ext (fun r _ => by simp [eq_comm])
      · rw [wr_nk _ _ _ _ e, hw u hu]
        exact mk_ext (fun r _ => by simp [show (u < t + 1) = (u < t) from by rw [eq_iff_iff]; omega])
  have k18 : ∀ n g (M : Mem), g + n = h.2.2.1 → (∀ c k, ¬ (96 ≤ c ∧ c ≤ 121) → M c k = M0 c k) → (∀ u, u < 24 → M 96 u = mk (fun r => anyN (fun g => decide (h.2.2.2.2 g u = r)) g)) → P_X8_prepare_18 M (nI g) Q := by
    intro n
    induction n with
    | zero =>
      intro g M hg hf hw
      have H := good M hf
      have : g = h.2.2.1 := by omega
      subst this
      refine T_X8_prepare_18 ?_
      simp (disch := omega) only [n_lt, n_le, n_eq, n_lt0, n_le0, n_ge0, n_gt0, n_eq0, n_add, n_mul, n_sub, n_m1, ix_n, vin, bI_0, bI_1, nT_le, nF_le, nT_lt, nF_lt, nT_eq, nF_eq, mk_test, true_imp_iff, false_imp_iff, not_true_eq_false, not_false_eq_true, true_and, and_true, tf_, ft_, eq_self, true_or, or_true, false_or, or_false, H.2.2.1]
      exact k73 23 0 M (by omega) hf hw (fun u hu => by omega)
    | succ n ih =>
      intro g M hg hf hw
      have H := good M hf
      refine T_X8_prepare_18 ?_
      simp (disch := omega) only [n_lt, n_le, n_eq, n_lt0, n_le0, n_ge0, n_gt0, n_eq0, n_add, n_mul, n_sub, n_m1, ix_n, vin, bI_0, bI_1, nT_le, nF_le, nT_lt, nF_lt, nT_eq, nF_eq, mk_test, true_imp_iff, false_imp_iff, not_true_eq_false, not_false_eq_true, true_and, and_true, tf_, ft_, eq_self, true_or, or_true, false_or, or_false, H.2.2.1]
      refine k31 24 0 g M (by omega) (by omega) hf (fun u hu => by rw [hw u hu]; exact mk_ext (fun r _ => by simp)) (fun M' f' w' => ?_)
      rw [n_add]
      exact ih (g + 1) M' (by omega) f' w'
  rw [z0]
  refine ⟨fun _ => s_fill ia_96 (by omega) (fun M' h1 h2 => k18 h.2.2.1 0 M' (by omega) (fun c k hc => h2 c k (by omega)) (fun u hu => by rw [h1 u hu, mk_0]; rfl)), fun q => absurd nI_0 q⟩
theorem s_mayBegin {h : HS} {M : Mem} (T : TT M h) {r t : Nat} {co : Bool} (hr : r < 32) (ht : t < 24) {Q : Int32 → Mem → Prop} (k : Q (bI (!(co && met h r t))) M) : C_X8_mayBegin M (nI r) (nI t) (bI co) Q := by
  have e := T.1 t ht
  refine T_X8_mayBegin (br (fun q => ?_) (fun q => ?_))
  · subst q; exact k
  · subst q
    simp (disch := omega) only [n_lt, n_le, n_eq, n_lt0, n_le0, n_ge0, n_gt0, n_eq0, n_add, n_mul, n_sub, n_m1, ix_n, vin, bI_0, bI_1, nT_le, nF_le, nT_lt, nF_lt, nT_eq, nF_eq, mk_test, true_imp_iff, false_imp_iff, not_true_eq_false, not_false_eq_true, true_and, and_true, tf_, ft_, eq_self, true_or, or_true, false_or, or_false, e]
    refine ⟨fun q => ?_, fun q => ?_⟩
    · rw [Bool.not_eq_false] at q; rw [q] at k; exact k
    · rw [q] at k; exact k
theorem s_step {h : HS} (O : HO h) {M : Mem} (H : HC 1 M h) (T : TT M h) {a t : Nat} {co : Bool} (ha : a < h.1) (ht : t < 23) {Q : Int32 → Mem → Prop} (k : Q (mk (mv h co t a)) M) : C_X8_step M (nI a) (nI t) (bI co) Q := by
  have hR := O.1
  refine T_X8_step (br (fun q => ?_) (fun q => ?_))
  · subst q
    refine s_around (bk := true) H (by omega) ?_
    rw [show mv h false t a = nb h true a from funext (fun b => mv_f O t a b)] at k
    exact k
  · subst q
    have e := T.2 t ht a ha
    rw [show 98 + t = 97 + 1 + t by omega] at e
    simp (disch := omega) only [ix_n, vin, nT_lt, true_and, e]
    exact k
theorem s_onward {h : HS} (O : HO h) {M : Mem} (H : HC 1 M h) (T : TT M h) {t : Nat} {co : Bool} {S : Nat → Bool} (ht : t < 23) {Q : Int32 → Mem → Prop} (k : Q (mk (sp h co t S)) M) : C_X8_onward M (mk S) (nI t) (bI co) Q := by
  have hR := O.1
  have key : ∀ n a, a + n = h.1 → P_X8_onward_6 M (mk S) (nI t) (bI co) (mk (fun b => anyN (fun a => S a && mv h co t a b) a)) (nI a) Q := by
    intro n
    induction n with
    | zero =>
      intro a ha
      have : a = h.1 := by omega
      subst this
      refine T_X8_onward_6 ?_
      simp (disch := omega) only [n_lt, n_le, n_eq, n_lt0, n_le0, n_ge0, n_gt0, n_eq0, n_add, n_mul, n_sub, n_m1, ix_n, vin, bI_0, bI_1, nT_le, nF_le, nT_lt, nF_lt, nT_eq, nF_eq, mk_test, true_imp_iff, false_imp_iff, not_true_eq_false, not_false_eq_true, true_and, and_true, tf_, ft_, eq_self, true_or, or_true, false_or, or_false, H.1]
      exact k
    | succ n ih =>
      intro a ha
      have ih' := ih (a + 1) (by omega)
      simp only [anyN] at ih'
      refine T_X8_onward_6 ?_
      simp (disch := omega) only [n_lt, n_le, n_eq, n_lt0, n_le0, n_ge0, n_gt0, n_eq0, n_add, n_mul, n_sub, n_m1, ix_n, vin, bI_0, bI_1, nT_le, nF_le, nT_lt, nF_lt, nT_eq, nF_eq, mk_test, true_imp_iff, false_imp_iff, not_true_eq_false, not_false_eq_true, true_and, and_true, tf_, ft_, eq_self, true_or, or_true, false_or, or_false, H.1]
      refine ⟨fun q => ?_, fun q => ?_⟩
      · simp only [q, Bool.false_and, Bool.or_false] at ih'
        exact ih'
      · rw [Bool.not_eq_false] at q
        simp only [q, Bool.true_and] at ih'
        refine s_step O H T (by omega) ht ?_
        rw [mk_or]
        exact ih'
  refine T_X8_onward ?_
  have := key h.1 0 (by omega)
  simp only [anyN] at this
  rw [mk_0]
  exact this
