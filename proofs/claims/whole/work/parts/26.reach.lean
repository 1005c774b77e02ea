/-! ===== the reference's steps and ends ===== -/
theorem n_d {a d : Nat} (h : a < 2147483648 ∧ 0 < d ∧ d < 2147483648) : nI a / nI d = nI (a / d) := pk_div h.1 h.2.1 h.2.2
theorem n_r {a d : Nat} (h : a < 2147483648 ∧ 0 < d ∧ d < 2147483648) : nI a - nI a / nI d * nI d = nI (a % d) := pk_rem h.1 h.2.1 h.2.2
theorem dkI_neg (n : Nat) : (dkI n < 0) = (n = 0) := by
  rcases n with _ | _ | n
  · exact propext ⟨fun _ => rfl, fun _ => by decide⟩
  · exact propext ⟨fun q => absurd q (by decide), fun q => by cases q⟩
  · exact propext ⟨fun q => absurd (show nI 1 < 0 from q) (by decide), fun q => by cases q⟩
theorem dkI_pos (n : Nat) : (0 ≤ dkI n) = (n ≠ 0) := by
  rcases n with _ | _ | n
  · exact propext ⟨fun q => absurd q (by decide), fun q => absurd rfl q⟩
  · exact propext ⟨fun _ => by omega, fun _ => by decide⟩
  · exact propext ⟨fun _ => by omega, fun _ => show 0 ≤ nI 1 by decide⟩
theorem bI_01' (b : Bool) : b = false ∨ bI b = 1 := by cases b <;> decide
theorem pa_lt {h : HS} (O : HO h) {g t : Nat} (hg : g < h.2.2.1) (ht : t < 24) : h.2.2.2.2 g t < 10 := by
  have := O.2.2.2.2.2.2 g hg t ht
  have := O.1
  omega
theorem m_isMet {h : HS} (O : HO h) {M : Mem} (H : HM M h) {r t : Nat} (hr : r < 32) (ht : t < 24) {Q : Int32 → Mem → Prop} (k : Q (bI (met h r t)) M) : C_X10_isMet M (nI r) (nI t) Q := by
  have hG := O.2.1
  have e1 : M 182 3 = nI h.2.2.1 := H.2.2.1
  have key : ∀ n g, g + n = h.2.2.1 → P_X10_isMet_5 M (nI r) (nI t) (bI (anyN (fun g => decide (h.2.2.2.2 g t = r)) g)) (nI g) Q := by
    intro n
    induction n with
    | zero =>
      intro g hg
      have : g = h.2.2.1 := by omega
      subst this
      refine T_X10_isMet_5 ?_
      simp (disch := omega) only [n_lt, n_le, n_eq, n_lt0, n_le0, n_ge0, n_gt0, n_eq0, n_add, n_mul, n_sub, n_m1, ix_n, vin, bI_0, bI_1, nT_le, nF_le, nT_lt, nF_lt, nT_eq, nF_eq, mk_test, true_imp_iff, false_imp_iff, not_true_eq_false, not_false_eq_true, true_and, and_true, tf_, ft_, eq_self, true_or, or_true, false_or, or_false, e1]
      exact ⟨bI_01' _, k⟩
    | succ n ih =>
      intro g hg
      refine T_X10_isMet_5 ?_
      have hp := pa_lt O (g := g) (by omega) ht
      have e2 := H.2.2.2.2 g (by omega) t ht
      have ih' := ih (g + 1) (by omega)
      simp only [anyN] at ih'
      cases hq : anyN (fun g => decide (h.2.2.2.2 g t = r)) g with
      | true =>
        rw [hq] at ih'
        simp (disch := omega) only [n_lt, n_le, n_eq, n_lt0, n_le0, n_ge0, n_gt0, n_eq0, n_add, n_mul, n_sub, n_m1, ix_n, vin, bI_0, bI_1, nT_le, nF_le, nT_lt, nF_lt, nT_eq, nF_eq, mk_test, true_imp_iff, false_imp_iff, not_true_eq_false, not_false_eq_true, true_and, and_true, tf_, ft_, eq_self, true_or, or_true, false_or, or_false, e1, e2]
        exact ih'
      | false =>
        rw [hq] at ih'
        simp (disch := omega) only [n_lt, n_le, n_eq, n_lt0, n_le0, n_ge0, n_gt0, n_eq0, n_add, n_mul, n_sub, n_m1, ix_n, vin, bI_0, bI_1, nT_le, nF_le, nT_lt, nF_lt, nT_eq, nF_eq, mk_test, true_imp_iff, false_imp_iff, not_true_eq_false, not_false_eq_true, true_and, and_true, tf_, ft_, eq_self, true_or, or_true, false_or, or_false, e1, e2]
        refine ⟨fun q => ?_, fun q => ?_⟩
        · rw [decide_eq_false q] at ih'; exact ih'
        · rw [decide_eq_true q] at ih'; exact ih'
  exact T_X10_isMet (key h.2.2.1 0 (by omega))
theorem m_may57 {h : HS} (O : HO h) {M : Mem} (H : HM M h) {co : Bool} {r t to : Nat} (hr : r < 10) (ht : t < 23) (hto : to < 10) {b : Bool} {Q : Int32 → Mem → Prop}
    (k : Q (bI (b && (!co || (decide (r = to) || !anyN (fun g => decide (h.2.2.2.2 g t = to) && decide (h.2.2.2.2 g (t + 1) = r)) h.2.2.1)))) M) : P_X10_may_57 M (nI r) (nI t) (nI to) (bI co) (bI b) (nI 0) Q := by
  have hG := O.2.1
  have e1 : M 182 3 = nI h.2.2.1 := H.2.2.1
  by_cases hs : co = true ∧ r ≠ to
  · obtain ⟨rfl, hne⟩ := hs
    rw [decide_eq_false hne] at k
    simp only [Bool.not_true, Bool.false_or] at k
    have key : ∀ n g, g + n = h.2.2.1 → P_X10_may_57 M (nI r) (nI t) (nI to) (bI true) (bI (b && !anyN (fun g => decide (h.2.2.2.2 g t = to) && decide (h.2.2.2.2 g (t + 1) = r)) g)) (nI g) Q := by
      intro n
      induction n with
      | zero =>
        intro g hg
        have : g = h.2.2.1 := by omega
        subst this
        refine T_X10_may_57 ?_
        simp (disch := omega) only [n_lt, n_le, n_eq, n_lt0, n_le0, n_ge0, n_gt0, n_eq0, n_add, n_mul, n_sub, n_m1, ix_n, vin, bI_0, bI_1, nT_le, nF_le, nT_lt, nF_lt, nT_eq, nF_eq, mk_test, true_imp_iff, false_imp_iff, not_true_eq_false, not_false_eq_true, true_and, and_true, tf_, ft_, eq_self, true_or, or_true, false_or, or_false, e1]
        exact ⟨bI_01' _, k⟩
      | succ n ih =>
        intro g hg
        refine T_X10_may_57 ?_
        have hp := pa_lt O (g := g) (by omega) (show t < 24 by omega)
        have hp1 := pa_lt O (g := g) (by omega) (show t + 1 < 24 by omega)
        have e2 := H.2.2.2.2 g (by omega) t (by omega)
        have e3 := H.2.2.2.2 g (by omega) (t + 1) (by omega)
        rw [show 24 * g + (t + 1) = 24 * g + t + 1 by omega] at e3
        have ih' := ih (g + 1) (by omega)
        simp only [anyN] at ih'
        cases hq : (b && !anyN (fun g => decide (h.2.2.2.2 g t = to) && decide (h.2.2.2.2 g (t + 1) = r)) g) with
        | false =>
          simp (disch := omega) only [n_lt, n_le, n_eq, n_lt0, n_le0, n_ge0, n_gt0, n_eq0, n_add, n_mul, n_sub, n_m1, ix_n, vin, bI_0, bI_1, nT_le, nF_le, nT_lt, nF_lt, nT_eq, nF_eq, mk_test, true_imp_iff, false_imp_iff, not_true_eq_false, not_false_eq_true, true_and, and_true, tf_, ft_, eq_self, true_or, or_true, false_or, or_false, e1]
          have : (b && !anyN (fun g => decide (h.2.2.2.2 g t = to) && decide (h.2.2.2.2 g (t + 1) = r)) h.2.2.1) = false := by
            rw [Bool.and_eq_false_iff] at hq ⊢
            rcases hq with q | q
            · exact Or.inl q
            · refine Or.inr ?_
              rw [Bool.not_eq_false'] at q ⊢
              obtain ⟨i, hi, h2⟩ := anyN_iff.mp q
              exact anyN_iff.mpr ⟨i, by omega, h2⟩
          rw [this] at k; exact k
        | true =>
          rw [Bool.and_eq_true, Bool.not_eq_true'] at hq
          rw [hq.1, hq.2] at ih'
          simp (disch := omega) only [n_lt, n_le, n_eq, n_lt0, n_le0, n_ge0, n_gt0, n_eq0, n_add, n_mul, n_sub, n_m1, ix_n, vin, bI_0, bI_1, nT_le, nF_le, nT_lt, nF_lt, nT_eq, nF_eq, mk_test, true_imp_iff, false_imp_iff, not_true_eq_false, not_false_eq_true, true_and, and_true, tf_, ft_, eq_self, true_or, or_true, false_or, or_false, e1, e2, e3]
          refine ⟨fun q => ?_, fun q => ⟨fun q2 => ?_, fun q2 => ?_⟩⟩
          · rw [decide_eq_false q] at ih'; exact ih'
          · rw [decide_eq_true q, decide_eq_true q2] at ih'; exact ih'
          · rw [decide_eq_true q, decide_eq_false q2] at ih'; exact ih'
    have := key h.2.2.1 0 (by omega)
    simp only [anyN, Bool.not_false, Bool.and_true] at this
    exact this
  · have e : (b && (!co || (decide (r = to) || !anyN (fun g => decide (h.2.2.2.2 g t = to) && decide (h.2.2.2.2 g (t + 1) = r)) h.2.2.1))) = b := by
      cases co
      · simp
      · have : r = to := by simpa using hs
        simp [this]
    rw [e] at k
    refine T_X10_may_57 ⟨fun _ => ⟨bI_01 _, k⟩, fun _ => ⟨fun _ => ⟨bI_01 _, k⟩, fun _ => ⟨fun _ => ⟨bI_01 _, k⟩, fun q1 => ⟨fun _ => ⟨bI_01 _, k⟩, fun q2 => ?_⟩⟩⟩⟩
    exfalso
    rw [bI_0] at q1
    rw [n_eq (by omega) (by omega)] at q2
    exact hs ⟨by simpa using q1, q2⟩
theorem m_may {h : HS} (O : HO h) {M : Mem} (H : HM M h) {co : Bool} {r t to : Nat} (hr : r < 10) (ht : t < 23) (hto : to < 10) {Q : Int32 → Mem → Prop} (k : Q (bI (mv h co t r to)) M) : C_X10_may M (nI r) (nI t) (nI to) (bI co) Q := by
  have tail : ∀ b : Bool, b = (decide (r = to) || decide (h.2.2.2.1 r to ≠ 0)) → (((bI b = 0) → P_X10_may_57 M (nI r) (nI t) (nI to) (bI co) (nI 0) (nI 0) Q) ∧ ((¬ bI b = 0) → (((bI co = 0) → (P_X10_may_57 M (nI r) (nI t) (nI to) (bI co) (nI 1) (nI 0) Q)) ∧ ((¬ bI co = 0) → (C_X10_isMet M (nI to) (nI t + nI 1) (fun r3 M3 => ((¬ r3 = 0) → (P_X10_may_57 M3 (nI r) (nI t) (nI to) (bI co) (nI 0) (nI 0) Q)) ∧ ((r3 = 0) → (P_X10_may_57 M3 (nI r) (nI t) (nI to) (bI co) (nI 1) (nI 0) Q)))))))) := by
    intro b hb
    unfold mv at k
    rw [← hb] at k
    refine br (fun q => ?_) (fun q => br (fun q2 => ?_) (fun q2 => ?_))
    · subst q
      exact m_may57 (b := false) O H hr ht hto (by simpa using k)
    · subst q; subst q2
      exact m_may57 (b := true) O H hr ht hto (by simpa using k)
    · subst q; subst q2
      rw [n_add]
      refine m_isMet O H (by omega) (by omega) (br' (fun q3 => ?_) (fun q3 => ?_))
      · rw [q3] at k
        exact m_may57 (b := true) O H hr ht hto (by simpa using k)
      · rw [q3] at k
        exact m_may57 (b := false) O H hr ht hto (by simpa using k)
  refine T_X10_may ?_
  rw [n_eq (by omega) (by omega)]
  refine ⟨fun q => tail true (by simp [q]), fun q => ?_⟩
  have e2 := H.2.2.2.1 r hr to hto
  simp (disch := omega) only [n_lt, n_le, n_eq, n_lt0, n_le0, n_ge0, n_gt0, n_eq0, n_add, n_mul, n_sub, n_m1, ix_n, vin, bI_0, bI_1, nT_le, nF_le, nT_lt, nF_lt, nT_eq, nF_eq, mk_test, true_imp_iff, false_imp_iff, not_true_eq_false, not_false_eq_true, true_and, and_true, tf_, ft_, eq_self, true_or, or_true, false_or, or_false, e2, dkI_neg]
  refine ⟨fun q2 => ?_, fun q2 => ?_⟩
  · have := tail false (by simp [q, q2])
    simp only [bI_0, true_imp_iff] at this
    exact this.1
  · have := tail true (by simp [q, q2])
    simp only [bI_0] at this
    have := this.2 (by simp)
    rw [n_add] at this
    exact this
theorem HM.only {M M' : Mem} {h : HS} (H : HM M h) (c0 : Nat) (hc : 185 ≤ c0) (e : ∀ c k, c ≠ c0 → M' c k = M c k) : HM M' h := H.congr (fun c k q => e c k (by omega))
/-- the sets from a tick on -/
theorem m_reaches {h : HS} (O : HO h) {M0 : Mem} (H0 : HM M0 h) {co : Bool} {a t0 : Nat} (ha : a < h.1) (ht0 : t0 < 24) {Q : Mem → Prop}
    (K : ∀ M', (∀ c k, c ≠ 187 → M' c k = M0 c k) → (∀ t, t0 ≤ t → t < 24 → M' 187 t = mk (rc h co a t0 (t - t0))) → Q M') : C_X10_reaches M0 (nI a) (nI t0) (bI co) Q := by
  have hR := O.1
  have k61 : ∀ n to r t (S : Nat → Bool) (M : Mem), to + n = h.1 → r < h.1 → t < 23 → S r = true → (∀ c k, c ≠ 187 → M c k = M0 c k) → M 187 t = mk S → M 187 (t + 1) = mk (fun b => anyN (fun a => S a && mv h co t a b) r || (decide (b < to) && mv h co t r b)) →
      (∀ M', (∀ c k, c ≠ 187 → M' c k = M0 c k) → (∀ k, k ≠ t + 1 → M' 187 k = M 187 k) → M' 187 (t + 1) = mk (fun b => anyN (fun a => S a && mv h co t a b) (r + 1)) → P_X10_reaches_49 M' (bI co) (nI t) (nI r + nI 1) Q) → P_X10_reaches_61 M (bI co) (nI t) (nI r) (nI to) Q := by
    intro n
    induction n with
    | zero =>
      intro to r t S M hn hr ht hS hf h1 h2 K2
      have e1 : M 182 0 = nI h.1 := by rw [hf 182 0 (by omega)]; exact H0.1
      refine T_X10_reaches_61 ?_
      have := K2 M hf (fun _ _ => rfl) (by
        rw [h2]
        refine mk_ext (fun b _ => ?_)
        simp only [anyN, hS, Bool.true_and]
        congr 1
        cases hm : mv h co t r b with
        | false => simp
        | true => have := mv_lt O hr hm; simp; omega)
      rw [n_add] at this
      simp (disch := omega) only [n_lt, n_le, n_eq, n_lt0, n_le0, n_ge0, n_gt0, n_eq0, n_add, n_mul, n_sub, n_m1, ix_n, vin, bI_0, bI_1, nT_le, nF_le, nT_lt, nF_lt, nT_eq, nF_eq, mk_test, true_imp_iff, false_imp_iff, not_true_eq_false, not_false_eq_true, true_and, and_true, tf_, ft_, eq_self, true_or, or_true, false_or, or_false, e1]
      exact this
    | succ n ih =>
      intro to r t S M hn hr ht hS hf h1 h2 K2
      have H : HM M h := H0.only 187 (by omega) hf
      refine T_X10_reaches_61 ?_
      simp (disch := omega) only [n_lt, n_le, n_eq, n_lt0, n_le0, n_ge0, n_gt0, n_eq0, n_add, n_mul, n_sub, n_m1, ix_n, vin, bI_0, bI_1, nT_le, nF_le, nT_lt, nF_lt, nT_eq, nF_eq, mk_test, true_imp_iff, false_imp_iff, not_true_eq_false, not_false_eq_true, true_and, and_true, tf_, ft_, eq_self, true_or, or_true, false_or, or_false, H.1, h1, h2, hS]
      refine m_may O H (by omega) ht (by omega) (br (fun q => ?_) (fun q => ?_))
      · refine ih (to + 1) r t S _ (by omega) hr ht hS (fun c k hc => by rw [wr_nc _ _ _ _ hc]; exact hf c k hc) (by rw [wr_nk _ _ _ _ (by omega)]; exact h1) ?_ (fun M' f' g' w' => K2 M' f' (fun k hk => by rw [g' k hk, wr_nk _ _ _ _ hk]) w')
        rw [wr_eq, mk_0, mk_or]
        refine mk_ext (fun b _ => ?_)
        by_cases e : b = to
        · subst e; simp [q]
        · simp [show (b < to + 1) = (b < to) from by rw [eq_iff_iff]; omega]
      · refine ih (to + 1) r t S _ (by omega) hr ht hS (fun c k hc => by rw [wr_nc _ _ _ _ hc]; exact hf c k hc) (by rw [wr_nk _ _ _ _ (by omega)]; exact h1) ?_ (fun M' f' g' w' => K2 M' f' (fun k hk => by rw [g' k hk, wr_nk _ _ _ _ hk]) w')
        rw [wr_eq, mk_one (by omega), mk_or]
        refine mk_ext (fun b _ => ?_)
        by_cases e : b = to
        · subst e; simp [q]
        · simp [e, show (b < to + 1) = (b < to) from by rw [eq_iff_iff]; omega]
  have k49 : ∀ n r t (S : Nat → Bool) (M : Mem), r + n = h.1 → t < 23 → (∀ c k, c ≠ 187 → M c k = M0 c k) → M 187 t = mk S → M 187 (t + 1) = mk (fun b => anyN (fun a => S a && mv h co t a b) r) →
      (∀ M', (∀ c k, c ≠ 187 → M' c k = M0 c k) → (∀ k, k ≠ t + 1 → M' 187 k = M 187 k) → M' 187 (t + 1) = mk (sp h co t S) → P_X10_reaches_29 M' (bI co) (nI t + nI 1) Q) → P_X10_reaches_49 M (bI co) (nI t) (nI r) Q := by
    intro n
    induction n with
    | zero =>
      intro r t S M hn ht hf h1 h2 K2
      have e1 : M 182 0 = nI h.1 := by rw [hf 182 0 (by omega)]; exact H0.1
      have hr : r = h.1 := by omega
      subst hr
      refine T_X10_reaches_49 ?_
      have := K2 M hf (fun _ _ => rfl) h2
      rw [n_add] at this
      simp (disch := omega) only [n_lt, n_le, n_eq, n_lt0, n_le0, n_ge0, n_gt0, n_eq0, n_add, n_mul, n_sub, n_m1, ix_n, vin, bI_0, bI_1, nT_le, nF_le, nT_lt, nF_lt, nT_eq, nF_eq, mk_test, true_imp_iff, false_imp_iff, not_true_eq_false, not_false_eq_true, true_and, and_true, tf_, ft_, eq_self, true_or, or_true, false_or, or_false, e1]
      exact this
    | succ n ih =>
      intro r t S M hn ht hf h1 h2 K2
      have e1 : M 182 0 = nI h.1 := by rw [hf 182 0 (by omega)]; exact H0.1
      refine T_X10_reaches_49 ?_
      simp (disch := omega) only [n_lt, n_le, n_eq, n_lt0, n_le0, n_ge0, n_gt0, n_eq0, n_add, n_mul, n_sub, n_m1, ix_n, vin, bI_0, bI_1, nT_le, nF_le, nT_lt, nF_lt, nT_eq, nF_eq, mk_test, true_imp_iff, false_imp_iff, not_true_eq_false, not_false_eq_true, true_and, and_true, tf_, ft_, eq_self, true_or, or_true, false_or, or_false, e1]
      cases hS : S r with
      | false =>
        refine T_X10_reaches_61 ?_
        simp (disch := omega) only [n_lt, n_le, n_eq, n_lt0, n_le0, n_ge0, n_gt0, n_eq0, n_add, n_mul, n_sub, n_m1, ix_n, vin, bI_0, bI_1, nT_le, nF_le, nT_lt, nF_lt, nT_eq, nF_eq, mk_test, true_imp_iff, false_imp_iff, not_true_eq_false, not_false_eq_true, true_and, and_true, tf_, ft_, eq_self, true_or, or_true, false_or, or_false, e1, h1, hS]
        exact ih (r + 1) t S M (by omega) ht hf h1 (by rw [h2]; exact mk_ext (fun b _ => by simp [anyN, hS])) K2
      | true =>
        refine k61 h.1 0 r t S M (by omega) (by omega) ht hS hf h1 (by rw [h2]; exact mk_ext (fun b _ => by simp)) (fun M' f' g' w' => ?_)
        rw [n_add]
        exact ih (r + 1) t S M' (by omega) ht f' (by rw [g' t (by omega)]; exact h1) w' (fun M2 f2 g2 w2 => K2 M2 f2 (fun k hk => by rw [g2 k hk, g' k hk]) w2)
  have k29 : ∀ n t (M : Mem), t + n = 23 → t0 ≤ t → (∀ c k, c ≠ 187 → M c k = M0 c k) → (∀ u, t0 ≤ u → u ≤ t → M 187 u = mk (rc h co a t0 (u - t0))) → P_X10_reaches_29 M (bI co) (nI t) Q := by
    intro n
    induction n with
    | zero =>
      intro t M hn ht hf hw
      refine T_X10_reaches_29 ?_
      simp (disch := omega) only [n_lt, n_le, n_eq, n_lt0, n_le0, n_ge0, n_gt0, n_eq0, n_add, n_mul, n_sub, n_m1, ix_n, vin, bI_0, bI_1, nT_le, nF_le, nT_lt, nF_lt, nT_eq, nF_eq, mk_test, true_imp_iff, false_imp_iff, not_true_eq_false, not_false_eq_true, true_and, and_true, tf_, ft_, eq_self, true_or, or_true, false_or, or_false, ]
      exact K M hf (fun u h1 h2 => hw u h1 (by omega))
    | succ n ih =>
      intro t M hn ht hf hw
      refine T_X10_reaches_29 ?_
      simp (disch := omega) only [n_lt, n_le, n_eq, n_lt0, n_le0, n_ge0, n_gt0, n_eq0, n_add, n_mul, n_sub, n_m1, ix_n, vin, bI_0, bI_1, nT_le, nF_le, nT_lt, nF_lt, nT_eq, nF_eq, mk_test, true_imp_iff, false_imp_iff, not_true_eq_false, not_false_eq_true, true_and, and_true, tf_, ft_, eq_self, true_or, or_true, false_or, or_false, ]
      refine k49 h.1 0 t (rc h co a t0 (t - t0)) _ (by omega) (by omega) (fun c k hc => by rw [wr_nc _ _ _ _ hc]; exact hf c k hc) (by rw [wr_nk _ _ _ _ (by omega)]; exact hw t ht (by omega)) (by rw [wr_eq, mk_0]; rfl) (fun M' f' g' w' => ?_)
      rw [n_add]
      refine ih (t + 1) M' (by omega) (by omega) f' (fun u h1 h2 => ?_)
      by_cases e : u = t + 1
      · subst e
        rw [w', show t + 1 - t0 = (t - t0) + 1 by omega]
        show mk _ = mk (sp h co (t0 + (t - t0)) _)
        rw [show t0 + (t - t0) = t by omega]
      · rw [g' u e, wr_nk _ _ _ _ e]
        exact hw u h1 (by omega)
  have fin : ∀ b : Bool, b = (co && met h a t0) → P_X10_reaches_29 (wr M0 187 t0 (mk (fun i => decide (i = a) && !b))) (bI co) (nI t0) Q := by
    intro b hb
    refine k29 (23 - t0) t0 _ (by omega) (by omega) (fun c k hc => wr_nc _ _ _ _ hc) (fun u h1 h2 => ?_)
    have : u = t0 := by omega
    subst this
    rw [wr_eq, Nat.sub_self, hb]
    rfl
  refine T_X10_reaches (br (fun q => ?_) (fun q => m_isMet O H0 (by omega) ht0 (br (fun q2 => ?_) (fun q2 => ?_))))
  · have := fin false (by simp [q])
    simp only [Bool.not_false, Bool.and_true] at this
    rw [vin (by omega), ix_n (by omega), mk_one (by omega)]
    exact ⟨ht0, this⟩
  · have := fin false (by simp [q2])
    simp only [Bool.not_false, Bool.and_true] at this
    rw [vin (by omega), ix_n (by omega), mk_one (by omega)]
    exact ⟨ht0, this⟩
  · have := fin true (by simp [q, q2])
    simp only [Bool.not_true, Bool.and_false] at this
    rw [vin (by omega), ix_n (by omega), mk_0]
    exact ⟨ht0, this⟩
