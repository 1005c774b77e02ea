/-! ===== the class's least cost with some servants ===== -/
def RV (M : Mem) (h : HS) (s : SS) (rvs : Nat → Nat → Nat) : Prop := ∀ v, v < s.1 → s.2.2.2.2.1 v = false → (∀ m, m < 32 → M (161 + v) m = nI (rvs v m)) ∧ LSp h s v (rvs v)
theorem RV.congr {M M' : Mem} {h : HS} {s : SS} {rvs : Nat → Nat → Nat} (H : RV M h s rvs) (hs : s.1 ≤ 3) (e : ∀ c k, 161 ≤ c → c ≤ 163 → M' c k = M c k) : RV M' h s rvs := fun v hv hi => ⟨fun m hm => by rw [e _ _ (by omega) (by omega)]; exact (H v hv hi).1 m hm, (H v hv hi).2⟩
def vld (s : SS) (T : Nat → Bool) (by_ : Nat → Nat) : Prop := ∀ e, e < s.2.1 → T (by_ e) = true
theorem m1_sub (n : Nat) : nI n - nI 1 = nI n + (-1) := by rw [Int32.sub_eq_add_neg]; rfl
theorem Pv_hi {E : Nat} (hE : E < 6) (by_ : Nat → Nat) (v : Nat) : ∀ x, 5 ≤ x → Pv E by_ v x = false := by
  intro x hx
  simp only [Pv, Bool.and_eq_false_iff, decide_eq_false_iff_not]
  left; omega
theorem s_costOf {h : HS} {s : SS} (P : SO s h.1) {M0 : Mem} (H0 : SC 30 M0 s) {rvs : Nat → Nat → Nat} (R0 : RV M0 h s rvs) {T : Nat → Bool} (hT : ∀ v, T v = true → v < s.1 ∧ s.2.2.2.2.1 v = false) {w : Nat} (hw : w < 3 ^ s.2.1) {Q : Int32 → Mem → Prop}
    (K : ∀ M', (∀ c k, c ≠ 164 → M' c k = M0 c k) → (vld s T (dg 3 s.2.1 w) → Q (nI (tot s.1 s.2.1 rvs (dg 3 s.2.1 w))) M') ∧ (¬ vld s T (dg 3 s.2.1 w) → Q (1000000 : Int32) M')) : C_X3_costOf M0 (nI w) (mk T) Q := by
  have hS := P.1
  have hE : s.2.1 < 6 := by have := P.2.1; omega
  have hpw : w < 243 := Nat.lt_of_lt_of_le hw (by
    have : (3 : Nat) ^ s.2.1 ≤ 3 ^ 5 := Nat.pow_le_pow_right (by omega) (by omega)
    exact this)
  have good : ∀ M : Mem, (∀ c k, c ≠ 164 → M c k = M0 c k) → SC 30 M s ∧ RV M h s rvs := fun M f => ⟨H0.congr (fun c k q1 q2 => f c k (by omega)), R0.congr hS (fun c k _ _ => f c k (by omega))⟩
  have k73 : ∀ n v (M : Mem), v + n = s.1 → vld s T (dg 3 s.2.1 w) → (∀ c k, c ≠ 164 → M c k = M0 c k) → (∀ v, v < 3 → M 164 v = mk (Pv s.2.1 (dg 3 s.2.1 w) v)) → P_X3_costOf_73 M (nI (sumN (trm s.2.1 rvs (dg 3 s.2.1 w)) v)) (nI v) Q := by
    intro n
    induction n with
    | zero =>
      intro v M hv hvl hf hP
      obtain ⟨H, R⟩ := good M hf
      have : v = s.1 := by omega
      subst this
      refine T_X3_costOf_73 ?_
      simp (disch := omega) only [n_lt, n_le, n_eq, n_lt0, n_le0, n_ge0, n_gt0, n_eq0, n_add, n_mul, n_sub, n_m1, ix_n, vin, bI_0, bI_1, nT_le, nF_le, nT_lt, nF_lt, nT_eq, nF_eq, mk_test, true_imp_iff, false_imp_iff, not_true_eq_false, not_false_eq_true, true_and, and_true, tf_, ft_, eq_self, true_or, or_true, false_or, or_false, show M 30 0 = nI s.1 from H.1]
      exact (K M hf).1 hvl
    | succ n ih =>
      intro v M hv hvl hf hP
      obtain ⟨H, R⟩ := good M hf
      have eP := hP v (by omega)
      rw [mk_bv (Pv_hi hE _ v)] at eP
      have hb := bv_lt (Pv s.2.1 (dg 3 s.2.1 w) v)
      have z := ih (v + 1) M (by omega) hvl hf hP
      simp only [sumN] at z
      refine T_X3_costOf_73 ?_
      simp (disch := omega) only [n_lt, n_le, n_eq, n_lt0, n_le0, n_ge0, n_gt0, n_eq0, n_add, n_mul, n_sub, n_m1, ix_n, vin, bI_0, bI_1, nT_le, nF_le, nT_lt, nF_lt, nT_eq, nF_eq, mk_test, true_imp_iff, false_imp_iff, not_true_eq_false, not_false_eq_true, true_and, and_true, tf_, ft_, eq_self, true_or, or_true, false_or, or_false, show M 30 0 = nI s.1 from H.1, eP]
      refine ⟨fun q => ?_, fun q => ?_⟩
      · rw [show trm s.2.1 rvs (dg 3 s.2.1 w) v = 0 from by unfold trm; rw [if_pos q]] at z
        exact z
      · have hx : ∃ e, e < s.2.1 ∧ dg 3 s.2.1 w e = v := by
          apply Classical.byContradiction
          intro q2
          apply q
          rw [bv_c (Q := fun _ => false) (fun x _ => by
            simp only [Pv, Bool.and_eq_false_iff, decide_eq_false_iff_not]
            by_cases hx : x < s.2.1
            · exact Or.inr (fun q3 => q2 ⟨x, hx, q3⟩)
            · exact Or.inl hx)]
          rfl
        obtain ⟨e, he, hev⟩ := hx
        have hTv := hT v (by rw [← hev]; exact hvl e he)
        rw [show 160 + 1 + v = 161 + v by omega, (R v (by omega) hTv.2).1 _ hb, n_add]
        rw [show trm s.2.1 rvs (dg 3 s.2.1 w) v = rvs v (bv (Pv s.2.1 (dg 3 s.2.1 w) v)) from by unfold trm; rw [if_neg q]] at z
        exact z
  have k21 : ∀ m (M : Mem), m ≤ s.2.1 → (∀ c k, c ≠ 164 → M c k = M0 c k) → (∀ e, m ≤ e → e < s.2.1 → T (dg 3 s.2.1 w e) = true) → (∀ v, v < 3 → M 164 v = mk (fun x => decide (m ≤ x) && Pv s.2.1 (dg 3 s.2.1 w) v x)) → P_X3_costOf_21 M (mk T) (nI (val 3 (dg 3 s.2.1 w) m)) (nI m + (-1)) Q := by
    intro m
    induction m with
    | zero =>
      intro M hm hf hvl hP
      refine T_X3_costOf_21 ?_
      rw [n_m1lt0 (by omega)]
      refine ⟨fun _ => ?_, fun q => absurd rfl q⟩
      exact k73 s.1 0 M (by omega) (fun e he => hvl e (by omega) he) hf (fun v hv => by rw [hP v hv]; exact mk_ext (fun x _ => by simp))
    | succ m ih =>
      intro M hm hf hvl hP
      have hd := dg_lt (B := 3) (by omega) s.2.1 w m
      have hv1 : val 3 (dg 3 s.2.1 w) (m + 1) ≤ 243 := by
        have := val_lt (B := 3) (f := dg 3 s.2.1 w) (n := m + 1) (fun e _ => dg_lt (by omega) _ _ _)
        have : (3 : Nat) ^ (m + 1) ≤ 3 ^ 5 := Nat.pow_le_pow_right (by omega) (by omega)
        omega
      have e1 : val 3 (dg 3 s.2.1 w) (m + 1) % 3 = dg 3 s.2.1 w m := by simp only [val]; omega
      have e2 : val 3 (dg 3 s.2.1 w) (m + 1) / 3 = val 3 (dg 3 s.2.1 w) m := by simp only [val]; omega
      refine T_X3_costOf_21 ?_
      rw [n_m1lt0 (by omega), n_r (a := val 3 (dg 3 s.2.1 w) (m + 1)) (d := 3) (by omega), n_d (a := val 3 (dg 3 s.2.1 w) (m + 1)) (d := 3) (by omega), e1, e2]
      refine ⟨fun q => by omega, fun _ => ?_⟩
      simp (disch := omega) only [n_lt, n_le, n_eq, n_lt0, n_le0, n_ge0, n_gt0, n_eq0, n_add, n_mul, n_sub, n_m1, ix_n, vin, bI_0, bI_1, nT_le, nF_le, nT_lt, nF_lt, nT_eq, nF_eq, mk_test, true_imp_iff, false_imp_iff, not_true_eq_false, not_false_eq_true, true_and, and_true, tf_, ft_, eq_self, true_or, or_true, false_or, or_false, Nat.add_sub_cancel, hP _ hd, mk_one, mk_or]
      refine ⟨fun q => ?_, fun q => ?_⟩
      · rw [Bool.not_eq_false] at q
        refine ih _ (by omega) (fun c k hc => by rw [wr_nc _ _ _ _ hc]; exact hf c k hc) (fun e h1 h2 => ?_) (fun v hv => ?_)
        · by_cases e' : e = m
          · subst e'; exact q
          · exact hvl e (by omega) h2
        · by_cases e' : v = dg 3 s.2.1 w m
          · rw [e', wr_eq]
            refine mk_ext (fun x _ => ?_)
            by_cases e3 : x = m
            · subst e3; simp [Pv, show x < s.2.1 by omega]
            · simp [e3, show (m ≤ x) = (m + 1 ≤ x) from by rw [eq_iff_iff]; omega]
          · rw [wr_nk _ _ _ _ e', hP v hv]
            refine mk_ext (fun x _ => ?_)
            by_cases e3 : x = m
            · subst e3
              have e4 : ¬ dg 3 s.2.1 w x = v := fun q => e' q.symm
              simp [Pv, e4]
            · simp [show (m ≤ x) = (m + 1 ≤ x) from by rw [eq_iff_iff]; omega]
      · exact (K M hf).2 (fun q2 => by rw [q2 m (by omega)] at q; cases q)
  refine T_X3_costOf (s_fill ia_164 (by omega) (fun M1 h1 f1 => ?_))
  rw [show M1 30 3 = nI s.2.1 from by rw [f1 _ _ (by omega)]; exact H0.2.2.2.1, m1_sub]
  have z := k21 s.2.1 M1 (Nat.le_refl _) f1 (fun e h1 h2 => by omega) (fun v hv => by
    rw [h1 v hv, mk_0]
    exact mk_ext (fun x _ => by simp only [Pv]; by_cases q : s.2.1 ≤ x
                                · simp [show ¬ x < s.2.1 by omega]
                                · simp [q]))
  rw [val_dg (by omega) _ _ hw] at z
  exact z
theorem s_leastWith {h : HS} {s : SS} (P : SO s h.1) {M0 : Mem} (H0 : SC 30 M0 s) {rvs : Nat → Nat → Nat} (R0 : RV M0 h s rvs) {T : Nat → Bool} (hT : ∀ v, T v = true → v < s.1 ∧ s.2.2.2.2.1 v = false) (hne : ∃ v, T v = true) {Q : Int32 → Mem → Prop}
    (K : ∀ M' wb, (∀ c k, ¬ (c = 164 ∨ (c = 124 ∧ k = 11)) → M' c k = M0 c k) → wb < 3 ^ s.2.1 → vld s T (dg 3 s.2.1 wb) → (∀ w, w < 3 ^ s.2.1 → vld s T (dg 3 s.2.1 w) → tot s.1 s.2.1 rvs (dg 3 s.2.1 wb) ≤ tot s.1 s.2.1 rvs (dg 3 s.2.1 w)) → (∀ w, w < wb → vld s T (dg 3 s.2.1 w) → tot s.1 s.2.1 rvs (dg 3 s.2.1 wb) < tot s.1 s.2.1 rvs (dg 3 s.2.1 w)) → M' 124 11 = nI wb → Q (nI (tot s.1 s.2.1 rvs (dg 3 s.2.1 wb))) M') : C_X3_leastWith M0 (mk T) Q := by
  have hS := P.1
  have hE : s.2.1 < 6 := by have := P.2.1; omega
  have hpow : ∀ i, i ≤ s.2.1 → 3 ^ i ≤ 243 := fun i hi => by
    have : (3 : Nat) ^ i ≤ 3 ^ 5 := Nat.pow_le_pow_right (by omega) (by omega)
    exact this
  have hp := hpow s.2.1 (Nat.le_refl _)
  have good : ∀ M : Mem, (∀ c k, ¬ (c = 164 ∨ (c = 124 ∧ k = 11)) → M c k = M0 c k) → SC 30 M s ∧ RV M h s rvs := fun M f => ⟨H0.congr (fun c k q1 q2 => f c k (by omega)), R0.congr hS (fun c k _ _ => f c k (by omega))⟩
  have bnd : ∀ w, vld s T (dg 3 s.2.1 w) → tot s.1 s.2.1 rvs (dg 3 s.2.1 w) ≤ 1080 := by
    intro w hv
    have hb : ∀ e, e < s.2.1 → dg 3 s.2.1 w e < s.1 ∧ s.2.2.2.2.1 (dg 3 s.2.1 w e) = false := fun e he => hT _ (hv e he)
    have hm := (tot_min P (W := fun v => s.2.2.2.2.1 v = false) (rvs := rvs) (fun v hv hi => (R0 v hv hi).2) hb).2 0 (by have := fct_pos _ hE; omega)
    have hc := cst_le (h := h) P (by_ := dg 3 s.2.1 w) (ord := prm s.2.1 0) s.2.1 (fun j hj => by
      have := (prm_a _ hE 0 (by have := fct_pos _ hE; omega)).2.1 j hj
      exact ⟨this, (hb _ this).1⟩)
    unfold Cc at hm
    omega
  have k31 : ∀ n w (M : Mem), w + n = 3 ^ s.2.1 → (∀ c k, ¬ (c = 164 ∨ (c = 124 ∧ k = 11)) → M c k = M0 c k) →
      (∀ low, (low = 1000000 ∧ ∀ w', w' < w → ¬ vld s T (dg 3 s.2.1 w')) ∨ (∃ wb, wb < w ∧ vld s T (dg 3 s.2.1 wb) ∧ low = tot s.1 s.2.1 rvs (dg 3 s.2.1 wb) ∧ (∀ w', w' < w → vld s T (dg 3 s.2.1 w') → low ≤ tot s.1 s.2.1 rvs (dg 3 s.2.1 w')) ∧ (∀ w', w' < wb → vld s T (dg 3 s.2.1 w') → low < tot s.1 s.2.1 rvs (dg 3 s.2.1 w')) ∧ M 124 11 = nI wb) → P_X3_leastWith_31 M (mk T) (nI (3 ^ s.2.1)) (nI low) (nI w) Q) := by
    intro n
    induction n with
    | zero =>
      intro w M hw hf low hl
      have : w = 3 ^ s.2.1 := by omega
      subst this
      refine T_X3_leastWith_31 ?_
      simp (disch := omega) only [n_lt, n_le, n_eq, n_lt0, n_le0, n_ge0, n_gt0, n_eq0, n_add, n_mul, n_sub, n_m1, ix_n, vin, bI_0, bI_1, nT_le, nF_le, nT_lt, nF_lt, nT_eq, nF_eq, mk_test, true_imp_iff, false_imp_iff, not_true_eq_false, not_false_eq_true, true_and, and_true, tf_, ft_, eq_self, true_or, or_true, false_or, or_false, ]
      rcases hl with ⟨_, h2⟩ | ⟨wb, h1, h2, h3, h4, h5, h6⟩
      · exfalso
        obtain ⟨v, hv⟩ := hne
        have hv3 := (hT v hv).1
        have h7 := val_lt (B := 3) (f := fun _ => v) (n := s.2.1) (fun e _ => by omega)
        exact h2 _ h7 (fun e he => by rw [dg_val (fun e _ => by omega) e he]; exact hv)
      · subst h3
        exact K M wb hf h1 h2 h4 h5 h6
    | succ n ih =>
      intro w M hw hf low hl
      obtain ⟨H, R⟩ := good M hf
      have hlow : low ≤ 1000000 := by
        rcases hl with ⟨h1, _⟩ | ⟨wb, h1, h2, h3, _⟩
        · omega
        · have := bnd wb h2; omega
      refine T_X3_leastWith_31 ?_
      simp (disch := omega) only [n_lt, n_le, n_eq, n_lt0, n_le0, n_ge0, n_gt0, n_eq0, n_add, n_mul, n_sub, n_m1, ix_n, vin, bI_0, bI_1, nT_le, nF_le, nT_lt, nF_lt, nT_eq, nF_eq, mk_test, true_imp_iff, false_imp_iff, not_true_eq_false, not_false_eq_true, true_and, and_true, tf_, ft_, eq_self, true_or, or_true, false_or, or_false, ]
      refine s_costOf P H R hT (by omega) (fun M1 f1 => ⟨fun hv => ?_, fun hv => ?_⟩)
      · have hb := bnd w hv
        have f1' : ∀ c k, ¬ (c = 164 ∨ (c = 124 ∧ k = 11)) → M1 c k = M0 c k := fun c k q => by rw [f1 c k (by omega)]; exact hf c k q
        rw [n_le (by omega) (by omega)]
        refine ⟨fun q => ih (w + 1) M1 (by omega) f1' low ?_, fun q => ih (w + 1) _ (by omega) (fun c k hc => by rw [wr, if_neg (by omega)]; exact f1' c k hc) _ (Or.inr ⟨w, by omega, hv, rfl, fun w' h1 h2 => ?_, fun w' h1 h2 => ?_, wr_eq _ _ _ _⟩)⟩
        · rcases hl with ⟨h1, h2⟩ | ⟨wb, h1, h2, h3, h4, h5, h6⟩
          · omega
          · refine Or.inr ⟨wb, by omega, h2, h3, fun w' q1 q2 => ?_, h5, by rw [f1 _ _ (by omega)]; exact h6⟩
            by_cases e : w' = w
            · subst e; exact q
            · exact h4 w' (by omega) q2
        · by_cases e : w' = w
          · subst e; exact Nat.le_refl _
          · rcases hl with ⟨h3, h4⟩ | ⟨wb, h3, h4, h5, h6, h7, h8⟩
            · exact absurd h2 (h4 w' (by omega))
            · have := h6 w' (by omega) h2; omega
        · rcases hl with ⟨h3, h4⟩ | ⟨wb, h3, h4, h5, h6, h7, h8⟩
          · exact absurd h2 (h4 w' (by omega))
          · have := h6 w' (by omega) h2; omega
      · rw [show (1000000 : Int32) = nI 1000000 from by decide, n_le (by omega) (by omega)]
        refine ⟨fun q => ih (w + 1) M1 (by omega) (fun c k q => by rw [f1 c k (by omega)]; exact hf c k q) low ?_, fun q => by omega⟩
        rcases hl with ⟨h1, h2⟩ | ⟨wb, h1, h2, h3, h4, h5, h6⟩
        · refine Or.inl ⟨h1, fun w' q1 => ?_⟩
          by_cases e : w' = w
          · subst e; exact hv
          · exact h2 w' (by omega)
        · refine Or.inr ⟨wb, by omega, h2, h3, fun w' q1 q2 => ?_, h5, by rw [f1 _ _ (by omega)]; exact h6⟩
          by_cases e : w' = w
          · subst e; exact absurd q2 hv
          · exact h4 w' (by omega) q2
  have k4 : ∀ n i, i + n = s.2.1 → P_X3_leastWith_4 M0 (mk T) (nI (3 ^ i)) (nI i) Q := by
    intro n
    induction n with
    | zero =>
      intro i hi
      have : i = s.2.1 := by omega
      subst this
      refine T_X3_leastWith_4 ?_
      simp (disch := omega) only [n_lt, n_le, n_eq, n_lt0, n_le0, n_ge0, n_gt0, n_eq0, n_add, n_mul, n_sub, n_m1, ix_n, vin, bI_0, bI_1, nT_le, nF_le, nT_lt, nF_lt, nT_eq, nF_eq, mk_test, true_imp_iff, false_imp_iff, not_true_eq_false, not_false_eq_true, true_and, and_true, tf_, ft_, eq_self, true_or, or_true, false_or, or_false, show M0 30 3 = nI s.2.1 from H0.2.2.2.1]
      rw [show (1000000 : Int32) = nI 1000000 from by decide]
      exact k31 (3 ^ s.2.1) 0 M0 (by omega) (fun _ _ _ => rfl) 1000000 (Or.inl ⟨rfl, fun w' h => by omega⟩)
    | succ n ih =>
      intro i hi
      have := ih (i + 1) (by omega)
      rw [Nat.pow_succ] at this
      refine T_X3_leastWith_4 ?_
      simp (disch := omega) only [n_lt, n_le, n_eq, n_lt0, n_le0, n_ge0, n_gt0, n_eq0, n_add, n_mul, n_sub, n_m1, ix_n, vin, bI_0, bI_1, nT_le, nF_le, nT_lt, nF_lt, nT_eq, nF_eq, mk_test, true_imp_iff, false_imp_iff, not_true_eq_false, not_false_eq_true, true_and, and_true, tf_, ft_, eq_self, true_or, or_true, false_or, or_false, show M0 30 3 = nI s.2.1 from H0.2.2.2.1]
      exact this
  exact T_X3_leastWith (k4 s.2.1 0 (by omega))
