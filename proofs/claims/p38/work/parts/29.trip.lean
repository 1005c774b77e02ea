/-! ===== the rooms of a trip ===== -/
def gd (h : HS) (co : Bool) (a t e b : Nat) : Nat → Nat → Bool
  | 0 => fun x => decide (x = b)
  | i + 1 => fun x => rc h co a t (e - (i + 1) - t) x && anyN (fun o => gd h co a t e b i o && mv h co (e - (i + 1)) x o) h.1
def pt (h : HS) (co : Bool) (a t e b : Nat) : Nat → Nat
  | 0 => a
  | j + 1 => lst (fun o => gd h co a t e b (e - (t + (j + 1))) o && mv h co (t + j) (pt h co a t e b j) o) h.1 0
theorem ed_rc {h : HS} {co : Bool} {a t b : Nat} (he : ed h co a t b < 24) (ht : t < 24) : rc h co a t (ed h co a t b - t) b = true := by
  have := lst_is (fun u => rc h co a t (u - t) b) (24 - t) t (by unfold ed at he; omega)
  exact this
theorem gd_some {h : HS} (O : HO h) {co : Bool} {a t e b : Nat} (ha : a < h.1) (hte : t ≤ e) (hb : rc h co a t (e - t) b = true) : ∀ i, i ≤ e - t → ∃ x, gd h co a t e b i x = true ∧ rc h co a t (e - i - t) x = true := by
  intro i
  induction i with
  | zero => intro _; exact ⟨b, by simp [gd], by rw [Nat.sub_zero]; exact hb⟩
  | succ i ih =>
    intro hi
    obtain ⟨x, h1, h2⟩ := ih (by omega)
    have hx := rc_lt O ha h2
    rw [show e - i - t = (e - (i + 1) - t) + 1 by omega] at h2
    obtain ⟨y, hy, h3⟩ := anyN_iff.mp (show anyN _ _ = true from h2)
    rw [Bool.and_eq_true, show t + (e - (i + 1) - t) = e - (i + 1) by omega] at h3
    refine ⟨y, ?_, h3.1⟩
    show (rc h co a t (e - (i + 1) - t) y && anyN (fun o => gd h co a t e b i o && mv h co (e - (i + 1)) y o) h.1) = true
    rw [h3.1, Bool.true_and, anyN_iff]
    exact ⟨x, hx, by rw [h1, h3.2]; rfl⟩
theorem pt_ok {h : HS} (O : HO h) {co : Bool} {a t e b : Nat} (ha : a < h.1) (hte : t ≤ e) (hb : rc h co a t (e - t) b = true) : ∀ j, j ≤ e - t → pt h co a t e b j < h.1 ∧ gd h co a t e b (e - (t + j)) (pt h co a t e b j) = true := by
  intro j
  induction j with
  | zero =>
    intro _
    obtain ⟨x, h1, h2⟩ := gd_some O ha hte hb (e - t) (Nat.le_refl _)
    rw [show e - (e - t) - t = 0 by omega] at h2
    have : x = a := by
      simp [rc] at h2; exact h2.1
    subst this
    exact ⟨ha, h1⟩
  | succ j ih =>
    intro hj
    obtain ⟨h1, h2⟩ := ih (by omega)
    rw [show e - (t + j) = (e - (t + (j + 1))) + 1 by omega] at h2
    have h3 : anyN _ _ = true := (Bool.and_eq_true _ _ ▸ h2 : _ ∧ _).2
    obtain ⟨o, ho, h4⟩ := anyN_iff.mp h3
    rw [show e - (e - (t + (j + 1)) + 1) = t + j by omega] at h4
    have hl : lst (fun o => gd h co a t e b (e - (t + (j + 1))) o && mv h co (t + j) (pt h co a t e b j) o) h.1 0 < h.1 := by
      apply Classical.byContradiction
      intro q
      have := lst_no (fun o => gd h co a t e b (e - (t + (j + 1))) o && mv h co (t + j) (pt h co a t e b j) o) h.1 0 o (by omega) (by omega)
      rw [h4] at this; cases this
    have := lst_is (fun o => gd h co a t e b (e - (t + (j + 1))) o && mv h co (t + j) (pt h co a t e b j) o) h.1 0 (by omega)
    simp only [Bool.and_eq_true] at this
    exact ⟨hl, this.1⟩
def tripA (h : HS) (co : Bool) (a t b : Nat) (u : Int32) : Int32 := if ed h co a t b = 24 then -4 else if u < 0 then nI (ed h co a t b) else if rng u t (ed h co a t b) then nI (pt h co a t (ed h co a t b) b (ix u - t)) else -4
def tripO (h : HS) (a t b : Int32) (co : Bool) (u : Int32) : Int32 := if okN a h.1 && (okN t 24 && (okN b h.1 && rng u (-1) 23)) then tripA h co (ix a) (ix t) (ix b) u else -1
/-! ===== the class's ===== -/
theorem s_soonest {h : HS} (O : HO h) {M0 : Mem} (H0 : HC 1 M0 h) (F0 : TF M0 h) {co : Bool} {a t b : Nat} (ha : a < h.1) (ht : t < 24) (hb : b < h.1) {Q : Int32 → Mem → Prop}
    (K : ∀ M', (∀ c k, ¬ ((c = 95 ∧ k = 1) ∨ (96 ≤ c ∧ c ≤ 123)) → M' c k = M0 c k) → M' 95 1 = nI 1 → TT M' h → (ed h co a t b < 24 → (∀ u, t ≤ u → u ≤ ed h co a t b → M' 122 u = mk (rc h co a t (u - t))) ∧ M' 123 (ed h co a t b) = mk (fun i => decide (i = b))) → Q (nI (ed h co a t b)) M') : C_X8_soonest M0 (nI a) (nI t) (nI b) (bI co) Q := by
  have hR := O.1
  refine T_X8_soonest (s_prepareT O H0 F0 (fun M1 f1 z1 T1 => ?_))
  refine s_mayBegin T1 (by omega) ht (br' (fun q => ?_) (fun q => ?_))
  · have hno : ∀ j x, rc h co a t j x = false := by
      intro j
      induction j with
      | zero => intro x; simp only [rc, q, Bool.and_false]
      | succ j ih =>
        intro x
        show anyN _ _ = false
        rw [anyN_f]
        intro i _
        rw [ih, Bool.false_and]
    have e : ed h co a t b = 24 := by
      unfold ed
      rw [lst_none (fun v _ _ => hno _ _)]
      omega
    have := K M1 (fun c k hc => f1 c k (by omega)) z1 T1 (fun q => by omega)
    rw [e] at this
    exact this
  · have key : ∀ n u (M : Mem), u + n = 24 → t ≤ u → (∀ v, t ≤ v → v < u → rc h co a t (v - t) b = false) → (∀ c k, ¬ ((c = 95 ∧ k = 1) ∨ (96 ≤ c ∧ c ≤ 122)) → M c k = M0 c k) → M 95 1 = nI 1 → TT M h → (u < 24 → ∀ v, t ≤ v → v ≤ u → M 122 v = mk (rc h co a t (v - t))) → P_X8_soonest_30 M (nI b) (bI co) (nI u) Q := by
      intro n
      induction n with
      | zero =>
        intro u M hu htu hno hf hz hT hw
        refine T_X8_soonest_30 ?_
        simp (disch := omega) only [n_lt, n_le, n_eq, n_lt0, n_le0, n_ge0, n_gt0, n_eq0, n_add, n_mul, n_sub, n_m1, ix_n, vin, bI_0, bI_1, nT_le, nF_le, nT_lt, nF_lt, nT_eq, nF_eq, mk_test, true_imp_iff, false_imp_iff, not_true_eq_false, not_false_eq_true, true_and, and_true, tf_, ft_, eq_self, true_or, or_true, false_or, or_false, ]
        have e : ed h co a t b = 24 := by
          unfold ed
          rw [lst_none (fun v h1 h2 => hno v h1 (by omega))]
          omega
        have := K M (fun c k hc => hf c k (by omega)) hz hT (fun q => by omega)
        rw [e] at this
        exact this
      | succ n ih =>
        intro u M hu htu hno hf hz hT hw
        have H : HC 1 M h := H0.congr O.2.1 (fun c k q1 q2 => hf c k (by omega))
        have e1 := hw (by omega) u htu (Nat.le_refl _)
        refine T_X8_soonest_30 ?_
        simp (disch := omega) only [n_lt, n_le, n_eq, n_lt0, n_le0, n_ge0, n_gt0, n_eq0, n_add, n_mul, n_sub, n_m1, ix_n, vin, bI_0, bI_1, nT_le, nF_le, nT_lt, nF_lt, nT_eq, nF_eq, mk_test, true_imp_iff, false_imp_iff, not_true_eq_false, not_false_eq_true, true_and, and_true, tf_, ft_, eq_self, true_or, or_true, false_or, or_false, e1, mk_one]
        refine ⟨fun q => ⟨fun q2 => ?_, fun q2 => ?_⟩, fun q => ?_⟩
        · exact ih (u + 1) M (by omega) (by omega) (fun v h1 h2 => by
            by_cases e : v = u
            · subst e; exact q
            · exact hno v h1 (by omega)) hf hz hT (fun q3 => by omega)
        · refine s_onward O H hT (by omega) ⟨by omega, ?_⟩
          refine ih (u + 1) _ (by omega) (by omega) (fun v h1 h2 => ?_) (fun c k hc => by rw [wr_nc _ _ _ _ (by omega)]; exact hf c k hc) (by rw [wr_nc _ _ _ _ (by omega)]; exact hz) (hT.congr (fun c k _ _ => wr_nc _ _ _ _ (by omega))) (fun _ v h1 h2 => ?_)
          · by_cases e : v = u
            · subst e; exact q
            · exact hno v h1 (by omega)
          · by_cases e : v = u + 1
            · subst e
              rw [wr_eq, show u + 1 - t = (u - t) + 1 by omega]
              show mk _ = mk (sp h co (t + (u - t)) _)
              rw [show t + (u - t) = u by omega]
            · rw [wr_nk _ _ _ _ e]; exact hw (by omega) v h1 (by omega)
        · rw [Bool.not_eq_false] at q
          have e : ed h co a t b = u := lst_eq htu (by omega) q hno
          have := K (wr M 123 u (mk (fun i => decide (i = b)))) (fun c k hc => by rw [wr_nc _ _ _ _ (by omega)]; exact hf c k (by omega)) (by rw [wr_nc _ _ _ _ (by omega)]; exact hz) (hT.congr (fun c k _ _ => wr_nc _ _ _ _ (by omega))) (fun _ => ⟨fun v h1 h2 => by rw [wr_nc _ _ _ _ (by omega)]; exact hw (by omega) v h1 (by omega), by rw [e]; exact wr_eq _ _ _ _⟩)
          rw [e] at this
          exact this
    rw [vin (by omega), ix_n (by omega), mk_one (by omega)]
    refine ⟨ht, key (24 - t) t _ (by omega) (Nat.le_refl _) (fun v h1 h2 => by omega) (fun c k hc => by rw [wr_nc _ _ _ _ (by omega)]; exact f1 c k (by omega)) (by rw [wr_nc _ _ _ _ (by omega)]; exact z1) (T1.congr (fun c k _ _ => wr_nc _ _ _ _ (by omega))) (fun _ v h1 h2 => ?_)⟩
    have : v = t := by omega
    subst this
    rw [wr_eq, Nat.sub_self]
    simp only [Bool.not_eq_true'] at q
    exact mk_ext (fun i _ => by simp [rc, q])
theorem s_lowest {M : Mem} {P : Nat → Bool} {Q : Int32 → Mem → Prop} (hs : lst P 10 0 < 10) (k : Q (nI (lst P 10 0)) M) : C_X8_lowest M (mk P) Q := by
  obtain ⟨L, hL⟩ : ∃ L, L = lst P 10 0 := ⟨_, rfl⟩
  rw [← hL] at hs k
  have key : ∀ n i, i + n = 10 → lst P n i = L → P_X8_lowest_2 M (mk P) (nI i) Q := by
    intro n
    induction n with
    | zero =>
      intro i hi he
      have : i = L := he
      omega
    | succ n ih =>
      intro i hi he
      refine T_X8_lowest_2 ?_
      simp only [lst] at he
      simp (disch := omega) only [n_lt, n_le, n_eq, n_lt0, n_le0, n_ge0, n_gt0, n_eq0, n_add, n_mul, n_sub, n_m1, ix_n, vin, bI_0, bI_1, nT_le, nF_le, nT_lt, nF_lt, nT_eq, nF_eq, mk_test, true_imp_iff, false_imp_iff, not_true_eq_false, not_false_eq_true, true_and, and_true, tf_, ft_, eq_self, true_or, or_true, false_or, or_false, ]
      refine ⟨fun q => ih (i + 1) (by omega) (by rw [if_neg (by rw [q]; decide)] at he; exact he), fun q => ?_⟩
      rw [Bool.not_eq_false] at q
      rw [if_pos q] at he
      rw [← he] at k
      exact k
  exact T_X8_lowest (key 10 0 rfl hL.symm)
theorem lst_cut {P : Nat → Bool} {n m : Nat} (hn : n ≤ m) (hs : lst P n 0 < n) : lst P m 0 = lst P n 0 := lst_eq (by omega) (by omega) (lst_is P n 0 (by omega)) (fun v _ h2 => lst_no P n 0 v (by omega) h2)
theorem s_roomOnTrip {h : HS} (O : HO h) {M0 : Mem} (H0 : HC 1 M0 h) (T0 : TT M0 h) {co : Bool} {a t b e u : Nat} (ha : a < h.1) (htu : t ≤ u) (hue : u ≤ e) (he : e < 24) (hb : rc h co a t (e - t) b = true)
    (w1 : ∀ u, t ≤ u → u ≤ e → M0 122 u = mk (rc h co a t (u - t))) (w2 : M0 123 e = mk (fun i => decide (i = b))) {Q : Int32 → Mem → Prop}
    (K : ∀ M', (∀ c k, c ≠ 123 → M' c k = M0 c k) → Q (nI (pt h co a t e b (u - t))) M') : C_X8_roomOnTrip M0 (nI a) (nI t) (nI e) (bI co) (nI u) Q := by
  have hR := O.1
  have good : ∀ M : Mem, (∀ c k, c ≠ 123 → M c k = M0 c k) → HC 1 M h ∧ TT M h := fun M f => ⟨H0.congr O.2.1 (fun c k q1 q2 => f c k (by omega)), T0.congr (fun c k q1 q2 => f c k (by omega))⟩
  have k104 : ∀ n v (M : Mem), v + n = u → t ≤ v → (∀ c k, c ≠ 123 → M c k = M0 c k) → (∀ w, t ≤ w → w ≤ e → M 123 w = mk (gd h co a t e b (e - w))) → P_X8_roomOnTrip_104 M (bI co) (nI u) (nI (pt h co a t e b (v - t))) (nI v) Q := by
    intro n
    induction n with
    | zero =>
      intro v M hv htv hf hw
      have : v = u := by omega
      subst this
      refine T_X8_roomOnTrip_104 ?_
      simp (disch := omega) only [n_lt, n_le, n_eq, n_lt0, n_le0, n_ge0, n_gt0, n_eq0, n_add, n_mul, n_sub, n_m1, ix_n, vin, bI_0, bI_1, nT_le, nF_le, nT_lt, nF_lt, nT_eq, nF_eq, mk_test, true_imp_iff, false_imp_iff, not_true_eq_false, not_false_eq_true, true_and, and_true, tf_, ft_, eq_self, true_or, or_true, false_or, or_false, ]
      exact K M hf
    | succ n ih =>
      intro v M hv htv hf hw
      obtain ⟨H, T⟩ := good M hf
      have hp := pt_ok O ha (by omega) hb (v - t) (by omega)
      have hp1 := pt_ok O ha (by omega) hb (v - t + 1) (by omega)
      have hw1 := hw (v + 1) (by omega) (by omega)
      refine T_X8_roomOnTrip_104 ?_
      simp (disch := omega) only [n_lt, n_le, n_eq, n_lt0, n_le0, n_ge0, n_gt0, n_eq0, n_add, n_mul, n_sub, n_m1, ix_n, vin, bI_0, bI_1, nT_le, nF_le, nT_lt, nF_lt, nT_eq, nF_eq, mk_test, true_imp_iff, false_imp_iff, not_true_eq_false, not_false_eq_true, true_and, and_true, tf_, ft_, eq_self, true_or, or_true, false_or, or_false, ]
      refine s_step O H T hp.1 (by omega) ?_
      rw [hw1, mk_and]
      have ep : pt h co a t e b (v - t + 1) = lst (fun i => mv h co v (pt h co a t e b (v - t)) i && gd h co a t e b (e - (v + 1)) i) 10 0 := by
        have q0 : pt h co a t e b (v - t + 1) = lst (fun i => mv h co v (pt h co a t e b (v - t)) i && gd h co a t e b (e - (v + 1)) i) h.1 0 := by
          show lst _ _ _ = _
          refine lst_c (fun i _ _ => ?_)
          rw [show t + (v - t + 1) = v + 1 by omega, show t + (v - t) = v by omega, Bool.and_comm]
        rw [lst_cut hR (by rw [← q0]; exact hp1.1), q0]
      refine s_lowest (by rw [← ep]; omega) ?_
      rw [← ep, show v - t + 1 = v + 1 - t by omega]
      exact ih (v + 1) M (by omega) (by omega) hf hw
  have k22 : ∀ n r v (M : Mem), r + n = h.1 → t ≤ v → v < e → (∀ c k, c ≠ 123 → M c k = M0 c k) → M 123 v = mk (fun x => decide (x < r) && gd h co a t e b (e - v) x) → (∀ w, v < w → w ≤ e → M 123 w = mk (gd h co a t e b (e - w))) →
      (∀ M', (∀ c k, c ≠ 123 → M' c k = M0 c k) → (∀ w, v ≤ w → w ≤ e → M' 123 w = mk (gd h co a t e b (e - w))) → P_X8_roomOnTrip_5 M' (nI a) (nI t) (bI co) (nI u) (nI v + (-1)) Q) → P_X8_roomOnTrip_22 M (nI a) (nI t) (bI co) (nI u) (nI v) (nI r) Q := by
    intro n
    induction n with
    | zero =>
      intro r v M hr htv hve hf h1 h2 K2
      obtain ⟨H, T⟩ := good M hf
      refine T_X8_roomOnTrip_22 ?_
      simp (disch := omega) only [H.1, n_le, nT_le, true_imp_iff, not_true_eq_false, false_imp_iff, and_true]
      refine K2 M hf (fun w q1 q2 => ?_)
      by_cases e' : w = v
      · subst e'
        rw [h1]
        refine mk_ext (fun x _ => ?_)
        cases hg : gd h co a t e b (e - w) x with
        | false => simp
        | true =>
          rw [show e - w = (e - w - 1) + 1 by omega] at hg
          have : rc h co a t _ x = true := (Bool.and_eq_true _ _ ▸ hg : _ ∧ _).1
          have := rc_lt O ha this
          simp; omega
      · exact h2 w (by omega) q2
    | succ n ih =>
      intro r v M hr htv hve hf h1 h2 K2
      obtain ⟨H, T⟩ := good M hf
      have e1 : M 122 v = mk (rc h co a t (v - t)) := by rw [hf _ _ (by omega)]; exact w1 v htv (by omega)
      have e2 := h2 (v + 1) (by omega) (by omega)
      have eg : gd h co a t e b (e - v) r = (rc h co a t (v - t) r && anyN (fun o => gd h co a t e b (e - (v + 1)) o && mv h co v r o) h.1) := by
        rw [show e - v = (e - (v + 1)) + 1 by omega]
        show (rc h co a t (e - (e - (v + 1) + 1) - t) r && anyN (fun o => gd h co a t e b (e - (v + 1)) o && mv h co (e - (e - (v + 1) + 1)) r o) h.1) = _
        rw [show e - (e - (v + 1) + 1) = v by omega]
      have step : ∀ M' : Mem, (∀ c k, c ≠ 123 → M' c k = M0 c k) → M' 123 v = mk (fun x => decide (x < r + 1) && gd h co a t e b (e - v) x) → (∀ w, w ≠ v → M' 123 w = M 123 w) → P_X8_roomOnTrip_22 M' (nI a) (nI t) (bI co) (nI u) (nI v) (nI (r + 1)) Q := fun M' q1 q2 q3 => ih (r + 1) v M' (by omega) htv hve q1 q2 (fun w q4 q5 => by rw [q3 w (by omega)]; exact h2 w q4 q5) K2
      have no : gd h co a t e b (e - v) r = false → mk (fun x => decide (x < r) && gd h co a t e b (e - v) x) = mk (fun x => decide (x < r + 1) && gd h co a t e b (e - v) x) := fun q => mk_ext (fun x _ => by
        by_cases e' : x = r
        · subst e'; simp [q]
        · simp [show (x < r + 1) = (x < r) from by rw [eq_iff_iff]; omega])
      refine T_X8_roomOnTrip_22 ?_
      simp (disch := omega) only [n_lt, n_le, n_eq, n_lt0, n_le0, n_ge0, n_gt0, n_eq0, n_add, n_mul, n_sub, n_m1, ix_n, vin, bI_0, bI_1, nT_le, nF_le, nT_lt, nF_lt, nT_eq, nF_eq, mk_test, true_imp_iff, false_imp_iff, not_true_eq_false, not_false_eq_true, true_and, and_true, tf_, ft_, eq_self, true_or, or_true, false_or, or_false, H.1, e1]
      refine ⟨fun q => step M hf (by rw [h1]; exact no (by rw [eg, q]; rfl)) (fun _ _ => rfl), fun q => ?_⟩
      rw [Bool.not_eq_false] at q
      refine s_step O H T (by omega) (by omega) ?_
      rw [e2, mk_and, mk_eq0, h1, mk_one (by omega), mk_or]
      refine ⟨fun q2 => step M hf (by
        rw [h1]
        refine no ?_
        rw [eg, q, Bool.true_and, anyN_f]
        intro i hi
        rw [Bool.and_comm]
        exact q2 i (by omega)) (fun _ _ => rfl), fun q2 => step _ (fun c k hc => by rw [wr_nc _ _ _ _ hc]; exact hf c k hc) ?_ (fun w hw => wr_nk _ _ _ _ hw)⟩
      rw [wr_eq]
      have yes : gd h co a t e b (e - v) r = true := by
        rw [eg, q, Bool.true_and]
        apply Classical.byContradiction
        intro q3
        rw [Bool.not_eq_true, anyN_f] at q3
        apply q2
        intro i _
        cases hm : mv h co v r i with
        | false => rfl
        | true =>
          have := q3 i (mv_lt O (by omega) hm)
          rw [hm, Bool.and_true] at this
          rw [this]; rfl
      refine mk_ext (fun x _ => ?_)
      by_cases e' : x = r
      · subst e'; simp [yes]
      · simp [e', show (x < r + 1) = (x < r) from by rw [eq_iff_iff]; omega]
  have k5 : ∀ n m (M : Mem), t + n = m → m ≤ e → (∀ c k, c ≠ 123 → M c k = M0 c k) → (∀ w, m ≤ w → w ≤ e → M 123 w = mk (gd h co a t e b (e - w))) → P_X8_roomOnTrip_5 M (nI a) (nI t) (bI co) (nI u) (nI m + (-1)) Q := by
    intro n
    induction n with
    | zero =>
      intro m M hm hme hf hw
      refine T_X8_roomOnTrip_5 ?_
      rw [n_m1lt (by omega)]
      refine ⟨fun _ => ?_, fun q => by omega⟩
      have := k104 (u - t) t M (by omega) (Nat.le_refl _) hf (fun w q1 q2 => hw w (by omega) q2)
      rw [Nat.sub_self] at this
      exact this
    | succ n ih =>
      intro m M hm hme hf hw
      refine T_X8_roomOnTrip_5 ?_
      rw [n_m1lt (by omega)]
      refine ⟨fun q => by omega, fun q => ?_⟩
      simp (disch := omega) only [n_m1, ix_n, vin, nT_lt, true_and]
      refine k22 h.1 0 (m - 1) _ (by omega) (by omega) (by omega) (fun c k hc => by rw [wr_nc _ _ _ _ hc]; exact hf c k hc) (by rw [wr_eq, mk_0]; exact mk_ext (fun x _ => by simp)) (fun w q1 q2 => by rw [wr_nk _ _ _ _ (by omega)]; exact hw w (by omega) q2) (fun M' f' w' => ?_)
      exact ih (m - 1) M' (by omega) (by omega) f' w'
  refine T_X8_roomOnTrip ?_
  rw [Int32.sub_eq_add_neg]
  exact k5 (e - t) e M0 (by omega) (Nat.le_refl _) (fun _ _ _ => rfl) (fun w q1 q2 => by
    have : w = e := by omega
    subst this
    rw [w2, Nat.sub_self]
    rfl)
