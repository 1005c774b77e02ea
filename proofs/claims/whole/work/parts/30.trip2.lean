/-! ===== trip: the class's call ===== -/
theorem rng_lo {x : Int32} {a b : Int} (h : x.toInt < a) : rng x a b = false := by simp only [rng, decide_eq_false_iff_not]; omega
theorem rng_hi {x : Int32} {a b : Int} (h : b < x.toInt) : rng x a b = false := by simp only [rng, decide_eq_false_iff_not]; omega
theorem rng_in {x : Int32} {a b : Int} (h1 : a ≤ x.toInt) (h2 : x.toInt ≤ b) : rng x a b = true := by simp only [rng, decide_eq_true_eq]; omega
theorem m1_int : (-1 : Int32).toInt = -1 := by decide
theorem x_trip {h : HS} (O : HO h) {M0 : Mem} (H0 : HC 1 M0 h) (F0 : TF M0 h) {co : Bool} {a t b u : Int32} {Q : Int32 → Mem → Prop}
    (K : ∀ M', (∀ c k, ¬ ((c = 95 ∧ k = 1) ∨ (96 ≤ c ∧ c ≤ 123)) → M' c k = M0 c k) → TF M' h → Q (tripO h a t b co u) M') : C_X9_trip M0 a t b (bI co) u Q := by
  have hR := O.1
  have K0 := K M0 (fun _ _ _ => rfl) F0
  unfold tripO at K0
  refine T_X9_trip (s_hasRoom H0.1 hR (br (fun q => ?_) (fun qa => s_isTick (br (fun q => ?_) (fun qt => s_hasRoom H0.1 hR (br (fun q => ?_) (fun qb => ?_)))))))
  · rw [q] at K0; exact K0
  · rw [qa, q] at K0; exact K0
  · rw [qa, qt, q] at K0; exact K0
  · refine ⟨fun q => ?_, fun q => ⟨fun q2 => ?_, fun q2 => ?_⟩⟩
    · rw [Int32.lt_iff_toInt_lt, m1_int] at q
      rw [qa, qt, qb, rng_lo q] at K0; exact K0
    · have Kf : ∀ M', (∀ c k, ¬ ((c = 95 ∧ k = 1) ∨ (96 ≤ c ∧ c ≤ 123)) → M' c k = M0 c k) → TF M' h → Q (tripA h co (ix a) (ix t) (ix b) u) M' := by
        intro M' f' t'
        have := K M' f' t'
        unfold tripO at this
        rw [Int32.not_lt, Int32.le_iff_toInt_le, m1_int] at q
        rw [Int32.le_iff_toInt_le, nI_toInt (by omega)] at q2
        rw [qa, qt, qb, rng_in q (show u.toInt ≤ 23 from q2)] at this
        exact this
      obtain ⟨a', ha', rfl⟩ := okN_t (by omega) qa
      obtain ⟨t', ht', rfl⟩ := okN_t (by omega) qt
      obtain ⟨b', hb', rfl⟩ := okN_t (by omega) qb
      simp (disch := omega) only [ix_n] at Kf
      have hle := ed_le h co a' t' b' (by omega)
      refine s_soonest O H0 F0 ha' ht' hb' (fun M1 f1 z1 T1 w1 => ?_)
      have K1 := Kf M1 f1 (Or.inr ⟨z1, T1⟩)
      unfold tripA at K1
      rw [n_eq (by omega) (by omega)]
      refine ⟨fun e1 => ?_, fun e1 => ?_⟩
      · rw [if_neg e1] at K1
        refine ⟨fun u1 => ?_, fun u1 => ?_⟩
        · have u0 : ¬ u < 0 := by
            intro h1
            rw [Int32.lt_iff_toInt_lt, Int32.toInt_zero] at h1
            rw [Int32.not_lt, Int32.le_iff_toInt_le, m1_int] at q
            have : u.toInt = (-1 : Int32).toInt := by rw [m1_int]; omega
            exact u1 (Int32.toInt_inj.mp this)
          rw [if_neg u0] at K1
          refine ⟨fun u2 => ?_, fun u2 => ⟨fun u3 => ?_, fun u3 => ?_⟩⟩
          · rw [Int32.lt_iff_toInt_lt, nI_toInt (by omega)] at u2
            rw [rng_lo u2] at K1; exact K1
          · rw [Int32.not_lt, Int32.le_iff_toInt_le, nI_toInt (by omega)] at u2
            rw [Int32.le_iff_toInt_le, nI_toInt (by omega)] at u3
            have hr := rng_in u2 u3
            obtain ⟨v, hv1, hv2, rfl⟩ := rng_t (by omega) hr
            obtain ⟨w2, w3⟩ := w1 (by omega)
            have H1 : HC 1 M1 h := H0.congr O.2.1 (fun c k q1 q2 => f1 c k (by omega))
            refine s_roomOnTrip O H1 T1 ha' hv1 hv2 (by omega) (ed_rc (by omega) ht') w2 w3 (fun M2 f2 => ?_)
            have K2 := Kf M2 (fun c k hc => by rw [f2 c k (by omega)]; exact f1 c k hc) (Or.inr ⟨by rw [f2 _ _ (by omega)]; exact z1, T1.congr (fun c k _ _ => f2 c k (by omega))⟩)
            unfold tripA at K2
            rw [if_neg e1, if_neg u0, if_pos hr, ix_n (by omega)] at K2
            exact K2
          · rw [Int32.not_le, Int32.lt_iff_toInt_lt, nI_toInt (by omega)] at u3
            rw [rng_hi u3] at K1; exact K1
        · subst u1
          rw [if_pos (by decide)] at K1; exact K1
      · rw [if_pos e1] at K1; exact K1
    · rw [Int32.not_le, Int32.lt_iff_toInt_lt, nI_toInt (by omega)] at q2
      rw [qa, qt, qb, rng_hi (show (23 : Int) < u.toInt from q2)] at K0; exact K0
/-! ===== trip: the reference's call ===== -/
def nxI (R x : Nat) : Int32 := if x < R then nI x else -4
theorem m_trip2 {h : HS} (O : HO h) {M0 : Mem} (H0 : HM M0 h) {co : Bool} {a t b e u : Nat} (ha : a < h.1) (htu : t ≤ u) (hue : u ≤ e) (he : e < 24) (hb : rc h co a t (e - t) b = true)
    (w1 : ∀ u, t ≤ u → u < e → M0 187 u = mk (rc h co a t (u - t))) (w2 : M0 187 e = mk (fun i => decide (i = b))) {Q : Int32 → Mem → Prop}
    (K : ∀ M', (∀ c k, c ≠ 187 → M' c k = M0 c k) → Q (nI (pt h co a t e b (u - t))) M') : P_X10_trip_109 M0 (nI a) (nI t) (bI co) (nI u) (nI e + (-1)) Q := by
  have hR := O.1
  have good : ∀ M : Mem, (∀ c k, c ≠ 187 → M c k = M0 c k) → HM M h := fun M f => H0.only 187 (by omega) f
  have k237 : ∀ n v (M : Mem), v + n = u → t ≤ v → (∀ c k, c ≠ 187 → M c k = M0 c k) → (∀ w, t ≤ w → w ≤ e → M 187 w = mk (gd h co a t e b (e - w))) → P_X10_trip_237 M (bI co) (nI u) (nI (pt h co a t e b (v - t))) (nI v) Q := by
    intro n
    induction n with
    | zero =>
      intro v M hv htv hf hw
      have : v = u := by omega
      subst this
      refine T_X10_trip_237 ?_
      simp (disch := omega) only [n_lt, n_le, n_eq, n_lt0, n_le0, n_ge0, n_gt0, n_eq0, n_add, n_mul, n_sub, n_m1, ix_n, vin, bI_0, bI_1, nT_le, nF_le, nT_lt, nF_lt, nT_eq, nF_eq, mk_test, true_imp_iff, false_imp_iff, not_true_eq_false, not_false_eq_true, true_and, and_true, tf_, ft_, eq_self, true_or, or_true, false_or, or_false, ]
      exact K M hf
    | succ n ih =>
      intro v M hv htv hf hw
      have H := good M hf
      have hp := pt_ok O ha (by omega) hb (v - t) (by omega)
      have hp1 := pt_ok O ha (by omega) hb (v - t + 1) (by omega)
      have hw1 := hw (v + 1) (by omega) (by omega)
      have ep : pt h co a t e b (v - t + 1) = lst (fun i => gd h co a t e b (e - (v + 1)) i && mv h co v (pt h co a t e b (v - t)) i) h.1 0 := by
        show lst _ _ _ = _
        refine lst_c (fun i _ _ => ?_)
        rw [show t + (v - t + 1) = v + 1 by omega, show t + (v - t) = v by omega]
      have k256 : ∀ n2 m, n2 = m → m ≤ h.1 → P_X10_trip_256 M (bI co) (nI u) (nI (pt h co a t e b (v - t))) (nI v) (nxI h.1 (lst (fun i => gd h co a t e b (e - (v + 1)) i && mv h co v (pt h co a t e b (v - t)) i) (h.1 - m) m)) (nI m + (-1)) Q := by
        intro n2
        induction n2 with
        | zero =>
          intro m hm hm2
          have : m = 0 := by omega
          subst this
          refine T_X10_trip_256 ?_
          rw [n_m1lt0 (by omega), Nat.sub_zero, ← ep]
          refine ⟨fun _ => ?_, fun q => absurd rfl q⟩
          rw [n_add, nxI, if_pos hp1.1, show v - t + 1 = v + 1 - t by omega]
          exact ih (v + 1) M (by omega) (by omega) hf hw
        | succ n2 ih2 =>
          intro m hm hm2
          refine T_X10_trip_256 ?_
          rw [n_m1lt0 (by omega)]
          refine ⟨fun q => by omega, fun _ => ?_⟩
          have ih2' := ih2 (m - 1) (by omega) (by omega)
          rw [show h.1 - (m - 1) = (h.1 - m) + 1 by omega] at ih2'
          simp only [lst] at ih2'
          rw [show m - 1 + 1 = m by omega] at ih2'
          simp (disch := omega) only [n_lt, n_le, n_eq, n_lt0, n_le0, n_ge0, n_gt0, n_eq0, n_add, n_mul, n_sub, n_m1, ix_n, vin, bI_0, bI_1, nT_le, nF_le, nT_lt, nF_lt, nT_eq, nF_eq, mk_test, true_imp_iff, false_imp_iff, not_true_eq_false, not_false_eq_true, true_and, and_true, tf_, ft_, eq_self, true_or, or_true, false_or, or_false, hw1]
          refine ⟨fun q => ?_, fun q => ?_⟩
          · rw [Bool.not_eq_true] at q
            rw [if_neg (by rw [q]; simp)] at ih2'
            exact ih2'
          · refine m_may O H (by omega) (by omega) (by omega) (br (fun q2 => ?_) (fun q2 => ?_))
            · rw [if_neg (by rw [q, q2]; simp)] at ih2'; exact ih2'
            · rw [if_pos (by rw [q, q2]; rfl), nxI, if_pos (by omega)] at ih2'; exact ih2'
      have := k256 h.1 h.1 rfl (Nat.le_refl _)
      rw [Nat.sub_self] at this
      rw [show nxI h.1 (lst (fun i => gd h co a t e b (e - (v + 1)) i && mv h co v (pt h co a t e b (v - t)) i) 0 h.1) = -4 from by simp [lst, nxI]] at this
      refine T_X10_trip_237 ?_
      rw [n_le (by omega) (by omega), H.1, Int32.sub_eq_add_neg]
      exact ⟨fun q => by omega, fun _ => this⟩
  have eg : ∀ v r, t ≤ v → v < e → gd h co a t e b (e - v) r = (rc h co a t (v - t) r && anyN (fun o => gd h co a t e b (e - (v + 1)) o && mv h co v r o) h.1) := by
    intro v r _ _
    rw [show e - v = (e - (v + 1)) + 1 by omega]
    show (rc h co a t (e - (e - (v + 1) + 1) - t) r && anyN (fun o => gd h co a t e b (e - (v + 1)) o && mv h co (e - (e - (v + 1) + 1)) r o) h.1) = _
    rw [show e - (e - (v + 1) + 1) = v by omega]
  have k133 : ∀ n o r v (M : Mem), o + n = h.1 → r < h.1 → t ≤ v → v < e → (∀ c k, c ≠ 187 → M c k = M0 c k) → M 187 v = mk (rc h co a t (v - t)) → M 187 (v + 1) = mk (gd h co a t e b (e - (v + 1))) → rc h co a t (v - t) r = true →
      P_X10_trip_121 M (nI a) (nI t) (bI co) (nI u) (nI v) (mk (fun x => decide (x < r + 1) && gd h co a t e b (e - v) x)) (nI (r + 1)) Q →
      P_X10_trip_133 M (nI a) (nI t) (bI co) (nI u) (nI v) (mk (fun x => (decide (x < r) && gd h co a t e b (e - v) x) || (decide (x = r) && anyN (fun o => gd h co a t e b (e - (v + 1)) o && mv h co v r o) o))) (nI r) (nI o) Q := by
    intro n
    induction n with
    | zero =>
      intro o r v M ho hr htv hve hf h1 h2 hrc K2
      have H := good M hf
      have : o = h.1 := by omega
      subst this
      refine T_X10_trip_133 ?_
      simp (disch := omega) only [n_lt, n_le, n_eq, n_lt0, n_le0, n_ge0, n_gt0, n_eq0, n_add, n_mul, n_sub, n_m1, ix_n, vin, bI_0, bI_1, nT_le, nF_le, nT_lt, nF_lt, nT_eq, nF_eq, mk_test, true_imp_iff, false_imp_iff, not_true_eq_false, not_false_eq_true, true_and, and_true, tf_, ft_, eq_self, true_or, or_true, false_or, or_false, H.1]
      rw [show (mk fun x => (decide (x < r) && gd h co a t e b (e - v) x) || (decide (x = r) && anyN (fun o => gd h co a t e b (e - (v + 1)) o && mv h co v r o) h.1)) = mk (fun x => decide (x < r + 1) && gd h co a t e b (e - v) x) from mk_ext (fun x _ => by
        by_cases e' : x = r
        · subst e'
          rw [eg v x htv hve, hrc]; simp
        · simp [e', show (x < r + 1) = (x < r) from by rw [eq_iff_iff]; omega])]
      exact K2
    | succ n ih =>
      intro o r v M ho hr htv hve hf h1 h2 hrc K2
      have H := good M hf
      have ih' := ih (o + 1) r v M (by omega) hr htv hve hf h1 h2 hrc K2
      simp only [anyN] at ih'
      refine T_X10_trip_133 ?_
      simp (disch := omega) only [n_lt, n_le, n_eq, n_lt0, n_le0, n_ge0, n_gt0, n_eq0, n_add, n_mul, n_sub, n_m1, ix_n, vin, bI_0, bI_1, nT_le, nF_le, nT_lt, nF_lt, nT_eq, nF_eq, mk_test, true_imp_iff, false_imp_iff, not_true_eq_false, not_false_eq_true, true_and, and_true, tf_, ft_, eq_self, true_or, or_true, false_or, or_false, H.1, h1, h2, hrc]
      rw [mk_0, mk_or]
      simp only [Bool.or_false]
      refine ⟨fun q => ?_, fun q => ?_⟩
      · rw [Bool.not_eq_true] at q
        simp only [q, Bool.false_and, Bool.or_false] at ih'
        exact ih'
      · simp only [q, Bool.true_and] at ih'
        refine m_may O H (by omega) (by omega) (by omega) (br (fun q2 => ?_) (fun q2 => ?_))
        · simp only [q2, Bool.or_false] at ih'
          exact ih'
        · simp only [q2, Bool.or_true, Bool.and_true] at ih'
          rw [mk_one (by omega), mk_or]
          rw [show (mk fun x => ((decide (x < r) && gd h co a t e b (e - v) x) || (decide (x = r) && anyN (fun o => gd h co a t e b (e - (v + 1)) o && mv h co v r o) o)) || decide (x = r)) = mk (fun x => (decide (x < r) && gd h co a t e b (e - v) x) || decide (x = r)) from mk_ext (fun x _ => by
            by_cases e' : x = r
            · simp [e']
            · simp [e'])]
          exact ih'
  have k121 : ∀ n r v (M : Mem), r + n = h.1 → t ≤ v → v < e → (∀ c k, c ≠ 187 → M c k = M0 c k) → M 187 v = mk (rc h co a t (v - t)) → M 187 (v + 1) = mk (gd h co a t e b (e - (v + 1))) →
      (∀ M', (∀ c k, c ≠ 187 → M' c k = M0 c k) → (∀ w, w ≠ v → M' 187 w = M 187 w) → M' 187 v = mk (gd h co a t e b (e - v)) → P_X10_trip_109 M' (nI a) (nI t) (bI co) (nI u) (nI v + (-1)) Q) → P_X10_trip_121 M (nI a) (nI t) (bI co) (nI u) (nI v) (mk (fun x => decide (x < r) && gd h co a t e b (e - v) x)) (nI r) Q := by
    intro n
    induction n with
    | zero =>
      intro r v M hr htv hve hf h1 h2 K2
      have H := good M hf
      refine T_X10_trip_121 ?_
      simp (disch := omega) only [H.1, n_le, nT_le, vin, nT_lt, ix_n, true_and, true_imp_iff, not_true_eq_false, false_imp_iff, and_true]
      refine K2 _ (fun c k hc => by rw [wr_nc _ _ _ _ hc]; exact hf c k hc) (fun w hw => wr_nk _ _ _ _ hw) ?_
      rw [wr_eq]
      refine mk_ext (fun x _ => ?_)
      cases hg : gd h co a t e b (e - v) x with
      | false => simp
      | true =>
        rw [eg v x htv hve, Bool.and_eq_true] at hg
        have := rc_lt O ha hg.1
        simp; omega
    | succ n ih =>
      intro r v M hr htv hve hf h1 h2 K2
      have H := good M hf
      have next := ih (r + 1) v M (by omega) htv hve hf h1 h2 K2
      refine T_X10_trip_121 ?_
      simp (disch := omega) only [n_lt, n_le, n_eq, n_lt0, n_le0, n_ge0, n_gt0, n_eq0, n_add, n_mul, n_sub, n_m1, ix_n, vin, bI_0, bI_1, nT_le, nF_le, nT_lt, nF_lt, nT_eq, nF_eq, mk_test, true_imp_iff, false_imp_iff, not_true_eq_false, not_false_eq_true, true_and, and_true, tf_, ft_, eq_self, true_or, or_true, false_or, or_false, H.1]
      cases hrc : rc h co a t (v - t) r with
      | false =>
        refine T_X10_trip_133 ?_
        simp (disch := omega) only [n_lt, n_le, n_eq, n_lt0, n_le0, n_ge0, n_gt0, n_eq0, n_add, n_mul, n_sub, n_m1, ix_n, vin, bI_0, bI_1, nT_le, nF_le, nT_lt, nF_lt, nT_eq, nF_eq, mk_test, true_imp_iff, false_imp_iff, not_true_eq_false, not_false_eq_true, true_and, and_true, tf_, ft_, eq_self, true_or, or_true, false_or, or_false, H.1, h1, hrc]
        rw [show (mk fun x => decide (x < r) && gd h co a t e b (e - v) x) = mk (fun x => decide (x < r + 1) && gd h co a t e b (e - v) x) from mk_ext (fun x _ => by
          by_cases e' : x = r
          · subst e'; rw [eg v x htv hve, hrc]; simp
          · simp [show (x < r + 1) = (x < r) from by rw [eq_iff_iff]; omega])]
        exact next
      | true =>
        have := k133 h.1 0 r v M (by omega) (by omega) htv hve hf h1 h2 hrc next
        simp only [anyN, Bool.and_false, Bool.or_false] at this
        exact this
  have k109 : ∀ n m (M : Mem), t + n = m → m ≤ e → (∀ c k, c ≠ 187 → M c k = M0 c k) → (∀ w, t ≤ w → w < m → M 187 w = mk (rc h co a t (w - t))) → (∀ w, m ≤ w → w ≤ e → M 187 w = mk (gd h co a t e b (e - w))) → P_X10_trip_109 M (nI a) (nI t) (bI co) (nI u) (nI m + (-1)) Q := by
    intro n
    induction n with
    | zero =>
      intro m M hm hme hf hw1 hw
      refine T_X10_trip_109 ?_
      rw [n_m1lt (by omega)]
      refine ⟨fun _ => ?_, fun q => by omega⟩
      have := k237 (u - t) t M (by omega) (Nat.le_refl _) hf (fun w q1 q2 => hw w (by omega) q2)
      rw [Nat.sub_self] at this
      exact this
    | succ n ih =>
      intro m M hm hme hf hw1 hw
      refine T_X10_trip_109 ?_
      rw [n_m1lt (by omega)]
      refine ⟨fun q => by omega, fun q => ?_⟩
      rw [n_m1 (by omega)]
      have := k121 h.1 0 (m - 1) M (by omega) (by omega) (by omega) hf (hw1 _ (by omega) (by omega)) (hw _ (by omega) (by omega)) (fun M' f' g' w' => ih (m - 1) M' (by omega) (by omega) f' (fun w q1 q2 => by rw [g' w (by omega)]; exact hw1 w q1 (by omega)) (fun w q1 q2 => by
        by_cases e' : w = m - 1
        · subst e'; exact w'
        · rw [g' w e']; exact hw w (by omega) q2))
      simp only [Nat.not_lt_zero, decide_false, Bool.false_and] at this
      rw [mk_0]
      exact this
  exact k109 (e - t) e M0 (by omega) (Nat.le_refl _) (fun _ _ _ => rfl) w1 (fun w q1 q2 => by
    have : w = e := by omega
    subst this
    rw [w2, Nat.sub_self]
    rfl)
theorem edI_neg {e : Nat} (he : e ≤ 24) : (edI e < 0) = (e = 24) := by
  unfold edI
  split
  · rw [n_lt0 (by omega)]; exact propext ⟨False.elim, fun q => by omega⟩
  · exact propext ⟨fun _ => by omega, fun _ => by decide⟩
theorem edI_pos {e : Nat} (he : e ≤ 24) : (0 ≤ edI e) = (e < 24) := by
  unfold edI
  split
  · rw [n_ge0 (by omega)]; exact propext ⟨fun _ => by omega, fun q => trivial⟩
  · exact propext ⟨fun q => absurd q (by decide), fun q => by omega⟩
theorem y_trip {h : HS} (O : HO h) {M0 : Mem} (H0 : HM M0 h) (L0 : LA M0 h) {co : Bool} {a t b u : Int32} {Q : Int32 → Mem → Prop}
    (K : ∀ M', (∀ c k, ¬ (c = 187 ∨ c = 188 ∨ (c = 182 ∧ k = 13)) → M' c k = M0 c k) → LA M' h → Q (tripO h a t b co u) M') : C_X10_trip M0 a t b (bI co) u Q := by
  have hR := O.1
  have K0 := K M0 (fun _ _ _ => rfl) L0
  unfold tripO at K0
  refine T_X10_trip (m_isRoom H0.1 hR (br (fun q => ?_) (fun qa => m_isTick (br (fun q => ?_) (fun qt => m_isRoom H0.1 hR (br (fun q => ?_) (fun qb => s_in ?_)))))))
  · rw [q] at K0; exact K0
  · rw [qa, q] at K0; exact K0
  · rw [qa, qt, q] at K0; exact K0
  · rw [in_rng u (-1) 23, show (-1 : Int64).toInt = -1 from by decide, show (23 : Int64).toInt = 23 from by decide]
    refine br' (fun q => ?_) (fun qu => ?_)
    · rw [qa, qt, qb, q] at K0; exact K0
    · have Kf : ∀ M', (∀ c k, ¬ (c = 187 ∨ c = 188 ∨ (c = 182 ∧ k = 13)) → M' c k = M0 c k) → LA M' h → Q (tripA h co (ix a) (ix t) (ix b) u) M' := by
        intro M' f' t'
        have := K M' f' t'
        unfold tripO at this
        rw [qa, qt, qb, qu] at this
        exact this
      obtain ⟨a', ha', rfl⟩ := okN_t (by omega) qa
      obtain ⟨t', ht', rfl⟩ := okN_t (by omega) qt
      obtain ⟨b', hb', rfl⟩ := okN_t (by omega) qb
      simp (disch := omega) only [ix_n] at Kf
      have hle := ed_le h co a' t' b' (by omega)
      refine m_lays O H0 L0 (fun M1 f1 z1 T1 => ?_)
      have H1 : HM M1 h := H0.congr (fun c k q => f1 c k (by omega))
      have K1 := Kf M1 f1 (Or.inr ⟨z1, T1⟩)
      refine m_endOf O T1 ha' ht' hb' ?_
      unfold tripA at K1
      refine ⟨fun u1 => ?_, fun u1 => ?_⟩
      · by_cases e1 : ed h co a' t' b' = 24
        · rw [if_pos e1] at K1
          rw [edI, if_neg (by omega)]; exact K1
        · rw [if_neg e1, if_pos u1] at K1
          rw [edI, if_pos (by omega)]; exact K1
      · rw [edI_pos hle.2]
        refine ⟨fun e1 => s_in ?_, fun e1 => ?_⟩
        · rw [edI, if_pos e1, in_rng, show (nI t').toInt64.toInt = t' from by rw [Int32.toInt_toInt64, nI_toInt (by omega)], show (nI (ed h co a' t' b')).toInt64.toInt = ed h co a' t' b' from by rw [Int32.toInt_toInt64, nI_toInt (by omega)]]
          rw [if_neg (by omega), if_neg u1] at K1
          refine br' (fun q => ?_) (fun q => ?_)
          · rw [q] at K1; exact K1
          · obtain ⟨v, hv1, hv2, rfl⟩ := rng_t (by omega) q
            refine m_reaches O H1 ha' ht' (fun M2 f2 w2 => ?_)
            have H2 : HM M2 h := H1.only 187 (by omega) f2
            simp (disch := omega) only [vin, nT_lt, true_and, ix_n, mk_one]
            rw [Int32.sub_eq_add_neg]
            refine m_trip2 O (H2.only 187 (by omega) (fun c k hc => wr_nc _ _ _ _ hc)) ha' hv1 hv2 e1 (ed_rc e1 ht') (fun w q1 q2 => by rw [wr_nk _ _ _ _ (by omega)]; exact w2 w q1 (by omega)) (wr_eq _ _ _ _) (fun M3 f3 => ?_)
            have K2 := Kf M3 (fun c k hc => by rw [f3 c k (by omega), wr_nc _ _ _ _ (by omega), f2 c k (by omega)]; exact f1 c k hc) (Or.inr ⟨by rw [f3 _ _ (by omega), wr_nc _ _ _ _ (by omega), f2 _ _ (by omega)]; exact z1, T1.congr (fun k => by rw [f3 _ _ (by omega), wr_nc _ _ _ _ (by omega), f2 _ _ (by omega)])⟩)
            unfold tripA at K2
            rw [if_neg (by omega), if_neg u1, if_pos q, ix_n (by omega)] at K2
            exact K2
        · rw [if_pos (by omega)] at K1
          rw [edI, if_neg e1]
          exact K1
