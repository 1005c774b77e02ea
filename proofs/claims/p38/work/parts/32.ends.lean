/-! ===== the class's table of ends from the cellar ===== -/
theorem ed_lst (h : HS) (co : Bool) (a t b : Nat) : ed h co a t b = lst (fun u => rc h co a t (u - t) b) (24 - t) t := rfl
theorem s_fillEnds {h : HS} {s : SS} (O : HO h) {M0 : Mem} (H0 : HC 1 M0 h) (T0 : TT M0 h) (e2 : M0 30 2 = nI s.2.2.1) (hc : s.2.2.1 < h.1) {t : Nat} (ht : t < 24) {Q : Mem → Prop}
    (K : ∀ M', (∀ c k, c ≠ 136 + t → M' c k = M0 c k) → (∀ b, b < h.1 → M' (136 + t) b = nI (ed h true s.2.2.1 t b)) → Q M') : C_X3_fillEnds M0 (nI t) Q := by
  have hR := O.1
  have hcell : IA (136 + t) 10 := by
    have := ra_135.row (i := nI t) ((vin (by omega)).mpr (by omega))
    rw [ix_n (by omega)] at this; exact this
  have good : ∀ M : Mem, (∀ c k, c ≠ 136 + t → M c k = M0 c k) → HC 1 M h ∧ TT M h := fun M f => ⟨H0.congr O.2.1 (fun c k q1 q2 => f c k (by omega)), T0.congr (fun c k q1 q2 => f c k (by omega))⟩
  have k52 : ∀ n u (M : Mem) (S : Nat → Bool), u + n = 24 → t ≤ u → (∀ c k, c ≠ 136 + t → M c k = M0 c k) → (u < 24 → ∀ b, S b = rc h true s.2.2.1 t (u - t) b) →
      (∀ b, b < h.1 → M (136 + t) b = nI (if lst (fun v => rc h true s.2.2.1 t (v - t) b) (u - t) t < u then lst (fun v => rc h true s.2.2.1 t (v - t) b) (u - t) t else 24)) →
      P_X3_fillEnds_52 M (136 + t) (mk (fun i => anyN (fun j => rc h true s.2.2.1 t j i) (u - t))) (mk S) (nI u) Q := by
    intro n
    induction n with
    | zero =>
      intro u M S hu htu hf hS hw
      have : u = 24 := by omega
      subst this
      refine T_X3_fillEnds_52 hcell ?_
      simp (disch := omega) only [n_lt, n_le, n_eq, n_lt0, n_le0, n_ge0, n_gt0, n_eq0, n_add, n_mul, n_sub, n_m1, ix_n, vin, bI_0, bI_1, nT_le, nF_le, nT_lt, nF_lt, nT_eq, nF_eq, mk_test, true_imp_iff, false_imp_iff, not_true_eq_false, not_false_eq_true, true_and, and_true, tf_, ft_, eq_self, true_or, or_true, false_or, or_false, ]
      refine K M hf (fun b hb => ?_)
      rw [hw b hb, ed_lst]
      have := lst_le (fun v => rc h true s.2.2.1 t (v - t) b) (24 - t) t
      congr 1
      split <;> omega
    | succ n ih =>
      intro u M S hu htu hf hS hw
      have hS := hS (by omega)
      refine T_X3_fillEnds_52 hcell ?_
      simp (disch := omega) only [n_lt, n_le, n_eq, n_lt0, n_le0, n_ge0, n_gt0, n_eq0, n_add, n_mul, n_sub, n_m1, ix_n, vin, bI_0, bI_1, nT_le, nF_le, nT_lt, nF_lt, nT_eq, nF_eq, mk_test, true_imp_iff, false_imp_iff, not_true_eq_false, not_false_eq_true, true_and, and_true, tf_, ft_, eq_self, true_or, or_true, false_or, or_false, mk_eq0]
      refine ⟨fun q => ?_, fun q => ?_⟩
      · refine K M hf (fun b hb => ?_)
        rw [hw b hb, ed_lst]
        have l1 := lst_le (fun v => rc h true s.2.2.1 t (v - t) b) (u - t) t
        have none : ∀ j x, u - t ≤ j → rc h true s.2.2.1 t j x = false := by
          intro j
          induction j with
          | zero =>
            intro x hj
            cases hv : rc h true s.2.2.1 t 0 x with
            | false => rfl
            | true =>
              have := rc_lt O hc hv
              have := q x (by omega)
              rw [hS, show u - t = 0 by omega, hv] at this; exact this
          | succ j ihj =>
            intro x hj
            by_cases e : u - t = j + 1
            · cases hv : rc h true s.2.2.1 t (j + 1) x with
              | false => rfl
              | true =>
                have := rc_lt O hc hv
                have := q x (by omega)
                rw [hS, e, hv] at this; exact this
            · show anyN _ _ = false
              rw [anyN_f]
              intro i _
              rw [ihj i (by omega), Bool.false_and]
        congr 1
        by_cases hl : lst (fun v => rc h true s.2.2.1 t (v - t) b) (u - t) t < u
        · rw [if_pos hl]
          exact (lst_eq (p := fun v => rc h true s.2.2.1 t (v - t) b) (n := 24 - t) (t := t) (u := lst (fun v => rc h true s.2.2.1 t (v - t) b) (u - t) t) (by omega) (by omega) (lst_is (fun v => rc h true s.2.2.1 t (v - t) b) (u - t) t (by omega)) (fun v h1 h2 => lst_no (fun v => rc h true s.2.2.1 t (v - t) b) (u - t) t v h1 h2)).symm
        · rw [if_neg hl, lst_none]
          · omega
          · intro v h1 h2
            by_cases e : v < u
            · exact lst_no (fun v => rc h true s.2.2.1 t (v - t) b) (u - t) t v h1 (by omega)
            · exact none _ _ (by omega)
      · have k75 : ∀ n2 r (M2 : Mem), r + n2 = h.1 → (∀ c k, c ≠ 136 + t → M2 c k = M0 c k) → (∀ b, b < h.1 → M2 (136 + t) b = nI (if lst (fun v => rc h true s.2.2.1 t (v - t) b) (u - t) t < u then lst (fun v => rc h true s.2.2.1 t (v - t) b) (u - t) t else if b < r ∧ rc h true s.2.2.1 t (u - t) b = true then u else 24)) →
            P_X3_fillEnds_75 M2 (136 + t) (mk (fun i => anyN (fun j => rc h true s.2.2.1 t j i) (u - t))) (mk S) (nI u) (mk (fun i => S i && !anyN (fun j => rc h true s.2.2.1 t j i) (u - t))) (nI r) Q := by
          intro n2
          have sn : (fun i => anyN (fun j => rc h true s.2.2.1 t j i) (u - t) || S i) = (fun i => anyN (fun j => rc h true s.2.2.1 t j i) (u + 1 - t)) := by
            funext i
            rw [show u + 1 - t = (u - t) + 1 by omega, hS]
            rfl
          have leave : ∀ (M2 : Mem), (∀ c k, c ≠ 136 + t → M2 c k = M0 c k) → (∀ b, b < h.1 → M2 (136 + t) b = nI (if lst (fun v => rc h true s.2.2.1 t (v - t) b) (u - t) t < u then lst (fun v => rc h true s.2.2.1 t (v - t) b) (u - t) t else if rc h true s.2.2.1 t (u - t) b = true then u else 24)) →
              (((nI 23) ≤ nI u) → (P_X3_fillEnds_52 M2 (136 + t) (mk (fun i => anyN (fun j => rc h true s.2.2.1 t j i) (u - t)) ||| mk S) (nI 0) (nI u + (nI 1)) Q)) ∧ ((¬ (nI 23) ≤ nI u) → (C_X8_onward M2 (mk S) (nI u) (nI 1) (fun r2 M3 => P_X3_fillEnds_52 M3 (136 + t) (mk (fun i => anyN (fun j => rc h true s.2.2.1 t j i) (u - t)) ||| mk S) r2 (nI u + (nI 1)) Q))) := by
            intro M2 f2 w2
            obtain ⟨H2, T2⟩ := good M2 f2
            have w3 : ∀ b, b < h.1 → M2 (136 + t) b = nI (if lst (fun v => rc h true s.2.2.1 t (v - t) b) (u + 1 - t) t < u + 1 then lst (fun v => rc h true s.2.2.1 t (v - t) b) (u + 1 - t) t else 24) := by
              intro b hb
              rw [w2 b hb]
              congr 1
              have l1 := lst_le (fun v => rc h true s.2.2.1 t (v - t) b) (u - t) t
              by_cases hl : lst (fun v => rc h true s.2.2.1 t (v - t) b) (u - t) t < u
              · rw [if_pos hl]
                have e := lst_eq (p := fun v => rc h true s.2.2.1 t (v - t) b) (n := u + 1 - t) (t := t) (u := lst (fun v => rc h true s.2.2.1 t (v - t) b) (u - t) t) (by omega) (by omega) (lst_is (fun v => rc h true s.2.2.1 t (v - t) b) (u - t) t (by omega)) (fun v h1 h2 => lst_no (fun v => rc h true s.2.2.1 t (v - t) b) (u - t) t v h1 h2)
                rw [e, if_pos (by omega)]
              · rw [if_neg hl]
                have no : ∀ v, t ≤ v → v < u → rc h true s.2.2.1 t (v - t) b = false := fun v h1 h2 => lst_no (fun v => rc h true s.2.2.1 t (v - t) b) (u - t) t v h1 (by omega)
                by_cases hr : rc h true s.2.2.1 t (u - t) b = true
                · rw [if_pos hr]
                  have e := lst_eq (p := fun v => rc h true s.2.2.1 t (v - t) b) (n := u + 1 - t) (t := t) (u := u) htu (by omega) hr no
                  rw [e, if_pos (by omega)]
                · rw [if_neg hr]
                  have e := lst_none (p := fun v => rc h true s.2.2.1 t (v - t) b) (n := u + 1 - t) (t := t) (fun v h1 h2 => by
                    by_cases e : v = u
                    · subst e; simpa using hr
                    · exact no v h1 (by omega))
                  rw [e, if_neg (by omega)]
            rw [n_le (by omega) (by omega), mk_or, sn, n_add]
            refine ⟨fun q2 => ?_, fun q2 => ?_⟩
            · rw [mk_0]
              exact ih (u + 1) M2 _ (by omega) (by omega) f2 (fun q3 => by omega) w3
            · refine s_onward (co := true) O H2 T2 (by omega) ?_
              refine ih (u + 1) M2 _ (by omega) (by omega) f2 (fun _ b => ?_) w3
              rw [show u + 1 - t = (u - t) + 1 by omega]
              show sp h true u S b = sp h true (t + (u - t)) _ b
              rw [show t + (u - t) = u by omega, show S = rc h true s.2.2.1 t (u - t) from funext hS]
          induction n2 with
          | zero =>
            intro r M2 hr f2 w2
            obtain ⟨H2, T2⟩ := good M2 f2
            refine T_X3_fillEnds_75 hcell ?_
            rw [H2.1, n_le (by omega) (by omega)]
            refine ⟨fun _ => leave M2 f2 (fun b hb => ?_), fun q => by omega⟩
            rw [w2 b hb]
            simp [show b < r by omega]
          | succ n2 ih2 =>
            intro r M2 hr f2 w2
            obtain ⟨H2, T2⟩ := good M2 f2
            refine T_X3_fillEnds_75 hcell ?_
            rw [H2.1, n_le (by omega) (by omega)]
            refine ⟨fun q => by omega, fun _ => ⟨fun q => ?_, fun q => ?_⟩⟩
            · rw [mk_eq0] at q
              refine leave M2 f2 (fun b hb => ?_)
              rw [w2 b hb]
              congr 1
              by_cases hl : lst (fun v => rc h true s.2.2.1 t (v - t) b) (u - t) t < u
              · rw [if_pos hl, if_pos hl]
              · rw [if_neg hl, if_neg hl]
                have := q b (by omega)
                have no : anyN (fun j => rc h true s.2.2.1 t j b) (u - t) = false := by
                  rw [anyN_f]
                  intro j hj
                  have := lst_no (fun v => rc h true s.2.2.1 t (v - t) b) (u - t) t (t + j) (by omega) (by omega)
                  simp only [show t + j - t = j by omega] at this
                  exact this
                rw [no, hS] at this
                simp only [Bool.not_false, Bool.and_true] at this
                rw [this, if_neg (by simp), if_neg (by simp)]
            · simp (disch := omega) only [n_lt, n_le, n_eq, n_lt0, n_le0, n_ge0, n_gt0, n_eq0, n_add, n_mul, n_sub, n_m1, ix_n, vin, bI_0, bI_1, nT_le, nF_le, nT_lt, nF_lt, nT_eq, nF_eq, mk_test, true_imp_iff, false_imp_iff, not_true_eq_false, not_false_eq_true, true_and, and_true, tf_, ft_, eq_self, true_or, or_true, false_or, or_false, ]
              refine ⟨fun q2 => ih2 (r + 1) M2 (by omega) f2 (fun b hb => ?_), fun q2 => ih2 (r + 1) _ (by omega) (fun c k hk => by rw [wr_nc _ _ _ _ hk]; exact f2 c k hk) (fun b hb => ?_)⟩
              · rw [w2 b hb]
                congr 1
                by_cases hl : lst (fun v => rc h true s.2.2.1 t (v - t) b) (u - t) t < u
                · rw [if_pos hl, if_pos hl]
                · rw [if_neg hl, if_neg hl]
                  by_cases e : b = r
                  · subst e
                    have no : anyN (fun j => rc h true s.2.2.1 t j b) (u - t) = false := by
                      rw [anyN_f]
                      intro j hj
                      have := lst_no (fun v => rc h true s.2.2.1 t (v - t) b) (u - t) t (t + j) (by omega) (by omega)
                      simp only [show t + j - t = j by omega] at this
                      exact this
                    rw [no, hS] at q2
                    simp only [Bool.not_false, Bool.and_true] at q2
                    rw [q2, if_neg (by simp), if_neg (by simp)]
                  · simp only [show (b < r + 1) = (b < r) from by rw [eq_iff_iff]; omega]
              · rw [Bool.not_eq_false, Bool.and_eq_true, hS, Bool.not_eq_true'] at q2
                by_cases e : b = r
                · subst e
                  rw [wr_eq]
                  have no := anyN_f.mp q2.2
                  rw [if_neg, if_pos ⟨by omega, q2.1⟩]
                  intro hl
                  have l1 := lst_le (fun v => rc h true s.2.2.1 t (v - t) b) (u - t) t
                  have := lst_is (fun v => rc h true s.2.2.1 t (v - t) b) (u - t) t (by omega)
                  rw [no _ (by omega)] at this; cases this
                · rw [wr_nk _ _ _ _ e, w2 b hb]
                  simp only [show (b < r + 1) = (b < r) from by rw [eq_iff_iff]; omega]
        have z := k75 h.1 0 M (by omega) hf (fun b' hb' => by rw [hw b' hb']; simp)
        rw [mk_not, mk_and]
        exact z
  refine T_X3_fillEnds ⟨by rw [vin (by omega)]; exact ht, ?_⟩
  rw [ix_n (by omega), show 135 + 1 + t = 136 + t by omega]
  refine s_fill hcell (by omega) (fun M1 h1 f1 => ?_)
  obtain ⟨H1, T1⟩ := good M1 f1
  have e2' : M1 30 2 = nI s.2.2.1 := by rw [f1 _ _ (by omega)]; exact e2
  rw [e2']
  refine s_mayBegin (co := true) T1 (by omega) ht (br (fun q => ?_) (fun q => ?_))
  · have := k52 (24 - t) t M1 (fun _ => false) (by omega) (Nat.le_refl _) f1 (fun _ b => by
      rw [Nat.sub_self]
      simp only [rc]
      by_cases e : b = s.2.2.1
      · subst e; rw [q, Bool.and_false]
      · rw [decide_eq_false e]; rfl) (fun b hb => by rw [h1 b (by omega), Nat.sub_self]; simp [lst])
    rw [Nat.sub_self] at this
    simp only [anyN] at this
    rw [mk_0]
    exact this
  · rw [e2', mk_one (by omega)]
    have := k52 (24 - t) t M1 (fun i => decide (i = s.2.2.1)) (by omega) (Nat.le_refl _) f1 (fun _ b => by
      rw [Nat.sub_self]
      simp only [rc]
      rw [q, Bool.and_true]) (fun b hb => by rw [h1 b (by omega), Nat.sub_self]; simp [lst])
    rw [Nat.sub_self] at this
    simp only [anyN] at this
    rw [mk_0]
    exact this
