/-! ===== calls of the inquiry ===== -/
theorem IC.inq {M M' : Mem} {h : HS} {s : SS} {t : TS} {n : Nat} {tp : Nat → Nat} {x : WS} {kx : KS} (I : IC M h s t n tp x kx) (O : IO h s t n tp x kx) (f : frI M' M) : IC M' h s t n tp x kx := I.tmp O (fun c k w => f c k (by omega)) (I.2.2.2.2.2.2.2.1.congr (fun c k w => f c k (by omega))) (I.2.2.2.2.2.2.2.2.congr O.2.1.1 (fun c k w => f c k (by omega)))
theorem IM.inq {M M' : Mem} {h : HS} {s : SS} {t : TS} {n : Nat} {tp : Nat → Nat} {x : WS} {kx : KS} (J : IM M h s t n tp x kx) (f : ∀ c k, c ≠ 203 → c ≠ 204 → M' c k = M c k) : IM M' h s t n tp x kx := J.tmp (fun c k w => f c k (by unfold msc at w; omega) (by unfold msc at w; omega)) (J.2.2.2.2.2.2.congr (fun k => f _ k (by omega) (by omega)) (f _ _ (by omega) (by omega)))
theorem wI_99 : wI 99 = -1 := rfl
theorem wM_99 : wM 99 = -4 := rfl
theorem b_liars {M : Mem} (C : Cpl M) : C_X9_liars M (fun r M1 => C_X10_liars M1 (fun r' M2 => r = r' ∧ Cpl M2)) := by
  obtain ⟨h, s, t, n, tp, x, kx, I, J, O⟩ := C
  have hR := O.1.1
  have same : Cpl M := ⟨h, s, t, n, tp, x, kx, I, J, O⟩
  have e1 : M 1 0 = nI h.1 := I.1.1
  refine T_X9_liars ?_
  rw [e1, n_eq0 (by omega), ← wI_99]
  refine ⟨fun q => s_findLiars O.1 (by omega) O.2.2.1 I.2.2.2.1 I.2.1 99 (fun M1 y f1 li _ => ?_), fun q => ?_⟩
  · have I1 := I.inq O f1
    have J1 : IM M1 h s t n tp x kx := J.far (fun c k hc => f1 c k (by omega))
    refine T_X10_liars ?_
    rw [J1.1.1, n_eq0 (by omega), ← wM_99]
    refine ⟨fun _ => m_liarsBut O.1 (by omega) O.2.2.1 J1.1 J1.2.2.1 99 (fun M2 z f2 li2 => ⟨by rw [LI_uniq li li2], h, s, t, n, tp, x, kx, I1.far O (fun c k hc => f2 c k (by omega)), J1.inq (fun c k q1 _ => f2 c k q1), O⟩), fun w => absurd w q⟩
  · refine T_X10_liars ?_
    rw [J.1.1, n_eq0 (by omega)]
    exact ⟨fun w => absurd q w, fun _ => ⟨rfl, same⟩⟩
theorem b_maybe {M : Mem} (C : Cpl M) (a u : Int32) : C_X9_maybe M a u (fun r M1 => C_X10_maybe M1 a u (fun r' M2 => r = r' ∧ Cpl M2)) := by
  obtain ⟨h, s, t, n, tp, x, kx, I, J, O⟩ := C
  have hR := O.1.1
  have hF := O.2.2.1.1
  have same : Cpl M := ⟨h, s, t, n, tp, x, kx, I, J, O⟩
  have e1 : M 1 0 = nI h.1 := I.1.1
  refine T_X9_maybe (s_hasOne I.2.2.2.1.1 hF (br (fun q => ?_) (fun q => s_isTick (br' (fun q2 => ?_) (fun q2 => ?_)))))
  · refine T_X10_maybe (m_isOne J.2.2.1.1 hF ?_)
    rw [q]; exact ⟨fun _ => ⟨rfl, same⟩, fun w => absurd nI_0 w⟩
  · refine T_X10_maybe (m_isOne J.2.2.1.1 hF ?_)
    rw [q]; refine ⟨fun w => absurd w (by decide), fun _ => m_isTick ?_⟩
    rw [q2]; exact ⟨fun w => absurd nI_0 w, fun _ => ⟨rfl, same⟩⟩
  · obtain ⟨o, ho, rfl⟩ := okN_t (by omega) q
    obtain ⟨v, hv, rfl⟩ := okN_t (by omega) q2
    have mst : ∀ (N : Mem), IM N h s t n tp x kx → ∀ {A : Int32 → Mem → Prop}, ((¬ h.1 = 0 → C_X10_liarsBut N (-4) (fun r5 M5 => C_X10_goes M5 (nI o) r5 (-4) (fun r6 M6 => vp_in (nI v) 24 ∧ A (M6 203 (ix (nI v))) M6))) ∧ (h.1 = 0 → A (-2) N)) → C_X10_maybe N (nI o) (nI v) A := by
      intro N JN A hA
      refine T_X10_maybe (m_isOne JN.2.2.1.1 hF ?_)
      rw [q]; refine ⟨fun w => absurd w (by decide), fun _ => m_isTick ?_⟩
      rw [q2, JN.1.1, n_eq0 (by omega)]
      exact ⟨fun _ => hA, fun w => absurd w (by decide)⟩
    rw [e1, n_eq0 (by omega), ← wI_99]
    refine ⟨fun q3 => s_findLiars O.1 (by omega) O.2.2.1 I.2.2.2.1 I.2.1 99 (fun M1 y f1 li pn => ?_), fun q3 => mst M J ⟨fun w => absurd q3 w, fun _ => ⟨rfl, same⟩⟩⟩
    have I1 := I.inq O f1
    have J1 : IM M1 h s t n tp x kx := J.far (fun c k hc => f1 c k (by omega))
    refine s_roomsOf O.1 O.2.2.1 I1.1 I1.2.2.2.1 I1.2.1 ho hv pn ?_
    refine mst M1 J1 ⟨fun _ => ?_, fun w => absurd w q3⟩
    rw [← wM_99]
    refine m_liarsBut O.1 (by omega) O.2.2.1 J1.1 J1.2.2.1 99 (fun M2 z f2 li2 => ?_)
    have J2 : IM M2 h s t n tp x kx := J1.inq (fun c k q1 _ => f2 c k q1)
    have hz := (pow_f hF).1
    have hz2 := li2.1
    rw [show C_X10_goes M2 (nI o) (nI z) = C_X10_goes M2 (nI o) (mk (tb_ z)) from by rw [nI_mk z (by omega)]]
    refine m_goes O.1 O.2.2.1 J2.1 J2.2.2.1 ho (fun M3 f3 w3 => ?_)
    rw [vin (by omega), ix_n (by omega), w3 v hv, LI_uniq li li2]
    exact ⟨hv, rfl, h, s, t, n, tp, x, kx, I1.far O (fun c k hc => by rw [f3 c k (by omega)]; exact f2 c k (by omega)), J2.inq (fun c k q1 _ => f3 c k q1), O⟩
theorem b_suspects {M : Mem} (C : Cpl M) : C_X9_suspects M (fun r M1 => C_X10_suspects M1 (fun r' M2 => r = r' ∧ Cpl M2)) := by
  obtain ⟨h, s, t, n, tp, x, kx, I, J, O⟩ := C
  have hR := O.1.1
  have hF := O.2.2.1.1
  have same : Cpl M := ⟨h, s, t, n, tp, x, kx, I, J, O⟩
  have e2 : M 37 2 = bI t.2.2.2.2.1 := I.2.2.2.1.2.2.1
  refine T_X9_suspects ?_
  rw [e2]
  refine br' (fun q => ?_) (fun st => ?_)
  · have e3 := J.2.2.1.2.2.1
    rw [if_neg (by rw [q]; simp)] at e3
    refine T_X10_suspects ?_
    rw [e3]
    exact ⟨fun w => absurd w (by decide), fun _ => ⟨rfl, same⟩⟩
  · have ht := O.2.2.1.2.2.2.2 st
    rw [← wI_99]
    refine s_findLiars O.1 (by omega) O.2.2.1 I.2.2.2.1 I.2.1 99 (fun M1 y f1 li pn => ?_)
    have I1 := I.inq O f1
    have J1 : IM M1 h s t n tp x kx := J.far (fun c k hc => f1 c k (by omega))
    have key : ∀ n2 f, f + n2 = t.1 → P_X9_suspects_26 M1 (mk (fun z => decide (z < f) && suB h t (tb_ y) 99 z)) (nI f) (fun r M1 => C_X10_suspects M1 (fun r' M2 => r = r' ∧ Cpl M2)) := by
      intro n2
      induction n2 with
      | zero =>
        intro f hf
        have : f = t.1 := by omega
        subst this
        refine T_X9_suspects_26 ?_
        rw [I1.2.2.2.1.1, n_le (by omega) (by omega)]
        refine ⟨fun _ => ?_, fun w => by omega⟩
        have e3 := J1.2.2.1.2.2.1
        rw [if_pos st] at e3
        refine T_X10_suspects ?_
        rw [e3, ← wM_99]
        refine ⟨fun _ => m_suspectsBut O.1 (by omega) O.2.2.1 st J1.1 J1.2.2.1 99 (fun M2 z f2 li2 => ⟨by rw [LI_uniq li li2], h, s, t, n, tp, x, kx, I1.far O (fun c k hc => f2 c k (by omega) (by omega)), J1.inq f2, O⟩), fun w => absurd (nI_pos' (by omega)) w⟩
      | succ n2 ih =>
        intro f hf
        have z := ih (f + 1) (by omega)
        refine T_X9_suspects_26 ?_
        rw [I1.2.2.2.1.1, n_le (by omega) (by omega), n_add]
        refine ⟨fun w => by omega, fun _ => s_isSuspect O.1 O.2.2.1 st I1.1 I1.2.2.2.1 I1.2.1 (show f < t.1 by omega) pn (br (fun q => ?_) (fun q => ?_))⟩
        · rw [show (mk fun z => decide (z < f) && suB h t (tb_ y) 99 z) = mk (fun z => decide (z < f + 1) && suB h t (tb_ y) 99 z) from mk_ext (fun i _ => by
            by_cases e : i = f
            · subst e; simp [q]
            · simp [show (i < f + 1) = (i < f) from by rw [eq_iff_iff]; omega])]
          exact z
        · rw [mk_one (by omega), mk_or, show (mk fun i => (decide (i < f) && suB h t (tb_ y) 99 i) || decide (i = f)) = mk (fun z => decide (z < f + 1) && suB h t (tb_ y) 99 z) from mk_ext (fun i _ => by
            by_cases e : i = f
            · subst e; simp [q]
            · simp [e, show (i < f + 1) = (i < f) from by rw [eq_iff_iff]; omega])]
          exact z
    have z := key t.1 0 (by omega)
    rw [show (mk fun z => decide (z < 0) && suB h t (tb_ y) 99 z) = nI 0 from by rw [mk_0]; exact mk_ext (fun i _ => by simp)] at z
    exact z
theorem sh_bit {b : Bool} {k : Nat} (hk : k < 32) : bI b <<< (nI k &&& 31) = mk (fun i => b && decide (i = k)) := by
  cases b
  · rw [bI_f]
    apply b_ext
    intro i hi
    rw [b_shl k hk _ hi, mk_b _ hi, b_nI0]
    simp
  · rw [bI_t, mk_one hk]
    exact mk_ext (fun i _ => by simp)
theorem b_clears {M : Mem} (C : Cpl M) (a : Int32) : C_X9_clears M a (fun r M1 => C_X10_clears M1 a (fun r' M2 => r = r' ∧ Cpl M2)) := by
  obtain ⟨h, s, t, n, tp, x, kx, I, J, O⟩ := C
  have hR := O.1.1
  have hF := O.2.2.1.1
  have hY := O.2.2.1.2.1
  have same : Cpl M := ⟨h, s, t, n, tp, x, kx, I, J, O⟩
  have e2 : M 37 2 = bI t.2.2.2.2.1 := I.2.2.2.1.2.2.1
  refine T_X9_clears (s_hasOne I.2.2.2.1.1 hF (br' (fun q => ?_) (fun q => ?_)))
  · refine T_X10_clears (m_isOne J.2.2.1.1 hF ?_)
    rw [q]; exact ⟨fun w => absurd nI_0 w, fun _ => ⟨rfl, same⟩⟩
  · obtain ⟨o, ho, rfl⟩ := okN_t (by omega) q
    rw [e2]
    refine br' (fun q2 => ?_) (fun st => ?_)
    · have e3 := J.2.2.1.2.2.1
      rw [if_neg (by rw [q2]; simp)] at e3
      refine T_X10_clears (m_isOne J.2.2.1.1 hF ?_)
      rw [q, e3]
      exact ⟨fun _ => ⟨fun w => absurd w (by decide), fun _ => ⟨rfl, same⟩⟩, fun w => absurd w (by decide)⟩
    · have ht := O.2.2.1.2.2.2.2 st
      have mst : ∀ (N : Mem), IM N h s t n tp x kx → ∀ {A : Int32 → Mem → Prop}, C_X10_suspectsBut N (-4) (fun r3 M3 => ((¬ ((r3 >>> (nI o &&& 31)) &&& (nI 1)) = (nI 1)) → (P_X10_clears_41 M3 (nI o) (nI 0) (nI 0) A)) ∧ ((((r3 >>> (nI o &&& 31)) &&& (nI 1)) = (nI 1)) → (A (-4) M3))) → C_X10_clears N (nI o) A := by
        intro N JN A hA
        have e3 := JN.2.2.1.2.2.1
        rw [if_pos st] at e3
        refine T_X10_clears (m_isOne JN.2.2.1.1 hF ?_)
        rw [q, e3]
        exact ⟨fun _ => ⟨fun _ => hA, fun w => absurd (nI_pos' (by omega)) w⟩, fun w => absurd w (by decide)⟩
      rw [← wI_99]
      refine s_findLiars O.1 (by omega) O.2.2.1 I.2.2.2.1 I.2.1 99 (fun M1 y f1 li pn => ?_)
      have I1 := I.inq O f1
      have J1 : IM M1 h s t n tp x kx := J.far (fun c k hc => f1 c k (by omega))
      refine s_isSuspect O.1 O.2.2.1 st I1.1 I1.2.2.2.1 I1.2.1 ho pn (br (fun q3 => ?_) (fun q3 => ?_))
      · -- the class's loop: for each saying its own liars
        have key : ∀ n2 k (M2 : Mem) (X : Nat → Nat), k + n2 = t.2.2.1 → IC M2 h s t n tp x kx → IM M2 h s t n tp x kx → (∀ j, j < k → LI h t j (X j)) → P_X9_clears_53 M2 (nI o) (mk (fun i => decide (i < k) && suB h t (tb_ (X i)) i o)) (nI k) (fun r M1 => C_X10_clears M1 (nI o) (fun r' M2 => r = r' ∧ Cpl M2)) := by
          intro n2
          induction n2 with
          | zero =>
            intro k M2 X hk I2 J2 hX
            have : k = t.2.2.1 := by omega
            subst this
            refine T_X9_clears_53 ?_
            rw [I2.2.2.2.1.2.1, n_le (by omega) (by omega)]
            refine ⟨fun _ => mst M2 J2 ?_, fun w => by omega⟩
            rw [← wM_99]
            refine m_suspectsBut O.1 (by omega) O.2.2.1 st J2.1 J2.2.2.1 99 (fun M3 z f3 li2 => ?_)
            have J3 : IM M3 h s t n tp x kx := J2.inq f3
            have hzy := LI_uniq li li2
            subst hzy
            rw [mk_test _ (by omega), decide_eq_true ho, Bool.true_and, q3]
            refine ⟨fun _ => ?_, fun w => absurd w (by decide)⟩
            have k41 : ∀ n3 k (M4 : Mem), k + n3 = t.2.2.1 → (∀ c j, c < 182 → M4 c j = M2 c j) → IM M4 h s t n tp x kx → P_X10_clears_41 M4 (nI o) (mk (fun i => decide (i < k) && suB h t (tb_ (X i)) i o)) (nI k) (fun r' M5 => mk (fun i => decide (i < t.2.2.1) && suB h t (tb_ (X i)) i o) = r' ∧ Cpl M5) := by
              intro n3
              induction n3 with
              | zero =>
                intro k M4 hk f4 J4
                have : k = t.2.2.1 := by omega
                subst this
                refine T_X10_clears_41 ?_
                rw [J4.2.2.1.2.1, n_le (by omega) (by omega)]
                exact ⟨fun _ => ⟨rfl, h, s, t, n, tp, x, kx, I2.far O f4, J4, O⟩, fun w => by omega⟩
              | succ n3 ih3 =>
                intro k M4 hk f4 J4
                refine T_X10_clears_41 ?_
                rw [J4.2.2.1.2.1, n_le (by omega) (by omega), n_add]
                refine ⟨fun w => by omega, fun _ => ?_⟩
                rw [show nI k = wM k from by unfold wM; rw [if_pos (by omega)]]
                refine m_suspectsBut O.1 (by omega) O.2.2.1 st J4.1 J4.2.2.1 k (fun M5 z f5 li3 => ?_)
                have hz2 := LI_uniq (hX k (by omega)) li3
                have zz := ih3 (k + 1) M5 (by omega) (fun c j hc => by rw [f5 c j (by omega) (by omega)]; exact f4 c j hc) (J4.inq f5)
                rw [show wM k = nI k from by unfold wM; rw [if_pos (by omega)]]
                rw [mk_test _ (by omega), decide_eq_true ho, Bool.true_and, sh_bit (by omega), mk_or]
                rw [show (mk fun i => (decide (i < k) && suB h t (tb_ (X i)) i o) || (suB h t (tb_ z) k o && decide (i = k))) = mk (fun i => decide (i < k + 1) && suB h t (tb_ (X i)) i o) from mk_ext (fun i _ => by
                  by_cases e : i = k
                  · subst e; simp [hz2]
                  · simp [e, show (i < k + 1) = (i < k) from by rw [eq_iff_iff]; omega])]
                exact zz
            have zz := k41 t.2.2.1 0 M3 (by omega) (fun c j hc => f3 c j (by omega) (by omega)) J3
            rw [show (mk fun i => decide (i < 0) && suB h t (tb_ (X i)) i o) = nI 0 from by rw [mk_0]; exact mk_ext (fun i _ => by simp)] at zz
            exact zz
          | succ n2 ih =>
            intro k M2 X hk I2 J2 hX
            refine T_X9_clears_53 ?_
            rw [I2.2.2.2.1.2.1, n_le (by omega) (by omega), n_add]
            refine ⟨fun w => by omega, fun _ => ?_⟩
            rw [show nI k = wI k from by unfold wI; rw [if_pos (by omega)]]
            refine s_findLiars O.1 (by omega) O.2.2.1 I2.2.2.2.1 I2.2.1 k (fun M3 z f3 li3 pn3 => ?_)
            have I3 := I2.inq O f3
            have J3 : IM M3 h s t n tp x kx := J2.far (fun c k hc => f3 c k (by omega))
            rw [show wI k = nI k from by unfold wI; rw [if_pos (by omega)]]
            obtain ⟨X', eX1, eX2⟩ : ∃ X' : Nat → Nat, X' k = z ∧ ∀ j, j ≠ k → X' j = X j := ⟨fun j => if j = k then z else X j, by simp, fun j hj => by simp [hj]⟩
            have zz := ih (k + 1) M3 X' (by omega) I3 J3 (fun j hj => by
              by_cases e : j = k
              · subst e; rw [eX1]; exact li3
              · rw [eX2 j e]; exact hX j (by omega))
            refine s_isSuspect O.1 O.2.2.1 st I3.1 I3.2.2.2.1 I3.2.1 ho pn3 (br (fun q5 => ?_) (fun q5 => ?_))
            · rw [show (mk fun i => decide (i < k) && suB h t (tb_ (X i)) i o) = mk (fun i => decide (i < k + 1) && suB h t (tb_ (X' i)) i o) from mk_ext (fun i _ => by
                by_cases e : i = k
                · subst e; simp [eX1, q5]
                · simp [eX2 i e, show (i < k + 1) = (i < k) from by rw [eq_iff_iff]; omega])]
              exact zz
            · rw [mk_one (by omega), mk_or, show (mk fun i => (decide (i < k) && suB h t (tb_ (X i)) i o) || decide (i = k)) = mk (fun i => decide (i < k + 1) && suB h t (tb_ (X' i)) i o) from mk_ext (fun i _ => by
                by_cases e : i = k
                · subst e; simp [eX1, q5]
                · simp [e, eX2 i e, show (i < k + 1) = (i < k) from by rw [eq_iff_iff]; omega])]
              exact zz
        have zz := key t.2.2.1 0 M1 (fun _ => 0) (by omega) I1 J1 (fun j hj => by omega)
        rw [show (mk fun i => decide (i < 0) && suB h t (tb_ 0) i o) = nI 0 from by rw [mk_0]; exact mk_ext (fun i _ => by simp)] at zz
        exact zz
      · refine mst M1 J1 ?_
        rw [← wM_99]
        refine m_suspectsBut O.1 (by omega) O.2.2.1 st J1.1 J1.2.2.1 99 (fun M2 z f2 li2 => ?_)
        rw [mk_test _ (by omega), decide_eq_true ho, Bool.true_and, ← LI_uniq li li2, q3]
        exact ⟨fun w => absurd rfl w, fun _ => ⟨rfl, h, s, t, n, tp, x, kx, I1.far O (fun c k hc => f2 c k (by omega) (by omega)), J1.inq f2, O⟩⟩
