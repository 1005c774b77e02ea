theorem rle {x : Int32} {n : Nat} (hn : n < 1000000) {A B : Prop} (f : okN x (n + 1) = false → A) (g : okN x (n + 1) = true → B) : (x < 0 → A) ∧ (¬ x < 0 → ((x ≤ nI n → B) ∧ (¬ x ≤ nI n → A))) := by
  refine ⟨fun q => f (okN_lo q), fun q => ⟨fun q2 => g ?_, fun q2 => f ?_⟩⟩
  · simp only [okN, decide_eq_true_eq]
    rw [Int32.not_lt, Int32.le_iff_toInt_le, Int32.toInt_zero] at q
    rw [Int32.le_iff_toInt_le, nI_toInt (by omega)] at q2
    omega
  · simp only [okN, decide_eq_false_iff_not]
    rw [Int32.not_le, Int32.lt_iff_toInt_lt, nI_toInt (by omega)] at q2
    omega
theorem rlt {x : Int32} {n : Nat} (hn : n < 1000000) {A B : Prop} (f : okN x (n + 1) = false → A) (g : okN x (n + 1) = true → B) : (x < 0 → A) ∧ (¬ x < 0 → ((nI n < x → A) ∧ (¬ nI n < x → B))) := by
  have := rle hn f g
  exact ⟨this.1, fun q => ⟨fun q2 => (this.2 q).2 (Int32.not_le.mpr q2), fun q2 => (this.2 q).1 (Int32.not_lt.mp q2)⟩⟩
theorem wel_ne {s : SS} (h : ¬ mk (wel s) = 0) (hs : s.1 ≤ 3) : ∃ v, wel s v = true := by
  apply Classical.byContradiction
  intro q
  apply h
  rw [mk_eq0]
  intro i _
  cases hi : wel s i with
  | false => rfl
  | true => exact absurd ⟨i, hi⟩ q
theorem s_wellW {s : SS} {M : Mem} (H : SC 30 M s) (hs : s.1 ≤ 3) {Q : Int32 → Mem → Prop} (k : Q (mk (wel s)) M) : C_X5_well_30 M Q := s_well H hs k
theorem x_prep {M : Mem} {h : HS} {s : SS} {t : TS} {n : Nat} {tp : Nat → Nat} {x : WS} {kx : KS} (I : IC M h s t n tp x kx) (O : IO h s t n tp x kx) (hne : ∃ v, wel s v = true) {Q : Mem → Prop} (K : ∀ M', (∀ c k, 182 ≤ c → M' c k = M c k) → IC M' h s t n tp x kx → PT M' h s → Q M') : C_X3_prepare M Q := by
  refine s_prepareP O.1 O.2.1 I.1 I.2.2.1 I.2.1 I.2.2.2.2.2.2.2.1 I.2.2.2.2.2.2.2.2 hne (fun M' f z T P => ?_)
  exact K M' (fun c k hc => f c k (by unfold scr; omega)) (I.tmp O (fun c k q => f c k (fun w => q (Or.inl w))) T (Or.inr ⟨z, P⟩)) P
theorem IM.lay {M M' : Mem} {h : HS} {s : SS} {t : TS} {n : Nat} {tp : Nat → Nat} {x : WS} {kx : KS} (J : IM M h s t n tp x kx) (f : ∀ c k, ¬ mlay c k → M' c k = M c k) (L : LA M' h) : IM M' h s t n tp x kx := J.tmp (fun c k q => f c k (by unfold msc at q; unfold mlay; omega)) L
theorem mlay_lt {c k : Nat} (h : c < 182) : ¬ mlay c k := by unfold mlay; omega
theorem b_cost {M : Mem} (C : Cpl M) (a : Int32) : C_X9_cost M a (fun r M1 => C_X10_cost M1 a (fun r' M2 => r = r' ∧ Cpl M2)) := by
  obtain ⟨h, s, t, n, tp, x, kx, I, J, O⟩ := C
  have hS := O.2.1.1
  have hE : s.2.1 < 6 := by have := O.2.1.2.1; omega
  have same : Cpl M := ⟨h, s, t, n, tp, x, kx, I, J, O⟩
  refine T_X9_cost (rle (n := 1) (by omega) (fun q => ?_) (fun q => s_well I.2.2.1 hS ⟨fun q2 => ?_, fun q2 => ?_⟩))
  · refine T_X10_cost (s_in ?_)
    rw [in_01, q]
    exact ⟨fun w => absurd nI_0 w, fun _ => ⟨rfl, same⟩⟩
  · have hne := wel_ne q2 hS
    obtain ⟨j, hj, rfl⟩ := okN_t (by omega) q
    refine x_prep I O hne (fun M1 f1 I1 P1 => T_X3_plan ?_)
    have J1 : IM M1 h s t n tp x kx := J.far f1
    have mw : ∀ {A : Int32 → Mem → Prop}, (A (mk (wel s)) M1) → C_X10_well M1 A := fun k => m_well O.2.1 J1.2.1 k
    rw [n_eq0 (by omega)]
    refine ⟨fun q3 => Or.inr ⟨rfl, ?_⟩, fun q3 => Or.inl ⟨rfl, ?_⟩⟩
    · refine T_X10_cost (s_in ?_)
      rw [in_01, q]
      refine ⟨fun _ => mw ⟨fun _ => ⟨fun _ => ?_, fun w => absurd ((n_eq0 (by omega)).mp w) q3⟩, fun w => absurd w q2⟩, fun w => absurd w (by decide)⟩
      refine m_ruled O.1 O.2.1 J1.1 J1.2.1 J1.2.2.2.2.2.2 hne (fun M2 b ro f2 L2 R2 _ _ => ?_)
      obtain ⟨b', ro', R1, e1, _, _⟩ := P1.2.2
      obtain ⟨u1, u2⟩ := RU_uniq hE R1 R2
      refine ⟨?_, h, s, t, n, tp, x, kx, I1.far O (fun c k hc => f2 c k (mlay_lt hc)), J1.lay f2 L2, O⟩
      rw [e1]
      congr 1
      exact cst_c (fun i hi => ⟨u1 i hi, u2 _ (R1.1 i hi)⟩)
    · refine T_X10_cost (s_in ?_)
      rw [in_01, q]
      refine ⟨fun _ => mw ⟨fun _ => ⟨fun w => absurd ((n_eq0 (by omega)).mpr q3) w, fun _ => mw ?_⟩, fun w => absurd w q2⟩, fun w => absurd w (by decide)⟩
      refine m_best O.1 O.2.1 J1.1 J1.2.1 J1.2.2.2.2.2.2 (fun v hv => (wel_t hv).1) hne (fun M2 b k f2 z2 L2 B2 _ _ => ?_)
      obtain ⟨b', k', B1, e1, _, _⟩ := P1.2.1
      refine ⟨?_, h, s, t, n, tp, x, kx, I1.far O (fun c k hc => f2 c k (mlay_lt hc)), J1.lay f2 (Or.inr ⟨z2, L2⟩), O⟩
      rw [e1, MV_uniq (BT_MV B1) (BT_MV B2)]
  · refine T_X10_cost (s_in ?_)
    rw [in_01, q]
    exact ⟨fun _ => m_well O.2.1 J.2.1 ⟨fun w => absurd q2 w, fun _ => ⟨rfl, same⟩⟩, fun w => absurd w (by decide)⟩
theorem b_missed {M : Mem} (C : Cpl M) (a : Int32) : C_X9_missed M a (fun r M1 => C_X10_missed M1 a (fun r' M2 => r = r' ∧ Cpl M2)) := by
  obtain ⟨h, s, t, n, tp, x, kx, I, J, O⟩ := C
  have hS := O.2.1.1
  have same : Cpl M := ⟨h, s, t, n, tp, x, kx, I, J, O⟩
  refine T_X9_missed (s_hasServant I.2.2.1.1 hS (br' (fun q => ?_) (fun q => ?_)))
  · refine T_X10_missed (s_in ?_)
    rw [J.2.1.1, in_ok a (by omega), q]
    exact ⟨fun w => absurd nI_0 w, fun _ => ⟨rfl, same⟩⟩
  · obtain ⟨j, hj, rfl⟩ := okN_t (by omega) q
    have eo : mk (wel s) &&& (nI 1 <<< (nI j &&& 31) ^^^ -1) = mk (fun i => wel s i && !decide (i = j)) := by rw [mk_one (by omega), mk_not, mk_and]
    refine s_wellW I.2.2.1 hS ?_
    have md : ∀ (N : Mem) (JN : IM N h s t n tp x kx) {A : Int32 → Mem → Prop}, ((¬ mk (fun i => wel s i && !decide (i = j)) = 0 → (¬ mk (fun i => wel s i && !decide (i = j)) = mk (wel s) → C_X10_best N (mk (fun i => wel s i && !decide (i = j))) (fun r5 M5 => C_X10_best M5 (mk (wel s)) (fun r6 M6 => A (r5 - r6) M6))) ∧ (mk (fun i => wel s i && !decide (i = j)) = mk (wel s) → A (nI 0) N)) ∧ (mk (fun i => wel s i && !decide (i = j)) = 0 → A (-2) N)) → C_X10_missed N (nI j) A := by
      intro N JN A hA
      refine T_X10_missed (s_in ?_)
      rw [JN.2.1.1, in_ok _ (by omega), q]
      refine ⟨fun _ => m_well O.2.1 JN.2.1 ?_, fun w => absurd w (by decide)⟩
      rw [eo]
      exact hA
    rw [eo]
    refine ⟨fun q1 => ⟨fun q2 => ?_, fun q2 => md M J ⟨fun _ => ⟨fun w => absurd q2 w, fun _ => ⟨rfl, same⟩⟩, fun w => absurd w q1⟩⟩, fun q1 => md M J ⟨fun w => absurd q1 w, fun _ => ⟨rfl, same⟩⟩⟩
    have hT : ∀ v, (fun i => wel s i && !decide (i = j)) v = true → wel s v = true := fun v hv => by simp at hv; exact hv.1
    have hneT : ∃ v, (fun i => wel s i && !decide (i = j)) v = true := by
      apply Classical.byContradiction
      intro w
      apply q1
      rw [mk_eq0]
      intro i _
      cases hi : (wel s i && !decide (i = j)) with
      | false => rfl
      | true => exact absurd ⟨i, hi⟩ w
    have hne : ∃ v, wel s v = true := by
      obtain ⟨v, hv⟩ := hneT
      exact ⟨v, hT v hv⟩
    refine x_prep I O hne (fun M1 f1 I1 P1 => ?_)
    obtain ⟨rvs, R1⟩ := P1.1
    refine s_leastMV O.2.1 I1.2.2.1 R1 hT hneT (fun M2 v f2 mv => ?_)
    have I2 : IC M2 h s t n tp x kx := I1.tmp O (fun c k w => f2 c k (by unfold scr at w; omega)) (I1.2.2.2.2.2.2.2.1.congr (fun c k w => f2 c k (by omega))) (I1.2.2.2.2.2.2.2.2.congr hS (fun c k w => f2 c k (by omega)))
    have J2 : IM M2 h s t n tp x kx := J.far (fun c k hc => by rw [f2 c k (by omega)]; exact f1 c k hc)
    obtain ⟨b', k', B1, e1, _, _⟩ := P1.2.1
    have e2 : M2 125 0 = nI (Cc h s b' k') := by rw [f2 _ _ (by omega)]; exact e1
    rw [e2]
    refine md M2 J2 ⟨fun _ => ⟨fun _ => ?_, fun w => absurd w q2⟩, fun w => absurd w q1⟩
    refine m_best O.1 O.2.1 J2.1 J2.2.1 J2.2.2.2.2.2.2 (fun v hv => (wel_t (hT v hv)).1) hneT (fun M3 b3 k3 f3 z3 L3 B3 _ _ => ?_)
    have J3 := J2.lay f3 (Or.inr ⟨z3, L3⟩)
    refine m_best O.1 O.2.1 J3.1 J3.2.1 J3.2.2.2.2.2.2 (fun v hv => (wel_t hv).1) hne (fun M4 b4 k4 f4 z4 L4 B4 _ _ => ?_)
    refine ⟨?_, h, s, t, n, tp, x, kx, I2.far O (fun c k hc => by rw [f4 c k (mlay_lt hc)]; exact f3 c k (mlay_lt hc)), J3.lay f4 (Or.inr ⟨z4, L4⟩), O⟩
    rw [MV_uniq mv (BT_MV B3), MV_uniq (BT_MV B1) (BT_MV B4)]
theorem m_enough {h : HS} {s : SS} {t : TS} {n : Nat} {tp : Nat → Nat} {x : WS} {kx : KS} {M0 : Mem} (J0 : IM M0 h s t n tp x kx) (O : IO h s t n tp x kx) {Q : Int32 → Mem → Prop}
    (K : ∀ M' r, (∀ c k, c < 182 → M' c k = M0 c k) → IM M' h s t n tp x kx → ((r = -4 ∧ ∀ y, ¬ ZX h s y) ∨ ∃ l, r = nI l ∧ EN h s l) → Q r M') : P_X10_enough_17 M0 (mk (wel s)) (-4) (nI 1) Q := by
  have hS := O.2.1.1
  have key : ∀ n2 y (M : Mem) (r : Int32), y + n2 = 8 → 1 ≤ y → (∀ c k, c < 182 → M c k = M0 c k) → IM M h s t n tp x kx → ((r = -4 ∧ ∀ z, z < y → ¬ ZX h s z) ∨ ∃ l, r = nI l ∧ l < y ∧ ZX h s l ∧ ∀ z, z < y → ZX h s z → cntN (tb_ l) 5 < cntN (tb_ z) 5 ∨ (cntN (tb_ l) 5 = cntN (tb_ z) 5 ∧ l ≤ z)) → P_X10_enough_17 M (mk (wel s)) r (nI y) Q := by
    intro n2
    induction n2 with
    | zero =>
      intro y M r hy hy1 hf J hr
      refine T_X10_enough_17 ?_
      rw [n_le (by omega) (by omega)]
      refine ⟨fun _ => K M r hf J ?_, fun q => by omega⟩
      rcases hr with ⟨h1, h2⟩ | ⟨l, h1, h2, h3, h4⟩
      · exact Or.inl ⟨h1, fun z hz => h2 z (by have := hz.2.1; omega) hz⟩
      · exact Or.inr ⟨l, h1, h3, fun z hz => h4 z (by have := hz.2.1; omega) hz⟩
    | succ n2 ih =>
      intro y M r hy hy1 hf J hr
      have hy8 : y < 8 := by omega
      have next : ∀ M' : Mem, (∀ c k, c < 182 → M' c k = M0 c k) → IM M' h s t n tp x kx → (ZX h s y → ∃ l, r = nI l ∧ l < 8 ∧ cntN (tb_ l) 5 ≤ cntN (tb_ y) 5) → P_X10_enough_17 M' (mk (wel s)) r (nI y + nI 1) Q := by
        intro M' f' J' hn
        rw [n_add]
        refine ih (y + 1) M' r (by omega) (by omega) f' J' ?_
        rcases hr with ⟨h1, h2⟩ | ⟨l, h1, h2, h3, h4⟩
        · refine Or.inl ⟨h1, fun z hz hZ => ?_⟩
          by_cases e : z = y
          · subst e
            obtain ⟨l, w1, w2, _⟩ := hn hZ
            rw [h1] at w1
            have := nI_pos (n := l) (by omega)
            rw [← w1] at this
            exact absurd (by decide) this
          · exact h2 z (by omega) hZ
        · refine Or.inr ⟨l, h1, by omega, h3, fun z hz hZ => ?_⟩
          by_cases e : z = y
          · subst e
            obtain ⟨l', w1, w2, w3⟩ := hn hZ
            have : l = l' := (n_eq (by omega) (by omega)).mp (h1.symm.trans w1)
            subst this
            by_cases w4 : cntN (tb_ l) 5 = cntN (tb_ z) 5
            · exact Or.inr ⟨w4, by omega⟩
            · exact Or.inl (by omega)
          · exact h4 z (by omega) hZ
      have take : sub_ s y → (∀ l, r = nI l → l < 8 → cntN (tb_ y) 5 < cntN (tb_ l) 5) → C_X10_best M (nI y) (fun r3 M3 => ((¬ r3 = 0) → (P_X10_enough_17 M3 (mk (wel s)) r (nI y + (nI 1)) Q)) ∧ ((r3 = 0) → (P_X10_enough_17 M3 (mk (wel s)) (nI y) (nI y + (nI 1)) Q))) := by
        intro hsub hlt
        rw [show C_X10_best M (nI y) = C_X10_best M (mk (tb_ y)) from by rw [nI_mk y (by omega)]]
        obtain ⟨i0, _, hi0⟩ := tb_some y hy8 (by omega)
        refine m_best O.1 O.2.1 J.1 J.2.1 J.2.2.2.2.2.2 (fun v hv => (wel_t (hsub v hv)).1) ⟨i0, hi0⟩ (fun M2 b k f2 z2 L2 B2 _ _ => ?_)
        have mv := BT_MV B2
        have hle := MV_le O.2.1 (fun v hv => (wel_t (hsub v hv)).1) mv
        have f2' : ∀ c k, c < 182 → M2 c k = M0 c k := fun c k hc => by rw [f2 c k (mlay_lt hc)]; exact hf c k hc
        have J2 := J.lay f2 (Or.inr ⟨z2, L2⟩)
        rw [n_eq0 (by omega)]
        refine ⟨fun q => next M2 f2' J2 (fun hZ => absurd (MV_uniq mv hZ.2.2.2) q), fun q => ?_⟩
        rw [n_add]
        refine ih (y + 1) M2 (nI y) (by omega) (by omega) f2' J2 (Or.inr ⟨y, rfl, by omega, ⟨by omega, hy8, hsub, by rw [q] at mv; exact mv⟩, fun z hz hZ => ?_⟩)
        by_cases e : z = y
        · subst e; exact Or.inr ⟨rfl, Nat.le_refl _⟩
        · rcases hr with ⟨h1, h2⟩ | ⟨l, h1, h2, h3, h4⟩
          · exact absurd hZ (h2 z (by omega))
          · have := hlt l h1 (by omega)
            have := h4 z (by omega) hZ
            left; omega
      refine T_X10_enough_17 ?_
      rw [n_le (by omega) (by omega), show nI y &&& (mk (wel s) ^^^ (-1)) = mk (fun i => tb_ y i && !wel s i) from by rw [nI_mk y (by omega), mk_not, mk_and], mk_eq0]
      refine ⟨fun q => by omega, fun _ => ⟨fun q => ⟨fun _ => next M hf J (fun hZ => ?_), fun w => absurd nI_0 w⟩, fun q => ?_⟩⟩
      · exfalso
        apply q
        intro i _
        cases hb : tb_ y i with
        | false => rfl
        | true => rw [hZ.2.2.1 i hb]; rfl
      · have hsub : sub_ s y := by
          intro i hi
          by_cases hi5 : i < 5
          · have := q i (by omega)
            rw [hi, Bool.true_and, Bool.not_eq_false'] at this
            exact this
          · rw [tb_hi (by omega) i (by omega)] at hi; cases hi
        rcases hr with ⟨h1, h2⟩ | ⟨l, h1, h2, h3, h4⟩
        · have tk := take hsub (fun l w _ => by
            rw [h1] at w
            have := nI_pos (n := l) (by omega)
            rw [← w] at this
            exact absurd (by decide) this)
          refine ⟨fun _ => ⟨fun w => absurd w (by decide), fun _ => tk⟩, fun w => ?_⟩
          rw [h1] at w
          exact absurd (by decide) w
        · have c1 := cntN_le (tb_ y) 5
          have c2 := cntN_le (tb_ l) 5
          refine ⟨fun w => ?_, fun _ => m_size (by omega) ?_⟩
          · rw [h1] at w; exact absurd w (nI_pos (by omega))
          · rw [h1]
            refine m_size (by have := h3.2.1; omega) ?_
            rw [n_le (by omega) (by omega), ← h1]
            refine ⟨fun w => ⟨fun _ => next M hf J (fun _ => ⟨l, h1, h3.2.1, w⟩), fun w2 => absurd nI_0 w2⟩, fun w => ⟨fun w2 => absurd w2 (by decide), fun _ => take hsub (fun l' e1 e2 => ?_)⟩⟩
            have : l = l' := (n_eq (by have := h3.2.1; omega) (by omega)).mp (h1.symm.trans e1)
            subst this
            omega
  exact key 7 1 M0 (-4) rfl (by omega) (fun _ _ _ => rfl) J0 (Or.inl ⟨rfl, fun z hz hZ => by have := hZ.1; omega⟩)
theorem b_enough {M : Mem} (C : Cpl M) : C_X9_enough M (fun r M1 => C_X10_enough M1 (fun r' M2 => r = r' ∧ Cpl M2)) := by
  obtain ⟨h, s, t, n, tp, x, kx, I, J, O⟩ := C
  have hS := O.2.1.1
  have same : Cpl M := ⟨h, s, t, n, tp, x, kx, I, J, O⟩
  refine T_X9_enough (s_well I.2.2.1 hS ⟨fun q2 => ?_, fun q2 => ?_⟩)
  · have hne := wel_ne q2 hS
    refine x_prep I O hne (fun M1 f1 I1 P1 => ?_)
    obtain ⟨rvs, R1⟩ := P1.1
    obtain ⟨b', k', B1, e1, _, _⟩ := P1.2.1
    have hle := MV_le O.2.1 (fun v hv => (wel_t hv).1) (BT_MV B1)
    have zx : ∀ y, ZX h s y → MV h s (wel s) 0 := by
      intro y hy
      obtain ⟨⟨b, k, a1, a2, a3⟩, a4⟩ := hy.2.2.2
      exact ⟨⟨b, k, vld_mono hy.2.2.1 a1, a2, a3⟩, fun _ _ _ _ => Nat.zero_le _⟩
    rw [e1, n_le0 (by omega)]
    refine ⟨fun q => ?_, fun q => ?_⟩
    · have mz : MV h s (wel s) 0 := by rw [← q]; exact BT_MV B1
      refine s_fewest O.2.1 I1.2.2.1 R1 hne mz (fun M2 l f2 en => ?_)
      have I2 : IC M2 h s t n tp x kx := I1.tmp O (fun c k w => f2 c k (by unfold scr at w; omega)) (I1.2.2.2.2.2.2.2.1.congr (fun c k w => f2 c k (by omega))) (I1.2.2.2.2.2.2.2.2.congr hS (fun c k w => f2 c k (by omega)))
      have J2 : IM M2 h s t n tp x kx := J.far (fun c k hc => by rw [f2 c k (by omega)]; exact f1 c k hc)
      refine T_X10_enough (m_well O.2.1 J2.2.1 ⟨fun _ => m_enough J2 O (fun M3 r f3 J3 hr => ?_), fun w => absurd w q2⟩)
      refine ⟨?_, h, s, t, n, tp, x, kx, I2.far O f3, J3, O⟩
      rcases hr with ⟨_, h2⟩ | ⟨l', rfl, en'⟩
      · exact absurd en.1 (h2 l)
      · rw [EN_uniq en en']
    · have J1 : IM M1 h s t n tp x kx := J.far f1
      refine T_X10_enough (m_well O.2.1 J1.2.1 ⟨fun _ => m_enough J1 O (fun M3 r f3 J3 hr => ?_), fun w => absurd w q2⟩)
      refine ⟨?_, h, s, t, n, tp, x, kx, I1.far O f3, J3, O⟩
      rcases hr with ⟨h1, _⟩ | ⟨l', _, en'⟩
      · exact h1.symm
      · exact absurd (MV_uniq (BT_MV B1) (zx l' en'.1)) q
  · exact T_X10_enough (m_well O.2.1 J.2.1 ⟨fun w => absurd q2 w, fun _ => ⟨rfl, same⟩⟩)
