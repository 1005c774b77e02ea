/-! ===== suspects ===== -/
def els (h : HS) (t : TS) (L : Nat → Bool) (w o u : Nat) : Bool := anyN (fun r => decide (r ≠ t.2.2.2.2.2.1) && wy h t L w o u r) h.1
def susU (h : HS) (t : TS) (L : Nat → Bool) (w one u : Nat) : Bool := wy h t L w one u t.2.2.2.2.2.1 && allN (fun o => decide (o = one) || els h t L w o u) t.1
def suB (h : HS) (t : TS) (L : Nat → Bool) (w one : Nat) : Bool := anyN (fun u => decide (t.2.2.2.2.2.2.1 ≤ u) && susU h t L w one u) (t.2.2.2.2.2.2.2 + 1)
theorem els_0 {h : HS} {t : TS} {L : Nat → Bool} {w o u : Nat} (O : HO h) (hu : u ≤ 23) : (mk (wy h t L w o u) &&& mk (fun i => !decide (i = t.2.2.2.2.2.1)) = 0) = (els h t L w o u = false) := by
  have hR := O.1
  rw [mk_and, mk_eq0]
  unfold els
  rw [anyN_f]
  refine propext ⟨fun q i hi => ?_, fun q i hi => ?_⟩
  · have := q i (by omega)
    rw [Bool.and_comm] at this
    rw [← this]
    simp
  · cases hw : wy h t L w o u i with
    | false => rfl
    | true =>
      have := q i (fw_al (wy_fw hu hw)).1
      rw [hw, Bool.and_true, decide_eq_false_iff_not] at this
      have : i = t.2.2.2.2.2.1 := Classical.not_not.mp this
      simp [this]
theorem s_others {h : HS} {t : TS} (O : HO h) (TO' : TO t h.1) (st : t.2.2.2.2.1 = true) {M : Mem} (H : HC 1 M h) (T : TC 37 M t) (W : WY M h) {w x one u : Nat} (h1 : one < t.1) (hu : u < 24) (P : PNs M h t w x) {Q : Int32 → Mem → Prop} (k : Q (bI (allN (fun o => decide (o = one) || els h t (tb_ x) w o u) t.1)) M) : C_X1_othersMayBeElsewhere M (nI one) (nI u) Q := by
  have hF := TO'.1
  have hR := O.1
  have ht := TO'.2.2.2.2 st
  have e3 : M 37 3 = nI t.2.2.2.2.2.1 := (T.2.2.2.1 st).1
  have key : ∀ n o, o + n = t.1 → allN (fun o => decide (o = one) || els h t (tb_ x) w o u) o = true → P_X1_othersMayBeElsewhere_2 M (nI one) (nI u) (nI o) Q := by
    intro n
    induction n with
    | zero =>
      intro o ho ha
      have : o = t.1 := by omega
      subst this
      refine T_X1_othersMayBeElsewhere_2 ?_
      rw [T.1, n_le (by omega) (by omega)]
      rw [ha] at k
      exact ⟨fun _ => k, fun q => by omega⟩
    | succ n ih =>
      intro o ho ha
      have z := ih (o + 1) (by omega)
      simp only [allN, ha, Bool.true_and] at z
      refine T_X1_othersMayBeElsewhere_2 ?_
      rw [T.1, n_le (by omega) (by omega), n_eq (by omega) (by omega), n_add]
      refine ⟨fun q => by omega, fun _ => ⟨fun q => z (by simp [q]), fun q => ?_⟩⟩
      refine s_roomsOf O TO' H T W (show o < t.1 by omega) hu P ?_
      rw [e3, mk_one (by omega), mk_not, els_0 O (by omega)]
      refine ⟨fun q2 => z (by rw [Bool.not_eq_false] at q2; rw [q2]; simp), fun q2 => ?_⟩
      have : allN (fun o => decide (o = one) || els h t (tb_ x) w o u) t.1 = false := allN_f.mpr ⟨o, by omega, by rw [q2, decide_eq_false q]; rfl⟩
      rw [this] at k
      exact k
  exact T_X1_othersMayBeElsewhere (key t.1 0 (by omega) rfl)
theorem s_isSuspect {h : HS} {t : TS} (O : HO h) (TO' : TO t h.1) (st : t.2.2.2.2.1 = true) {M : Mem} (H : HC 1 M h) (T : TC 37 M t) (W : WY M h) {w x one : Nat} (h1 : one < t.1) (P : PNs M h t w x) {Q : Int32 → Mem → Prop} (k : Q (bI (suB h t (tb_ x) w one)) M) : C_X1_isSuspect M (nI one) Q := by
  have hF := TO'.1
  have hR := O.1
  have ht := TO'.2.2.2.2 st
  obtain ⟨e3, e4, e5⟩ := T.2.2.2.1 st
  have e3 : M 37 3 = nI t.2.2.2.2.2.1 := e3
  have e4 : M 37 4 = nI t.2.2.2.2.2.2.1 := e4
  have e5 : M 37 5 = nI t.2.2.2.2.2.2.2 := e5
  have key : ∀ n u, u + n = t.2.2.2.2.2.2.2 + 1 → t.2.2.2.2.2.2.1 ≤ u → anyN (fun u => decide (t.2.2.2.2.2.2.1 ≤ u) && susU h t (tb_ x) w one u) u = false → P_X1_isSuspect_8 M (nI one) (nI u) Q := by
    intro n
    induction n with
    | zero =>
      intro u hu hfu ha
      have e : u = t.2.2.2.2.2.2.2 + 1 := by omega
      subst e
      refine T_X1_isSuspect_8 ?_
      rw [e5, n_lt (by omega) (by omega)]
      unfold suB at k
      rw [ha] at k
      exact ⟨fun _ => k, fun q => by omega⟩
    | succ n ih =>
      intro u hu hfu ha
      have z := ih (u + 1) (by omega) (by omega)
      simp only [anyN, ha, Bool.false_or, decide_eq_true hfu, Bool.true_and] at z
      have yes : susU h t (tb_ x) w one u = true → Q (nI 1) M := by
        intro q
        have : suB h t (tb_ x) w one = true := anyN_iff.mpr ⟨u, by omega, by rw [q, decide_eq_true hfu]; rfl⟩
        rw [this] at k; exact k
      refine T_X1_isSuspect_8 ?_
      rw [e5, n_lt (by omega) (by omega), n_add]
      refine ⟨fun q => by omega, fun _ => ?_⟩
      refine s_roomsOf O TO' H T W h1 (by omega) P ?_
      rw [e3, mk_test _ (by omega)]
      refine br (fun q => z (by unfold susU; rw [q]; rfl)) (fun q => ?_)
      refine s_others O TO' st H T W h1 (by omega) P (br (fun q2 => z (by unfold susU; rw [q, q2]; rfl)) (fun q2 => yes (by unfold susU; rw [q, q2]; rfl)))
  refine T_X1_isSuspect ?_
  rw [e4]
  refine key (t.2.2.2.2.2.2.2 + 1 - t.2.2.2.2.2.2.1) _ (by omega) (Nat.le_refl _) ?_
  rw [anyN_f]
  intro i hi
  rw [decide_eq_false (by omega)]; rfl
/-! ===== the reference's suspects ===== -/
theorem bI_nat (b : Bool) : bI b = nI b.toNat := by cases b <;> rfl
def nv (h : HS) (t : TS) (L : Nat → Bool) (w f u : Nat) : Nat := (wy h t L w f u t.2.2.2.2.2.1).toNat + 2 * (els h t L w f u).toNat
theorem m_suspectsBut {h : HS} {t : TS} (O : HO h) (hR0 : 0 < h.1) (TO' : TO t h.1) (st : t.2.2.2.2.1 = true) {M0 : Mem} (H0 : HM M0 h) (T0 : TM M0 t) (w : Nat) {Q : Int32 → Mem → Prop}
    (K : ∀ M' x, (∀ c k, c ≠ 203 → c ≠ 204 → M' c k = M0 c k) → LI h t w x → Q (mk (fun f => decide (f < t.1) && suB h t (tb_ x) w f)) M') : C_X10_suspectsBut M0 (wM w) Q := by
  have hF := TO'.1
  have hR := O.1
  have ht := TO'.2.2.2.2 st
  have good : ∀ M : Mem, (∀ c k, c ≠ 203 → c ≠ 204 → M c k = M0 c k) → HM M h ∧ TM M t := fun M f => ⟨H0.congr (fun c k q => f c k (by omega) (by omega)), T0.congr (fun c k q => f c k (by omega) (by omega))⟩
  have val' : ∀ M : Mem, (∀ c k, c ≠ 203 → c ≠ 204 → M c k = M0 c k) → M 182 32 = nI t.2.2.2.2.2.1 ∧ M 182 33 = nI t.2.2.2.2.2.2.1 ∧ M 182 34 = nI t.2.2.2.2.2.2.2 := fun M f => by
    have T := (good M f).2
    have e := T.2.2.1
    rw [if_pos st] at e
    exact ⟨e, T.2.2.2.1 st⟩
  refine T_X10_suspectsBut (m_liarsBut O hR0 TO' H0 T0 w (fun M1 x f1 li => ?_))
  have hx32 : x < 32 := by
    have := (pow_f hF).1
    have := li.1
    omega
  have nvb : ∀ f u, nv h t (tb_ x) w f u < 4 := fun f u => by
    have a := Bool.toNat_le (wy h t (tb_ x) w f u t.2.2.2.2.2.1)
    have b := Bool.toNat_le (els h t (tb_ x) w f u)
    unfold nv; omega
  have nv1 : ∀ f u, nv h t (tb_ x) w f u % 2 = (wy h t (tb_ x) w f u t.2.2.2.2.2.1).toNat := fun f u => by
    have a := Bool.toNat_le (wy h t (tb_ x) w f u t.2.2.2.2.2.1)
    unfold nv; omega
  have nv2 : ∀ f u, (nv h t (tb_ x) w f u ≤ 1) = (els h t (tb_ x) w f u = false) := fun f u => by
    have a := Bool.toNat_le (wy h t (tb_ x) w f u t.2.2.2.2.2.1)
    unfold nv
    cases els h t (tb_ x) w f u
    · simp; omega
    · simp
  -- the sum over ticks and folk
  have fin : ∀ M : Mem, (∀ c k, c ≠ 203 → c ≠ 204 → M c k = M0 c k) → (∀ f, f < t.1 → ∀ u, u < 24 → M 204 (24 * f + u) = nI (nv h t (tb_ x) w f u)) → P_X10_suspectsBut_105 M (nI 0) (nI t.2.2.2.2.2.2.1) Q := by
    intro M f2 hn
    obtain ⟨H, T⟩ := good M f2
    obtain ⟨v1, v2, v3⟩ := val' M f2
    have k155 : ∀ n o u f (P : Nat → Bool), o + n = t.1 → u < 24 → f < t.1 → (P_X10_suspectsBut_117 M (mk (fun y => P y || (decide (y = f) && susU h t (tb_ x) w f u))) (nI u) (nI (f + 1)) Q) → P_X10_suspectsBut_155 M (mk P) (nI u) (nI f) (bI (wy h t (tb_ x) w f u t.2.2.2.2.2.1 && allN (fun o => decide (o = f) || els h t (tb_ x) w o u) o)) (nI o) Q := by
      intro n
      induction n with
      | zero =>
        intro o u f P ho hu hf K2
        have : o = t.1 := by omega
        subst this
        have es : (wy h t (tb_ x) w f u t.2.2.2.2.2.1 && allN (fun o => decide (o = f) || els h t (tb_ x) w o u) t.1) = susU h t (tb_ x) w f u := rfl
        rw [es]
        refine T_X10_suspectsBut_155 ?_
        rw [T.1, n_le (by omega) (by omega), n_add]
        refine ⟨fun _ => br (fun q => ?_) (fun q => ?_), fun q => by omega⟩
        · rw [mk_0, mk_or]
          simp only [q, Bool.and_false] at K2
          exact K2
        · rw [mk_one (by omega), mk_or]
          simp only [q, Bool.and_true] at K2
          exact K2
      | succ n ih =>
        intro o u f P ho hu hf K2
        have z := ih (o + 1) u f P (by omega) hu hf K2
        simp only [allN] at z
        refine T_X10_suspectsBut_155 ?_
        rw [T.1, n_le (by omega) (by omega)]
        simp only [n_mul, n_add]
        refine ⟨fun q => by omega, fun _ => br (fun q => ?_) (fun q => ?_)⟩
        · rw [← Bool.and_assoc, q, Bool.false_and] at z
          exact z
        · rw [← Bool.and_assoc, q, Bool.true_and] at z
          rw [n_eq (by omega) (by omega)]
          refine ⟨fun q2 => ?_, fun q2 => ?_⟩
          · rw [decide_eq_true q2, Bool.true_or] at z; exact z
          · rw [decide_eq_false q2, Bool.false_or] at z
            have := nvb o u
            rw [vin (by omega), ix_n (by omega), hn o (by omega) u hu, n_le (by omega) (by omega), nv2]
            refine ⟨by omega, fun q3 => ?_, fun q3 => ?_⟩
            · rw [q3] at z; exact z
            · rw [Bool.not_eq_false] at q3; rw [q3] at z; exact z
    have k117 : ∀ n f u (P : Nat → Bool), f + n = t.1 → u < 24 → (P_X10_suspectsBut_105 M (mk (fun y => P y || (decide (y < t.1) && susU h t (tb_ x) w y u))) (nI (u + 1)) Q) → P_X10_suspectsBut_117 M (mk (fun y => P y || (decide (y < f) && susU h t (tb_ x) w y u))) (nI u) (nI f) Q := by
      intro n
      induction n with
      | zero =>
        intro f u P hf hu K2
        have : f = t.1 := by omega
        subst this
        refine T_X10_suspectsBut_117 ?_
        rw [T.1, n_le (by omega) (by omega), n_add]
        exact ⟨fun _ => K2, fun q => by omega⟩
      | succ n ih =>
        intro f u P hf hu K2
        have z := ih (f + 1) u P (by omega) hu K2
        have hf' : f < t.1 := by omega
        have hnv := nvb f u
        have zz : ∀ b : Bool, b = wy h t (tb_ x) w f u t.2.2.2.2.2.1 → P_X10_suspectsBut_155 M (mk (fun y => P y || (decide (y < f) && susU h t (tb_ x) w y u))) (nI u) (nI f) (bI b) (nI 0) Q := by
          intro b hb
          have y := k155 t.1 0 u f (fun y => P y || (decide (y < f) && susU h t (tb_ x) w y u)) (by omega) hu hf' (by
            rw [show (mk fun y => (P y || (decide (y < f) && susU h t (tb_ x) w y u)) || (decide (y = f) && susU h t (tb_ x) w f u)) = mk (fun y => P y || (decide (y < f + 1) && susU h t (tb_ x) w y u)) from mk_ext (fun y _ => by
              by_cases e : y = f
              · subst e; simp
              · simp [e, show (y < f + 1) = (y < f) from by rw [eq_iff_iff]; omega])]
            exact z)
          simp only [allN, Bool.and_true] at y
          rw [hb]; exact y
        refine T_X10_suspectsBut_117 ?_
        rw [T.1, n_le (by omega) (by omega)]
        simp only [n_mul, n_add]
        rw [vin (by omega), ix_n (by omega), hn f hf' u hu, n_r (by omega), n_eq (by omega) (by omega), nv1]
        refine ⟨fun q => by omega, fun _ => ⟨by omega, fun q => zz false ?_, fun q => zz true ?_⟩⟩
        · cases hq : wy h t (tb_ x) w f u t.2.2.2.2.2.1 with
          | false => rfl
          | true => rw [hq] at q; exact absurd rfl q
        · cases hq : wy h t (tb_ x) w f u t.2.2.2.2.2.1 with
          | false => rw [hq] at q; cases q
          | true => rfl
    have k105 : ∀ n u, u + n = t.2.2.2.2.2.2.2 + 1 → t.2.2.2.2.2.2.1 ≤ u → P_X10_suspectsBut_105 M (mk (fun f => decide (f < t.1) && anyN (fun u => decide (t.2.2.2.2.2.2.1 ≤ u) && susU h t (tb_ x) w f u) u)) (nI u) Q := by
      intro n
      induction n with
      | zero =>
        intro u hu hfu
        have e : u = t.2.2.2.2.2.2.2 + 1 := by omega
        subst e
        refine T_X10_suspectsBut_105 ?_
        rw [v3, n_lt (by omega) (by omega)]
        exact ⟨fun _ => K M x f2 li, fun q => by omega⟩
      | succ n ih =>
        intro u hu hfu
        have z := ih (u + 1) (by omega) (by omega)
        refine T_X10_suspectsBut_105 ?_
        rw [v3, n_lt (by omega) (by omega)]
        refine ⟨fun q => by omega, fun _ => ?_⟩
        have y := k117 t.1 0 u (fun f => decide (f < t.1) && anyN (fun u => decide (t.2.2.2.2.2.2.1 ≤ u) && susU h t (tb_ x) w f u) u) (by omega) (by omega) (by
          rw [show (mk fun y => (decide (y < t.1) && anyN (fun u => decide (t.2.2.2.2.2.2.1 ≤ u) && susU h t (tb_ x) w y u) u) || (decide (y < t.1) && susU h t (tb_ x) w y u)) = mk (fun f => decide (f < t.1) && anyN (fun u => decide (t.2.2.2.2.2.2.1 ≤ u) && susU h t (tb_ x) w f u) (u + 1)) from mk_ext (fun y _ => by
            simp only [anyN, decide_eq_true hfu, Bool.true_and]
            cases decide (y < t.1) <;> simp)]
          exact z)
        rw [show (mk fun y => (decide (y < t.1) && anyN (fun u => decide (t.2.2.2.2.2.2.1 ≤ u) && susU h t (tb_ x) w y u) u) || (decide (y < 0) && susU h t (tb_ x) w y u)) = mk (fun f => decide (f < t.1) && anyN (fun u => decide (t.2.2.2.2.2.2.1 ≤ u) && susU h t (tb_ x) w f u) u) from mk_ext (fun y _ => by simp)] at y
        exact y
    have z := k105 (t.2.2.2.2.2.2.2 + 1 - t.2.2.2.2.2.2.1) _ (by omega) (Nat.le_refl _)
    rw [show (mk fun f => decide (f < t.1) && anyN (fun u => decide (t.2.2.2.2.2.2.1 ≤ u) && susU h t (tb_ x) w f u) t.2.2.2.2.2.2.1) = nI 0 from by
      rw [mk_0]
      refine mk_ext (fun f _ => ?_)
      rw [anyN_f.mpr (fun i hi => by rw [decide_eq_false (by omega)]; rfl), Bool.and_false]] at z
    exact z
  have k27 : ∀ n u f (M : Mem), u + n = 24 → f < t.1 → (∀ c k, c ≠ 203 → c ≠ 204 → M c k = M0 c k) → (∀ u, u < 24 → M 203 u = mk (wy h t (tb_ x) w f u)) → (∀ g, g < f → ∀ u, u < 24 → M 204 (24 * g + u) = nI (nv h t (tb_ x) w g u)) → (∀ v, v < u → M 204 (24 * f + v) = nI (nv h t (tb_ x) w f v)) →
      (∀ M', (∀ c k, c ≠ 203 → c ≠ 204 → M' c k = M0 c k) → (∀ g, g < f + 1 → ∀ u, u < 24 → M' 204 (24 * g + u) = nI (nv h t (tb_ x) w g u)) → P_X10_suspectsBut_8 M' (wM w) (nI x) (nI (f + 1)) Q) → P_X10_suspectsBut_27 M (wM w) (nI x) (nI f) (nI u) Q := by
    intro n
    induction n with
    | zero =>
      intro u f M hu hf hfr hw hg hv K2
      refine T_X10_suspectsBut_27 ?_
      rw [n_le (by omega) (by omega), n_add]
      refine ⟨fun _ => K2 M hfr (fun g hg' u' hu' => ?_), fun q => by omega⟩
      by_cases e : g = f
      · subst e; exact hv u' (by omega)
      · exact hg g (by omega) u' hu'
    | succ n ih =>
      intro u f M hu hf hfr hw hg hv K2
      obtain ⟨v1, v2, v3⟩ := val' M hfr
      have step : ∀ v, v = nI (nv h t (tb_ x) w f u) → P_X10_suspectsBut_27 (wr M 204 (24 * f + u) v) (wM w) (nI x) (nI f) (nI (u + 1)) Q := by
        intro v hv2
        refine ih (u + 1) f _ (by omega) hf (fun c k q1 q2 => by rw [wr_nc _ _ _ _ q2]; exact hfr c k q1 q2) (fun u' hu' => by rw [wr_nc _ _ _ _ (by omega)]; exact hw u' hu') (fun g hg' u' hu' => by rw [wr_nk _ _ _ _ (by omega)]; exact hg g hg' u' hu') (fun v' hv' => ?_) K2
        by_cases e : v' = u
        · subst e; rw [wr_eq]; exact hv2
        · rw [wr_nk _ _ _ _ (by omega)]; exact hv v' (by omega)
      refine T_X10_suspectsBut_27 ?_
      rw [n_le (by omega) (by omega), v1]
      simp only [n_mul]
      rw [n_add (24 * f) u, n_add u 1, vin (by omega), vin (by omega)]
      simp (disch := omega) only [ix_n]
      rw [hw u (by omega), mk_one (by omega), mk_not, els_0 O (by omega), mk_test _ (by omega)]
      refine ⟨fun q => by omega, fun _ => ⟨by omega, fun q => ⟨by omega, step _ ?_⟩, fun q => ⟨by omega, step _ ?_⟩⟩⟩
      · unfold nv; rw [q, bI_nat, n_add]; rfl
      · rw [Bool.not_eq_false] at q
        unfold nv; rw [q, bI_nat, n_add]; rfl
  have k8 : ∀ n f (M : Mem), f + n = t.1 → (∀ c k, c ≠ 203 → c ≠ 204 → M c k = M0 c k) → (∀ g, g < f → ∀ u, u < 24 → M 204 (24 * g + u) = nI (nv h t (tb_ x) w g u)) → P_X10_suspectsBut_8 M (wM w) (nI x) (nI f) Q := by
    intro n
    induction n with
    | zero =>
      intro f M hf hfr hg
      obtain ⟨H, T⟩ := good M hfr
      obtain ⟨v1, v2, v3⟩ := val' M hfr
      refine T_X10_suspectsBut_8 ?_
      rw [T.1, n_le (by omega) (by omega), v2]
      exact ⟨fun _ => fin M hfr (fun g hg' => hg g (by omega)), fun q => by omega⟩
    | succ n ih =>
      intro f M hf hfr hg
      obtain ⟨H, T⟩ := good M hfr
      refine T_X10_suspectsBut_8 ?_
      rw [T.1, n_le (by omega) (by omega)]
      refine ⟨fun q => by omega, fun _ => ?_⟩
      rw [show C_X10_goes M (nI f) (nI x) = C_X10_goes M (nI f) (mk (tb_ x)) from by rw [nI_mk x hx32]]
      refine m_goes O TO' H T (show f < t.1 by omega) (fun M2 f2 w2 => ?_)
      refine k27 24 0 f M2 rfl (by omega) (fun c k q1 q2 => by rw [f2 c k q1]; exact hfr c k q1 q2) w2 (fun g hg' u hu => by rw [f2 _ _ (by omega)]; exact hg g hg' u hu) (fun v hv => by omega) (fun M3 f3 g3 => ih (f + 1) M3 (by omega) f3 g3)
  exact k8 t.1 0 M1 (by omega) (fun c k q1 _ => f1 c k q1) (fun g hg => by omega)
