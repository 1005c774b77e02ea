/-! ===== the reference's inquiry ===== -/
def wM (w : Nat) : Int32 := if w < 12 then nI w else -4
theorem wM_eq {k w : Nat} (hk : k < 12) : (nI k = wM w) = (k = w) := by
  unfold wM
  by_cases q : w < 12
  · rw [if_pos q, n_eq (by omega) (by omega)]
  · rw [if_neg q]
    refine propext ⟨fun e => ?_, fun e => by omega⟩
    have := nI_pos (n := k) (by omega)
    rw [e] at this
    exact absurd (by decide) this
def dr (h : HS) (bk : Bool) (a b : Nat) : Bool := decide (h.2.2.2.1 a b = 1) || (bk && decide (h.2.2.2.1 a b = 2))
theorem dr_lt {h : HS} (O : HO h) {bk : Bool} {a b : Nat} (hd : dr h bk a b = true) : b < h.1 := by
  obtain ⟨_, _, _, o4, _, o6, _⟩ := O
  simp only [dr, Bool.or_eq_true, Bool.and_eq_true, decide_eq_true_eq] at hd
  exact o6 b a (by rw [o4 b a]; omega)
theorem m_around {h : HS} (O : HO h) {M : Mem} (H : HM M h) {S : Nat → Bool} (hS : ∀ i, S i = true → i < h.1) {kd : Nat} (hk : kd ≤ 1) {bk : Bool} (hb0 : bk = decide (kd ≠ 0)) {Q : Int32 → Mem → Prop} (k : Q (mk (fun b => anyN (fun a => S a && nb h bk a b) h.1)) M) : C_X10_around M (mk S) (nI kd) Q := by
  have hR := O.1
  have k17 : ∀ n b a, b + n = h.1 → a < h.1 → S a = true → P_X10_around_5 M (mk S) (nI kd) (mk (fun y => S y || anyN (fun a => S a && dr h bk a y) (a + 1))) (nI (a + 1)) Q → P_X10_around_17 M (mk S) (nI kd) (mk (fun y => (S y || anyN (fun a => S a && dr h bk a y) a) || (decide (y < b) && dr h bk a y))) (nI a) (nI b) Q := by
    intro n
    induction n with
    | zero =>
      intro b a hb ha hSa K2
      refine T_X10_around_17 ?_
      rw [H.1, n_le (by omega) (by omega), n_add]
      refine ⟨fun _ => ?_, fun q => by omega⟩
      rw [show (mk fun y => (S y || anyN (fun a => S a && dr h bk a y) a) || (decide (y < b) && dr h bk a y)) = mk (fun y => S y || anyN (fun a => S a && dr h bk a y) (a + 1)) from mk_ext (fun y _ => by
        simp only [anyN, hSa, Bool.true_and, Bool.or_assoc]
        congr 2
        cases hd : dr h bk a y with
        | false => simp
        | true => have := dr_lt O hd; simp; omega)]
      exact K2
    | succ n ih =>
      intro b a hb ha hSa K2
      have e1 := H.2.2.2.1 a (by omega) b (by omega)
      have z := ih (b + 1) a (by omega) ha hSa K2
      have o3 := O.2.2.1 a b
      have no : dr h bk a b = false → (mk fun y => (S y || anyN (fun a => S a && dr h bk a y) a) || (decide (y < b) && dr h bk a y)) ||| nI 0 = mk (fun y => (S y || anyN (fun a => S a && dr h bk a y) a) || (decide (y < b + 1) && dr h bk a y)) := by
        intro hd
        rw [mk_0, mk_or]
        refine mk_ext (fun y _ => ?_)
        by_cases e : y = b
        · subst e; simp [hd]
        · simp [show (y < b + 1) = (y < b) from by rw [eq_iff_iff]; omega]
      refine T_X10_around_17 ?_
      rw [H.1, n_le (by omega) (by omega), mk_test _ (by omega), hSa]
      simp only [n_mul, n_add]
      rw [vin (by omega), ix_n (by omega), e1, dkI_neg]
      refine ⟨fun q => by omega, fun _ => ⟨fun q => absurd rfl q, fun _ => ⟨by omega, fun q => ?_, fun q => ⟨fun q2 => ?_, fun q2 => ?_⟩⟩⟩⟩
      · rw [no (by simp [dr, q])]
        exact z
      · have hd2 : h.2.2.2.1 a b = 2 ∧ kd = 0 := by
          rcases (show h.2.2.2.1 a b = 1 ∨ h.2.2.2.1 a b = 2 by omega) with e | e
          · rw [e] at q2
            exact absurd q2 (nI_pos (n := kd) (by omega))
          · rw [e] at q2
            have := (n_lt (a := kd) (b := 1) (by omega) (by omega)).mp q2
            exact ⟨e, by omega⟩
        rw [no (by simp [dr, hd2.1, hb0, hd2.2])]
        exact z
      · have hd : dr h bk a b = true := by
          rcases (show h.2.2.2.1 a b = 1 ∨ h.2.2.2.1 a b = 2 by omega) with e | e
          · simp [dr, e]
          · rw [e] at q2
            have : ¬ kd < 1 := fun w => q2 ((n_lt (a := kd) (b := 1) (by omega) (by omega)).mpr w)
            simp [dr, e, hb0]; omega
        rw [mk_one (by omega), mk_or]
        rw [show (mk fun i => ((S i || anyN (fun a => S a && dr h bk a i) a) || (decide (i < b) && dr h bk a i)) || decide (i = b)) = mk (fun y => (S y || anyN (fun a => S a && dr h bk a y) a) || (decide (y < b + 1) && dr h bk a y)) from mk_ext (fun y _ => by
          by_cases e : y = b
          · subst e; simp [hd]
          · simp [e, show (y < b + 1) = (y < b) from by rw [eq_iff_iff]; omega])]
        exact z
  have k5 : ∀ n a, a + n = h.1 → P_X10_around_5 M (mk S) (nI kd) (mk (fun y => S y || anyN (fun a => S a && dr h bk a y) a)) (nI a) Q := by
    intro n
    induction n with
    | zero =>
      intro a ha
      have : a = h.1 := by omega
      subst this
      refine T_X10_around_5 ?_
      rw [H.1, n_le (by omega) (by omega)]
      refine ⟨fun _ => ?_, fun q => by omega⟩
      rw [show (mk fun y => S y || anyN (fun a => S a && dr h bk a y) h.1) = mk (fun b => anyN (fun a => S a && nb h bk a b) h.1) from mk_ext (fun y _ => by
        apply b_of
        rw [Bool.or_eq_true, anyN_iff, anyN_iff]
        constructor
        · rintro (q | ⟨i, hi, q⟩)
          · exact ⟨y, hS y q, by rw [q, nb_self]; rfl⟩
          · rw [Bool.and_eq_true] at q
            refine ⟨i, hi, ?_⟩
            have := q.2
            unfold dr at this
            unfold nb
            rw [q.1, this]; simp
        · rintro ⟨i, hi, q⟩
          rw [Bool.and_eq_true] at q
          have q2 := q.2
          unfold nb at q2
          rw [Bool.or_eq_true, decide_eq_true_eq] at q2
          rcases q2 with q2 | q2
          · subst q2; exact Or.inl q.1
          · exact Or.inr ⟨i, hi, by unfold dr; rw [q.1, q2]; rfl⟩)]
      exact k
    | succ n ih =>
      intro a ha
      have next := ih (a + 1) (by omega)
      refine T_X10_around_5 ?_
      rw [H.1, n_le (by omega) (by omega)]
      refine ⟨fun q => by omega, fun _ => ?_⟩
      cases hSa : S a with
      | false =>
        refine T_X10_around_17 ?_
        rw [H.1, n_le (by omega) (by omega), mk_test _ (by omega), hSa, n_add]
        refine ⟨fun q => by omega, fun _ => ⟨fun _ => ?_, fun q => absurd q (by decide)⟩⟩
        rw [show (mk fun y => S y || anyN (fun a => S a && dr h bk a y) a) = mk (fun y => S y || anyN (fun a => S a && dr h bk a y) (a + 1)) from mk_ext (fun y _ => by simp [anyN, hSa])]
        exact next
      | true =>
        have z := k17 h.1 0 a (by omega) (by omega) hSa next
        rw [show (mk fun y => (S y || anyN (fun a => S a && dr h bk a y) a) || (decide (y < 0) && dr h bk a y)) = mk (fun y => S y || anyN (fun a => S a && dr h bk a y) a) from mk_ext (fun y _ => by simp)] at z
        exact z
  refine T_X10_around ?_
  have z := k5 h.1 0 (by omega)
  rw [show (mk fun y => S y || anyN (fun a => S a && dr h bk a y) 0) = mk S from mk_ext (fun y _ => by simp [anyN])] at z
  exact z
def exW (h : HS) (t : TS) (L : Nat → Bool) (w one : Nat) : Bool := anyN (wy h t L w one 0) h.1
theorem exW_iff {h : HS} {t : TS} {L : Nat → Bool} {w one : Nat} : exW h t L w one = true ↔ ∃ r, wy h t L w one 0 r = true := by
  unfold exW
  rw [anyN_iff]
  exact ⟨fun ⟨r, _, hr⟩ => ⟨r, hr⟩, fun ⟨r, hr⟩ => ⟨r, (fw_al (wy_fw (by omega) hr)).1, hr⟩⟩
theorem m_goes {h : HS} {t : TS} (O : HO h) (TO' : TO t h.1) {M0 : Mem} (H0 : HM M0 h) (T0 : TM M0 t) {L : Nat → Bool} {w one : Nat} (h1 : one < t.1) {Q : Int32 → Mem → Prop}
    (K : ∀ M', (∀ c k, c ≠ 203 → M' c k = M0 c k) → (∀ u, u < 24 → M' 203 u = mk (wy h t L w one u)) → Q (bI (exW h t L w one)) M') : C_X10_goes M0 (nI one) (mk L) (wM w) Q := by
  have hF := TO'.1
  have hR := O.1
  have hY := TO'.2.1
  have good : ∀ M : Mem, (∀ c k, c ≠ 203 → M c k = M0 c k) → HM M h ∧ TM M t := fun M f => ⟨H0.only 203 (by omega) f, T0.congr (fun c k q => f c k (by omega))⟩
  have hk := TO'.2.2.1 one h1
  have ebk : decide (t.2.1 one ≠ 0) = bkf t one := rfl
  have k196 : ∀ m (M : Mem), m ≤ 23 → (∀ c k, c ≠ 203 → M c k = M0 c k) → (∀ u, u < m → M 203 u = mk (fw h t L w one u)) → (∀ u, m ≤ u → u < 24 → M 203 u = mk (wy h t L w one u)) → P_X10_goes_196 M (nI one) (nI m + (-1)) Q := by
    intro m
    induction m with
    | zero =>
      intro M hm hf h2 h3
      refine T_X10_goes_196 ?_
      rw [n_m1lt0 (by omega), ix_n (by omega), h3 0 (by omega) (by omega), mk_eq0]
      have kk := K M hf (fun u hu => h3 u (by omega) hu)
      refine ⟨fun _ => ⟨fun q => ?_, fun q => ?_⟩, fun q => absurd rfl q⟩
      · have : exW h t L w one = false := by
          unfold exW
          rw [anyN_f]
          intro i hi
          exact q i (by omega)
        rw [this] at kk; exact kk
      · have : exW h t L w one = true := by
          cases he : exW h t L w one with
          | true => rfl
          | false =>
            exfalso
            apply q
            intro i _
            cases hi : wy h t L w one 0 i with
            | false => rfl
            | true => rw [exW_iff.mpr ⟨i, hi⟩] at he; cases he
        rw [this] at kk; exact kk
    | succ m ih =>
      intro M hm hf h2 h3
      obtain ⟨H, T⟩ := good M hf
      have ek : M 200 one = nI (t.2.1 one) := T.2.2.2.2.1 one h1
      refine T_X10_goes_196 ?_
      rw [n_m1lt0 (by omega), n_m1 (by omega), Nat.add_sub_cancel, n_add, vin (by omega), vin (by omega), vin (by omega)]
      simp (disch := omega) only [ix_n]
      rw [ek, h3 (m + 1) (by omega) (by omega), h2 m (by omega)]
      refine ⟨fun q => by omega, fun _ => ⟨by omega, by omega, by omega, ?_⟩⟩
      refine m_around O H (fun i hi => (fw_al (wy_fw (by omega) hi)).1) hk ebk.symm ?_
      rw [mk_and]
      refine ih _ (by omega) (fun c k hc => by rw [wr_nc _ _ _ _ hc]; exact hf c k hc) (fun u hu => by rw [wr_nk _ _ _ _ (by omega)]; exact h2 u (by omega)) (fun u q1 q2 => ?_)
      by_cases e : u = m
      · subst e
        rw [wr_eq]
        refine mk_ext (fun r _ => ?_)
        unfold wy
        rw [show 23 - u = (23 - (u + 1)) + 1 by omega]
        show _ = (fw h t L w one (23 - (23 - (u + 1) + 1)) r && anyN _ _)
        rw [show 23 - (23 - (u + 1) + 1) = u by omega]
      · rw [wr_nk _ _ _ _ e]; exact h3 u (by omega) q2
  have k150 : ∀ n v (M : Mem), v + n = 24 → 1 ≤ v → (∀ c k, c ≠ 203 → M c k = M0 c k) → (∀ u, u < v → M 203 u = mk (fw h t L w one u)) → (∀ u, v ≤ u → u < 24 → M 203 u = mk (fun r => decide (r < h.1) && al t L w one u r)) → P_X10_goes_150 M (nI one) (nI v) Q := by
    intro n
    induction n with
    | zero =>
      intro v M hv hv1 hf h2 h3
      refine T_X10_goes_150 ?_
      rw [n_le (by omega) (by omega)]
      refine ⟨fun _ => ?_, fun q => by omega⟩
      have z := k196 23 M (Nat.le_refl _) hf (fun u hu => h2 u (by omega)) (fun u q1 q2 => by
        have : u = 23 := by omega
        subst this
        exact h2 23 (by omega))
      rw [n_m1 (by omega)] at z
      exact z
    | succ n ih =>
      intro v M hv hv1 hf h2 h3
      obtain ⟨H, T⟩ := good M hf
      have ek : M 200 one = nI (t.2.1 one) := T.2.2.2.2.1 one h1
      refine T_X10_goes_150 ?_
      rw [n_le (by omega) (by omega), n_sub (by omega), n_add, vin (by omega), vin (by omega), vin (by omega), ix_n (by omega), ix_n (by omega), ix_n (by omega), ek, h2 (v - 1) (by omega), h3 v (Nat.le_refl _) (by omega)]
      refine ⟨fun q => by omega, fun _ => ⟨by omega, by omega, by omega, ?_⟩⟩
      refine m_around O H (fun i hi => (fw_al hi).1) hk ebk.symm ?_
      rw [mk_and]
      refine ih (v + 1) _ (by omega) (by omega) (fun c k hc => by rw [wr_nc _ _ _ _ hc]; exact hf c k hc) (fun u hu => ?_) (fun u q1 q2 => by rw [wr_nk _ _ _ _ (by omega)]; exact h3 u (by omega) q2)
      by_cases e : u = v
      · subst e
        rw [wr_eq]
        refine mk_ext (fun r _ => ?_)
        obtain ⟨m, rfl⟩ : ∃ m, u = m + 1 := ⟨u - 1, by omega⟩
        rw [Nat.add_sub_cancel]
        rfl
      · rw [wr_nk _ _ _ _ e]; exact h2 u (by omega)
  have k34 : ∀ n k (M : Mem), k + n = t.2.2.1 → (∀ c k, c ≠ 203 → M c k = M0 c k) → (∀ u, u < 24 → M 203 u = mk (fun r => decide (r < h.1) && alk t L w one u r k)) → P_X10_goes_34 M (nI one) (mk L) (wM w) (nI k) Q := by
    intro n
    induction n with
    | zero =>
      intro k M hk' hf hw
      obtain ⟨H, T⟩ := good M hf
      have : k = t.2.2.1 := by omega
      subst this
      refine T_X10_goes_34 ?_
      rw [T.2.1, n_le (by omega) (by omega)]
      refine ⟨fun _ => k150 23 1 M (by omega) (by omega) hf (fun u hu => ?_) (fun u _ q2 => hw u q2), fun q => by omega⟩
      have : u = 0 := by omega
      subst this
      exact hw 0 (by omega)
    | succ n ih =>
      intro k M hk' hf hw
      obtain ⟨H, T⟩ := good M hf
      have hk2 : k < t.2.2.1 := by omega
      have so := TO'.2.2.2.1 k hk2
      have ey0 : M 201 (4 * k) = nI (t.2.2.2.1 k 0) := T.2.2.2.2.2 k hk2 0 (by omega)
      have ey1 : M 201 (4 * k + 1) = nI (t.2.2.2.1 k 1) := T.2.2.2.2.2 k hk2 1 (by omega)
      have ey2 : M 201 (4 * k + 2) = nI (t.2.2.2.1 k 2) := T.2.2.2.2.2 k hk2 2 (by omega)
      have ey3 : M 201 (4 * k + 3) = nI (t.2.2.2.1 k 3) := T.2.2.2.2.2 k hk2 3 (by omega)
      have k98 : ∀ b : Bool, b = bd t L w one k → P_X10_goes_98 M (nI one) (mk L) (wM w) (nI k) (bI b) Q := by
        intro b hb
        have step : ∀ v, v = mk (fun r => decide (r < h.1) && alk t L w one (t.2.2.2.1 k 3) r (k + 1)) → P_X10_goes_34 (wr M 203 (t.2.2.2.1 k 3) v) (nI one) (mk L) (wM w) (nI (k + 1)) Q := by
          intro v hv
          refine ih (k + 1) _ (by omega) (fun c j hc => by rw [wr_nc _ _ _ _ hc]; exact hf c j hc) (fun u hu => ?_)
          by_cases e : u = t.2.2.2.1 k 3
          · subst e; rw [wr_eq]; exact hv
          · rw [wr_nk _ _ _ _ e, hw u hu]
            refine mk_ext (fun r _ => ?_)
            have e' : ¬ t.2.2.2.1 k 3 = u := fun q => e q.symm
            simp [alk, allN, e']
        refine T_X10_goes_98 ?_
        rw [n_mul, n_add, n_add, n_add, vin (by omega), ix_n (by omega), ey3, vin (by omega), ix_n (by omega), vin (by omega), ix_n (by omega), ey2, hw _ so.2.2.2]
        refine ⟨by omega, by omega, br (fun q => step _ ?_) (fun q => ⟨by omega, step _ ?_⟩)⟩
        · rw [mk_m1, mk_and]
          refine mk_ext (fun r _ => ?_)
          rw [q] at hb
          simp [alk, allN, ← hb]
        · rw [mk_one (by omega), mk_and]
          refine mk_ext (fun r _ => ?_)
          rw [q] at hb
          simp [alk, allN, ← hb, eq_comm, Bool.and_assoc]
      refine T_X10_goes_34 ?_
      rw [T.2.1, n_le (by omega) (by omega), wM_eq (by omega), n_mul, n_add, vin (by omega), ix_n (by omega), ey0, vin (by omega), ix_n (by omega), ey1, mk_test _ (by omega), n_eq (by omega) (by omega), n_eq (by omega) (by omega)]
      refine ⟨fun q => by omega, fun _ => ⟨fun q => k98 false (by unfold bd; simp [q]), fun q => ⟨by omega, br' (fun q2 => ⟨fun q3 => k98 true (by unfold bd; rw [decide_eq_true q, q2, decide_eq_true q3]; rfl), fun q3 => ⟨by omega, fun q4 => k98 false (by unfold bd; simp [q3, q4]), fun q4 => k98 true (by unfold bd; rw [decide_eq_true q, q2, decide_eq_false q3, decide_eq_true q4]; rfl)⟩⟩) (fun q2 => k98 false (by unfold bd; simp [q2]))⟩⟩⟩
  have k3 : ∀ n v (M : Mem), v + n = 24 → (∀ c k, c ≠ 203 → M c k = M0 c k) → (∀ u, u < v → M 203 u = mk (fun r => decide (r < h.1))) → P_X10_goes_3 M (nI one) (mk L) (wM w) (nI v) Q := by
    intro n
    induction n with
    | zero =>
      intro v M hv hf hw
      refine T_X10_goes_3 ?_
      rw [n_le (by omega) (by omega)]
      refine ⟨fun _ => k34 t.2.2.1 0 M (by omega) hf (fun u hu => by rw [hw u (by omega)]; exact mk_ext (fun r _ => by simp [alk, allN])), fun q => by omega⟩
    | succ n ih =>
      intro v M hv hf hw
      obtain ⟨H, T⟩ := good M hf
      refine T_X10_goes_3 ?_
      rw [n_le (by omega) (by omega), vin (by omega), ix_n (by omega), H.1, mk_full _ (by omega), n_add]
      refine ⟨fun q => by omega, fun _ => ⟨by omega, ih (v + 1) _ (by omega) (fun c k hc => by rw [wr_nc _ _ _ _ hc]; exact hf c k hc) (fun u hu => ?_)⟩⟩
      by_cases e : u = v
      · subst e; exact wr_eq _ _ _ _
      · rw [wr_nk _ _ _ _ e]; exact hw u (by omega)
  exact T_X10_goes (k3 24 0 M0 rfl (fun _ _ _ => rfl) (fun u hu => by omega))
theorem m_liarsBut {h : HS} {t : TS} (O : HO h) (hR0 : 0 < h.1) (TO' : TO t h.1) {M0 : Mem} (H0 : HM M0 h) (T0 : TM M0 t) (w : Nat) {Q : Int32 → Mem → Prop}
    (K : ∀ M' x, (∀ c k, c ≠ 203 → M' c k = M0 c k) → LI h t w x → Q (nI x) M') : C_X10_liarsBut M0 (wM w) Q := by
  have hF := TO'.1
  obtain ⟨hp1, hp2⟩ := pow_f hF
  have good : ∀ M : Mem, (∀ c k, c ≠ 203 → M c k = M0 c k) → HM M h ∧ TM M t := fun M f => ⟨H0.only 203 (by omega) f, T0.congr (fun c k q => f c k (by omega))⟩
  have k11 : ∀ m b (M : Mem), m ≤ 2 ^ t.1 → b < 2 ^ t.1 → okL h t (tb_ b) w → (∀ y, m ≤ y → y < 2 ^ t.1 → okL h t (tb_ y) w → cntN (tb_ b) 5 < cntN (tb_ y) 5 ∨ (cntN (tb_ b) 5 = cntN (tb_ y) 5 ∧ b ≤ y)) → (∀ c k, c ≠ 203 → M c k = M0 c k) → m ≤ b + 1 → P_X10_liarsBut_11 M (wM w) (nI b) (nI m + (-1)) Q := by
    intro m
    induction m with
    | zero =>
      intro b M hm hb hok hmin hf hmb
      refine T_X10_liarsBut_11 ?_
      rw [n_m1lt0 (by omega)]
      exact ⟨fun _ => K M b hf ⟨hb, hok, fun y hy ok => hmin y (by omega) hy ok⟩, fun q => absurd rfl q⟩
    | succ m ih =>
      intro b M hm hb hok hmin hf hmb
      have c1 := cntN_le (tb_ m) 5
      have c2 := cntN_le (tb_ b) 5
      have keep : ∀ M' : Mem, (∀ c k, c ≠ 203 → M' c k = M0 c k) → (okL h t (tb_ m) w → cntN (tb_ b) 5 < cntN (tb_ m) 5) → P_X10_liarsBut_11 M' (wM w) (nI b) (nI m + (-1)) Q := by
        intro M' f' hn
        refine ih b M' (by omega) hb hok (fun y h1 h2 ok => ?_) f' (by omega)
        by_cases e : y = m
        · subst e; exact Or.inl (hn ok)
        · exact hmin y (by omega) h2 ok
      have k36 : ∀ n f (M : Mem), f + n = t.1 → (∀ c k, c ≠ 203 → M c k = M0 c k) → cntN (tb_ m) 5 ≤ cntN (tb_ b) 5 → (∀ g, g < f → exW h t (tb_ m) w g = true) → P_X10_liarsBut_36 M (wM w) (nI b) (nI m) (nI 1) (nI f) Q := by
        intro n
        induction n with
        | zero =>
          intro f M hf' hf2 hc hg
          obtain ⟨H, T⟩ := good M hf2
          refine T_X10_liarsBut_36 ?_
          rw [T.1, n_le (by omega) (by omega)]
          refine ⟨fun _ => ⟨fun q => absurd q (by decide), fun _ => ?_⟩, fun q => by omega⟩
          have okm : okL h t (tb_ m) w := fun g hg' => exW_iff.mp (hg g (by omega))
          refine ih m M (by omega) (by omega) okm (fun y h1 h2 ok => ?_) hf2 (by omega)
          by_cases e : y = m
          · subst e; exact Or.inr ⟨rfl, Nat.le_refl _⟩
          · have := hmin y (by omega) h2 ok
            omega
        | succ n ihn =>
          intro f M hf' hf2 hc hg
          obtain ⟨H, T⟩ := good M hf2
          refine T_X10_liarsBut_36 ?_
          rw [T.1, n_le (by omega) (by omega)]
          refine ⟨fun q => by omega, fun _ => ⟨fun q => absurd q (by decide), fun _ => ?_⟩⟩
          rw [show C_X10_goes M (nI f) (nI m) = C_X10_goes M (nI f) (mk (tb_ m)) from by rw [nI_mk m (by omega)]]
          refine m_goes O TO' H T (show f < t.1 by omega) (fun M2 f2 _ => ?_)
          have f2' : ∀ c k, c ≠ 203 → M2 c k = M0 c k := fun c k hc => by rw [f2 c k hc]; exact hf2 c k hc
          rw [n_add]
          cases he : exW h t (tb_ m) w f with
          | true =>
            exact ihn (f + 1) M2 (by omega) f2' hc (fun g hg' => by
              by_cases e : g = f
              · subst e; exact he
              · exact hg g (by omega))
          | false =>
            have nok : okL h t (tb_ m) w → cntN (tb_ b) 5 < cntN (tb_ m) 5 := fun ok => by
              rw [exW_iff.mpr (ok f (by omega))] at he; cases he
            have go := keep M2 f2' nok
            refine T_X10_liarsBut_36 ?_
            exact ⟨fun _ => ⟨fun _ => go, fun q => absurd nI_0 q⟩, fun _ => ⟨fun _ => ⟨fun _ => go, fun q => absurd nI_0 q⟩, fun q => absurd nI_0 q⟩⟩
      refine T_X10_liarsBut_11 ?_
      rw [n_m1lt0 (by omega), n_m1 (by omega), Nat.add_sub_cancel]
      refine ⟨fun q => by omega, fun _ => m_size (by omega) (m_size (by omega) ?_)⟩
      rw [n_lt (by omega) (by omega)]
      refine ⟨fun q => ?_, fun q => k36 t.1 0 M (by omega) hf (by omega) (fun g hg => by omega)⟩
      have go := keep M hf (fun _ => q)
      refine T_X10_liarsBut_36 ?_
      exact ⟨fun _ => ⟨fun _ => go, fun q => absurd nI_0 q⟩, fun _ => ⟨fun _ => ⟨fun _ => go, fun q => absurd nI_0 q⟩, fun q => absurd nI_0 q⟩⟩
  refine T_X10_liarsBut ?_
  rw [T0.1, shl_n _ (by omega), n_sub (by omega)]
  have hall : okL h t (tb_ (2 ^ t.1 - 1)) w := ok_all O hR0 (fun k hk => tb_full _ (by omega) _ (TO'.2.2.2.1 k hk).1)
  have z := k11 (2 ^ t.1) (2 ^ t.1 - 1) M0 (Nat.le_refl _) (by omega) hall (fun y h1 h2 => by omega) (fun _ _ _ => rfl) (by omega)
  rw [n_m1 (by omega)] at z
  exact z
