/-! ===== the class's inquiry ===== -/
def pnI (x : Nat) : Int32 := if x = 0 then -1 else nI (x - 1)
def wI (w : Nat) : Int32 := if w < 12 then nI w else -1
theorem pnI_m1 {x : Nat} (hx : x < 1000) : (pnI x = -1) = (x = 0) := by
  unfold pnI
  by_cases q : x = 0
  · rw [if_pos q]; exact propext ⟨fun _ => q, fun _ => rfl⟩
  · rw [if_neg q]
    refine propext ⟨fun w => ?_, fun w => absurd w q⟩
    have := nI_pos (n := x - 1) (by omega)
    rw [w] at this
    exact absurd (by decide) this
theorem pnI_n {x r : Nat} (hx : x < 1000) (hr : r < 1000) (h : x ≠ 0) : (pnI x = nI r) = (x = r + 1) := by
  unfold pnI
  rw [if_neg h, n_eq (by omega) (by omega)]
  exact propext (by omega)
theorem wI_eq {k w : Nat} (hk : k < 12) : (nI k = wI w) = (k = w) := by
  unfold wI
  by_cases q : w < 12
  · rw [if_pos q, n_eq (by omega) (by omega)]
  · rw [if_neg q]
    refine propext ⟨fun e => ?_, fun e => by omega⟩
    have := nI_pos (n := k) (by omega)
    rw [e] at this
    exact absurd (by decide) this
def PMm (M : Mem) (one : Nat) (pn : Nat → Nat) : Prop := ∀ u, u < 24 → M (169 + one) u = pnI (pn u)
theorem pin_cell {one : Nat} (h : one < 5) : IA (169 + one) 24 := by
  have := ra_168.row (i := nI one) ((vin (by omega)).mpr h)
  rw [ix_n (by omega)] at this; exact this
def okL (h : HS) (t : TS) (L : Nat → Bool) (w : Nat) : Prop := ∀ one, one < t.1 → ∃ r, wy h t L w one 0 r = true
theorem s_wayOf {t : TS} {M : Mem} (T : TC 37 M t) {one : Nat} (h1 : one < t.1) (h5 : t.1 ≤ 5) (hk : t.2.1 one ≤ 1) {Q : Nat → Mem → Prop} (k : Q (if bkf t one then 19 else 8) M) : C_X1_wayOf M (nI one) Q := by
  have e : M 38 one = nI (t.2.1 one) := T.2.2.2.2.1 one h1
  refine T_X1_wayOf ?_
  unfold bkf at k
  simp (disch := omega) only [n_lt, n_le, n_eq, n_lt0, n_le0, n_ge0, n_gt0, n_eq0, n_add, n_mul, n_sub, n_m1, ix_n, vin, bI_0, bI_1, nT_le, nF_le, nT_lt, nF_lt, nT_eq, nF_eq, mk_test, true_imp_iff, false_imp_iff, not_true_eq_false, not_false_eq_true, true_and, and_true, tf_, ft_, eq_self, true_or, or_true, false_or, or_false, e]
  refine ⟨fun q => ?_, fun q => ?_⟩
  · rw [if_pos (by simpa using q)] at k; exact k
  · rw [if_neg (by simpa using q)] at k; exact k
theorem way_val {h : HS} {M : Mem} (W : WY M h) (bk : Bool) {a b : Nat} (ha : a < h.1) (hb : b < h.1) : M ((if bk then 19 else 8) + 1 + a) b = nI (ds h bk a b) := by
  cases bk
  · have := (W a ha b hb).1
    simp only [Bool.false_eq_true, if_false]
    rw [show 8 + 1 + a = 9 + a by omega]; exact this
  · have := (W a ha b hb).2
    simp only [if_true]
    rw [show 19 + 1 + a = 20 + a by omega]; exact this
theorem way_ra (bk : Bool) : RA (if bk then 19 else 8) 10 10 := by
  cases bk
  · exact ra_8
  · exact ra_19
theorem s_hasWay {h : HS} {t : TS} (O : HO h) (TO' : TO t h.1) {M : Mem} (T : TC 37 M t) (W : WY M h) {one : Nat} (h1 : one < t.1) {pn : Nat → Nat} (hp : PMm M one pn) (hpl : ∀ u, u < 24 → pn u ≤ h.1) {Q : Int32 → Mem → Prop}
    (K : (HW h (bkf t one) pn → Q (nI 1) M) ∧ (¬ HW h (bkf t one) pn → Q (nI 0) M)) : C_X1_hasWay M (nI one) Q := by
  have hF := TO'.1
  have hR := O.1
  have key : ∀ n u, u + n = 24 → (∀ v, v < u → pn v ≠ 0 → la pn v ≠ 0 → rr h (bkf t one) (pn (la pn v - 1) - 1) (v - (la pn v - 1)) (pn v - 1) = true) → P_X1_hasWay_11 M (nI one) (if bkf t one then 19 else 8) (nI (la pn u) + (-1)) (nI u) Q := by
    intro n
    induction n with
    | zero =>
      intro u hu hh
      refine T_X1_hasWay_11 (way_ra _) ?_
      simp (disch := omega) only [n_lt, n_le, n_eq, n_lt0, n_le0, n_ge0, n_gt0, n_eq0, n_add, n_mul, n_sub, n_m1, ix_n, vin, bI_0, bI_1, nT_le, nF_le, nT_lt, nF_lt, nT_eq, nF_eq, mk_test, true_imp_iff, false_imp_iff, not_true_eq_false, not_false_eq_true, true_and, and_true, tf_, ft_, eq_self, true_or, or_true, false_or, or_false, ]
      exact K.1 (fun v hv => hh v (by omega))
    | succ n ih =>
      intro u hu hh
      have lo := la_ok pn u
      have e1 := hp u (by omega)
      have l1 := hpl u (by omega)
      refine T_X1_hasWay_11 (way_ra _) ?_
      simp (disch := omega) only [n_lt, n_le, n_eq, n_lt0, n_le0, n_ge0, n_gt0, n_eq0, n_add, n_mul, n_sub, n_m1, ix_n, vin, bI_0, bI_1, nT_le, nF_le, nT_lt, nF_lt, nT_eq, nF_eq, mk_test, true_imp_iff, false_imp_iff, not_true_eq_false, not_false_eq_true, true_and, and_true, tf_, ft_, eq_self, true_or, or_true, false_or, or_false, show 168 + 1 + one = 169 + one by omega, e1, pnI_m1]
      rw [n_m1lt0 (by omega)]
      refine ⟨fun q => ?_, fun q => ⟨fun q2 => ?_, fun q2 => ?_⟩⟩
      · have := ih (u + 1) (by omega) (fun v hv => by
          by_cases e : v = u
          · subst e; intro w; exact absurd q w
          · exact hh v (by omega))
        rw [show la pn (u + 1) = la pn u from by simp [la, q]] at this
        exact this
      · have := ih (u + 1) (by omega) (fun v hv => by
          by_cases e : v = u
          · subst e; intro _ w; exact absurd q2 w
          · exact hh v (by omega))
        rw [show la pn (u + 1) = u + 1 from by simp [la, q], n_m1 (by omega), Nat.add_sub_cancel] at this
        exact this
      · have hpa := lo.2.1 q2
        have hpal := hpl (la pn u - 1) (by omega)
        have ea := hp (la pn u - 1) (by omega)
        rw [n_m1 (by omega), vin (by omega), ix_n (by omega), ea]
        simp only [pnI]
        rw [if_neg hpa, if_neg q, vin (by omega), vin (by omega), ix_n (by omega), ix_n (by omega), way_val W _ (by omega) (by omega)]
        have hd := ds_le h (bkf t one) (pn (la pn u - 1) - 1) (pn u - 1)
        rw [n_sub (by omega), n_le (by omega) (by omega)]
        refine ⟨by omega, by omega, by omega, fun q3 => ?_, fun q3 => ?_⟩
        · have := ih (u + 1) (by omega) (fun v hv => by
            by_cases e : v = u
            · subst e; intro _ _; exact (ds_lt O (by omega) (by omega)).mp q3
            · exact hh v (by omega))
          rw [show la pn (u + 1) = u + 1 from by simp [la, q], n_m1 (by omega), Nat.add_sub_cancel] at this
          exact this
        · exact K.2 (fun H => q3 ((ds_lt O (by omega) (by omega)).mpr (H u (by omega) q q2)))
  refine T_X1_hasWay (s_wayOf T h1 hF (TO'.2.2.1 one h1) ⟨way_ra _, ?_⟩)
  have z := key 24 0 (by omega) (fun v hv => by omega)
  rw [show la pn 0 = 0 from rfl, show nI 0 + (-1) = -1 from by decide] at z
  exact z
def alk (t : TS) (L : Nat → Bool) (w one u r k : Nat) : Bool := allN (fun k => !(bd t L w one k && decide (t.2.2.2.1 k 3 = u)) || decide (t.2.2.2.1 k 2 = r)) k
def frI (M M0 : Mem) : Prop := ∀ c k, ¬ (169 ≤ c ∧ c ≤ 173) → M c k = M0 c k
theorem s_pin {h : HS} {M : Mem} {one r u x : Nat} (h1 : one < 5) (hu : u < 24) (hr : r < 10) (hx : x < 1000) (e : M (169 + one) u = pnI x) {Q : Int32 → Mem → Prop} (k : Q (bI (decide (x = 0) || decide (x = r + 1))) (wr M (169 + one) u (nI r))) : C_X1_pin M (nI one) (nI r) (nI u) Q := by
  refine T_X1_pin ?_
  simp (disch := omega) only [n_lt, n_le, n_eq, n_lt0, n_le0, n_ge0, n_gt0, n_eq0, n_add, n_mul, n_sub, n_m1, ix_n, vin, bI_0, bI_1, nT_le, nF_le, nT_lt, nF_lt, nT_eq, nF_eq, mk_test, true_imp_iff, false_imp_iff, not_true_eq_false, not_false_eq_true, true_and, and_true, tf_, ft_, eq_self, true_or, or_true, false_or, or_false, show 168 + 1 + one = 169 + one by omega, e, pnI_m1]
  refine ⟨fun q => ?_, fun q => ?_⟩
  · rw [decide_eq_true q] at k; exact k
  · rw [pnI_n hx (by omega) q]
    rw [decide_eq_false q, Bool.false_or] at k
    refine ⟨fun q2 => ?_, fun q2 => ?_⟩
    · rw [decide_eq_false q2] at k; exact k
    · rw [decide_eq_true q2] at k; exact k
theorem s_haveWays {h : HS} {t : TS} (O : HO h) (hR0 : 0 < h.1) (TO' : TO t h.1) {M0 : Mem} (T0 : TC 37 M0 t) (W0 : WY M0 h) (L : Nat → Bool) (w : Nat) {Q : Int32 → Mem → Prop}
    (K : ∀ M', frI M' M0 → (okL h t L w → (∃ pns : Nat → Nat → Nat, ∀ one, one < t.1 → PinOk h t L w one (pns one) ∧ HW h (bkf t one) (pns one) ∧ PMm M' one (pns one)) → Q (nI 1) M') ∧ (¬ okL h t L w → Q (nI 0) M')) : C_X1_haveWays M0 (mk L) (wI w) Q := by
  have hF := TO'.1
  have hR := O.1
  have hY := TO'.2.1
  have good : ∀ M : Mem, frI M M0 → TC 37 M t ∧ WY M h := fun M f => ⟨T0.congr (fun c k q1 q2 => f c k (by omega)), W0.congr hR (fun c k q => f c k (by omega))⟩
  have k144 : ∀ n one (M : Mem) (pns : Nat → Nat → Nat), one + n = t.1 → frI M M0 → (∀ o, o < t.1 → PinOk h t L w o (pns o) ∧ PMm M o (pns o)) → (∀ o, o < one → HW h (bkf t o) (pns o)) → P_X1_haveWays_144 M (nI one) Q := by
    intro n
    induction n with
    | zero =>
      intro one M pns ho hf hp hw
      obtain ⟨T, W⟩ := good M hf
      refine T_X1_haveWays_144 ?_
      rw [T.1, n_le (by omega) (by omega)]
      refine ⟨fun _ => (K M hf).1 (fun o ho' => hw_ways O hR0 (hp o ho').1 (hw o (by omega))) ⟨pns, fun o ho' => ⟨(hp o ho').1, hw o (by omega), (hp o ho').2⟩⟩, fun q => by omega⟩
    | succ n ih =>
      intro one M pns ho hf hp hw
      obtain ⟨T, W⟩ := good M hf
      have h1 : one < t.1 := by omega
      refine T_X1_haveWays_144 ?_
      rw [T.1, n_le (by omega) (by omega)]
      refine ⟨fun q => by omega, fun _ => ?_⟩
      refine s_hasWay O TO' T W h1 (hp one h1).2 (hp one h1).1.1 ⟨fun H => ⟨fun _ => ?_, fun q => absurd q (by decide)⟩, fun H => ⟨fun q => absurd nI_0 q, fun _ => ?_⟩⟩
      · rw [n_add]
        exact ih (one + 1) M pns (by omega) hf hp (fun o ho' => by
          by_cases e : o = one
          · subst e; exact H
          · exact hw o (by omega))
      · refine (K M hf).2 (fun ok => ?_)
        obtain ⟨r, hr⟩ := ok one h1
        exact H (ways_hw (hp one h1).1 hr)
  have none_ok : ∀ (one u k : Nat), one < t.1 → k < t.2.2.1 → u < 24 → (∀ r, r < h.1 → alk t L w one u r (k + 1) = false) → ¬ okL h t L w := by
    intro one u k h1 hk hu hno ok
    obtain ⟨r, hr⟩ := ok one h1
    have key : ∀ v, v < 24 → ∃ r, wy h t L w one v r = true := by
      intro v
      induction v with
      | zero => intro _; exact ⟨r, hr⟩
      | succ v ih =>
        intro hv
        obtain ⟨r', h2⟩ := ih (by omega)
        obtain ⟨c, _, h3, _⟩ := wy_next (by omega) h2
        exact ⟨c, h3⟩
    obtain ⟨r', h2⟩ := key u hu
    have h3 := fw_al (wy_fw (by omega) h2)
    have h4 := hno r' h3.1
    unfold alk at h4
    obtain ⟨j, hj, h5⟩ := allN_f.mp h4
    have h6 := allN_iff.mp h3.2 j (by omega)
    rw [h6] at h5; cases h5
  have k31 : ∀ n k (M : Mem) (pns : Nat → Nat → Nat), k + n = t.2.2.1 → frI M M0 → (∀ o, o < t.1 → (∀ u, u < 24 → pns o u ≤ h.1 ∧ ∀ r, r < h.1 → (alk t L w o u r k = true ↔ (pns o u = 0 ∨ pns o u = r + 1))) ∧ PMm M o (pns o)) → P_X1_haveWays_31 M (mk L) (wI w) (nI k) Q := by
    intro n
    induction n with
    | zero =>
      intro k M pns hk hf hp
      obtain ⟨T, W⟩ := good M hf
      have : k = t.2.2.1 := by omega
      subst this
      refine T_X1_haveWays_31 ?_
      rw [T.2.1, n_le (by omega) (by omega)]
      refine ⟨fun _ => k144 t.1 0 M pns (by omega) hf (fun o ho => ⟨⟨fun u hu => ((hp o ho).1 u hu).1, fun u hu r hr => ((hp o ho).1 u hu).2 r hr⟩, (hp o ho).2⟩) (fun o ho => by omega), fun q => by omega⟩
    | succ n ih =>
      intro k M pns hk hf hp
      obtain ⟨T, W⟩ := good M hf
      have hk' : k < t.2.2.1 := by omega
      have so := TO'.2.2.2.1 k hk'
      have ey0 : M 39 k = nI (t.2.2.2.1 k 0) := T.2.2.2.2.2 k hk' 0 (by omega)
      have ey2 : M 41 k = nI (t.2.2.2.1 k 2) := T.2.2.2.2.2 k hk' 2 (by omega)
      have ey3 : M 42 k = nI (t.2.2.2.1 k 3) := T.2.2.2.2.2 k hk' 3 (by omega)
      have skip : (∀ o, bd t L w o k = false) → P_X1_haveWays_31 M (mk L) (wI w) (nI k + nI 1) Q := by
        intro nb'
        rw [n_add]
        refine ih (k + 1) M pns (by omega) hf (fun o ho => ⟨fun u hu => ⟨((hp o ho).1 u hu).1, fun r hr => ?_⟩, (hp o ho).2⟩)
        rw [← ((hp o ho).1 u hu).2 r hr]
        unfold alk
        simp only [allN, nb' o, Bool.false_and, Bool.not_false, Bool.true_or, Bool.and_true]
      refine T_X1_haveWays_31 ?_
      rw [T.2.1, n_le (by omega) (by omega), wI_eq (by omega)]
      refine ⟨fun q => by omega, fun _ => ⟨fun q => skip (fun o => by unfold bd; rw [decide_eq_false (fun w' => w' q)]; rfl), fun q => ?_⟩⟩
      rw [vin (by omega), ix_n (by omega), ey0, ey2, ey3, mk_test _ (by omega)]
      refine ⟨by omega, br (fun q2 => ?_) (fun q2 => skip (fun o => by unfold bd; rw [q2]; simp))⟩
      have bdt : ∀ o, bd t L w o k = (decide (t.2.2.2.1 k 0 = o) || decide (t.2.2.2.1 k 1 = o)) := fun o => by unfold bd; rw [q2, decide_eq_true q]; simp
      have aks : ∀ o u r, alk t L w o u r (k + 1) = (alk t L w o u r k && (!(bd t L w o k && decide (t.2.2.2.1 k 3 = u)) || decide (t.2.2.2.1 k 2 = r))) := fun o u r => rfl
      have hby := hp (t.2.2.2.1 k 0) so.1
      have hof := hp (t.2.2.2.1 k 1) so.2.1
      have lby := (hby.1 (t.2.2.2.1 k 3) so.2.2.2).1
      have lof := (hof.1 (t.2.2.2.1 k 3) so.2.2.2).1
      refine s_pin (h := h) (by omega) so.2.2.2 (by omega) (by omega) (hby.2 _ so.2.2.2) (br (fun q3 => ?_) (fun q3 => ?_))
      · -- the speaker was pinned elsewhere
        refine (K _ (fun c j hc => by rw [wr_nc _ _ _ _ (by omega)]; exact hf c j hc)).2 (none_ok (t.2.2.2.1 k 0) (t.2.2.2.1 k 3) k so.1 hk' so.2.2.2 (fun r hr => ?_))
        rw [aks, bdt]
        cases ha : alk t L w (t.2.2.2.1 k 0) (t.2.2.2.1 k 3) r k with
        | false => rfl
        | true =>
          have := ((hby.1 _ so.2.2.2).2 r hr).mp ha
          simp only [Bool.or_eq_false_iff, decide_eq_false_iff_not] at q3
          have hne : ¬ t.2.2.2.1 k 2 = r := by omega
          simp [hne]
      · have f1 : frI (wr M (169 + t.2.2.2.1 k 0) (t.2.2.2.1 k 3) (nI (t.2.2.2.1 k 2))) M0 := fun c j hc => by rw [wr_nc _ _ _ _ (by omega)]; exact hf c j hc
        have T1 := (good _ f1).1
        have ez1 : (wr M (169 + t.2.2.2.1 k 0) (t.2.2.2.1 k 3) (nI (t.2.2.2.1 k 2))) 40 k = nI (t.2.2.2.1 k 1) := T1.2.2.2.2.2 k hk' 1 (by omega)
        have ez2 : (wr M (169 + t.2.2.2.1 k 0) (t.2.2.2.1 k 3) (nI (t.2.2.2.1 k 2))) 41 k = nI (t.2.2.2.1 k 2) := T1.2.2.2.2.2 k hk' 2 (by omega)
        have ez3 : (wr M (169 + t.2.2.2.1 k 0) (t.2.2.2.1 k 3) (nI (t.2.2.2.1 k 2))) 42 k = nI (t.2.2.2.1 k 3) := T1.2.2.2.2.2 k hk' 3 (by omega)
        rw [ez1, ez2, ez3]
        simp only [Bool.or_eq_true, decide_eq_true_eq] at q3
        have ex : (wr M (169 + t.2.2.2.1 k 0) (t.2.2.2.1 k 3) (nI (t.2.2.2.1 k 2))) (169 + t.2.2.2.1 k 1) (t.2.2.2.1 k 3) = pnI (if t.2.2.2.1 k 1 = t.2.2.2.1 k 0 then t.2.2.2.1 k 2 + 1 else pns (t.2.2.2.1 k 1) (t.2.2.2.1 k 3)) := by
          by_cases e : t.2.2.2.1 k 1 = t.2.2.2.1 k 0
          · rw [if_pos e, e, wr_eq, pnI, if_neg (by omega), Nat.add_sub_cancel]
          · rw [if_neg e, wr_nc _ _ _ _ (by omega)]; exact hof.2 _ so.2.2.2
        refine s_pin (h := h) (by omega) so.2.2.2 (by omega) (by split <;> omega) ex (br' (fun q4 => ?_) (fun q4 => ?_))
        · refine (K _ (fun c j hc => by rw [wr_nc _ _ _ _ (by omega)]; exact f1 c j hc)).2 (none_ok (t.2.2.2.1 k 1) (t.2.2.2.1 k 3) k so.2.1 hk' so.2.2.2 (fun r hr => ?_))
          simp only [Bool.or_eq_false_iff, decide_eq_false_iff_not] at q4
          by_cases e : t.2.2.2.1 k 1 = t.2.2.2.1 k 0
          · rw [if_pos e] at q4; omega
          · rw [if_neg e] at q4
            rw [aks, bdt]
            cases ha : alk t L w (t.2.2.2.1 k 1) (t.2.2.2.1 k 3) r k with
            | false => rfl
            | true =>
              have := ((hof.1 _ so.2.2.2).2 r hr).mp ha
              have hne : ¬ t.2.2.2.1 k 2 = r := by omega
              simp [hne]
        · rw [n_add]
          simp only [Bool.or_eq_true, decide_eq_true_eq] at q4
          refine ih (k + 1) _ (fun o u => if (o = t.2.2.2.1 k 0 ∨ o = t.2.2.2.1 k 1) ∧ u = t.2.2.2.1 k 3 then t.2.2.2.1 k 2 + 1 else pns o u) (by omega) (fun c j hc => by rw [wr_nc _ _ _ _ (by omega)]; exact f1 c j hc) (fun o ho => ⟨fun u hu => ?_, fun u hu => ?_⟩)
          · have hpo := (hp o ho).1 u hu
            by_cases e : (o = t.2.2.2.1 k 0 ∨ o = t.2.2.2.1 k 1) ∧ u = t.2.2.2.1 k 3
            · rw [if_pos e]
              refine ⟨by omega, fun r hr => ?_⟩
              rw [aks, bdt, Bool.and_eq_true, hpo.2 r hr]
              have e1 : (decide (t.2.2.2.1 k 0 = o) || decide (t.2.2.2.1 k 1 = o)) = true := by
                rcases e.1 with e1 | e1
                · simp [e1]
                · simp [e1]
              have hv : pns o u = 0 ∨ pns o u = t.2.2.2.1 k 2 + 1 := by
                obtain ⟨e2, e3⟩ := e
                subst e3
                rcases e2 with e2 | e2
                · subst e2; exact q3
                · subst e2
                  by_cases e4 : t.2.2.2.1 k 1 = t.2.2.2.1 k 0
                  · rw [e4]; exact q3
                  · rw [if_neg e4] at q4; exact q4
              rw [e1, decide_eq_true e.2.symm]
              simp only [Bool.true_and, Bool.not_true, Bool.false_or, decide_eq_true_eq]
              omega
            · rw [if_neg e]
              refine ⟨hpo.1, fun r hr => ?_⟩
              rw [aks, bdt, Bool.and_eq_true, hpo.2 r hr]
              have e1 : ((decide (t.2.2.2.1 k 0 = o) || decide (t.2.2.2.1 k 1 = o)) && decide (t.2.2.2.1 k 3 = u)) = false := by
                cases hq : ((decide (t.2.2.2.1 k 0 = o) || decide (t.2.2.2.1 k 1 = o)) && decide (t.2.2.2.1 k 3 = u)) with
                | false => rfl
                | true =>
                  simp only [Bool.and_eq_true, Bool.or_eq_true, decide_eq_true_eq] at hq
                  omega
              rw [e1]
              simp
          · dsimp only
            by_cases e : (o = t.2.2.2.1 k 0 ∨ o = t.2.2.2.1 k 1) ∧ u = t.2.2.2.1 k 3
            · rw [if_pos e, pnI, if_neg (by omega), Nat.add_sub_cancel]
              obtain ⟨e2, e3⟩ := e
              subst e3
              by_cases e4 : o = t.2.2.2.1 k 1
              · subst e4; exact wr_eq _ _ _ _
              · rw [wr_nc _ _ _ _ (by omega)]
                have : o = t.2.2.2.1 k 0 := by omega
                subst this; exact wr_eq _ _ _ _
            · rw [if_neg e]
              have n1 : ∀ (N : Mem) (c u' : Nat), (c = t.2.2.2.1 k 0 ∨ c = t.2.2.2.1 k 1) → u' = t.2.2.2.1 k 3 → ∀ v, wr N (169 + c) u' v (169 + o) u = N (169 + o) u := by
                intro N c u' hc hu' v
                rw [wr, if_neg (by omega)]
              rw [n1 _ _ _ (Or.inr rfl) rfl, n1 _ _ _ (Or.inl rfl) rfl]
              exact (hp o ho).2 u hu
  have k2 : ∀ n one (M : Mem), one + n = t.1 → frI M M0 → (∀ o, o < one → ∀ u, u < 24 → M (169 + o) u = -1) → P_X1_haveWays_2 M (mk L) (wI w) (nI one) Q := by
    intro n
    induction n with
    | zero =>
      intro one M ho hf hw
      obtain ⟨T, W⟩ := good M hf
      refine T_X1_haveWays_2 ?_
      rw [T.1, n_le (by omega) (by omega)]
      refine ⟨fun _ => k31 t.2.2.1 0 M (fun _ _ => 0) (by omega) hf (fun o ho' => ⟨fun u hu => ⟨by omega, fun r hr => ⟨fun _ => Or.inl rfl, fun _ => rfl⟩⟩, fun u hu => hw o (by omega) u hu⟩), fun q => by omega⟩
    | succ n ih =>
      intro one M ho hf hw
      obtain ⟨T, W⟩ := good M hf
      refine T_X1_haveWays_2 ?_
      rw [T.1, n_le (by omega) (by omega)]
      refine ⟨fun q => by omega, fun _ => ⟨by rw [vin (by omega)]; omega, ?_⟩⟩
      rw [ix_n (by omega), show 168 + 1 + one = 169 + one by omega]
      refine s_fill (pin_cell (by omega)) (by omega) (fun M1 h1 f1 => ?_)
      rw [n_add]
      refine ih (one + 1) M1 (by omega) (fun c k hc => by rw [f1 c k (by omega)]; exact hf c k hc) (fun o ho' u hu => ?_)
      by_cases e : o = one
      · subst e; exact h1 u hu
      · rw [f1 _ _ (by omega)]; exact hw o (by omega) u hu
  exact T_X1_haveWays (k2 t.1 0 M0 (by omega) (fun _ _ _ => rfl) (fun o ho => by omega))
