/-! ===== the class's plans made ===== -/
def PT (M : Mem) (h : HS) (s : SS) : Prop := (∃ rvs, RV M h s rvs) ∧ BP M h s ∧ RPl M h s
def PF (M : Mem) (h : HS) (s : SS) : Prop := M 124 3 = nI 0 ∨ (M 124 3 = nI 1 ∧ PT M h s)
theorem BP.congr {M M' : Mem} {h : HS} {s : SS} (H : BP M h s) (e : ∀ c k, 125 ≤ c → c ≤ 129 → M' c k = M c k) : BP M' h s := by
  obtain ⟨by_, k, h1, h2, h3, h4⟩ := H
  exact ⟨by_, k, h1, by rw [e _ _ (by omega) (by omega)]; exact h2, fun i hi => by rw [e _ _ (by omega) (by omega)]; exact h3 i hi, fun x hx => by rw [e _ _ (by omega) (by omega), e _ _ (by omega) (by omega), e _ _ (by omega) (by omega)]; exact h4 x hx⟩
theorem RPl.congr {M M' : Mem} {h : HS} {s : SS} (H : RPl M h s) (e : ∀ c k, 130 ≤ c → c ≤ 132 → M' c k = M c k) : RPl M' h s := by
  obtain ⟨by_, o, h1, h2, h3, h4⟩ := H
  exact ⟨by_, o, h1, by rw [e _ _ (by omega) (by omega)]; exact h2, fun i hi => by rw [e _ _ (by omega) (by omega)]; exact h3 i hi, fun x hx => by rw [e _ _ (by omega) (by omega)]; exact h4 x hx⟩
theorem PT.congr {M M' : Mem} {h : HS} {s : SS} (H : PT M h s) (hs : s.1 ≤ 3) (e : ∀ c k, (125 ≤ c ∧ c ≤ 132) ∨ (161 ≤ c ∧ c ≤ 163) → M' c k = M c k) : PT M' h s := by
  obtain ⟨⟨rvs, h1⟩, h2, h3⟩ := H
  exact ⟨⟨rvs, h1.congr hs (fun c k _ _ => e c k (by omega))⟩, h2.congr (fun c k _ _ => e c k (by omega)), h3.congr (fun c k _ _ => e c k (by omega))⟩
theorem PF.congr {M M' : Mem} {h : HS} {s : SS} (H : PF M h s) (hs : s.1 ≤ 3) (e : ∀ c k, (c = 124 ∧ k = 3) ∨ (125 ≤ c ∧ c ≤ 132) ∨ (161 ≤ c ∧ c ≤ 163) → M' c k = M c k) : PF M' h s := by
  rcases H with h1 | ⟨h1, h2⟩
  · exact Or.inl (by rw [e _ _ (by omega)]; exact h1)
  · exact Or.inr ⟨by rw [e _ _ (by omega)]; exact h1, h2.congr hs (fun c k q => e c k (by omega))⟩
def scr (c k : Nat) : Prop := (c = 95 ∧ k = 1) ∨ (96 ≤ c ∧ c ≤ 123) ∨ (c = 124 ∧ (k = 3 ∨ k = 11)) ∨ (125 ≤ c ∧ c ≤ 166)
theorem s_prepareP {h : HS} {s : SS} (O : HO h) (P : SO s h.1) {M0 : Mem} (H0 : HC 1 M0 h) (S0 : SC 30 M0 s) (W0 : WY M0 h) (F0 : TF M0 h) (G0 : PF M0 h s) (hne : ∃ v, wel s v = true) {Q : Mem → Prop}
    (K : ∀ M', (∀ c k, ¬ scr c k → M' c k = M0 c k) → M' 124 3 = nI 1 → TF M' h → PT M' h s → Q M') : C_X3_prepare M0 Q := by
  have hS := P.1
  have hR := O.1
  have hc : s.2.2.1 < h.1 := by
    obtain ⟨v, hv⟩ := hne
    have := (wel_t hv).1
    have := P.2.2.1
    omega
  refine T_X3_prepare ?_
  rcases G0 with z0 | ⟨z1, hT⟩
  case inr =>
    rw [z1]
    exact ⟨fun q => absurd q (by decide), fun _ => K M0 (fun _ _ _ => rfl) z1 F0 hT⟩
  rw [z0]
  refine ⟨fun _ => ?_, fun q => absurd nI_0 q⟩
  refine s_prepareT O H0 F0 (fun M1 f1 t1 T1 => ?_)
  have k44 : ∀ n v (M : Mem), v + n = s.1 → (∀ c k, ¬ scr c k → M c k = M0 c k) → TF M h → ET M h s → (∃ rvs : Nat → Nat → Nat, ∀ u, u < v → s.2.2.2.2.1 u = false → (∀ m, m < 32 → M (161 + u) m = nI (rvs u m)) ∧ LSp h s u (rvs u)) → P_X3_prepare_44 M (mk (wel s)) (nI v) Q := by
    intro n
    induction n with
    | zero =>
      intro v M hv hf hF hE ⟨rvs, hr⟩
      have H : SC 30 M s := S0.congr (fun c k q1 q2 => hf c k (by unfold scr; omega))
      have W : WY M h := W0.congr hR (fun c k q => hf c k (by unfold scr; omega))
      refine T_X3_prepare_44 ?_
      simp (disch := omega) only [n_lt, n_le, n_eq, n_lt0, n_le0, n_ge0, n_gt0, n_eq0, n_add, n_mul, n_sub, n_m1, ix_n, vin, bI_0, bI_1, nT_le, nF_le, nT_lt, nF_lt, nT_eq, nF_eq, mk_test, true_imp_iff, false_imp_iff, not_true_eq_false, not_false_eq_true, true_and, and_true, tf_, ft_, eq_self, true_or, or_true, false_or, or_false, show M 30 0 = nI s.1 from H.1]
      have R : RV M h s rvs := fun u hu hi => hr u (by omega) hi
      refine s_makeBest O P H W hE R hne (fun M2 f2 b2 => ?_)
      have H2 : SC 30 M2 s := H.congr (fun c k q1 q2 => f2 c k (by omega))
      have W2 : WY M2 h := W.congr hR (fun c k q => f2 c k (by omega))
      have E2 : ET M2 h s := fun t ht b hb => by rw [f2 _ _ (by omega)]; exact hE t ht b hb
      refine s_makeRule O P H2 W2 E2 hne (fun M3 f3 r3 => ?_)
      refine K _ (fun c k q => ?_) (wr_eq _ _ _ _) ?_ ⟨⟨rvs, ?_⟩, ?_, ?_⟩
      · unfold scr at q
        rw [wr, if_neg (by omega), f3 c k (by omega), f2 c k (by omega)]
        exact hf c k (by unfold scr; omega)
      · refine hF.congr (fun c k q => ?_)
        rw [wr, if_neg (by omega), f3 c k (by omega), f2 c k (by omega)]
      · refine R.congr hS (fun c k q1 q2 => ?_)
        rw [wr, if_neg (by omega), f3 c k (by omega), f2 c k (by omega)]
      · refine b2.congr (fun c k q1 q2 => ?_)
        rw [wr, if_neg (by omega), f3 c k (by omega)]
      · refine r3.congr (fun c k q1 q2 => ?_)
        rw [wr, if_neg (by omega)]
    | succ n ih =>
      intro v M hv hf hF hE ⟨rvs, hr⟩
      have H : SC 30 M s := S0.congr (fun c k q1 q2 => hf c k (by unfold scr; omega))
      have W : WY M h := W0.congr hR (fun c k q => hf c k (by unfold scr; omega))
      refine T_X3_prepare_44 ?_
      simp (disch := omega) only [n_lt, n_le, n_eq, n_lt0, n_le0, n_ge0, n_gt0, n_eq0, n_add, n_mul, n_sub, n_m1, ix_n, vin, bI_0, bI_1, nT_le, nF_le, nT_lt, nF_lt, nT_eq, nF_eq, mk_test, true_imp_iff, false_imp_iff, not_true_eq_false, not_false_eq_true, true_and, and_true, tf_, ft_, eq_self, true_or, or_true, false_or, or_false, show M 30 0 = nI s.1 from H.1]
      refine ⟨fun q => ih (v + 1) M (by omega) hf hF hE ⟨rvs, fun u hu hi => ?_⟩, fun q => ?_⟩
      · by_cases e : u = v
        · subst e
          unfold wel at q
          rw [hi] at q
          simp at q
          omega
        · exact hr u (by omega) hi
      · refine s_fillLeast O P H W hE (by omega) (fun M2 rv f2 w2 l2 => ?_)
        refine ih (v + 1) M2 (by omega) (fun c k q => ?_) (hF.congr (fun c k q => f2 c k (by omega) (by omega))) (fun t ht b hb => by rw [f2 _ _ (by omega) (by omega)]; exact hE t ht b hb) ⟨fun u => if u = v then rv else rvs u, fun u hu hi => ?_⟩
        · rw [f2 c k (by unfold scr at q; omega) (by unfold scr at q; omega)]; exact hf c k q
        · by_cases e : u = v
          · subst e
            simp only [if_true]
            exact ⟨w2, l2⟩
          · simp only [e, if_false]
            have := hr u (by omega) hi
            exact ⟨fun m hm => by rw [f2 _ _ (by omega) (by omega)]; exact this.1 m hm, this.2⟩
  have k17 : ∀ n t (M : Mem), t + n = 24 → (∀ c k, ¬ scr c k → M c k = M0 c k) → M 95 1 = nI 1 → TT M h → (∀ u, u < t → ∀ b, b < h.1 → M (136 + u) b = nI (ed h true s.2.2.1 u b)) → P_X3_prepare_17 M (nI t) Q := by
    intro n
    induction n with
    | zero =>
      intro t M ht hf hz hT hw
      have H : SC 30 M s := S0.congr (fun c k q1 q2 => hf c k (by unfold scr; omega))
      refine T_X3_prepare_17 ?_
      simp (disch := omega) only [n_lt, n_le, n_eq, n_lt0, n_le0, n_ge0, n_gt0, n_eq0, n_add, n_mul, n_sub, n_m1, ix_n, vin, bI_0, bI_1, nT_le, nF_le, nT_lt, nF_lt, nT_eq, nF_eq, mk_test, true_imp_iff, false_imp_iff, not_true_eq_false, not_false_eq_true, true_and, and_true, tf_, ft_, eq_self, true_or, or_true, false_or, or_false, ]
      refine s_well H hS ?_
      exact k44 s.1 0 M (by omega) hf (Or.inr ⟨hz, hT⟩) (fun u hu b hb => hw u (by omega) b hb) ⟨fun _ _ => 0, fun u hu => by omega⟩
    | succ n ih =>
      intro t M ht hf hz hT hw
      have H : HC 1 M h := H0.congr O.2.1 (fun c k q1 q2 => hf c k (by unfold scr; omega))
      refine T_X3_prepare_17 ?_
      simp (disch := omega) only [n_lt, n_le, n_eq, n_lt0, n_le0, n_ge0, n_gt0, n_eq0, n_add, n_mul, n_sub, n_m1, ix_n, vin, bI_0, bI_1, nT_le, nF_le, nT_lt, nF_lt, nT_eq, nF_eq, mk_test, true_imp_iff, false_imp_iff, not_true_eq_false, not_false_eq_true, true_and, and_true, tf_, ft_, eq_self, true_or, or_true, false_or, or_false, ]
      refine s_fillEnds (s := s) O H hT (by rw [hf _ _ (by unfold scr; omega)]; exact S0.2.2.1) hc (by omega) (fun M2 f2 w2 => ?_)
      refine ih (t + 1) M2 (by omega) (fun c k q => by rw [f2 c k (by unfold scr at q; omega)]; exact hf c k q) (by rw [f2 _ _ (by omega)]; exact hz) (hT.congr (fun c k _ _ => f2 c k (by omega))) (fun u hu b hb => ?_)
      by_cases e : u = t
      · subst e; exact w2 b hb
      · rw [f2 _ _ (by omega)]; exact hw u (by omega) b hb
  exact k17 24 0 M1 (by omega) (fun c k q => f1 c k (by unfold scr at q; omega)) t1 T1 (fun u hu => by omega)
def MV (h : HS) (s : SS) (T : Nat → Bool) (v : Nat) : Prop := (∃ b k, vld s T b ∧ k < fct s.2.1 ∧ Cc h s b k = v) ∧ ∀ b k, vld s T b → k < fct s.2.1 → v ≤ Cc h s b k
theorem MV_uniq {h : HS} {s : SS} {T : Nat → Bool} {v w : Nat} (h1 : MV h s T v) (h2 : MV h s T w) : v = w := by
  obtain ⟨⟨b, k, a1, a2, a3⟩, a4⟩ := h1
  obtain ⟨⟨b', k', c1, c2, c3⟩, c4⟩ := h2
  have := a4 b' k' c1 c2
  have := c4 b k a1 a2
  omega
theorem BT_MV {h : HS} {s : SS} {T : Nat → Bool} {b : Nat → Nat} {k : Nat} (H : BT h s T b k) : MV h s T (Cc h s b k) := ⟨⟨b, k, H.1, H.2.1, rfl⟩, H.2.2.1⟩
theorem MV_le {h : HS} {s : SS} (P : SO s h.1) {T : Nat → Bool} (hT : ∀ v, T v = true → v < s.1) {v : Nat} (H : MV h s T v) : v ≤ 1080 := by
  have hE : s.2.1 < 6 := by have := P.2.1; omega
  obtain ⟨⟨b, k, a1, a2, a3⟩, a4⟩ := H
  have := cst_le (h := h) P (by_ := b) (ord := prm s.2.1 k) s.2.1 (fun j hj => by
      have := (prm_a _ hE k a2).2.1 j hj
      exact ⟨this, hT _ (a1 _ this)⟩)
  unfold Cc at a3
  omega
theorem s_leastMV {h : HS} {s : SS} (P : SO s h.1) {M0 : Mem} (H0 : SC 30 M0 s) {rvs : Nat → Nat → Nat} (R0 : RV M0 h s rvs) {T : Nat → Bool} (hT : ∀ v, T v = true → wel s v = true) (hne : ∃ v, T v = true) {Q : Int32 → Mem → Prop}
    (K : ∀ M' v, (∀ c k, ¬ (c = 164 ∨ (c = 124 ∧ k = 11)) → M' c k = M0 c k) → MV h s T v → Q (nI v) M') : C_X3_leastWith M0 (mk T) Q := by
  have hT' : ∀ v, T v = true → v < s.1 ∧ s.2.2.2.2.1 v = false := fun v hv => wel_t (hT v hv)
  refine s_leastWith P H0 R0 hT' hne (fun M1 wb f1 h1 h2 h3 h4 _ => ?_)
  have hm := with_min P (fun v hv hi => (R0 v hv hi).2) (T := T) hT' h1 h2 h3 h4
  obtain ⟨⟨k0, hk0, hk1⟩, m2, m3⟩ := hm
  exact K M1 _ f1 ⟨⟨_, k0, h2, hk0, hk1⟩, m2⟩
theorem bitc5 {M : Mem} {Q : Int32 → Mem → Prop} : ∀ a b c d e : Bool, Q (nI (cntN (c5 a b c d e) 5)) M → C_J6_bitCount_0f7a4 M (mk (c5 a b c d e)) Q := by
  intro a b c d e k
  cases a <;> cases b <;> cases c <;> cases d <;> cases e <;> exact T_J6_bitCount_0f7a4 (Eq.mpr (congrArg (fun z => Q z M) (by decide +kernel)) k)
theorem c5_eq {P : Nat → Bool} (h : ∀ x, 5 ≤ x → P x = false) : P = c5 (P 0) (P 1) (P 2) (P 3) (P 4) := by
  funext i
  match i with
  | 0 => rfl
  | 1 => rfl
  | 2 => rfl
  | 3 => rfl
  | 4 => rfl
  | n + 5 => exact h _ (by omega)
theorem s_bitCount {P : Nat → Bool} (h : ∀ x, 5 ≤ x → P x = false) {M : Mem} {Q : Int32 → Mem → Prop} (k : Q (nI (cntN P 5)) M) : C_J6_bitCount_0f7a4 M (mk P) Q := by
  have e := c5_eq h
  rw [e] at k ⊢
  exact bitc5 _ _ _ _ _ k
