/-! ===== THE BEST: the least cost, the first who have it, the first order ===== -/
def lexlt : Nat → (Nat → Nat) → (Nat → Nat) → Prop
  | 0, _, _ => False
  | n + 1, f, g => lexlt n f g ∨ ((∀ e, e < n → f e = g e) ∧ f n < g n)
theorem val_inj {B : Nat} {f g : Nat → Nat} {n : Nat} (hf : ∀ e, e < n → f e < B) (hg : ∀ e, e < n → g e < B) (h : val B f n = val B g n) : ∀ e, e < n → f e = g e := by
  intro e he
  rw [← dg_val hf e he, ← dg_val hg e he, h]
theorem val_lex {B : Nat} {f g : Nat → Nat} : ∀ {n : Nat}, (∀ e, e < n → f e < B) → (∀ e, e < n → g e < B) → (val B f n < val B g n ↔ lexlt n f g) := by
  intro n
  induction n with
  | zero => intro _ _; simp [val, lexlt]
  | succ n ih =>
    intro hf hg
    have i1 := ih (fun e he => hf e (by omega)) (fun e he => hg e (by omega))
    have f1 := hf n (by omega)
    have g1 := hg n (by omega)
    simp only [val, lexlt]
    rw [← i1]
    constructor
    · intro h
      rcases Nat.lt_trichotomy (val B f n) (val B g n) with q | q | q
      · exact Or.inl q
      · exact Or.inr ⟨val_inj (fun e he => hf e (by omega)) (fun e he => hg e (by omega)) q, by rw [q] at h; omega⟩
      · have : (val B g n + 1) * B ≤ val B f n * B := Nat.mul_le_mul_right B q
        rw [Nat.add_mul, Nat.one_mul] at this
        omega
    · rintro (h | ⟨h1, h2⟩)
      · have : (val B f n + 1) * B ≤ val B g n * B := Nat.mul_le_mul_right B h
        rw [Nat.add_mul, Nat.one_mul] at this
        omega
      · rw [val_c h1]; omega
def BT (h : HS) (s : SS) (T : Nat → Bool) (by_ : Nat → Nat) (k : Nat) : Prop := vld s T by_ ∧ k < fct s.2.1 ∧ (∀ b' k', vld s T b' → k' < fct s.2.1 → Cc h s by_ k ≤ Cc h s b' k') ∧ ∀ b' k', vld s T b' → k' < fct s.2.1 → (lexlt s.2.1 b' by_ ∨ ((∀ e, e < s.2.1 → b' e = by_ e) ∧ k' < k)) → Cc h s by_ k < Cc h s b' k'
theorem Cc_c {h : HS} {s : SS} (hE : s.2.1 < 6) {f g : Nat → Nat} (hfg : ∀ e, e < s.2.1 → f e = g e) {k : Nat} (hk : k < fct s.2.1) : Cc h s f k = Cc h s g k := cst_c (fun j hj => ⟨rfl, hfg _ ((prm_a _ hE k hk).2.1 j hj)⟩)
theorem BT_uniq {h : HS} {s : SS} (hE : s.2.1 < 6) {B : Nat} {T : Nat → Bool} (hT : ∀ v, T v = true → v < B) {f g : Nat → Nat} {k k' : Nat} (H1 : BT h s T f k) (H2 : BT h s T g k') : (∀ e, e < s.2.1 → f e = g e) ∧ k = k' := by
  obtain ⟨a1, a2, a3, a4⟩ := H1
  obtain ⟨b1, b2, b3, b4⟩ := H2
  have hf : ∀ e, e < s.2.1 → f e < B := fun e he => hT _ (a1 e he)
  have hg : ∀ e, e < s.2.1 → g e < B := fun e he => hT _ (b1 e he)
  have eq : ∀ e, e < s.2.1 → f e = g e := by
    rcases Nat.lt_trichotomy (val B f s.2.1) (val B g s.2.1) with q | q | q
    · have := b4 f k a1 a2 (Or.inl ((val_lex hf hg).mp q))
      have := a3 g k' b1 b2
      omega
    · exact val_inj hf hg q
    · have := a4 g k' b1 b2 (Or.inl ((val_lex hg hf).mp q))
      have := b3 f k a1 a2
      omega
  refine ⟨eq, ?_⟩
  rcases Nat.lt_trichotomy k k' with q | q | q
  · have := b4 f k a1 a2 (Or.inr ⟨eq, q⟩)
    have := a3 g k' b1 b2
    omega
  · exact q
  · have := a4 g k' b1 b2 (Or.inr ⟨fun e he => (eq e he).symm, q⟩)
    have := b3 f k a1 a2
    omega
theorem tot_c {S E : Nat} {rvs : Nat → Nat → Nat} {f g : Nat → Nat} (hfg : ∀ e, e < E → f e = g e) : tot S E rvs f = tot S E rvs g := by
  refine sumN_c (fun v _ => ?_)
  have : bv (Pv E f v) = bv (Pv E g v) := bv_c (fun x _ => by
    unfold Pv
    by_cases q : x < E
    · rw [hfg x q]
    · simp [q])
  unfold trm
  rw [this]
def wel (s : SS) : Nat → Bool := fun v => decide (v < s.1) && !s.2.2.2.2.1 v
theorem wel_t {s : SS} {v : Nat} (h : wel s v = true) : v < s.1 ∧ s.2.2.2.2.1 v = false := by simpa [wel] using h
theorem with_min {h : HS} {s : SS} (P : SO s h.1) {rvs : Nat → Nat → Nat} (hL : ∀ v, v < s.1 → s.2.2.2.2.1 v = false → LSp h s v (rvs v)) {T : Nat → Bool} (hT : ∀ v, T v = true → v < s.1 ∧ s.2.2.2.2.1 v = false) {wb : Nat} (h1 : wb < 3 ^ s.2.1) (h2 : vld s T (dg 3 s.2.1 wb)) (h3 : ∀ w, w < 3 ^ s.2.1 → vld s T (dg 3 s.2.1 w) → tot s.1 s.2.1 rvs (dg 3 s.2.1 wb) ≤ tot s.1 s.2.1 rvs (dg 3 s.2.1 w)) (h4 : ∀ w, w < wb → vld s T (dg 3 s.2.1 w) → tot s.1 s.2.1 rvs (dg 3 s.2.1 wb) < tot s.1 s.2.1 rvs (dg 3 s.2.1 w)) :
    (∃ k, k < fct s.2.1 ∧ Cc h s (dg 3 s.2.1 wb) k = tot s.1 s.2.1 rvs (dg 3 s.2.1 wb)) ∧ (∀ b' k', vld s T b' → k' < fct s.2.1 → tot s.1 s.2.1 rvs (dg 3 s.2.1 wb) ≤ Cc h s b' k') ∧ (∀ b' k', vld s T b' → k' < fct s.2.1 → lexlt s.2.1 b' (dg 3 s.2.1 wb) → tot s.1 s.2.1 rvs (dg 3 s.2.1 wb) < Cc h s b' k') := by
  have hS := P.1
  have mn : ∀ b', vld s T b' → (∃ k, k < fct s.2.1 ∧ Cc h s b' k = tot s.1 s.2.1 rvs b') ∧ ∀ k, k < fct s.2.1 → tot s.1 s.2.1 rvs b' ≤ Cc h s b' k := fun b' hv => tot_min P (W := fun v => s.2.2.2.2.1 v = false) hL (fun e he => hT _ (hv e he))
  have num : ∀ b', vld s T b' → val 3 b' s.2.1 < 3 ^ s.2.1 ∧ vld s T (dg 3 s.2.1 (val 3 b' s.2.1)) ∧ tot s.1 s.2.1 rvs (dg 3 s.2.1 (val 3 b' s.2.1)) = tot s.1 s.2.1 rvs b' := by
    intro b' hv
    have hb : ∀ e, e < s.2.1 → b' e < 3 := fun e he => by have := (hT _ (hv e he)).1; omega
    have hd : ∀ e, e < s.2.1 → dg 3 s.2.1 (val 3 b' s.2.1) e = b' e := dg_val hb
    exact ⟨val_lt hb, fun e he => by rw [hd e he]; exact hv e he, tot_c hd⟩
  refine ⟨(mn _ h2).1, fun b' k' hv hk => ?_, fun b' k' hv hk hl => ?_⟩
  · obtain ⟨n1, n2, n3⟩ := num b' hv
    have := h3 _ n1 n2
    have := (mn b' hv).2 k' hk
    omega
  · obtain ⟨n1, n2, n3⟩ := num b' hv
    have hb : ∀ e, e < s.2.1 → b' e < 3 := fun e he => by have := (hT _ (hv e he)).1; omega
    have lt := (val_lex hb (fun e _ => dg_lt (by omega) s.2.1 wb e)).mpr hl
    rw [val_dg (by omega) _ _ h1] at lt
    have := h4 _ lt n2
    have := (mn b' hv).2 k' hk
    omega
def BP (M : Mem) (h : HS) (s : SS) : Prop := ∃ by_ k, BT h s (wel s) by_ k ∧ M 125 0 = nI (Cc h s by_ k) ∧ (∀ i, i < s.2.1 → M 126 i = nI (prm s.2.1 k i)) ∧ ∀ e, e < s.2.1 → M 127 e = nI (by_ e) ∧ M 128 e = nI (rnD h s by_ (prm s.2.1 k) s.2.1 e) ∧ M 129 e = nI (rnT h s by_ (prm s.2.1 k) s.2.1 e)
theorem s_makeBest {h : HS} {s : SS} (O : HO h) (P : SO s h.1) {M0 : Mem} (H0 : SC 30 M0 s) (W0 : WY M0 h) (T0 : ET M0 h s) {rvs : Nat → Nat → Nat} (R0 : RV M0 h s rvs) (hne : ∃ v, wel s v = true) {Q : Mem → Prop}
    (K : ∀ M', (∀ c k, ¬ (c = 164 ∨ c = 165 ∨ c = 166 ∨ (125 ≤ c ∧ c ≤ 129) ∨ (c = 124 ∧ k = 11)) → M' c k = M0 c k) → BP M' h s → Q M') : C_X3_makeBest M0 (mk (wel s)) Q := by
  have hS := P.1
  have hE : s.2.1 < 6 := by have := P.2.1; omega
  have hR := O.1
  have hf0 := fct_pos _ hE
  refine T_X3_makeBest (s_leastWith P H0 R0 (fun v hv => wel_t hv) hne (fun M1 wb f1 h1 h2 h3 h4 h5 => ?_))
  have hm := with_min P (fun v hv hi => (R0 v hv hi).2) (T := wel s) (fun v hv => wel_t hv) h1 h2 h3 h4
  obtain ⟨⟨k0, hk0, hk1⟩, m2, m3⟩ := hm
  have hb : ∀ e, e < s.2.1 → dg 3 s.2.1 wb e < s.1 := fun e he => (wel_t (h2 e he)).1
  have hbd := cst_le (h := h) P (by_ := dg 3 s.2.1 wb) (ord := prm s.2.1 k0) s.2.1 (fun j hj => by
      have := (prm_a _ hE k0 hk0).2.1 j hj
      exact ⟨this, hb _ this⟩)
  have htot : tot s.1 s.2.1 rvs (dg 3 s.2.1 wb) ≤ 1080 := by rw [← hk1]; unfold Cc; omega
  have good : ∀ M : Mem, (∀ c k, ¬ (c = 164 ∨ c = 165 ∨ c = 166 ∨ (125 ≤ c ∧ c ≤ 129) ∨ (c = 124 ∧ k = 11)) → M c k = M0 c k) → SC 30 M s ∧ WY M h ∧ ET M h s := fun M f => ⟨H0.congr (fun c k q1 q2 => f c k (by omega)), W0.congr hR (fun c k q => f c k (by omega)), fun t ht b hb => by rw [f _ _ (by omega)]; exact T0 t ht b hb⟩
  have k64 : ∀ n k (M : Mem), k + n = fct s.2.1 → k ≤ k0 → (∀ c k, ¬ (c = 164 ∨ c = 165 ∨ c = 166 ∨ (125 ≤ c ∧ c ≤ 129) ∨ (c = 124 ∧ k = 11)) → M c k = M0 c k) → (∀ e, e < s.2.1 → M 127 e = nI (dg 3 s.2.1 wb e)) → AR M 126 (prm s.2.1 k) → (∀ k', k' < k → Cc h s (dg 3 s.2.1 wb) k' ≠ tot s.1 s.2.1 rvs (dg 3 s.2.1 wb)) → P_X3_makeBest_64 M (nI (tot s.1 s.2.1 rvs (dg 3 s.2.1 wb))) (nI k) Q := by
    intro n
    induction n with
    | zero => intro k M hk hk2; omega
    | succ n ih =>
      intro k M hk hk2 hf hby A hno
      obtain ⟨H, W, T⟩ := good M hf
      have pa := prm_a _ hE k (by omega)
      have hcb := cst_le (h := h) P (by_ := dg 3 s.2.1 wb) (ord := prm s.2.1 k) s.2.1 (fun j hj => ⟨pa.2.1 j hj, hb _ (pa.2.1 j hj)⟩)
      refine T_X3_makeBest_64 ?_
      simp (disch := omega) only [n_lt, n_le, n_eq, n_lt0, n_le0, n_ge0, n_gt0, n_eq0, n_add, n_mul, n_sub, n_m1, ix_n, vin, bI_0, bI_1, nT_le, nF_le, nT_lt, nF_lt, nT_eq, nF_eq, mk_test, true_imp_iff, false_imp_iff, not_true_eq_false, not_false_eq_true, true_and, and_true, tf_, ft_, eq_self, true_or, or_true, false_or, or_false, ]
      refine s_follow O P H W T A pa.2.1 hby hb (fun M2 f2 g1 g2 => ?_)
      have f2' : ∀ c k, ¬ (c = 164 ∨ c = 165 ∨ c = 166 ∨ (125 ≤ c ∧ c ≤ 129) ∨ (c = 124 ∧ k = 11)) → M2 c k = M0 c k := fun c k q => by rw [f2 c k (by omega)]; exact hf c k q
      have A2 : AR M2 126 (prm s.2.1 k) := fun x hx => by rw [f2 _ _ (by omega)]; exact A x hx
      have hby2 : ∀ e, e < s.2.1 → M2 127 e = nI (dg 3 s.2.1 wb e) := fun e he => by rw [f2 _ _ (by omega)]; exact hby e he
      rw [g1, n_eq (by omega) (by omega)]
      refine ⟨fun q => ?_, fun q => ?_⟩
      · refine K M2 f2' ⟨dg 3 s.2.1 wb, k, ⟨h2, by omega, fun b' k' hv hk' => ?_, fun b' k' hv hk' hl => ?_⟩, g1, fun i hi => A2 i (by omega), fun e he => ⟨hby2 e he, g2 e ?_⟩⟩
        · have := m2 b' k' hv hk'
          unfold Cc at this ⊢; omega
        · have e1 : Cc h s (dg 3 s.2.1 wb) k = tot s.1 s.2.1 rvs (dg 3 s.2.1 wb) := q
          rcases hl with hl | ⟨hl, hlk⟩
          · have := m3 b' k' hv hk' hl; omega
          · rw [Cc_c hE hl hk']
            have := hno k' hlk
            have := m2 _ k' h2 hk'
            omega
        · obtain ⟨i, hi, h6⟩ := anyN_iff.mp (prm_s _ hE k (by omega) e he)
          exact ⟨i, hi, by simpa using h6⟩
      · obtain ⟨H2, W2, T2⟩ := good M2 f2'
        refine s_nextOrder ia_126 (by omega) hE H2.2.2.2.1 A2 pa.1 (fun M3 f3 A3 => ?_)
        have pn := prm_n _ hE k (by omega)
        have hk3 : k + 1 < fct s.2.1 := by
          by_cases q2 : k = k0
          · subst q2; exact absurd hk1 q
          · omega
        refine br' (fun q2 => ?_) (fun _ => ?_)
        · rw [pn.1, decide_eq_false_iff_not] at q2; exact absurd hk3 q2
        · refine ih (k + 1) M3 (by omega) ?_ (fun c k q => by rw [f3 c k (by omega)]; exact f2' c k q) (fun e he => by rw [f3 _ _ (by omega)]; exact hby2 e he) (fun x hx => by rw [A3 x hx, pn.2 hk3 x hx]) (fun k' hk' => ?_)
          · by_cases q2 : k = k0
            · subst q2; exact absurd hk1 q
            · omega
          · by_cases e : k' = k
            · subst e; exact q
            · exact hno k' (by omega)
  have k22 : ∀ m (M : Mem), m ≤ s.2.1 → (∀ c k, ¬ (c = 164 ∨ c = 165 ∨ c = 166 ∨ (125 ≤ c ∧ c ≤ 129) ∨ (c = 124 ∧ k = 11)) → M c k = M0 c k) → (∀ e, m ≤ e → e < s.2.1 → M 127 e = nI (dg 3 s.2.1 wb e)) → P_X3_makeBest_22 M (nI (tot s.1 s.2.1 rvs (dg 3 s.2.1 wb))) (nI (val 3 (dg 3 s.2.1 wb) m)) (nI m + (-1)) Q := by
    intro m
    induction m with
    | zero =>
      intro M hm hf hw
      refine T_X3_makeBest_22 ?_
      rw [n_m1lt0 (by omega)]
      refine ⟨fun _ => ?_, fun q => absurd rfl q⟩
      refine s_firstOrder ia_126 (fun M2 f2 A2 => ?_)
      exact k64 (fct s.2.1) 0 M2 (by omega) (by omega) (fun c k q => by rw [f2 c k (by omega)]; exact hf c k q) (fun e he => by rw [f2 _ _ (by omega)]; exact hw e (by omega) he) (fun x hx => by rw [A2 x hx, prm_0 _ hE x hx]) (fun k' hk' => by omega)
    | succ m ih =>
      intro M hm hf hw
      have hd := dg_lt (B := 3) (by omega) s.2.1 wb m
      have hv1 : val 3 (dg 3 s.2.1 wb) (m + 1) ≤ 243 := by
        have := val_lt (B := 3) (f := dg 3 s.2.1 wb) (n := m + 1) (fun e _ => dg_lt (by omega) _ _ _)
        have : (3 : Nat) ^ (m + 1) ≤ 3 ^ 5 := Nat.pow_le_pow_right (by omega) (by omega)
        omega
      have e1 : val 3 (dg 3 s.2.1 wb) (m + 1) % 3 = dg 3 s.2.1 wb m := by simp only [val]; omega
      have e2 : val 3 (dg 3 s.2.1 wb) (m + 1) / 3 = val 3 (dg 3 s.2.1 wb) m := by simp only [val]; omega
      refine T_X3_makeBest_22 ?_
      rw [n_m1lt0 (by omega), n_r (a := val 3 (dg 3 s.2.1 wb) (m + 1)) (d := 3) (by omega), n_d (a := val 3 (dg 3 s.2.1 wb) (m + 1)) (d := 3) (by omega), e1, e2]
      refine ⟨fun q => by omega, fun _ => ?_⟩
      simp (disch := omega) only [n_lt, n_le, n_eq, n_lt0, n_le0, n_ge0, n_gt0, n_eq0, n_add, n_mul, n_sub, n_m1, ix_n, vin, bI_0, bI_1, nT_le, nF_le, nT_lt, nF_lt, nT_eq, nF_eq, mk_test, true_imp_iff, false_imp_iff, not_true_eq_false, not_false_eq_true, true_and, and_true, tf_, ft_, eq_self, true_or, or_true, false_or, or_false, Nat.add_sub_cancel]
      refine ih _ (by omega) (fun c k hc => by rw [wr_nc _ _ _ _ (by omega)]; exact hf c k hc) (fun e q1 q2 => ?_)
      by_cases e' : e = m
      · subst e'; exact wr_eq _ _ _ _
      · rw [wr_nk _ _ _ _ e']; exact hw e (by omega) q2
  have f1' : ∀ c k, ¬ (c = 164 ∨ c = 165 ∨ c = 166 ∨ (125 ≤ c ∧ c ≤ 129) ∨ (c = 124 ∧ k = 11)) → M1 c k = M0 c k := fun c k q => f1 c k (by omega)
  rw [h5, show M1 30 3 = nI s.2.1 from by rw [f1 _ _ (by omega)]; exact H0.2.2.2.1, m1_sub]
  have z := k22 s.2.1 M1 (Nat.le_refl _) f1' (fun e q1 q2 => by omega)
  rw [val_dg (by omega) _ _ h1] at z
  exact z
