/-! ===== THE RULE ===== -/
def ahd (s : SS) (e f : Nat) : Bool := if s.2.2.2.2.2 e 3 = s.2.2.2.2.2 f 3 then (if s.2.2.2.2.2 e 2 = s.2.2.2.2.2 f 2 then decide (e < f) else decide (s.2.2.2.2.2 f 2 < s.2.2.2.2.2 e 2)) else decide (s.2.2.2.2.2 e 3 < s.2.2.2.2.2 f 3)
theorem ahd_iff (s : SS) (e f : Nat) : ahd s e f = true ↔ (s.2.2.2.2.2 e 3 < s.2.2.2.2.2 f 3 ∨ (s.2.2.2.2.2 e 3 = s.2.2.2.2.2 f 3 ∧ (s.2.2.2.2.2 f 2 < s.2.2.2.2.2 e 2 ∨ (s.2.2.2.2.2 e 2 = s.2.2.2.2.2 f 2 ∧ e < f)))) := by
  unfold ahd
  split
  · split
    · rw [decide_eq_true_eq]; omega
    · rw [decide_eq_true_eq]; omega
  · rw [decide_eq_true_eq]; omega
theorem ahd_tr {s : SS} {e f g : Nat} (h1 : ahd s e f = true) (h2 : ahd s f g = true) : ahd s e g = true := by
  rw [ahd_iff] at h1 h2 ⊢
  omega
theorem ahd_to {s : SS} {e f : Nat} (h1 : ahd s e f = false) (h2 : e ≠ f) : ahd s f e = true := by
  have h1 : ¬ ahd s e f = true := by rw [h1]; simp
  rw [ahd_iff] at h1 ⊢
  omega
theorem ahd_as {s : SS} {e f : Nat} (h1 : ahd s e f = true) : ahd s f e = false := by
  cases h : ahd s f e with
  | false => rfl
  | true => rw [ahd_iff] at h1 h; omega
def WH (h : HS) (s : SS) (p : Nat → Nat × Nat) (e w : Nat) : Prop := wel s w = true ∧ (∀ v, wel s v = true → dn h s e (p w).1 (p w).2 ≤ dn h s e (p v).1 (p v).2) ∧ ∀ v, v < w → wel s v = true → dn h s e (p w).1 (p w).2 < dn h s e (p v).1 (p v).2
theorem WH_uniq {h : HS} {s : SS} {p : Nat → Nat × Nat} {e w w' : Nat} (h1 : WH h s p e w) (h2 : WH h s p e w') : w = w' := by
  rcases Nat.lt_trichotomy w w' with q | q | q
  · have := h2.2.2 w q h1.1
    have := h1.2.1 w' h2.1
    omega
  · exact q
  · have := h1.2.2 w' q h2.1
    have := h2.2.1 w h1.1
    omega
def RU (h : HS) (s : SS) (by_ ro : Nat → Nat) : Prop := (∀ i, i < s.2.1 → ro i < s.2.1) ∧ (∀ i j, i < j → j < s.2.1 → ahd s (ro i) (ro j) = true) ∧ ∀ i, i < s.2.1 → WH h s (pos h s by_ ro i) (ro i) (by_ (ro i))
theorem RU_inj {h : HS} {s : SS} {f o : Nat → Nat} (H : RU h s f o) : ∀ i, i < s.2.1 → ∀ j, j < s.2.1 → o i = o j → i = j := by
  intro i hi j hj hij
  rcases Nat.lt_trichotomy i j with q | q | q
  · have h1 := H.2.1 i j q hj
    have h2 := ahd_as h1
    rw [hij] at h1 h2
    rw [h1] at h2; cases h2
  · exact q
  · have h1 := H.2.1 j i q hi
    have h2 := ahd_as h1
    rw [hij] at h1 h2
    rw [h1] at h2; cases h2
theorem RU_surj {h : HS} {s : SS} (hE : s.2.1 < 6) {f o : Nat → Nat} (H : RU h s f o) {x : Nat} (hx : x < s.2.1) : ∃ i, i < s.2.1 ∧ o i = x := by
  obtain ⟨k, hk, h2⟩ := prm_ex hE H.1 (RU_inj H)
  obtain ⟨i, hi, h4⟩ := anyN_iff.mp (prm_s _ hE k hk x hx)
  exact ⟨i, hi, by rw [← h2 i hi]; simpa using h4⟩
theorem RU_uniq {h : HS} {s : SS} (hE : s.2.1 < 6) {f g o o' : Nat → Nat} (H1 : RU h s f o) (H2 : RU h s g o') : (∀ i, i < s.2.1 → o i = o' i) ∧ (∀ e, e < s.2.1 → f e = g e) := by
  have e1 : ∀ n, ∀ i, i < n → i < s.2.1 → o i = o' i := by
    intro n
    induction n with
    | zero => intro i hi; omega
    | succ n ih =>
      intro i hi hiE
      by_cases q : i < n
      · exact ih i q hiE
      · have : i = n := by omega
        subst this
        obtain ⟨j, hj, hj2⟩ := RU_surj hE H2 (H1.1 i hiE)
        obtain ⟨j', hj', hj2'⟩ := RU_surj hE H1 (H2.1 i hiE)
        by_cases q1 : j < i
        · have := ih j q1 hj
          have := RU_inj H1 j hj i hiE (by rw [this, hj2])
          omega
        · by_cases q2 : j' < i
          · have := ih j' q2 hj'
            have := RU_inj H2 j' hj' i hiE (by rw [← this, hj2'])
            omega
          · by_cases q3 : j = i
            · rw [← hj2, q3]
            · by_cases q4 : j' = i
              · rw [← hj2', q4]
              · have a1 := H2.2.1 i j (by omega) hj
                have a2 := H1.2.1 i j' (by omega) hj'
                rw [hj2] at a1
                rw [hj2'] at a2
                have := ahd_as a1
                rw [a2] at this; cases this
  have e1' : ∀ i, i < s.2.1 → o i = o' i := fun i hi => e1 (i + 1) i (by omega) hi
  have e2 : ∀ n, ∀ i, i < n → i < s.2.1 → f (o i) = g (o i) := by
    intro n
    induction n with
    | zero => intro i hi; omega
    | succ n ih =>
      intro i hi hiE
      by_cases q : i < n
      · exact ih i q hiE
      · have : i = n := by omega
        subst this
        have w1 := H1.2.2 i hiE
        have w2 := H2.2.2 i hiE
        have ep : pos h s f o i = pos h s g o' i := funext (fun v => pos_c (fun j hj => ⟨e1' j (by omega), ih j hj (by omega)⟩) v)
        rw [ep, e1' i hiE] at w1
        rw [e1' i hiE]
        exact WH_uniq w1 w2
  refine ⟨e1', fun e he => ?_⟩
  obtain ⟨i, hi, rfl⟩ := RU_surj hE H1 he
  exact e2 (i + 1) i (by omega) hi
theorem s_isAhead {h : HS} {s : SS} (P : SO s h.1) {M : Mem} (H : SC 30 M s) {e f : Nat} (he : e < s.2.1) (hf : f < s.2.1) {Q : Int32 → Mem → Prop} (k : Q (bI (ahd s e f)) M) : C_X3_isAhead M (nI e) (nI f) Q := by
  have hE := P.2.1
  have p1 := P.2.2.2.2 e he
  have p2 := P.2.2.2.2 f hf
  have a1 : M 35 e = nI (s.2.2.2.2.2 e 3) := H.2.2.2.2.2 e he 3 (by omega)
  have a2 : M 35 f = nI (s.2.2.2.2.2 f 3) := H.2.2.2.2.2 f hf 3 (by omega)
  have a3 : M 34 e = nI (s.2.2.2.2.2 e 2) := H.2.2.2.2.2 e he 2 (by omega)
  have a4 : M 34 f = nI (s.2.2.2.2.2 f 2) := H.2.2.2.2.2 f hf 2 (by omega)
  refine T_X3_isAhead ?_
  unfold ahd at k
  simp (disch := omega) only [n_lt, n_le, n_eq, n_lt0, n_le0, n_ge0, n_gt0, n_eq0, n_add, n_mul, n_sub, n_m1, ix_n, vin, bI_0, bI_1, nT_le, nF_le, nT_lt, nF_lt, nT_eq, nF_eq, mk_test, true_imp_iff, false_imp_iff, not_true_eq_false, not_false_eq_true, true_and, and_true, tf_, ft_, eq_self, true_or, or_true, false_or, or_false, a1, a2, a3, a4]
  refine ⟨fun q => ⟨fun q2 => ⟨fun q3 => ?_, fun q3 => ?_⟩, fun q2 => ⟨fun q3 => ?_, fun q3 => ?_⟩⟩, fun q => ⟨fun q2 => ?_, fun q2 => ?_⟩⟩
  · rw [if_pos q, if_pos q2, decide_eq_false (by omega)] at k; exact k
  · rw [if_pos q, if_pos q2, decide_eq_true (by omega)] at k; exact k
  · rw [if_pos q, if_neg q2, decide_eq_false (by omega)] at k; exact k
  · rw [if_pos q, if_neg q2, decide_eq_true (by omega)] at k; exact k
  · rw [if_neg q, decide_eq_false (by omega)] at k; exact k
  · rw [if_neg q, decide_eq_true (by omega)] at k; exact k
theorem s_soonestFor {h : HS} {s : SS} (O : HO h) (P : SO s h.1) {M : Mem} (H : SC 30 M s) (W : WY M h) (T : ET M h s) {e : Nat} (he : e < s.2.1) {by_ o : Nat → Nat} {i : Nat} (ho : ∀ j, j < i → o j < s.2.1) (hp : PP M h s by_ o i) (hne : ∃ v, wel s v = true) {Q : Int32 → Mem → Prop}
    (K : ∀ w, WH h s (pos h s by_ o i) e w → Q (nI w) M) : C_X3_soonestFor M (nI e) (mk (wel s)) Q := by
  have hS := P.1
  have hE := P.2.1
  have key : ∀ n v, v + n = s.1 → ∀ (x y : Int32), ((x = -1 ∧ y = nI 24 ∧ ∀ u, u < v → wel s u = false) ∨ ∃ w, w < v ∧ x = nI w ∧ y = nI (dn h s e (pos h s by_ o i w).1 (pos h s by_ o i w).2) ∧ wel s w = true ∧ (∀ u, u < v → wel s u = true → dn h s e (pos h s by_ o i w).1 (pos h s by_ o i w).2 ≤ dn h s e (pos h s by_ o i u).1 (pos h s by_ o i u).2) ∧ ∀ u, u < w → wel s u = true → dn h s e (pos h s by_ o i w).1 (pos h s by_ o i w).2 < dn h s e (pos h s by_ o i u).1 (pos h s by_ o i u).2) → P_X3_soonestFor_9 M (nI e) (mk (wel s)) x y (nI v) Q := by
    intro n
    induction n with
    | zero =>
      intro v hv x y hxy
      have : v = s.1 := by omega
      subst this
      refine T_X3_soonestFor_9 ?_
      simp (disch := omega) only [n_lt, n_le, n_eq, n_lt0, n_le0, n_ge0, n_gt0, n_eq0, n_add, n_mul, n_sub, n_m1, ix_n, vin, bI_0, bI_1, nT_le, nF_le, nT_lt, nF_lt, nT_eq, nF_eq, mk_test, true_imp_iff, false_imp_iff, not_true_eq_false, not_false_eq_true, true_and, and_true, tf_, ft_, eq_self, true_or, or_true, false_or, or_false, show M 30 0 = nI s.1 from H.1]
      rcases hxy with ⟨_, _, h3⟩ | ⟨w, h1, rfl, rfl, h4, h5, h6⟩
      · obtain ⟨u, hu⟩ := hne
        rw [h3 u (wel_t hu).1] at hu; cases hu
      · rw [n_max (by omega), Nat.max_eq_left (by omega)]
        exact K w ⟨h4, fun u hu => h5 u (wel_t hu).1 hu, h6⟩
    | succ n ih =>
      intro v hv x y hxy
      refine T_X3_soonestFor_9 ?_
      simp (disch := omega) only [n_lt, n_le, n_eq, n_lt0, n_le0, n_ge0, n_gt0, n_eq0, n_add, n_mul, n_sub, n_m1, ix_n, vin, bI_0, bI_1, nT_le, nF_le, nT_lt, nF_lt, nT_eq, nF_eq, mk_test, true_imp_iff, false_imp_iff, not_true_eq_false, not_false_eq_true, true_and, and_true, tf_, ft_, eq_self, true_or, or_true, false_or, or_false, show M 30 0 = nI s.1 from H.1]
      refine ⟨fun q => ih (v + 1) (by omega) x y ?_, fun q => ?_⟩
      · rcases hxy with ⟨h1, h2, h3⟩ | ⟨w, h1, h2, h3, h4, h5, h6⟩
        · refine Or.inl ⟨h1, h2, fun u hu => ?_⟩
          by_cases e' : u = v
          · subst e'; exact q
          · exact h3 u (by omega)
        · refine Or.inr ⟨w, by omega, h2, h3, h4, fun u hu hw => ?_, h6⟩
          by_cases e' : u = v
          · subst e'; rw [q] at hw; cases hw
          · exact h5 u (by omega) hw
      · rw [Bool.not_eq_false] at q
        have hpos := pos_ok (h := h) P (by_ := by_) (ord := o) i ho v (by omega)
        have hpp := hp v (by omega)
        rw [hpp.1, hpp.2]
        have hd := dn_le P (h := h) (r := (pos h s by_ o i v).1) he hpos.2
        refine s_doneAt O P H W T he hpos.1 hpos.2 ?_
        rcases hxy with ⟨rfl, rfl, h3⟩ | ⟨w, h1, rfl, rfl, h4, h5, h6⟩
        · refine ⟨fun _ => ih (v + 1) (by omega) _ _ (Or.inr ⟨v, by omega, rfl, rfl, q, fun u hu hw => ?_, fun u hu hw => ?_⟩), fun q2 => absurd (by decide) q2⟩
          · by_cases e' : u = v
            · subst e'; exact Nat.le_refl _
            · rw [h3 u (by omega)] at hw; cases hw
          · rw [h3 u hu] at hw; cases hw
        · have hposw := pos_ok (h := h) P (by_ := by_) (ord := o) i ho w (by omega)
          have hdw := dn_le P (h := h) (r := (pos h s by_ o i w).1) he hposw.2
          rw [n_le (by omega) (by omega)]
          refine ⟨fun q2 => absurd q2 (nI_pos (by omega)), fun _ => ⟨fun q2 => ih (v + 1) (by omega) _ _ (Or.inr ⟨w, by omega, rfl, rfl, h4, fun u hu hw => ?_, h6⟩), fun q2 => ih (v + 1) (by omega) _ _ (Or.inr ⟨v, by omega, rfl, rfl, q, fun u hu hw => ?_, fun u hu hw => ?_⟩)⟩⟩
          · by_cases e' : u = v
            · subst e'; exact q2
            · exact h5 u (by omega) hw
          · by_cases e' : u = v
            · subst e'; exact Nat.le_refl _
            · have := h5 u (by omega) hw; omega
          · have := h5 u hu hw; omega
  exact T_X3_soonestFor (key s.1 0 (by omega) _ _ (Or.inl ⟨rfl, rfl, fun u hu => by omega⟩))
def RPl (M : Mem) (h : HS) (s : SS) : Prop := ∃ by_ ro, RU h s by_ ro ∧ M 130 0 = nI (cst h s by_ ro s.2.1) ∧ (∀ i, i < s.2.1 → M 131 i = nI (ro i)) ∧ ∀ e, e < s.2.1 → M 132 e = nI (by_ e)
theorem s_makeRule {h : HS} {s : SS} (O : HO h) (P : SO s h.1) {M0 : Mem} (H0 : SC 30 M0 s) (W0 : WY M0 h) (T0 : ET M0 h s) (hne : ∃ v, wel s v = true) {Q : Mem → Prop}
    (K : ∀ M', (∀ c k, ¬ (c = 165 ∨ c = 166 ∨ (130 ≤ c ∧ c ≤ 134)) → M' c k = M0 c k) → RPl M' h s → Q M') : C_X3_makeRule M0 (mk (wel s)) Q := by
  have hS := P.1
  have hE : s.2.1 < 6 := by have := P.2.1; omega
  have hR := O.1
  have good : ∀ M : Mem, (∀ c k, ¬ (c = 165 ∨ c = 166 ∨ (130 ≤ c ∧ c ≤ 134)) → M c k = M0 c k) → SC 30 M s ∧ WY M h ∧ ET M h s := fun M f => ⟨H0.congr (fun c k q1 q2 => f c k (by omega)), W0.congr hR (fun c k q => f c k (by omega)), fun t ht b hb => by rw [f _ _ (by omega)]; exact T0 t ht b hb⟩
  have k98 : ∀ n i (M : Mem) (o by_ : Nat → Nat), i + n = s.2.1 → (∀ c k, ¬ (c = 165 ∨ c = 166 ∨ (130 ≤ c ∧ c ≤ 134)) → M c k = M0 c k) → AR M 131 o → (∀ i, i < s.2.1 → o i < s.2.1) → (∀ i j, i < j → j < s.2.1 → ahd s (o i) (o j) = true) → PP M h s by_ o i → M 130 0 = nI (cst h s by_ o i) → (∀ j, j < i → M 132 (o j) = nI (by_ (o j)) ∧ WH h s (pos h s by_ o j) (o j) (by_ (o j))) → P_X3_makeRule_98 M (mk (wel s)) (nI i) Q := by
    intro n
    induction n with
    | zero =>
      intro i M o by_ hi hf A ho hs hp hc hw
      obtain ⟨H, W, T⟩ := good M hf
      have : i = s.2.1 := by omega
      subst this
      refine T_X3_makeRule_98 ?_
      simp (disch := omega) only [n_lt, n_le, n_eq, n_lt0, n_le0, n_ge0, n_gt0, n_eq0, n_add, n_mul, n_sub, n_m1, ix_n, vin, bI_0, bI_1, nT_le, nF_le, nT_lt, nF_lt, nT_eq, nF_eq, mk_test, true_imp_iff, false_imp_iff, not_true_eq_false, not_false_eq_true, true_and, and_true, tf_, ft_, eq_self, true_or, or_true, false_or, or_false, show M 30 3 = nI s.2.1 from H.2.2.2.1]
      have U : RU h s by_ o := ⟨ho, hs, fun j hj => (hw j hj).2⟩
      refine K M hf ⟨by_, o, U, hc, fun i hi => A i (by omega), fun e he => ?_⟩
      obtain ⟨j, hj, rfl⟩ := RU_surj hE U he
      exact (hw j hj).1
    | succ n ih =>
      intro i M o by_ hi hf A ho hs hp hc hw
      obtain ⟨H, W, T⟩ := good M hf
      have hoi := ho i (by omega)
      have hinj : ∀ j, j < i → o j ≠ o i := by
        intro j hj q
        have h1 := hs j i hj (by omega)
        have h2 := ahd_as h1
        rw [q] at h1 h2
        rw [h1] at h2; cases h2
      refine T_X3_makeRule_98 ?_
      simp (disch := omega) only [n_lt, n_le, n_eq, n_lt0, n_le0, n_ge0, n_gt0, n_eq0, n_add, n_mul, n_sub, n_m1, ix_n, vin, bI_0, bI_1, nT_le, nF_le, nT_lt, nF_lt, nT_eq, nF_eq, mk_test, true_imp_iff, false_imp_iff, not_true_eq_false, not_false_eq_true, true_and, and_true, tf_, ft_, eq_self, true_or, or_true, false_or, or_false, show M 30 3 = nI s.2.1 from H.2.2.2.1, A i (by omega)]
      refine s_soonestFor O P H W T hoi (fun j hj => ho j (by omega)) hp hne (fun w hw1 => ?_)
      have hwel := wel_t hw1.1
      have hpos := pos_ok (h := h) P (by_ := by_) (ord := o) i (fun j hj => ho j (by omega)) w hwel.1
      have hpw := hp w hwel.1
      obtain ⟨H2, W2, T2⟩ := good (wr M 132 (o i) (nI w)) (fun c k q => by rw [wr_nc _ _ _ _ (by omega)]; exact hf c k q)
      refine s_carryOut_130 O P H2 W2 T2 hoi hwel.1 hpos.1 hpos.2 (wr_eq _ _ _ _) (by rw [wr_nc _ _ _ _ (by omega)]; exact hpw.1) (by rw [wr_nc _ _ _ _ (by omega)]; exact hpw.2) (fun M' f' g1 g2 g3 g4 g5 => ?_)
      obtain ⟨g, ew, eo⟩ : ∃ g : Nat → Nat, g (o i) = w ∧ ∀ e, e ≠ o i → g e = by_ e := ⟨fun e => if e = o i then w else by_ e, by simp, fun e he => by simp [he]⟩
      have ec : ∀ j, j < i → o j = o j ∧ by_ (o j) = g (o j) := fun j hj => ⟨rfl, (eo _ (hinj j hj)).symm⟩
      refine ih (i + 1) M' o g (by omega) (fun c k q => by rw [f' c k (by omega), wr_nc _ _ _ _ (by omega)]; exact hf c k q) (fun x hx => by rw [f' _ _ (by omega), wr_nc _ _ _ _ (by omega)]; exact A x hx) ho hs (fun v hv => ?_) ?_ (fun j hj => ?_)
      · simp only [pos]
        rw [← pos_c ec v, ew]
        by_cases q : v = w
        · subst q; rw [if_pos rfl]; exact ⟨g4, g5⟩
        · rw [if_neg q, f' _ _ (by omega), f' _ _ (by omega), wr_nc _ _ _ _ (by omega), wr_nc _ _ _ _ (by omega)]; exact hp v hv
      · rw [g1, wr_nc _ _ _ _ (by omega), hc, n_add, cst_c ec]
        show _ = nI (cst h s g o i + wt s (o i) (dk_ h s g o i))
        have : dk_ h s g o i = dn h s (o i) (pos h s by_ o i w).1 (pos h s by_ o i w).2 := by
          unfold dk_
          rw [ew, ← pos_c ec w]
        rw [this]
      · by_cases q : j = i
        · subst q
          refine ⟨by rw [f' _ _ (by omega), wr_eq, ew], ?_⟩
          rw [ew, ← show pos h s by_ o j = pos h s g o j from funext (fun v => pos_c ec v)]
          exact hw1
        · have hji : j < i := by omega
          have := hw j hji
          refine ⟨?_, ?_⟩
          · rw [f' _ _ (by omega), wr_nk _ _ _ _ (hinj j hji), eo _ (hinj j hji)]
            exact this.1
          · rw [eo _ (hinj j hji), ← show pos h s by_ o j = pos h s g o j from funext (fun v => pos_c (fun j' hj' => ec j' (by omega)) v)]
            exact this.2
  have k26 : ∀ i k (M : Mem) (o : Nat → Nat), i ≤ k → k < s.2.1 → (∀ c j, ¬ (c = 165 ∨ c = 166 ∨ (130 ≤ c ∧ c ≤ 134)) → M c j = M0 c j) → AR M 131 o → (∀ x, x < s.2.1 → o x < s.2.1) → (∀ x, x < s.2.1 → ∀ y, y < s.2.1 → o x = o y → x = y) →
      (∀ a b, a < b → b ≤ k → a ≠ i → b ≠ i → ahd s (o a) (o b) = true) → (∀ b, i < b → b ≤ k → ahd s (o i) (o b) = true) →
      (∀ (M' : Mem) (o' : Nat → Nat), (∀ c j, ¬ (c = 165 ∨ c = 166 ∨ (130 ≤ c ∧ c ≤ 134)) → M' c j = M0 c j) → AR M' 131 o' → (∀ x, x < s.2.1 → o' x < s.2.1) → (∀ x, x < s.2.1 → ∀ y, y < s.2.1 → o' x = o' y → x = y) → (∀ a b, a < b → b ≤ k → ahd s (o' a) (o' b) = true) → P_X3_makeRule_13 M' (mk (wel s)) (nI k + nI 1) Q) → P_X3_makeRule_26 M (mk (wel s)) (nI k) (nI i) Q := by
    intro i
    induction i with
    | zero =>
      intro k M o hik hk hf A ho hinj s1 s2 K2
      refine T_X3_makeRule_26 ?_
      rw [n_le0 (by omega)]
      refine ⟨fun _ => K2 M o hf A ho hinj (fun a b hab hb => ?_), fun q => absurd rfl q⟩
      by_cases q : a = 0
      · subst q; exact s2 b hab hb
      · exact s1 a b hab hb q (by omega)
    | succ i ih =>
      intro k M o hik hk hf A ho hinj s1 s2 K2
      obtain ⟨H, W, T⟩ := good M hf
      refine T_X3_makeRule_26 ?_
      simp (disch := omega) only [n_lt, n_le, n_eq, n_lt0, n_le0, n_ge0, n_gt0, n_eq0, n_add, n_mul, n_sub, n_m1, ix_n, vin, bI_0, bI_1, nT_le, nF_le, nT_lt, nF_lt, nT_eq, nF_eq, mk_test, true_imp_iff, false_imp_iff, not_true_eq_false, not_false_eq_true, true_and, and_true, tf_, ft_, eq_self, true_or, or_true, false_or, or_false, A (i + 1) (by omega), A i (by omega), Nat.add_sub_cancel]
      refine s_isAhead P H (ho _ (by omega)) (ho _ (by omega)) (br (fun q => ?_) (fun q => ?_))
      · have q' := ahd_to q (fun w => by have := hinj _ (by omega) _ (by omega) w; omega)
        have := K2 M o hf A ho hinj (fun a b hab hb => by
          by_cases qa : a = i + 1
          · subst qa; exact s2 b hab hb
          · by_cases qb : b = i + 1
            · subst qb
              by_cases qc : a = i
              · subst qc; exact q'
              · exact ahd_tr (s1 a i (by omega) (by omega) qa (by omega)) q'
            · exact s1 a b hab hb qa qb)
        rw [n_add] at this
        exact this
      · refine s_swap ia_131 A (by omega) (by omega) (fun M2 f2 A2 => ?_)
        have sw1 : swp o (i + 1) i i = o (i + 1) := by simp [swp]
        have sw2 : swp o (i + 1) i (i + 1) = o i := by simp [swp]
        have sw3 : ∀ x, x ≠ i → x ≠ i + 1 → swp o (i + 1) i x = o x := fun x q1 q2 => by simp [swp, q1, q2]
        refine ih k M2 (swp o (i + 1) i) (by omega) hk (fun c j q => by rw [f2 c j (by omega)]; exact hf c j q) A2 (fun x hx => ?_) (fun x hx y hy hxy => ?_) (fun a b hab hb qa qb => ?_) (fun b hb1 hb2 => ?_) K2
        · by_cases e1 : x = i
          · subst e1; rw [sw1]; exact ho _ (by omega)
          · by_cases e2 : x = i + 1
            · subst e2; rw [sw2]; exact ho _ (by omega)
            · rw [sw3 x e1 e2]; exact ho x hx
        · have inv : ∀ x, x < s.2.1 → ∃ x', x' < s.2.1 ∧ swp o (i + 1) i x = o x' ∧ (x' = if x = i then i + 1 else if x = i + 1 then i else x) := by
            intro x hx
            by_cases e1 : x = i
            · subst e1; exact ⟨x + 1, by omega, sw1, by simp⟩
            · by_cases e2 : x = i + 1
              · subst e2; exact ⟨i, by omega, sw2, by simp⟩
              · exact ⟨x, hx, sw3 x e1 e2, by simp [e1, e2]⟩
          obtain ⟨x', p1, p2, p3⟩ := inv x hx
          obtain ⟨y', r1, r2, r3⟩ := inv y hy
          rw [p2, r2] at hxy
          have := hinj x' p1 y' r1 hxy
          rw [p3, r3] at this
          by_cases e1 : x = i <;> by_cases e2 : x = i + 1 <;> by_cases e3 : y = i <;> by_cases e4 : y = i + 1 <;> simp [e1, e2, e3, e4] at this <;> omega
        · by_cases e1 : b = i + 1
          · subst e1
            rw [sw2, sw3 a (by omega) (by omega)]
            exact s1 a i (by omega) (by omega) (by omega) (by omega)
          · by_cases e2 : a = i + 1
            · subst e2
              rw [sw2, sw3 b (by omega) e1]
              exact s1 i b (by omega) hb (by omega) e1
            · rw [sw3 a qa e2, sw3 b qb e1]
              exact s1 a b hab hb e2 e1
        · rw [sw1]
          by_cases e1 : b = i + 1
          · subst e1; rw [sw2]; exact q
          · rw [sw3 b (by omega) e1]; exact s2 b (by omega) hb2
  have k13 : ∀ n k (M : Mem) (o : Nat → Nat), (k + n = s.2.1 ∨ (s.2.1 ≤ k ∧ n = 0 ∧ k ≤ 5)) → (∀ c j, ¬ (c = 165 ∨ c = 166 ∨ (130 ≤ c ∧ c ≤ 134)) → M c j = M0 c j) → AR M 131 o → (∀ x, x < s.2.1 → o x < s.2.1) → (∀ x, x < s.2.1 → ∀ y, y < s.2.1 → o x = o y → x = y) → (∀ a b, a < b → b < k → b < s.2.1 → ahd s (o a) (o b) = true) → P_X3_makeRule_13 M (mk (wel s)) (nI k) Q := by
    intro n
    induction n with
    | zero =>
      intro k M o hk hf A ho hinj hs
      obtain ⟨H, W, T⟩ := good M hf
      refine T_X3_makeRule_13 ?_
      simp (disch := omega) only [n_lt, n_le, n_eq, n_lt0, n_le0, n_ge0, n_gt0, n_eq0, n_add, n_mul, n_sub, n_m1, ix_n, vin, bI_0, bI_1, nT_le, nF_le, nT_lt, nF_lt, nT_eq, nF_eq, mk_test, true_imp_iff, false_imp_iff, not_true_eq_false, not_false_eq_true, true_and, and_true, tf_, ft_, eq_self, true_or, or_true, false_or, or_false, show M 30 3 = nI s.2.1 from H.2.2.2.1]
      refine s_allHome (h := h) (by_ := fun _ => 0) (o := o) P H (fun M1 f1 p1 => ?_)
      refine k98 s.2.1 0 _ o (fun _ => 0) (by omega) (fun c j q => by rw [wr, if_neg (by omega), f1 c j (by omega) (by omega)]; exact hf c j q) (fun x hx => by rw [wr_nc _ _ _ _ (by omega), f1 _ _ (by omega) (by omega)]; exact A x hx) ho (fun a b hab hb => hs a b hab (by omega) hb) (fun v hv => by rw [wr_nc _ _ _ _ (by omega), wr_nc _ _ _ _ (by omega)]; exact p1 v hv) (wr_eq _ _ _ _) (fun j hj => by omega)
    | succ n ih =>
      intro k M o hk hf A ho hinj hs
      obtain ⟨H, W, T⟩ := good M hf
      refine T_X3_makeRule_13 ?_
      simp (disch := omega) only [n_lt, n_le, n_eq, n_lt0, n_le0, n_ge0, n_gt0, n_eq0, n_add, n_mul, n_sub, n_m1, ix_n, vin, bI_0, bI_1, nT_le, nF_le, nT_lt, nF_lt, nT_eq, nF_eq, mk_test, true_imp_iff, false_imp_iff, not_true_eq_false, not_false_eq_true, true_and, and_true, tf_, ft_, eq_self, true_or, or_true, false_or, or_false, show M 30 3 = nI s.2.1 from H.2.2.2.1]
      refine k26 k k M o (Nat.le_refl _) (by omega) hf A ho hinj (fun a b hab hb _ qb => hs a b hab (by omega) (by omega)) (fun b h1 h2 => by omega) (fun M' o' f' A' ho' hi' hs' => ?_)
      rw [n_add]
      exact ih (k + 1) M' o' (by omega) f' A' ho' hi' (fun a b hab hb _ => hs' a b hab (by omega))
  refine T_X3_makeRule (s_firstOrder ia_131 (fun M1 f1 A1 => ?_))
  have f1' : ∀ c j, ¬ (c = 165 ∨ c = 166 ∨ (130 ≤ c ∧ c ≤ 134)) → M1 c j = M0 c j := fun c j q => f1 c j (by omega)
  by_cases q : s.2.1 = 0
  · exact k13 0 1 M1 _ (by omega) f1' A1 (fun x hx => hx) (fun x _ y _ w => w) (fun a b h1 h2 h3 => by omega)
  · exact k13 (s.2.1 - 1) 1 M1 _ (by omega) f1' A1 (fun x hx => hx) (fun x _ y _ w => w) (fun a b h1 h2 h3 => by omega)
