/-! ===== the reference's single errands ===== -/
theorem edI_eq {e : Nat} (h : e < 24) : edI e = nI e := if_pos h
theorem edI_24 : edI 24 = -4 := rfl
def tkI (s : SS) (e x : Nat) : Int32 := if s.2.2.2.2.2 e 0 = 0 then -4 else edI x
theorem SM.er {M : Mem} {s : SS} (H : SM M s) {e : Nat} (he : e < s.2.1) {k : Nat} (hk : k < 5) : M 191 (5 * e + k) = nI (s.2.2.2.2.2 e k) := H.2.2.2.2 e he k hk
theorem m_wouldBe {h : HS} {s : SS} (O : HO h) (P : SO s h.1) {M0 : Mem} (S0 : SM M0 s) (L0 : LT M0 h) {e v r t : Nat} (he : e < s.2.1) (hv : v < s.1) (hr : r < h.1) (ht : t ≤ 24) (e2 : M0 192 v = nI r) (e3 : M0 193 v = edI t) {Q : Int32 → Mem → Prop}
    (K : ∀ M', (∀ c k, ¬ (c = 182 ∧ k = 23) → M' c k = M0 c k) → M' 182 23 = tkI s e (if dn h s e r t = 24 then 24 else tk h s e r t) → Q (edI (dn h s e r t)) M') : C_X10_wouldBe M0 (nI v) (nI e) Q := by
  have hS := P.1
  have hE := P.2.1
  have hR := O.1
  have hp := P.2.2.2.2 e he
  have hc : s.2.2.1 < h.1 := by
    have := P.2.2.1
    omega
  have a0 := S0.er he (k := 0) (by omega)
  have a1 := S0.er he (k := 1) (by omega)
  have a3 := S0.er he (k := 3) (by omega)
  have ac : ∀ v, (wr M0 182 23 v) 182 5 = nI s.2.2.1 := fun v => by rw [wr_nk _ _ _ _ (by omega)]; exact S0.2.2.1
  rw [Nat.add_zero] at a0
  have good : ∀ M : Mem, (∀ c k, ¬ (c = 182 ∧ k = 23) → M c k = M0 c k) → SM M s ∧ LT M h := fun M f => ⟨S0.congr (fun c k q => f c k (by omega)), L0.congr (fun k => f _ k (by omega))⟩
  refine T_X10_wouldBe ⟨by rw [vin (by omega)]; omega, ?_⟩
  rw [ix_n (by omega), e3, e2, edI_pos ht]
  by_cases ht24 : t = 24
  · have := K (wr M0 182 23 (-4)) (fun c k q => by rw [wr, if_neg q]) (by
      rw [wr_eq]
      unfold tkI dn
      rw [if_pos ht24, if_pos rfl]
      split <;> rfl)
    rw [show dn h s e r t = 24 from by unfold dn; rw [if_pos ht24], edI_24] at this
    exact ⟨fun q => by omega, fun _ => this⟩
  · have ht' : t < 24 := by omega
    have call : s.2.2.2.2.2 e 0 = 0 → C_X10_endOf (wr M0 182 23 (-4)) (nI r) (nI (max t (s.2.2.2.2.2 e 3))) (nI (s.2.2.2.2.2 e 1)) (nI 0) (fun r10 M10 => Q r10 M10) := by
      intro h0
      refine m_endOf (co := false) O (good _ (fun c k q => by rw [wr, if_neg q])).2 hr (by omega) hp.2.1 ?_
      have := K (wr M0 182 23 (-4)) (fun c k q => by rw [wr, if_neg q]) (by
        rw [wr_eq]
        unfold tkI
        rw [if_pos h0])
      rw [show dn h s e r t = ed h false r (max t (s.2.2.2.2.2 e 3)) (s.2.2.2.2.2 e 1) from by unfold dn; rw [if_neg ht24, if_pos h0]] at this
      exact this
    have coals : ¬ s.2.2.2.2.2 e 0 = 0 → C_X10_endOf (wr M0 182 23 (-4)) (nI r) (nI (max t (s.2.2.2.2.2 e 3))) (M0 182 5) (nI 0) (fun r10 M10 => ((0 ≤ r10) → (P_X10_wouldBe_121 M10 (nI (s.2.2.2.2.2 e 1)) r10 Q)) ∧ ((¬ 0 ≤ r10) → (Q (-4) M10))) := by
      intro h0
      rw [S0.2.2.1]
      have hle := ed_le h false r (max t (s.2.2.2.2.2 e 3)) s.2.2.1 (by omega)
      have edn : dn h s e r t = if tk h s e r t = 24 then 24 else ed h true s.2.2.1 (tk h s e r t) (s.2.2.2.2.2 e 1) := by unfold dn; rw [if_neg ht24, if_neg h0]
      refine m_endOf (co := false) O (good _ (fun c k q => by rw [wr, if_neg q])).2 hr (by omega) hc ?_
      rw [edI_pos hle.2]
      have k121 : ∀ n u (M : Mem), u + n = 24 → lst (fun u => decide (ed h true s.2.2.1 u (s.2.2.2.2.2 e 1) < 24)) n u = tk h s e r t → (∀ c k, ¬ (c = 182 ∧ k = 23) → M c k = M0 c k) → P_X10_wouldBe_121 M (nI (s.2.2.2.2.2 e 1)) (nI u) Q := by
        intro n
        induction n with
        | zero =>
          intro u M hu hk hf
          have hk : u = tk h s e r t := hk
          have := K (wr M 182 23 (-4)) (fun c k q => by rw [wr, if_neg q]; exact hf c k q) (by
            rw [wr_eq]
            unfold tkI
            rw [if_neg h0, edn, show tk h s e r t = 24 by omega]; simp [edI_24])
          rw [edn, if_pos (by omega), edI_24] at this
          refine T_X10_wouldBe_121 ?_
          simp (disch := omega) only [n_lt, n_le, n_eq, n_lt0, n_le0, n_ge0, n_gt0, n_eq0, n_add, n_mul, n_sub, n_m1, ix_n, vin, bI_0, bI_1, nT_le, nF_le, nT_lt, nF_lt, nT_eq, nF_eq, mk_test, true_imp_iff, false_imp_iff, not_true_eq_false, not_false_eq_true, true_and, and_true, tf_, ft_, eq_self, true_or, or_true, false_or, or_false, ]
          exact this
        | succ n ih =>
          intro u M hu hk hf
          obtain ⟨S1, L1⟩ := good M hf
          have hu24 : u < 24 := by omega
          have hleu := ed_le h true s.2.2.1 u (s.2.2.2.2.2 e 1) (by omega)
          simp only [lst] at hk
          refine T_X10_wouldBe_121 ?_
          simp (disch := omega) only [n_le, nF_le, false_imp_iff, true_and, not_false_eq_true, true_imp_iff, S1.2.2.1]
          refine m_endOf (co := true) O L1 hc hu24 hp.2.1 ?_
          rw [edI_pos hleu.2]
          refine ⟨fun q => ?_, fun q => ?_⟩
          · rw [if_pos (by simp [q])] at hk
            rw [S1.2.2.1]
            refine m_endOf (co := true) O (L1.congr (fun k => wr_nc _ _ _ _ (by omega))) hc hu24 hp.2.1 ?_
            have ed1 : dn h s e r t = ed h true s.2.2.1 u (s.2.2.2.2.2 e 1) := by rw [edn, ← hk, if_neg (by omega)]
            have := K (wr M 182 23 (nI u)) (fun c k q => by rw [wr, if_neg q]; exact hf c k q) (by
              rw [wr_eq]
              unfold tkI
              rw [if_neg h0, ed1, if_neg (by omega), ← hk, edI_eq hu24])
            rw [ed1] at this
            exact this
          · rw [if_neg (by simp [q])] at hk
            rw [n_add]
            exact ih (u + 1) M (by omega) hk hf
      refine ⟨fun q => ?_, fun q => ?_⟩
      · rw [edI_eq q]
        exact k121 (24 - ed h false r (max t (s.2.2.2.2.2 e 3)) s.2.2.1) _ _ (by omega) rfl (fun c k q => by rw [wr, if_neg q])
      · have e24 : tk h s e r t = 24 := by
          unfold tk
          rw [show ed h false r (max t (s.2.2.2.2.2 e 3)) s.2.2.1 = 24 by omega]
          rfl
        have := K (wr M0 182 23 (-4)) (fun c k q => by rw [wr, if_neg q]) (by
          rw [wr_eq]
          unfold tkI
          rw [if_neg h0, edn, if_pos e24, if_pos rfl]; rfl)
        rw [edn, if_pos e24, edI_24] at this
        exact this
    refine ⟨fun _ => ?_, fun q => absurd ht' q⟩
    rw [edI_eq ht']
    simp (disch := omega) only [n_lt, n_le, n_eq, n_lt0, n_le0, n_ge0, n_gt0, n_eq0, n_add, n_mul, n_sub, n_m1, ix_n, vin, bI_0, bI_1, nT_le, nF_le, nT_lt, nF_lt, nT_eq, nF_eq, mk_test, true_imp_iff, false_imp_iff, not_true_eq_false, not_false_eq_true, true_and, and_true, tf_, ft_, eq_self, true_or, or_true, false_or, or_false, a0, a1, a3]
    refine ⟨fun q => ⟨fun q2 => ?_, fun q2 => ?_⟩, fun q => ⟨fun q2 => ?_, fun q2 => ?_⟩⟩
    · have := coals q2
      rw [Nat.max_eq_left (by omega)] at this
      exact this
    · have := call q2
      rw [Nat.max_eq_left (by omega)] at this
      exact this
    · have := coals q2
      rw [Nat.max_eq_right (by omega)] at this
      exact this
    · have := call q2
      rw [Nat.max_eq_right (by omega)] at this
      exact this
theorem m_doIt {h : HS} {s : SS} (O : HO h) (P : SO s h.1) {M0 : Mem} (S0 : SM M0 s) (L0 : LT M0 h) {e v r t : Nat} (he : e < s.2.1) (hv : v < s.1) (hr : r < h.1) (ht : t ≤ 24) (e2 : M0 192 v = nI r) (e3 : M0 193 v = edI t) {Q : Mem → Prop}
    (K : ∀ M', (∀ c k, ¬ ((c = 182 ∧ k = 23) ∨ (c = 194 ∧ k = e) ∨ (c = 195 ∧ k = e) ∨ (c = 192 ∧ k = v) ∨ (c = 193 ∧ k = v)) → M' c k = M0 c k) → M' 194 e = edI (dn h s e r t) → M' 195 e = tkI s e (if dn h s e r t = 24 then 24 else tk h s e r t) → M' 192 v = nI (s.2.2.2.2.2 e 1) → M' 193 v = edI (dn h s e r t) → Q M') : C_X10_doIt M0 (nI v) (nI e) Q := by
  have hS := P.1
  have hE := P.2.1
  refine T_X10_doIt (m_wouldBe O P S0 L0 he hv hr ht e2 e3 (fun M1 f1 t1 => ?_))
  have S1 : SM M1 s := S0.congr (fun c k q => f1 c k (by omega))
  have a1 := S1.er he (k := 1) (by omega)
  simp (disch := omega) only [n_lt, n_le, n_eq, n_lt0, n_le0, n_ge0, n_gt0, n_eq0, n_add, n_mul, n_sub, n_m1, ix_n, vin, bI_0, bI_1, nT_le, nF_le, nT_lt, nF_lt, nT_eq, nF_eq, mk_test, true_imp_iff, false_imp_iff, not_true_eq_false, not_false_eq_true, true_and, and_true, tf_, ft_, eq_self, true_or, or_true, false_or, or_false, a1, t1]
  refine K _ (fun c k q => ?_) ?_ ?_ ?_ ?_
  · simp only [wr]
    rw [if_neg (by omega), if_neg (by omega), if_neg (by omega), if_neg (by omega)]
    exact f1 c k (by omega)
  · simp [wr]
  · simp [wr]
  · simp [wr]
  · simp [wr]
theorem n_subge {a b : Nat} (h : a < 1073741824 ∧ b < 1073741824) : (0 ≤ nI a - nI b) = (b ≤ a) := by
  rw [Int32.le_iff_toInt_le, pk_sub_toInt h.1 h.2, Int32.toInt_zero]
  exact propext (by omega)
theorem m_costOf {h : HS} {s : SS} (P : SO s h.1) {M : Mem} (S0 : SM M s) {e d : Nat} (he : e < s.2.1) (hd : d ≤ 24) (e1 : M 194 e = edI d) {Q : Int32 → Mem → Prop} (k : Q (nI (wt s e d)) M) : C_X10_costOf M (nI e) Q := by
  have hE := P.2.1
  have hp := P.2.2.2.2 e he
  have a2 := S0.er he (k := 2) (by omega)
  have a4 := S0.er he (k := 4) (by omega)
  unfold wt at k
  refine T_X10_costOf ⟨by rw [vin (by omega)]; omega, ?_⟩
  rw [ix_n (by omega), e1, edI_pos hd]
  refine ⟨fun q => ?_, fun q => ?_⟩
  · rw [edI_eq q]
    rw [if_neg (by omega)] at k
    simp (disch := omega) only [n_mul, n_add, ix_n, vin, nT_lt, true_and, a2, a4, n_subge]
    refine ⟨fun q2 => ?_, fun q2 => ?_⟩
    · rw [n_sub q2, n_mul, Nat.mul_comm]
      exact k
    · rw [show d - s.2.2.2.2.2 e 4 = 0 by omega, Nat.mul_zero] at k
      exact k
  · rw [if_pos (by omega), Nat.mul_comm] at k
    simp (disch := omega) only [n_mul, n_add, ix_n, vin, nT_lt, true_and, a2, a4, n_ge0, true_imp_iff, not_true_eq_false, false_imp_iff, and_true]
    exact k
theorem m_well {s : SS} {R : Nat} (P : SO s R) {M : Mem} (S0 : SM M s) {Q : Int32 → Mem → Prop} (k : Q (mk (wel s)) M) : C_X10_well M Q := by
  have hS := P.1
  have key : ∀ n v, v + n = s.1 → P_X10_well_4 M (mk (fun i => decide (i < v) && !s.2.2.2.2.1 i)) (nI v) Q := by
    intro n
    induction n with
    | zero =>
      intro v hv
      have : v = s.1 := by omega
      subst this
      refine T_X10_well_4 ?_
      simp (disch := omega) only [n_lt, n_le, n_eq, n_lt0, n_le0, n_ge0, n_gt0, n_eq0, n_add, n_mul, n_sub, n_m1, ix_n, vin, bI_0, bI_1, nT_le, nF_le, nT_lt, nF_lt, nT_eq, nF_eq, mk_test, true_imp_iff, false_imp_iff, not_true_eq_false, not_false_eq_true, true_and, and_true, tf_, ft_, eq_self, true_or, or_true, false_or, or_false, S0.1]
      exact k
    | succ n ih =>
      intro v hv
      have ev := (S0.2.2.2.1 v (by omega)).2
      have z := ih (v + 1) (by omega)
      refine T_X10_well_4 ?_
      simp (disch := omega) only [n_lt, n_le, n_eq, n_lt0, n_le0, n_ge0, n_gt0, n_eq0, n_add, n_mul, n_sub, n_m1, ix_n, vin, bI_0, bI_1, nT_le, nF_le, nT_lt, nF_lt, nT_eq, nF_eq, mk_test, true_imp_iff, false_imp_iff, not_true_eq_false, not_false_eq_true, true_and, and_true, tf_, ft_, eq_self, true_or, or_true, false_or, or_false, S0.1, ev, mk_one, mk_or]
      refine ⟨fun q => ?_, fun q => ?_⟩
      · rw [mk_0, mk_or]
        rw [show (mk fun i => (decide (i < v) && !s.2.2.2.2.1 i) || false) = mk (fun i => decide (i < v + 1) && !s.2.2.2.2.1 i) from mk_ext (fun i _ => by
          by_cases e : i = v
          · subst e; simp at q; simp [q]
          · simp [show (i < v + 1) = (i < v) from by rw [eq_iff_iff]; omega])]
        exact z
      · rw [show (mk fun i => (decide (i < v) && !s.2.2.2.2.1 i) || decide (i = v)) = mk (fun i => decide (i < v + 1) && !s.2.2.2.2.1 i) from mk_ext (fun i _ => by
          by_cases e : i = v
          · subst e; simp [q]
          · simp [e, show (i < v + 1) = (i < v) from by rw [eq_iff_iff]; omega])]
        exact z
  refine T_X10_well ?_
  have z := key s.1 0 (by omega)
  rw [show (mk fun i => decide (i < 0) && !s.2.2.2.2.1 i) = nI 0 from by rw [mk_0]; exact mk_ext (fun i _ => by simp)] at z
  exact z
def PQ (M : Mem) (h : HS) (s : SS) (by_ o : Nat → Nat) (i : Nat) : Prop := ∀ v, v < s.1 → M 192 v = nI (pos h s by_ o i v).1 ∧ M 193 v = edI (pos h s by_ o i v).2
theorem m_wakes {h : HS} {s : SS} (P : SO s h.1) {M0 : Mem} (S0 : SM M0 s) {by_ o : Nat → Nat} {Q : Mem → Prop}
    (K : ∀ M', (∀ c k, c ≠ 192 → c ≠ 193 → M' c k = M0 c k) → PQ M' h s by_ o 0 → Q M') : C_X10_wakes M0 Q := by
  have hS := P.1
  have key : ∀ n v (M : Mem), v + n = s.1 → (∀ c k, c ≠ 192 → c ≠ 193 → M c k = M0 c k) → (∀ u, u < v → M 192 u = nI (s.2.2.2.1 u) ∧ M 193 u = nI 0) → P_X10_wakes_2 M (nI v) Q := by
    intro n
    induction n with
    | zero =>
      intro v M hv hf hw
      refine T_X10_wakes_2 ?_
      simp (disch := omega) only [n_lt, n_le, n_eq, n_lt0, n_le0, n_ge0, n_gt0, n_eq0, n_add, n_mul, n_sub, n_m1, ix_n, vin, bI_0, bI_1, nT_le, nF_le, nT_lt, nF_lt, nT_eq, nF_eq, mk_test, true_imp_iff, false_imp_iff, not_true_eq_false, not_false_eq_true, true_and, and_true, tf_, ft_, eq_self, true_or, or_true, false_or, or_false, show M 182 14 = nI s.1 from by rw [hf _ _ (by omega) (by omega)]; exact S0.1]
      exact K M hf (fun u hu => hw u (by omega))
    | succ n ih =>
      intro v M hv hf hw
      have e1 : M 189 v = nI (s.2.2.2.1 v) := by rw [hf _ _ (by omega) (by omega)]; exact (S0.2.2.2.1 v (by omega)).1
      refine T_X10_wakes_2 ?_
      simp (disch := omega) only [n_lt, n_le, n_eq, n_lt0, n_le0, n_ge0, n_gt0, n_eq0, n_add, n_mul, n_sub, n_m1, ix_n, vin, bI_0, bI_1, nT_le, nF_le, nT_lt, nF_lt, nT_eq, nF_eq, mk_test, true_imp_iff, false_imp_iff, not_true_eq_false, not_false_eq_true, true_and, and_true, tf_, ft_, eq_self, true_or, or_true, false_or, or_false, show M 182 14 = nI s.1 from by rw [hf _ _ (by omega) (by omega)]; exact S0.1, e1]
      refine ih (v + 1) _ (by omega) (fun c k q1 q2 => by rw [wr_nc _ _ _ _ q2, wr_nc _ _ _ _ q1]; exact hf c k q1 q2) (fun u hu => ?_)
      by_cases e : u = v
      · subst e; exact ⟨by rw [wr_nc _ _ _ _ (by omega), wr_eq], wr_eq _ _ _ _⟩
      · exact ⟨by rw [wr_nc _ _ _ _ (by omega), wr_nk _ _ _ _ e]; exact (hw u (by omega)).1, by rw [wr_nk _ _ _ _ e, wr_nc _ _ _ _ (by omega)]; exact (hw u (by omega)).2⟩
  exact T_X10_wakes (key s.1 0 M0 (by omega) (fun _ _ _ _ => rfl) (fun u hu => by omega))
def mscr (c k : Nat) : Prop := (c = 182 ∧ k = 23) ∨ (192 ≤ c ∧ c ≤ 195)
theorem m_sumOf {h : HS} {s : SS} (O : HO h) (P : SO s h.1) {M0 : Mem} (S0 : SM M0 s) (L0 : LT M0 h) {by_ o : Nat → Nat} (A : ∀ i, i < s.2.1 → M0 199 i = nI (o i)) (ho : ∀ i, i < s.2.1 → o i < s.2.1) (e1 : ∀ e, e < s.2.1 → M0 198 e = nI (by_ e)) (hb : ∀ e, e < s.2.1 → by_ e < s.1) {Q : Int32 → Mem → Prop}
    (K : ∀ M', (∀ c k, ¬ mscr c k → M' c k = M0 c k) → (∀ e, (∃ j, j < s.2.1 ∧ o j = e) → M' 194 e = edI (rnD h s by_ o s.2.1 e) ∧ M' 195 e = tkI s e (rnT h s by_ o s.2.1 e)) → Q (nI (cst h s by_ o s.2.1)) M') : C_X10_sumOf M0 Q := by
  have hS := P.1
  have hE := P.2.1
  have good : ∀ M : Mem, (∀ c k, ¬ mscr c k → M c k = M0 c k) → SM M s ∧ LT M h := fun M f => ⟨S0.congr (fun c k q => f c k (by unfold mscr; omega)), L0.congr (fun k => f _ k (by unfold mscr; omega))⟩
  have key : ∀ n i (M : Mem), i + n = s.2.1 → (∀ c k, ¬ mscr c k → M c k = M0 c k) → PQ M h s by_ o i → (∀ e, (∃ j, j < i ∧ o j = e) → M 194 e = edI (rnD h s by_ o i e) ∧ M 195 e = tkI s e (rnT h s by_ o i e)) → P_X10_sumOf_8 M (nI (cst h s by_ o i)) (nI i) Q := by
    intro n
    induction n with
    | zero =>
      intro i M hi hf hp hw
      obtain ⟨S1, L1⟩ := good M hf
      have : i = s.2.1 := by omega
      subst this
      refine T_X10_sumOf_8 ?_
      simp (disch := omega) only [n_lt, n_le, n_eq, n_lt0, n_le0, n_ge0, n_gt0, n_eq0, n_add, n_mul, n_sub, n_m1, ix_n, vin, bI_0, bI_1, nT_le, nF_le, nT_lt, nF_lt, nT_eq, nF_eq, mk_test, true_imp_iff, false_imp_iff, not_true_eq_false, not_false_eq_true, true_and, and_true, tf_, ft_, eq_self, true_or, or_true, false_or, or_false, S1.2.1]
      exact K M hf hw
    | succ n ih =>
      intro i M hi hf hp hw
      obtain ⟨S1, L1⟩ := good M hf
      have hoi := ho i (by omega)
      have hbi := hb _ hoi
      have hpos := pos_ok (h := h) P (by_ := by_) (ord := o) i (fun j hj => ho j (by omega)) _ hbi
      have hpp := hp _ hbi
      have eA : M 199 i = nI (o i) := by rw [hf _ _ (by unfold mscr; omega)]; exact A i (by omega)
      have eB : M 198 (o i) = nI (by_ (o i)) := by rw [hf _ _ (by unfold mscr; omega)]; exact e1 _ hoi
      refine T_X10_sumOf_8 ?_
      simp (disch := omega) only [n_lt, n_le, n_eq, n_lt0, n_le0, n_ge0, n_gt0, n_eq0, n_add, n_mul, n_sub, n_m1, ix_n, vin, bI_0, bI_1, nT_le, nF_le, nT_lt, nF_lt, nT_eq, nF_eq, mk_test, true_imp_iff, false_imp_iff, not_true_eq_false, not_false_eq_true, true_and, and_true, tf_, ft_, eq_self, true_or, or_true, false_or, or_false, S1.2.1, eA, eB]
      refine m_doIt O P S1 L1 hoi hbi hpos.1 hpos.2 hpp.1 hpp.2 (fun M' f' g2 g3 g4 g5 => ?_)
      have eA' : M' 199 i = nI (o i) := by rw [f' _ _ (by omega)]; exact eA
      rw [eA']
      have f2 : ∀ c k, ¬ mscr c k → M' c k = M0 c k := fun c k q => by rw [f' c k (by unfold mscr at q; omega)]; exact hf c k q
      have hd : dk_ h s by_ o i ≤ 24 := dk_le P (fun j hj => ho j (by omega)) hbi
      refine m_costOf (h := h) P (good M' f2).1 hoi hd g2 ?_
      rw [n_add]
      refine ih (i + 1) M' (by omega) f2 (fun v hv => ?_) (fun e he => ?_)
      · simp only [pos]
        by_cases q : v = by_ (o i)
        · subst q; rw [if_pos rfl]; exact ⟨g4, g5⟩
        · rw [if_neg q, f' _ _ (by omega), f' _ _ (by omega)]; exact hp v hv
      · simp only [rnD, rnT]
        by_cases q : e = o i
        · subst q; rw [if_pos rfl, if_pos rfl]; exact ⟨g2, g3⟩
        · rw [if_neg q, if_neg q, f' _ _ (by omega), f' _ _ (by omega)]
          refine hw e ?_
          obtain ⟨j, hj, hj2⟩ := he
          by_cases q2 : j = i
          · subst q2; exact absurd hj2.symm q
          · exact ⟨j, by omega, hj2⟩
  refine T_X10_sumOf (m_wakes (h := h) (by_ := by_) (o := o) P S0 (fun M1 f1 p1 => ?_))
  exact key s.2.1 0 M1 (by omega) (fun c k q => f1 c k (by unfold mscr at q; omega) (by unfold mscr at q; omega)) p1 (fun e he => by obtain ⟨j, hj, _⟩ := he; omega)
theorem fct_dvd : ∀ n, n < 6 → 0 < n → fct (n - 1) ∣ fct n := by
  intro n hn h0
  obtain ⟨m, rfl⟩ : ∃ m, n = m + 1 := ⟨n - 1, by omega⟩
  exact ⟨m + 1, by rw [Nat.add_sub_cancel, Nat.mul_comm]; rfl⟩
theorem m_rows {s : SS} {R : Nat} (P : SO s R) {M0 : Mem} (S0 : SM M0 s) {k : Nat} (hk : k < fct s.2.1) {Q : Mem → Prop}
    (K : ∀ M', (∀ c j, ¬ (c = 199 ∧ j < s.2.1) → M' c j = M0 c j) → (∀ i, i < s.2.1 → M' 199 i = nI (prm s.2.1 k i)) → Q M') : C_X10_rows M0 (nI k) Q := by
  have hE : s.2.1 < 6 := by have := P.2.1; omega
  have hf120 := fct_pos _ hE
  have pw := prm_w _ hE k hk
  have pa := prm_a _ hE k hk
  have good : ∀ M : Mem, (∀ c j, ¬ (c = 199 ∧ j < s.2.1) → M c j = M0 c j) → SM M s := fun M f => S0.congr (fun c k q => f c k (by omega))
  have k14 : ∀ n i (M : Mem), i + n = s.2.1 → (∀ c j, ¬ (c = 199 ∧ j < s.2.1) → M c j = M0 c j) → (∀ j, j < i → M 199 j = nI (prm s.2.1 k j)) → P_X10_rows_14 M (mk (lef s.2.1 k i)) (nI (k % fct (s.2.1 - i))) (nI i) Q := by
    intro n
    induction n with
    | zero =>
      intro i M hi hf hw
      refine T_X10_rows_14 ?_
      simp (disch := omega) only [n_lt, n_le, n_eq, n_lt0, n_le0, n_ge0, n_gt0, n_eq0, n_add, n_mul, n_sub, n_m1, ix_n, vin, bI_0, bI_1, nT_le, nF_le, nT_lt, nF_lt, nT_eq, nF_eq, mk_test, true_imp_iff, false_imp_iff, not_true_eq_false, not_false_eq_true, true_and, and_true, tf_, ft_, eq_self, true_or, or_true, false_or, or_false, (good M hf).2.1]
      exact K M hf (fun j hj => hw j (by omega))
    | succ n ih =>
      intro i M hi hf hw
      have S1 := good M hf
      have hm := (fct_pos (s.2.1 - i) (by omega))
      have hm1 := (fct_pos (s.2.1 - i - 1) (by omega))
      have hmod := Nat.mod_lt k (show 0 < fct (s.2.1 - i) by omega)
      have k68 : ∀ f e z, wlk (lef s.2.1 k i) f z e = prm s.2.1 k i → z < 1000 → e + f ≤ 32 → P_X10_rows_68 M (mk (lef s.2.1 k i)) (nI (k % fct (s.2.1 - i) % fct (s.2.1 - i - 1))) (nI i) (nI z) (nI e) Q := by
        intro f
        induction f with
        | zero =>
          intro e z hwl _ _
          have := pa.1 i (by omega)
          simp only [wlk] at hwl
          omega
        | succ f ihf =>
          intro e z hwl hz hef
          simp only [wlk] at hwl
          refine T_X10_rows_68 ?_
          cases hL : lef s.2.1 k i e with
          | false =>
            rw [if_neg (by rw [hL]; simp)] at hwl
            rw [mk_test _ (by omega), hL]
            rw [show nI z - bI false = nI z from by rw [bI_f, n_sub (by omega)]; rfl]
            refine ⟨fun _ => ?_, fun q => absurd nI_0 q⟩
            rw [n_add]
            exact ihf (e + 1) z hwl hz (by omega)
          | true =>
            rw [if_pos hL] at hwl
            rw [mk_test _ (by omega), hL]
            refine ⟨fun q => absurd q (by decide), fun _ => ?_⟩
            rw [n_le0 (by omega)]
            refine ⟨fun q => ?_, fun q => ?_⟩
            · rw [if_pos q] at hwl
              refine ⟨by rw [vin (by omega)]; omega, ?_⟩
              rw [ix_n (by omega), n_add, mk_one (by omega), mk_not, mk_and]
              have z1 := ih (i + 1) (wr M 199 i (nI e)) (by omega) (fun c j q => by rw [wr, if_neg (by omega)]; exact hf c j q) (fun j hj => ?_)
              · rw [show k % fct (s.2.1 - (i + 1)) = k % fct (s.2.1 - i) % fct (s.2.1 - i - 1) from by
                  rw [Nat.mod_mod_of_dvd _ (fct_dvd _ (by omega) (by omega))]; rfl] at z1
                rw [show mk (lef s.2.1 k (i + 1)) = (mk fun j => lef s.2.1 k i j && !decide (j = e)) from mk_ext (fun j _ => by
                  unfold lef
                  simp only [anyN]
                  rw [← hwl]
                  cases decide (j < s.2.1) <;> cases anyN (fun x => decide (prm s.2.1 k x = j)) i <;> simp [eq_comm])] at z1
                exact z1
              · by_cases e' : j = i
                · subst e'; rw [wr_eq, hwl]
                · rw [wr_nk _ _ _ _ e']; exact hw j (by omega)
            · rw [if_neg q] at hwl
              rw [bI_t, n_sub (by omega), n_add]
              exact ihf (e + 1) (z - 1) hwl (by omega) (by omega)
      have k29 : ∀ n2 m, m + n2 = s.2.1 - i ∨ (n2 = 0 ∧ m = 2 ∧ s.2.1 - i ≤ 2) → 2 ≤ m → (m ≤ s.2.1 - i ∨ m = 2) → P_X10_rows_29 M (mk (lef s.2.1 k i)) (nI (k % fct (s.2.1 - i))) (nI i) (nI (fct (m - 1))) (nI m) Q := by
        intro n2
        induction n2 with
        | zero =>
          intro m hm2 hm3 hm4
          have em : fct (m - 1) = fct (s.2.1 - i - 1) := by
            rcases hm2 with q | ⟨_, q, q2⟩
            · rw [show m = s.2.1 - i by omega]
            · subst q
              rcases (show s.2.1 - i = 1 ∨ s.2.1 - i = 2 by omega) with q3 | q3 <;> rw [q3]
              rfl
          refine T_X10_rows_29 ?_
          rw [S1.2.1, n_sub (by omega), n_le (by omega) (by omega), em]
          have hdl : k % fct (s.2.1 - i) / fct (s.2.1 - i - 1) ≤ k % fct (s.2.1 - i) := Nat.div_le_self _ _
          refine ⟨fun _ => ?_, fun q => by omega⟩
          rw [n_r (by omega), n_d (by omega)]
          have ne : ¬ nI (fct (s.2.1 - i - 1)) = 0 := by rw [n_eq0 (by omega)]; omega
          exact ⟨ne, ne, k68 8 0 _ (pw i (by omega)) (by omega) (by omega)⟩
        | succ n2 ih2 =>
          intro m hm2 hm3 hm4
          refine T_X10_rows_29 ?_
          rw [S1.2.1, n_sub (by omega), n_le (by omega) (by omega)]
          refine ⟨fun q => by omega, fun _ => ?_⟩
          rw [n_mul, n_add]
          have z := ih2 (m + 1) (by omega) (by omega) (by omega)
          rw [show fct (m + 1 - 1) = fct (m - 1) * m from by
            obtain ⟨x, rfl⟩ : ∃ x, m = x + 1 := ⟨m - 1, by omega⟩
            show (x + 1) * fct x = fct x * (x + 1)
            rw [Nat.mul_comm]] at z
          exact z
      refine T_X10_rows_14 ?_
      rw [S1.2.1, n_le (by omega) (by omega)]
      refine ⟨fun q => by omega, fun _ => ?_⟩
      by_cases q : s.2.1 - i ≤ 2
      · exact k29 0 2 (by omega) (by omega) (by omega)
      · exact k29 (s.2.1 - i - 2) 2 (by omega) (by omega) (by omega)
  refine T_X10_rows ?_
  rw [S0.2.1, mk_full _ (by omega)]
  have z := k14 s.2.1 0 M0 (by omega) (fun _ _ _ => rfl) (fun j hj => by omega)
  rw [Nat.sub_zero, Nat.mod_eq_of_lt hk] at z
  rw [show mk (lef s.2.1 k 0) = (mk fun i => decide (i < s.2.1)) from mk_ext (fun i _ => by simp [lef, anyN])] at z
  exact z
