def wkU (h : HS) (a b g u : Nat) : Bool := (decide (h.2.2.2.2 g u = a) && decide (h.2.2.2.2 g (u + 1) = b)) || (decide (h.2.2.2.2 g u = b) && decide (h.2.2.2.2 g (u + 1) = a))
def wkd (h : HS) (a b : Nat) : Bool := anyN (fun g => anyN (wkU h a b g) 23) h.2.2.1
theorem s_isWalked {h : HS} (O : HO h) {M : Mem} (H : HC 1 M h) {a b : Nat} (ha : a < 10) (hb : b < 10) {Q : Int32 → Mem → Prop} (k : Q (bI (wkd h a b)) M) : C_X0_isWalked_1 M (nI a) (nI b) Q := by
  have hG := O.2.1
  have e1 : M 1 2 = nI h.2.2.1 := H.2.2.1
  have k13 : ∀ n u g, u + n = 23 → g < h.2.2.1 → anyN (wkU h a b g) u = false → (anyN (wkU h a b g) 23 = false → P_X0_isWalked_1_2 M (nI a) (nI b) (nI (g + 1)) Q) → P_X0_isWalked_1_13 M (nI a) (nI b) (nI g) (nI u) Q := by
    intro n
    induction n with
    | zero =>
      intro u g hu hg hf K2
      have : u = 23 := by omega
      subst this
      refine T_X0_isWalked_1_13 ?_
      rw [n_le (by omega) (by omega), n_add]
      exact ⟨fun _ => K2 hf, fun w => by omega⟩
    | succ n ih =>
      intro u g hu hg hf K2
      have p0 := pa_lt O hg (show u < 24 by omega)
      have p1 := pa_lt O hg (show u + 1 < 24 by omega)
      have e2 : M (4 + 1 + g) u = nI (h.2.2.2.2 g u) := by rw [show 4 + 1 + g = 1 + 4 + g by omega]; exact H.2.2.2.2.2 g hg u (by omega)
      have e3 : M (4 + 1 + g) (u + 1) = nI (h.2.2.2.2 g (u + 1)) := by rw [show 4 + 1 + g = 1 + 4 + g by omega]; exact H.2.2.2.2.2 g hg (u + 1) (by omega)
      have next : wkU h a b g u = false → P_X0_isWalked_1_13 M (nI a) (nI b) (nI g) (nI (u + 1)) Q := fun q => ih (u + 1) g (by omega) hg (by simp only [anyN]; rw [hf, q]; rfl) K2
      have found : wkU h a b g u = true → Q (nI 1) M := by
        intro q
        have : wkd h a b = true := anyN_iff.mpr ⟨g, hg, anyN_iff.mpr ⟨u, by omega, q⟩⟩
        rw [this] at k; exact k
      refine T_X0_isWalked_1_13 ?_
      simp (disch := omega) only [n_le, nF_le, n_add, vin, ix_n, e2, e3, n_eq, nT_lt, false_imp_iff, true_and, not_false_eq_true, true_imp_iff]
      unfold wkU at next found
      refine ⟨fun c1 => ⟨fun c2 => next (by simp [c1, c2]), fun c2 => ⟨fun c3 => next (by simp [c1, c3]), fun c3 => found (by simp [c2, c3])⟩⟩, fun c1 => ⟨fun c2 => found (by simp [c1, c2]), fun c2 => ⟨fun c3 => next (by simp [c2, c3]), fun c3 => ⟨fun c4 => next (by simp [c2, c4]), fun c4 => found (by rw [decide_eq_true c3, decide_eq_true c4]; simp)⟩⟩⟩⟩
  have k2 : ∀ n g, g + n = h.2.2.1 → anyN (fun g => anyN (wkU h a b g) 23) g = false → P_X0_isWalked_1_2 M (nI a) (nI b) (nI g) Q := by
    intro n
    induction n with
    | zero =>
      intro g hg hf
      have : g = h.2.2.1 := by omega
      subst this
      refine T_X0_isWalked_1_2 ?_
      rw [e1, n_le (by omega) (by omega)]
      unfold wkd at k
      rw [hf] at k
      exact ⟨fun _ => k, fun w => by omega⟩
    | succ n ih =>
      intro g hg hf
      refine T_X0_isWalked_1_2 ?_
      rw [e1, n_le (by omega) (by omega)]
      exact ⟨fun w => by omega, fun _ => k13 23 0 g (by omega) (by omega) rfl (fun q => ih (g + 1) (by omega) (by show (anyN (fun g => anyN (wkU h a b g) 23) g || anyN (wkU h a b g) 23) = false; rw [hf, q]; rfl))⟩
  exact T_X0_isWalked_1 (k2 h.2.2.1 0 (by omega) rfl)
theorem m_isWalked {h : HS} (O : HO h) {M : Mem} (H : HM M h) {a b : Nat} (ha : a < 10) (hb : b < 10) {Q : Int32 → Mem → Prop} (k : Q (bI (wkd h a b)) M) : C_X10_isWalked M (nI a) (nI b) Q := by
  have hG := O.2.1
  have e1 : M 182 3 = nI h.2.2.1 := H.2.2.1
  have k17 : ∀ n u g (r : Bool), u + n = 23 → g < h.2.2.1 → P_X10_isWalked_5 M (nI a) (nI b) (bI (r || anyN (wkU h a b g) 23)) (nI (g + 1)) Q → P_X10_isWalked_17 M (nI a) (nI b) (bI (r || anyN (wkU h a b g) u)) (nI g) (nI u) Q := by
    intro n
    induction n with
    | zero =>
      intro u g r hu hg K2
      have : u = 23 := by omega
      subst this
      refine T_X10_isWalked_17 ?_
      rw [n_le (by omega) (by omega), n_add]
      exact ⟨fun _ => K2, fun w => by omega⟩
    | succ n ih =>
      intro u g r hu hg K2
      have p0 := pa_lt O hg (show u < 24 by omega)
      have p1 := pa_lt O hg (show u + 1 < 24 by omega)
      have e2 : M 184 (24 * g + u) = nI (h.2.2.2.2 g u) := H.2.2.2.2 g hg u (by omega)
      have e3 : M 184 (24 * g + u + 1) = nI (h.2.2.2.2 g (u + 1)) := by rw [show 24 * g + u + 1 = 24 * g + (u + 1) by omega]; exact H.2.2.2.2 g hg (u + 1) (by omega)
      have z := ih (u + 1) g r (by omega) hg K2
      simp only [anyN] at z
      rw [← Bool.or_assoc] at z
      refine T_X10_isWalked_17 ?_
      simp (disch := omega) only [n_le, nF_le, n_mul, n_add, vin, ix_n, e2, e3, n_eq, nT_lt, false_imp_iff, true_and, not_false_eq_true, true_imp_iff]
      refine br' (fun q => ?_) (fun q => ?_)
      · rw [q, Bool.false_or] at z
        have y0 : wkU h a b g u = false → P_X10_isWalked_17 M (nI a) (nI b) (nI 0) (nI g) (nI (u + 1)) Q := fun w => by rw [w] at z; exact z
        have y1 : wkU h a b g u = true → P_X10_isWalked_17 M (nI a) (nI b) (nI 1) (nI g) (nI (u + 1)) Q := fun w => by rw [w] at z; exact z
        unfold wkU at y0 y1
        refine ⟨fun c1 => ⟨fun c2 => y0 (by simp [c1, c2]), fun c2 => ⟨fun c3 => y0 (by simp [c1, c3]), fun c3 => y1 (by simp [c2, c3])⟩⟩, fun c1 => ⟨fun c2 => y1 (by simp [c1, c2]), fun c2 => ⟨fun c3 => y0 (by simp [c2, c3]), fun c3 => ⟨fun c4 => y0 (by simp [c2, c4]), fun c4 => y1 (by rw [decide_eq_true c3, decide_eq_true c4]; simp)⟩⟩⟩⟩
      · rw [q, Bool.true_or] at z
        exact z
  have k5 : ∀ n g, g + n = h.2.2.1 → P_X10_isWalked_5 M (nI a) (nI b) (bI (anyN (fun g => anyN (wkU h a b g) 23) g)) (nI g) Q := by
    intro n
    induction n with
    | zero =>
      intro g hg
      have : g = h.2.2.1 := by omega
      subst this
      refine T_X10_isWalked_5 ?_
      rw [e1, n_le (by omega) (by omega)]
      exact ⟨fun _ => ⟨bI_01 _, k⟩, fun w => by omega⟩
    | succ n ih =>
      intro g hg
      have z := ih (g + 1) (by omega)
      simp only [anyN] at z
      refine T_X10_isWalked_5 ?_
      rw [e1, n_le (by omega) (by omega)]
      refine ⟨fun w => by omega, fun _ => ?_⟩
      have y := k17 23 0 g (anyN (fun g => anyN (wkU h a b g) 23) g) (by omega) (by omega) z
      simp only [anyN, Bool.or_false] at y
      exact y
  exact T_X10_isWalked (k5 h.2.2.1 0 (by omega))
theorem dk_ans {v : Nat} (hv : v ≤ 2) (h0 : v ≠ 0) : dkC v = dkI v := by
  rcases (show v = 1 ∨ v = 2 by omega) with q | q <;> subst q <;> rfl
theorem b_wall {M : Mem} (C : Cpl M) (a b : Int32) : C_X9_wall M a b (fun r M1 => C_X10_wall M1 a b (fun r' M2 => r = r' ∧ Cpl M2)) := by
  obtain ⟨h, s, t, n, tp, x, kx, I, J, O⟩ := C
  have hR := O.1.1
  have same : Cpl M := ⟨h, s, t, n, tp, x, kx, I, J, O⟩
  have mst : ∀ (N : Mem), IM N h s t n tp x kx → ∀ {A : Int32 → Mem → Prop}, ((okN a h.1 && (okN b h.1 && !decide (a = b))) = false → A (-1) N) → ((okN a h.1 && (okN b h.1 && !decide (a = b))) = true → (vp_in (((nI 10) * a) + b) 100 ∧ (((0 ≤ (N 183 (ix (((nI 10) * a) + b)))) → (C_X10_isWalked N a b (fun r7 M7 => ((r7 = 0) → (C_X10_doorIs M7 a b (-4) (fun M9 => A (N 183 (ix (((nI 10) * a) + b))) (wr M9 182 1 ((M9 182 1) - (nI 1)))))) ∧ ((¬ r7 = 0) → (A (-2) M7))))) ∧ ((¬ 0 ≤ (N 183 (ix (((nI 10) * a) + b)))) → (A (-4) N))))) → C_X10_wall N a b A := by
    intro N JN A k1 k2
    refine T_X10_wall (m_isRoom JN.1.1 hR (br (fun q => k1 (by rw [q]; rfl)) (fun q => m_isRoom JN.1.1 hR (br (fun q2 => k1 (by rw [q, q2]; rfl)) (fun q2 => ⟨fun q3 => k2 (by rw [q, q2, decide_eq_false q3]; rfl), fun q3 => k1 (by rw [q, q2, decide_eq_true q3]; rfl)⟩)))))
  refine T_X9_wall (s_arePair I.1.1 hR (br' (fun q => mst M J (fun _ => ⟨rfl, same⟩) (fun w => absurd (q.symm.trans w) (by decide))) (fun q => ?_)))
  have q' := q
  simp only [Bool.and_eq_true, Bool.not_eq_true', decide_eq_false_iff_not] at q'
  obtain ⟨qa, qb, qab⟩ := q'
  obtain ⟨a', ha, rfl⟩ := okN_t (by omega) qa
  obtain ⟨b', hb, rfl⟩ := okN_t (by omega) qb
  have hab : a' ≠ b' := fun w => qab (by rw [w])
  have o3 := O.1.2.2.1 a' b'
  have mst2 : ∀ (N : Mem), IM N h s t n tp x kx → ∀ {A : Int32 → Mem → Prop}, ((h.2.2.2.1 a' b' ≠ 0 → ((wkd h a' b' = false → C_X10_doorIs N (nI a') (nI b') (-4) (fun M9 => A (dkI (h.2.2.2.1 a' b')) (wr M9 182 1 ((M9 182 1) - (nI 1))))) ∧ (wkd h a' b' = true → A (-2) N))) ∧ (h.2.2.2.1 a' b' = 0 → A (-4) N)) → C_X10_wall N (nI a') (nI b') A := by
    intro N JN A hA
    refine mst N JN (fun w => absurd (q.symm.trans w) (by decide)) (fun _ => ?_)
    rw [n_mul, n_add, vin (by omega), ix_n (by omega), JN.1.2.2.2.1 a' (by omega) b' (by omega), dkI_pos]
    exact ⟨by omega, fun w => m_isWalked O.1 JN.1 (by omega) (by omega) (br (fun w2 => (hA.1 w).1 w2) (fun w2 => (hA.1 w).2 w2)), fun w => hA.2 (by omega)⟩
  refine s_doorKind O.1 I.1 (by omega) (by omega) ?_
  rw [dkC_m1 o3]
  refine ⟨fun q3 => s_isWalked O.1 I.1 (by omega) (by omega) (br (fun q4 => ?_) (fun q4 => mst2 M J ⟨fun _ => ⟨fun w => absurd (q4.symm.trans w) (by decide), fun _ => ⟨rfl, same⟩⟩, fun w => absurd w q3⟩)), fun q3 => mst2 M J ⟨fun w => absurd q3 w, fun _ => ⟨rfl, same⟩⟩⟩
  have O1 := O.1.set (d := h.2.1 - nI 1) (v := 0) ha hb hab (by omega)
  refine s_takeDoor O.1 I.1 ha hb hab (fun M1 f1 H1 => s_doorsChanged O1 H1 (fun M2 f2 w2 z1 z2 => ?_))
  have I2 : IC M2 (hset h (h.2.1 - nI 1) a' b' 0) s t n tp x kx := I.house O (H1.congr O.1.2.1 (fun c k _ _ => f2 c k (by omega))) w2 (fun c k w => by rw [f2 c k (by omega)]; exact f1 c k (by omega)) z1 z2
  have J2 : IM M2 h s t n tp x kx := J.far (fun c k hc => by rw [f2 c k (by omega)]; exact f1 c k (by omega))
  have O2 : IO (hset h (h.2.1 - nI 1) a' b' 0) s t n tp x kx := ⟨O1, O.2⟩
  rw [dk_ans o3 q3]
  refine mst2 M2 J2 ⟨fun _ => ⟨fun _ => ?_, fun w => absurd (q4.symm.trans w) (by decide)⟩, fun w => absurd w q3⟩
  refine m_doorIs O.1 J2.1 (v := 0) ha hb rfl (fun M3 f3 z3 H3 => ?_)
  have e3 : M3 182 1 = h.2.1 := H3.2.1
  rw [e3]
  refine ⟨rfl, _, _, _, _, _, _, _, I2.far O2 (fun c k hc => by rw [wr_nc _ _ _ _ (by omega)]; exact f3 c k (by omega)), ?_, O2⟩
  obtain ⟨g1, g2, g3, g4, g5⟩ := H3
  exact J2.house ⟨by rw [wr_nk _ _ _ _ (by omega)]; exact g1, wr_eq _ _ _ _, by rw [wr_nk _ _ _ _ (by omega)]; exact g3, fun a ha b hb => by rw [wr_nc _ _ _ _ (by omega)]; exact g4 a ha b hb, fun g hg u hu => by rw [wr_nc _ _ _ _ (by omega)]; exact g5 g hg u hu⟩ (fun c k w => by rw [wr, if_neg (by omega)]; exact f3 c k (by omega)) (by rw [wr_nk _ _ _ _ (by omega)]; exact z3)
/-! ===== the number of doors counts for nothing else ===== -/
def hD (h : HS) (d : Int32) : HS := (h.1, d, h.2.2)
theorem rc_D (h : HS) (d : Int32) (co : Bool) (a t : Nat) : ∀ j, rc (hD h d) co a t j = rc h co a t j := by
  intro j
  induction j with
  | zero => rfl
  | succ j ih =>
    show sp (hD h d) co (t + j) (rc (hD h d) co a t j) = sp h co (t + j) (rc h co a t j)
    rw [ih]; rfl
theorem ed_D (h : HS) (d : Int32) (co : Bool) (a t b : Nat) : ed (hD h d) co a t b = ed h co a t b := by
  unfold ed
  simp only [rc_D]
theorem tk_D (h : HS) (d : Int32) (s : SS) (e r t : Nat) : tk (hD h d) s e r t = tk h s e r t := by
  unfold tk
  simp only [ed_D]
theorem dn_D (h : HS) (d : Int32) (s : SS) (e r t : Nat) : dn (hD h d) s e r t = dn h s e r t := by
  unfold dn
  simp only [ed_D, tk_D]
theorem pos_D (h : HS) (d : Int32) (s : SS) (b o : Nat → Nat) : ∀ i v, pos (hD h d) s b o i v = pos h s b o i v := by
  intro i
  induction i with
  | zero => intro v; rfl
  | succ i ih => intro v; simp only [pos, ih, dn_D]
theorem cst_D (h : HS) (d : Int32) (s : SS) (b o : Nat → Nat) : ∀ i, cst (hD h d) s b o i = cst h s b o i := by
  intro i
  induction i with
  | zero => rfl
  | succ i ih => simp only [cst, dk_, ih, pos_D, dn_D]
theorem MV_D {h : HS} {d : Int32} {s : SS} {T : Nat → Bool} {v : Nat} (H : MV (hD h d) s T v) : MV h s T v := by
  unfold MV Cc at *
  simp only [cst_D] at H
  exact H
theorem setD_back {h : HS} (O : HO h) {a b v : Nat} (h0 : h.2.2.2.1 a b = 0) : setD (setD h.2.2.2.1 a b v) a b 0 = h.2.2.2.1 := by
  funext x y
  unfold setD
  by_cases q : (x = a ∧ y = b) ∨ (x = b ∧ y = a)
  · rw [if_pos q]
    rcases q with ⟨q1, q2⟩ | ⟨q1, q2⟩
    · rw [q1, q2, h0]
    · rw [q1, q2, O.2.2.2.1, h0]
  · rw [if_neg q, if_neg q]
theorem b_opened {M : Mem} (C : Cpl M) (a b : Int32) : C_X9_opened M a b (fun r M1 => C_X10_opened M1 a b (fun r' M2 => r = r' ∧ Cpl M2)) := by
  obtain ⟨h, s, t, n, tp, x, kx, I, J, O⟩ := C
  have hR := O.1.1
  have hS := O.2.1.1
  have same : Cpl M := ⟨h, s, t, n, tp, x, kx, I, J, O⟩
  have mst : ∀ (N : Mem), IM N h s t n tp x kx → ∀ {A : Int32 → Mem → Prop}, ((okN a h.1 && (okN b h.1 && !decide (a = b))) = false → A (-1) N) → ((okN a h.1 && (okN b h.1 && !decide (a = b))) = true → mk (wel s) = 0 → A (-2) N) → ((okN a h.1 && (okN b h.1 && !decide (a = b))) = true → ¬ mk (wel s) = 0 → (vp_in (((nI 10) * a) + b) 100 ∧ ((((N 183 (ix (((nI 10) * a) + b))) < 0) → (C_X10_best N (mk (wel s)) (fun r10 M10 => C_X10_doorIs M10 a b (nI 1) (fun M11 => C_X10_well M11 (fun r12 M12 => C_X10_best M12 r12 (fun r13 M13 => C_X10_doorIs M13 a b (-4) (fun M14 => ((r10 ≤ r13) → (A (nI 0) M14)) ∧ ((¬ r10 ≤ r13) → (A (r10 - r13) M14))))))))) ∧ ((¬ (N 183 (ix (((nI 10) * a) + b))) < 0) → (A (-4) N))))) → C_X10_opened N a b A := by
    intro N JN A k1 k2 k3
    refine T_X10_opened (m_isRoom JN.1.1 hR (br (fun q => k1 (by rw [q]; rfl)) (fun q => m_isRoom JN.1.1 hR (br (fun q2 => k1 (by rw [q, q2]; rfl)) (fun q2 => ⟨fun q3 => ?_, fun q3 => k1 (by rw [q, q2, decide_eq_true q3]; rfl)⟩)))))
    have ok : (okN a h.1 && (okN b h.1 && !decide (a = b))) = true := by rw [q, q2, decide_eq_false q3]; rfl
    refine m_well O.2.1 JN.2.1 ⟨fun w => ?_, fun w => k2 ok w⟩
    obtain ⟨z1, z2, z3⟩ := k3 ok w
    exact ⟨z1, fun w2 => m_well O.2.1 JN.2.1 (z2 w2), z3⟩
  refine T_X9_opened (s_arePair I.1.1 hR (br' (fun q => mst M J (fun _ => ⟨rfl, same⟩) (fun w => absurd (q.symm.trans w) (by decide)) (fun w => absurd (q.symm.trans w) (by decide))) (fun q => s_wellW I.2.2.1 hS ⟨fun wz => ?_, fun wz => mst M J (fun w => absurd (q.symm.trans w) (by decide)) (fun _ _ => ⟨rfl, same⟩) (fun _ w => absurd wz w)⟩)))
  have hne := wel_ne wz hS
  have q' := q
  simp only [Bool.and_eq_true, Bool.not_eq_true', decide_eq_false_iff_not] at q'
  obtain ⟨qa, qb, qab⟩ := q'
  obtain ⟨a', ha, rfl⟩ := okN_t (by omega) qa
  obtain ⟨b', hb, rfl⟩ := okN_t (by omega) qb
  have hab : a' ≠ b' := fun w => qab (by rw [w])
  have o3 := O.1.2.2.1 a' b'
  have mst2 : ∀ (N : Mem), IM N h s t n tp x kx → ∀ {A : Int32 → Mem → Prop}, ((h.2.2.2.1 a' b' = 0 → C_X10_best N (mk (wel s)) (fun r10 M10 => C_X10_doorIs M10 (nI a') (nI b') (nI 1) (fun M11 => C_X10_well M11 (fun r12 M12 => C_X10_best M12 r12 (fun r13 M13 => C_X10_doorIs M13 (nI a') (nI b') (-4) (fun M14 => ((r10 ≤ r13) → (A (nI 0) M14)) ∧ ((¬ r10 ≤ r13) → (A (r10 - r13) M14)))))))) ∧ (¬ h.2.2.2.1 a' b' = 0 → A (-4) N)) → C_X10_opened N (nI a') (nI b') A := by
    intro N JN A hA
    refine mst N JN (fun w => absurd (q.symm.trans w) (by decide)) (fun _ w => absurd w wz) (fun _ _ => ?_)
    rw [n_mul, n_add, vin (by omega), ix_n (by omega), JN.1.2.2.2.1 a' (by omega) b' (by omega), dkI_neg]
    exact ⟨by omega, hA⟩
  refine s_doorKind O.1 I.1 (by omega) (by omega) ?_
  rw [dkC_m1 o3]
  refine ⟨fun q3 => ?_, fun q3 => mst2 M J ⟨fun w => absurd w q3, fun _ => ⟨rfl, same⟩⟩⟩
  refine x_prep I O hne (fun M1 f1 I1 P1 => ?_)
  obtain ⟨b1, k1, B1, e1, _, _⟩ := P1.2.1
  have O2 := O.1.set (d := h.2.1 + nI 1) (v := 2) ha hb hab (by omega)
  have OO2 : IO (hset h (h.2.1 + nI 1) a' b' 2) s t n tp x kx := ⟨O2, O.2⟩
  refine s_putDoor (v := 2) O.1 I1.1 ha hb hab q3 (by omega) (fun M2 f2 H2 => s_doorsChanged O2 H2 (fun M3 f3 w3 z1 z2 => ?_))
  have I3 : IC M3 (hset h (h.2.1 + nI 1) a' b' 2) s t n tp x kx := I1.house O (H2.congr O.1.2.1 (fun c k _ _ => f3 c k (by omega))) w3 (fun c k w => by rw [f3 c k (by omega)]; exact f2 c k (by omega)) z1 z2
  refine x_prep I3 OO2 hne (fun M4 f4 I4 P4 => ?_)
  obtain ⟨b4, k4, B4, e4, _, _⟩ := P4.2.1
  have e3 : (hset (hset h (h.2.1 + nI 1) a' b' 2) ((hset h (h.2.1 + nI 1) a' b' 2).2.1 - nI 1) a' b' 0) = h := by
    show (h.1, (h.2.1 + nI 1) - nI 1, h.2.2.1, setD (setD h.2.2.2.1 a' b' 2) a' b' 0, h.2.2.2.2) = h
    rw [setD_back O.1 q3, Int32.add_sub_cancel]
  refine s_takeDoor O2 I4.1 ha hb hab (fun M5 f5 H5 => ?_)
  rw [e3] at H5
  refine s_doorsChanged O.1 H5 (fun M6 f6 w6 y1 y2 => ?_)
  have I6 : IC M6 h s t n tp x kx := I4.house OO2 (H5.congr O.1.2.1 (fun c k _ _ => f6 c k (by omega))) w6 (fun c k w => by rw [f6 c k (by omega)]; exact f5 c k (by omega)) y1 y2
  have J6 : IM M6 h s t n tp x kx := J.far (fun c k hc => by rw [f6 c k (by omega), f5 c k (by omega), f4 c k hc, f3 c k (by omega), f2 c k (by omega)]; exact f1 c k hc)
  have l1 := MV_le O.2.1 (fun v hv => (wel_t hv).1) (BT_MV B1)
  have l4 := MV_le (h := hset h (h.2.1 + nI 1) a' b' 2) O.2.1 (fun v hv => (wel_t hv).1) (BT_MV B4)
  rw [e1, e4, n_subZ (by omega)]
  refine mst2 M6 J6 ⟨fun _ => ?_, fun w => absurd q3 w⟩
  refine m_best O.1 O.2.1 J6.1 J6.2.1 J6.2.2.2.2.2.2 (fun v hv => (wel_t hv).1) hne (fun M7 b7 k7 g7 x7 L7 B7 _ _ => ?_)
  have J7 := J6.lay g7 (Or.inr ⟨x7, L7⟩)
  have O8 := O.1.set (d := h.2.1) (v := 2) ha hb hab (by omega)
  refine m_doorIs O.1 J7.1 (v := 2) ha hb rfl (fun M8 g8 x8 H8 => ?_)
  have J8 : IM M8 (hset h h.2.1 a' b' 2) s t n tp x kx := J7.house H8 (fun c k w => g8 c k (by omega)) x8
  refine m_well O.2.1 J8.2.1 (m_best O8 O.2.1 J8.1 J8.2.1 J8.2.2.2.2.2.2 (fun v hv => (wel_t hv).1) hne (fun M9 b9 k9 g9 x9 L9 B9 _ _ => ?_))
  have J9 := J8.lay g9 (Or.inr ⟨x9, L9⟩)
  refine m_doorIs O8 J9.1 (v := 0) ha hb rfl (fun M10 g10 x10 H10 => ?_)
  have e10 : hset (hset h h.2.1 a' b' 2) (hset h h.2.1 a' b' 2).2.1 a' b' 0 = h := by
    show (h.1, h.2.1, h.2.2.1, setD (setD h.2.2.2.1 a' b' 2) a' b' 0, h.2.2.2.2) = h
    rw [setD_back O.1 q3]
  rw [e10] at H10
  have J10 : IM M10 h s t n tp x kx := J9.house H10 (fun c k w => g10 c k (by omega)) x10
  have c1 := MV_uniq (BT_MV B1) (BT_MV B7)
  have c2 : Cc (hset h (h.2.1 + nI 1) a' b' 2) s b4 k4 = Cc (hset h h.2.1 a' b' 2) s b9 k9 := by
    refine MV_uniq (h := hset h h.2.1 a' b' 2) (s := s) (T := wel s) ?_ (BT_MV B9)
    have := BT_MV B4
    exact MV_D (h := hset h h.2.1 a' b' 2) (d := h.2.1 + nI 1) this
  have fin : Cpl M10 := ⟨h, s, t, n, tp, x, kx, I6.far O (fun c k hc => by rw [g10 c k (by omega), g9 c k (mlay_lt hc), g8 c k (by omega)]; exact g7 c k (mlay_lt hc)), J10, O⟩
  rw [← c1, ← c2, n_le (by omega) (by omega)]
  refine ⟨fun w => ⟨?_, fin⟩, fun w => ⟨?_, fin⟩⟩
  · rw [show Cc h s b1 k1 - Cc (hset h (h.2.1 + nI 1) a' b' 2) s b4 k4 = 0 by omega]
  · rw [n_sub (by omega)]
