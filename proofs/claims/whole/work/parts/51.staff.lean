theorem SO.mono {s : SS} {R R' : Nat} (O : SO s R) (h : R ≤ R') : SO s R' := ⟨O.1, O.2.1, by have := O.2.2.1; omega, fun i hi => by have := O.2.2.2.1 i hi; omega, fun e he => by have := O.2.2.2.2 e he; omega⟩
theorem TO.mono {t : TS} {R R' : Nat} (O : TO t R) (h : R ≤ R') : TO t R' := ⟨O.1, O.2.1, O.2.2.1, fun k hk => by have := O.2.2.2.1 k hk; omega, fun q => by have := O.2.2.2.2 q; omega⟩
theorem sub11 (a : Nat) : nI a + nI 1 - nI 1 = nI a := by rw [n_add, n_sub (by omega)]; rfl
theorem b_servant {M : Mem} (C : Cpl M) (a : Int32) : C_X9_servant M a (fun r M1 => C_X10_servant M1 a (fun r' M2 => r = r' ∧ Cpl M2)) := by
  obtain ⟨h, s, t, n, tp, x, kx, I, J, O⟩ := C
  have hR := O.1.1
  have hS := O.2.1.1
  have same : Cpl M := ⟨h, s, t, n, tp, x, kx, I, J, O⟩
  obtain ⟨g1, g2, g3, g4, g5, g6⟩ := I.2.2.1
  obtain ⟨u1, u2, u3, u4, u5⟩ := J.2.1
  have g1 : M 30 0 = nI s.1 := g1
  refine T_X9_servant (s_hasRoom I.1.1 hR (br' (fun q => ?_) (fun q => ?_)))
  · refine T_X10_servant (m_isRoom J.1.1 hR ?_)
    rw [q]
    exact ⟨fun w => absurd nI_0 w, fun _ => ⟨rfl, same⟩⟩
  · obtain ⟨j, hj, rfl⟩ := okN_t (by omega) q
    rw [g1, n_eq (by omega) (by omega)]
    refine ⟨fun q2 => ⟨by rw [vin (by omega)]; omega, T_X9_plansChanged ?_⟩, fun q2 => ?_⟩
    · rw [ix_n (by omega)]
      have I1 : IC (wr (wr (wr (wr M 31 s.1 (nI j)) 30 0 (nI s.1 + nI 1)) 95 1 (nI 0)) 124 3 (nI 0)) h (s.1 + 1, s.2.1, s.2.2.1, fun i => if i = s.1 then j else s.2.2.2.1 i, fun i => if i = s.1 then false else s.2.2.2.2.1 i, s.2.2.2.2.2) t n tp x kx := by
        refine I.staff O ⟨by rw [wr_nc _ _ _ _ (by omega), wr_nc _ _ _ _ (by omega), wr_eq, n_add], ?_, by rw [wr_nc _ _ _ _ (by omega), wr_nc _ _ _ _ (by omega), wr_nk _ _ _ _ (by omega), wr_nc _ _ _ _ (by omega)]; exact g3, by rw [wr_nc _ _ _ _ (by omega), wr_nc _ _ _ _ (by omega), wr_nk _ _ _ _ (by omega), wr_nc _ _ _ _ (by omega)]; exact g4, fun i hi => ?_, fun e he k hk => by rw [wr_nc _ _ _ _ (by omega), wr_nc _ _ _ _ (by omega), wr_nc _ _ _ _ (by omega), wr_nc _ _ _ _ (by omega)]; exact g6 e he k hk⟩ (fun c k q => (by simp only [wr]; repeat rw [if_neg (by omega)])) (by rw [wr_nc _ _ _ _ (by omega), wr_eq]) (wr_eq _ _ _ _)
        · rw [wr_nc _ _ _ _ (by omega), wr_nc _ _ _ _ (by omega), wr_nk _ _ _ _ (by omega), wr_nc _ _ _ _ (by omega), g2]
          refine mk_ext (fun i _ => ?_)
          by_cases e : i = s.1
          · simp [e]
          · simp [e, show (i < s.1 + 1) = (i < s.1) from by rw [eq_iff_iff]; omega]
        · rw [wr_nc _ _ _ _ (by omega), wr_nc _ _ _ _ (by omega), wr_nc _ _ _ _ (by omega)]
          by_cases e : i = s.1
          · simp [e, wr]
          · rw [wr_nk _ _ _ _ e]
            simp only [e, if_false]
            exact g5 i (by simp at hi; omega)
      have J1 : IM (wr (wr (wr (wr M 31 s.1 (nI j)) 30 0 (nI s.1 + nI 1)) 95 1 (nI 0)) 124 3 (nI 0)) h s t n tp x kx := J.far (fun c k hc => (by simp only [wr]; repeat rw [if_neg (by omega)]))
      have O' : IO h (s.1 + 1, s.2.1, s.2.2.1, fun i => if i = s.1 then j else s.2.2.2.1 i, fun i => if i = s.1 then false else s.2.2.2.2.1 i, s.2.2.2.2.2) t n tp x kx := by
        obtain ⟨o1, o2, o3⟩ := O
        refine ⟨o1, ⟨?_, o2.2.1, ?_, fun i hi => ?_, o2.2.2.2.2⟩, o3⟩
        · show s.1 + 1 ≤ 3; omega
        · have := o2.2.2.1
          left
          show s.2.2.1 < h.1; omega
        · show (if i = s.1 then j else s.2.2.2.1 i) < h.1
          split
          · exact hj
          · exact o2.2.2.2.1 i (by simp at hi; omega)
      obtain ⟨v1, v2, v3, v4, v5⟩ := J1.2.1
      refine T_X10_servant (m_isRoom J1.1.1 hR ?_)
      rw [q, v1, n_eq (by omega) (by omega)]
      refine ⟨fun _ => ⟨fun _ => ⟨by rw [vin (by omega)]; omega, ?_, _, _, _, _, _, _, _, I1.far O' (fun c k hc => (by simp only [wr]; repeat rw [if_neg (by omega)])), ?_, O'⟩, fun w => absurd w q2⟩, fun w => absurd w (by decide)⟩
      · rw [wr_nc _ _ _ _ (by omega), wr_nc _ _ _ _ (by omega), wr_eq]
      · rw [ix_n (by omega)]
        refine J1.staff ⟨by rw [wr_eq, n_add], by rw [wr_nk _ _ _ _ (by omega), wr_nc _ _ _ _ (by omega), wr_nc _ _ _ _ (by omega)]; exact v2, by rw [wr_nk _ _ _ _ (by omega), wr_nc _ _ _ _ (by omega), wr_nc _ _ _ _ (by omega)]; exact v3, fun i hi => ?_, fun e he k hk => by rw [wr_nc _ _ _ _ (by omega), wr_nc _ _ _ _ (by omega), wr_nc _ _ _ _ (by omega)]; exact v5 e he k hk⟩ (fun c k q => (by simp only [wr]; repeat rw [if_neg (by omega)]))
        by_cases e : i = s.1
        · subst e
          refine ⟨?_, ?_⟩
          · rw [wr_nc _ _ _ _ (by omega), wr_nc _ _ _ _ (by omega), wr_eq]; simp
          · rw [wr_nc _ _ _ _ (by omega), wr_eq]; simp [bI]
        · have hi' : i < s.1 := by simp at hi; omega
          refine ⟨?_, ?_⟩
          · rw [wr_nc _ _ _ _ (by omega), wr_nc _ _ _ _ (by omega), wr_nk _ _ _ _ e]
            simp only [e, if_false]
            exact (v4 i hi').1
          · rw [wr_nc _ _ _ _ (by omega), wr_nk _ _ _ _ e, wr_nc _ _ _ _ (by omega)]
            simp only [e, if_false]
            exact (v4 i hi').2
    · refine T_X10_servant (m_isRoom J.1.1 hR ?_)
      rw [q, u1, n_eq (by omega) (by omega)]
      exact ⟨fun _ => ⟨fun w => absurd q2 w, fun _ => ⟨rfl, same⟩⟩, fun w => absurd w (by decide)⟩
theorem b_ill {M : Mem} (C : Cpl M) (a : Int32) (is : Bool) : C_X9_ill M a (bI is) (fun r M1 => C_X10_ill M1 a (bI is) (fun r' M2 => r = r' ∧ Cpl M2)) := by
  obtain ⟨h, s, t, n, tp, x, kx, I, J, O⟩ := C
  have hS := O.2.1.1
  have same : Cpl M := ⟨h, s, t, n, tp, x, kx, I, J, O⟩
  obtain ⟨g1, g2, g3, g4, g5, g6⟩ := I.2.2.1
  refine T_X9_ill (s_hasServant g1 hS (br' (fun q => ?_) (fun q => ?_)))
  · refine T_X10_ill (s_in ?_)
    rw [J.2.1.1, in_ok a (by omega), q]
    exact ⟨fun w => absurd nI_0 w, fun _ => ⟨rfl, same⟩⟩
  · obtain ⟨j, hj, rfl⟩ := okN_t (by omega) q
    have g2 : M 30 1 = mk (fun i => decide (i < s.1) && s.2.2.2.2.1 i) := g2
    have e1 : ((M 30 1 >>> (nI j &&& 31)) &&& nI 1) = bI (s.2.2.2.2.1 j) := by
      rw [g2, mk_test _ (by omega), decide_eq_true hj, Bool.true_and]
    have key : ∀ v, v = mk (fun i => decide (i < s.1) && (if i = j then is else s.2.2.2.2.1 i)) → C_X9_plansChanged (wr M 30 1 v) (fun M3 => (fun r M1 => C_X10_ill M1 (nI j) (bI is) (fun r' M2 => r = r' ∧ Cpl M2)) ((M 30 1 >>> (nI j &&& 31)) &&& nI 1) M3) := by
      intro v hv
      refine T_X9_plansChanged ?_
      have I1 : IC (wr (wr (wr M 30 1 v) 95 1 (nI 0)) 124 3 (nI 0)) h (s.1, s.2.1, s.2.2.1, s.2.2.2.1, fun i => if i = j then is else s.2.2.2.2.1 i, s.2.2.2.2.2) t n tp x kx := by
        refine I.staff O ⟨by rw [wr_nc _ _ _ _ (by omega), wr_nc _ _ _ _ (by omega), wr_nk _ _ _ _ (by omega)]; exact g1, by rw [wr_nc _ _ _ _ (by omega), wr_nc _ _ _ _ (by omega), wr_eq]; exact hv, by rw [wr_nc _ _ _ _ (by omega), wr_nc _ _ _ _ (by omega), wr_nk _ _ _ _ (by omega)]; exact g3, by rw [wr_nc _ _ _ _ (by omega), wr_nc _ _ _ _ (by omega), wr_nk _ _ _ _ (by omega)]; exact g4, fun i hi => by rw [wr_nc _ _ _ _ (by omega), wr_nc _ _ _ _ (by omega), wr_nc _ _ _ _ (by omega)]; exact g5 i hi, fun e he k hk => by rw [wr_nc _ _ _ _ (by omega), wr_nc _ _ _ _ (by omega), wr_nc _ _ _ _ (by omega)]; exact g6 e he k hk⟩ (fun c k q => (by simp only [wr]; repeat rw [if_neg (by omega)])) (by rw [wr_nc _ _ _ _ (by omega), wr_eq]) (wr_eq _ _ _ _)
      have J1 : IM (wr (wr (wr M 30 1 v) 95 1 (nI 0)) 124 3 (nI 0)) h s t n tp x kx := J.far (fun c k hc => (by simp only [wr]; repeat rw [if_neg (by omega)]))
      have O' : IO h (s.1, s.2.1, s.2.2.1, s.2.2.2.1, fun i => if i = j then is else s.2.2.2.2.1 i, s.2.2.2.2.2) t n tp x kx := O
      obtain ⟨v1, v2, v3, v4, v5⟩ := J1.2.1
      have v4j := (v4 j hj).2
      refine T_X10_ill (s_in ?_)
      rw [v1, in_ok _ (by omega), q]
      refine ⟨fun _ => ⟨by rw [vin (by omega)]; omega, ?_⟩, fun w => absurd w (by decide)⟩
      rw [ix_n (by omega), e1, v4j]
      have fin : ∀ y, y = bI is → (bI (s.2.2.2.2.1 j) = bI (s.2.2.2.2.1 j) ∧ Cpl (wr (wr (wr (wr M 30 1 v) 95 1 (nI 0)) 124 3 (nI 0)) 190 j y)) := by
        intro y hy
        refine ⟨rfl, _, _, _, _, _, _, _, I1.far O' (fun c k hc => wr_nc _ _ _ _ (by omega)), ?_, O'⟩
        refine J1.staff ⟨by rw [wr_nc _ _ _ _ (by omega)]; exact v1, by rw [wr_nc _ _ _ _ (by omega)]; exact v2, by rw [wr_nc _ _ _ _ (by omega)]; exact v3, fun i hi => ?_, fun e he k hk => by rw [wr_nc _ _ _ _ (by omega)]; exact v5 e he k hk⟩ (fun c k q => wr_nc _ _ _ _ (by omega))
        refine ⟨by rw [wr_nc _ _ _ _ (by omega)]; exact (v4 i hi).1, ?_⟩
        by_cases e : i = j
        · subst e; rw [wr_eq, hy]; simp
        · rw [wr_nk _ _ _ _ e]; simp only [e, if_false]; exact (v4 i hi).2
      exact br (fun w => fin _ (by rw [w]; rfl)) (fun w => fin _ (by rw [w]; rfl))
    refine br (fun w => key _ ?_) (fun w => key _ ?_)
    · rw [g2, mk_one (by omega), mk_not, mk_and]
      refine mk_ext (fun i _ => ?_)
      by_cases e : i = j
      · simp [e, w]
      · simp [e]
    · rw [g2, mk_one (by omega), mk_or]
      refine mk_ext (fun i _ => ?_)
      by_cases e : i = j
      · subst e; simp [w, hj]
      · simp [e]
def er1 (s : SS) (k r f p d : Nat) : Nat → Nat → Nat := fun e j => if e = s.2.1 then (match j with | 0 => k | 1 => r | 2 => f | 3 => p | _ => d) else s.2.2.2.2.2 e j
theorem isEr_t {R : Nat} (hR : R ≤ 10) {k r f p d : Int32} (q : isEr R k r f p d = true) : ∃ k' r' f' p' d' : Nat, k = nI k' ∧ r = nI r' ∧ f = nI f' ∧ p = nI p' ∧ d = nI d' ∧ k' ≤ 1 ∧ r' < R ∧ 1 ≤ f' ∧ f' ≤ 9 ∧ p' ≤ d' ∧ d' ≤ 23 := by
  unfold isEr at q
  simp only [Bool.and_eq_true, decide_eq_true_eq] at q
  obtain ⟨q1, q2, q3, q4, q5, q6⟩ := q
  obtain ⟨k', h1, rfl⟩ := okN_t (by omega) q1
  obtain ⟨r', h2, rfl⟩ := okN_t (by omega) q2
  obtain ⟨f', h3, h4, rfl⟩ := rng_t (a := 1) (b := 9) (by omega) q3
  obtain ⟨p', h5, rfl⟩ := okN_t (by omega) q4
  obtain ⟨d', h6, rfl⟩ := okN_t (by omega) q5
  rw [n_le (by omega) (by omega)] at q6
  exact ⟨k', r', f', p', d', rfl, rfl, rfl, rfl, rfl, by omega, h2, h3, h4, q6, by omega⟩
theorem s_addErrand {s : SS} {M : Mem} (H : SC 30 M s) (hE : s.2.1 < 5) {k r f p d : Nat} {Q : Mem → Prop} (K : ∀ M', (∀ c j, ¬ (30 ≤ c ∧ c ≤ 36) → M' c j = M c j) → SC 30 M' (s.1, s.2.1 + 1, s.2.2.1, s.2.2.2.1, s.2.2.2.2.1, er1 s k r f p d) → Q M') : C_X5_addErrand_30 M (nI k) (nI r) (nI f) (nI p) (nI d) Q := by
  obtain ⟨g1, g2, g3, g4, g5, g6⟩ := H
  have g4 : M 30 3 = nI s.2.1 := g4
  refine T_X5_addErrand_30 ⟨by rw [g4, vin (by omega)]; exact hE, ?_⟩
  rw [g4, ix_n (by omega)]
  refine K _ (fun c j q => (by simp only [wr]; repeat rw [if_neg (by omega)])) ⟨by rw [wr_nk _ _ _ _ (by omega), wr_nc _ _ _ _ (by omega), wr_nc _ _ _ _ (by omega), wr_nc _ _ _ _ (by omega), wr_nc _ _ _ _ (by omega), wr_nc _ _ _ _ (by omega)]; exact g1, by rw [wr_nk _ _ _ _ (by omega), wr_nc _ _ _ _ (by omega), wr_nc _ _ _ _ (by omega), wr_nc _ _ _ _ (by omega), wr_nc _ _ _ _ (by omega), wr_nc _ _ _ _ (by omega)]; exact g2, by rw [wr_nk _ _ _ _ (by omega), wr_nc _ _ _ _ (by omega), wr_nc _ _ _ _ (by omega), wr_nc _ _ _ _ (by omega), wr_nc _ _ _ _ (by omega), wr_nc _ _ _ _ (by omega)]; exact g3, by rw [wr_eq, n_add], fun i hi => by rw [wr_nc _ _ _ _ (by omega), wr_nc _ _ _ _ (by omega), wr_nc _ _ _ _ (by omega), wr_nc _ _ _ _ (by omega), wr_nc _ _ _ _ (by omega), wr_nc _ _ _ _ (by omega)]; exact g5 i hi, fun e he j hj => ?_⟩
  by_cases e' : e = s.2.1
  · subst e'
    rcases (show j = 0 ∨ j = 1 ∨ j = 2 ∨ j = 3 ∨ j = 4 by omega) with q | q | q | q | q <;> subst q <;> simp [wr, er1]
  · have g := g6 e (by simp at he; omega) j hj
    simp only [er1, e', if_false]
    rw [← g]
    simp only [wr]
    rw [if_neg (by omega), if_neg (by omega), if_neg (by omega), if_neg (by omega), if_neg (by omega), if_neg (by omega)]
theorem m_puts {s : SS} {M : Mem} (H : SM M s) (hE : s.2.1 < 5) {k r f p d : Nat} {Q : Mem → Prop} (K : ∀ M', (∀ c j, ¬ ((c = 182 ∧ j = 17) ∨ c = 191) → M' c j = M c j) → SM M' (s.1, s.2.1 + 1, s.2.2.1, s.2.2.2.1, s.2.2.2.2.1, er1 s k r f p d) → Q M') : C_X10_puts M (nI k) (nI r) (nI f) (nI p) (nI d) Q := by
  obtain ⟨g1, g2, g3, g4, g5⟩ := H
  have g2 : M 182 17 = nI s.2.1 := g2
  refine T_X10_puts ?_
  rw [g2]
  simp (disch := omega) only [n_mul, n_add, vin, ix_n]
  refine ⟨by omega, by omega, by omega, by omega, by omega, K _ (fun c j q => (by simp only [wr]; repeat rw [if_neg (by omega)])) ⟨by rw [wr_nk _ _ _ _ (by omega), wr_nc _ _ _ _ (by omega), wr_nc _ _ _ _ (by omega), wr_nc _ _ _ _ (by omega), wr_nc _ _ _ _ (by omega), wr_nc _ _ _ _ (by omega)]; exact g1, wr_eq _ _ _ _, by rw [wr_nk _ _ _ _ (by omega), wr_nc _ _ _ _ (by omega), wr_nc _ _ _ _ (by omega), wr_nc _ _ _ _ (by omega), wr_nc _ _ _ _ (by omega), wr_nc _ _ _ _ (by omega)]; exact g3, fun i hi => by rw [wr_nc _ _ _ _ (by omega), wr_nc _ _ _ _ (by omega), wr_nc _ _ _ _ (by omega), wr_nc _ _ _ _ (by omega), wr_nc _ _ _ _ (by omega), wr_nc _ _ _ _ (by omega), wr_nc _ _ _ _ (by omega), wr_nc _ _ _ _ (by omega), wr_nc _ _ _ _ (by omega), wr_nc _ _ _ _ (by omega), wr_nc _ _ _ _ (by omega), wr_nc _ _ _ _ (by omega)]; exact g4 i hi, fun e he j hj => ?_⟩⟩
  by_cases e' : e = s.2.1
  · subst e'
    rcases (show j = 0 ∨ j = 1 ∨ j = 2 ∨ j = 3 ∨ j = 4 by omega) with q | q | q | q | q <;> subst q <;> simp [wr, er1]
  · have g := g5 e (by simp at he; omega) j hj
    simp only [er1, e', if_false]
    rw [← g]
    simp only [wr]
    have : e < s.2.1 := by simp at he; omega
    rw [if_neg (by omega), if_neg (by omega), if_neg (by omega), if_neg (by omega), if_neg (by omega), if_neg (by omega)]
theorem SO.add {s : SS} {R : Nat} (O : SO s R) (hE : s.2.1 < 5) {k r f p d : Nat} (h1 : k ≤ 1) (h2 : r < R) (h3 : 1 ≤ f) (h4 : f ≤ 9) (h5 : p ≤ d) (h6 : d ≤ 23) : SO (s.1, s.2.1 + 1, s.2.2.1, s.2.2.2.1, s.2.2.2.2.1, er1 s k r f p d) R := by
  refine ⟨O.1, ?_, ?_, O.2.2.2.1, fun e he => ?_⟩
  · show s.2.1 + 1 ≤ 5; omega
  · have := O.2.2.1
    left; show s.2.2.1 < R; omega
  · by_cases e' : e = s.2.1
    · subst e'
      simp only [er1, if_true]
      exact ⟨h1, h2, h3, h4, h5, h6⟩
    · simp only [er1, e', if_false]
      exact O.2.2.2.2 e (by simp at he; omega)
theorem b_errand {M : Mem} (C : Cpl M) (k r f p d : Int32) : C_X9_errand M k r f p d (fun y M1 => C_X10_errand M1 k r f p d (fun y' M2 => y = y' ∧ Cpl M2)) := by
  obtain ⟨h, s, t, n, tp, x, kx, I, J, O⟩ := C
  have hR := O.1.1
  have hE := O.2.1.2.1
  have same : Cpl M := ⟨h, s, t, n, tp, x, kx, I, J, O⟩
  have g4 : M 30 3 = nI s.2.1 := I.2.2.1.2.2.2.1
  refine T_X9_errand (s_isErrand I.1.1 hR (br' (fun q => ?_) (fun q => ?_)))
  · refine T_X10_errand (m_isErrand J.1.1 hR ?_)
    rw [q]
    exact ⟨fun w => absurd nI_0 w, fun _ => ⟨rfl, same⟩⟩
  · obtain ⟨k', r', f', p', d', rfl, rfl, rfl, rfl, rfl, h1, h2, h3, h4, h5, h6⟩ := isEr_t hR q
    rw [g4, n_eq (by omega) (by omega)]
    refine ⟨fun q2 => s_addErrand I.2.2.1 (by omega) (fun M1 f1 s1 => T_X9_plansChanged ?_), fun q2 => ?_⟩
    · have I1 : IC (wr (wr M1 95 1 (nI 0)) 124 3 (nI 0)) h (s.1, s.2.1 + 1, s.2.2.1, s.2.2.2.1, s.2.2.2.2.1, er1 s k' r' f' p' d') t n tp x kx := I.staff O (s1.congr (fun c j _ _ => (by simp only [wr]; repeat rw [if_neg (by omega)]))) (fun c j q => by rw [wr, if_neg (by omega), wr, if_neg (by omega)]; exact f1 c j (by omega)) (by rw [wr_nc _ _ _ _ (by omega), wr_eq]) (wr_eq _ _ _ _)
      have J1 : IM (wr (wr M1 95 1 (nI 0)) 124 3 (nI 0)) h s t n tp x kx := J.far (fun c j hc => by rw [wr_nc _ _ _ _ (by omega), wr_nc _ _ _ _ (by omega)]; exact f1 c j (by omega))
      have O' : IO h (s.1, s.2.1 + 1, s.2.2.1, s.2.2.2.1, s.2.2.2.2.1, er1 s k' r' f' p' d') t n tp x kx := ⟨O.1, O.2.1.add (by omega) h1 h2 h3 h4 h5 h6, O.2.2⟩
      refine T_X10_errand (m_isErrand J1.1.1 hR ?_)
      rw [q, J1.2.1.2.1, n_eq (by omega) (by omega)]
      refine ⟨fun _ => ⟨fun _ => m_puts J1.2.1 (by omega) (fun M2 f2 s2 => ⟨?_, _, _, _, _, _, _, _, I1.far O' (fun c j hc => f2 c j (by omega)), J1.staff s2 (fun c j q => f2 c j (by omega)), O'⟩), fun w => absurd w q2⟩, fun w => absurd w (by decide)⟩
      have e1 := I1.2.2.1.2.2.2.1
      have e2 := s2.2.1
      rw [e1, e2]
    · refine T_X10_errand (m_isErrand J.1.1 hR ?_)
      rw [q, J.2.1.2.1, n_eq (by omega) (by omega)]
      exact ⟨fun _ => ⟨fun w => absurd q2 w, fun _ => ⟨rfl, same⟩⟩, fun w => absurd w (by decide)⟩
