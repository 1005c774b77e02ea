theorem SO.mono {s : SS} {R R' : Nat} (O : SO s R) (h : R ≤ R') : SO s R' := ⟨O.1, O.2.1, by have := O.2.2.1; omega, fun i hi => by have := O.2.2.2.1 i hi; omega, fun e he => by have := O.2.2.2.2 e he; omega⟩
theorem TO.mono {t : TS} {R R' : Nat} (O : TO t R) (h : R ≤ R') : TO t R' := ⟨O.1, O.2.1, O.2.2.1, fun k hk => by have := O.2.2.2.1 k hk; omega, fun q => by have := O.2.2.2.2 q; omega⟩
theorem sub11 (a : Nat) : nI a + nI 1 - nI 1 = nI a := by rw [n_add, n_sub (by omega)]; rfl
def er1 (s : SS) (k r f p d : Nat) : Nat → Nat → Nat := fun e j => if e = s.2.1 then (match j with | 0 => k | 1 => r | 2 => f | 3 => p | _ => d) else s.2.2.2.2.2 e j
theorem isEr_t {R : Nat} (hR : R ≤ 10) {k r f p d : Int32} (q : isEr R k r f p d = true) : ∃ k' r' f' p' d' : Nat, k = nI k' ∧ r = nI r' ∧ f = nI f' ∧ p = nI p' ∧ d = nI d' ∧ k' ≤ 1 ∧ r' < R ∧ 1 ≤ f' ∧ f' ≤ 9 ∧ p' ≤ d' ∧ d' ≤ 23 := by
  unfold isEr at q
  simp only [Bool.and_eq_true, decide_eq_true_eq] at q
  obtain ⟨q1, q2, q3, q4, q5, q6⟩ := q
  obtain ⟨k', h1, rfl⟩ := okN_t (by omega) q1
  obtain ⟨r', h2, rfl⟩ := okN_t (by omega) q2
  obtain ⟨f', h3, h4, rfl⟩ := rng_t (a := 1) (b := 9) (by omega) q3
  obtain ⟨p', h5, rfl⟩ := okN_t (by omega) q4
  obtain ⟨d', h6, rfl⟩ := okN_t (by omega) q5
  rw [n_le (by omega) (by omega)] at q6
  exact ⟨k', r', f', p', d', rfl, rfl, rfl, rfl, rfl, by omega, h2, h3, h4, q6, by omega⟩
theorem s_addErrand {s : SS} {M : Mem} (H : SC 30 M s) (hE : s.2.1 < 5) {k r f p d : Nat} {Q : Mem → Prop} (K : ∀ M', (∀ c j, ¬ (30 ≤ c ∧ c ≤ 36) → M' c j = M c j) → SC 30 M' (s.1, s.2.1 + 1, s.2.2.1, s.2.2.2.1, s.2.2.2.2.1, er1 s k r f p d) → Q M') : C_X5_addErrand_30 M (nI k) (nI r) (nI f) (nI p) (nI d) Q := by
  obtain ⟨g1, g2, g3, g4, g5, g6⟩ := H
  have g4 : M 30 3 = nI s.2.1 := g4
  refine T_X5_addErrand_30 ⟨by rw [g4, vin (by omega)]; exact hE, ?_⟩
  rw [g4, ix_n (by omega)]
  refine K _ (fun c j q => (by simp only [wr]; repeat rw [if_neg (by omega)])) ⟨by rw [wr_nk _ _ _ _ (by omega), wr_nc _ _ _ _ (by omega), wr_nc _ _ _ _ (by omega), wr_nc _ _ _ _ (by omega), wr_nc _ _ _ _ (by omega), wr_nc _ _ _ _ (by omega)]; exact g1, by rw [wr_nk _ _ _ _ (by omega), wr_nc _ _ _ _ (by omega), wr_nc _ _ _ _ (by omega), wr_nc _ _ _ _ (by omega), wr_nc _ _ _ _ (by omega), wr_nc _ _ _ _ (by omega)]; exact g2, by rw [wr_nk _ _ _ _ (by omega), wr_nc _ _ _ _ (by omega), wr_nc _ _ _ _ (by omega), wr_nc _ _ _ _ (by omega), wr_nc _ _ _ _ (by omega), wr_nc _ _ _ _ (by omega)]; exact g3, by rw [wr_eq, n_add], fun i hi => by rw [wr_nc _ _ _ _ (by omega), wr_nc _ _ _ _ (by omega), wr_nc _ _ _ _ (by omega), wr_nc _ _ _ _ (by omega), wr_nc _ _ _ _ (by omega), wr_nc _ _ _ _ (by omega)]; exact g5 i hi, fun e he j hj => ?_⟩
  by_cases e' : e = s.2.1
  · subst e'
    rcases (show j = 0 ∨ j = 1 ∨ j = 2 ∨ j = 3 ∨ j = 4 by omega) with q | q | q | q | q <;> subst q <;> simp [wr, er1]
  · have g := g6 e (by simp at he; omega) j hj
    simp only [er1, e', if_false]
    rw [← g]
    simp only [wr]
    rw [if_neg (by omega), if_neg (by omega), if_neg (by omega), if_neg (by omega), if_neg (by omega), if_neg (by omega)]
theorem SO.add {s : SS} {R : Nat} (O : SO s R) (hE : s.2.1 < 5) {k r f p d : Nat} (h1 : k ≤ 1) (h2 : r < R) (h3 : 1 ≤ f) (h4 : f ≤ 9) (h5 : p ≤ d) (h6 : d ≤ 23) : SO (s.1, s.2.1 + 1, s.2.2.1, s.2.2.2.1, s.2.2.2.2.1, er1 s k r f p d) R := by
  refine ⟨O.1, ?_, ?_, O.2.2.2.1, fun e he => ?_⟩
  · show s.2.1 + 1 ≤ 5; omega
  · have := O.2.2.1
    left; show s.2.2.1 < R; omega
  · by_cases e' : e = s.2.1
    · subst e'
      simp only [er1, if_true]
      exact ⟨h1, h2, h3, h4, h5, h6⟩
    · simp only [er1, e', if_false]
      exact O.2.2.2.2 e (by simp at he; omega)
