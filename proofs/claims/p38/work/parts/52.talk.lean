def sy1 (t : TS) (b o r u : Nat) : Nat → Nat → Nat := fun k j => if k = t.2.2.1 then (match j with | 0 => b | 1 => o | 2 => r | _ => u) else t.2.2.2.1 k j
def tadd (t : TS) (b o r u : Nat) : TS := (t.1, t.2.1, t.2.2.1 + 1, sy1 t b o r u, t.2.2.2.2)
theorem s_addSaying {t : TS} {M : Mem} (H : TC 37 M t) (hY : t.2.2.1 < 12) {b o r u : Nat} {Q : Mem → Prop} (K : ∀ M', (∀ c j, ¬ (37 ≤ c ∧ c ≤ 42) → M' c j = M c j) → TC 37 M' (tadd t b o r u) → Q M') : C_X6_addSaying_37 M (nI b) (nI o) (nI r) (nI u) Q := by
  obtain ⟨g1, g2, g3, g4, g5, g6⟩ := H
  have g2 : M 37 1 = nI t.2.2.1 := g2
  refine T_X6_addSaying_37 ⟨by rw [g2, vin (by omega)]; exact hY, ?_⟩
  rw [g2, ix_n (by omega)]
  refine K _ (fun c j q => (by simp only [wr]; repeat rw [if_neg (by omega)])) ⟨by rw [wr_nk _ _ _ _ (by omega), wr_nc _ _ _ _ (by omega), wr_nc _ _ _ _ (by omega), wr_nc _ _ _ _ (by omega), wr_nc _ _ _ _ (by omega)]; exact g1, by rw [wr_eq, n_add]; rfl, by rw [wr_nk _ _ _ _ (by omega), wr_nc _ _ _ _ (by omega), wr_nc _ _ _ _ (by omega), wr_nc _ _ _ _ (by omega), wr_nc _ _ _ _ (by omega)]; exact g3, by rw [wr_nk _ _ _ _ (by omega), wr_nc _ _ _ _ (by omega), wr_nc _ _ _ _ (by omega), wr_nc _ _ _ _ (by omega), wr_nc _ _ _ _ (by omega), wr_nk _ _ _ _ (by omega), wr_nc _ _ _ _ (by omega), wr_nc _ _ _ _ (by omega), wr_nc _ _ _ _ (by omega), wr_nc _ _ _ _ (by omega), wr_nk _ _ _ _ (by omega), wr_nc _ _ _ _ (by omega), wr_nc _ _ _ _ (by omega), wr_nc _ _ _ _ (by omega), wr_nc _ _ _ _ (by omega)]; exact g4, fun i hi => by rw [wr_nc _ _ _ _ (by omega), wr_nc _ _ _ _ (by omega), wr_nc _ _ _ _ (by omega), wr_nc _ _ _ _ (by omega), wr_nc _ _ _ _ (by omega)]; exact g5 i hi, fun e he j hj => ?_⟩
  by_cases e' : e = t.2.2.1
  · subst e'
    rcases (show j = 0 ∨ j = 1 ∨ j = 2 ∨ j = 3 by omega) with q | q | q | q <;> subst q <;> simp [wr, sy1, tadd]
  · have he2 : e < t.2.2.1 := by simp [tadd] at he; omega
    have g := g6 e he2 j hj
    simp only [sy1, tadd, e', if_false]
    rw [← g]
    simp only [wr]
    rw [if_neg (by omega), if_neg (by omega), if_neg (by omega), if_neg (by omega), if_neg (by omega)]
theorem TO.add {t : TS} {R : Nat} (O : TO t R) (hY : t.2.2.1 < 12) {b o r u : Nat} (h1 : b < t.1) (h2 : o < t.1) (h3 : r < R) (h4 : u < 24) : TO (tadd t b o r u) R := by
  refine ⟨O.1, ?_, O.2.2.1, fun e he => ?_, O.2.2.2.2⟩
  · show t.2.2.1 + 1 ≤ 12; omega
  · by_cases e' : e = t.2.2.1
    · subst e'
      simp only [tadd, sy1, if_true]
      exact ⟨h1, h2, h3, h4⟩
    · simp only [tadd, sy1, e', if_false]
      exact O.2.2.2.1 e (by simp [tadd] at he; omega)
theorem TM_add {t : TS} {M M' : Mem} (H : TM M t) {b o r u : Nat} (f : ∀ c j, ¬ ((c = 182 ∧ j = 30) ∨ (c = 201 ∧ 4 * t.2.2.1 ≤ j)) → M' c j = M c j) (e : M' 182 30 = nI (t.2.2.1 + 1)) (e0 : M' 201 (4 * t.2.2.1) = nI b) (e1 : M' 201 (4 * t.2.2.1 + 1) = nI o) (e2 : M' 201 (4 * t.2.2.1 + 2) = nI r) (e3 : M' 201 (4 * t.2.2.1 + 3) = nI u) : TM M' (tadd t b o r u) := by
  obtain ⟨g1, g2, g3, g4, g5, g6⟩ := H
  refine ⟨by rw [f _ _ (by omega)]; exact g1, e, by rw [f _ _ (by omega)]; exact g3, by rw [f _ _ (by omega), f _ _ (by omega)]; exact g4, fun i hi => by rw [f _ _ (by omega)]; exact g5 i hi, fun k hk j hj => ?_⟩
  by_cases e' : k = t.2.2.1
  · subst e'
    rcases (show j = 0 ∨ j = 1 ∨ j = 2 ∨ j = 3 by omega) with q | q | q | q <;> subst q <;> simp only [sy1, tadd, if_true]
    · exact e0
    · exact e1
    · exact e2
    · exact e3
  · have he2 : k < t.2.2.1 := by simp [tadd] at hk; omega
    simp only [sy1, tadd, e', if_false]
    rw [f _ _ (by omega)]
    exact g6 k he2 j hj
