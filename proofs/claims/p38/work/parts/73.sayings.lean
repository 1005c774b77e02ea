/-! ===== sayings ===== -/
def tN (t : TS) (g : Nat → Nat) : Nat → TS
  | 0 => t
  | m + 1 => tadd (tN t g m) (g (4 * m)) (g (4 * m + 1)) (g (4 * m + 2)) (g (4 * m + 3))
theorem tN_c (t : TS) (g : Nat → Nat) : ∀ m, (tN t g m).1 = t.1 ∧ (tN t g m).2.1 = t.2.1 ∧ (tN t g m).2.2.1 = t.2.2.1 + m ∧ (tN t g m).2.2.2.2 = t.2.2.2.2 ∧ (∀ k, k < t.2.2.1 → ∀ j, (tN t g m).2.2.2.1 k j = t.2.2.2.1 k j) ∧ ∀ k, k < m → ∀ j, j < 4 → (tN t g m).2.2.2.1 (t.2.2.1 + k) j = g (4 * k + j) := by
  intro m
  induction m with
  | zero => exact ⟨rfl, rfl, rfl, rfl, fun _ _ _ => rfl, fun k hk => absurd hk (by omega)⟩
  | succ m ih =>
    obtain ⟨h1, h2, h3, h4, h5, h6⟩ := ih
    refine ⟨h1, h2, ?_, h4, fun k hk j => ?_, fun k hk j hj => ?_⟩
    · show (tN t g m).2.2.1 + 1 = _; omega
    · show sy1 (tN t g m) _ _ _ _ k j = _
      unfold sy1
      rw [if_neg (by omega)]; exact h5 k hk j
    · show sy1 (tN t g m) _ _ _ _ (t.2.2.1 + k) j = _
      unfold sy1
      by_cases e : k = m
      · subst e
        rw [if_pos (by omega)]
        rcases (show j = 0 ∨ j = 1 ∨ j = 2 ∨ j = 3 by omega) with w | w | w | w <;> subst w <;> rfl
      · rw [if_neg (by omega)]; exact h6 k (by omega) j hj
theorem tN_O {t : TS} {R : Nat} (O : TO t R) {g : Nat → Nat} {m : Nat} (hm : t.2.2.1 + m ≤ 12) (hg : ∀ k, k < m → g (4 * k) < t.1 ∧ g (4 * k + 1) < t.1 ∧ g (4 * k + 2) < R ∧ g (4 * k + 3) < 24) : ∀ i, i ≤ m → TO (tN t g i) R := by
  intro i
  induction i with
  | zero => intro _; exact O
  | succ i ih =>
    intro hi
    obtain ⟨h1, h2, h3, h4⟩ := hg i (by omega)
    have c := tN_c t g i
    exact (ih (by omega)).add (by rw [c.2.2.1]; omega) (by rw [c.1]; exact h1) (by rw [c.1]; exact h2) h3 h4
theorem syf_l {R F n : Nat} {tp : Nat → Nat} {f : Nat} : ∀ d p i row, p ≤ n → syf R F n tp d p i row = .inl f → f ≤ n := by
  intro d
  induction d with
  | zero => intro p i row hp e; rw [syf] at e; cases e; omega
  | succ d ih =>
    intro p i row hp e
    have hb := sk_bd (n := n) (tp := tp) _ p rfl hp
    rw [syf] at e
    split at e
    · cases e; exact hb.2
    rename_i q1
    have l1 := ltB_t (show ltB n tp F p = true from by simpa using q1)
    have b1 := sk_bd (n := n) (tp := tp) _ (sk n tp p + 1) rfl (by omega)
    split at e
    · cases e; exact b1.2
    rename_i q2
    have l2 := ltB_t (show ltB n tp F (sk n tp p + 1) = true from by simpa using q2)
    have b2 := sk_bd (n := n) (tp := tp) _ (sk n tp (sk n tp p + 1) + 1) rfl (by omega)
    split at e
    · cases e; exact b2.2
    rename_i q3
    have l3 := ltB_t (show ltB n tp R (sk n tp (sk n tp p + 1) + 1) = true from by simpa using q3)
    have b3 := sk_bd (n := n) (tp := tp) _ (sk n tp (sk n tp (sk n tp p + 1) + 1) + 1) rfl (by omega)
    have b4 := nE_bd (n := n) (tp := tp) (p := sk n tp (sk n tp (sk n tp p + 1) + 1) + 1) (by omega)
    have b5 := sk_bd (n := n) (tp := tp) _ (nE n tp (sk n tp (sk n tp (sk n tp p + 1) + 1) + 1)).1 rfl b4.2
    split at e
    · cases e; exact b3.2
    split at e
    · split at e
      · exact ih _ _ _ (by omega) e
      · cases e; exact b5.2
    · cases e
def rOK (R F : Nat) (g : Nat → Nat) (m : Nat) : Prop := ∀ k, k < m → g (4 * k) < F ∧ g (4 * k + 1) < F ∧ g (4 * k + 2) < R ∧ g (4 * k + 3) < 24
theorem syf_r {R F n : Nat} {tp : Nat → Nat} {m : Nat} {g : Nat → Nat} : ∀ d p i row, rOK R F row i → syf R F n tp d p i row = .inr (m, g) → rOK R F g m := by
  intro d
  induction d with
  | zero => intro p i row hp e; rw [syf] at e; cases e
  | succ d ih =>
    intro p i row hr e
    rw [syf] at e
    split at e
    · cases e
    rename_i q1
    have l1 := ltB_t (show ltB n tp F p = true from by simpa using q1)
    split at e
    · cases e
    rename_i q2
    have l2 := ltB_t (show ltB n tp F (sk n tp p + 1) = true from by simpa using q2)
    split at e
    · cases e
    rename_i q3
    have l3 := ltB_t (show ltB n tp R (sk n tp (sk n tp p + 1) + 1) = true from by simpa using q3)
    split at e
    · cases e
    rename_i q4
    have l4 := nmB_t (show nmB n tp 0 23 (sk n tp (sk n tp (sk n tp p + 1) + 1) + 1) = true from by simpa using q4)
    have nx : rOK R F (rowN n tp p i row) (i + 1) := by
      intro k hk
      unfold rowN
      by_cases w : k = i
      · subst w
        rw [if_pos rfl, if_neg (by omega), if_pos rfl, if_neg (by omega), if_neg (by omega), if_pos rfl, if_neg (by omega), if_neg (by omega), if_neg (by omega), if_pos rfl]
        omega
      · have := hr k (by omega)
        rw [if_neg (by omega), if_neg (by omega), if_neg (by omega), if_neg (by omega), if_neg (by omega), if_neg (by omega), if_neg (by omega), if_neg (by omega), if_neg (by omega), if_neg (by omega), if_neg (by omega), if_neg (by omega), if_neg (by omega), if_neg (by omega), if_neg (by omega), if_neg (by omega)]
        exact this
    split at e
    · split at e
      · exact ih _ _ _ nx e
      · cases e
    · cases e; exact nx
theorem syf_m {R F n : Nat} {tp : Nat → Nat} {m : Nat} {g : Nat → Nat} : ∀ d p i row, syf R F n tp d p i row = .inr (m, g) → m ≤ i + d := by
  intro d
  induction d with
  | zero => intro p i row e; rw [syf] at e; cases e
  | succ d ih =>
    intro p i row e
    rw [syf] at e
    split at e
    · cases e
    split at e
    · cases e
    split at e
    · cases e
    split at e
    · cases e
    split at e
    · split at e
      · have := ih _ _ _ e; omega
      · cases e
    · cases e; omega
theorem flt_neg : ∀ f, f < 81 → ¬ (0 ≤ -20 - nI f) := by decide
