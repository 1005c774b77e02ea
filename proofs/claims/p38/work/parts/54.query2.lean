/-! ===== calls that ask: told, does, trip, guest, count ===== -/
theorem rn_le {h : HS} {s : SS} (P : SO s h.1) {b o : Nat → Nat} : ∀ i, (∀ j, j < i → o j < s.2.1 ∧ b (o j) < s.1) → ∀ e, rnD h s b o i e ≤ 24 ∧ rnT h s b o i e ≤ 24 := by
  intro i
  induction i with
  | zero => intro _ e; exact ⟨Nat.zero_le _, Nat.zero_le _⟩
  | succ i ih =>
    intro hj e
    have ih' := ih (fun j q => hj j (by omega)) e
    have h1 := hj i (by omega)
    have hd := dk_le (h := h) P (by_ := b) (ord := o) (i := i) (fun j q => (hj j (by omega)).1) h1.2
    have hp := pos_ok (h := h) P (by_ := b) (ord := o) i (fun j q => (hj j (by omega)).1) _ h1.2
    simp only [rnD, rnT]
    refine ⟨by split <;> omega, ?_⟩
    split
    · unfold tkk
      split
      · omega
      · rename_i hne
        refine tk_le P h1.1 ?_
        apply Classical.byContradiction
        intro q
        apply hne
        unfold dk_ dn
        rw [if_pos (by omega)]
    · exact ih'.2
theorem ans24 {v : Nat} (hv : v ≤ 24) {A : Int32 → Prop} (k : A (edI v)) : (¬ nI v = nI 24 → A (nI v)) ∧ (nI v = nI 24 → A (-4)) := by
  rw [n_eq (by omega) (by omega)]
  refine ⟨fun q => ?_, fun q => ?_⟩
  · rw [edI_eq (by omega)] at k; exact k
  · rw [q, edI_24] at k; exact k
