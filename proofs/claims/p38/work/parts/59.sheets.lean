/-! ===== sheets ===== -/
def up_ {α : Type} (f : Nat → α) (a : Nat) (v : α) : Nat → α := fun x => if x = a then v else f x
theorem up_eq {α : Type} (f : Nat → α) (a : Nat) (v : α) : up_ f a v a = v := by simp [up_]
theorem up_ne {α : Type} (f : Nat → α) {a x : Nat} (v : α) (h : x ≠ a) : up_ f a v x = f x := by simp [up_, h]
def hdB (z : Nat) (i n : Int32) : Bool := decide (0 ≤ i.toInt ∧ 0 ≤ n.toInt ∧ i.toInt + n.toInt ≤ z)
theorem add64 (a b : Int32) : (a.toInt64 + b.toInt64).toInt = a.toInt + b.toInt := by
  have h1 := Int32.toInt_lt a
  have h2 := Int32.le_toInt a
  have h3 := Int32.toInt_lt b
  have h4 := Int32.le_toInt b
  rw [Int64.toInt_add, Int32.toInt_toInt64, Int32.toInt_toInt64]
  exact Int.bmod_eq_of_le (by omega) (by omega)
theorem ln_neg {x : WS} (O : WO x) {s : Nat} (hs : s < 4) : (0 ≤ x.1 s) = ¬ x.1 s = -1 := by
  rcases (O s hs).1 with q | q | q | q <;> rw [q]
  · exact propext ⟨fun w => absurd w (by decide), fun w => absurd rfl w⟩
  · exact propext ⟨fun _ => by decide, fun _ => by decide⟩
  · exact propext ⟨fun _ => by decide, fun _ => by decide⟩
  · exact propext ⟨fun _ => by decide, fun _ => by decide⟩
theorem lane_t {l : Int32} (h : okN l 3 = true) : l = nI 0 ∨ l = nI 1 ∨ l = nI 2 := by
  obtain ⟨j, hj, rfl⟩ := okN_t (by omega) h
  rcases (show j = 0 ∨ j = 1 ∨ j = 2 by omega) with q | q | q <;> subst q <;> simp
theorem hdB_1 {z : Nat} {i : Int32} (h : hdB z i (nI 1) = true) : ∃ y, y < z ∧ i = nI y := by
  unfold hdB at h
  rw [decide_eq_true_eq, nI_toInt (by omega)] at h
  obtain ⟨y, hy, rfl⟩ := nI_of (x := i) (by rw [Int32.not_lt, Int32.le_iff_toInt_le, Int32.toInt_zero]; exact h.1)
  rw [nI_toInt hy] at h
  exact ⟨y, by omega, rfl⟩
