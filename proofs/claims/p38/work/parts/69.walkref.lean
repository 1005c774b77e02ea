/-! ===== the reference reads a walk ===== -/
theorem nI1n0 : ¬ nI 1 = 0 := by decide
def wfr (c k : Nat) : Prop := ¬ (c = 182 ∧ (k = 8 ∨ k = 9)) ∧ c ≠ 186
