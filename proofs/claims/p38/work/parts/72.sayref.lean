/-! ===== the reference reads sayings ===== -/
def sfr (c k : Nat) : Prop := ¬ (c = 182 ∧ (k = 7 ∨ k = 8 ∨ k = 9)) ∧ c ≠ 202
