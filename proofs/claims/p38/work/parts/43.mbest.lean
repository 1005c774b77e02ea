/-! ===== the reference's THE BEST ===== -/
def mlay (c k : Nat) : Prop := c = 187 ∨ c = 188 ∨ (c = 182 ∧ (k = 13 ∨ k = 23)) ∨ (192 ≤ c ∧ c ≤ 199)
