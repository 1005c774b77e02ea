/-! ===== the reference's table of ends ===== -/
theorem m1_toInt {m : Nat} (h : m < 1073741824) : (nI m + (-1)).toInt = (m : Int) - 1 := by
  have := pk_sub_toInt h (show 1 < 2 ^ 30 by omega)
  rw [show nI m + (-1) = nI m - nI 1 from by rw [Int32.sub_eq_add_neg]; rfl]
  exact this
theorem n_m1lt {m b : Nat} (h : m < 1073741824 ∧ b < 1073741824) : (nI m + (-1) < nI b) = (m ≤ b) := by
  rw [Int32.lt_iff_toInt_lt, m1_toInt h.1, nI_toInt (by omega)]
  exact propext (by omega)
theorem n_m1lt0 {m : Nat} (h : m < 1073741824) : (nI m + (-1) < 0) = (m = 0) := by
  rw [Int32.lt_iff_toInt_lt, m1_toInt h, Int32.toInt_zero]
  exact propext (by omega)
def edI (e : Nat) : Int32 := if e < 24 then nI e else -4
def LT (M : Mem) (h : HS) : Prop := ∀ (co : Bool) (a t b : Nat), a < h.1 → t < 24 → b < h.1 → M 188 (10 * ((if co then 240 else 0) + 10 * t + a) + b) = edI (ed h co a t b)
def LA (M : Mem) (h : HS) : Prop := M 182 13 = nI 0 ∨ (M 182 13 = nI 1 ∧ LT M h)
theorem LT.congr {M M' : Mem} {h : HS} (H : LT M h) (e : ∀ k, M' 188 k = M 188 k) : LT M' h := fun co a t b ha ht hb => by rw [e]; exact H co a t b ha ht hb
theorem LA.congr {M M' : Mem} {h : HS} (H : LA M h) (e : ∀ k, M' 188 k = M 188 k) (e2 : M' 182 13 = M 182 13) : LA M' h := by
  rcases H with h1 | ⟨h1, h2⟩
  · exact Or.inl (by rw [e2]; exact h1)
  · exact Or.inr ⟨by rw [e2]; exact h1, h2.congr e⟩
def kco (k : Nat) : Bool := decide (240 ≤ k)
