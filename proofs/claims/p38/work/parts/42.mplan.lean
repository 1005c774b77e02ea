/-! ===== the reference's single errands ===== -/
theorem edI_eq {e : Nat} (h : e < 24) : edI e = nI e := if_pos h
theorem edI_24 : edI 24 = -4 := rfl
def tkI (s : SS) (e x : Nat) : Int32 := if s.2.2.2.2.2 e 0 = 0 then -4 else edI x
theorem SM.er {M : Mem} {s : SS} (H : SM M s) {e : Nat} (he : e < s.2.1) {k : Nat} (hk : k < 5) : M 191 (5 * e + k) = nI (s.2.2.2.2.2 e k) := H.2.2.2.2 e he k hk
theorem n_subge {a b : Nat} (h : a < 1073741824 ∧ b < 1073741824) : (0 ≤ nI a - nI b) = (b ≤ a) := by
  rw [Int32.le_iff_toInt_le, pk_sub_toInt h.1 h.2, Int32.toInt_zero]
  exact propext (by omega)
def PQ (M : Mem) (h : HS) (s : SS) (by_ o : Nat → Nat) (i : Nat) : Prop := ∀ v, v < s.1 → M 192 v = nI (pos h s by_ o i v).1 ∧ M 193 v = edI (pos h s by_ o i v).2
def mscr (c k : Nat) : Prop := (c = 182 ∧ k = 23) ∨ (192 ≤ c ∧ c ≤ 195)
theorem fct_dvd : ∀ n, n < 6 → 0 < n → fct (n - 1) ∣ fct n := by
  intro n hn h0
  obtain ⟨m, rfl⟩ : ∃ m, n = m + 1 := ⟨n - 1, by omega⟩
  exact ⟨m + 1, by rw [Nat.add_sub_cancel, Nat.mul_comm]; rfl⟩
