/-! ===== the fewest ===== -/
def tb_ (x : Nat) : Nat → Bool := fun i => x.testBit i
theorem nI_mk : ∀ x, x < 32 → nI x = mk (tb_ x) := by decide +kernel
theorem tb_hi {x : Nat} (hx : x < 32) : ∀ i, 5 ≤ i → tb_ x i = false := by
  intro i hi
  unfold tb_
  exact Nat.testBit_lt_two_pow (Nat.lt_of_lt_of_le hx (by
    have : (2 : Nat) ^ 5 ≤ 2 ^ i := Nat.pow_le_pow_right (by omega) hi
    exact this))
theorem shl_n : ∀ n, n < 8 → nI 1 <<< (nI n &&& 31) = nI (2 ^ n) := by decide +kernel
def sub_ (s : SS) (x : Nat) : Prop := ∀ i, tb_ x i = true → wel s i = true
def ZX (h : HS) (s : SS) (x : Nat) : Prop := 0 < x ∧ x < 8 ∧ sub_ s x ∧ MV h s (tb_ x) 0
def EN (h : HS) (s : SS) (x : Nat) : Prop := ZX h s x ∧ ∀ y, ZX h s y → cntN (tb_ x) 5 < cntN (tb_ y) 5 ∨ (cntN (tb_ x) 5 = cntN (tb_ y) 5 ∧ x ≤ y)
theorem EN_uniq {h : HS} {s : SS} {x y : Nat} (h1 : EN h s x) (h2 : EN h s y) : x = y := by
  have := h1.2 y h2.1
  have := h2.2 x h1.1
  omega
theorem tb_some : ∀ x, x < 8 → 0 < x → ∃ i, i < 3 ∧ tb_ x i = true := by decide +kernel
theorem tb_cnt : ∀ x, x < 8 → cntN (tb_ x) 5 = cntN (tb_ x) 3 ∧ (cntN (tb_ x) 5 = 0 → x = 0) := by decide +kernel
theorem tb_ex {T : Nat → Bool} {n : Nat} (hn : n ≤ 3) (hT : ∀ i, T i = true → i < n) : ∃ x, x < 2 ^ n ∧ ∀ i, tb_ x i = T i := by
  have e := c5_eq (P := T) (fun x hx => by
    cases h : T x with
    | false => rfl
    | true => have := hT x h; omega)
  have no : ∀ i, n ≤ i → T i = false := fun i hi => by
    cases h : T i with
    | false => rfl
    | true => have := hT i h; omega
  have e8 : ∀ a b c d e : Bool, ∀ i, i < 5 → tb_ (bv (c5 a b c d e)) i = c5 a b c d e i := by decide +kernel
  have key : ∀ x, x = bv T → x < 2 ^ n → ∃ x, x < 2 ^ n ∧ ∀ i, tb_ x i = T i := by
    intro x hx hl
    subst hx
    refine ⟨_, hl, fun i => ?_⟩
    by_cases hi : i < 5
    · rw [e]; exact e8 _ _ _ _ _ i hi
    · rw [tb_hi (bv_lt T) i (by omega), no i (by omega)]
  refine key _ rfl ?_
  have b0 := Bool.toNat_le (T 0)
  have b1 := Bool.toNat_le (T 1)
  have b2 := Bool.toNat_le (T 2)
  unfold bv
  rw [no 3 (by omega), no 4 (by omega)]
  rcases (show n = 0 ∨ n = 1 ∨ n = 2 ∨ n = 3 by omega) with q | q | q | q <;> subst q
  · rw [no 0 (by omega), no 1 (by omega), no 2 (by omega)]; decide
  · rw [no 1 (by omega), no 2 (by omega)]; simp only [Bool.toNat_false]; omega
  · rw [no 2 (by omega)]; simp only [Bool.toNat_false]; omega
  · simp only [Bool.toNat_false]; omega
theorem tb_lt {s : SS} (hs : s.1 ≤ 3) {x : Nat} (hx : x < 8) (h : sub_ s x) : x < 2 ^ s.1 := by
  have b : ∀ x, x < 8 → ∀ n, n < 4 → (∀ i, i < 3 → tb_ x i = true → i < n) → x < 2 ^ n := by decide +kernel
  exact b x hx s.1 (by omega) (fun i _ hi => (wel_t (h i hi)).1)
theorem cnt_lt {s : SS} (hs : s.1 ≤ 3) {x : Nat} (hx : x < 8) (h : sub_ s x) : cntN (tb_ x) 5 ≤ s.1 := by
  have b : ∀ x, x < 8 → ∀ n, n < 4 → (∀ i, i < 3 → tb_ x i = true → i < n) → cntN (tb_ x) 5 ≤ n := by decide +kernel
  exact b x hx s.1 (by omega) (fun i _ hi => (wel_t (h i hi)).1)
theorem vld_mono {s : SS} {T T' : Nat → Bool} (h : ∀ v, T v = true → T' v = true) {b : Nat → Nat} (hv : vld s T b) : vld s T' b := fun e he => h _ (hv e he)
theorem vld_c {s : SS} {T T' : Nat → Bool} (h : ∀ v, T v = T' v) {b : Nat → Nat} : vld s T b ↔ vld s T' b := ⟨fun q => vld_mono (fun v hv => by rw [← h v]; exact hv) q, fun q => vld_mono (fun v hv => by rw [h v]; exact hv) q⟩
theorem MV_c {h : HS} {s : SS} {T T' : Nat → Bool} (e : ∀ v, T v = T' v) {v : Nat} (H : MV h s T v) : MV h s T' v := by
  have : T = T' := funext e
  rw [← this]; exact H
