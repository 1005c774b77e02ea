/-! ===== Int32 by its bits: bt x i ===== -/
def bt (x : Int32) (i : Nat) : Bool := x.toBitVec.getLsbD i
theorem b_ext {x y : Int32} (h : ∀ i, i < 32 → bt x i = bt y i) : x = y := Int32.toBitVec_inj.mp (BitVec.eq_of_getLsbD_eq (fun i hi => h i hi))
theorem b_or (x y : Int32) (i : Nat) : bt (x ||| y) i = (bt x i || bt y i) := by unfold bt; rw [Int32.toBitVec_or, BitVec.getLsbD_or]
theorem b_and (x y : Int32) (i : Nat) : bt (x &&& y) i = (bt x i && bt y i) := by unfold bt; rw [Int32.toBitVec_and, BitVec.getLsbD_and]
theorem b_xor (x y : Int32) (i : Nat) : bt (x ^^^ y) i = (bt x i ^^ bt y i) := by unfold bt; rw [Int32.toBitVec_xor, BitVec.getLsbD_xor]
theorem b_big {x : Int32} {i : Nat} (h : 32 ≤ i) : bt x i = false := BitVec.getLsbD_of_ge _ _ h
theorem b_m1 : ∀ i, i < 32 → bt (-1) i = true := by decide +kernel
theorem b_0 (i : Nat) : bt 0 i = false := BitVec.getLsbD_zero
theorem s_l : ∀ n, n < 32 → ((nI n &&& 31).toBitVec.smod 32).toNat = n := by decide +kernel
theorem b_shl (n : Nat) (hn : n < 32) (x : Int32) {i : Nat} (hi : i < 32) : bt (x <<< (nI n &&& 31)) i = (decide (n ≤ i) && bt x (i - n)) := by
  unfold bt
  rw [Int32.toBitVec_shiftLeft]
  show (x.toBitVec <<< ((nI n &&& 31).toBitVec.smod 32).toNat).getLsbD i = _
  rw [s_l n hn, BitVec.getLsbD_shiftLeft]
  rcases Nat.lt_or_ge i n with h | h
  · simp [h, Nat.not_le.mpr h]
  · simp [hi, h, Nat.not_lt.mpr h]
theorem b_sshr (n : Nat) (hn : n < 32) (x : Int32) {i : Nat} (hi : i < 32) : bt (x >>> (nI n &&& 31)) i = if n + i < 32 then bt x (n + i) else bt x 31 := by
  unfold bt
  rw [Int32.toBitVec_shiftRight]
  show (x.toBitVec.sshiftRight ((nI n &&& 31).toBitVec.smod 32).toNat).getLsbD i = _
  rw [s_l n hn, BitVec.getLsbD_sshiftRight, BitVec.msb_eq_getLsbD_last]
  simp [hi]
/-! ===== what the walks ask ===== -/
def bI (b : Bool) : Int32 := if b then nI 1 else nI 0
theorem bI_t : bI true = nI 1 := rfl
theorem bI_f : bI false = nI 0 := rfl
theorem bI_0 (b : Bool) : bI b = 0 ↔ b = false := by cases b <;> decide
theorem bI_01 (b : Bool) : bI b = 0 ∨ bI b = 1 := by cases b <;> decide
theorem bI_1 (b : Bool) : bI b = nI 1 ↔ b = true := by cases b <;> decide
theorem ix_n {n : Nat} (h : n < 2147483648) : ix (nI n) = n := nI_clamp h
theorem vin {i n : Nat} (h : i < 2147483648) : vp_in (nI i) n ↔ i < n := by
  rw [vp_in_iff, nI_toInt h]
  omega
theorem n_lt {a b : Nat} (ha : a < 2147483648) (hb : b < 2147483648) : nI a < nI b ↔ a < b := nI_ltI ha hb
theorem n_le {a b : Nat} (ha : a < 2147483648) (hb : b < 2147483648) : nI a ≤ nI b ↔ a ≤ b := nI_leI ha hb
theorem n_eq {a b : Nat} (ha : a < 2147483648) (hb : b < 2147483648) : nI a = nI b ↔ a = b := nI_eq ha hb
theorem n_lt0 {a : Nat} (ha : a < 2147483648) : nI a < 0 ↔ False := ⟨fun h => nI_pos ha h, False.elim⟩
theorem n_le0 {a : Nat} (ha : a < 2147483648) : nI a ≤ 0 ↔ a = 0 := by
  have := nI_leI (a := a) (b := 0) ha (by omega)
  rw [nI_0] at this
  rw [this]; omega
theorem n_ge0 {a : Nat} (ha : a < 2147483648) : 0 ≤ nI a ↔ True := ⟨fun _ => trivial, fun _ => nI_pos' ha⟩
theorem n_gt0 {a : Nat} (ha : a < 2147483648) : 0 < nI a ↔ 0 < a := by
  have := nI_ltI (a := 0) (b := a) (by omega) ha
  rw [nI_0] at this
  exact this
theorem n_eq0 {a : Nat} (ha : a < 2147483648) : nI a = 0 ↔ a = 0 := by
  have := nI_eq (a := a) (b := 0) ha (by omega)
  rw [nI_0] at this
  exact this
theorem n_add (a b : Nat) : nI a + nI b = nI (a + b) := nI_add a b
theorem n_mul (a b : Nat) : nI a * nI b = nI (a * b) := pk_mul a b
theorem n_sub {a b : Nat} (h : b ≤ a) : nI a - nI b = nI (a - b) := pk_sub h
theorem n_m1 {a : Nat} (h : 1 ≤ a) : nI a + (-1) = nI (a - 1) := by
  obtain ⟨b, rfl⟩ : ∃ b, a = b + 1 := ⟨a - 1, by omega⟩
  exact pk_m1 b
def okN (a : Int32) (n : Nat) : Bool := decide (0 ≤ a.toInt ∧ a.toInt < n)
theorem okN_vin {a : Int32} {n : Nat} : okN a n = true ↔ vp_in a n := by rw [vp_in_iff]; simp [okN]
theorem okN_t {a : Int32} {n : Nat} (hn : n < 2147483648) (h : okN a n = true) : ∃ j : Nat, j < n ∧ a = nI j := vp_in_of (okN_vin.mp h) hn
theorem okN_n {j n : Nat} (hj : j < 2147483648) : okN (nI j) n = decide (j < n) := by
  unfold okN
  rw [nI_toInt hj]
  simp
theorem okN_lo {a : Int32} {n : Nat} (h : a < 0) : okN a n = false := by
  unfold okN
  have := Int32.lt_iff_toInt_lt.mp h
  simp at this ⊢
  omega
theorem okN_hi {a : Int32} {n : Nat} (hn : n < 2147483648) (h : nI n ≤ a) : okN a n = false := by
  unfold okN
  have := Int32.le_iff_toInt_le.mp h
  rw [nI_toInt hn] at this
  simp
  omega
theorem okN_in {a : Int32} {n : Nat} (hn : n < 2147483648) (h1 : ¬ a < 0) (h2 : ¬ nI n ≤ a) : okN a n = true := by
  unfold okN
  have h1 := fun h => h1 (Int32.lt_iff_toInt_lt.mpr h)
  have h2 := fun h => h2 (Int32.le_iff_toInt_le.mpr h)
  rw [nI_toInt hn] at h2
  simp at h1 h2 ⊢
  omega
theorem okN_f {a : Int32} {n : Nat} (hn : n < 2147483648) (h : okN a n = false) : a < 0 ∨ nI n ≤ a := by
  rcases pk_ix a hn with h1 | h1 | ⟨j, h1, rfl⟩
  · exact Or.inl h1
  · exact Or.inr h1
  · rw [okN_n (by omega)] at h
    simp at h
    omega
theorem b_1 (i : Nat) : bt (nI 1) i = decide (i = 0) := by
  rcases Nat.lt_or_ge i 32 with h | h
  · exact (by decide +kernel : ∀ i, i < 32 → bt (nI 1) i = decide (i = 0)) i h
  · rw [b_big h, decide_eq_false (by omega)]
theorem b_nI0 (i : Nat) : bt (nI 0) i = false := b_0 i
theorem b_one {j : Nat} (hj : j < 32) {i : Nat} (hi : i < 32) : bt (nI 1 <<< (nI j &&& 31)) i = decide (i = j) := by
  rw [b_shl j hj _ hi, b_1]
  by_cases h : i = j
  · subst h; simp
  · by_cases h2 : j ≤ i
    · simp [h2, h]; omega
    · simp [h2, h]
theorem b_not (x : Int32) {i : Nat} (hi : i < 32) : bt (x ^^^ (-1)) i = !bt x i := by rw [b_xor, b_m1 i hi]; simp
theorem b_test (x : Int32) {j : Nat} (hj : j < 32) : (x >>> (nI j &&& 31)) &&& nI 1 = bI (bt x j) := by
  apply b_ext
  intro i hi
  rw [b_and, b_1, b_sshr j hj x hi]
  by_cases h : i = 0
  · subst h
    simp only [Nat.add_zero, hj, if_true, decide_true, Bool.and_true]
    cases bt x j <;> decide
  · simp only [h, decide_false, Bool.and_false]
    cases bt x j <;> simp [bI, b_1, b_nI0, h]
theorem wr_f (M : Mem) {c c' : Nat} (k : Nat) (v : Int32) (h : c' ≠ c) : wr M c k v c' = M c' := funext fun j => wr_nc M k j v h
theorem cpy_f (M : Mem) {c0 c1 c' : Nat} (a b n : Nat) (h : c' ≠ c1) : cpy M c0 c1 a b n c' = M c' := funext fun j => by simp [cpy, h]
theorem cpy_in (M : Mem) {c0 c1 a b n k : Nat} (h1 : b ≤ k) (h2 : k < b + n) : cpy M c0 c1 a b n c1 k = M c0 (a + (k - b)) := by simp [cpy, h1, h2]
theorem cpy_out (M : Mem) {c0 c1 a b n k : Nat} (h : k < b ∨ b + n ≤ k) : cpy M c0 c1 a b n c1 k = M c1 k := by
  have : ¬ (b ≤ k ∧ k < b + n) := by omega
  simp [cpy, this]
