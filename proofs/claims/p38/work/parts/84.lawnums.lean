/-! ===== numbers of the law ===== -/
theorem and_max (x : Int32) : ∃ j : Nat, j < 2147483648 ∧ x &&& (2147483647 : Int32) = nI j := by
  have h0 : ¬ x &&& (2147483647 : Int32) < 0 := by
    rw [Int32.lt_iff_toInt_lt, Int32.toInt_zero]
    have h : (x &&& (2147483647 : Int32)).toBitVec.msb = false := by
      rw [Int32.toBitVec_and, BitVec.msb_and, show (2147483647 : Int32).toBitVec.msb = false from by decide, Bool.and_false]
    have h2 := BitVec.toInt_eq_toNat_of_msb h
    show ¬ (x &&& (2147483647 : Int32)).toBitVec.toInt < 0
    rw [h2]; omega
  obtain ⟨j, hj, e⟩ := nI_of h0
  exact ⟨j, hj, e⟩
theorem shr_nn {a : Nat} (ha : a < 2147483648) {k : Nat} (hk : k < 32) : ∃ j : Nat, j < 2147483648 ∧ nI a >>> (nI k &&& 31) = nI j := by
  have h0 : ¬ nI a >>> (nI k &&& 31) < 0 := by
    rw [Int32.lt_iff_toInt_lt, Int32.toInt_zero]
    show ¬ (nI a >>> (nI k &&& 31)).toBitVec.toInt < 0
    rw [Int32.toBitVec_shiftRight]
    show ¬ ((nI a).toBitVec.sshiftRight ((nI k &&& 31).toBitVec.smod 32).toNat).toInt < 0
    rw [s_l k hk, BitVec.toInt_sshiftRight]
    have : (nI a).toBitVec.toInt = (a : Int) := nI_toInt ha
    rw [this]
    have := Int.shiftRight_eq_div_pow (a : Int) k
    rw [this]
    have : (0 : Int) ≤ (a : Int) / ((2 ^ k : Nat) : Int) := Int.ediv_nonneg (by omega) (Int.natCast_nonneg _)
    omega
  obtain ⟨j, hj, e⟩ := nI_of h0
  exact ⟨j, hj, e⟩
theorem n_rem {a b : Nat} (ha : a < 2147483648) (hb : 0 < b) (hb2 : b < 2147483648) : remI (nI a) (nI b) = nI (a % b) := by
  unfold remI
  rw [pk_div ha hb hb2, n_mul, n_sub (Nat.div_mul_le_self a b)]
  congr 1
  have := Nat.div_add_mod a b
  rw [Nat.mul_comm] at this
  omega
/-- a number below the divisor -/
theorem rem_lt {x : Int32} {a n : Nat} (e : x = nI a) (ha : a < 2147483648) (hn : 0 < n) (hn2 : n < 2147483648) : ∃ j : Nat, j < n ∧ remI x (nI n) = nI j := ⟨a % n, Nat.mod_lt _ hn, by rw [e, n_rem ha hn hn2]⟩
theorem cl_n (L : Nat) (xs : Nat → Int32) (k : Int32) : ∃ j : Nat, j < 2147483648 ∧ clI L xs k = nI j := and_max _
theorem cl_rem (L : Nat) (xs : Nat → Int32) (k : Int32) {n : Nat} (hn : 0 < n) (hn2 : n < 2147483648) : ∃ j : Nat, j < n ∧ remI (clI L xs k) (nI n) = nI j := by
  obtain ⟨a, ha, e⟩ := cl_n L xs k
  exact rem_lt e ha hn hn2
theorem cl_shr (L : Nat) (xs : Nat → Int32) (k : Int32) {s : Nat} (hs : s < 32) : ∃ j : Nat, j < 2147483648 ∧ clI L xs k >>> (nI s &&& 31) = nI j := by
  obtain ⟨a, ha, e⟩ := cl_n L xs k
  rw [e]
  exact shr_nn ha hs
theorem cl_srem (L : Nat) (xs : Nat → Int32) (k : Int32) {s : Nat} (hs : s < 32) {n : Nat} (hn : 0 < n) (hn2 : n < 2147483648) : ∃ j : Nat, j < n ∧ remI (clI L xs k >>> (nI s &&& 31)) (nI n) = nI j := by
  obtain ⟨a, ha, e⟩ := cl_shr L xs k hs
  exact rem_lt e ha hn hn2
/-- a bit of the first cell -/
def kk (L : Nat) (xs : Nat → Int32) (j : Nat) : Nat := (bt (clI L xs (nI 0)) j).toNat
theorem kk_lt (L : Nat) (xs : Nat → Int32) (j : Nat) : kk L xs j < 2 := by unfold kk; cases bt (clI L xs (nI 0)) j <;> decide
theorem kk_e (L : Nat) (xs : Nat → Int32) {j : Nat} (hj : j < 32) : (clI L xs (nI 0) >>> (nI j &&& 31)) &&& nI 1 = nI (kk L xs j) := by
  rw [b_test _ hj, bI_nat]; rfl
theorem and1_n {x : Int32} : x &&& nI 1 = nI (bt x 0).toNat := by
  rw [← bI_nat]
  apply b_ext
  intro i hi
  rw [b_and, b_1]
  by_cases h : i = 0
  · subst h
    cases bt x 0 <;> decide
  · simp only [h, decide_false, Bool.and_false]
    cases bt x 0 <;> simp [bI, b_1, b_nI0, h]
/-- the kinds of the doors (0 none, 1 open, 2 back) when m of them are laid -/
def dkP (L : Nat) (xs : Nat → Int32) (n m a b : Nat) : Nat :=
  if max a b = min a b + 1 then (if min a b < m then 1 + kk L xs (3 + min a b) else 0)
  else if min a b = 0 ∧ max a b = n - 1 then (if n - 1 < m then 1 + kk L xs (3 + (n - 1)) else 0)
  else if min a b = 0 ∧ max a b = 2 ∧ n < m then 1 + kk L xs 12 else 0
theorem dkP_ring {L : Nat} {xs : Nat → Int32} {n m : Nat} (hn : 4 ≤ n) (hm : m < n) {a b : Nat} (ha : a < n) (hb : b < n) : setD (dkP L xs n m) m ((m + 1) % n) (kk L xs (3 + m) + 1) a b = dkP L xs n (m + 1) a b := by
  unfold setD
  by_cases e : m + 1 = n
  · have e2 : (m + 1) % n = 0 := by rw [e, Nat.mod_self]
    rw [e2]
    by_cases q : (a = m ∧ b = 0) ∨ (a = 0 ∧ b = m)
    · rw [if_pos q]
      have h1 : min a b = 0 := by omega
      have h2 : max a b = n - 1 := by omega
      unfold dkP
      rw [h1, h2, if_neg (by omega), if_pos ⟨rfl, rfl⟩, if_pos (by omega), show n - 1 = m by omega]
      omega
    · rw [if_neg q]
      unfold dkP
      by_cases c1 : max a b = min a b + 1
      · rw [if_pos c1, if_pos c1, if_pos (by omega), if_pos (by omega)]
      · rw [if_neg c1, if_neg c1, if_neg (by omega), if_neg (by omega), if_neg (by omega), if_neg (by omega)]
  · have e2 : (m + 1) % n = m + 1 := Nat.mod_eq_of_lt (by omega)
    rw [e2]
    by_cases q : (a = m ∧ b = m + 1) ∨ (a = m + 1 ∧ b = m)
    · rw [if_pos q]
      have h1 : min a b = m := by omega
      have h2 : max a b = m + 1 := by omega
      unfold dkP
      rw [h1, h2, if_pos rfl, if_pos (by omega)]
      omega
    · rw [if_neg q]
      unfold dkP
      by_cases c1 : max a b = min a b + 1
      · rw [if_pos c1, if_pos c1]
        by_cases c2 : min a b < m
        · rw [if_pos c2, if_pos (by omega)]
        · rw [if_neg c2, if_neg (by omega)]
      · rw [if_neg c1, if_neg c1]
        by_cases c2 : min a b = 0 ∧ max a b = n - 1
        · rw [if_pos c2, if_pos c2, if_neg (by omega), if_neg (by omega)]
        · rw [if_neg c2, if_neg c2, if_neg (by omega), if_neg (by omega)]
theorem dkP_no {L : Nat} {xs : Nat → Int32} {n m : Nat} (hn : 4 ≤ n) (hm : m < n) : dkP L xs n m m ((m + 1) % n) = 0 := by
  unfold dkP
  by_cases e : m + 1 = n
  · have e2 : (m + 1) % n = 0 := by rw [e, Nat.mod_self]
    rw [e2, if_neg (by omega), if_pos (by omega), if_neg (by omega)]
  · have e2 : (m + 1) % n = m + 1 := Nat.mod_eq_of_lt (by omega)
    rw [e2, if_pos (by omega), if_neg (by omega)]
theorem dkP_chord {L : Nat} {xs : Nat → Int32} {n : Nat} (hn : 4 ≤ n) {a b : Nat} (ha : a < n) (hb : b < n) : setD (dkP L xs n n) 0 2 (kk L xs 12 + 1) a b = dkP L xs n (n + 1) a b := by
  unfold setD
  by_cases q : (a = 0 ∧ b = 2) ∨ (a = 2 ∧ b = 0)
  · rw [if_pos q]
    have h1 : min a b = 0 := by omega
    have h2 : max a b = 2 := by omega
    unfold dkP
    rw [h1, h2, if_neg (by omega), if_neg (by omega), if_pos (by omega)]
    omega
  · rw [if_neg q]
    unfold dkP
    by_cases c1 : max a b = min a b + 1
    · rw [if_pos c1, if_pos c1, if_pos (by omega), if_pos (by omega)]
    · rw [if_neg c1, if_neg c1]
      by_cases c2 : min a b = 0 ∧ max a b = n - 1
      · rw [if_pos c2, if_pos c2, if_pos (by omega), if_pos (by omega)]
      · rw [if_neg c2, if_neg c2, if_neg (by omega), if_neg (by omega)]
theorem dkP_no2 {L : Nat} {xs : Nat → Int32} {n : Nat} (hn : 4 ≤ n) : dkP L xs n n 0 2 = 0 := by
  unfold dkP
  rw [if_neg (by omega), if_neg (by omega), if_neg (by omega)]
theorem dkP_0 {L : Nat} {xs : Nat → Int32} {n a b : Nat} (hn : 4 ≤ n) : dkP L xs n 0 a b = 0 := by
  unfold dkP
  rw [if_neg (show ¬ min a b < 0 by omega), if_neg (show ¬ n - 1 < 0 by omega), if_neg (show ¬ (min a b = 0 ∧ max a b = 2 ∧ n < 0) by omega)]
  split
  · rfl
  · split <;> rfl
/-- where the law's door answers 0, there is an open one -/
theorem drI_0 {L : Nat} {xs : Nat → Int32} {n a b : Nat} (hn : 4 ≤ n) (hn2 : n ≤ 8) (ha : a < n) (hb : b < n) (h : drI L xs (nI n) (nI a) (nI b) = 0) : dkP L xs n (n + 1) a b = 1 := by
  have key : ∀ lo hi, lo ≤ hi → hi < n → dr2 L xs (nI n) (nI lo) (nI hi) = 0 → min a b = lo → max a b = hi → dkP L xs n (n + 1) a b = 1 := by
    intro lo hi h1 h2 h3 h4 h5
    unfold dr2 at h3
    unfold dkP
    rw [h4, h5]
    by_cases c1 : lo = 0 ∧ hi = 2
    · rw [if_pos ⟨(n_eq0 (by omega)).mpr c1.1, (n_eq (by omega) (by omega)).mpr c1.2⟩, kk_e _ _ (by omega), n_eq0 (by have := kk_lt L xs 12; omega)] at h3
      rw [if_neg (by omega), if_neg (by omega), if_pos (by omega), h3]
    · rw [if_neg (fun w => c1 ⟨(n_eq0 (by omega)).mp w.1, (n_eq (by omega) (by omega)).mp w.2⟩)] at h3
      by_cases c2 : hi = lo + 1
      · rw [if_pos (by rw [n_sub h1, show hi - lo = 1 by omega]), n_add, kk_e _ _ (by omega), n_eq0 (by have := kk_lt L xs (3 + lo); omega)] at h3
        rw [if_pos c2, if_pos (by omega), h3]
      · rw [if_neg (fun w => by rw [n_sub h1, n_eq (by omega) (by omega)] at w; omega)] at h3
        by_cases c3 : lo = 0 ∧ hi = n - 1
        · rw [if_pos ⟨(n_eq0 (by omega)).mpr c3.1, by rw [n_sub (by omega), c3.2]⟩, n_add, kk_e _ _ (by omega), n_eq0 (by have := kk_lt L xs (3 + hi); omega)] at h3
          rw [if_neg c2, if_pos c3, if_pos (by omega), ← c3.2, h3]
        · rw [if_neg (fun w => c3 ⟨(n_eq0 (by omega)).mp w.1, by have w2 := w.2; rw [n_sub (by omega), n_eq (by omega) (by omega)] at w2; exact w2⟩)] at h3
          exact absurd h3 (by decide)
  unfold drI at h
  by_cases e : b ≤ a
  · rw [if_pos ((n_le (by omega) (by omega)).mpr e), if_pos ((n_le (by omega) (by omega)).mpr e)] at h
    exact key b a e ha h (by omega) (by omega)
  · rw [if_neg (fun w => e ((n_le (by omega) (by omega)).mp w)), if_neg (fun w => e ((n_le (by omega) (by omega)).mp w))] at h
    exact key a b (by omega) hb h (by omega) (by omega)
