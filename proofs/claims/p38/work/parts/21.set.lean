/-! ===== sets as bits ===== -/
def sset (P : Nat → Bool) : Nat → Int32
  | 0 => nI 0
  | n + 1 => if P n then sset P n ||| (nI 1 <<< (nI n &&& 31)) else sset P n
def mk (P : Nat → Bool) : Int32 := sset P 32
theorem sset_b (P : Nat → Bool) : ∀ n, n ≤ 32 → ∀ i, i < 32 → bt (sset P n) i = (decide (i < n) && P i) := by
  intro n
  induction n with
  | zero => intro _ i _; simp [sset, b_nI0]
  | succ n ih =>
    intro hn i hi
    have h0 := ih (by omega) i hi
    by_cases hp : P n
    · have e : sset P (n + 1) = sset P n ||| (nI 1 <<< (nI n &&& 31)) := by simp [sset, hp]
      rw [e, b_or, h0, b_one (by omega) hi]
      by_cases h : i = n
      · subst h; simp [hp]
      · by_cases h2 : i < n
        · simp [h2, h, show i < n + 1 by omega]
        · simp [h2, h, show ¬ i < n + 1 by omega]
    · have e : sset P (n + 1) = sset P n := by simp [sset, hp]
      rw [e, h0]
      by_cases h : i = n
      · subst h; simp [hp]
      · by_cases h2 : i < n
        · simp [h2, show i < n + 1 by omega]
        · simp [h2, show ¬ i < n + 1 by omega]
theorem mk_b (P : Nat → Bool) {i : Nat} (hi : i < 32) : bt (mk P) i = P i := by
  unfold mk
  rw [sset_b P 32 (Nat.le_refl _) i hi]
  simp [hi]
theorem mk_ext {P Q : Nat → Bool} (h : ∀ i, i < 32 → P i = Q i) : mk P = mk Q := b_ext (fun i hi => by rw [mk_b P hi, mk_b Q hi]; exact h i hi)
theorem mk_inj {P Q : Nat → Bool} (h : mk P = mk Q) {i : Nat} (hi : i < 32) : P i = Q i := by rw [← mk_b P hi, ← mk_b Q hi, h]
theorem mk_of (x : Int32) : x = mk (bt x) := b_ext (fun i hi => by rw [mk_b _ hi])
theorem mk_or (P Q : Nat → Bool) : mk P ||| mk Q = mk (fun i => P i || Q i) := b_ext (fun i hi => by rw [b_or, mk_b _ hi, mk_b _ hi, mk_b _ hi])
theorem mk_and (P Q : Nat → Bool) : mk P &&& mk Q = mk (fun i => P i && Q i) := b_ext (fun i hi => by rw [b_and, mk_b _ hi, mk_b _ hi, mk_b _ hi])
theorem mk_not (P : Nat → Bool) : mk P ^^^ (-1) = mk (fun i => !P i) := b_ext (fun i hi => by rw [b_not _ hi, mk_b _ hi, mk_b _ hi])
theorem mk_one {j : Nat} (hj : j < 32) : nI 1 <<< (nI j &&& 31) = mk (fun i => decide (i = j)) := b_ext (fun i hi => by rw [b_one hj hi, mk_b _ hi])
theorem mk_0 : nI 0 = mk (fun _ => false) := b_ext (fun i hi => by rw [b_nI0, mk_b _ hi])
theorem mk_z : (0 : Int32) = mk (fun _ => false) := mk_0
theorem mk_m1 : (-1 : Int32) = mk (fun _ => true) := b_ext (fun i hi => by rw [b_m1 i hi, mk_b _ hi])
theorem mk_test (P : Nat → Bool) {j : Nat} (hj : j < 32) : (mk P >>> (nI j &&& 31)) &&& nI 1 = bI (P j) := by rw [b_test _ hj, mk_b P hj]
theorem mk_eq0 (P : Nat → Bool) : mk P = 0 ↔ ∀ i, i < 32 → P i = false := by
  rw [mk_z]
  exact ⟨fun h i hi => mk_inj h hi, fun h => mk_ext h⟩
theorem mk_full : ∀ n, n < 13 → (nI 1 <<< (nI n &&& 31)) - nI 1 = mk (fun i => decide (i < n)) := by decide +kernel
/-! ===== some, all, the first ===== -/
def anyN (p : Nat → Bool) : Nat → Bool
  | 0 => false
  | n + 1 => anyN p n || p n
def allN (p : Nat → Bool) : Nat → Bool
  | 0 => true
  | n + 1 => allN p n && p n
theorem anyN_iff {p : Nat → Bool} : ∀ {n : Nat}, anyN p n = true ↔ ∃ i, i < n ∧ p i = true := by
  intro n
  induction n with
  | zero => simp [anyN]
  | succ n ih =>
    simp only [anyN, Bool.or_eq_true, ih]
    constructor
    · rintro (⟨i, hi, h⟩ | h)
      · exact ⟨i, by omega, h⟩
      · exact ⟨n, by omega, h⟩
    · rintro ⟨i, hi, h⟩
      by_cases e : i = n
      · subst e; exact Or.inr h
      · exact Or.inl ⟨i, by omega, h⟩
theorem allN_iff {p : Nat → Bool} : ∀ {n : Nat}, allN p n = true ↔ ∀ i, i < n → p i = true := by
  intro n
  induction n with
  | zero => simp [allN]
  | succ n ih =>
    simp only [allN, Bool.and_eq_true, ih]
    constructor
    · rintro ⟨h1, h2⟩ i hi
      by_cases e : i = n
      · subst e; exact h2
      · exact h1 i (by omega)
    · intro h
      exact ⟨fun i hi => h i (by omega), h n (by omega)⟩
theorem anyN_f {p : Nat → Bool} {n : Nat} : anyN p n = false ↔ ∀ i, i < n → p i = false := by
  constructor
  · intro h i hi
    cases hp : p i with
    | false => rfl
    | true => rw [anyN_iff.mpr ⟨i, hi, hp⟩] at h; cases h
  · intro h
    cases hp : anyN p n with
    | false => rfl
    | true =>
      obtain ⟨i, hi, h2⟩ := anyN_iff.mp hp
      rw [h i hi] at h2; cases h2
theorem allN_f {p : Nat → Bool} {n : Nat} : allN p n = false ↔ ∃ i, i < n ∧ p i = false := by
  constructor
  · intro h
    apply Classical.byContradiction
    intro q
    have : allN p n = true := allN_iff.mpr (fun i hi => by
      cases hp : p i with
      | true => rfl
      | false => exact absurd ⟨i, hi, hp⟩ q)
    rw [this] at h; cases h
  · rintro ⟨i, hi, h⟩
    cases hp : allN p n with
    | false => rfl
    | true => rw [allN_iff.mp hp i hi] at h; cases h
theorem anyN_c {p q : Nat → Bool} {n : Nat} (h : ∀ i, i < n → p i = q i) : anyN p n = anyN q n := by
  induction n with
  | zero => rfl
  | succ n ih => simp only [anyN]; rw [ih (fun i hi => h i (by omega)), h n (by omega)]
theorem allN_c {p q : Nat → Bool} {n : Nat} (h : ∀ i, i < n → p i = q i) : allN p n = allN q n := by
  induction n with
  | zero => rfl
  | succ n ih => simp only [allN]; rw [ih (fun i hi => h i (by omega)), h n (by omega)]
theorem b_of {a b : Bool} (h : a = true ↔ b = true) : a = b := by cases a <;> cases b <;> simp_all
def lst (p : Nat → Bool) : Nat → Nat → Nat
  | 0, t => t
  | n + 1, t => if p t then t else lst p n (t + 1)
theorem lst_le (p : Nat → Bool) : ∀ n t, t ≤ lst p n t ∧ lst p n t ≤ t + n := by
  intro n
  induction n with
  | zero => intro t; simp [lst]
  | succ n ih =>
    intro t
    simp only [lst]
    split
    · omega
    · have := ih (t + 1); omega
theorem lst_no (p : Nat → Bool) : ∀ n t u, t ≤ u → u < lst p n t → p u = false := by
  intro n
  induction n with
  | zero => intro t u h1 h2; simp [lst] at h2; omega
  | succ n ih =>
    intro t u h1 h2
    simp only [lst] at h2
    split at h2
    · omega
    · rename_i hp
      by_cases e : u = t
      · subst e; simpa using hp
      · exact ih (t + 1) u (by omega) h2
theorem lst_is (p : Nat → Bool) : ∀ n t, lst p n t < t + n → p (lst p n t) = true := by
  intro n
  induction n with
  | zero => intro t h; simp [lst] at h
  | succ n ih =>
    intro t h
    simp only [lst] at h ⊢
    split
    · rename_i hp; exact hp
    · rename_i hp
      rw [if_neg hp] at h
      exact ih (t + 1) (by omega)
theorem lst_eq {p : Nat → Bool} {n t u : Nat} (h1 : t ≤ u) (h2 : u < t + n) (hp : p u = true) (hno : ∀ v, t ≤ v → v < u → p v = false) : lst p n t = u := by
  have a := lst_le p n t
  rcases Nat.lt_trichotomy (lst p n t) u with h | h | h
  · have := lst_is p n t (by omega)
    rw [hno _ a.1 h] at this; cases this
  · exact h
  · rw [lst_no p n t u h1 h] at hp; cases hp
theorem lst_none {p : Nat → Bool} {n t : Nat} (hno : ∀ v, t ≤ v → v < t + n → p v = false) : lst p n t = t + n := by
  have a := lst_le p n t
  by_cases h : lst p n t = t + n
  · exact h
  · have := lst_is p n t (by omega)
    rw [hno _ a.1 (by omega)] at this; cases this
theorem lst_c {p q : Nat → Bool} {n t : Nat} (h : ∀ v, t ≤ v → v < t + n → p v = q v) : lst p n t = lst q n t := by
  induction n generalizing t with
  | zero => rfl
  | succ n ih => simp only [lst]; rw [h t (Nat.le_refl _) (by omega), ih (fun v h1 h2 => h v (by omega) (by omega))]
/-! ===== numbers compared: for a simp with omega behind it ===== -/
theorem nT_le {a b : Nat} (h : a ≤ b) : (a ≤ b) = True := eq_true h
theorem nF_le {a b : Nat} (h : b < a) : (a ≤ b) = False := eq_false (Nat.not_le.mpr h)
theorem nT_lt {a b : Nat} (h : a < b) : (a < b) = True := eq_true h
theorem nF_lt {a b : Nat} (h : b ≤ a) : (a < b) = False := eq_false (Nat.not_lt.mpr h)
theorem nT_eq {a b : Nat} (h : a = b) : (a = b) = True := eq_true h
theorem nF_eq {a b : Nat} (h : a ≠ b) : (a = b) = False := eq_false h
theorem imp_t {p : Prop} : (True → p) = p := by simp
theorem bI_e (b : Bool) : (bI b = 0) = (b = false) := propext (bI_0 b)
theorem bI_n1 (b : Bool) : (bI b = nI 1) = (b = true) := propext (bI_1 b)
theorem nI01 : (nI 0 = 0) = True := by simp [nI_0]
theorem nI10 : (nI 1 = 0) = False := eq_false (by decide)
theorem ok_case (x : Int32) {n : Nat} (hn : n < 2147483648) : (okN x n = false ∧ (x < 0 ∨ nI n ≤ x)) ∨ ∃ j, j < n ∧ x = nI j ∧ okN x n = true := by
  cases h : okN x n with
  | false => exact Or.inl ⟨rfl, okN_f hn h⟩
  | true =>
    obtain ⟨j, hj, rfl⟩ := okN_t hn h
    exact Or.inr ⟨j, hj, rfl, rfl⟩
theorem tf_ : (true = false) = False := eq_false (by decide)
theorem ft_ : (false = true) = False := eq_false (by decide)
