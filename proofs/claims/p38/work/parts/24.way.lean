/-! ===== going through the house: steps, ends, distances ===== -/
def met (h : HS) (r t : Nat) : Bool := anyN (fun g => decide (h.2.2.2.2 g t = r)) h.2.2.1
def mv (h : HS) (co : Bool) (t a b : Nat) : Bool := (decide (a = b) || decide (h.2.2.2.1 a b ≠ 0)) && (!co || (!met h b (t + 1) && (decide (a = b) || !anyN (fun g => decide (h.2.2.2.2 g t = b) && decide (h.2.2.2.2 g (t + 1) = a)) h.2.2.1)))
def sp (h : HS) (co : Bool) (t : Nat) (S : Nat → Bool) : Nat → Bool := fun b => anyN (fun a => S a && mv h co t a b) h.1
def rc (h : HS) (co : Bool) (from_ tick : Nat) : Nat → Nat → Bool
  | 0 => fun b => decide (b = from_) && !(co && met h from_ tick)
  | j + 1 => sp h co (tick + j) (rc h co from_ tick j)
def ed (h : HS) (co : Bool) (from_ tick to : Nat) : Nat := lst (fun t => rc h co from_ tick (t - tick) to) (24 - tick) tick
def nb (h : HS) (bk : Bool) (a b : Nat) : Bool := decide (a = b) || (decide (h.2.2.2.1 a b = 1) || (bk && decide (h.2.2.2.1 a b = 2)))
def rr (h : HS) (bk : Bool) (a : Nat) : Nat → Nat → Bool
  | 0 => fun b => decide (b = a)
  | k + 1 => fun b => anyN (fun c => rr h bk a k c && nb h bk c b) h.1
def ds (h : HS) (bk : Bool) (a b : Nat) : Nat := if lst (fun k => rr h bk a k b) 10 0 < 10 then lst (fun k => rr h bk a k b) 10 0 else 24
theorem nb_self (h : HS) (bk : Bool) (a : Nat) : nb h bk a a = true := by simp [nb]
theorem nb_lt {h : HS} (O : HO h) {bk : Bool} {a b : Nat} (ha : a < h.1) (hb : nb h bk a b = true) : b < h.1 := by
  obtain ⟨_, _, _, o4, _, o6, _⟩ := O
  simp only [nb, Bool.or_eq_true, Bool.and_eq_true, decide_eq_true_eq] at hb
  rcases hb with h1 | h1 | ⟨_, h1⟩
  · omega
  · exact o6 b a (by rw [o4 b a]; omega)
  · exact o6 b a (by rw [o4 b a]; omega)
theorem rr_lt {h : HS} (O : HO h) {bk : Bool} {a : Nat} (ha : a < h.1) : ∀ {k b : Nat}, rr h bk a k b = true → b < h.1 := by
  intro k
  induction k with
  | zero => intro b hb; simp [rr] at hb; omega
  | succ k ih =>
    intro b hb
    obtain ⟨c, hc, h2⟩ := anyN_iff.mp (show anyN _ _ = true from hb)
    rw [Bool.and_eq_true] at h2
    exact nb_lt O hc h2.2
theorem rr_step {h : HS} {bk : Bool} {a k c b : Nat} (hc : c < h.1) (h1 : rr h bk a k c = true) (h2 : nb h bk c b = true) : rr h bk a (k + 1) b = true := anyN_iff.mpr ⟨c, hc, by rw [h1, h2]; rfl⟩
theorem rr_inv {h : HS} {bk : Bool} {a k b : Nat} (h1 : rr h bk a (k + 1) b = true) : ∃ c, c < h.1 ∧ rr h bk a k c = true ∧ nb h bk c b = true := by
  obtain ⟨c, hc, h2⟩ := anyN_iff.mp (show anyN _ _ = true from h1)
  rw [Bool.and_eq_true] at h2
  exact ⟨c, hc, h2.1, h2.2⟩
theorem rr_up {h : HS} (O : HO h) {bk : Bool} {a : Nat} (ha : a < h.1) {k b : Nat} (h1 : rr h bk a k b = true) : rr h bk a (k + 1) b = true := rr_step (rr_lt O ha h1) h1 (nb_self h bk b)
theorem rr_mono {h : HS} (O : HO h) {bk : Bool} {a : Nat} (ha : a < h.1) {k b : Nat} (h1 : rr h bk a k b = true) : ∀ j, k ≤ j → rr h bk a j b = true := by
  intro j hj
  induction j with
  | zero => rw [show k = 0 by omega] at h1; exact h1
  | succ j ih =>
    by_cases e : k = j + 1
    · subst e; exact h1
    · exact rr_up O ha (ih (by omega))
theorem rr_stab {h : HS} {bk : Bool} {a k : Nat} (hs : ∀ b, rr h bk a k b = true → ∃ j, j < k ∧ rr h bk a j b = true) : ∀ i b, rr h bk a i b = true → ∃ j, j < k ∧ rr h bk a j b = true := by
  intro i
  induction i with
  | zero =>
    intro b hb
    by_cases h0 : k = 0
    · subst h0; exact hs b hb
    · exact ⟨0, by omega, hb⟩
  | succ i ih =>
    intro b hb
    obtain ⟨c, hc, h1, h2⟩ := rr_inv hb
    obtain ⟨j, hj, h3⟩ := ih c h1
    have h4 := rr_step hc h3 h2
    by_cases e : j + 1 = k
    · rw [e] at h4; exact hs b h4
    · exact ⟨j + 1, by omega, h4⟩
def cntN (p : Nat → Bool) : Nat → Nat
  | 0 => 0
  | n + 1 => cntN p n + (if p n then 1 else 0)
theorem cntN_le (p : Nat → Bool) : ∀ n, cntN p n ≤ n := by
  intro n
  induction n with
  | zero => exact Nat.le_refl _
  | succ n ih => simp only [cntN]; split <;> omega
theorem cntN_mono {p q : Nat → Bool} (hpq : ∀ i, p i = true → q i = true) : ∀ n, cntN p n ≤ cntN q n := by
  intro n
  induction n with
  | zero => exact Nat.le_refl _
  | succ n ih =>
    simp only [cntN]
    cases hp : p n with
    | false => simp; split <;> omega
    | true => rw [hpq n hp]; simp; omega
theorem cntN_lt {p q : Nat → Bool} (hpq : ∀ i, p i = true → q i = true) {b : Nat} (hb : q b = true) (hn : p b = false) : ∀ n, b < n → cntN p n < cntN q n := by
  intro n
  induction n with
  | zero => intro h; omega
  | succ n ih =>
    intro h
    simp only [cntN]
    by_cases e : b = n
    · subst e
      rw [hb, hn]
      have := cntN_mono hpq b
      simp; omega
    · have := ih (by omega)
      cases hp : p n with
      | false => simp; split <;> omega
      | true => rw [hpq n hp]; simp; omega
theorem rr_cnt {h : HS} (O : HO h) {bk : Bool} {a : Nat} (ha : a < h.1) : ∀ k, (∃ i, i < k ∧ ∀ b, rr h bk a (i + 1) b = true → rr h bk a i b = true) ∨ k + 1 ≤ cntN (rr h bk a k) h.1 := by
  intro k
  induction k with
  | zero =>
    refine Or.inr ?_
    have := cntN_lt (p := fun _ => false) (q := rr h bk a 0) (fun i hi => by cases hi) (b := a) (by simp [rr]) rfl h.1 ha
    omega
  | succ k ih =>
    rcases ih with ⟨i, hi, hs⟩ | hc
    · exact Or.inl ⟨i, by omega, hs⟩
    · by_cases hs : ∀ b, rr h bk a (k + 1) b = true → rr h bk a k b = true
      · exact Or.inl ⟨k, by omega, hs⟩
      · refine Or.inr ?_
        have : ∃ b, rr h bk a (k + 1) b = true ∧ rr h bk a k b = false := by
          apply Classical.byContradiction
          intro q
          apply hs
          intro b hb
          cases hv : rr h bk a k b with
          | true => rfl
          | false => exact absurd ⟨b, hb, hv⟩ q
        obtain ⟨b, hb, hn⟩ := this
        have := cntN_lt (p := rr h bk a k) (q := rr h bk a (k + 1)) (fun i hi => rr_up O ha hi) hb hn h.1 (rr_lt O ha hb)
        omega
theorem rr_nine {h : HS} (O : HO h) {bk : Bool} {a : Nat} (ha : a < h.1) {k b : Nat} (h1 : rr h bk a k b = true) : rr h bk a 9 b = true := by
  rcases rr_cnt O (bk := bk) ha 10 with ⟨i, hi, hs⟩ | hc
  · have key : ∀ j b, rr h bk a j b = true → rr h bk a i b = true := by
      intro j
      induction j with
      | zero => intro b hb; exact rr_mono O ha hb i (by omega)
      | succ j ih =>
        intro b hb
        obtain ⟨c, hc, h2, h3⟩ := rr_inv hb
        exact hs b (rr_step hc (ih c h2) h3)
    exact rr_mono O ha (key k b h1) 9 (by omega)
  · have := cntN_le (rr h bk a 10) h.1
    have := O.1
    omega
theorem ds_lt {h : HS} (O : HO h) {bk : Bool} {a : Nat} (ha : a < h.1) {b d : Nat} (hd : d < 24) : ds h bk a b ≤ d ↔ rr h bk a d b = true := by
  have hle := lst_le (fun k => rr h bk a k b) 10 0
  unfold ds
  constructor
  · intro hq
    split at hq
    · rename_i hl
      have := lst_is (fun k => rr h bk a k b) 10 0 (by omega)
      exact rr_mono O ha this d hq
    · omega
  · intro hq
    have h9 := rr_nine O ha hq
    have hl : lst (fun k => rr h bk a k b) 10 0 < 10 := by
      apply Classical.byContradiction
      intro q
      have := lst_no (fun k => rr h bk a k b) 10 0 9 (by omega) (by omega)
      rw [h9] at this
      cases this
    rw [if_pos hl]
    apply Classical.byContradiction
    intro q
    have := lst_no (fun k => rr h bk a k b) 10 0 d (by omega) (by omega)
    rw [hq] at this
    cases this
theorem ds_le (h : HS) (bk : Bool) (a b : Nat) : ds h bk a b ≤ 24 := by
  unfold ds
  split <;> omega
theorem mv_f {h : HS} (O : HO h) (t a b : Nat) : mv h false t a b = nb h true a b := by
  have o3 := O.2.2.1 a b
  simp only [mv, nb, Bool.not_false, Bool.true_or, Bool.and_true, Bool.true_and]
  apply b_of
  simp only [Bool.or_eq_true, decide_eq_true_eq]
  omega
theorem rc_f {h : HS} (O : HO h) (a t : Nat) : ∀ j, rc h false a t j = rr h true a j := by
  intro j
  induction j with
  | zero => funext b; simp [rc, rr]
  | succ j ih =>
    funext b
    show sp h false (t + j) (rc h false a t j) b = anyN _ _
    unfold sp
    rw [ih]
    exact anyN_c (fun i _ => by rw [mv_f O])
theorem ed_f {h : HS} (O : HO h) {a t b : Nat} (ha : a < h.1) (ht : t < 24) : ed h false a t b = min 24 (t + ds h true a b) := by
  unfold ed
  by_cases hq : t + ds h true a b < 24
  · rw [Nat.min_eq_right (by omega)]
    refine lst_eq (by omega) (by omega) ?_ ?_
    · simp only [rc_f O]
      exact (ds_lt O ha (by omega)).mp (by omega)
    · intro v h1 h2
      simp only [rc_f O]
      cases hv : rr h true a (v - t) b with
      | false => rfl
      | true =>
        have := (ds_lt O ha (d := v - t) (by omega)).mpr hv
        omega
  · rw [Nat.min_eq_left (by omega)]
    have e : (24 : Nat) = t + (24 - t) := by omega
    rw [lst_none, ← e]
    intro v h1 h2
    simp only [rc_f O]
    cases hv : rr h true a (v - t) b with
    | false => rfl
    | true =>
      have := (ds_lt O ha (d := v - t) (by omega)).mpr hv
      omega
theorem ed_le (h : HS) (co : Bool) (a t b : Nat) (ht : t ≤ 24) : t ≤ ed h co a t b ∧ ed h co a t b ≤ 24 := by
  have := lst_le (fun u => rc h co a t (u - t) b) (24 - t) t
  unfold ed
  omega
theorem mv_lt {h : HS} (O : HO h) {co : Bool} {t a b : Nat} (ha : a < h.1) (hm : mv h co t a b = true) : b < h.1 := by
  simp only [mv, Bool.and_eq_true, Bool.or_eq_true, decide_eq_true_eq] at hm
  obtain ⟨_, _, _, o4, _, o6, _⟩ := O
  rcases hm.1 with h1 | h1
  · omega
  · exact o6 b a (by rw [o4 b a]; exact h1)
theorem rc_lt {h : HS} (O : HO h) {co : Bool} {a t : Nat} (ha : a < h.1) : ∀ {j b : Nat}, rc h co a t j b = true → b < h.1 := by
  intro j
  induction j with
  | zero => intro b hb; simp [rc] at hb; omega
  | succ j ih =>
    intro b hb
    obtain ⟨c, hc, h2⟩ := anyN_iff.mp (show anyN _ _ = true from hb)
    rw [Bool.and_eq_true] at h2
    exact mv_lt O hc h2.2
