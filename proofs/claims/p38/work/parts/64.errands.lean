/-! ===== the errands of a sheet ===== -/
def erV (x : WS) (a1 a2 a3 a4 : Int32) : Int32 := if okN a1 4 = false then -1 else if okN a2 3 = false then -1 else if rng a4 1 4 = false then -1 else if x.1 (ix a1) = -1 then -11 else if ¬ x.1 (ix a1) = a2 then -12 else if hdB (x.2.1 (ix a1)) a3 (nI 5 * a4) = false then -13 else 0
theorem erV_0 {x : WS} (O : WO x) {a1 a2 a3 a4 : Int32} (h : erV x a1 a2 a3 a4 = 0) : ∃ j y m, a1 = nI j ∧ a3 = nI y ∧ a4 = nI m ∧ j < 4 ∧ 1 ≤ m ∧ m ≤ 4 ∧ y + 5 * m ≤ 24 := by
  unfold erV at h
  split at h
  · exact absurd h (by decide)
  rename_i q1
  split at h
  · exact absurd h (by decide)
  split at h
  · exact absurd h (by decide)
  rename_i q2
  split at h
  · exact absurd h (by decide)
  split at h
  · exact absurd h (by decide)
  split at h
  · exact absurd h (by decide)
  rename_i q3
  obtain ⟨j, hj, rfl⟩ := okN_t (by omega) (show okN a1 4 = true from by simpa using q1)
  obtain ⟨m, h1, h2, rfl⟩ := rng_t (a := 1) (b := 4) (by omega) (show rng a4 1 4 = true from by simpa using q2)
  rw [ix_n (by omega), n_mul] at q3
  have z1 := (O j hj).2
  have q4 : hdB (x.2.1 j) a3 (nI (5 * m)) = true := by simpa using q3
  obtain ⟨y, m', rfl, e2, e3⟩ := hdB_n z1 q4
  unfold hdB at q4
  rw [decide_eq_true_eq, nI_toInt (by omega), nI_toInt (by omega)] at q4
  exact ⟨j, y, m, rfl, rfl, rfl, hj, h1, h2, by omega⟩
theorem rng_1lo {v : Int32} {b : Int} (h : v < nI 1) : rng v 1 b = false := by
  simp only [rng, decide_eq_false_iff_not]
  have := Int32.lt_iff_toInt_lt.mp h
  rw [nI_toInt (by omega)] at this
  omega
theorem rng_4hi {v : Int32} {a : Int} (h : ¬ v ≤ nI 4) : rng v a 4 = false := by
  simp only [rng, decide_eq_false_iff_not]
  rw [Int32.le_iff_toInt_le, nI_toInt (by omega)] at h
  omega
theorem rng_14 {v : Int32} (h1 : ¬ v < nI 1) (h2 : v ≤ nI 4) : rng v 1 4 = true := by
  simp only [rng, decide_eq_true_eq]
  rw [Int32.le_iff_toInt_le, nI_toInt (by omega)] at h2
  rw [Int32.lt_iff_toInt_lt, nI_toInt (by omega)] at h1
  omega
def erE (R : Nat) (G : Nat → Int32) (y e : Nat) : Bool := isEr R (G (y + 5 * e)) (G (y + 5 * e + 1)) (G (y + 5 * e + 2)) (G (y + 5 * e + 3)) (G (y + 5 * e + 4))
def sput (s : SS) (k r f p d : Nat) : SS := (s.1, s.2.1 + 1, s.2.2.1, s.2.2.2.1, s.2.2.2.2.1, er1 s k r f p d)
def sN (s : SS) (v : Nat → Nat) : Nat → SS
  | 0 => s
  | e + 1 => sput (sN s v e) (v (5 * e)) (v (5 * e + 1)) (v (5 * e + 2)) (v (5 * e + 3)) (v (5 * e + 4))
theorem sN_n (s : SS) (v : Nat → Nat) (e : Nat) : (sN s v e).2.1 = s.2.1 + e := by
  induction e with
  | zero => rfl
  | succ e ih => show (sN s v e).2.1 + 1 = _; omega
def vOK (R : Nat) (v : Nat → Nat) (e : Nat) : Prop := v (5 * e) ≤ 1 ∧ v (5 * e + 1) < R ∧ 1 ≤ v (5 * e + 2) ∧ v (5 * e + 2) ≤ 9 ∧ v (5 * e + 3) ≤ v (5 * e + 4) ∧ v (5 * e + 4) ≤ 23
theorem sN_O {s : SS} {R : Nat} (O : SO s R) {v : Nat → Nat} {m : Nat} (hm : s.2.1 + m ≤ 5) (hv : ∀ e, e < m → vOK R v e) : ∀ e, e ≤ m → SO (sN s v e) R := by
  intro e
  induction e with
  | zero => intro _; exact O
  | succ e ih =>
    intro he
    obtain ⟨h1, h2, h3, h4, h5, h6⟩ := hv e (by omega)
    exact (ih (by omega)).add (by rw [sN_n]; omega) h1 h2 h3 h4 h5 h6
theorem erE_v {R : Nat} (hR : R ≤ 10) {G : Nat → Int32} {y e : Nat} (q : erE R G y e = true) : vOK R (fun k => ix (G (y + k))) e ∧ ∀ k, k < 5 → G (y + 5 * e + k) = nI (ix (G (y + 5 * e + k))) := by
  obtain ⟨k', r', f', p', d', e1, e2, e3, e4, e5, h1, h2, h3, h4, h5, h6⟩ := isEr_t hR q
  refine ⟨?_, fun k hk => ?_⟩
  · unfold vOK
    simp only [← Nat.add_assoc]
    rw [e1, e2, e3, e4, e5, ix_n (by omega), ix_n (by omega), ix_n (by omega), ix_n (by omega), ix_n (by omega)]
    exact ⟨h1, h2, h3, h4, h5, h6⟩
  · rcases (show k = 0 ∨ k = 1 ∨ k = 2 ∨ k = 3 ∨ k = 4 by omega) with w | w | w | w | w <;> subst w
    · rw [Nat.add_zero, e1, ix_n (by omega)]
    · rw [e2, ix_n (by omega)]
    · rw [e3, ix_n (by omega)]
    · rw [e4, ix_n (by omega)]
    · rw [e5, ix_n (by omega)]
theorem erE_congr {R : Nat} {G G2 : Nat → Int32} {y z e : Nat} (h : ∀ q, q < 5 → G (y + 5 * e + q) = G2 (z + 5 * e + q)) : erE R G y e = erE R G2 z e := by
  have h0 := h 0 (by omega)
  rw [Nat.add_zero, Nat.add_zero] at h0
  unfold erE
  rw [h0, h 1 (by omega), h 2 (by omega), h 3 (by omega), h 4 (by omega)]
