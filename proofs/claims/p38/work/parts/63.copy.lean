/-! ===== copy ===== -/
theorem hdB_n {z : Nat} (hz : z ≤ 24) {i n : Int32} (h : hdB z i n = true) : ∃ y m, i = nI y ∧ n = nI m ∧ y + m ≤ z := by
  unfold hdB at h
  rw [decide_eq_true_eq] at h
  obtain ⟨h1, h2, h3⟩ := h
  obtain ⟨i', hi, rfl⟩ := nI_of (x := i) (fun w => by rw [Int32.lt_iff_toInt_lt, Int32.toInt_zero] at w; omega)
  obtain ⟨n', hn, rfl⟩ := nI_of (x := n) (fun w => by rw [Int32.lt_iff_toInt_lt, Int32.toInt_zero] at w; omega)
  rw [nI_toInt hi, nI_toInt hn] at h3
  exact ⟨i', n', rfl, rfl, by omega⟩
theorem hdB_neg {z : Nat} {i n : Int32} (h : n < 0) : hdB z i n = false := by
  unfold hdB
  rw [Int32.lt_iff_toInt_lt, Int32.toInt_zero] at h
  rw [decide_eq_false_iff_not]; omega
def cpV (x : WS) (a1 a2 a3 a4 a5 : Int32) : Int32 := if okN a1 4 = false then -1 else if okN a3 4 = false then -1 else if x.1 (ix a1) = -1 then -11 else if x.1 (ix a3) = -1 then -11 else if ¬ x.1 (ix a1) = x.1 (ix a3) then -12 else if hdB (x.2.1 (ix a1)) a2 a5 = false then -13 else if hdB (x.2.1 (ix a3)) a4 a5 = false then -13 else 0
theorem cpV_0 {x : WS} (O : WO x) {a1 a2 a3 a4 a5 : Int32} (h : cpV x a1 a2 a3 a4 a5 = 0) : ∃ j j3 y y3 n, a1 = nI j ∧ a2 = nI y ∧ a3 = nI j3 ∧ a4 = nI y3 ∧ a5 = nI n ∧ j < 4 ∧ j3 < 4 ∧ y + n ≤ 24 ∧ y3 + n ≤ 24 := by
  unfold cpV at h
  split at h
  · exact absurd h (by decide)
  rename_i q1
  split at h
  · exact absurd h (by decide)
  rename_i q2
  split at h
  · exact absurd h (by decide)
  split at h
  · exact absurd h (by decide)
  split at h
  · exact absurd h (by decide)
  split at h
  · exact absurd h (by decide)
  rename_i q3
  split at h
  · exact absurd h (by decide)
  rename_i q4
  obtain ⟨j, hj, rfl⟩ := okN_t (by omega) (show okN a1 4 = true from by simpa using q1)
  obtain ⟨j3, hj3, rfl⟩ := okN_t (by omega) (show okN a3 4 = true from by simpa using q2)
  rw [ix_n (by omega)] at q3 q4
  have z1 := (O j hj).2
  have z2 := (O j3 hj3).2
  obtain ⟨y, n, rfl, rfl, e1⟩ := hdB_n z1 (show hdB (x.2.1 j) a2 a5 = true from by simpa using q3)
  obtain ⟨y3, n', rfl, e2, e3⟩ := hdB_n z2 (show hdB (x.2.1 j3) a4 _ = true from by simpa using q4)
  have q5 : hdB (x.2.1 j3) (nI y3) (nI n) = true := by simpa using q4
  unfold hdB at q5
  rw [decide_eq_true_eq, nI_toInt (by omega), nI_toInt (by omega)] at q5
  exact ⟨j, j3, y, y3, n, rfl, rfl, rfl, rfl, rfl, hj, hj3, by omega, by omega⟩
