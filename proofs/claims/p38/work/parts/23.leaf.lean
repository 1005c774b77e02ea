/-! ===== branches, ranges ===== -/
theorem br {b : Bool} {A B : Prop} (f : b = false → A) (g : b = true → B) : (bI b = 0 → A) ∧ (¬ bI b = 0 → B) := ⟨fun h => f ((bI_0 b).mp h), fun h => g (by cases hb : b with | true => rfl | false => exact absurd ((bI_0 b).mpr hb) h)⟩
theorem br' {b : Bool} {A B : Prop} (f : b = false → A) (g : b = true → B) : (¬ bI b = 0 → B) ∧ (bI b = 0 → A) := ⟨(br f g).2, (br f g).1⟩
theorem rg {x : Int32} {n : Nat} (hn : n < 2147483648) {A B : Prop} (f : okN x n = false → A) (g : okN x n = true → B) : (x < 0 → A) ∧ (¬ x < 0 → (nI n ≤ x → A) ∧ (¬ nI n ≤ x → B)) := ⟨fun h => f (okN_lo h), fun h => ⟨fun h2 => f (okN_hi hn h2), fun h2 => g (okN_in hn h h2)⟩⟩
def rng (x : Int32) (a b : Int) : Bool := decide (a ≤ x.toInt ∧ x.toInt ≤ b)
theorem in_ok (x : Int32) {n : Nat} (hn : n < 1073741824) : (decide ((0 : Int64) ≤ x.toInt64) && decide (x.toInt64 ≤ (nI n - nI 1).toInt64)) = okN x n := by
  apply b_of
  simp only [Bool.and_eq_true, decide_eq_true_eq, okN, Int64.le_iff_toInt_le, Int32.toInt_toInt64, pk_sub_toInt hn (show 1 < 2 ^ 30 by omega), Int64.toInt_zero]
  omega
theorem in_rng (x : Int32) (a b : Int64) : (decide (a ≤ x.toInt64) && decide (x.toInt64 ≤ b)) = rng x a.toInt b.toInt := by
  apply b_of
  simp only [Bool.and_eq_true, decide_eq_true_eq, rng, Int64.le_iff_toInt_le, Int32.toInt_toInt64]
theorem rng_ok (x : Int32) {n : Nat} : rng x 0 n = okN x (n + 1) := by
  apply b_of
  simp only [rng, okN, decide_eq_true_eq]
  omega
theorem in_23 (x : Int32) : (decide ((0 : Int64) ≤ x.toInt64) && decide (x.toInt64 ≤ (23 : Int64))) = okN x 24 := (in_rng x 0 23).trans (rng_ok x (n := 23))
theorem in_01 (x : Int32) : (decide ((0 : Int64) ≤ x.toInt64) && decide (x.toInt64 ≤ (1 : Int64))) = okN x 2 := (in_rng x 0 1).trans (rng_ok x (n := 1))
theorem in_02 (x : Int32) : (decide ((0 : Int64) ≤ x.toInt64) && decide (x.toInt64 ≤ (2 : Int64))) = okN x 3 := (in_rng x 0 2).trans (rng_ok x (n := 2))
theorem in_03 (x : Int32) : (decide ((0 : Int64) ≤ x.toInt64) && decide (x.toInt64 ≤ (3 : Int64))) = okN x 4 := (in_rng x 0 3).trans (rng_ok x (n := 3))
theorem in_07 (x : Int32) : (decide ((0 : Int64) ≤ x.toInt64) && decide (x.toInt64 ≤ (7 : Int64))) = okN x 8 := (in_rng x 0 7).trans (rng_ok x (n := 7))
theorem rng_n {n : Nat} (hn : n < 2147483648) (a b : Int) : rng (nI n) a b = decide (a ≤ (n : Int) ∧ (n : Int) ≤ b) := by unfold rng; rw [nI_toInt hn]
theorem rng_t {x : Int32} {a b : Nat} (hb : b < 2147483647) (h : rng x a b = true) : ∃ j : Nat, a ≤ j ∧ j ≤ b ∧ x = nI j := by
  simp only [rng, decide_eq_true_eq] at h
  have h2 : okN x (b + 1) = true := by simp only [okN, decide_eq_true_eq]; omega
  obtain ⟨j, hj, rfl⟩ := okN_t (by omega) h2
  rw [nI_toInt (by omega)] at h
  exact ⟨j, by omega, by omega, rfl⟩
def isEr (R : Nat) (k r n f d : Int32) : Bool := okN k 2 && (okN r R && (rng n 1 9 && (okN f 24 && (okN d 24 && decide (f ≤ d)))))
/-! ===== the class's leaves that change nothing ===== -/
theorem s_hasRoom {M : Mem} {R : Nat} {a : Int32} {Q : Int32 → Mem → Prop} (hR : M 1 0 = nI R) (hr : R ≤ 10) (k : Q (bI (okN a R)) M) : C_X0_hasRoom_1 M a Q := by
  refine T_X0_hasRoom_1 ?_
  rw [hR]
  exact rg (by omega) (fun h => by rw [h] at k; exact k) (fun h => by rw [h] at k; exact k)
theorem s_arePair {M : Mem} {R : Nat} {a b : Int32} {Q : Int32 → Mem → Prop} (hR : M 1 0 = nI R) (hr : R ≤ 10) (k : Q (bI (okN a R && (okN b R && !decide (a = b)))) M) : C_X0_arePair_1 M a b Q := by
  refine T_X0_arePair_1 (s_hasRoom hR hr (br (fun h => ?_) (fun h => s_hasRoom hR hr (br (fun h2 => ?_) (fun h2 => ⟨fun h3 => ?_, fun h3 => ?_⟩)))))
  · rw [h] at k; exact k
  · rw [h, h2] at k; exact k
  · rw [h, h2, decide_eq_true h3] at k; exact k
  · rw [h, h2, decide_eq_false h3] at k; exact k
theorem s_isTick {M : Mem} {a : Int32} {Q : Int32 → Mem → Prop} (k : Q (bI (okN a 24)) M) : C_X9_isTick M a Q := by
  refine T_X9_isTick ?_
  exact rg (by omega) (fun h => by rw [h] at k; exact k) (fun h => by rw [h] at k; exact k)
theorem s_hasServant {M : Mem} {S : Nat} {a : Int32} {Q : Int32 → Mem → Prop} (hS : M 30 0 = nI S) (hs : S ≤ 3) (k : Q (bI (okN a S)) M) : C_X5_hasServant_30 M a Q := by
  refine T_X5_hasServant_30 ?_
  rw [hS]
  exact rg (by omega) (fun h => by rw [h] at k; exact k) (fun h => by rw [h] at k; exact k)
theorem s_hasErrand {M : Mem} {E : Nat} {a : Int32} {Q : Int32 → Mem → Prop} (hS : M 30 3 = nI E) (hs : E ≤ 5) (k : Q (bI (okN a E)) M) : C_X5_hasErrand_30 M a Q := by
  refine T_X5_hasErrand_30 ?_
  rw [hS]
  exact rg (by omega) (fun h => by rw [h] at k; exact k) (fun h => by rw [h] at k; exact k)
theorem s_hasOne {M : Mem} {F : Nat} {a : Int32} {Q : Int32 → Mem → Prop} (hS : M 37 0 = nI F) (hs : F ≤ 5) (k : Q (bI (okN a F)) M) : C_X6_hasOne_37 M a Q := by
  refine T_X6_hasOne_37 ?_
  rw [hS]
  exact rg (by omega) (fun h => by rw [h] at k; exact k) (fun h => by rw [h] at k; exact k)
theorem s_isErrand {M : Mem} {R : Nat} {k r n f d : Int32} {Q : Int32 → Mem → Prop} (hR : M 1 0 = nI R) (hr : R ≤ 10) (kk : Q (bI (isEr R k r n f d)) M) : C_X9_isErrand M k r n f d Q := by
  have hn1 : ∀ x : Int32, x < nI 1 → rng x 1 9 = false := fun x h => by
    simp only [rng, decide_eq_false_iff_not]
    have := Int32.lt_iff_toInt_lt.mp h
    rw [nI_toInt (by omega)] at this
    omega
  have hn9 : ∀ x : Int32, nI 9 < x → rng x 1 9 = false := fun x h => by
    simp only [rng, decide_eq_false_iff_not]
    have := Int32.lt_iff_toInt_lt.mp h
    rw [nI_toInt (by omega)] at this
    omega
  have hn : ∀ x : Int32, ¬ x < nI 1 → ¬ nI 9 < x → rng x 1 9 = true := fun x h h2 => by
    simp only [rng, decide_eq_true_eq]
    have h := Int32.le_iff_toInt_le.mp (Int32.not_lt.mp h)
    have h2 := Int32.le_iff_toInt_le.mp (Int32.not_lt.mp h2)
    rw [nI_toInt (by omega)] at h h2
    omega
  have hfd : ∀ x y : Int32, y < x → decide (x ≤ y) = false := fun x y h => by
    rw [decide_eq_false_iff_not, Int32.not_le]; exact h
  have hfd2 : ∀ x y : Int32, ¬ y < x → decide (x ≤ y) = true := fun x y h => by
    rw [decide_eq_true_eq]; exact Int32.not_lt.mp h
  have tail : okN k 2 = true → C_X0_hasRoom_1 M r (fun r1 M1 => ((r1 = 0) → (Q (nI 0) M1)) ∧ ((¬ r1 = 0) → (((n < (nI 1)) → (Q (nI 0) M1)) ∧ ((¬ n < (nI 1)) → ((((nI 9) < n) → (Q (nI 0) M1)) ∧ ((¬ (nI 9) < n) → (C_X9_isTick M1 f (fun r5 M5 => ((r5 = 0) → (Q (nI 0) M5)) ∧ ((¬ r5 = 0) → (C_X9_isTick M5 d (fun r7 M7 => ((r7 = 0) → (Q (nI 0) M7)) ∧ ((¬ r7 = 0) → (((d < f) → (Q (nI 0) M7)) ∧ ((¬ d < f) → (Q (nI 1) M7))))))))))))))) := by
    intro hk
    unfold isEr at kk
    rw [hk] at kk
    refine s_hasRoom hR hr (br (fun h => ?_) (fun h => ⟨fun h2 => ?_, fun h2 => ⟨fun h3 => ?_, fun h3 => s_isTick (br (fun h4 => ?_) (fun h4 => s_isTick (br (fun h5 => ?_) (fun h5 => ⟨fun h6 => ?_, fun h6 => ?_⟩))))⟩⟩))
    · rw [h] at kk; exact kk
    · rw [h, hn1 _ h2] at kk; exact kk
    · rw [h, hn9 _ h3] at kk; exact kk
    · rw [h, hn _ h2 h3, h4] at kk; exact kk
    · rw [h, hn _ h2 h3, h4, h5] at kk; exact kk
    · rw [h, hn _ h2 h3, h4, h5, hfd _ _ h6] at kk; exact kk
    · rw [h, hn _ h2 h3, h4, h5, hfd2 _ _ h6] at kk; exact kk
  refine T_X9_isErrand ⟨fun h => tail ?_, fun h => ⟨fun h2 => ?_, fun h2 => tail ?_⟩⟩
  · rw [h]; rfl
  · have : okN k 2 = false := by
      cases hq : okN k 2 with
      | false => rfl
      | true =>
        obtain ⟨j, hj, rfl⟩ := okN_t (by omega) hq
        rcases (show j = 0 ∨ j = 1 by omega) with rfl | rfl
        · exact absurd nI_0 h
        · exact absurd rfl h2
    unfold isEr at kk
    rw [this] at kk
    exact kk
  · rw [h2]; rfl
/-! ===== the reference's ===== -/
