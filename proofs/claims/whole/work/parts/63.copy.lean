/-! ===== copy ===== -/
theorem hdB_n {z : Nat} (hz : z ≤ 24) {i n : Int32} (h : hdB z i n = true) : ∃ y m, i = nI y ∧ n = nI m ∧ y + m ≤ z := by
  unfold hdB at h
  rw [decide_eq_true_eq] at h
  obtain ⟨h1, h2, h3⟩ := h
  obtain ⟨i', hi, rfl⟩ := nI_of (x := i) (fun w => by rw [Int32.lt_iff_toInt_lt, Int32.toInt_zero] at w; omega)
  obtain ⟨n', hn, rfl⟩ := nI_of (x := n) (fun w => by rw [Int32.lt_iff_toInt_lt, Int32.toInt_zero] at w; omega)
  rw [nI_toInt hi, nI_toInt hn] at h3
  exact ⟨i', n', rfl, rfl, by omega⟩
theorem hdB_neg {z : Nat} {i n : Int32} (h : n < 0) : hdB z i n = false := by
  unfold hdB
  rw [Int32.lt_iff_toInt_lt, Int32.toInt_zero] at h
  rw [decide_eq_false_iff_not]; omega
def cpV (x : WS) (a1 a2 a3 a4 a5 : Int32) : Int32 := if okN a1 4 = false then -1 else if okN a3 4 = false then -1 else if x.1 (ix a1) = -1 then -11 else if x.1 (ix a3) = -1 then -11 else if ¬ x.1 (ix a1) = x.1 (ix a3) then -12 else if hdB (x.2.1 (ix a1)) a2 a5 = false then -13 else if hdB (x.2.1 (ix a3)) a4 a5 = false then -13 else 0
theorem cpV_0 {x : WS} (O : WO x) {a1 a2 a3 a4 a5 : Int32} (h : cpV x a1 a2 a3 a4 a5 = 0) : ∃ j j3 y y3 n, a1 = nI j ∧ a2 = nI y ∧ a3 = nI j3 ∧ a4 = nI y3 ∧ a5 = nI n ∧ j < 4 ∧ j3 < 4 ∧ y + n ≤ 24 ∧ y3 + n ≤ 24 := by
  unfold cpV at h
  split at h
  · exact absurd h (by decide)
  rename_i q1
  split at h
  · exact absurd h (by decide)
  rename_i q2
  split at h
  · exact absurd h (by decide)
  split at h
  · exact absurd h (by decide)
  split at h
  · exact absurd h (by decide)
  split at h
  · exact absurd h (by decide)
  rename_i q3
  split at h
  · exact absurd h (by decide)
  rename_i q4
  obtain ⟨j, hj, rfl⟩ := okN_t (by omega) (show okN a1 4 = true from by simpa using q1)
  obtain ⟨j3, hj3, rfl⟩ := okN_t (by omega) (show okN a3 4 = true from by simpa using q2)
  rw [ix_n (by omega)] at q3 q4
  have z1 := (O j hj).2
  have z2 := (O j3 hj3).2
  obtain ⟨y, n, rfl, rfl, e1⟩ := hdB_n z1 (show hdB (x.2.1 j) a2 a5 = true from by simpa using q3)
  obtain ⟨y3, n', rfl, e2, e3⟩ := hdB_n z2 (show hdB (x.2.1 j3) a4 _ = true from by simpa using q4)
  have q5 : hdB (x.2.1 j3) (nI y3) (nI n) = true := by simpa using q4
  unfold hdB at q5
  rw [decide_eq_true_eq, nI_toInt (by omega), nI_toInt (by omega)] at q5
  exact ⟨j, j3, y, y3, n, rfl, rfl, rfl, rfl, rfl, hj, hj3, by omega, by omega⟩
theorem s_copy {x : WS} {M : Mem} (W : WC M x) (O : WO x) {a1 a2 a3 a4 a5 : Int32} {Q : Int32 → Mem → Prop} (k1 : ∀ v, cpV x a1 a2 a3 a4 a5 = v → v ≠ 0 → Q v M) (k2 : cpV x a1 a2 a3 a4 a5 = 0 → Q a5 (cpy M (90 + 1 + ix a1) (90 + 1 + ix a3) (ix a2) (ix a4) (ix a5))) : C_X9_copy M a1 a2 a3 a4 a5 Q := by
  refine T_X9_copy (s_isSheet (br (fun q1 => k1 _ (by rw [cpV, if_pos q1]) (by decide)) (fun q1 => s_isSheet (br' (fun q2 => k1 _ (by rw [cpV, if_neg (by rw [q1]; decide), if_pos q2]) (by decide)) (fun q2 => ?_)))))
  have c0 : cpV x a1 a2 a3 a4 a5 = if x.1 (ix a1) = -1 then -11 else if x.1 (ix a3) = -1 then -11 else if ¬ x.1 (ix a1) = x.1 (ix a3) then -12 else if hdB (x.2.1 (ix a1)) a2 a5 = false then -13 else if hdB (x.2.1 (ix a3)) a4 a5 = false then -13 else 0 := by rw [cpV, if_neg (by rw [q1]; decide), if_neg (by rw [q2]; decide)]
  obtain ⟨j, hj, rfl⟩ := okN_t (by omega) q1
  obtain ⟨j3, hj3, rfl⟩ := okN_t (by omega) q2
  rw [ix_n (by omega), ix_n (by omega)] at c0
  refine s_isNothing W hj (br' (fun q3 => s_isNothing W hj3 (br (fun q4 => ⟨by rw [vin (by omega)]; exact hj, by rw [vin (by omega)]; exact hj3, ?_⟩) (fun q4 => k1 _ (by rw [c0, if_neg (of_decide_eq_false q3), if_pos (of_decide_eq_true q4)]) (by decide)))) (fun q3 => k1 _ (by rw [c0, if_pos (of_decide_eq_true q3)]) (by decide)))
  have q3 := of_decide_eq_false q3
  have q4 := of_decide_eq_false q4
  rw [if_neg q3, if_neg q4] at c0
  have g1 := (W j hj).1
  have g3 := (W j3 hj3).1
  rw [ix_n (by omega), ix_n (by omega), g1, g3]
  refine ⟨fun q5 => s_holds W O hj (br (fun q6 => k1 _ (by rw [c0, if_neg (fun w => w q5), if_pos q6]) (by decide)) (fun q6 => s_holds W O hj3 (br' (fun q7 => k1 _ (by rw [c0, if_neg (fun w => w q5), if_neg (by rw [q6]; decide), if_pos q7]) (by decide)) (fun q7 => ?_)))), fun q5 => k1 _ (by rw [c0, if_pos q5]) (by decide)⟩
  have e0 : cpV x (nI j) a2 (nI j3) a4 a5 = 0 := by rw [c0, if_neg (fun w => w q5), if_neg (by rw [q6]; decide), if_neg (by rw [q7]; decide)]
  have k := k2 e0
  rw [ix_n (show j < 2147483648 by omega), ix_n (show j3 < 2147483648 by omega)] at k
  obtain ⟨_, _, y, y3, n, -, rfl, -, rfl, rfl, -, -, z1, z2⟩ := cpV_0 O e0
  refine ⟨⟨nI_pos (by omega), nI_pos (by omega), nI_pos (by omega), ?_, ?_⟩, k⟩
  · rw [ix_n (by omega), ix_n (by omega)]; exact z1
  · rw [ix_n (by omega), ix_n (by omega)]; exact z2
theorem m_copy {x : WS} {M : Mem} (W : WM M x) (O : WO x) {a1 a2 a3 a4 a5 : Int32} {Q : Int32 → Mem → Prop} (k1 : ∀ v, cpV x a1 a2 a3 a4 a5 = v → v ≠ 0 → Q v M) (k2 : cpV x a1 a2 a3 a4 a5 = 0 → P_X10_copy_101 M a1 a2 a3 a4 a5 (nI 0) Q) : C_X10_copy M a1 a2 a3 a4 a5 Q := by
  refine T_X10_copy (m_isSheet (br (fun q1 => k1 _ (by rw [cpV, if_pos q1]) (by decide)) (fun q1 => m_isSheet (br' (fun q2 => k1 _ (by rw [cpV, if_neg (by rw [q1]; decide), if_pos q2]) (by decide)) (fun q2 => ?_)))))
  have c0 : cpV x a1 a2 a3 a4 a5 = if x.1 (ix a1) = -1 then -11 else if x.1 (ix a3) = -1 then -11 else if ¬ x.1 (ix a1) = x.1 (ix a3) then -12 else if hdB (x.2.1 (ix a1)) a2 a5 = false then -13 else if hdB (x.2.1 (ix a3)) a4 a5 = false then -13 else 0 := by rw [cpV, if_neg (by rw [q1]; decide), if_neg (by rw [q2]; decide)]
  obtain ⟨j, hj, rfl⟩ := okN_t (by omega) q1
  obtain ⟨j3, hj3, rfl⟩ := okN_t (by omega) q2
  rw [ix_n (by omega), ix_n (by omega)] at c0
  have g1 := (W j hj).1
  have g3 := (W j3 hj3).1
  have lt0 : ∀ s, s < 4 → (x.1 s < 0) = (x.1 s = -1) := fun s hs => by
    have := ln_neg O hs
    rw [← Int32.not_lt] at this
    exact propext ⟨fun w => Classical.byContradiction fun v => (this.mpr v) w, fun w => Classical.byContradiction fun v => (this.mp v) w⟩
  rw [vin (by omega), vin (by omega), ix_n (by omega), ix_n (by omega), g1, g3, lt0 j hj, ln_neg O hj3]
  refine ⟨hj, fun q3 => k1 _ (by rw [c0, if_pos q3]) (by decide), fun q3 => ⟨hj3, fun q4 => ⟨fun q5 => ?_, fun q5 => k1 _ (by rw [c0, if_neg q3, if_neg q4, if_pos q5]) (by decide)⟩, fun q4 => k1 _ (by rw [c0, if_neg q3, if_pos (Classical.not_not.mp q4)]) (by decide)⟩⟩
  rw [if_neg q3, if_neg q4, if_neg (fun w => w q5)] at c0
  refine ⟨fun q6 => k1 _ (by rw [c0, if_pos (hdB_neg q6)]) (by decide), fun q6 => ?_⟩
  have hn : 0 ≤ a5.toInt := by
    rw [Int32.lt_iff_toInt_lt, Int32.toInt_zero] at q6; omega
  refine m_finds W O hj hn (fun w => absurd w q3) (fun _ w => absurd rfl w) (fun _ _ q7 => ⟨fun _ => k1 _ (by rw [c0, if_pos q7]) (by decide), fun w => absurd (by decide) w⟩) (fun _ _ q7 => ⟨fun w => absurd w (by decide), fun _ => ?_⟩)
  rw [g3]
  exact m_finds W O hj3 hn (fun w => absurd w q4) (fun _ w => absurd rfl w) (fun _ _ q8 => ⟨fun w => absurd w (by decide), fun _ => k1 _ (by rw [c0, if_neg (by rw [q7]; decide), if_pos q8]) (by decide)⟩) (fun _ _ q8 => ⟨fun _ => k2 (by rw [c0, if_neg (by rw [q7]; decide), if_neg (by rw [q8]; decide)]), fun w => absurd (by decide) w⟩)
theorem l_copy1 {j y n : Nat} {a3 a4 : Int32} (hj : j < 4) (hy : y + n ≤ 24) {Q : Int32 → Mem → Prop} : ∀ d i M, n - i = d → i ≤ n → (∀ M', (∀ c k, ¬ (c = 209 ∧ i ≤ k) → M' c k = M c k) → (∀ k, i ≤ k → k < n → M' 209 k = M 208 (24 * j + y + k)) → P_X10_copy_138 M' a3 a4 (nI n) (nI 0) Q) → P_X10_copy_101 M (nI j) (nI y) a3 a4 (nI n) (nI i) Q := by
  intro d
  induction d with
  | zero =>
    intro i M hd hi K
    refine T_X10_copy_101 ?_
    rw [n_le (by omega) (by omega)]
    exact ⟨fun _ => K M (fun _ _ _ => rfl) (fun k w w2 => absurd w (by omega)), fun w => absurd (by omega) w⟩
  | succ d ih =>
    intro i M hd hi K
    refine T_X10_copy_101 ?_
    rw [n_le (by omega) (by omega)]
    refine ⟨fun w => absurd w (by omega), fun _ => ?_⟩
    simp (disch := omega) only [n_mul, n_add, vin, ix_n]
    refine ⟨by omega, by omega, ih (i + 1) _ (by omega) (by omega) (fun M' f u => K M' (fun c k w => by rw [f c k (by omega)]; exact (by simp only [wr]; repeat rw [if_neg (by omega)])) (fun k w w2 => ?_))⟩
    by_cases e : k = i
    · subst e; rw [f _ _ (by omega), wr_eq]
    · rw [u k (by omega) w2, wr_nc _ _ _ _ (by omega)]
theorem l_copy2 {j y n : Nat} (hj : j < 4) (hy : y + n ≤ 24) {Q : Int32 → Mem → Prop} : ∀ d i M, n - i = d → i ≤ n → (∀ M', (∀ c k, ¬ (c = 208 ∧ 24 * j + y + i ≤ k ∧ k < 24 * j + y + n) → M' c k = M c k) → (∀ k, i ≤ k → k < n → M' 208 (24 * j + y + k) = M 209 k) → Q (nI n) M') → P_X10_copy_138 M (nI j) (nI y) (nI n) (nI i) Q := by
  intro d
  induction d with
  | zero =>
    intro i M hd hi K
    refine T_X10_copy_138 ?_
    rw [n_le (by omega) (by omega)]
    exact ⟨fun _ => K M (fun _ _ _ => rfl) (fun k w w2 => absurd w (by omega)), fun w => absurd (by omega) w⟩
  | succ d ih =>
    intro i M hd hi K
    refine T_X10_copy_138 ?_
    rw [n_le (by omega) (by omega)]
    refine ⟨fun w => absurd w (by omega), fun _ => ?_⟩
    simp (disch := omega) only [n_mul, n_add, vin, ix_n]
    refine ⟨by omega, by omega, ih (i + 1) _ (by omega) (by omega) (fun M' f u => K M' (fun c k w => by rw [f c k (by omega)]; exact (by simp only [wr]; repeat rw [if_neg (by omega)])) (fun k w w2 => ?_))⟩
    by_cases e : k = i
    · subst e; rw [f _ _ (by omega), wr_eq]
    · rw [u k (by omega) w2, wr_nc _ _ _ _ (by omega)]
theorem b_copy {M : Mem} (C : Cpl M) (a1 a2 a3 a4 a5 : Int32) : C_X9_copy M a1 a2 a3 a4 a5 (fun r M1 => C_X10_copy M1 a1 a2 a3 a4 a5 (fun r' M2 => r = r' ∧ Cpl M2)) := by
  obtain ⟨h, s, t, n, tp, x, kx, I, J, O⟩ := C
  have same : Cpl M := ⟨h, s, t, n, tp, x, kx, I, J, O⟩
  have OW := O.2.2.2.2.1
  refine s_copy I.2.2.2.2.2.1 OW (fun v e w => m_copy J.2.2.2.2.1 OW (fun v' e' _ => ⟨e.symm.trans e', same⟩) (fun e' => absurd (e.symm.trans e') w)) (fun e => ?_)
  obtain ⟨j, j3, y, y3, m, rfl, rfl, rfl, rfl, rfl, hj, hj3, z1, z2⟩ := cpV_0 OW e
  simp (disch := omega) only [ix_n]
  have O' : IO h s t n tp (x.1, x.2.1, up_ x.2.2 j3 (fun k => if y3 ≤ k ∧ k < y3 + m then x.2.2 j (y + (k - y3)) else x.2.2 j3 k)) kx := O
  have I1 : IC (cpy M (90 + 1 + j) (90 + 1 + j3) y y3 m) h s t n tp (x.1, x.2.1, up_ x.2.2 j3 (fun k => if y3 ≤ k ∧ k < y3 + m then x.2.2 j (y + (k - y3)) else x.2.2 j3 k)) kx := by
    refine I.sheet O (fun s' hs' => ?_) (fun c k w => by rw [cpy_f M _ _ _ (by omega)])
    obtain ⟨y1, y2, y4⟩ := I.2.2.2.2.2.1 s' hs'
    refine ⟨by rw [cpy_f M _ _ _ (by omega)]; exact y1, by rw [cpy_f M _ _ _ (by omega)]; exact y2, fun i hi => ?_⟩
    show _ = up_ x.2.2 j3 (fun k => if y3 ≤ k ∧ k < y3 + m then x.2.2 j (y + (k - y3)) else x.2.2 j3 k) s' i
    by_cases e : s' = j3
    · subst e
      rw [up_eq]
      show cpy M (90 + 1 + j) (90 + 1 + s') y y3 m (91 + s') i = if y3 ≤ i ∧ i < y3 + m then x.2.2 j (y + (i - y3)) else x.2.2 s' i
      rw [show 90 + 1 + s' = 91 + s' by omega, show 90 + 1 + j = 91 + j by omega]
      by_cases e2 : y3 ≤ i ∧ i < y3 + m
      · rw [if_pos e2, cpy_in M e2.1 e2.2]
        exact (I.2.2.2.2.2.1 j hj).2.2 _ (by omega)
      · rw [if_neg e2, cpy_out M (by omega)]
        exact y4 i hi
    · rw [cpy_f M _ _ _ (by omega), up_ne _ _ e]; exact y4 i hi
  have J1 : IM (cpy M (90 + 1 + j) (90 + 1 + j3) y y3 m) h s t n tp x kx := J.far (fun c k hc => by rw [cpy_f M _ _ _ (by omega)])
  generalize cpy M (90 + 1 + j) (90 + 1 + j3) y y3 m = N at I1 J1
  refine m_copy J1.2.2.2.2.1 OW (fun v e' w => absurd (e'.symm.trans e) w) (fun _ => l_copy1 hj z1 _ 0 N rfl (by omega) (fun N1 f1 u1 => l_copy2 hj3 z2 _ 0 N1 rfl (by omega) (fun N2 f2 u2 => ?_)))
  refine ⟨rfl, _, _, _, _, _, _, _, I1.far O' (fun c k w => by rw [f2 c k (by omega), f1 c k (by omega)]), J1.sheet (fun s' hs' => ?_) (fun c k w => by rw [f2 c k (by omega), f1 c k (by omega)]), O'⟩
  obtain ⟨y1, y2, y4⟩ := J1.2.2.2.2.1 s' hs'
  refine ⟨by rw [f2 _ _ (by omega), f1 _ _ (by omega)]; exact y1, by rw [f2 _ _ (by omega), f1 _ _ (by omega)]; exact y2, fun i hi => ?_⟩
  show _ = up_ x.2.2 j3 (fun k => if y3 ≤ k ∧ k < y3 + m then x.2.2 j (y + (k - y3)) else x.2.2 j3 k) s' i
  by_cases e : s' = j3
  · subst e
    rw [up_eq]
    by_cases e2 : y3 ≤ i ∧ i < y3 + m
    · show _ = if y3 ≤ i ∧ i < y3 + m then x.2.2 j (y + (i - y3)) else x.2.2 s' i
      rw [if_pos e2, ← (J1.2.2.2.2.1 j hj).2.2 _ (show y + (i - y3) < 24 by omega)]
      have v := u2 (i - y3) (by omega) (by omega)
      rw [u1 (i - y3) (by omega) (by omega), show 24 * s' + y3 + (i - y3) = 24 * s' + i by omega, show 24 * j + y + (i - y3) = 24 * j + (y + (i - y3)) by omega] at v
      exact v
    · show _ = if y3 ≤ i ∧ i < y3 + m then x.2.2 j (y + (i - y3)) else x.2.2 s' i
      rw [if_neg e2, f2 _ _ (by omega), f1 _ _ (by omega)]
      exact y4 i hi
  · rw [up_ne _ _ e, f2 _ _ (by omega), f1 _ _ (by omega)]; exact y4 i hi
