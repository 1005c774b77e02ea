/-! ===== the errands of a sheet ===== -/
def erV (x : WS) (a1 a2 a3 a4 : Int32) : Int32 := if okN a1 4 = false then -1 else if okN a2 3 = false then -1 else if rng a4 1 4 = false then -1 else if x.1 (ix a1) = -1 then -11 else if ¬ x.1 (ix a1) = a2 then -12 else if hdB (x.2.1 (ix a1)) a3 (nI 5 * a4) = false then -13 else 0
theorem erV_0 {x : WS} (O : WO x) {a1 a2 a3 a4 : Int32} (h : erV x a1 a2 a3 a4 = 0) : ∃ j y m, a1 = nI j ∧ a3 = nI y ∧ a4 = nI m ∧ j < 4 ∧ 1 ≤ m ∧ m ≤ 4 ∧ y + 5 * m ≤ 24 := by
  unfold erV at h
  split at h
  · exact absurd h (by decide)
  rename_i q1
  split at h
  · exact absurd h (by decide)
  split at h
  · exact absurd h (by decide)
  rename_i q2
  split at h
  · exact absurd h (by decide)
  split at h
  · exact absurd h (by decide)
  split at h
  · exact absurd h (by decide)
  rename_i q3
  obtain ⟨j, hj, rfl⟩ := okN_t (by omega) (show okN a1 4 = true from by simpa using q1)
  obtain ⟨m, h1, h2, rfl⟩ := rng_t (a := 1) (b := 4) (by omega) (show rng a4 1 4 = true from by simpa using q2)
  rw [ix_n (by omega), n_mul] at q3
  have z1 := (O j hj).2
  have q4 : hdB (x.2.1 j) a3 (nI (5 * m)) = true := by simpa using q3
  obtain ⟨y, m', rfl, e2, e3⟩ := hdB_n z1 q4
  unfold hdB at q4
  rw [decide_eq_true_eq, nI_toInt (by omega), nI_toInt (by omega)] at q4
  exact ⟨j, y, m, rfl, rfl, rfl, hj, h1, h2, by omega⟩
theorem rng_1lo {v : Int32} {b : Int} (h : v < nI 1) : rng v 1 b = false := by
  simp only [rng, decide_eq_false_iff_not]
  have := Int32.lt_iff_toInt_lt.mp h
  rw [nI_toInt (by omega)] at this
  omega
theorem rng_4hi {v : Int32} {a : Int} (h : ¬ v ≤ nI 4) : rng v a 4 = false := by
  simp only [rng, decide_eq_false_iff_not]
  rw [Int32.le_iff_toInt_le, nI_toInt (by omega)] at h
  omega
theorem rng_14 {v : Int32} (h1 : ¬ v < nI 1) (h2 : v ≤ nI 4) : rng v 1 4 = true := by
  simp only [rng, decide_eq_true_eq]
  rw [Int32.le_iff_toInt_le, nI_toInt (by omega)] at h2
  rw [Int32.lt_iff_toInt_lt, nI_toInt (by omega)] at h1
  omega
theorem s_errands {x : WS} {M : Mem} (W : WC M x) (O : WO x) {a1 a2 a3 a4 : Int32} {Q : Int32 → Mem → Prop} (k1 : ∀ v, erV x a1 a2 a3 a4 = v → v ≠ 0 → Q v M) (k2 : erV x a1 a2 a3 a4 = 0 → P_X9_errands_99 M a3 a4 (90 + 1 + ix a1) a3 Q) : C_X9_errands M a1 a2 a3 a4 Q := by
  refine T_X9_errands (s_isSheet (br (fun q1 => k1 _ (by rw [erV, if_pos q1]) (by decide)) (fun q1 => s_isLane (br (fun q2 => k1 _ (by rw [erV, if_neg (by rw [q1]; decide), if_pos q2]) (by decide)) (fun q2 => ?_)))))
  have c0 : erV x a1 a2 a3 a4 = if rng a4 1 4 = false then -1 else if x.1 (ix a1) = -1 then -11 else if ¬ x.1 (ix a1) = a2 then -12 else if hdB (x.2.1 (ix a1)) a3 (nI 5 * a4) = false then -13 else 0 := by rw [erV, if_neg (by rw [q1]; decide), if_neg (by rw [q2]; decide)]
  refine ⟨fun q3 => k1 _ (by rw [c0, if_pos (rng_1lo q3)]) (by decide), fun q3 => ⟨fun q4 => ?_, fun q4 => k1 _ (by rw [c0, if_pos (rng_4hi q4)]) (by decide)⟩⟩
  rw [if_neg (by rw [rng_14 q3 q4]; decide)] at c0
  obtain ⟨j, hj, rfl⟩ := okN_t (by omega) q1
  have g1 := (W j hj).1
  rw [ix_n (by omega)] at c0 k2 ⊢
  refine s_isNothing W hj (br (fun q5 => ⟨by rw [vin (by omega)]; exact hj, ?_⟩) (fun q5 => k1 _ (by rw [c0, if_pos (of_decide_eq_true q5)]) (by decide)))
  rw [if_neg (of_decide_eq_false q5)] at c0
  rw [g1]
  refine ⟨fun q6 => s_holds W O hj (br' (fun q7 => k1 _ (by rw [c0, if_neg (fun w => w q6), if_pos q7]) (by decide)) (fun q7 => k2 (by rw [c0, if_neg (fun w => w q6), if_neg (by rw [q7]; decide)]))), fun q6 => k1 _ (by rw [c0, if_pos q6]) (by decide)⟩
theorem m_errands {x : WS} {M : Mem} (W : WM M x) (O : WO x) {a1 a2 a3 a4 : Int32} {Q : Int32 → Mem → Prop} (k1 : ∀ v, erV x a1 a2 a3 a4 = v → v ≠ 0 → Q v M) (k2 : erV x a1 a2 a3 a4 = 0 → P_X10_errands_62 M a4 ((nI 24 * a1) + a3) ((nI 24 * a1) + a3) Q) : C_X10_errands M a1 a2 a3 a4 Q := by
  refine T_X10_errands (m_isSheet (br (fun q1 => k1 _ (by rw [erV, if_pos q1]) (by decide)) (fun q1 => m_isLane (br (fun q2 => k1 _ (by rw [erV, if_neg (by rw [q1]; decide), if_pos q2]) (by decide)) (fun q2 => s_in ?_)))))
  have c0 : erV x a1 a2 a3 a4 = if rng a4 1 4 = false then -1 else if x.1 (ix a1) = -1 then -11 else if ¬ x.1 (ix a1) = a2 then -12 else if hdB (x.2.1 (ix a1)) a3 (nI 5 * a4) = false then -13 else 0 := by rw [erV, if_neg (by rw [q1]; decide), if_neg (by rw [q2]; decide)]
  have e4 : (decide ((1 : Int64) ≤ a4.toInt64) && decide (a4.toInt64 ≤ (4 : Int64))) = rng a4 1 4 := in_rng a4 1 4
  rw [e4]
  refine br' (fun q3 => k1 _ (by rw [c0, if_pos q3]) (by decide)) (fun q3 => ?_)
  rw [if_neg (by rw [q3]; decide)] at c0
  obtain ⟨j, hj, rfl⟩ := okN_t (by omega) q1
  obtain ⟨m, h1, h2, rfl⟩ := rng_t (a := 1) (b := 4) (by omega) q3
  rw [ix_n (by omega)] at c0
  have hn : 0 ≤ (nI 5 * nI m).toInt := by rw [n_mul, nI_toInt (by omega)]; omega
  exact m_finds W O hj hn (fun w => ⟨fun w2 => absurd w2 (by decide), fun _ => k1 _ (by rw [c0, if_pos w]) (by decide)⟩) (fun w w1 => ⟨fun w2 => absurd w2 (by decide), fun _ => k1 _ (by rw [c0, if_neg w, if_pos w1]) (by decide)⟩) (fun w w1 w3 => ⟨fun w2 => absurd w2 (by decide), fun _ => k1 _ (by rw [c0, if_neg w, if_neg (fun v => v w1), if_pos w3]) (by decide)⟩) (fun w w1 w3 => ⟨fun _ => k2 (by rw [c0, if_neg w, if_neg (fun v => v w1), if_neg (by rw [w3]; decide)]), fun w2 => absurd (by decide) w2⟩)
def erE (R : Nat) (G : Nat → Int32) (y e : Nat) : Bool := isEr R (G (y + 5 * e)) (G (y + 5 * e + 1)) (G (y + 5 * e + 2)) (G (y + 5 * e + 3)) (G (y + 5 * e + 4))
theorem l_er99 {R y m c5 : Nat} (hc : IA c5 24) (hr : R ≤ 10) (hy : y + 5 * m ≤ 24) {Q : Int32 → Mem → Prop} {M : Mem} (hR : M 1 0 = nI R) : ∀ d e, m - e = d → e ≤ m → ((∃ k, k < m ∧ erE R (M c5) y k = false) → Q (-2) M) → ((∀ k, e ≤ k → k < m → erE R (M c5) y k = true) → ((((M 30 3) + nI m) ≤ (nI 5)) → (P_X9_errands_179 M (nI y) (nI m) c5 (nI y) Q)) ∧ ((¬ ((M 30 3) + nI m) ≤ (nI 5)) → (Q (-3) M))) → P_X9_errands_99 M (nI y) (nI m) c5 (nI (y + 5 * e)) Q := by
  intro d
  induction d with
  | zero =>
    intro e hd he k1 k2
    refine T_X9_errands_99 hc ?_
    rw [n_mul, n_add, n_le (by omega) (by omega)]
    exact ⟨fun _ => k2 (fun k w w2 => absurd w (by omega)), fun w => absurd (by omega) w⟩
  | succ d ih =>
    intro e hd he k1 k2
    refine T_X9_errands_99 hc ?_
    rw [n_mul, n_add, n_le (by omega) (by omega)]
    refine ⟨fun w => absurd w (by omega), fun _ => ?_⟩
    simp (disch := omega) only [n_add, vin, ix_n]
    refine ⟨by omega, by omega, by omega, by omega, by omega, s_isErrand hR hr (br' (fun q => k1 ⟨e, by omega, q⟩) (fun q => ?_))⟩
    rw [show y + 5 * e + 5 = y + 5 * (e + 1) by omega]
    refine ih (e + 1) (by omega) (by omega) k1 (fun u => k2 (fun k w w2 => ?_))
    by_cases e' : k = e
    · subst e'; exact q
    · exact u k (by omega) w2
theorem l_er62 {R z m : Nat} (hr : R ≤ 10) (hz : z + 5 * m ≤ 96) (hm : m ≤ 4) {Q : Int32 → Mem → Prop} {M : Mem} (hR : M 182 0 = nI R) : ∀ d e, m - e = d → e ≤ m → ((∃ k, k < m ∧ erE R (M 208) z k = false) → Q (-2) M) → ((∀ k, e ≤ k → k < m → erE R (M 208) z k = true) → ((((M 182 17) + nI m) ≤ (nI 5)) → (P_X10_errands_151 M (nI m) (nI z) (nI z) Q)) ∧ ((¬ ((M 182 17) + nI m) ≤ (nI 5)) → (Q (-3) M))) → P_X10_errands_62 M (nI m) (nI z) (nI (z + 5 * e)) Q := by
  intro d
  induction d with
  | zero =>
    intro e hd he k1 k2
    refine T_X10_errands_62 ?_
    rw [n_mul, n_add, n_le (by omega) (by omega)]
    exact ⟨fun _ => k2 (fun k w w2 => absurd w (by omega)), fun w => absurd (by omega) w⟩
  | succ d ih =>
    intro e hd he k1 k2
    refine T_X10_errands_62 ?_
    rw [n_mul, n_add, n_le (by omega) (by omega)]
    refine ⟨fun w => absurd w (by omega), fun _ => ?_⟩
    simp (disch := omega) only [n_add, vin, ix_n]
    refine ⟨by omega, by omega, by omega, by omega, by omega, m_isErrand hR hr (br' (fun q => k1 ⟨e, by omega, q⟩) (fun q => ?_))⟩
    rw [show z + 5 * e + 5 = z + 5 * (e + 1) by omega]
    refine ih (e + 1) (by omega) (by omega) k1 (fun u => k2 (fun k w w2 => ?_))
    by_cases e' : k = e
    · subst e'; exact q
    · exact u k (by omega) w2
def sput (s : SS) (k r f p d : Nat) : SS := (s.1, s.2.1 + 1, s.2.2.1, s.2.2.2.1, s.2.2.2.2.1, er1 s k r f p d)
def sN (s : SS) (v : Nat → Nat) : Nat → SS
  | 0 => s
  | e + 1 => sput (sN s v e) (v (5 * e)) (v (5 * e + 1)) (v (5 * e + 2)) (v (5 * e + 3)) (v (5 * e + 4))
theorem sN_n (s : SS) (v : Nat → Nat) (e : Nat) : (sN s v e).2.1 = s.2.1 + e := by
  induction e with
  | zero => rfl
  | succ e ih => show (sN s v e).2.1 + 1 = _; omega
def vOK (R : Nat) (v : Nat → Nat) (e : Nat) : Prop := v (5 * e) ≤ 1 ∧ v (5 * e + 1) < R ∧ 1 ≤ v (5 * e + 2) ∧ v (5 * e + 2) ≤ 9 ∧ v (5 * e + 3) ≤ v (5 * e + 4) ∧ v (5 * e + 4) ≤ 23
theorem sN_O {s : SS} {R : Nat} (O : SO s R) {v : Nat → Nat} {m : Nat} (hm : s.2.1 + m ≤ 5) (hv : ∀ e, e < m → vOK R v e) : ∀ e, e ≤ m → SO (sN s v e) R := by
  intro e
  induction e with
  | zero => intro _; exact O
  | succ e ih =>
    intro he
    obtain ⟨h1, h2, h3, h4, h5, h6⟩ := hv e (by omega)
    exact (ih (by omega)).add (by rw [sN_n]; omega) h1 h2 h3 h4 h5 h6
theorem erE_v {R : Nat} (hR : R ≤ 10) {G : Nat → Int32} {y e : Nat} (q : erE R G y e = true) : vOK R (fun k => ix (G (y + k))) e ∧ ∀ k, k < 5 → G (y + 5 * e + k) = nI (ix (G (y + 5 * e + k))) := by
  obtain ⟨k', r', f', p', d', e1, e2, e3, e4, e5, h1, h2, h3, h4, h5, h6⟩ := isEr_t hR q
  refine ⟨?_, fun k hk => ?_⟩
  · unfold vOK
    simp only [← Nat.add_assoc]
    rw [e1, e2, e3, e4, e5, ix_n (by omega), ix_n (by omega), ix_n (by omega), ix_n (by omega), ix_n (by omega)]
    exact ⟨h1, h2, h3, h4, h5, h6⟩
  · rcases (show k = 0 ∨ k = 1 ∨ k = 2 ∨ k = 3 ∨ k = 4 by omega) with w | w | w | w | w <;> subst w
    · rw [Nat.add_zero, e1, ix_n (by omega)]
    · rw [e2, ix_n (by omega)]
    · rw [e3, ix_n (by omega)]
    · rw [e4, ix_n (by omega)]
    · rw [e5, ix_n (by omega)]
theorem l_er179 {y m c5 : Nat} (hc : IA c5 24) (h5 : 36 < c5) (hy : y + 5 * m ≤ 24) {s : SS} (hs : s.2.1 + m ≤ 5) {G : Nat → Int32} {v : Nat → Nat} (hG : ∀ e, e < m → ∀ k, k < 5 → G (y + 5 * e + k) = nI (v (5 * e + k))) {Q : Int32 → Mem → Prop} : ∀ d e M, m - e = d → e ≤ m → SC 30 M (sN s v e) → M c5 = G → (∀ M', (∀ c j, ¬ (30 ≤ c ∧ c ≤ 36) → M' c j = M c j) → SC 30 M' (sN s v m) → C_X9_plansChanged M' (fun M1 => Q (M1 30 3) M1)) → P_X9_errands_179 M (nI y) (nI m) c5 (nI (y + 5 * e)) Q := by
  intro d
  induction d with
  | zero =>
    intro e M hd he S g K
    refine T_X9_errands_179 hc ?_
    rw [n_mul, n_add, n_le (by omega) (by omega)]
    have : e = m := by omega
    subst this
    exact ⟨fun _ => K M (fun _ _ _ => rfl) S, fun w => absurd (by omega) w⟩
  | succ d ih =>
    intro e M hd he S g K
    refine T_X9_errands_179 hc ?_
    rw [n_mul, n_add, n_le (by omega) (by omega)]
    refine ⟨fun w => absurd w (by omega), fun _ => ?_⟩
    have i0 := hG e (by omega) 0 (by omega)
    rw [Nat.add_zero, Nat.add_zero] at i0
    simp (disch := omega) only [n_add, vin, ix_n]
    rw [g, i0, hG e (by omega) 1 (by omega), hG e (by omega) 2 (by omega), hG e (by omega) 3 (by omega), hG e (by omega) 4 (by omega)]
    refine ⟨by omega, by omega, by omega, by omega, by omega, s_addErrand S (by rw [sN_n]; omega) (fun M1 f1 s1 => ?_)⟩
    rw [show y + 5 * e + 5 = y + 5 * (e + 1) by omega]
    exact ih (e + 1) M1 (by omega) (by omega) s1 (by rw [← g]; exact funext fun j => f1 c5 j (by omega)) (fun M' f u => K M' (fun c j w => by rw [f c j w, f1 c j w]) u)
theorem l_er151 {z m : Nat} (hz : z + 5 * m ≤ 96) (hm : m ≤ 4) {s : SS} (hs : s.2.1 + m ≤ 5) {G : Nat → Int32} {v : Nat → Nat} (hG : ∀ e, e < m → ∀ k, k < 5 → G (z + 5 * e + k) = nI (v (5 * e + k))) {Q : Int32 → Mem → Prop} : ∀ d e M, m - e = d → e ≤ m → SM M (sN s v e) → M 208 = G → (∀ M', (∀ c j, ¬ ((c = 182 ∧ j = 17) ∨ c = 191) → M' c j = M c j) → SM M' (sN s v m) → Q (M' 182 17) M') → P_X10_errands_151 M (nI m) (nI z) (nI (z + 5 * e)) Q := by
  intro d
  induction d with
  | zero =>
    intro e M hd he S g K
    refine T_X10_errands_151 ?_
    rw [n_mul, n_add, n_le (by omega) (by omega)]
    have : e = m := by omega
    subst this
    exact ⟨fun _ => K M (fun _ _ _ => rfl) S, fun w => absurd (by omega) w⟩
  | succ d ih =>
    intro e M hd he S g K
    refine T_X10_errands_151 ?_
    rw [n_mul, n_add, n_le (by omega) (by omega)]
    refine ⟨fun w => absurd w (by omega), fun _ => ?_⟩
    have i0 := hG e (by omega) 0 (by omega)
    rw [Nat.add_zero, Nat.add_zero] at i0
    simp (disch := omega) only [n_add, vin, ix_n]
    rw [g, i0, hG e (by omega) 1 (by omega), hG e (by omega) 2 (by omega), hG e (by omega) 3 (by omega), hG e (by omega) 4 (by omega)]
    refine ⟨by omega, by omega, by omega, by omega, by omega, m_puts S (by rw [sN_n]; omega) (fun M1 f1 s1 => ?_)⟩
    rw [show z + 5 * e + 5 = z + 5 * (e + 1) by omega]
    exact ih (e + 1) M1 (by omega) (by omega) s1 (by rw [← g]; exact funext fun j => f1 208 j (by omega)) (fun M' f u => K M' (fun c j w => by rw [f c j w, f1 c j w]) u)
theorem erE_congr {R : Nat} {G G2 : Nat → Int32} {y z e : Nat} (h : ∀ q, q < 5 → G (y + 5 * e + q) = G2 (z + 5 * e + q)) : erE R G y e = erE R G2 z e := by
  have h0 := h 0 (by omega)
  rw [Nat.add_zero, Nat.add_zero] at h0
  unfold erE
  rw [h0, h 1 (by omega), h 2 (by omega), h 3 (by omega), h 4 (by omega)]
theorem b_errands {M : Mem} (C : Cpl M) (a1 a2 a3 a4 : Int32) : C_X9_errands M a1 a2 a3 a4 (fun r M1 => C_X10_errands M1 a1 a2 a3 a4 (fun r' M2 => r = r' ∧ Cpl M2)) := by
  obtain ⟨h, s, t, n, tp, x, kx, I, J, O⟩ := C
  have same : Cpl M := ⟨h, s, t, n, tp, x, kx, I, J, O⟩
  have OW := O.2.2.2.2.1
  have hR := O.1.1
  have hE := O.2.1.2.1
  have g4 : M 30 3 = nI s.2.1 := I.2.2.1.2.2.2.1
  refine s_errands I.2.2.2.2.2.1 OW (fun v e w => m_errands J.2.2.2.2.1 OW (fun v' e' _ => ⟨e.symm.trans e', same⟩) (fun e' => absurd (e.symm.trans e') w)) (fun e0 => ?_)
  obtain ⟨j, y, m, rfl, rfl, rfl, hj, hm1, hm4, z1⟩ := erV_0 OW e0
  rw [ix_n (by omega)]
  have hc : IA (90 + 1 + j) 24 := by
    have := ra_90.row (i := nI j) ((vin (by omega)).mpr hj)
    rw [ix_n (by omega)] at this; exact this
  have EX : ∀ e, e < m → ∀ k, k < 5 → M (90 + 1 + j) (y + 5 * e + k) = x.2.2 j (y + 5 * e + k) := fun e he k hk => by
    rw [show 90 + 1 + j = 91 + j by omega]; exact (I.2.2.2.2.2.1 j hj).2.2 _ (by omega)
  have EY : ∀ N, WM N x → ∀ e, e < m → ∀ k, k < 5 → N 208 (24 * j + y + 5 * e + k) = x.2.2 j (y + 5 * e + k) := fun N W e he k hk => by
    rw [show 24 * j + y + 5 * e + k = 24 * j + (y + 5 * e + k) by omega]; exact (W j hj).2.2 _ (by omega)
  have EC : ∀ k, k < m → erE h.1 (M (90 + 1 + j)) y k = erE h.1 (x.2.2 j) y k := fun k hk => erE_congr (EX k hk)
  have EM : ∀ N, WM N x → ∀ k, k < m → erE h.1 (N 208) (24 * j + y) k = erE h.1 (x.2.2 j) y k := fun N W k hk => erE_congr (EY N W k hk)
  have mst : ∀ (N : Mem) {A : Int32 → Mem → Prop}, IM N h s t n tp x kx → ((∃ k, k < m ∧ erE h.1 (x.2.2 j) y k = false) → A (-2) N) → ((∀ k, k < m → erE h.1 (x.2.2 j) y k = true) → ((s.2.1 + m ≤ 5 → P_X10_errands_151 N (nI m) (nI (24 * j + y)) (nI (24 * j + y)) A) ∧ (¬ s.2.1 + m ≤ 5 → A (-3) N))) → C_X10_errands N (nI j) a2 (nI y) (nI m) A := by
    intro N A JN k1 k2
    refine m_errands JN.2.2.2.2.1 OW (fun v e' w => absurd (e'.symm.trans e0) w) (fun _ => ?_)
    rw [n_mul, n_add]
    refine l_er62 (z := 24 * j + y) hR (by omega) (by omega) JN.1.1 _ 0 rfl (by omega) (fun ⟨k, hk, q⟩ => k1 ⟨k, hk, by rw [← EM N JN.2.2.2.2.1 k hk]; exact q⟩) (fun u => ?_)
    rw [JN.2.1.2.1, n_add, n_le (by omega) (by omega)]
    exact k2 (fun k hk => by rw [← EM N JN.2.2.2.2.1 k hk]; exact u k (by omega) hk)
  refine l_er99 hc hR z1 I.1.1 _ 0 rfl (by omega) (fun ⟨k, hk, q⟩ => mst M J (fun _ => ⟨rfl, same⟩) (fun u => absurd ((EC k hk).symm.trans q) (by rw [u k hk]; decide))) (fun u => ?_)
  have ok : ∀ k, k < m → erE h.1 (x.2.2 j) y k = true := fun k hk => by rw [← EC k hk]; exact u k (by omega) hk
  rw [g4, n_add, n_le (by omega) (by omega)]
  refine ⟨fun q => ?_, fun q => mst M J (fun ⟨k, hk, q2⟩ => absurd ((ok k hk).symm.trans q2) (by decide)) (fun _ => ⟨fun w => absurd w q, fun _ => ⟨rfl, same⟩⟩)⟩
  have VO : ∀ e, e < m → vOK h.1 (fun k => ix (x.2.2 j (y + k))) e := fun e he => (erE_v hR (ok e he)).1
  have VN : ∀ e, e < m → ∀ k, k < 5 → x.2.2 j (y + 5 * e + k) = nI (ix (x.2.2 j (y + (5 * e + k)))) := fun e he k hk => by
    rw [← Nat.add_assoc]; exact (erE_v hR (ok e he)).2 k hk
  refine l_er179 (s := s) (v := fun k => ix (x.2.2 j (y + k))) (G := M (90 + 1 + j)) hc (by omega) z1 q (fun e he k hk => (EX e he k hk).trans (VN e he k hk)) _ 0 M rfl (by omega) I.2.2.1 rfl (fun M0 f0 s0 => s_plansChanged (fun M1 f1 z2 z3 => ?_))
  have s1 : SC 30 M1 (sN s (fun k => ix (x.2.2 j (y + k))) m) := s0.congr (fun c j _ _ => f1 c j (by omega))
  have I1 := I.staff O s1 (fun c j q => by rw [f1 c j (by omega), f0 c j (by omega)]) z2 z3
  have J1 : IM M1 h s t n tp x kx := J.far (fun c k hc => by rw [f1 c k (by omega), f0 c k (by omega)])
  have O' : IO h (sN s (fun k => ix (x.2.2 j (y + k))) m) t n tp x kx := ⟨O.1, sN_O O.2.1 q VO m (by omega), O.2.2⟩
  refine mst M1 J1 (fun ⟨k, hk, q2⟩ => absurd ((ok k hk).symm.trans q2) (by decide)) (fun _ => ⟨fun _ => ?_, fun w => absurd q w⟩)
  refine l_er151 (z := 24 * j + y) (s := s) (v := fun k => ix (x.2.2 j (y + k))) (G := M1 208) (by omega) (by omega) q (fun e he k hk => (EY M1 J1.2.2.2.2.1 e he k hk).trans (VN e he k hk)) _ 0 M1 rfl (by omega) J1.2.1 rfl (fun M2 f2 s2 => ?_)
  refine ⟨?_, _, _, _, _, _, _, _, I1.far O' (fun c j hc => f2 c j (by omega)), J1.staff s2 (fun c j q => f2 c j (by omega)), O'⟩
  have e1 := s1.2.2.2.1
  have e2 := s2.2.1
  rw [e1, e2]
