/-! ===== the reference's table of ends ===== -/
theorem m1_toInt {m : Nat} (h : m < 1073741824) : (nI m + (-1)).toInt = (m : Int) - 1 := by
  have := pk_sub_toInt h (show 1 < 2 ^ 30 by omega)
  rw [show nI m + (-1) = nI m - nI 1 from by rw [Int32.sub_eq_add_neg]; rfl]
  exact this
theorem n_m1lt {m b : Nat} (h : m < 1073741824 ∧ b < 1073741824) : (nI m + (-1) < nI b) = (m ≤ b) := by
  rw [Int32.lt_iff_toInt_lt, m1_toInt h.1, nI_toInt (by omega)]
  exact propext (by omega)
theorem n_m1lt0 {m : Nat} (h : m < 1073741824) : (nI m + (-1) < 0) = (m = 0) := by
  rw [Int32.lt_iff_toInt_lt, m1_toInt h, Int32.toInt_zero]
  exact propext (by omega)
def edI (e : Nat) : Int32 := if e < 24 then nI e else -4
def LT (M : Mem) (h : HS) : Prop := ∀ (co : Bool) (a t b : Nat), a < h.1 → t < 24 → b < h.1 → M 188 (10 * ((if co then 240 else 0) + 10 * t + a) + b) = edI (ed h co a t b)
def LA (M : Mem) (h : HS) : Prop := M 182 13 = nI 0 ∨ (M 182 13 = nI 1 ∧ LT M h)
theorem LT.congr {M M' : Mem} {h : HS} (H : LT M h) (e : ∀ k, M' 188 k = M 188 k) : LT M' h := fun co a t b ha ht hb => by rw [e]; exact H co a t b ha ht hb
theorem LA.congr {M M' : Mem} {h : HS} (H : LA M h) (e : ∀ k, M' 188 k = M 188 k) (e2 : M' 182 13 = M 182 13) : LA M' h := by
  rcases H with h1 | ⟨h1, h2⟩
  · exact Or.inl (by rw [e2]; exact h1)
  · exact Or.inr ⟨by rw [e2]; exact h1, h2.congr e⟩
def kco (k : Nat) : Bool := decide (240 ≤ k)
theorem m_lays {h : HS} (O : HO h) {M0 : Mem} (H0 : HM M0 h) (L0 : LA M0 h) {Q : Mem → Prop}
    (K : ∀ M', (∀ c k, ¬ (c = 187 ∨ c = 188 ∨ (c = 182 ∧ k = 13)) → M' c k = M0 c k) → M' 182 13 = nI 1 → LT M' h → Q M') : C_X10_lays M0 Q := by
  have hR := O.1
  refine T_X10_lays ?_
  rcases L0 with z0 | ⟨z1, hT⟩
  case inr =>
    refine T_X10_lays_2 ?_
    simp (disch := omega) only [n_lt, n_le, n_eq, n_lt0, n_le0, n_ge0, n_gt0, n_eq0, n_add, n_mul, n_sub, n_m1, ix_n, vin, bI_0, bI_1, nT_le, nF_le, nT_lt, nF_lt, nT_eq, nF_eq, mk_test, true_imp_iff, false_imp_iff, not_true_eq_false, not_false_eq_true, true_and, and_true, tf_, ft_, eq_self, true_or, or_true, false_or, or_false, z1]
    refine K _ (fun c k hc => by rw [wr]; rw [if_neg (by omega)]) (wr_eq _ _ _ _) (hT.congr (fun k => wr_nc _ _ _ _ (by omega)))
  have good : ∀ M : Mem, (∀ c k, ¬ (c = 187 ∨ c = 188) → M c k = M0 c k) → HM M h := fun M f => H0.congr (fun c k q => f c k (by omega))
  have k102 : ∀ n to k t (M : Mem), to + n = h.1 → k < 480 → k % 10 < h.1 → k / 10 % 24 ≤ t → t < 24 → (∀ c j, ¬ (c = 187 ∨ c = 188) → M c j = M0 c j) → M 187 t = mk (rc h (kco k) (k % 10) (k / 10 % 24) (t - k / 10 % 24)) →
      (∀ b, b < h.1 → M 188 (10 * k + b) = if b < to then edI (lst (fun u => rc h (kco k) (k % 10) (k / 10 % 24) (u - k / 10 % 24) b) (24 - t) t) else edI (lst (fun u => rc h (kco k) (k % 10) (k / 10 % 24) (u - k / 10 % 24) b) (23 - t) (t + 1))) →
      (∀ M', (∀ c j, c ≠ 188 → M' c j = M c j) → (∀ j, j < 10 * k ∨ 10 * k + 10 ≤ j → M' 188 j = M 188 j) → (∀ b, b < h.1 → M' 188 (10 * k + b) = edI (lst (fun u => rc h (kco k) (k % 10) (k / 10 % 24) (u - k / 10 % 24) b) (24 - t) t)) → P_X10_lays_93 M' (nI k) (nI (k / 10 % 24)) (nI t + (-1)) Q) → P_X10_lays_102 M (nI k) (nI (k / 10 % 24)) (nI t) (nI to) Q := by
    intro n
    induction n with
    | zero =>
      intro to k t M hn hk hka htk ht hf h1 h2 K2
      have H := good M hf
      refine T_X10_lays_102 ?_
      have := K2 M (fun _ _ _ => rfl) (fun _ _ => rfl) (fun b hb => by rw [h2 b hb, if_pos (by omega)])
      simp (disch := omega) only [H.1, n_le, nT_le, true_imp_iff, not_true_eq_false, false_imp_iff, and_true]
      exact this
    | succ n ih =>
      intro to k t M hn hk hka htk ht hf h1 h2 K2
      have H := good M hf
      have h2t := h2 to (by omega)
      rw [if_neg (by omega)] at h2t
      have e24 : 24 - t = (23 - t) + 1 := by omega
      refine T_X10_lays_102 ?_
      simp (disch := omega) only [H.1, n_le, n_mul, n_add, ix_n, vin, nF_le, nT_lt, h1, h2t, mk_test, bI_1, true_imp_iff, not_true_eq_false, not_false_eq_true, false_imp_iff, and_true, true_and]
      have step : ∀ v, v = edI (lst (fun u => rc h (kco k) (k % 10) (k / 10 % 24) (u - k / 10 % 24) to) (24 - t) t) → P_X10_lays_102 (wr M 188 (10 * k + to) v) (nI k) (nI (k / 10 % 24)) (nI t) (nI (to + 1)) Q := by
        intro v hv
        refine ih (to + 1) k t _ (by omega) hk hka htk ht (fun c j hc => by rw [wr_nc _ _ _ _ (by omega)]; exact hf c j hc) (by rw [wr_nc _ _ _ _ (by omega)]; exact h1) (fun b hb => ?_) (fun M' f' g' w' => K2 M' (fun c j hc => by rw [f' c j hc, wr_nc _ _ _ _ hc]) (fun j hj => by rw [g' j hj, wr_nk _ _ _ _ (by omega)]) w')
        by_cases e : b = to
        · subst e; rw [wr_eq, if_pos (by omega), hv]
        · rw [wr_nk _ _ _ _ (by omega), h2 b hb]
          by_cases e2 : b < to
          · rw [if_pos e2, if_pos (by omega)]
          · rw [if_neg e2, if_neg (by omega)]
      refine ⟨fun q => step _ ?_, fun q => step _ ?_⟩
      · rw [e24]; simp only [lst]; rw [if_neg q]
      · rw [e24]; simp only [lst]; rw [if_pos q]; simp [edI, ht]
  have k93 : ∀ n m k (M : Mem), k / 10 % 24 + n = m → m ≤ 24 → k < 480 → k % 10 < h.1 → (∀ c j, ¬ (c = 187 ∨ c = 188) → M c j = M0 c j) → (∀ t, k / 10 % 24 ≤ t → t < 24 → M 187 t = mk (rc h (kco k) (k % 10) (k / 10 % 24) (t - k / 10 % 24))) →
      (∀ b, b < h.1 → M 188 (10 * k + b) = edI (lst (fun u => rc h (kco k) (k % 10) (k / 10 % 24) (u - k / 10 % 24) b) (24 - m) m)) →
      (∀ M', (∀ c j, ¬ (c = 187 ∨ c = 188) → M' c j = M0 c j) → (∀ j, j < 10 * k ∨ 10 * k + 10 ≤ j → M' 188 j = M 188 j) → (∀ b, b < h.1 → M' 188 (10 * k + b) = edI (ed h (kco k) (k % 10) (k / 10 % 24) b)) → P_X10_lays_2 M' (nI k + nI 1) Q) → P_X10_lays_93 M (nI k) (nI (k / 10 % 24)) (nI m + (-1)) Q := by
    intro n
    induction n with
    | zero =>
      intro m k M hm hm2 hk hka hf h1 h2 K2
      refine T_X10_lays_93 ?_
      rw [n_m1lt (by omega)]
      refine ⟨fun _ => K2 M hf (fun _ _ => rfl) (fun b hb => ?_), fun q => absurd (by omega) q⟩
      rw [h2 b hb, ← hm]
      rfl
    | succ n ih =>
      intro m k M hm hm2 hk hka hf h1 h2 K2
      refine T_X10_lays_93 ?_
      rw [n_m1lt (by omega)]
      refine ⟨fun q => by omega, fun _ => ?_⟩
      rw [n_m1 (by omega)]
      refine k102 h.1 0 k (m - 1) M (by omega) hk hka (by omega) (by omega) hf (h1 _ (by omega) (by omega)) (fun b hb => ?_) (fun M' f' g' w' => ?_)
      · rw [if_neg (by omega), h2 b hb, show 23 - (m - 1) = 24 - m by omega, show m - 1 + 1 = m by omega]
      · exact ih (m - 1) k M' (by omega) (by omega) hk hka (fun c j hc => by rw [f' c j (by omega)]; exact hf c j hc) (fun t q1 q2 => by rw [f' _ _ (by omega)]; exact h1 t q1 q2) w' (fun M2 f2 g2 w2 => K2 M2 f2 (fun j hj => by rw [g2 j hj, g' j hj]) w2)
  have k46 : ∀ n j k (M : Mem), j + n = 10 → k < 480 → (∀ c j, ¬ (c = 187 ∨ c = 188) → M c j = M0 c j) → (∀ i, i < j → M 188 (10 * k + i) = -4) →
      (∀ M', (∀ c j, ¬ (c = 187 ∨ c = 188) → M' c j = M0 c j) → (∀ j, j < 10 * k ∨ 10 * k + 10 ≤ j → M' 188 j = M 188 j) → (k % 10 < h.1 → ∀ b, b < h.1 → M' 188 (10 * k + b) = edI (ed h (kco k) (k % 10) (k / 10 % 24) b)) → P_X10_lays_2 M' (nI k + nI 1) Q) → P_X10_lays_46 M (nI k) (nI (k % 10)) (nI (k / 10 % 24)) (bI (kco k)) (nI j) Q := by
    intro n
    induction n with
    | zero =>
      intro j k M hj hk hf h1 K2
      have H := good M hf
      refine T_X10_lays_46 ?_
      simp (disch := omega) only [H.1, n_le, nT_le, true_imp_iff, not_true_eq_false, false_imp_iff, and_true]
      refine ⟨fun q => K2 M hf (fun _ _ => rfl) (fun q2 => absurd q2 (by omega)), fun q => ?_⟩
      refine m_reaches O H (by omega) (by omega) (fun M' f' w' => ?_)
      have := k93 (24 - k / 10 % 24) 24 k M' (by omega) (by omega) hk (by omega) (fun c j hc => by rw [f' c j (by omega)]; exact hf c j hc) w' (fun b hb => by rw [f' _ _ (by omega), h1 b (by omega)]; rfl) (fun M2 f2 g2 w2 => K2 M2 f2 (fun j hj => by rw [g2 j hj, f' _ _ (by omega)]) (fun _ => w2))
      rw [n_m1 (by omega)] at this
      exact this
    | succ n ih =>
      intro j k M hj hk hf h1 K2
      refine T_X10_lays_46 ?_
      simp (disch := omega) only [n_le, n_mul, n_add, ix_n, vin, nF_le, nT_lt, true_imp_iff, not_false_eq_true, false_imp_iff, and_true, true_and]
      refine ih (j + 1) k _ (by omega) hk (fun c i hc => by rw [wr_nc _ _ _ _ (by omega)]; exact hf c i hc) (fun i hi => ?_) (fun M' f' g' w' => ?_)
      · by_cases e : i = j
        · subst e; exact wr_eq _ _ _ _
        · rw [wr_nk _ _ _ _ (by omega)]; exact h1 i (by omega)
      · exact K2 M' f' (fun i hi => by rw [g' i hi, wr_nk _ _ _ _ (by omega)]) w'
  have k2 : ∀ n k (M : Mem), k + n = 480 → (∀ c j, ¬ (c = 187 ∨ c = 188) → M c j = M0 c j) → (∀ k', k' < k → k' % 10 < h.1 → ∀ b, b < h.1 → M 188 (10 * k' + b) = edI (ed h (kco k') (k' % 10) (k' / 10 % 24) b)) → P_X10_lays_2 M (nI k) Q := by
    intro n
    induction n with
    | zero =>
      intro k M hk hf hT
      refine T_X10_lays_2 ?_
      simp (disch := omega) only [n_le, nT_le, true_imp_iff, not_true_eq_false, false_imp_iff, and_true]
      refine K _ (fun c j hc => ?_) (wr_eq _ _ _ _) (fun co a t b ha ht hb => ?_)
      · rw [wr, if_neg (by omega)]; exact hf c j (by omega)
      · rw [wr_nc _ _ _ _ (by omega)]
        cases co
        · have := hT (10 * t + a) (by omega) (by omega) b hb
          rw [show (10 * t + a) % 10 = a by omega, show (10 * t + a) / 10 % 24 = t by omega, show kco (10 * t + a) = false from decide_eq_false (by omega)] at this
          simp only [Bool.false_eq_true, if_false, Nat.zero_add]
          exact this
        · have := hT (240 + 10 * t + a) (by omega) (by omega) b hb
          rw [show (240 + 10 * t + a) % 10 = a by omega, show (240 + 10 * t + a) / 10 % 24 = t by omega, show kco (240 + 10 * t + a) = true from decide_eq_true (by omega)] at this
          simp only [if_true]
          exact this
    | succ n ih =>
      intro k M hk hf hT
      have e0 : M 182 13 = nI 0 := by rw [hf 182 13 (by omega)]; exact z0
      have go : P_X10_lays_46 M (nI k) (nI (k % 10)) (nI (k / 10 % 24)) (bI (kco k)) (nI 0) Q := by
        refine k46 10 0 k M (by omega) (by omega) hf (fun i hi => by omega) (fun M' f' g' w' => ?_)
        rw [n_add]
        refine ih (k + 1) M' (by omega) f' (fun k' hk' ha b hb => ?_)
        by_cases e : k' = k
        · subst e; exact w' ha b hb
        · rw [g' _ (by omega)]
          exact hT k' (by omega) ha b hb
      refine T_X10_lays_2 ?_
      rw [n_r (a := k) (d := 10) (by omega), n_d (a := k) (d := 10) (by omega), n_r (by omega)]
      simp (disch := omega) only [e0, n_le, n_lt, n_eq0, nF_le, true_imp_iff, not_true_eq_false, not_false_eq_true, false_imp_iff, true_and, and_true]
      refine ⟨fun q => ?_, fun q => ?_⟩
      · rw [show kco k = false from decide_eq_false (by omega)] at go; exact go
      · rw [show kco k = true from decide_eq_true (by omega)] at go; exact go
  exact k2 480 0 M0 (by omega) (fun _ _ _ => rfl) (fun k' hk' => by omega)
theorem m_endOf {h : HS} (O : HO h) {M : Mem} (T : LT M h) {co : Bool} {a t b : Nat} (ha : a < h.1) (ht : t < 24) (hb : b < h.1) {Q : Int32 → Mem → Prop} (k : Q (edI (ed h co a t b)) M) : C_X10_endOf M (nI a) (nI t) (nI b) (bI co) Q := by
  have hR := O.1
  have e := T co a t b ha ht hb
  refine T_X10_endOf (br (fun q => ?_) (fun q => ?_))
  · subst q
    simp only [Bool.false_eq_true, if_false, Nat.zero_add] at e
    simp (disch := omega) only [n_mul, n_add, ix_n, vin, nT_lt, true_and, Nat.zero_add, e]
    exact k
  · subst q
    simp only [if_true] at e
    simp (disch := omega) only [n_mul, n_add, ix_n, vin, nT_lt, true_and, e]
    exact k
