/-! ===== taking back a saying, dropping an errand ===== -/
theorem ic {α : Type} {p q : Prop} [Decidable p] [Decidable q] (h : p ↔ q) (a b : α) : (if p then a else b) = if q then a else b := by
  by_cases w : p
  · rw [if_pos w, if_pos (h.mp w)]
  · rw [if_neg w, if_neg (fun v => w (h.mpr v))]
def rm (k e : Nat) : Nat := if e < k then e else e + 1
theorem rm_lt {k e : Nat} (h : e < k) : rm k e = e := if_pos h
theorem rm_ge {k e : Nat} (h : k ≤ e) : rm k e = e + 1 := if_neg (by omega)
theorem rm_le (k e n : Nat) (h : e + 1 < n) : rm k e < n := by unfold rm; split <;> omega
theorem l_removeSaying {n k : Nat} (hn : n ≤ 11) (hk : k ≤ n) (g : Nat → Nat → Int32) {Q : Mem → Prop} : ∀ d i M, n - i = d → k ≤ i → i ≤ n → M 37 1 = nI n → (∀ q, q < 4 → ∀ e, e < n + 1 → M (39 + q) e = if e < i then g q (rm k e) else g q e) →
    (∀ M', (∀ c j, ¬ (39 ≤ c ∧ c ≤ 42) → M' c j = M c j) → (∀ q, q < 4 → ∀ e, e < n → M' (39 + q) e = g q (rm k e)) → Q M') → P_X6_removeSaying_37_12 M (nI i) Q := by
  intro d
  induction d with
  | zero =>
    intro i M hd h1 h2 g1 g2 K
    refine T_X6_removeSaying_37_12 ?_
    rw [g1, n_le (by omega) (by omega)]
    refine ⟨fun _ => K M (fun _ _ _ => rfl) (fun q hq e he => ?_), fun w => absurd (by omega) w⟩
    rw [g2 q hq e (by omega), if_pos (by omega)]
  | succ d ih =>
    intro i M hd h1 h2 g1 g2 K
    refine T_X6_removeSaying_37_12 ?_
    rw [g1, n_le (by omega) (by omega)]
    refine ⟨fun w => absurd w (by omega), fun _ => ?_⟩
    simp (disch := omega) only [n_add, vin, ix_n]
    refine ⟨by omega, by omega, ih (i + 1) _ (by omega) (by omega) (by omega) (by rw [wr_nc _ _ _ _ (by omega), wr_nc _ _ _ _ (by omega), wr_nc _ _ _ _ (by omega), wr_nc _ _ _ _ (by omega)]; exact g1) (fun q hq e he => ?_) (fun M' f u => K M' (fun c j w => by rw [f c j w]; exact (by simp only [wr]; repeat rw [if_neg (by omega)])) u)⟩
    have s0 := g2 q hq (i + 1) (by omega)
    rw [if_neg (by omega)] at s0
    by_cases e1 : e = i
    · subst e1
      rw [if_pos (by omega), rm_ge h1, ← s0]
      rcases (show q = 0 ∨ q = 1 ∨ q = 2 ∨ q = 3 by omega) with w | w | w | w <;> subst w <;> simp [wr]
    · have s1 := g2 q hq e he
      rw [ic (q := e < i) (by omega), ← s1]
      simp only [wr]
      rw [if_neg (by omega), if_neg (by omega), if_neg (by omega), if_neg (by omega)]
def tdel (t : TS) (k : Nat) : TS := (t.1, t.2.1, t.2.2.1 - 1, fun e j => t.2.2.2.1 (rm k e) j, t.2.2.2.2)
theorem TO.del {t : TS} {R : Nat} (O : TO t R) (k : Nat) : TO (tdel t k) R :=
  ⟨O.1, by have := O.2.1; show t.2.2.1 - 1 ≤ 12; omega, O.2.2.1, fun e he => O.2.2.2.1 (rm k e) (rm_le k e _ (by have he' : e < t.2.2.1 - 1 := he; omega)), O.2.2.2.2⟩
theorem s_removeSaying {t : TS} {M : Mem} (H : TC 37 M t) (hY : t.2.2.1 ≤ 12) {k : Nat} (hk : k < t.2.2.1) {Q : Mem → Prop} (K : ∀ M', (∀ c j, ¬ (37 ≤ c ∧ c ≤ 42) → M' c j = M c j) → TC 37 M' (tdel t k) → Q M') : C_X6_removeSaying_37 M (nI k) Q := by
  obtain ⟨g1, g2, g3, g4, g5, g6⟩ := H
  have g2 : M 37 1 = nI t.2.2.1 := g2
  refine T_X6_removeSaying_37 ?_
  rw [g2, n_sub (by omega)]
  refine l_removeSaying (n := t.2.2.1 - 1) (k := k) (by omega) (by omega) (fun q e => M (39 + q) e) _ k _ rfl (by omega) (by omega) (wr_eq _ _ _ _) (fun q hq e he => ?_) (fun M' f u => ?_)
  · rw [wr_nc _ _ _ _ (by omega)]
    split
    · rename_i w; rw [rm_lt w]
    · rfl
  · refine K M' (fun c j w => by rw [f c j (by omega)]; exact (by simp only [wr]; repeat rw [if_neg (by omega)])) ⟨by rw [f _ _ (by omega), wr_nk _ _ _ _ (by omega)]; exact g1, by rw [f _ _ (by omega), wr_eq]; rfl, by rw [f _ _ (by omega), wr_nk _ _ _ _ (by omega)]; exact g3, by rw [f _ _ (by omega), f _ _ (by omega), f _ _ (by omega), wr_nk _ _ _ _ (by omega), wr_nk _ _ _ _ (by omega), wr_nk _ _ _ _ (by omega)]; exact g4, fun i hi => by rw [f _ _ (by omega), wr_nc _ _ _ _ (by omega)]; exact g5 i hi, fun e he j hj => ?_⟩
    have he' : e < t.2.2.1 - 1 := he
    rw [show 37 + 2 + j = 39 + j by omega, u j hj e he']
    exact g6 (rm k e) (rm_le k e _ (by omega)) j hj
theorem l_unsay {n k : Nat} (hn : n ≤ 11) (hk : k ≤ n) (G : Nat → Int32) {Q : Int32 → Mem → Prop} : ∀ d i M, 4 * n - i = d → 4 * k ≤ i → i ≤ 4 * n → M 182 30 = nI n → (∀ y, y < 4 * n + 4 → M 201 y = if 4 * k ≤ y ∧ y < i then G (y + 4) else G y) →
    (∀ M', (∀ c j, c ≠ 201 → M' c j = M c j) → (∀ y, y < 4 * n → M' 201 y = if 4 * k ≤ y then G (y + 4) else G y) → Q (nI n) M') → P_X10_unsay_32 M (nI i) Q := by
  intro d
  induction d with
  | zero =>
    intro i M hd h1 h2 g1 g2 K
    refine T_X10_unsay_32 ?_
    rw [g1, n_mul, n_le (by omega) (by omega)]
    refine ⟨fun _ => K M (fun _ _ _ => rfl) (fun y hy => ?_), fun w => absurd (by omega) w⟩
    rw [g2 y (by omega)]; exact ic (by omega) _ _
  | succ d ih =>
    intro i M hd h1 h2 g1 g2 K
    refine T_X10_unsay_32 ?_
    rw [g1, n_mul, n_le (by omega) (by omega)]
    refine ⟨fun w => absurd w (by omega), fun _ => ?_⟩
    simp (disch := omega) only [n_add, vin, ix_n]
    refine ⟨by omega, by omega, ih (i + 1) _ (by omega) (by omega) (by omega) (by rw [wr_nc _ _ _ _ (by omega)]; exact g1) (fun y hy => ?_) (fun M' f u => K M' (fun c j w => by rw [f c j w]; exact (by simp only [wr]; repeat rw [if_neg (by omega)])) u)⟩
    by_cases e1 : y = i
    · subst e1
      rw [wr_eq, g2 (y + 4) (by omega), if_neg (by omega), if_pos (by omega)]
    · rw [wr_nk _ _ _ _ (by omega), g2 y hy]; exact ic (by omega) _ _
theorem b_unsay {M : Mem} (C : Cpl M) (a : Int32) : C_X9_unsay M a (fun r M1 => C_X10_unsay M1 a (fun r' M2 => r = r' ∧ Cpl M2)) := by
  obtain ⟨h, s, t, n, tp, x, kx, I, J, O⟩ := C
  have hY := O.2.2.1.2.1
  have same : Cpl M := ⟨h, s, t, n, tp, x, kx, I, J, O⟩
  have g2 : M 37 1 = nI t.2.2.1 := I.2.2.2.1.2.1
  have bad : okN a t.2.2.1 = false → C_X10_unsay M a (fun r' M2 => (-1 : Int32) = r' ∧ Cpl M2) := by
    intro q
    refine T_X10_unsay (s_in ?_)
    rw [J.2.2.1.2.1, in_ok a (by omega), q]
    exact ⟨fun w => absurd nI_0 w, fun _ => ⟨rfl, same⟩⟩
  rcases ok_case a (n := t.2.2.1) (by omega) with ⟨q, q2⟩ | ⟨k, hk, rfl, q⟩
  · refine T_X9_unsay ⟨fun _ => bad q, fun w => ⟨fun w2 => ?_, fun _ => bad q⟩⟩
    exfalso
    rw [g2] at w2
    rcases q2 with q2 | q2
    · exact w q2
    · rw [Int32.le_iff_toInt_le] at q2
      rw [Int32.lt_iff_toInt_lt] at w2
      omega
  · refine T_X9_unsay ⟨fun w => absurd w (nI_pos (by omega)), fun _ => ?_⟩
    rw [g2, n_lt (by omega) (by omega)]
    refine ⟨fun _ => s_removeSaying I.2.2.2.1 hY hk (fun M1 f1 s1 => ?_), fun w => absurd hk w⟩
    have I1 := I.talk O s1 f1
    have J1 : IM M1 h s t n tp x kx := J.far (fun c k hc => f1 c k (by omega))
    have O' : IO h s (tdel t k) n tp x kx := ⟨O.1, O.2.1, O.2.2.1.del k, O.2.2.2⟩
    have e1 : M1 37 1 = nI (t.2.2.1 - 1) := s1.2.1
    obtain ⟨v1, v2, v3, v4, v5, v6⟩ := J1.2.2.1
    have v2 : M1 182 30 = nI t.2.2.1 := v2
    refine T_X10_unsay (s_in ?_)
    rw [v2, in_ok _ (by omega), q, e1]
    refine ⟨fun _ => ?_, fun w => absurd w (by decide)⟩
    have e2 : nI t.2.2.1 - nI 1 = nI (t.2.2.1 - 1) := n_sub (by omega)
    rw [e2, n_mul]
    refine l_unsay (n := t.2.2.1 - 1) (k := k) (by omega) (by omega) (M1 201) _ (4 * k) _ rfl (by omega) (by omega) (wr_eq _ _ _ _) (fun y hy => ?_) (fun M2 f2 u2 => ?_)
    · rw [wr_nc _ _ _ _ (by omega), if_neg (by omega)]
    · refine ⟨rfl, _, _, _, _, _, _, _, I1.far O' (fun c j hc => by rw [f2 _ _ (by omega), wr_nc _ _ _ _ (by omega)]), J1.talk ⟨by rw [f2 _ _ (by omega), wr_nk _ _ _ _ (by omega)]; exact v1, by rw [f2 _ _ (by omega), wr_eq]; rfl, by rw [f2 _ _ (by omega), wr_nk _ _ _ _ (by omega)]; exact v3, by rw [f2 _ _ (by omega), f2 _ _ (by omega), wr_nk _ _ _ _ (by omega), wr_nk _ _ _ _ (by omega)]; exact v4, fun i hi => by rw [f2 _ _ (by omega), wr_nc _ _ _ _ (by omega)]; exact v5 i hi, fun e he j hj => ?_⟩ (fun c j q => by rw [f2 _ _ (by omega)]; exact (by simp only [wr]; repeat rw [if_neg (by omega)])), O'⟩
      have he' : e < t.2.2.1 - 1 := he
      rw [u2 _ (by omega)]
      have v := v6 (rm k e) (rm_le k e _ (by omega)) j hj
      show _ = nI (t.2.2.2.1 (rm k e) j)
      rw [← v]
      by_cases w : e < k
      · rw [rm_lt w, if_neg (by omega)]
      · rw [rm_ge (by omega), if_pos (by omega), show 4 * e + j + 4 = 4 * (e + 1) + j by omega]
theorem l_removeErrand {n k : Nat} (hn : n ≤ 4) (hk : k ≤ n) (g : Nat → Nat → Int32) {Q : Mem → Prop} : ∀ d i M, n - i = d → k ≤ i → i ≤ n → M 30 3 = nI n → (∀ q, q < 5 → ∀ e, e < n + 1 → M (32 + q) e = if e < i then g q (rm k e) else g q e) →
    (∀ M', (∀ c j, ¬ (32 ≤ c ∧ c ≤ 36) → M' c j = M c j) → (∀ q, q < 5 → ∀ e, e < n → M' (32 + q) e = g q (rm k e)) → Q M') → P_X5_removeErrand_30_12 M (nI i) Q := by
  intro d
  induction d with
  | zero =>
    intro i M hd h1 h2 g1 g2 K
    refine T_X5_removeErrand_30_12 ?_
    rw [g1, n_le (by omega) (by omega)]
    refine ⟨fun _ => K M (fun _ _ _ => rfl) (fun q hq e he => ?_), fun w => absurd (by omega) w⟩
    rw [g2 q hq e (by omega), if_pos (by omega)]
  | succ d ih =>
    intro i M hd h1 h2 g1 g2 K
    refine T_X5_removeErrand_30_12 ?_
    rw [g1, n_le (by omega) (by omega)]
    refine ⟨fun w => absurd w (by omega), fun _ => ?_⟩
    simp (disch := omega) only [n_add, vin, ix_n]
    refine ⟨by omega, by omega, ih (i + 1) _ (by omega) (by omega) (by omega) (by rw [wr_nc _ _ _ _ (by omega), wr_nc _ _ _ _ (by omega), wr_nc _ _ _ _ (by omega), wr_nc _ _ _ _ (by omega), wr_nc _ _ _ _ (by omega)]; exact g1) (fun q hq e he => ?_) (fun M' f u => K M' (fun c j w => by rw [f c j w]; exact (by simp only [wr]; repeat rw [if_neg (by omega)])) u)⟩
    have s0 := g2 q hq (i + 1) (by omega)
    rw [if_neg (by omega)] at s0
    by_cases e1 : e = i
    · subst e1
      rw [if_pos (by omega), rm_ge h1, ← s0]
      rcases (show q = 0 ∨ q = 1 ∨ q = 2 ∨ q = 3 ∨ q = 4 by omega) with w | w | w | w | w <;> subst w <;> simp [wr]
    · have s1 := g2 q hq e he
      rw [ic (q := e < i) (by omega), ← s1]
      simp only [wr]
      rw [if_neg (by omega), if_neg (by omega), if_neg (by omega), if_neg (by omega), if_neg (by omega)]
def sdel (s : SS) (k : Nat) : SS := (s.1, s.2.1 - 1, s.2.2.1, s.2.2.2.1, s.2.2.2.2.1, fun e j => s.2.2.2.2.2 (rm k e) j)
theorem SO.del {s : SS} {R : Nat} (O : SO s R) (k : Nat) : SO (sdel s k) R :=
  ⟨O.1, by have := O.2.1; show s.2.1 - 1 ≤ 5; omega, by
    rcases O.2.2.1 with w | w
    · exact Or.inl w
    · refine Or.inr ⟨w.1, w.2.1, ?_⟩
      have := w.2.2
      show s.2.1 - 1 = 0; omega, O.2.2.2.1, fun e he => O.2.2.2.2 (rm k e) (rm_le k e _ (by have he' : e < s.2.1 - 1 := he; omega))⟩
theorem s_removeErrand {s : SS} {M : Mem} (H : SC 30 M s) (hE : s.2.1 ≤ 5) {k : Nat} (hk : k < s.2.1) {Q : Mem → Prop} (K : ∀ M', (∀ c j, ¬ (30 ≤ c ∧ c ≤ 36) → M' c j = M c j) → SC 30 M' (sdel s k) → Q M') : C_X5_removeErrand_30 M (nI k) Q := by
  obtain ⟨g1, g2, g3, g4, g5, g6⟩ := H
  have g4 : M 30 3 = nI s.2.1 := g4
  refine T_X5_removeErrand_30 ?_
  rw [g4, n_sub (by omega)]
  refine l_removeErrand (n := s.2.1 - 1) (k := k) (by omega) (by omega) (fun q e => M (32 + q) e) _ k _ rfl (by omega) (by omega) (wr_eq _ _ _ _) (fun q hq e he => ?_) (fun M' f u => ?_)
  · rw [wr_nc _ _ _ _ (by omega)]
    split
    · rename_i w; rw [rm_lt w]
    · rfl
  · refine K M' (fun c j w => by rw [f c j (by omega)]; exact (by simp only [wr]; repeat rw [if_neg (by omega)])) ⟨by rw [f _ _ (by omega), wr_nk _ _ _ _ (by omega)]; exact g1, by rw [f _ _ (by omega), wr_nk _ _ _ _ (by omega)]; exact g2, by rw [f _ _ (by omega), wr_nk _ _ _ _ (by omega)]; exact g3, by rw [f _ _ (by omega), wr_eq]; rfl, fun i hi => by rw [f _ _ (by omega), wr_nc _ _ _ _ (by omega)]; exact g5 i hi, fun e he j hj => ?_⟩
    have he' : e < s.2.1 - 1 := he
    rw [show 30 + 2 + j = 32 + j by omega, u j hj e he']
    exact g6 (rm k e) (rm_le k e _ (by omega)) j hj
theorem l_drop {n k : Nat} (hn : n ≤ 4) (hk : k ≤ n) (G : Nat → Int32) {Q : Int32 → Mem → Prop} : ∀ d i M, 5 * n - i = d → 5 * k ≤ i → i ≤ 5 * n → M 182 17 = nI n → (∀ y, y < 5 * n + 5 → M 191 y = if 5 * k ≤ y ∧ y < i then G (y + 5) else G y) →
    (∀ M', (∀ c j, c ≠ 191 → M' c j = M c j) → (∀ y, y < 5 * n → M' 191 y = if 5 * k ≤ y then G (y + 5) else G y) → Q (nI n) M') → P_X10_drop_32 M (nI i) Q := by
  intro d
  induction d with
  | zero =>
    intro i M hd h1 h2 g1 g2 K
    refine T_X10_drop_32 ?_
    rw [g1, n_mul, n_le (by omega) (by omega)]
    refine ⟨fun _ => K M (fun _ _ _ => rfl) (fun y hy => ?_), fun w => absurd (by omega) w⟩
    rw [g2 y (by omega)]; exact ic (by omega) _ _
  | succ d ih =>
    intro i M hd h1 h2 g1 g2 K
    refine T_X10_drop_32 ?_
    rw [g1, n_mul, n_le (by omega) (by omega)]
    refine ⟨fun w => absurd w (by omega), fun _ => ?_⟩
    simp (disch := omega) only [n_add, vin, ix_n]
    refine ⟨by omega, by omega, ih (i + 1) _ (by omega) (by omega) (by omega) (by rw [wr_nc _ _ _ _ (by omega)]; exact g1) (fun y hy => ?_) (fun M' f u => K M' (fun c j w => by rw [f c j w]; exact (by simp only [wr]; repeat rw [if_neg (by omega)])) u)⟩
    by_cases e1 : y = i
    · subst e1
      rw [wr_eq, g2 (y + 5) (by omega), if_neg (by omega), if_pos (by omega)]
    · rw [wr_nk _ _ _ _ (by omega), g2 y hy]; exact ic (by omega) _ _
theorem b_drop {M : Mem} (C : Cpl M) (a : Int32) : C_X9_drop M a (fun r M1 => C_X10_drop M1 a (fun r' M2 => r = r' ∧ Cpl M2)) := by
  obtain ⟨h, s, t, n, tp, x, kx, I, J, O⟩ := C
  have hE := O.2.1.2.1
  have same : Cpl M := ⟨h, s, t, n, tp, x, kx, I, J, O⟩
  have g4 : M 30 3 = nI s.2.1 := I.2.2.1.2.2.2.1
  refine T_X9_drop (s_hasErrand g4 hE (br' (fun q => ?_) (fun q => ?_)))
  · refine T_X10_drop (s_in ?_)
    rw [J.2.1.2.1, in_ok a (by omega), q]
    exact ⟨fun w => absurd nI_0 w, fun _ => ⟨rfl, same⟩⟩
  · obtain ⟨k, hk, rfl⟩ := okN_t (by omega) q
    refine s_removeErrand I.2.2.1 hE hk (fun M0 f0 s0 => s_plansChanged (fun M1 f1 z1 z2 => ?_))
    have s1 : SC 30 M1 (sdel s k) := s0.congr (fun c j _ _ => f1 c j (by omega))
    have I1 := I.staff O s1 (fun c j q => by rw [f1 c j (by omega), f0 c j (by omega)]) z1 z2
    have J1 : IM M1 h s t n tp x kx := J.far (fun c k hc => by rw [f1 c k (by omega), f0 c k (by omega)])
    have O' : IO h (sdel s k) t n tp x kx := ⟨O.1, O.2.1.del k, O.2.2⟩
    have e1 : M1 30 3 = nI (s.2.1 - 1) := s1.2.2.2.1
    obtain ⟨v1, v2, v3, v4, v5⟩ := J1.2.1
    have v2 : M1 182 17 = nI s.2.1 := v2
    refine T_X10_drop (s_in ?_)
    rw [v2, in_ok _ (by omega), q, e1]
    refine ⟨fun _ => ?_, fun w => absurd w (by decide)⟩
    have e2 : nI s.2.1 - nI 1 = nI (s.2.1 - 1) := n_sub (by omega)
    rw [e2, n_mul]
    refine l_drop (n := s.2.1 - 1) (k := k) (by omega) (by omega) (M1 191) _ (5 * k) _ rfl (by omega) (by omega) (wr_eq _ _ _ _) (fun y hy => ?_) (fun M2 f2 u2 => ?_)
    · rw [wr_nc _ _ _ _ (by omega), if_neg (by omega)]
    · refine ⟨rfl, _, _, _, _, _, _, _, I1.far O' (fun c j hc => by rw [f2 _ _ (by omega), wr_nc _ _ _ _ (by omega)]), J1.staff ⟨by rw [f2 _ _ (by omega), wr_nk _ _ _ _ (by omega)]; exact v1, by rw [f2 _ _ (by omega), wr_eq]; rfl, by rw [f2 _ _ (by omega), wr_nk _ _ _ _ (by omega)]; exact v3, fun i hi => by rw [f2 _ _ (by omega), f2 _ _ (by omega), wr_nc _ _ _ _ (by omega), wr_nc _ _ _ _ (by omega)]; exact v4 i hi, fun e he j hj => ?_⟩ (fun c j q => by rw [f2 _ _ (by omega)]; exact (by simp only [wr]; repeat rw [if_neg (by omega)])), O'⟩
      have he' : e < s.2.1 - 1 := he
      rw [u2 _ (by omega)]
      have v := v5 (rm k e) (rm_le k e _ (by omega)) j hj
      show _ = nI (s.2.2.2.2.2 (rm k e) j)
      rw [← v]
      by_cases w : e < k
      · rw [rm_lt w, if_neg (by omega)]
      · rw [rm_ge (by omega), if_pos (by omega), show 5 * e + j + 5 = 5 * (e + 1) + j by omega]
