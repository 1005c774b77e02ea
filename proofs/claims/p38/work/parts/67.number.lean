/-! ===== a number on the tape ===== -/
def isD (n : Nat) (tp : Nat → Nat) (p : Nat) : Bool := decide (p < n ∧ 48 ≤ tp p ∧ tp p ≤ 57)
def dnx (a t : Nat) : Nat := if a ≤ 999 then 10 * a + (t - 48) else a
def dgf (n : Nat) (tp : Nat → Nat) : Nat → Nat → Nat → Nat × Nat
  | 0, p, a => (p, a)
  | d + 1, p, a => if isD n tp p = true then dgf n tp d (p + 1) (dnx a (tp p)) else (p, a)
def dgs (n : Nat) (tp : Nat → Nat) (p a : Nat) : Nat × Nat := dgf n tp (n - p) p a
theorem isD_lt {n : Nat} {tp : Nat → Nat} {p : Nat} (h : isD n tp p = true) : p < n ∧ 48 ≤ tp p ∧ tp p ≤ 57 := of_decide_eq_true h
theorem dgs_yes {n : Nat} {tp : Nat → Nat} {p a : Nat} (h : isD n tp p = true) : dgs n tp p a = dgs n tp (p + 1) (dnx a (tp p)) := by
  have := (isD_lt h).1
  unfold dgs
  rw [show n - p = (n - (p + 1)) + 1 by omega]
  show (if isD n tp p = true then _ else _) = _
  rw [if_pos h]
theorem dgs_no {n : Nat} {tp : Nat → Nat} {p a : Nat} (h : isD n tp p = false) : dgs n tp p a = (p, a) := by
  unfold dgs
  cases n - p with
  | zero => rfl
  | succ d =>
    show (if isD n tp p = true then _ else _) = _
    rw [if_neg (by rw [h]; decide)]
theorem dnx_lt {a t : Nat} (h : a < 10000) (h1 : 48 ≤ t) (h2 : t ≤ 57) : dnx a t < 10000 := by unfold dnx; split <;> omega
theorem dgs_bd {n : Nat} {tp : Nat → Nat} : ∀ d p a, n - p = d → p ≤ n → p ≤ (dgs n tp p a).1 ∧ (dgs n tp p a).1 ≤ n := by
  intro d
  induction d with
  | zero =>
    intro p a hd hp
    rw [dgs_no (decide_eq_false (by omega))]; exact ⟨Nat.le_refl _, hp⟩
  | succ d ih =>
    intro p a hd hp
    cases h : isD n tp p with
    | false => rw [dgs_no h]; exact ⟨Nat.le_refl _, hp⟩
    | true => rw [dgs_yes h]; have := ih (p + 1) (dnx a (tp p)) (by omega) (by omega); omega
def cva (b : Bool) (a : Nat) : Int32 := if b = true then nI (min 1000 a) else -1
theorem cva_max {b : Bool} {a : Nat} (ha : a < 10000) (h : b = false → a = 0) : jmax (cva b a) (nI 0) = nI (min 1000 a) := by
  cases b with
  | false => rw [h rfl]; decide
  | true =>
    show jmax (nI (min 1000 a)) (nI 0) = _
    rw [n_max (by omega), Nat.max_eq_left (by omega)]
def inB (lo hi v : Nat) : Bool := decide (lo ≤ v ∧ v ≤ hi)
theorem cva_end {b : Bool} {a lo hi : Nat} (hh : hi ≤ 24) (ha : a < 10000) {Q : Int32 → Mem → Prop} {M : Mem} (k : Q (if (b && inB lo hi a) = true then nI a else -1) M) (hlo : lo ≤ 1) : (cva b a < nI lo → Q (-1) M) ∧ (¬ cva b a < nI lo → (cva b a ≤ nI hi → Q (cva b a) M) ∧ (¬ cva b a ≤ nI hi → Q (-1) M)) := by
  cases b with
  | false =>
    rw [if_neg (by rw [Bool.false_and]; decide)] at k
    exact ⟨fun _ => k, fun _ => ⟨fun _ => k, fun _ => k⟩⟩
  | true =>
    show (nI (min 1000 a) < nI lo → _) ∧ (¬ nI (min 1000 a) < nI lo → (nI (min 1000 a) ≤ nI hi → Q (nI (min 1000 a)) M) ∧ (¬ nI (min 1000 a) ≤ nI hi → _))
    rw [n_lt (by omega) (by omega), n_le (by omega) (by omega)]
    refine ⟨fun w => ?_, fun w => ⟨fun w2 => ?_, fun w2 => ?_⟩⟩
    · rw [if_neg (fun v => by rw [Bool.true_and] at v; have := of_decide_eq_true v; omega)] at k; exact k
    · rw [if_pos (by rw [Bool.true_and]; exact decide_eq_true (by omega))] at k
      rw [show min 1000 a = a by omega]; exact k
    · rw [if_neg (fun v => by rw [Bool.true_and] at v; have := of_decide_eq_true v; omega)] at k; exact k
theorem l_num7 {n : Nat} {tp : Nat → Nat} (O : PO n tp) {lo hi : Nat} (hlo : lo ≤ 1) (hh : hi ≤ 24) {Q : Int32 → Mem → Prop} : ∀ d p b a M, n - p = d → p ≤ n → a < 10000 → (b = false → a = 0) → PC M n tp → M 85 2 = nI p → (∀ M', (∀ c k, ¬ (c = 85 ∧ k = 2) → M' c k = M c k) → M' 85 2 = nI (dgs n tp p a).1 → Q (if ((b || isD n tp p) && inB lo hi (dgs n tp p a).2) = true then nI (dgs n tp p a).2 else -1) M') → P_X7_number_7 M (nI lo) (nI hi) (cva b a) Q := by
  have hn := O.1
  intro d
  induction d with
  | zero =>
    intro p b a M hd hp ha hb P e2 K
    refine T_X7_number_7 ?_
    rw [P.1, e2, n_le (by omega) (by omega)]
    have hD : isD n tp p = false := decide_eq_false (by omega)
    have k := K M (fun _ _ _ => rfl)
    rw [dgs_no hD, hD] at k
    have k := k e2
    rw [Bool.or_false] at k
    exact ⟨fun _ => cva_end hh ha k hlo, fun w => absurd (by omega) w⟩
  | succ d ih =>
    intro p b a M hd hp ha hb P e2 K
    refine T_X7_number_7 ?_
    have ht := O.2 p (by omega)
    have no : isD n tp p = false → (cva b a < nI lo → Q (-1) M) ∧ (¬ cva b a < nI lo → (cva b a ≤ nI hi → Q (cva b a) M) ∧ (¬ cva b a ≤ nI hi → Q (-1) M)) := by
      intro hD
      have k := K M (fun _ _ _ => rfl)
      rw [dgs_no hD, hD] at k
      have k := k e2
      rw [Bool.or_false] at k
      exact cva_end hh ha k hlo
    rw [P.1, e2, n_le (by omega) (by omega), vin (by omega), ix_n (by omega), P.2 p (by omega), n_lt (by omega) (by omega), n_lt (by omega) (by omega), n_add, cva_max ha hb]
    refine ⟨fun w => absurd w (by omega), fun _ => ⟨by omega, fun w => no (decide_eq_false (by omega)), fun w => ⟨fun w2 => no (decide_eq_false (by omega)), fun w2 => ?_⟩⟩⟩
    have hD : isD n tp p = true := decide_eq_true (by omega)
    rw [n_mul, n_add, n_sub (by omega), n_min (by omega)]
    have e : nI (min 1000 (min 1000 a * 10 + tp p - 48)) = cva true (dnx a (tp p)) := by
      show _ = nI (min 1000 (dnx a (tp p)))
      congr 1
      unfold dnx
      split <;> omega
    rw [e]
    rw [dgs_yes hD, hD] at K
    refine ih (p + 1) true (dnx a (tp p)) _ (by omega) (by omega) (dnx_lt ha (by omega) (by omega)) (fun w => absurd w (by decide)) (P.congr (fun c k w => (by simp only [wr]; repeat rw [if_neg (by omega)]))) (wr_eq _ _ _ _) (fun M' f g => ?_)
    have k := K M' (fun c k w => by rw [f c k w]; exact (by simp only [wr]; repeat rw [if_neg (by omega)])) g
    rw [Bool.or_true] at k
    rw [Bool.true_or]
    exact k
def nmB (n : Nat) (tp : Nat → Nat) (lo hi p : Nat) : Bool := isD n tp (sk n tp p) && inB lo hi (dgs n tp (sk n tp p) 0).2
theorem s_number {n : Nat} {tp : Nat → Nat} (O : PO n tp) {lo hi p : Nat} {M : Mem} (hlo : lo ≤ 1) (hh : hi ≤ 24) (hp : p ≤ n) (P : PC M n tp) (e2 : M 85 2 = nI p) {Q : Int32 → Mem → Prop} (K1 : nmB n tp lo hi p = true → ∀ M', (∀ c k, ¬ (c = 85 ∧ (k = 2 ∨ k = 3)) → M' c k = M c k) → M' 85 2 = nI (dgs n tp (sk n tp p) 0).1 → M' 85 3 = nI (sk n tp p) → Q (nI (dgs n tp (sk n tp p) 0).2) M') (K2 : nmB n tp lo hi p = false → ∀ M', (∀ c k, ¬ (c = 85 ∧ (k = 2 ∨ k = 3)) → M' c k = M c k) → M' 85 3 = nI (sk n tp p) → Q (-1) M') : C_X7_number M (nI lo) (nI hi) Q := by
  have hb := sk_bd (n := n) (tp := tp) _ p rfl hp
  refine T_X7_number (s_peek O hp P e2 (fun M1 f1 g1 g2 => ?_))
  refine l_num7 O hlo hh _ (sk n tp p) false 0 M1 rfl (by omega) (by omega) (fun _ => rfl) (P.congr (fun c k w => f1 c k (by omega))) g1 (fun M2 f2 g3 => ?_)
  rw [Bool.false_or]
  have fr : ∀ c k, ¬ (c = 85 ∧ (k = 2 ∨ k = 3)) → M2 c k = M c k := fun c k w => by rw [f2 c k (by omega), f1 c k w]
  have g4 : M2 85 3 = nI (sk n tp p) := by rw [f2 _ _ (by omega)]; exact g2
  cases hB : nmB n tp lo hi p with
  | true =>
    have hB' := hB
    unfold nmB at hB'
    rw [if_pos hB']
    exact K1 hB M2 fr g3 g4
  | false =>
    have hB' := hB
    unfold nmB at hB'
    rw [if_neg (by rw [hB']; decide)]
    exact K2 hB M2 fr g4
theorem inB_64 {lo hi v : Nat} (h1 : lo ≤ 1) (h2 : hi ≤ 24) (h3 : v < 10000) : (decide ((nI lo).toInt64 ≤ (nI v).toInt64) && decide ((nI v).toInt64 ≤ (nI hi).toInt64)) = inB lo hi v := by
  apply b_of
  simp only [Bool.and_eq_true, decide_eq_true_eq, Int64.le_iff_toInt_le, Int32.toInt_toInt64, inB]
  rw [nI_toInt (by omega), nI_toInt (by omega), nI_toInt (by omega)]
  omega
