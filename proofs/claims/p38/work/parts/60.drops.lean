/-! ===== taking back a saying, dropping an errand ===== -/
theorem ic {α : Type} {p q : Prop} [Decidable p] [Decidable q] (h : p ↔ q) (a b : α) : (if p then a else b) = if q then a else b := by
  by_cases w : p
  · rw [if_pos w, if_pos (h.mp w)]
  · rw [if_neg w, if_neg (fun v => w (h.mpr v))]
def rm (k e : Nat) : Nat := if e < k then e else e + 1
theorem rm_lt {k e : Nat} (h : e < k) : rm k e = e := if_pos h
theorem rm_ge {k e : Nat} (h : k ≤ e) : rm k e = e + 1 := if_neg (by omega)
theorem rm_le (k e n : Nat) (h : e + 1 < n) : rm k e < n := by unfold rm; split <;> omega
def tdel (t : TS) (k : Nat) : TS := (t.1, t.2.1, t.2.2.1 - 1, fun e j => t.2.2.2.1 (rm k e) j, t.2.2.2.2)
theorem TO.del {t : TS} {R : Nat} (O : TO t R) (k : Nat) : TO (tdel t k) R :=
  ⟨O.1, by have := O.2.1; show t.2.2.1 - 1 ≤ 12; omega, O.2.2.1, fun e he => O.2.2.2.1 (rm k e) (rm_le k e _ (by have he' : e < t.2.2.1 - 1 := he; omega)), O.2.2.2.2⟩
theorem l_removeErrand {n k : Nat} (hn : n ≤ 4) (hk : k ≤ n) (g : Nat → Nat → Int32) {Q : Mem → Prop} : ∀ d i M, n - i = d → k ≤ i → i ≤ n → M 30 3 = nI n → (∀ q, q < 5 → ∀ e, e < n + 1 → M (32 + q) e = if e < i then g q (rm k e) else g q e) →
    (∀ M', (∀ c j, ¬ (32 ≤ c ∧ c ≤ 36) → M' c j = M c j) → (∀ q, q < 5 → ∀ e, e < n → M' (32 + q) e = g q (rm k e)) → Q M') → P_X5_removeErrand_30_12 M (nI i) Q := by
  intro d
  induction d with
  | zero =>
    intro i M hd h1 h2 g1 g2 K
    refine T_X5_removeErrand_30_12 ?_
    rw [g1, n_le (by omega) (by omega)]
    refine ⟨fun _ => K M (fun _ _ _ => rfl) (fun q hq e he => ?_), fun w => absurd (by omega) w⟩
    rw [g2 q hq e (by omega), if_pos (by omega)]
  | succ d ih =>
    intro i M hd h1 h2 g1 g2 K
    refine T_X5_removeErrand_30_12 ?_
    rw [g1, n_le (by omega) (by omega)]
    refine ⟨fun w => absurd w (by omega), fun _ => ?_⟩
    simp (disch := omega) only [n_add, vin, ix_n]
    refine ⟨by omega, by omega, ih (i + 1) _ (by omega) (by omega) (by omega) (by rw [wr_nc _ _ _ _ (by omega), wr_nc _ _ _ _ (by omega), wr_nc _ _ _ _ (by omega), wr_nc _ _ _ _ (by omega), wr_nc _ _ _ _ (by omega)]; exact g1) (fun q hq e he => ?_) (fun M' f u => K M' (fun c j w => by rw [f c j w]; exact (by simp only [wr]; repeat rw [if_neg (by omega)])) u)⟩
    have s0 := g2 q hq (i + 1) (by omega)
    rw [if_neg (by omega)] at s0
    by_cases e1 : e = i
    · subst e1
      rw [if_pos (by omega), rm_ge h1, ← s0]
      rcases (show q = 0 ∨ q = 1 ∨ q = 2 ∨ q = 3 ∨ q = 4 by omega) with w | w | w | w | w <;> subst w <;> simp [wr]
    · have s1 := g2 q hq e he
      rw [ic (q := e < i) (by omega), ← s1]
      simp only [wr]
      rw [if_neg (by omega), if_neg (by omega), if_neg (by omega), if_neg (by omega), if_neg (by omega)]
def sdel (s : SS) (k : Nat) : SS := (s.1, s.2.1 - 1, s.2.2.1, s.2.2.2.1, s.2.2.2.2.1, fun e j => s.2.2.2.2.2 (rm k e) j)
theorem SO.del {s : SS} {R : Nat} (O : SO s R) (k : Nat) : SO (sdel s k) R :=
  ⟨O.1, by have := O.2.1; show s.2.1 - 1 ≤ 5; omega, by
    rcases O.2.2.1 with w | w
    · exact Or.inl w
    · refine Or.inr ⟨w.1, w.2.1, ?_⟩
      have := w.2.2
      show s.2.1 - 1 = 0; omega, O.2.2.2.1, fun e he => O.2.2.2.2 (rm k e) (rm_le k e _ (by have he' : e < s.2.1 - 1 := he; omega))⟩
theorem s_removeErrand {s : SS} {M : Mem} (H : SC 30 M s) (hE : s.2.1 ≤ 5) {k : Nat} (hk : k < s.2.1) {Q : Mem → Prop} (K : ∀ M', (∀ c j, ¬ (30 ≤ c ∧ c ≤ 36) → M' c j = M c j) → SC 30 M' (sdel s k) → Q M') : C_X5_removeErrand_30 M (nI k) Q := by
  obtain ⟨g1, g2, g3, g4, g5, g6⟩ := H
  have g4 : M 30 3 = nI s.2.1 := g4
  refine T_X5_removeErrand_30 ?_
  rw [g4, n_sub (by omega)]
  refine l_removeErrand (n := s.2.1 - 1) (k := k) (by omega) (by omega) (fun q e => M (32 + q) e) _ k _ rfl (by omega) (by omega) (wr_eq _ _ _ _) (fun q hq e he => ?_) (fun M' f u => ?_)
  · rw [wr_nc _ _ _ _ (by omega)]
    split
    · rename_i w; rw [rm_lt w]
    · rfl
  · refine K M' (fun c j w => by rw [f c j (by omega)]; exact (by simp only [wr]; repeat rw [if_neg (by omega)])) ⟨by rw [f _ _ (by omega), wr_nk _ _ _ _ (by omega)]; exact g1, by rw [f _ _ (by omega), wr_nk _ _ _ _ (by omega)]; exact g2, by rw [f _ _ (by omega), wr_nk _ _ _ _ (by omega)]; exact g3, by rw [f _ _ (by omega), wr_eq]; rfl, fun i hi => by rw [f _ _ (by omega), wr_nc _ _ _ _ (by omega)]; exact g5 i hi, fun e he j hj => ?_⟩
    have he' : e < s.2.1 - 1 := he
    rw [show 30 + 2 + j = 32 + j by omega, u j hj e he']
    exact g6 (rm k e) (rm_le k e _ (by omega)) j hj
