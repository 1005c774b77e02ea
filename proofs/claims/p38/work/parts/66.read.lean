/-! ===== what both readers read ===== -/
def skf (n : Nat) (tp : Nat → Nat) : Nat → Nat → Nat
  | 0, p => p
  | d + 1, p => if p < n ∧ tp p = 32 then skf n tp d (p + 1) else p
def sk (n : Nat) (tp : Nat → Nat) (p : Nat) : Nat := skf n tp (n - p) p
theorem sk_yes {n : Nat} {tp : Nat → Nat} {p : Nat} (h : p < n) (e : tp p = 32) : sk n tp p = sk n tp (p + 1) := by
  unfold sk
  rw [show n - p = (n - (p + 1)) + 1 by omega]
  show (if p < n ∧ tp p = 32 then _ else _) = _
  rw [if_pos ⟨h, e⟩]
theorem sk_no {n : Nat} {tp : Nat → Nat} {p : Nat} (h : ¬ (p < n ∧ tp p = 32)) : sk n tp p = p := by
  unfold sk
  cases hd : n - p with
  | zero => rfl
  | succ d =>
    show (if p < n ∧ tp p = 32 then _ else _) = _
    rw [if_neg h]
theorem sk_bd {n : Nat} {tp : Nat → Nat} : ∀ d p, n - p = d → p ≤ n → p ≤ sk n tp p ∧ sk n tp p ≤ n := by
  intro d
  induction d with
  | zero => intro p hd hp; rw [sk_no (by omega)]; omega
  | succ d ih =>
    intro p hd hp
    by_cases e : tp p = 32
    · rw [sk_yes (by omega) e]
      have := ih (p + 1) (by omega) (by omega)
      omega
    · rw [sk_no (fun w => e w.2)]; omega
theorem l_peek {n : Nat} {tp : Nat → Nat} (O : PO n tp) {Q : Int32 → Mem → Prop} : ∀ d p M, n - p = d → p ≤ n → PC M n tp → M 85 2 = nI p → (∀ M', (∀ c k, ¬ (c = 85 ∧ (k = 2 ∨ k = 3)) → M' c k = M c k) → M' 85 2 = nI (sk n tp p) → M' 85 3 = nI (sk n tp p) → Q (if sk n tp p < n then nI (tp (sk n tp p)) else -1) M') → P_X7_peek_0 M Q := by
  have hn := O.1
  intro d
  induction d with
  | zero =>
    intro p M hd hp P e2 K
    refine T_X7_peek_0 ?_
    rw [P.1, e2, n_le (by omega) (by omega)]
    rw [sk_no (by omega)] at K
    have k := K (wr M 85 3 (nI p)) (fun c k w => (by simp only [wr]; repeat rw [if_neg (by omega)])) (by rw [wr_nk _ _ _ _ (by omega)]; exact e2) (wr_eq _ _ _ _)
    rw [if_neg (by omega)] at k
    exact ⟨fun _ => ⟨fun _ => k, fun w => absurd (by omega) w⟩, fun w => absurd (by omega) w⟩
  | succ d ih =>
    intro p M hd hp P e2 K
    refine T_X7_peek_0 ?_
    have hb := O.2 p (by omega)
    rw [P.1, e2, n_le (by omega) (by omega), vin (by omega), ix_n (by omega), P.2 p (by omega), n_eq (by omega) (by omega), n_add]
    refine ⟨fun w => absurd w (by omega), fun _ => ⟨by omega, fun w => ⟨fun w2 => absurd w2 (by omega), fun _ => ?_⟩, fun w => ih (p + 1) _ (by omega) (by omega) (P.congr (fun c k w => (by simp only [wr]; repeat rw [if_neg (by omega)]))) (wr_eq _ _ _ _) (fun M' f g1 g2 => ?_)⟩⟩
    · rw [sk_no (fun v => w v.2)] at K
      have k := K (wr M 85 3 (nI p)) (fun c k w => (by simp only [wr]; repeat rw [if_neg (by omega)])) (by rw [wr_nk _ _ _ _ (by omega)]; exact e2) (wr_eq _ _ _ _)
      rw [if_pos (by omega)] at k
      exact k
    · rw [sk_yes (by omega) w] at K
      exact K M' (fun c k w => by rw [f c k w]; exact (by simp only [wr]; repeat rw [if_neg (by omega)])) g1 g2
theorem s_peek {n : Nat} {tp : Nat → Nat} (O : PO n tp) {p : Nat} {M : Mem} (hp : p ≤ n) (P : PC M n tp) (e2 : M 85 2 = nI p) {Q : Int32 → Mem → Prop} (K : ∀ M', (∀ c k, ¬ (c = 85 ∧ (k = 2 ∨ k = 3)) → M' c k = M c k) → M' 85 2 = nI (sk n tp p) → M' 85 3 = nI (sk n tp p) → Q (if sk n tp p < n then nI (tp (sk n tp p)) else -1) M') : C_X7_peek M Q := by
  have hn := O.1
  refine T_X7_peek ?_
  by_cases hd : p = n
  · rw [P.1, e2, n_le (by omega) (by omega)]
    rw [sk_no (by omega)] at K
    have k := K (wr M 85 3 (nI p)) (fun c k w => (by simp only [wr]; repeat rw [if_neg (by omega)])) (by rw [wr_nk _ _ _ _ (by omega)]; exact e2) (wr_eq _ _ _ _)
    rw [if_neg (by omega)] at k
    exact ⟨fun _ => ⟨fun _ => k, fun w => absurd (by omega) w⟩, fun w => absurd (by omega) w⟩
  · have hb := O.2 p (by omega)
    rw [P.1, e2, n_le (by omega) (by omega), vin (by omega), ix_n (by omega), P.2 p (by omega), n_eq (by omega) (by omega), n_add]
    refine ⟨fun w => absurd w (by omega), fun _ => ⟨by omega, fun w => ⟨fun w2 => absurd w2 (by omega), fun _ => ?_⟩, fun w => l_peek O _ (p + 1) _ rfl (by omega) (P.congr (fun c k w => (by simp only [wr]; repeat rw [if_neg (by omega)]))) (wr_eq _ _ _ _) (fun M' f g1 g2 => ?_)⟩⟩
    · rw [sk_no (fun v => w v.2)] at K
      have k := K (wr M 85 3 (nI p)) (fun c k w => (by simp only [wr]; repeat rw [if_neg (by omega)])) (by rw [wr_nk _ _ _ _ (by omega)]; exact e2) (wr_eq _ _ _ _)
      rw [if_pos (by omega)] at k
      exact k
    · rw [sk_yes (by omega) w] at K
      exact K M' (fun c k w => by rw [f c k w]; exact (by simp only [wr]; repeat rw [if_neg (by omega)])) g1 g2
def ltB (n : Nat) (tp : Nat → Nat) (L p : Nat) : Bool := decide (sk n tp p < n ∧ 97 ≤ tp (sk n tp p) ∧ tp (sk n tp p) < 97 + L)
theorem n_sublt {a b : Nat} (h : a < 1073741824 ∧ b < 1073741824) : (nI a - nI b < 0) = (a < b) := by
  have := n_subge h
  rw [← Int32.not_lt] at this
  exact propext ⟨fun w => Classical.byContradiction fun v => (this.mpr (by omega)) w, fun w => Classical.byContradiction fun v => by have := this.mp v; omega⟩
theorem s_letter {n : Nat} {tp : Nat → Nat} (O : PO n tp) {p L : Nat} {M : Mem} (hL : L ≤ 10) (hp : p ≤ n) (P : PC M n tp) (e2 : M 85 2 = nI p) {Q : Int32 → Mem → Prop} (K1 : ltB n tp L p = true → ∀ M', (∀ c k, ¬ (c = 85 ∧ (k = 2 ∨ k = 3)) → M' c k = M c k) → M' 85 2 = nI (sk n tp p + 1) → M' 85 3 = nI (sk n tp p) → Q (nI (tp (sk n tp p) - 97)) M') (K2 : ltB n tp L p = false → ∀ M', (∀ c k, ¬ (c = 85 ∧ (k = 2 ∨ k = 3)) → M' c k = M c k) → M' 85 3 = nI (sk n tp p) → Q (-1) M') : C_X7_letter M (nI L) Q := by
  have hn := O.1
  have hb := sk_bd (n := n) (tp := tp) _ p rfl hp
  refine T_X7_letter (s_peek O hp P e2 (fun M1 f1 g1 g2 => ?_))
  by_cases q : sk n tp p < n
  · have ht := O.2 _ q
    rw [if_pos q, n_sublt (by omega), g1, n_add]
    refine ⟨fun w => K2 (by unfold ltB; rw [decide_eq_false_iff_not]; omega) M1 f1 g2, fun w => ?_⟩
    rw [n_sub (by omega), n_lt (by omega) (by omega)]
    refine ⟨fun w2 => K1 (by unfold ltB; rw [decide_eq_true_eq]; omega) _ (fun c k v => by rw [← f1 c k v]; exact (by simp only [wr]; repeat rw [if_neg (by omega)])) (wr_eq _ _ _ _) (by rw [wr_nk _ _ _ _ (by omega)]; exact g2), fun w2 => K2 (by unfold ltB; rw [decide_eq_false_iff_not]; omega) M1 f1 g2⟩
  · rw [if_neg q]
    exact ⟨fun _ => K2 (by unfold ltB; rw [decide_eq_false_iff_not]; omega) M1 f1 g2, fun w => absurd (show (-1 : Int32) - nI 97 < 0 by decide) w⟩
theorem sk_sk {n : Nat} {tp : Nat → Nat} : ∀ d p, n - p = d → sk n tp (sk n tp p) = sk n tp p := by
  intro d
  induction d with
  | zero => intro p hd; rw [sk_no (p := p) (by omega), sk_no (by omega)]
  | succ d ih =>
    intro p hd
    by_cases e : tp p = 32
    · rw [sk_yes (p := p) (by omega) e]; exact ih (p + 1) (by omega)
    · rw [sk_no (p := p) (fun w => e w.2), sk_no (fun w => e w.2)]
