/-! ===== orders of errands ===== -/
def fct : Nat → Nat
  | 0 => 1
  | n + 1 => (n + 1) * fct n
def wlk (L : Nat → Bool) : Nat → Nat → Nat → Nat
  | 0, _, _ => 99
  | f + 1, k, e => if L e then (if k = 0 then e else wlk L f (k - 1) (e + 1)) else wlk L f k (e + 1)
def o5 (o : Nat → Nat) : Nat := o 0 + 8 * o 1 + 64 * o 2 + 512 * o 3 + 4096 * o 4
def o5i (n : Nat) : Nat → Nat := fun i => n / 8 ^ i % 8
def prmT : Nat → List Nat
  | 0 => [18056]
  | 1 => [18056]
  | 2 => [18056, 18049]
  | 3 => [18056, 18000, 18049, 17937, 17986, 17930]
  | 4 => [18056, 17608, 18000, 17104, 17496, 17048, 18049, 17601, 17937, 16593, 17433, 16537, 17986, 17090, 17930, 16586, 16922, 16474, 17475, 17027, 17419, 16523, 16915, 16467]
  | _ => [18056, 14472, 17608, 10440, 13576, 9992, 18000, 14416, 17104, 6352, 13072, 5904, 17496, 10328, 17048, 6296, 8984, 5400, 13408, 9824, 12960, 5792, 8928, 5344, 18049, 14465, 17601, 10433, 13569, 9985, 17937, 14353, 16593, 2257, 12561, 1809, 17433, 10265, 16537, 2201, 8473, 1305, 13345, 9761, 12449, 1697, 8417, 1249, 17986, 14402, 17090, 6338, 13058, 5890, 17930, 14346, 16586, 2250, 12554, 1802, 16922, 6170, 16474, 2138, 4378, 794, 12834, 5666, 12386, 1634, 4322, 738, 17475, 10307, 17027, 6275, 8963, 5379, 17419, 10251, 16523, 2187, 8459, 1291, 16915, 6163, 16467, 2131, 4371, 787, 8739, 5155, 8291, 1123, 4259, 675, 13380, 9796, 12932, 5764, 8900, 5316, 13324, 9740, 12428, 1676, 8396, 1228, 12820, 5652, 12372, 1620, 4308, 724, 8732, 5148, 8284, 1116, 4252, 668]
def prm (E k i : Nat) : Nat := o5i ((prmT E).getD k 0) i
def lef (E k i : Nat) : Nat → Bool := fun j => decide (j < E) && !anyN (fun x => decide (prm E k x = j)) i
def swp (o : Nat → Nat) (i j : Nat) : Nat → Nat := fun x => if x = j then o i else if x = i then o j else o x
def fiN (o : Nat → Nat) : Nat → Nat
  | 0 => 0
  | m + 1 => if o m ≤ o (m + 1) then m + 1 else fiN o m
def fjN (o : Nat → Nat) (i : Nat) : Nat → Nat
  | 0 => 0
  | j + 1 => if j + 1 ≤ i then j + 1 else if o i ≤ o (j + 1) then j + 1 else fjN o i j
def rvN : Nat → (Nat → Nat) → Nat → Nat → Nat → Nat
  | 0, o, _, _ => o
  | f + 1, o, l, g => if g ≤ l then o else rvN f (swp o l g) (l + 1) (g - 1)
def nxo (E : Nat) (o : Nat → Nat) : Bool × (Nat → Nat) := if fiN o (E - 1) = 0 then (false, o) else (true, rvN 5 (swp o (fiN o (E - 1) - 1) (fjN o (fiN o (E - 1) - 1) (E - 1))) (fiN o (E - 1)) (E - 1))
theorem o5i_eq {o : Nat → Nat} (h : ∀ x, x < 5 → o x < 5) : ∀ x, x < 5 → o5i (o5 o) x = o x := by
  intro x hx
  have h0 := h 0 (by omega)
  have h1 := h 1 (by omega)
  have h2 := h 2 (by omega)
  have h3 := h 3 (by omega)
  have h4 := h 4 (by omega)
  unfold o5i o5
  rcases (show x = 0 ∨ x = 1 ∨ x = 2 ∨ x = 3 ∨ x = 4 by omega) with e | e | e | e | e <;> subst e <;> simp only [Nat.reducePow] <;> omega
theorem prm_a : ∀ E, E < 6 → ∀ k, k < fct E → (∀ i, i < 5 → prm E k i < 5) ∧ (∀ i, i < E → prm E k i < E) ∧ (∀ i, i < 5 → ∀ j, j < 5 → prm E k i = prm E k j → i = j) := by decide +kernel
theorem prm_n : ∀ E, E < 6 → ∀ k, k < fct E → (nxo E (prm E k)).1 = decide (k + 1 < fct E) ∧ (k + 1 < fct E → ∀ i, i < 5 → (nxo E (prm E k)).2 i = prm E (k + 1) i) := by decide +kernel
theorem prm_w : ∀ E, E < 6 → ∀ k, k < fct E → ∀ i, i < E → wlk (lef E k i) 8 (k % fct (E - i) / fct (E - i - 1)) 0 = prm E k i := by decide +kernel
theorem prm_s : ∀ E, E < 6 → ∀ k, k < fct E → ∀ x, x < E → anyN (fun i => decide (prm E k i = x)) E = true := by decide +kernel
theorem prm_0 : ∀ E, E < 6 → ∀ i, i < 5 → prm E 0 i = i := by decide +kernel
theorem fct_pos : ∀ E, E < 6 → 1 ≤ fct E ∧ fct E ≤ 120 := by decide +kernel
def ordK (E : Nat) (c : Nat) : Bool := anyN (fun k => decide ((prmT E).getD k 0 = c)) (fct E)
theorem prm_c0 : ordK 0 (o5 (fun i => i)) = true := by decide +kernel
theorem prm_c1 : ordK 1 (o5 (fun i => i)) = true := by decide +kernel
theorem prm_c2 : allN (fun a => allN (fun b => decide (a = b) || ordK 2 (a + 8 * b + 64 * 2 + 512 * 3 + 4096 * 4)) 2) 2 = true := by decide +kernel
theorem prm_c3 : allN (fun a => allN (fun b => decide (a = b) || allN (fun c => decide (c = a) || (decide (c = b) || ordK 3 (a + 8 * b + 64 * c + 512 * 3 + 4096 * 4))) 3) 3) 3 = true := by decide +kernel
theorem prm_c4 : allN (fun a => allN (fun b => decide (a = b) || allN (fun c => decide (c = a) || (decide (c = b) || allN (fun d => decide (d = a) || (decide (d = b) || (decide (d = c) || ordK 4 (a + 8 * b + 64 * c + 512 * d + 4096 * 4)))) 4)) 4) 4) 4 = true := by decide +kernel
theorem prm_c5 : allN (fun a => allN (fun b => decide (a = b) || allN (fun c => decide (c = a) || (decide (c = b) || allN (fun d => decide (d = a) || (decide (d = b) || (decide (d = c) || allN (fun e => decide (e = a) || (decide (e = b) || (decide (e = c) || (decide (e = d) || ordK 5 (a + 8 * b + 64 * c + 512 * d + 4096 * e))))) 5))) 5)) 5) 5) 5 = true := by decide +kernel
theorem ordK_t {E : Nat} {o : Nat → Nat} (ho : ∀ x, x < 5 → o x < 5) (h : ordK E (o5 o) = true) : ∃ k, k < fct E ∧ ∀ x, x < 5 → prm E k x = o x := by
  obtain ⟨k, hk, h2⟩ := anyN_iff.mp h
  rw [decide_eq_true_eq] at h2
  refine ⟨k, hk, fun x hx => ?_⟩
  unfold prm
  rw [h2]
  exact o5i_eq ho x hx
theorem prm_ex {E : Nat} (hE : E < 6) {o : Nat → Nat} (ho : ∀ i, i < E → o i < E) (hi : ∀ i, i < E → ∀ j, j < E → o i = o j → i = j) : ∃ k, k < fct E ∧ ∀ i, i < E → prm E k i = o i := by
  have key : ∀ c, c = o5 (fun x => if x < E then o x else x) → ordK E c = true → ∃ k, k < fct E ∧ ∀ i, i < E → prm E k i = o i := by
    intro c hc h
    subst hc
    obtain ⟨k, hk, h2⟩ := ordK_t (o := fun x => if x < E then o x else x) (fun x hx => by
      show (if x < E then o x else x) < 5
      split
      · have := ho x (by omega); omega
      · exact hx) h
    refine ⟨k, hk, fun i h3 => ?_⟩
    have := h2 i (by omega)
    rw [if_pos h3] at this
    exact this
  have ne : ∀ i j, i < E → j < E → i ≠ j → o i ≠ o j := fun i j h1 h2 h3 h4 => h3 (hi i h1 j h2 h4)
  have al : ∀ {n : Nat} {p : Nat → Bool}, allN p n = true → ∀ i, i < n → p i = true := fun h => allN_iff.mp h
  rcases (show E = 0 ∨ E = 1 ∨ E = 2 ∨ E = 3 ∨ E = 4 ∨ E = 5 by omega) with e | e | e | e | e | e <;> subst e
  · refine key _ rfl ?_
    rw [show (fun x => if x < 0 then o x else x) = fun x => x from funext (fun x => by rw [if_neg (by omega)])]
    exact prm_c0
  · refine key _ rfl ?_
    have h0 := ho 0 (by omega)
    rw [show (fun x => if x < 1 then o x else x) = fun x => x from funext (fun x => by
      split
      · rw [show x = 0 by omega]; omega
      · rfl)]
    exact prm_c1
  · refine key _ rfl ?_
    have h := al (al prm_c2 _ (ho 0 (by omega))) _ (ho 1 (by omega))
    rw [decide_eq_false (ne 0 1 (by omega) (by omega) (by omega)), Bool.false_or] at h
    exact h
  · refine key _ rfl ?_
    have h := al (al prm_c3 _ (ho 0 (by omega))) _ (ho 1 (by omega))
    rw [decide_eq_false (ne 0 1 (by omega) (by omega) (by omega)), Bool.false_or] at h
    have h := al h _ (ho 2 (by omega))
    rw [decide_eq_false (ne 2 0 (by omega) (by omega) (by omega)), decide_eq_false (ne 2 1 (by omega) (by omega) (by omega)), Bool.false_or, Bool.false_or] at h
    exact h
  · refine key _ rfl ?_
    have h := al (al prm_c4 _ (ho 0 (by omega))) _ (ho 1 (by omega))
    rw [decide_eq_false (ne 0 1 (by omega) (by omega) (by omega)), Bool.false_or] at h
    have h := al h _ (ho 2 (by omega))
    rw [decide_eq_false (ne 2 0 (by omega) (by omega) (by omega)), decide_eq_false (ne 2 1 (by omega) (by omega) (by omega)), Bool.false_or, Bool.false_or] at h
    have h := al h _ (ho 3 (by omega))
    rw [decide_eq_false (ne 3 0 (by omega) (by omega) (by omega)), decide_eq_false (ne 3 1 (by omega) (by omega) (by omega)), decide_eq_false (ne 3 2 (by omega) (by omega) (by omega)), Bool.false_or, Bool.false_or, Bool.false_or] at h
    exact h
  · refine key _ rfl ?_
    have h := al (al prm_c5 _ (ho 0 (by omega))) _ (ho 1 (by omega))
    rw [decide_eq_false (ne 0 1 (by omega) (by omega) (by omega)), Bool.false_or] at h
    have h := al h _ (ho 2 (by omega))
    rw [decide_eq_false (ne 2 0 (by omega) (by omega) (by omega)), decide_eq_false (ne 2 1 (by omega) (by omega) (by omega)), Bool.false_or, Bool.false_or] at h
    have h := al h _ (ho 3 (by omega))
    rw [decide_eq_false (ne 3 0 (by omega) (by omega) (by omega)), decide_eq_false (ne 3 1 (by omega) (by omega) (by omega)), decide_eq_false (ne 3 2 (by omega) (by omega) (by omega)), Bool.false_or, Bool.false_or, Bool.false_or] at h
    have h := al h _ (ho 4 (by omega))
    rw [decide_eq_false (ne 4 0 (by omega) (by omega) (by omega)), decide_eq_false (ne 4 1 (by omega) (by omega) (by omega)), decide_eq_false (ne 4 2 (by omega) (by omega) (by omega)), decide_eq_false (ne 4 3 (by omega) (by omega) (by omega)), Bool.false_or, Bool.false_or, Bool.false_or, Bool.false_or] at h
    exact h
/-! ===== the class's rows of errands ===== -/
def AR (M : Mem) (c : Nat) (o : Nat → Nat) : Prop := ∀ x, x < 5 → M c x = nI (o x)
theorem s_swap {c : Nat} (hc : IA c 5) {M : Mem} {o : Nat → Nat} (A : AR M c o) {i j : Nat} (hi : i < 5) (hj : j < 5) {Q : Mem → Prop} (K : ∀ M', (∀ c' k, c' ≠ c → M' c' k = M c' k) → AR M' c (swp o i j) → Q M') : C_X3_swap M c (nI i) (nI j) Q := by
  refine T_X3_swap hc ?_
  simp (disch := omega) only [vin, ix_n, nT_lt, true_and]
  refine K _ (fun c' k hc' => by rw [wr_nc _ _ _ _ hc', wr_nc _ _ _ _ hc']) (fun x hx => ?_)
  unfold swp
  by_cases e : x = j
  · subst e; rw [if_pos rfl, wr_eq]; exact A i hi
  · rw [if_neg e, wr_nk _ _ _ _ e]
    by_cases e2 : x = i
    · subst e2; rw [if_pos rfl, wr_eq]; exact A j hj
    · rw [if_neg e2, wr_nk _ _ _ _ e2]; exact A x hx
theorem swp_lt {o : Nat → Nat} (h : ∀ x, x < 5 → o x < 5) {i j : Nat} (hi : i < 5) (hj : j < 5) : ∀ x, x < 5 → swp o i j x < 5 := by
  intro x hx
  unfold swp
  split
  · exact h i hi
  · split
    · exact h j hj
    · exact h x hx
theorem s_firstOrder {c : Nat} (hc : IA c 5) {M : Mem} {Q : Mem → Prop} (K : ∀ M', (∀ c' k, c' ≠ c → M' c' k = M c' k) → AR M' c (fun x => x) → Q M') : C_X3_firstOrder M c Q := by
  have key : ∀ n i (M1 : Mem), i + n = 5 → (∀ x, x < i → M1 c x = nI x) → (∀ c' k, c' ≠ c → M1 c' k = M c' k) → P_X3_firstOrder_2 M1 c (nI i) Q := by
    intro n
    induction n with
    | zero =>
      intro i M1 hi h1 h2
      refine T_X3_firstOrder_2 hc ?_
      simp (disch := omega) only [n_lt, n_le, n_eq, n_lt0, n_le0, n_ge0, n_gt0, n_eq0, n_add, n_mul, n_sub, n_m1, ix_n, vin, bI_0, bI_1, nT_le, nF_le, nT_lt, nF_lt, nT_eq, nF_eq, mk_test, true_imp_iff, false_imp_iff, not_true_eq_false, not_false_eq_true, true_and, and_true, tf_, ft_, eq_self, true_or, or_true, false_or, or_false, ]
      exact K M1 h2 (fun x hx => h1 x (by omega))
    | succ n ih =>
      intro i M1 hi h1 h2
      refine T_X3_firstOrder_2 hc ?_
      simp (disch := omega) only [n_lt, n_le, n_eq, n_lt0, n_le0, n_ge0, n_gt0, n_eq0, n_add, n_mul, n_sub, n_m1, ix_n, vin, bI_0, bI_1, nT_le, nF_le, nT_lt, nF_lt, nT_eq, nF_eq, mk_test, true_imp_iff, false_imp_iff, not_true_eq_false, not_false_eq_true, true_and, and_true, tf_, ft_, eq_self, true_or, or_true, false_or, or_false, ]
      refine ih (i + 1) _ (by omega) (fun x hx => ?_) (fun c' k hc' => by rw [wr_nc _ _ _ _ hc']; exact h2 c' k hc')
      by_cases e : x = i
      · subst e; exact wr_eq _ _ _ _
      · rw [wr_nk _ _ _ _ e]; exact h1 x (by omega)
  exact T_X3_firstOrder hc (key 5 0 M rfl (fun x hx => by omega) (fun _ _ _ => rfl))
theorem s_nextOrder {c : Nat} (hc : IA c 5) (hc2 : c ≠ 30) {E : Nat} (hE : E < 6) {M : Mem} (e3 : M 30 3 = nI E) {o : Nat → Nat} (A : AR M c o) (ho : ∀ x, x < 5 → o x < 5) {Q : Int32 → Mem → Prop} (K : ∀ M', (∀ c' k, c' ≠ c → M' c' k = M c' k) → AR M' c (nxo E o).2 → Q (bI (nxo E o).1) M') : C_X3_nextOrder M c Q := by
  have k84 : ∀ f l g (o' : Nat → Nat) (M1 : Mem), g < 5 → l ≤ 5 → g < l + 2 * f → (∀ c' k, c' ≠ c → M1 c' k = M c' k) → AR M1 c o' → (∀ M', (∀ c' k, c' ≠ c → M' c' k = M c' k) → AR M' c (rvN f o' l g) → Q (nI 1) M') → P_X3_nextOrder_84 M1 c (nI l) (nI g) Q := by
    intro f
    induction f with
    | zero =>
      intro l g o' M1 hg hl hgl h1 A1 K2
      refine T_X3_nextOrder_84 hc ?_
      simp (disch := omega) only [n_lt, n_le, n_eq, n_lt0, n_le0, n_ge0, n_gt0, n_eq0, n_add, n_mul, n_sub, n_m1, ix_n, vin, bI_0, bI_1, nT_le, nF_le, nT_lt, nF_lt, nT_eq, nF_eq, mk_test, true_imp_iff, false_imp_iff, not_true_eq_false, not_false_eq_true, true_and, and_true, tf_, ft_, eq_self, true_or, or_true, false_or, or_false, ]
      exact K2 M1 h1 A1
    | succ f ih =>
      intro l g o' M1 hg hl hgl h1 A1 K2
      refine T_X3_nextOrder_84 hc ?_
      simp only [rvN] at K2
      by_cases q : g ≤ l
      · simp only [q, if_true] at K2
        simp (disch := omega) only [n_lt, n_le, n_eq, n_lt0, n_le0, n_ge0, n_gt0, n_eq0, n_add, n_mul, n_sub, n_m1, ix_n, vin, bI_0, bI_1, nT_le, nF_le, nT_lt, nF_lt, nT_eq, nF_eq, mk_test, true_imp_iff, false_imp_iff, not_true_eq_false, not_false_eq_true, true_and, and_true, tf_, ft_, eq_self, true_or, or_true, false_or, or_false, ]
        exact K2 M1 h1 A1
      · simp only [q, if_false] at K2
        simp (disch := omega) only [n_lt, n_le, n_eq, n_lt0, n_le0, n_ge0, n_gt0, n_eq0, n_add, n_mul, n_sub, n_m1, ix_n, vin, bI_0, bI_1, nT_le, nF_le, nT_lt, nF_lt, nT_eq, nF_eq, mk_test, true_imp_iff, false_imp_iff, not_true_eq_false, not_false_eq_true, true_and, and_true, tf_, ft_, eq_self, true_or, or_true, false_or, or_false, ]
        refine s_swap hc A1 (by omega) (by omega) (fun M2 f2 A2 => ?_)
        exact ih (l + 1) (g - 1) _ M2 (by omega) (by omega) (by omega) (fun c' k hc' => by rw [f2 c' k hc']; exact h1 c' k hc') A2 K2
  have k44 : ∀ j i, i ≤ j → j < 5 → i + 1 < E → (∀ M', (∀ c' k, c' ≠ c → M' c' k = M c' k) → AR M' c (rvN 5 (swp o i (fjN o i j)) (i + 1) (E - 1)) → Q (nI 1) M') → P_X3_nextOrder_44 M c (nI E) (nI i) (nI j) Q := by
    intro j
    have go : ∀ i j, i < 4 → j < 5 → i + 1 < E → (∀ M', (∀ c' k, c' ≠ c → M' c' k = M c' k) → AR M' c (rvN 5 (swp o i j) (i + 1) (E - 1)) → Q (nI 1) M') → C_X3_swap M c (nI i) (nI j) (fun M1 => P_X3_nextOrder_84 M1 c (nI (i + 1)) (nI (E - 1)) Q) := by
      intro i j hi hj hiE K2
      exact s_swap hc A (by omega) hj (fun M2 f2 A2 => k84 5 (i + 1) (E - 1) _ M2 (by omega) (by omega) (by omega) f2 A2 K2)
    induction j with
    | zero =>
      intro i hij hj hiE K2
      have : i = 0 := by omega
      subst this
      refine T_X3_nextOrder_44 hc ?_
      simp (disch := omega) only [n_lt, n_le, n_eq, n_lt0, n_le0, n_ge0, n_gt0, n_eq0, n_add, n_mul, n_sub, n_m1, ix_n, vin, bI_0, bI_1, nT_le, nF_le, nT_lt, nF_lt, nT_eq, nF_eq, mk_test, true_imp_iff, false_imp_iff, not_true_eq_false, not_false_eq_true, true_and, and_true, tf_, ft_, eq_self, true_or, or_true, false_or, or_false, ]
      exact go 0 0 (by omega) (by omega) hiE K2
    | succ j ih =>
      intro i hij hj hiE K2
      refine T_X3_nextOrder_44 hc ?_
      simp only [fjN] at K2
      have h1 := ho i (by omega)
      have h2 := ho (j + 1) (by omega)
      by_cases q : j + 1 ≤ i
      · rw [if_pos q] at K2
        simp (disch := omega) only [n_lt, n_le, n_eq, n_lt0, n_le0, n_ge0, n_gt0, n_eq0, n_add, n_mul, n_sub, n_m1, ix_n, vin, bI_0, bI_1, nT_le, nF_le, nT_lt, nF_lt, nT_eq, nF_eq, mk_test, true_imp_iff, false_imp_iff, not_true_eq_false, not_false_eq_true, true_and, and_true, tf_, ft_, eq_self, true_or, or_true, false_or, or_false, ]
        exact go i (j + 1) (by omega) (by omega) hiE K2
      · rw [if_neg q] at K2
        simp (disch := omega) only [n_lt, n_le, n_eq, n_lt0, n_le0, n_ge0, n_gt0, n_eq0, n_add, n_mul, n_sub, n_m1, ix_n, vin, bI_0, bI_1, nT_le, nF_le, nT_lt, nF_lt, nT_eq, nF_eq, mk_test, true_imp_iff, false_imp_iff, not_true_eq_false, not_false_eq_true, true_and, and_true, tf_, ft_, eq_self, true_or, or_true, false_or, or_false, A i (by omega), A (j + 1) (by omega), Nat.add_sub_cancel]
        refine ⟨fun q2 => ?_, fun q2 => ?_⟩
        · rw [if_pos q2] at K2
          exact go i (j + 1) (by omega) (by omega) hiE K2
        · rw [if_neg q2] at K2
          exact ih i (by omega) (by omega) hiE K2
  have k12 : ∀ m, m + 1 ≤ E → (fiN o m = fiN o (E - 1)) → P_X3_nextOrder_12 M c (nI E) (nI m + (-1)) Q := by
    intro m
    induction m with
    | zero =>
      intro hm he
      have hK := K M (fun _ _ _ => rfl)
      unfold nxo at hK
      rw [← he] at hK
      refine T_X3_nextOrder_12 hc ?_
      have e : nI 0 + (-1) = -1 := by decide
      rw [e]
      exact ⟨fun _ => ⟨fun q => absurd q (by decide), fun _ => hK A⟩, fun q => absurd (by decide) q⟩
    | succ m ih =>
      intro hm he
      have h1 := ho m (by omega)
      have h2 := ho (m + 1) (by omega)
      refine T_X3_nextOrder_12 hc ?_
      simp (disch := omega) only [n_lt, n_le, n_eq, n_lt0, n_le0, n_ge0, n_gt0, n_eq0, n_add, n_mul, n_sub, n_m1, ix_n, vin, bI_0, bI_1, nT_le, nF_le, nT_lt, nF_lt, nT_eq, nF_eq, mk_test, true_imp_iff, false_imp_iff, not_true_eq_false, not_false_eq_true, true_and, and_true, tf_, ft_, eq_self, true_or, or_true, false_or, or_false, A m (by omega), A (m + 1) (by omega), Nat.add_sub_cancel]
      simp only [fiN] at he
      refine ⟨fun q => ?_, fun q => ?_⟩
      · rw [if_pos q] at he
        refine k44 (E - 1) m (by omega) (by omega) (by omega) (fun M' f' A' => ?_)
        have hK := K M' f'
        unfold nxo at hK
        rw [← he, if_neg (by omega)] at hK
        exact hK A'
      · rw [if_neg q] at he
        exact ih (by omega) he
  refine T_X3_nextOrder hc ?_
  rw [e3]
  by_cases h0 : E = 0
  · subst h0
    have hK := K M (fun _ _ _ => rfl) A
    refine T_X3_nextOrder_12 hc ?_
    have e : nI 0 - nI 2 = -2 := by decide
    rw [e]
    exact ⟨fun _ => ⟨fun q => absurd q (by decide), fun _ => hK⟩, fun q => absurd (by decide) q⟩
  · have := k12 (E - 1) (by omega) rfl
    rw [show nI (E - 1) + (-1) = nI E - nI 2 from by
      rw [← pk_sub (show 1 ≤ E by omega), Int32.sub_eq_add_neg, Int32.sub_eq_add_neg, Int32.add_assoc]
      congr 1] at this
    exact this
