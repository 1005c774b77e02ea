/-! ===== the class reads sayings ===== -/
def rowN (n : Nat) (tp : Nat → Nat) (p i : Nat) (row : Nat → Nat) : Nat → Nat := fun k =>
  if k = 4 * i then tp (sk n tp p) - 97 else if k = 4 * i + 1 then tp (sk n tp (sk n tp p + 1)) - 97 else if k = 4 * i + 2 then tp (sk n tp (sk n tp (sk n tp p + 1) + 1)) - 97 else if k = 4 * i + 3 then (nE n tp (sk n tp (sk n tp (sk n tp p + 1) + 1) + 1)).2 else row k
def syf (R F n : Nat) (tp : Nat → Nat) : Nat → Nat → Nat → (Nat → Nat) → Nat ⊕ (Nat × (Nat → Nat))
  | 0, _, _, _ => .inl 0
  | d + 1, p, i, row =>
    if ltB n tp F p = false then .inl (sk n tp p) else
    if ltB n tp F (sk n tp p + 1) = false then .inl (sk n tp (sk n tp p + 1)) else
    if ltB n tp R (sk n tp (sk n tp p + 1) + 1) = false then .inl (sk n tp (sk n tp (sk n tp p + 1) + 1)) else
    if nmB n tp 0 23 (sk n tp (sk n tp (sk n tp p + 1) + 1) + 1) = false then .inl (sk n tp (sk n tp (sk n tp (sk n tp p + 1) + 1) + 1)) else
    if sk n tp (nE n tp (sk n tp (sk n tp (sk n tp p + 1) + 1) + 1)).1 < n then
      if tp (sk n tp (nE n tp (sk n tp (sk n tp (sk n tp p + 1) + 1) + 1)).1) = 59 ∧ d ≠ 0 then
        syf R F n tp d (sk n tp (nE n tp (sk n tp (sk n tp (sk n tp p + 1) + 1) + 1)).1 + 1) (i + 1) (rowN n tp p i row)
      else .inl (sk n tp (nE n tp (sk n tp (sk n tp (sk n tp p + 1) + 1) + 1)).1)
    else .inr (i + 1, rowN n tp p i row)
theorem l_readSayings {R F n : Nat} {tp : Nat → Nat} (hR : R ≤ 10) (hF : F ≤ 10) (O : PO n tp) {Q : Int32 → Mem → Prop} : ∀ d p i row M, d + i = 6 → 1 ≤ d → p ≤ n → PC M n tp → M 85 2 = nI p → (∀ k, k < i → ∀ j, j < 4 → M (176 + k) j = nI (row (4 * k + j))) → (∀ M' f, (∀ c k, ¬ (c = 85 ∧ (k = 2 ∨ k = 3)) → ¬ (176 ≤ c ∧ c ≤ 181) → M' c k = M c k) → syf R F n tp d p i row = .inl f → Q (-20 - nI f) M') → (∀ M' m g, (∀ c k, ¬ (c = 85 ∧ (k = 2 ∨ k = 3)) → ¬ (176 ≤ c ∧ c ≤ 181) → M' c k = M c k) → syf R F n tp d p i row = .inr (m, g) → (∀ k, k < m → ∀ j, j < 4 → M' (176 + k) j = nI (g (4 * k + j))) → Q (nI m) M') → P_X7_readSayings_8 M (nI R) (nI F) 175 (nI i) Q := by
  have hn := O.1
  intro d
  induction d with
  | zero => intro p i row M hd h1; omega
  | succ d ih =>
    intro p i row M hd h1 hp P e2 G K1 K2
    refine T_X7_readSayings_8 ra_175 ?_
    simp (disch := omega) only [ix_n, vin, wr_eq, n_le, n_add, true_and]
    have hb := sk_bd (n := n) (tp := tp) _ p rfl hp
    refine ⟨fun w => absurd w (by omega), fun _ => ⟨by omega, s_letter O hF hp P e2 (fun q1 M1 f1 g1 g1' => ⟨by decide, fun _ => ?_, fun w => absurd ((n_ge0 (by have := O.2 _ (ltB_t q1).1; omega)).mpr trivial) w⟩) (fun q1 M1 f1 g1' => ⟨by decide, fun w => absurd w (by decide), fun _ => T_X7_fault ?_⟩)⟩⟩
    rotate_left
    · rw [wr_nc _ _ _ _ (by omega), g1']
      exact K1 _ _ (fun c k w w2 => by rw [wr_nc _ _ _ _ (by omega)]; exact f1 c k w) (by rw [syf, if_pos q1])
    have l1 := ltB_t q1
    have t1 := O.2 _ l1.1
    have b1 := sk_bd (n := n) (tp := tp) _ (sk n tp p + 1) rfl (by omega)
    refine s_letter O hF (p := sk n tp p + 1) (by omega) (P.congr (fun c k w => by rw [wr_nc _ _ _ _ (by omega)]; exact f1 c k (by omega))) (by rw [wr_nc _ _ _ _ (by omega)]; exact g1) (fun q2 M2 f2 g2 g2' => ⟨by decide, fun _ => ?_, fun w => absurd ((n_ge0 (by have := O.2 _ (ltB_t q2).1; omega)).mpr trivial) w⟩) (fun q2 M2 f2 g2' => ⟨by decide, fun w => absurd w (by decide), fun _ => T_X7_fault ?_⟩)
    rotate_left
    · rw [wr_nc _ _ _ _ (by omega), g2']
      exact K1 _ _ (fun c k w w2 => by rw [wr_nc _ _ _ _ (by omega), f2 c k w, wr_nc _ _ _ _ (by omega)]; exact f1 c k w) (by rw [syf, if_neg (by rw [q1]; decide), if_pos q2])
    have l2 := ltB_t q2
    have t2 := O.2 _ l2.1
    have b2 := sk_bd (n := n) (tp := tp) _ (sk n tp (sk n tp p + 1) + 1) rfl (by omega)
    refine s_letter O hR (p := sk n tp (sk n tp p + 1) + 1) (by omega) (P.congr (fun c k w => by rw [wr_nc _ _ _ _ (by omega), f2 c k (by omega), wr_nc _ _ _ _ (by omega)]; exact f1 c k (by omega))) (by rw [wr_nc _ _ _ _ (by omega)]; exact g2) (fun q3 M3 f3 g3 g3' => ⟨by decide, fun _ => ?_, fun w => absurd ((n_ge0 (by have := O.2 _ (ltB_t q3).1; omega)).mpr trivial) w⟩) (fun q3 M3 f3 g3' => ⟨by decide, fun w => absurd w (by decide), fun _ => T_X7_fault ?_⟩)
    rotate_left
    · rw [wr_nc _ _ _ _ (by omega), g3']
      exact K1 _ _ (fun c k w w2 => by rw [wr_nc _ _ _ _ (by omega), f3 c k w, wr_nc _ _ _ _ (by omega), f2 c k w, wr_nc _ _ _ _ (by omega)]; exact f1 c k w) (by rw [syf, if_neg (by rw [q1]; decide), if_neg (by rw [q2]; decide), if_pos q3])
    have l3 := ltB_t q3
    have t3 := O.2 _ l3.1
    have b3 := sk_bd (n := n) (tp := tp) _ (sk n tp (sk n tp (sk n tp p + 1) + 1) + 1) rfl (by omega)
    have b4 := nE_bd (n := n) (tp := tp) (p := sk n tp (sk n tp (sk n tp p + 1) + 1) + 1) (by omega)
    have b5 := sk_bd (n := n) (tp := tp) _ (nE n tp (sk n tp (sk n tp (sk n tp p + 1) + 1) + 1)).1 rfl b4.2
    refine s_number O (by omega) (by omega) (p := sk n tp (sk n tp (sk n tp p + 1) + 1) + 1) (by omega) (P.congr (fun c k w => by rw [wr_nc _ _ _ _ (by omega), f3 c k (by omega), wr_nc _ _ _ _ (by omega), f2 c k (by omega), wr_nc _ _ _ _ (by omega)]; exact f1 c k (by omega))) (by rw [wr_nc _ _ _ _ (by omega)]; exact g3) (fun q4 M4 f4 g4 g4' => ⟨by decide, fun _ => ?_, fun w => absurd ((n_ge0 (by have := nmB_t q4; unfold nE at this; omega)).mpr trivial) w⟩) (fun q4 M4 f4 g4' => ⟨by decide, fun w => absurd w (by decide), fun _ => T_X7_fault ?_⟩)
    rotate_left
    · rw [wr_nc _ _ _ _ (by omega), g4']
      exact K1 _ _ (fun c k w w2 => by rw [wr_nc _ _ _ _ (by omega), f4 c k w, wr_nc _ _ _ _ (by omega), f3 c k w, wr_nc _ _ _ _ (by omega), f2 c k w, wr_nc _ _ _ _ (by omega)]; exact f1 c k w) (by rw [syf, if_neg (by rw [q1]; decide), if_neg (by rw [q2]; decide), if_neg (by rw [q3]; decide), if_pos q4])
    have g4 : M4 85 2 = nI (nE n tp (sk n tp (sk n tp (sk n tp p + 1) + 1) + 1)).1 := g4
    refine s_peek O b4.2 (P.congr (fun c k w => by rw [wr_nc _ _ _ _ (by omega), f4 c k (by omega), wr_nc _ _ _ _ (by omega), f3 c k (by omega), wr_nc _ _ _ _ (by omega), f2 c k (by omega), wr_nc _ _ _ _ (by omega)]; exact f1 c k (by omega))) (by rw [wr_nc _ _ _ _ (by omega)]; exact g4) (fun M5 f5 g5 g6 => ?_)
    have fr : ∀ c k, ¬ (c = 85 ∧ (k = 2 ∨ k = 3)) → ¬ (176 ≤ c ∧ c ≤ 181) → M5 c k = M c k := fun c k w w2 => by rw [f5 c k w, wr_nc _ _ _ _ (by omega), f4 c k w, wr_nc _ _ _ _ (by omega), f3 c k w, wr_nc _ _ _ _ (by omega), f2 c k w, wr_nc _ _ _ _ (by omega)]; exact f1 c k w
    have rw_ : ∀ k, k < i + 1 → ∀ j, j < 4 → M5 (176 + k) j = nI (rowN n tp p i row (4 * k + j)) := by
      intro k hk j hj
      rw [f5 _ _ (by omega)]
      unfold rowN
      by_cases e : k = i
      · subst e
        rcases (show j = 0 ∨ j = 1 ∨ j = 2 ∨ j = 3 by omega) with w | w | w | w <;> subst w
        · rw [if_pos (by omega), wr_nk _ _ _ _ (by omega), f4 _ _ (by omega), wr_nk _ _ _ _ (by omega), f3 _ _ (by omega), wr_nk _ _ _ _ (by omega), f2 _ _ (by omega), wr_eq]
        · rw [if_neg (by omega), if_pos (by omega), wr_nk _ _ _ _ (by omega), f4 _ _ (by omega), wr_nk _ _ _ _ (by omega), f3 _ _ (by omega), wr_eq]
        · rw [if_neg (by omega), if_neg (by omega), if_pos (by omega), wr_nk _ _ _ _ (by omega), f4 _ _ (by omega), wr_eq]
        · rw [if_neg (by omega), if_neg (by omega), if_neg (by omega), if_pos (by omega), wr_eq]; rfl
      · rw [if_neg (by omega), if_neg (by omega), if_neg (by omega), if_neg (by omega), wr_nc _ _ _ _ (by omega), f4 _ _ (by omega), wr_nc _ _ _ _ (by omega), f3 _ _ (by omega), wr_nc _ _ _ _ (by omega), f2 _ _ (by omega), wr_nc _ _ _ _ (by omega), f1 _ _ (by omega)]
        exact G k (by omega) j hj
    by_cases q5 : sk n tp (nE n tp (sk n tp (sk n tp (sk n tp p + 1) + 1) + 1)).1 < n
    · have t5 := O.2 _ q5
      rw [if_pos q5]
      refine ⟨fun _ => ?_, fun w => absurd ((n_ge0 (by omega)).mpr trivial) w⟩
      rw [n_eq (by omega) (by omega), g5, n_add]
      refine ⟨fun q6 => ?_, fun q6 => T_X7_fault ?_⟩
      · by_cases hd0 : d = 0
        · refine T_X7_readSayings_8 ra_175 ?_
          rw [n_le (by omega) (by omega)]
          refine ⟨fun _ => T_X7_fault ?_, fun w => absurd (by omega) w⟩
          rw [wr_nk _ _ _ _ (by omega), g6]
          exact K1 _ _ (fun c k w w2 => by rw [← fr c k w w2]; exact (by simp only [wr]; repeat rw [if_neg (by omega)])) (by rw [syf, if_neg (by rw [q1]; decide), if_neg (by rw [q2]; decide), if_neg (by rw [q3]; decide), if_neg (by rw [q4]; decide), if_pos q5, if_neg (fun w => w.2 hd0)])
        · have ew : syf R F n tp (d + 1) p i row = syf R F n tp d (sk n tp (nE n tp (sk n tp (sk n tp (sk n tp p + 1) + 1) + 1)).1 + 1) (i + 1) (rowN n tp p i row) := by rw [syf, if_neg (by rw [q1]; decide), if_neg (by rw [q2]; decide), if_neg (by rw [q3]; decide), if_neg (by rw [q4]; decide), if_pos q5, if_pos ⟨q6, hd0⟩]
          exact ih _ (i + 1) (rowN n tp p i row) _ (by omega) (by omega) (by omega) (P.congr (fun c k w => by rw [← fr c k (by omega) (by omega)]; exact (by simp only [wr]; repeat rw [if_neg (by omega)]))) (wr_eq _ _ _ _) (fun k hk j hj => by rw [wr_nc _ _ _ _ (by omega)]; exact rw_ k hk j hj) (fun M' f w w2 => K1 M' f (fun c k v v2 => by rw [w c k v v2, ← fr c k v v2]; exact (by simp only [wr]; repeat rw [if_neg (by omega)])) (ew.trans w2)) (fun M' m g w w2 w3 => K2 M' m g (fun c k v v2 => by rw [w c k v v2, ← fr c k v v2]; exact (by simp only [wr]; repeat rw [if_neg (by omega)])) (ew.trans w2) w3)
      · rw [g6]
        exact K1 _ _ fr (by rw [syf, if_neg (by rw [q1]; decide), if_neg (by rw [q2]; decide), if_neg (by rw [q3]; decide), if_neg (by rw [q4]; decide), if_pos q5, if_neg (fun w => q6 w.1)])
    · rw [if_neg q5]
      refine ⟨fun w => absurd w (by decide), fun _ => K2 M5 _ _ fr ?_ rw_⟩
      rw [syf, if_neg (by rw [q1]; decide), if_neg (by rw [q2]; decide), if_neg (by rw [q3]; decide), if_neg (by rw [q4]; decide), if_neg q5]
