/-! ===== sayings ===== -/
def tN (t : TS) (g : Nat → Nat) : Nat → TS
  | 0 => t
  | m + 1 => tadd (tN t g m) (g (4 * m)) (g (4 * m + 1)) (g (4 * m + 2)) (g (4 * m + 3))
theorem tN_c (t : TS) (g : Nat → Nat) : ∀ m, (tN t g m).1 = t.1 ∧ (tN t g m).2.1 = t.2.1 ∧ (tN t g m).2.2.1 = t.2.2.1 + m ∧ (tN t g m).2.2.2.2 = t.2.2.2.2 ∧ (∀ k, k < t.2.2.1 → ∀ j, (tN t g m).2.2.2.1 k j = t.2.2.2.1 k j) ∧ ∀ k, k < m → ∀ j, j < 4 → (tN t g m).2.2.2.1 (t.2.2.1 + k) j = g (4 * k + j) := by
  intro m
  induction m with
  | zero => exact ⟨rfl, rfl, rfl, rfl, fun _ _ _ => rfl, fun k hk => absurd hk (by omega)⟩
  | succ m ih =>
    obtain ⟨h1, h2, h3, h4, h5, h6⟩ := ih
    refine ⟨h1, h2, ?_, h4, fun k hk j => ?_, fun k hk j hj => ?_⟩
    · show (tN t g m).2.2.1 + 1 = _; omega
    · show sy1 (tN t g m) _ _ _ _ k j = _
      unfold sy1
      rw [if_neg (by omega)]; exact h5 k hk j
    · show sy1 (tN t g m) _ _ _ _ (t.2.2.1 + k) j = _
      unfold sy1
      by_cases e : k = m
      · subst e
        rw [if_pos (by omega)]
        rcases (show j = 0 ∨ j = 1 ∨ j = 2 ∨ j = 3 by omega) with w | w | w | w <;> subst w <;> rfl
      · rw [if_neg (by omega)]; exact h6 k (by omega) j hj
theorem tN_O {t : TS} {R : Nat} (O : TO t R) {g : Nat → Nat} {m : Nat} (hm : t.2.2.1 + m ≤ 12) (hg : ∀ k, k < m → g (4 * k) < t.1 ∧ g (4 * k + 1) < t.1 ∧ g (4 * k + 2) < R ∧ g (4 * k + 3) < 24) : ∀ i, i ≤ m → TO (tN t g i) R := by
  intro i
  induction i with
  | zero => intro _; exact O
  | succ i ih =>
    intro hi
    obtain ⟨h1, h2, h3, h4⟩ := hg i (by omega)
    have c := tN_c t g i
    exact (ih (by omega)).add (by rw [c.2.2.1]; omega) (by rw [c.1]; exact h1) (by rw [c.1]; exact h2) h3 h4
theorem syf_l {R F n : Nat} {tp : Nat → Nat} {f : Nat} : ∀ d p i row, p ≤ n → syf R F n tp d p i row = .inl f → f ≤ n := by
  intro d
  induction d with
  | zero => intro p i row hp e; rw [syf] at e; cases e; omega
  | succ d ih =>
    intro p i row hp e
    have hb := sk_bd (n := n) (tp := tp) _ p rfl hp
    rw [syf] at e
    split at e
    · cases e; exact hb.2
    rename_i q1
    have l1 := ltB_t (show ltB n tp F p = true from by simpa using q1)
    have b1 := sk_bd (n := n) (tp := tp) _ (sk n tp p + 1) rfl (by omega)
    split at e
    · cases e; exact b1.2
    rename_i q2
    have l2 := ltB_t (show ltB n tp F (sk n tp p + 1) = true from by simpa using q2)
    have b2 := sk_bd (n := n) (tp := tp) _ (sk n tp (sk n tp p + 1) + 1) rfl (by omega)
    split at e
    · cases e; exact b2.2
    rename_i q3
    have l3 := ltB_t (show ltB n tp R (sk n tp (sk n tp p + 1) + 1) = true from by simpa using q3)
    have b3 := sk_bd (n := n) (tp := tp) _ (sk n tp (sk n tp (sk n tp p + 1) + 1) + 1) rfl (by omega)
    have b4 := nE_bd (n := n) (tp := tp) (p := sk n tp (sk n tp (sk n tp p + 1) + 1) + 1) (by omega)
    have b5 := sk_bd (n := n) (tp := tp) _ (nE n tp (sk n tp (sk n tp (sk n tp p + 1) + 1) + 1)).1 rfl b4.2
    split at e
    · cases e; exact b3.2
    split at e
    · split at e
      · exact ih _ _ _ (by omega) e
      · cases e; exact b5.2
    · cases e
def rOK (R F : Nat) (g : Nat → Nat) (m : Nat) : Prop := ∀ k, k < m → g (4 * k) < F ∧ g (4 * k + 1) < F ∧ g (4 * k + 2) < R ∧ g (4 * k + 3) < 24
theorem syf_r {R F n : Nat} {tp : Nat → Nat} {m : Nat} {g : Nat → Nat} : ∀ d p i row, rOK R F row i → syf R F n tp d p i row = .inr (m, g) → rOK R F g m := by
  intro d
  induction d with
  | zero => intro p i row hp e; rw [syf] at e; cases e
  | succ d ih =>
    intro p i row hr e
    rw [syf] at e
    split at e
    · cases e
    rename_i q1
    have l1 := ltB_t (show ltB n tp F p = true from by simpa using q1)
    split at e
    · cases e
    rename_i q2
    have l2 := ltB_t (show ltB n tp F (sk n tp p + 1) = true from by simpa using q2)
    split at e
    · cases e
    rename_i q3
    have l3 := ltB_t (show ltB n tp R (sk n tp (sk n tp p + 1) + 1) = true from by simpa using q3)
    split at e
    · cases e
    rename_i q4
    have l4 := nmB_t (show nmB n tp 0 23 (sk n tp (sk n tp (sk n tp p + 1) + 1) + 1) = true from by simpa using q4)
    have nx : rOK R F (rowN n tp p i row) (i + 1) := by
      intro k hk
      unfold rowN
      by_cases w : k = i
      · subst w
        rw [if_pos rfl, if_neg (by omega), if_pos rfl, if_neg (by omega), if_neg (by omega), if_pos rfl, if_neg (by omega), if_neg (by omega), if_neg (by omega), if_pos rfl]
        omega
      · have := hr k (by omega)
        rw [if_neg (by omega), if_neg (by omega), if_neg (by omega), if_neg (by omega), if_neg (by omega), if_neg (by omega), if_neg (by omega), if_neg (by omega), if_neg (by omega), if_neg (by omega), if_neg (by omega), if_neg (by omega), if_neg (by omega), if_neg (by omega), if_neg (by omega), if_neg (by omega)]
        exact this
    split at e
    · split at e
      · exact ih _ _ _ nx e
      · cases e
    · cases e; exact nx
theorem syf_m {R F n : Nat} {tp : Nat → Nat} {m : Nat} {g : Nat → Nat} : ∀ d p i row, syf R F n tp d p i row = .inr (m, g) → m ≤ i + d := by
  intro d
  induction d with
  | zero => intro p i row e; rw [syf] at e; cases e
  | succ d ih =>
    intro p i row e
    rw [syf] at e
    split at e
    · cases e
    split at e
    · cases e
    split at e
    · cases e
    split at e
    · cases e
    split at e
    · split at e
      · have := ih _ _ _ e; omega
      · cases e
    · cases e; omega
theorem flt_neg : ∀ f, f < 81 → ¬ (0 ≤ -20 - nI f) := by decide
theorem l_sy58 {t : TS} {g : Nat → Nat} {m : Nat} (hm : m ≤ 6) (hY : t.2.2.1 + m ≤ 12) {Q : Int32 → Mem → Prop} : ∀ d i M, m - i = d → i ≤ m → TC 37 M (tN t g i) → (∀ k, k < m → ∀ j, j < 4 → M (176 + k) j = nI (g (4 * k + j))) → (∀ M', (∀ c j, ¬ (37 ≤ c ∧ c ≤ 42) → M' c j = M c j) → TC 37 M' (tN t g m) → Q (nI m) M') → P_X9_sayings_58 M (nI m) (nI i) Q := by
  intro d
  induction d with
  | zero =>
    intro i M hd hi T G K
    refine T_X9_sayings_58 ?_
    rw [n_le (by omega) (by omega)]
    have : i = m := by omega
    subst this
    exact ⟨fun _ => K M (fun _ _ _ => rfl) T, fun w => absurd (Nat.le_refl _) w⟩
  | succ d ih =>
    intro i M hd hi T G K
    refine T_X9_sayings_58 ?_
    simp (disch := omega) only [ix_n, vin, n_le, n_add]
    have i0 := G i (by omega) 0 (by omega)
    rw [Nat.add_zero] at i0
    rw [show 175 + 1 + i = 176 + i by omega, i0, G i (by omega) 1 (by omega), G i (by omega) 2 (by omega), G i (by omega) 3 (by omega)]
    refine ⟨fun w => absurd w (by omega), fun _ => ⟨by omega, s_addSaying T (by rw [(tN_c t g i).2.2.1]; omega) (fun M1 f1 s1 => ?_)⟩⟩
    exact ih (i + 1) M1 (by omega) (by omega) s1 (fun k hk j hj => by rw [f1 _ _ (by omega)]; exact G k hk j hj) (fun M' f u => K M' (fun c j w => by rw [f c j w, f1 c j w]) u)
theorem l_sy198 {Y m : Nat} (hm : m ≤ 6) (hY : Y + m ≤ 12) {Q : Int32 → Mem → Prop} : ∀ d i M, 4 * m - i = d → i ≤ 4 * m → M 182 30 = nI Y → (∀ M', (∀ c k, ¬ (c = 201 ∧ 4 * Y + i ≤ k) → M' c k = M c k) → (∀ k, i ≤ k → k < 4 * m → M' 201 (4 * Y + k) = M 202 k) → Q (nI m) (wr M' 182 30 (nI (Y + m)))) → P_X10_sayings_198 M (nI m) (nI i) Q := by
  intro d
  induction d with
  | zero =>
    intro i M hd hi g K
    refine T_X10_sayings_198 ?_
    rw [n_mul, n_le (by omega) (by omega), g, n_add Y m]
    exact ⟨fun _ => K M (fun _ _ _ => rfl) (fun k w w2 => absurd w (by omega)), fun w => absurd (by omega) w⟩
  | succ d ih =>
    intro i M hd hi g K
    refine T_X10_sayings_198 ?_
    rw [g]
    simp (disch := omega) only [n_mul, n_add, vin, ix_n, n_le]
    refine ⟨fun w => absurd w (by omega), fun _ => ⟨by omega, by omega, ih (i + 1) _ (by omega) (by omega) (by rw [wr_nc _ _ _ _ (by omega)]; exact g) (fun M' f u => K M' (fun c k w => by rw [f c k (by omega)]; exact (by simp only [wr]; repeat rw [if_neg (by omega)])) (fun k w w2 => ?_))⟩⟩
    by_cases q : k = i
    · subst q; rw [f _ _ (by omega), wr_eq]
    · rw [u k (by omega) w2, wr_nc _ _ _ _ (by omega)]
theorem b_sayings {M : Mem} (C : Cpl M) : C_X9_sayings M (fun r M1 => C_X10_sayings M1 (fun r' M2 => r = r' ∧ Cpl M2)) := by
  obtain ⟨h, s, t, n, tp, x, kx, I, J, O⟩ := C
  have hn := O.2.2.2.1.1
  have hR := O.1.1
  have hF := O.2.2.1.1
  have hY := O.2.2.1.2.1
  have O0 : IO h s t 0 tp x kx := ⟨O.1, O.2.1, O.2.2.1, ⟨by omega, fun i hi => absurd hi (by omega)⟩, O.2.2.2.2⟩
  have mst : ∀ (N : Mem) {A : Int32 → Mem → Prop}, IM N h s t n tp x kx → (∀ M' f, (∀ c k, sfr c k → M' c k = N c k) → syf h.1 t.1 n tp 6 0 0 (fun _ => 0) = .inl f → M' 182 7 = nI 0 → A (-20 - nI f) M') → (∀ M' m g, (∀ c k, ¬ (c = 182 ∧ (k = 8 ∨ k = 9)) → c ≠ 202 → M' c k = N c k) → syf h.1 t.1 n tp 6 0 0 (fun _ => 0) = .inr (m, g) → m ≤ 6 → (∀ k, k < 4 * m → M' 202 k = nI (g k)) → P_X10_sayings_159 M' (nI m) (nI 0) A) → C_X10_sayings N A := by
    intro N A JN K1 K2
    have fr : ∀ c k, ¬ (c = 182 ∧ (k = 8 ∨ k = 9)) → wr (wr N 182 8 (nI 0)) 182 9 (nI 0) c k = N c k := fun c k w => (by simp only [wr]; repeat rw [if_neg (by omega)])
    refine T_X10_sayings (l_says14 (R := h.1) (F := t.1) (n := n) (tp := tp) hR (by omega) O.2.2.2.1 6 0 0 (fun _ => 0) _ (by omega) (by omega) (by omega) (JN.2.2.2.1.congr (fun c k w => fr c k (by omega))) (by rw [fr _ _ (by omega)]; exact JN.1.1) (by rw [fr _ _ (by omega)]; exact JN.2.2.1.1) (wr_eq _ _ _ _) (by rw [wr_nk _ _ _ _ (by omega), wr_eq]) (fun k hk => absurd hk (by omega)) (fun M' f w w2 w3 => K1 M' f (fun c k v => by rw [w c k v]; exact fr c k (by unfold sfr at v; omega)) w2 w3) (fun M' m g w w2 w3 w4 => K2 M' m g (fun c k v v2 => by rw [w c k v v2]; exact fr c k v) w2 w3 w4))
  have frR : ∀ c k, ¬ (c = 85 ∧ (k = 2 ∨ k = 3)) → wr M 85 2 (nI 0) c k = M c k := fun c k w => (by simp only [wr]; repeat rw [if_neg (by omega)])
  refine T_X9_sayings ?_
  rw [I.1.1, I.2.2.2.1.1]
  refine T_X7_readSayings ra_175 (l_readSayings (R := h.1) (F := t.1) (n := n) (tp := tp) hR (by omega) O.2.2.2.1 6 0 0 (fun _ => 0) _ (by omega) (by omega) (by omega) (I.2.2.2.2.1.congr (fun c k w => frR c k (by omega))) (wr_eq _ _ _ _) (fun k hk => absurd hk (by omega)) (fun M0 f f0 e => T_X7_clear ⟨fun w => absurd w (flt_neg f (by have := syf_l _ _ _ _ (by omega) e; omega)), fun _ => ?_⟩) (fun M0 m g f0 e pt => T_X7_clear ⟨fun _ => ?_, fun w => ?_⟩))
  · have I0 : IC (wr M0 85 0 (nI 0)) h s t 0 tp x kx := I.tape O ⟨wr_eq _ _ _ _, fun i hi => absurd hi (by omega)⟩ (fun c k w => by rw [wr_nc _ _ _ _ (by omega), f0 c k (by omega) (by omega)]; exact frR c k (by omega))
    have J0 : IM (wr M0 85 0 (nI 0)) h s t n tp x kx := J.far (fun c k w => by rw [wr_nc _ _ _ _ (by omega), f0 c k (by omega) (by omega)]; exact frR c k (by omega))
    refine mst _ J0 (fun M1 f' f1 e' p7 => ?_) (fun M1 m g f1 e' _ _ => by rw [e] at e'; cases e')
    rw [e] at e'
    cases e'
    exact ⟨rfl, h, s, t, 0, tp, x, kx, I0.far O0 (fun c k w => f1 c k (by unfold sfr; omega)), J0.tape ⟨p7, fun i hi => absurd hi (by omega)⟩ (fun c k w => f1 c k (by unfold sfr; omega)), O0⟩
  · have I0 : IC (wr M0 85 0 (nI 0)) h s t 0 tp x kx := I.tape O ⟨wr_eq _ _ _ _, fun i hi => absurd hi (by omega)⟩ (fun c k w => by rw [wr_nc _ _ _ _ (by omega), f0 c k (by omega) (by omega)]; exact frR c k (by omega))
    have J0 : IM (wr M0 85 0 (nI 0)) h s t n tp x kx := J.far (fun c k w => by rw [wr_nc _ _ _ _ (by omega), f0 c k (by omega) (by omega)]; exact frR c k (by omega))
    have hm : m ≤ 6 := by have := syf_m _ _ _ _ e; omega
    have pt1 : ∀ k, k < m → ∀ j, j < 4 → wr M0 85 0 (nI 0) (176 + k) j = nI (g (4 * k + j)) := fun k hk j hj => by rw [wr_nc _ _ _ _ (by omega)]; exact pt k hk j hj
    generalize wr M0 85 0 (nI 0) = N at I0 J0 pt1
    have e2 : N 37 1 = nI t.2.2.1 := I0.2.2.2.1.2.1
    rw [e2, n_add, n_le (by omega) (by omega)]
    refine ⟨fun q => l_sy58 (t := t) (g := g) hm q _ 0 N rfl (by omega) I0.2.2.2.1 pt1 (fun M1 f1 s1 => ?_), fun q => mst _ J0 (fun M1 f' f1 e' _ => by rw [e] at e'; cases e') (fun M2 m' g' f2 e' _ _ => ?_)⟩
    · have I1 := I0.talk O0 s1 (fun c k w => f1 c k (by omega))
      have J1 : IM M1 h s t n tp x kx := J0.far (fun c k w => f1 c k (by omega))
      have O' : IO h s (tN t g m) 0 tp x kx := ⟨O.1, O.2.1, tN_O O.2.2.1 q (syf_r _ _ _ _ (fun k hk => absurd hk (by omega)) e) m (by omega), O0.2.2.2⟩
      refine mst M1 J1 (fun M2 f' f2 e' _ => by rw [e] at e'; cases e') (fun M2 m' g' f2 e' _ pg => ?_)
      rw [e] at e'
      cases e'
      have J2 : IM (wr (wr M2 182 9 (nI 0)) 182 7 (nI 0)) h s t 0 tp x kx := J1.tape ⟨wr_eq _ _ _ _, fun i hi => absurd hi (by omega)⟩ (fun c k w => by rw [wr, if_neg (by omega), wr, if_neg (by omega)]; exact f2 c k (by omega) (by omega))
      have e30 : M2 182 30 = nI t.2.2.1 := by rw [f2 _ _ (by omega) (by omega)]; exact J1.2.2.1.2.1
      refine T_X10_sayings_159 ⟨Or.inl nI_0, fun _ => ?_, fun w => absurd nI_0 w⟩
      rw [e30, n_add, n_le (by omega) (by omega)]
      refine ⟨fun _ => l_sy198 (Y := t.2.2.1) hm q _ 0 _ rfl (by omega) (by rw [wr_nk _ _ _ _ (by omega), wr_nk _ _ _ _ (by omega)]; exact e30) (fun M3 f3 u3 => ⟨rfl, h, s, tN t g m, 0, tp, x, kx, I1.far O' (fun c k w => ?_), ?_, O'⟩), fun w => absurd q w⟩
      · rw [wr_nc _ _ _ _ (by omega), f3 c k (by omega), wr_nc _ _ _ _ (by omega), wr_nc _ _ _ _ (by omega)]; exact f2 c k (by omega) (by omega)
      · obtain ⟨d1, d2, d3, d4, d5, d6⟩ := J2.2.2.1
        obtain ⟨c1, c2, c3, c4, c5, c6⟩ := tN_c t g m
        refine J2.talk ⟨?_, ?_, ?_, ?_, ?_, ?_⟩ (fun c k w => by rw [wr, if_neg (by omega)]; exact f3 c k (by omega))
        · rw [c1, wr_nk _ _ _ _ (by omega), f3 _ _ (by omega)]; exact d1
        · rw [c3, wr_eq]
        · rw [c4, wr_nk _ _ _ _ (by omega), f3 _ _ (by omega)]; exact d3
        · rw [c4, wr_nk _ _ _ _ (by omega), wr_nk _ _ _ _ (by omega), f3 _ _ (by omega), f3 _ _ (by omega)]; exact d4
        · rw [c1, c2]
          intro i hi
          rw [wr_nc _ _ _ _ (by omega), f3 _ _ (by omega)]; exact d5 i hi
        · rw [c3]
          intro k hk j hj
          by_cases w : k < t.2.2.1
          · rw [c5 k w, wr_nc _ _ _ _ (by omega), f3 _ _ (by omega)]; exact d6 k w j hj
          · obtain ⟨k', rfl⟩ : ∃ k', k = t.2.2.1 + k' := ⟨k - t.2.2.1, by omega⟩
            have u := u3 (4 * k' + j) (by omega) (by omega)
            rw [wr_nc _ _ _ _ (by omega), wr_nc _ _ _ _ (by omega), pg _ (by omega), show 4 * t.2.2.1 + (4 * k' + j) = 4 * (t.2.2.1 + k') + j by omega] at u
            rw [c6 k' (by omega) j hj, wr_nc _ _ _ _ (by omega)]
            exact u
    · rw [e] at e'
      cases e'
      have e30 : M2 182 30 = nI t.2.2.1 := by rw [f2 _ _ (by omega) (by omega)]; exact J0.2.2.1.2.1
      refine T_X10_sayings_159 ⟨Or.inl nI_0, fun _ => ?_, fun w => absurd nI_0 w⟩
      rw [e30, n_add, n_le (by omega) (by omega)]
      refine ⟨fun w => absurd w q, fun _ => ⟨rfl, h, s, t, 0, tp, x, kx, I0.far O0 (fun c k w => ?_), J0.tape ⟨wr_eq _ _ _ _, fun i hi => absurd hi (by omega)⟩ (fun c k w => by rw [wr, if_neg (by omega), wr, if_neg (by omega)]; exact f2 c k (by omega) (by omega)), O0⟩⟩
      rw [wr_nc _ _ _ _ (by omega), wr_nc _ _ _ _ (by omega)]; exact f2 c k (by omega) (by omega)
  · have hm : m ≤ 6 := by have := syf_m _ _ _ _ e; omega
    exact absurd ((n_ge0 (by omega)).mpr trivial) w
