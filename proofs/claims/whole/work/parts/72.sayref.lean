/-! ===== the reference reads sayings ===== -/
def sfr (c k : Nat) : Prop := ¬ (c = 182 ∧ (k = 7 ∨ k = 8 ∨ k = 9)) ∧ c ≠ 202
def G7 (i : Nat) (Q : Int32 → Mem → Prop) (r7 : Int32) (M7 : Mem) : Prop := vp_in (((nI 4) * nI i) + (nI 3)) 24 ∧ (((¬ (M7 182 9) = 0) → ((((nI 0) = 0) → (P_X10_sayings_14 (wr (wr M7 202 (ix (((nI 4) * nI i) + (nI 3))) r7) 182 8 ((M7 182 8) + (nI 0))) (nI i + (nI 1)) (nI 0) Q)) ∧ ((¬ (nI 0) = 0) → (P_X10_sayings_14 (wr (wr M7 202 (ix (((nI 4) * nI i) + (nI 3))) r7) 182 8 ((M7 182 8) + (nI 1))) (nI i + (nI 1)) (nI 0) Q)))) ∧ (((M7 182 9) = 0) → ((((nI 6) ≤ (nI i + (nI 1))) → ((((nI 0) = 0) → (P_X10_sayings_14 (wr (wr M7 202 (ix (((nI 4) * nI i) + (nI 3))) r7) 182 8 ((M7 182 8) + (nI 0))) (nI i + (nI 1)) (nI 0) Q)) ∧ ((¬ (nI 0) = 0) → (P_X10_sayings_14 (wr (wr M7 202 (ix (((nI 4) * nI i) + (nI 3))) r7) 182 8 ((M7 182 8) + (nI 1))) (nI i + (nI 1)) (nI 0) Q)))) ∧ ((¬ (nI 6) ≤ (nI i + (nI 1))) → (C_X10_here (wr M7 202 (ix (((nI 4) * nI i) + (nI 3))) r7) (fun r11 M11 => ((¬ r11 = (nI 59)) → ((((nI 0) = 0) → (P_X10_sayings_14 (wr M11 182 8 ((M11 182 8) + (nI 0))) (nI i + (nI 1)) (nI 0) Q)) ∧ ((¬ (nI 0) = 0) → (P_X10_sayings_14 (wr M11 182 8 ((M11 182 8) + (nI 1))) (nI i + (nI 1)) (nI 0) Q)))) ∧ ((r11 = (nI 59)) → ((((nI 1) = 0) → (P_X10_sayings_14 (wr M11 182 8 ((M11 182 8) + (nI 0))) (nI i + (nI 1)) (nI 1) Q)) ∧ ((¬ (nI 1) = 0) → (P_X10_sayings_14 (wr M11 182 8 ((M11 182 8) + (nI 1))) (nI i + (nI 1)) (nI 1) Q))))))))))
def G5 (i : Nat) (Q : Int32 → Mem → Prop) (r5 : Int32) (M5 : Mem) : Prop := vp_in (((nI 4) * nI i) + (nI 2)) 24 ∧ (C_X10_number (wr M5 202 (ix (((nI 4) * nI i) + (nI 2))) r5) (nI 0) (nI 23) (fun r7 M7 => G7 i Q r7 M7))
def G3 (i : Nat) (Q : Int32 → Mem → Prop) (r3 : Int32) (M3 : Mem) : Prop := vp_in (((nI 4) * nI i) + (nI 1)) 24 ∧ (C_X10_letter (wr M3 202 (ix (((nI 4) * nI i) + (nI 1))) r3) (M3 182 0) (fun r5 M5 => G5 i Q r5 M5))
def G1 (i : Nat) (Q : Int32 → Mem → Prop) (r1 : Int32) (M1 : Mem) : Prop := vp_in ((nI 4) * nI i) 24 ∧ (C_X10_letter (wr M1 202 (ix ((nI 4) * nI i)) r1) (M1 182 28) (fun r3 M3 => G3 i Q r3 M3))
theorem l_s159F {M : Mem} {a1 : Int32} {f : Nat} {Q : Int32 → Mem → Prop} (e8 : M 182 8 = nI f) (K : ∀ M', (∀ c k, sfr c k → M' c k = M c k) → M' 182 7 = nI 0 → Q (-20 - nI f) M') : P_X10_sayings_159 M a1 (nI 1) Q := by
  refine T_X10_sayings_159 ⟨Or.inr rfl, fun w => absurd w nI1n0, fun _ => ?_⟩
  rw [e8]
  exact K _ (fun c k w => by unfold sfr at w; exact (by simp only [wr]; repeat rw [if_neg (by omega)])) (wr_eq _ _ _ _)
theorem l_s14F {M : Mem} {a1 : Int32} {f : Nat} {Q : Int32 → Mem → Prop} (e9 : M 182 9 = nI 1) (e8 : M 182 8 = nI f) (K : ∀ M', (∀ c k, sfr c k → M' c k = M c k) → M' 182 7 = nI 0 → Q (-20 - nI f) M') : P_X10_sayings_14 M a1 (nI 0) Q :=
  T_X10_sayings_14 ⟨fun _ => ⟨fun _ => l_s159F e8 K, fun w => absurd (e9.symm.trans w) nI1n0⟩, fun w => absurd nI_0 w⟩
theorem m_letterF {M : Mem} {a : Int32} (e9 : M 182 9 = nI 1) {Q : Int32 → Mem → Prop} (K : ∀ M', (∀ c k, ¬ (c = 182 ∧ (k = 8 ∨ k = 9)) → M' c k = M c k) → M' 182 9 = nI 1 → M' 182 8 = M 182 8 → Q (nI 0) M') : C_X10_letter M a Q :=
  T_X10_letter ⟨fun _ => ⟨fun w => absurd w nI1n0, fun _ => ⟨fun w => absurd w nI1n0, fun _ => K _ (fun c k w => (by simp only [wr]; repeat rw [if_neg (by omega)])) (by rw [wr_nk _ _ _ _ (by omega), wr_eq]) (by rw [wr_eq]; exact Int32.add_zero _)⟩⟩, fun w => absurd (e9.symm.trans w) nI1n0⟩
theorem F7 {M : Mem} {i f : Nat} {r : Int32} {Q : Int32 → Mem → Prop} (hi : i < 6) (e9 : M 182 9 = nI 1) (e8 : M 182 8 = nI f) (K : ∀ M', (∀ c k, sfr c k → M' c k = M c k) → M' 182 7 = nI 0 → Q (-20 - nI f) M') : G7 i Q r M := by
  unfold G7
  rw [n_mul, n_add (4 * i) 3, vin (by omega)]
  refine ⟨by omega, fun _ => ⟨fun _ => l_s14F (f := f) (by rw [wr_nk _ _ _ _ (by omega), wr_nc _ _ _ _ (by omega)]; exact e9) (by rw [wr_eq, e8]; exact Int32.add_zero _) (fun M' w w2 => K M' (fun c k v => ?_) w2), fun w => absurd nI_0 w⟩, fun w => absurd (e9.symm.trans w) nI1n0⟩
  rw [w c k v]
  unfold sfr at v
  exact (by simp only [wr]; repeat rw [if_neg (by omega)])
theorem F5 {M : Mem} {i f : Nat} {r : Int32} {Q : Int32 → Mem → Prop} (hi : i < 6) (e9 : M 182 9 = nI 1) (e8 : M 182 8 = nI f) (K : ∀ M', (∀ c k, sfr c k → M' c k = M c k) → M' 182 7 = nI 0 → Q (-20 - nI f) M') : G5 i Q r M := by
  unfold G5
  rw [n_mul, n_add (4 * i) 2, vin (by omega)]
  refine ⟨by omega, T_X10_number ⟨fun _ => F7 (f := f) hi (wr_eq _ _ _ _) (by rw [wr_nk _ _ _ _ (by omega), wr_nc _ _ _ _ (by omega)]; exact e8) (fun M' w w2 => K M' (fun c k v => ?_) w2), fun w => absurd ((by rw [wr_nc _ _ _ _ (by omega)] at w; exact e9.symm.trans w)) nI1n0⟩⟩
  rw [w c k v]
  unfold sfr at v
  exact (by simp only [wr]; repeat rw [if_neg (by omega)])
theorem F3 {M : Mem} {i f : Nat} {r : Int32} {Q : Int32 → Mem → Prop} (hi : i < 6) (e9 : M 182 9 = nI 1) (e8 : M 182 8 = nI f) (K : ∀ M', (∀ c k, sfr c k → M' c k = M c k) → M' 182 7 = nI 0 → Q (-20 - nI f) M') : G3 i Q r M := by
  unfold G3
  rw [n_mul, n_add (4 * i) 1, vin (by omega)]
  refine ⟨by omega, m_letterF (by rw [wr_nc _ _ _ _ (by omega)]; exact e9) (fun M2 f2 g9 g8 => F5 (f := f) hi g9 (by rw [g8, wr_nc _ _ _ _ (by omega)]; exact e8) (fun M' w w2 => K M' (fun c k v => ?_) w2))⟩
  rw [w c k v]
  unfold sfr at v
  rw [f2 c k (by omega)]
  exact (by simp only [wr]; repeat rw [if_neg (by omega)])
theorem F1 {M : Mem} {i f : Nat} {r : Int32} {Q : Int32 → Mem → Prop} (hi : i < 6) (e9 : M 182 9 = nI 1) (e8 : M 182 8 = nI f) (K : ∀ M', (∀ c k, sfr c k → M' c k = M c k) → M' 182 7 = nI 0 → Q (-20 - nI f) M') : G1 i Q r M := by
  unfold G1
  rw [n_mul, vin (by omega)]
  refine ⟨by omega, m_letterF (by rw [wr_nc _ _ _ _ (by omega)]; exact e9) (fun M2 f2 g9 g8 => F3 (f := f) hi g9 (by rw [g8, wr_nc _ _ _ _ (by omega)]; exact e8) (fun M' w w2 => K M' (fun c k v => ?_) w2))⟩
  rw [w c k v]
  unfold sfr at v
  rw [f2 c k (by omega)]
  exact (by simp only [wr]; repeat rw [if_neg (by omega)])
theorem l_s14E {n : Nat} {tp : Nat → Nat} (O : PO n tp) {M : Mem} {a1 : Int32} {p : Nat} {Q : Int32 → Mem → Prop} (hp : p ≤ n) (P : PM M n tp) (e9 : M 182 9 = nI 0) (e8 : M 182 8 = nI p) (K1 : sk n tp p < n → ∀ M', (∀ c k, sfr c k → M' c k = M c k) → M' 182 7 = nI 0 → Q (-20 - nI (sk n tp p)) M') (K2 : ¬ sk n tp p < n → ∀ M', (∀ c k, ¬ (c = 182 ∧ k = 8) → M' c k = M c k) → P_X10_sayings_159 M' a1 (nI 0) Q) : P_X10_sayings_14 M a1 (nI 0) Q := by
  have hn := O.1
  refine T_X10_sayings_14 ⟨fun _ => ⟨fun w => absurd (e9.trans nI_0) w, fun _ => m_here O hp P e8 (fun M1 f1 g1 => ?_)⟩, fun w => absurd nI_0 w⟩
  by_cases q : sk n tp p < n
  · have t := O.2 _ q
    rw [if_pos q]
    refine ⟨fun w => absurd ((n_eq0 (by omega)).mp w) (by omega), fun _ => l_s159F g1 (fun M' w w2 => K1 q M' (fun c k v => by rw [w c k v, f1 c k (by unfold sfr at v; omega)]) w2)⟩
  · rw [if_neg q]
    exact ⟨fun _ => K2 q M1 f1, fun w => absurd nI_0 w⟩
theorem l_says14 {R F n : Nat} {tp : Nat → Nat} (hR : R ≤ 10) (hF : F ≤ 10) (O : PO n tp) {Q : Int32 → Mem → Prop} : ∀ d p i row M, d + i = 6 → 1 ≤ d → p ≤ n → PM M n tp → M 182 0 = nI R → M 182 28 = nI F → M 182 9 = nI 0 → M 182 8 = nI p → (∀ k, k < 4 * i → M 202 k = nI (row k)) → (∀ M' f, (∀ c k, sfr c k → M' c k = M c k) → syf R F n tp d p i row = .inl f → M' 182 7 = nI 0 → Q (-20 - nI f) M') → (∀ M' m g, (∀ c k, ¬ (c = 182 ∧ (k = 8 ∨ k = 9)) → c ≠ 202 → M' c k = M c k) → syf R F n tp d p i row = .inr (m, g) → m ≤ 6 → (∀ k, k < 4 * m → M' 202 k = nI (g k)) → P_X10_sayings_159 M' (nI m) (nI 0) Q) → P_X10_sayings_14 M (nI i) (nI 1) Q := by
  have hn := O.1
  intro d
  induction d with
  | zero => intro p i row M hd h1; omega
  | succ d ih =>
    intro p i row M hd h1 hp P eR eF e9 e8 G K1 K2
    have hb := sk_bd (n := n) (tp := tp) _ p rfl hp
    refine T_X10_sayings_14 ⟨fun w => absurd w nI1n0, fun _ => ?_⟩
    show C_X10_letter M (M 182 28) (fun r1 M1 => G1 i Q r1 M1)
    rw [eF]
    refine m_letter O hF hp P e8 e9 (fun q1 M1 f1 g1 h1' => ?_) (fun q1 M1 f1 g1 h1' => F1 (by omega) h1' g1 (fun M' w w2 => K1 M' _ (fun c k v => by rw [w c k v]; exact f1 c k (by unfold sfr at v; omega)) (by rw [syf, if_pos q1]) w2))
    have l1 := ltB_t q1
    have t1 := O.2 _ l1.1
    have b1 := sk_bd (n := n) (tp := tp) _ (sk n tp p + 1) rfl (by omega)
    unfold G1
    rw [n_mul, vin (by omega), ix_n (by omega), f1 182 28 (by omega), eF]
    refine ⟨by omega, m_letter O hF (p := sk n tp p + 1) (by omega) (P.congr (fun c k w => by rw [wr_nc _ _ _ _ (by omega)]; exact f1 c k (by omega))) (by rw [wr_nc _ _ _ _ (by omega)]; exact g1) (by rw [wr_nc _ _ _ _ (by omega)]; exact h1') (fun q2 M2 f2 g2 h2' => ?_) (fun q2 M2 f2 g2 h2' => F3 (by omega) h2' g2 (fun M' w w2 => K1 M' _ (fun c k v => ?_) (by rw [syf, if_neg (by rw [q1]; decide), if_pos q2]) w2))⟩
    rotate_left
    · rw [w c k v]; unfold sfr at v; rw [f2 c k (by omega), wr_nc _ _ _ _ (by omega)]; exact f1 c k (by omega)
    have l2 := ltB_t q2
    have t2 := O.2 _ l2.1
    have b2 := sk_bd (n := n) (tp := tp) _ (sk n tp (sk n tp p + 1) + 1) rfl (by omega)
    unfold G3
    rw [n_mul, n_add (4 * i) 1, vin (by omega), ix_n (by omega), f2 182 0 (by omega), wr_nc _ _ _ _ (by omega), f1 182 0 (by omega), eR]
    refine ⟨by omega, m_letter O hR (p := sk n tp (sk n tp p + 1) + 1) (by omega) (P.congr (fun c k w => by rw [wr_nc _ _ _ _ (by omega), f2 c k (by omega), wr_nc _ _ _ _ (by omega)]; exact f1 c k (by omega))) (by rw [wr_nc _ _ _ _ (by omega)]; exact g2) (by rw [wr_nc _ _ _ _ (by omega)]; exact h2') (fun q3 M3 f3 g3 h3' => ?_) (fun q3 M3 f3 g3 h3' => F5 (by omega) h3' g3 (fun M' w w2 => K1 M' _ (fun c k v => ?_) (by rw [syf, if_neg (by rw [q1]; decide), if_neg (by rw [q2]; decide), if_pos q3]) w2))⟩
    rotate_left
    · rw [w c k v]; unfold sfr at v; rw [f3 c k (by omega), wr_nc _ _ _ _ (by omega), f2 c k (by omega), wr_nc _ _ _ _ (by omega)]; exact f1 c k (by omega)
    have l3 := ltB_t q3
    have t3 := O.2 _ l3.1
    have b3 := sk_bd (n := n) (tp := tp) _ (sk n tp (sk n tp (sk n tp p + 1) + 1) + 1) rfl (by omega)
    have b4 := nE_bd (n := n) (tp := tp) (p := sk n tp (sk n tp (sk n tp p + 1) + 1) + 1) (by omega)
    have b5 := sk_bd (n := n) (tp := tp) _ (nE n tp (sk n tp (sk n tp (sk n tp p + 1) + 1) + 1)).1 rfl b4.2
    unfold G5
    rw [n_mul, n_add (4 * i) 2, vin (by omega), ix_n (by omega)]
    refine ⟨by omega, m_number O (by omega) (by omega) (p := sk n tp (sk n tp (sk n tp p + 1) + 1) + 1) (by omega) (P.congr (fun c k w => by rw [wr_nc _ _ _ _ (by omega), f3 c k (by omega), wr_nc _ _ _ _ (by omega), f2 c k (by omega), wr_nc _ _ _ _ (by omega)]; exact f1 c k (by omega))) (by rw [wr_nc _ _ _ _ (by omega)]; exact g3) (by rw [wr_nc _ _ _ _ (by omega)]; exact h3') (fun q4 M4 f4 g4 h4' => ?_) (fun q4 v M4 hv f4 g4 h4' => F7 (by omega) h4' g4 (fun M' w w2 => K1 M' _ (fun c k v => ?_) (by rw [syf, if_neg (by rw [q1]; decide), if_neg (by rw [q2]; decide), if_neg (by rw [q3]; decide), if_pos q4]) w2))⟩
    rotate_left
    · rw [w c k v]; unfold sfr at v; rw [f4 c k (by omega), wr_nc _ _ _ _ (by omega), f3 c k (by omega), wr_nc _ _ _ _ (by omega), f2 c k (by omega), wr_nc _ _ _ _ (by omega)]; exact f1 c k (by omega)
    have g4 : M4 182 8 = nI (nE n tp (sk n tp (sk n tp (sk n tp p + 1) + 1) + 1)).1 := g4
    have fr : ∀ c k, ¬ (c = 182 ∧ (k = 8 ∨ k = 9)) → c ≠ 202 → ∀ v, wr M4 202 (4 * i + 3) v c k = M c k := fun c k w w2 v => by rw [wr_nc _ _ _ _ (by omega), f4 c k w, wr_nc _ _ _ _ (by omega), f3 c k w, wr_nc _ _ _ _ (by omega), f2 c k w, wr_nc _ _ _ _ (by omega)]; exact f1 c k w
    have rw_ : ∀ k, k < 4 * (i + 1) → wr M4 202 (4 * i + 3) (nI (nE n tp (sk n tp (sk n tp (sk n tp p + 1) + 1) + 1)).2) 202 k = nI (rowN n tp p i row k) := by
      intro k hk
      unfold rowN
      by_cases w0 : k = 4 * i
      · subst w0; rw [if_pos rfl, wr_nk _ _ _ _ (by omega), f4 _ _ (by omega), wr_nk _ _ _ _ (by omega), f3 _ _ (by omega), wr_nk _ _ _ _ (by omega), f2 _ _ (by omega), wr_eq]
      rw [if_neg w0]
      by_cases w1 : k = 4 * i + 1
      · subst w1; rw [if_pos rfl, wr_nk _ _ _ _ (by omega), f4 _ _ (by omega), wr_nk _ _ _ _ (by omega), f3 _ _ (by omega), wr_eq]
      rw [if_neg w1]
      by_cases w2 : k = 4 * i + 2
      · subst w2; rw [if_pos rfl, wr_nk _ _ _ _ (by omega), f4 _ _ (by omega), wr_eq]
      rw [if_neg w2]
      by_cases w3 : k = 4 * i + 3
      · subst w3; rw [if_pos rfl, wr_eq]
      rw [if_neg w3, wr_nk _ _ _ _ (by omega), f4 _ _ (by omega), wr_nk _ _ _ _ (by omega), f3 _ _ (by omega), wr_nk _ _ _ _ (by omega), f2 _ _ (by omega), wr_nk _ _ _ _ (by omega), f1 _ _ (by omega)]
      exact G k (by omega)
    unfold G7
    rw [n_mul, n_add (4 * i) 3, vin (by omega), ix_n (by omega), n_add i 1, n_le (by omega) (by omega)]
    show _ ∧ ((_ → _) ∧ (_ → _))
    have z4 : ∀ v, wr M4 202 (4 * i + 3) v 182 9 = nI 0 := fun v => by rw [wr_nc _ _ _ _ (by omega)]; exact h4'
    have p4 : ∀ v, wr M4 202 (4 * i + 3) v 182 8 = nI (nE n tp (sk n tp (sk n tp (sk n tp p + 1) + 1) + 1)).1 := fun v => by rw [wr_nc _ _ _ _ (by omega)]; exact g4
    refine ⟨by omega, fun w => absurd (h4'.trans nI_0) w, fun _ => ⟨fun w6 => ⟨fun _ => ?_, fun w => absurd nI_0 w⟩, fun w6 => m_here O b4.2 (P.congr (fun c k w => fr c k (by omega) (by omega) _)) (p4 _) (fun M5 f5 g5 => ?_)⟩⟩
    · have hd0 : d = 0 := by omega
      refine l_s14E (p := (nE n tp (sk n tp (sk n tp (sk n tp p + 1) + 1) + 1)).1) O b4.2 (P.congr (fun c k w => ?_)) (by rw [wr_nk _ _ _ _ (by omega)]; exact z4 _) (by rw [wr_eq, g4]; exact Int32.add_zero _) (fun q5 M' w w2 => K1 M' _ (fun c k v => ?_) (by rw [syf, if_neg (by rw [q1]; decide), if_neg (by rw [q2]; decide), if_neg (by rw [q3]; decide), if_neg (by rw [q4]; decide), if_pos q5, if_neg (fun v => v.2 hd0)]) w2) (fun q5 M' w => K2 M' (i + 1) (rowN n tp p i row) (fun c k v v2 => ?_) (by rw [syf, if_neg (by rw [q1]; decide), if_neg (by rw [q2]; decide), if_neg (by rw [q3]; decide), if_neg (by rw [q4]; decide), if_neg q5]) (by omega) (fun k hk => ?_))
      · rw [wr, if_neg (by omega)]; exact fr c k (by omega) (by omega) _
      · rw [w c k v]; unfold sfr at v; rw [wr, if_neg (by omega)]; exact fr c k (by omega) (by omega) _
      · rw [w c k (by omega), wr, if_neg (by omega)]; exact fr c k v v2 _
      · rw [w _ _ (by omega), wr_nc _ _ _ _ (by omega)]; exact rw_ k hk
    · have fr5 : ∀ c k, ¬ (c = 182 ∧ (k = 8 ∨ k = 9)) → c ≠ 202 → M5 c k = M c k := fun c k w w2 => by rw [f5 c k (by omega)]; exact fr c k w w2 _
      have z5 : M5 182 9 = nI 0 := by rw [f5 _ _ (by omega)]; exact z4 _
      have rw5 : ∀ k, k < 4 * (i + 1) → M5 202 k = nI (rowN n tp p i row k) := fun k hk => by rw [f5 _ _ (by omega)]; exact rw_ k hk
      have stop : ∀ v, v = M5 182 8 → ¬ (sk n tp (nE n tp (sk n tp (sk n tp (sk n tp p + 1) + 1) + 1)).1 < n ∧ tp (sk n tp (nE n tp (sk n tp (sk n tp (sk n tp p + 1) + 1) + 1)).1) = 59) → P_X10_sayings_14 (wr M5 182 8 v) (nI (i + 1)) (nI 0) Q := by
        intro v hv q6
        refine l_s14E (p := sk n tp (nE n tp (sk n tp (sk n tp (sk n tp p + 1) + 1) + 1)).1) O b5.2 (P.congr (fun c k w => ?_)) (by rw [wr_nk _ _ _ _ (by omega)]; exact z5) (by rw [wr_eq, hv]; exact g5) (fun q5 M' w w2 => ?_) (fun q5 M' w => K2 M' (i + 1) (rowN n tp p i row) (fun c k v v2 => ?_) ?_ (by omega) (fun k hk => ?_))
        · rw [wr, if_neg (by omega)]; exact fr5 c k (by omega) (by omega)
        · rw [sk_sk _ _ rfl] at q5 ⊢
          refine K1 M' _ (fun c k v => ?_) (by rw [syf, if_neg (by rw [q1]; decide), if_neg (by rw [q2]; decide), if_neg (by rw [q3]; decide), if_neg (by rw [q4]; decide), if_pos q5, if_neg (fun v => q6 ⟨q5, v.1⟩)]) w2
          rw [w c k v]; unfold sfr at v; rw [wr, if_neg (by omega)]; exact fr5 c k (by omega) (by omega)
        · rw [w c k (by omega), wr, if_neg (by omega)]; exact fr5 c k v v2
        · rw [sk_sk _ _ rfl] at q5
          rw [syf, if_neg (by rw [q1]; decide), if_neg (by rw [q2]; decide), if_neg (by rw [q3]; decide), if_neg (by rw [q4]; decide), if_neg q5]
        · rw [w _ _ (by omega), wr_nc _ _ _ _ (by omega)]; exact rw5 k hk
      by_cases q5 : sk n tp (nE n tp (sk n tp (sk n tp (sk n tp p + 1) + 1) + 1)).1 < n
      · have t5 := O.2 _ q5
        rw [if_pos q5, n_eq (by omega) (by omega)]
        refine ⟨fun q6 => ⟨fun _ => stop _ (Int32.add_zero _) (fun v => q6 v.2), fun w => absurd nI_0 w⟩, fun q6 => ⟨fun w => absurd w nI1n0, fun _ => ?_⟩⟩
        rw [g5, n_add _ 1]
        have ew : syf R F n tp (d + 1) p i row = syf R F n tp d (sk n tp (nE n tp (sk n tp (sk n tp (sk n tp p + 1) + 1) + 1)).1 + 1) (i + 1) (rowN n tp p i row) := by rw [syf, if_neg (by rw [q1]; decide), if_neg (by rw [q2]; decide), if_neg (by rw [q3]; decide), if_neg (by rw [q4]; decide), if_pos q5, if_pos ⟨q6, by omega⟩]
        have fr6 : ∀ v c k, ¬ (c = 182 ∧ (k = 8 ∨ k = 9)) → c ≠ 202 → wr M5 182 8 v c k = M c k := fun v c k w w2 => by rw [wr, if_neg (by omega)]; exact fr5 c k w w2
        exact ih _ (i + 1) (rowN n tp p i row) _ (by omega) (by omega) (by omega) (P.congr (fun c k w => fr6 _ c k (by omega) (by omega))) (by rw [fr6 _ _ _ (by omega) (by omega)]; exact eR) (by rw [fr6 _ _ _ (by omega) (by omega)]; exact eF) (by rw [wr_nk _ _ _ _ (by omega)]; exact z5) (wr_eq _ _ _ _) (fun k hk => by rw [wr_nc _ _ _ _ (by omega)]; exact rw5 k hk) (fun M' f w w2 w3 => K1 M' f (fun c k v => by rw [w c k v]; unfold sfr at v; exact fr6 _ c k (by omega) (by omega)) (ew.trans w2) w3) (fun M' m g w w2 w3 w4 => K2 M' m g (fun c k v v2 => by rw [w c k v v2]; exact fr6 _ c k v v2) (ew.trans w2) w3 w4)
      · rw [if_neg q5]
        exact ⟨fun _ => ⟨fun _ => stop _ (Int32.add_zero _) (fun v => q5 v.1), fun w => absurd nI_0 w⟩, fun w => absurd w (by decide)⟩
