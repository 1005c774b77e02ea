/-! ===== the reference reads a walk ===== -/
theorem nI1n0 : ¬ nI 1 = 0 := by decide
theorem l_flt17 {M : Mem} {a1 a2 : Int32} {c : Nat} (hc : 1 ≤ c ∧ c ≤ 9) (e : M 182 9 = nI 1) {Q : Mem → Prop} (k : Q M) : P_X10_walks_17 M a1 a2 (nI c) Q := by
  have e' : ¬ M 182 9 = 0 := by rw [e]; decide
  refine T_X10_walks_17 ⟨fun w => absurd ((n_eq0 (by omega)).mp w) (by omega), fun _ => ⟨fun _ => T_X10_walks_171 ⟨fun _ => k, fun _ => ⟨fun _ => k, fun w => absurd w e'⟩⟩, fun w => absurd w e'⟩⟩
theorem l_flt129 {M : Mem} {a1 a5 a6 : Int32} {c : Nat} (hc : c ≤ 8) (e : M 182 9 = nI 1) {Q : Mem → Prop} (k : Q M) : P_X10_walks_129 M a1 (nI c) a5 a6 (nI 0) Q := by
  have e' : ¬ M 182 9 = 0 := by rw [e]; decide
  refine T_X10_walks_129 ?_
  rw [n_add]
  exact ⟨fun _ => l_flt17 (by omega) e k, fun _ => ⟨fun _ => l_flt17 (by omega) e k, fun w => absurd w e'⟩⟩
theorem l_flt115 {M : Mem} {a1 a5 : Int32} {c : Nat} (hc : c ≤ 8) (e : M 182 9 = nI 1) {Q : Mem → Prop} (k : ∀ M', (∀ c k, M' c k = M c k) → Q M') : P_X10_walks_115 M a1 (nI c) a5 Q := by
  have e' : ¬ M 182 9 = 0 := by rw [e]; decide
  refine T_X10_walks_115 (T_X10_number ⟨fun _ => l_flt129 hc (wr_eq _ _ _ _) (k _ (fun c' k' => ?_)), fun w => absurd w e'⟩)
  by_cases w : c' = 182 ∧ k' = 9
  · rw [w.1, w.2, wr_eq, e]
  · exact (by simp only [wr]; repeat rw [if_neg (by omega)])
theorem l_129 {tot v c : Nat} (ht : tot + v ≤ 24) {a5 : Int32} {Q : Mem → Prop} : ∀ e i M, v - i = e → i ≤ v → M 182 9 = nI 0 → (∀ M', (∀ c k, ¬ (c = 186 ∧ tot + i ≤ k) → M' c k = M c k) → (∀ k, tot + i ≤ k → k < tot + v → M' 186 k = a5) → P_X10_walks_17 M' (nI (tot + v)) a5 (nI (c + 1)) Q) → P_X10_walks_129 M (nI (tot + i)) (nI c) a5 (nI v) (nI i) Q := by
  intro e
  induction e with
  | zero =>
    intro i M he hi z K
    refine T_X10_walks_129 ?_
    have : i = v := by omega
    subst this
    rw [n_le (by omega) (by omega), n_add c 1]
    exact ⟨fun _ => K M (fun _ _ _ => rfl) (fun k w w2 => absurd w (by omega)), fun w => absurd (Nat.le_refl _) w⟩
  | succ e ih =>
    intro i M he hi z K
    refine T_X10_walks_129 ?_
    rw [n_le (by omega) (by omega), vin (by omega), ix_n (by omega), n_add (tot + i) 1, n_add i 1]
    refine ⟨fun w => absurd w (by omega), fun _ => ⟨fun w => absurd (z.trans nI_0) w, fun _ => ⟨by omega, ?_⟩⟩⟩
    refine ih (i + 1) _ (by omega) (by omega) (by rw [wr_nc _ _ _ _ (by omega)]; exact z) (fun M' f u => K M' (fun c k w => by rw [f c k (by omega)]; exact (by simp only [wr]; repeat rw [if_neg (by omega)])) (fun k w w2 => ?_))
    by_cases q : k = tot + i
    · subst q; rw [f _ _ (by omega), wr_eq]
    · exact u k (by omega) w2
theorem l_171 {a2 : Int32} {Q : Mem → Prop} : ∀ e i M, 24 - i = e → i ≤ 24 → M 182 9 = nI 0 → (∀ M', (∀ c k, ¬ (c = 186 ∧ i ≤ k) → M' c k = M c k) → (∀ k, i ≤ k → k < 24 → M' 186 k = a2) → Q M') → P_X10_walks_171 M a2 (nI i) Q := by
  intro e
  induction e with
  | zero =>
    intro i M he hi z K
    refine T_X10_walks_171 ?_
    rw [n_le (by omega) (by omega)]
    exact ⟨fun _ => K M (fun _ _ _ => rfl) (fun k w w2 => absurd w (by omega)), fun w => absurd (by omega) w⟩
  | succ e ih =>
    intro i M he hi z K
    refine T_X10_walks_171 ?_
    rw [n_le (by omega) (by omega), vin (by omega), ix_n (by omega), n_add i 1]
    refine ⟨fun w => absurd w (by omega), fun _ => ⟨fun w => absurd (z.trans nI_0) w, fun _ => ⟨by omega, ?_⟩⟩⟩
    refine ih (i + 1) _ (by omega) (by omega) (by rw [wr_nc _ _ _ _ (by omega)]; exact z) (fun M' f u => K M' (fun c k w => by rw [f c k (by omega)]; exact (by simp only [wr]; repeat rw [if_neg (by omega)])) (fun k w w2 => ?_))
    by_cases q : k = i
    · subst q; rw [f _ _ (by omega), wr_eq]
    · exact u k (by omega) w2
def wfr (c k : Nat) : Prop := ¬ (c = 182 ∧ (k = 8 ∨ k = 9)) ∧ c ≠ 186
theorem l_w65 {h : HS} (HO_ : HO h) {n : Nat} {tp : Nat → Nat} (O : PO n tp) {Q : Mem → Prop} : ∀ d p ah tot pth M, d ≤ 8 → p ≤ n → sk n tp p = p → tot ≤ 24 → (∀ a, ah = some a → a < h.1) → HM M h → PM M n tp → M 182 8 = nI p → (∀ k, k < tot → M 186 k = nI (pth k)) → (∀ M' f, (∀ c k, wfr c k → M' c k = M c k) → wkf h n tp d p ah tot pth = .inl f → M' 182 8 = nI f → M' 182 9 = nI 1 → Q M') → (∀ M' g, (∀ c k, wfr c k → M' c k = M c k) → wkf h n tp d p ah tot pth = .inr g → M' 182 9 = nI 0 → (∀ k, k < 24 → M' 186 k = nI (g k)) → Q M') → P_X10_walks_65 M (nI tot) (ahM ah) (nI (8 - d)) (nI p) (if d = 0 then nI 1 else nI 0) Q := by
  have hn := O.1
  have hR := HO_.1
  intro d
  induction d with
  | zero =>
    intro p ah tot pth M hd hp hs ht hah H P e8 G K1 K2
    rw [if_pos rfl]
    refine T_X10_walks_65 ⟨Or.inr rfl, T_X10_letter ⟨fun _ => ⟨fun w => absurd w nI1n0, fun _ => ⟨fun w => absurd w nI1n0, fun _ => ⟨fun _ => ?_, fun w => ?_⟩⟩⟩, fun w => ?_⟩⟩
    · refine l_flt115 (by omega) (by rw [wr_nk _ _ _ _ (by omega), wr_eq]) (fun M' f => K1 M' p (fun c k w => ?_) ?_ ?_ ?_)
      · unfold wfr at w; rw [f]; exact (by simp only [wr]; repeat rw [if_neg (by omega)])
      · rw [wkf, hs]
      · rw [f, wr_eq, wr_nk _ _ _ _ (by omega), e8, n_add]; rfl
      · rw [f, wr_nk _ _ _ _ (by omega), wr_eq]
    · rw [wr_nk _ _ _ _ (by omega), wr_eq] at w; exact absurd w nI1n0
    · rw [wr_eq] at w; exact absurd w nI1n0
  | succ d ih =>
    intro p ah tot pth M hd hp hs ht hah H P e8 G K1 K2
    rw [if_neg (by omega)]
    refine T_X10_walks_65 ⟨Or.inl nI_0, ?_⟩
    rw [H.1]
    refine m_letter O hR hp (P.congr (fun c k w => (by simp only [wr]; repeat rw [if_neg (by omega)]))) (by rw [wr_nk _ _ _ _ (by omega)]; exact e8) (wr_eq _ _ _ _) (fun q1 M1 f1 g1 g9 => ⟨fun w => absurd (g9.trans nI_0) w, fun _ => ?_⟩) (fun q1 M1 f1 g1 g9 => ⟨fun _ => l_flt115 (by omega) g9 (fun M' f => K1 M' _ (fun c k w => ?_) ?_ (by rw [f]; exact g1) (by rw [f]; exact g9)), fun w => absurd (g9.symm.trans w) nI1n0⟩)
    · have l1 := ltB_t q1
      have b1 := sk_bd (n := n) (tp := tp) _ (sk n tp p + 1) rfl (by omega)
      have b2 := nE_bd (n := n) (tp := tp) (p := sk n tp p + 1) (by omega)
      have b3 := sk_bd (n := n) (tp := tp) _ (nE n tp (sk n tp p + 1)).1 rfl b2.2
      have fr1 : ∀ c k, wfr c k → M1 c k = M c k := fun c k w => by
        unfold wfr at w; rw [f1 c k w.1]; exact (by simp only [wr]; repeat rw [if_neg (by omega)])
      have H1 : HM M1 h := H.congr (fun c k w => fr1 c k (by unfold wfr; omega))
      have P1 : PM M1 n tp := P.congr (fun c k w => fr1 c k (by unfold wfr; omega))
      have G1 : ∀ k, k < tot → M1 186 k = nI (pth k) := fun k hk => by rw [f1 _ _ (by omega), wr_nc _ _ _ _ (by omega)]; exact G k hk
      have cont : dok h ah (tp (sk n tp p) - 97) = true → P_X10_walks_115 M1 (nI tot) (nI (8 - (d + 1))) (nI (tp (sk n tp p) - 97)) Q := by
        intro q2
        refine T_X10_walks_115 ?_
        rw [n_sub ht]
        refine m_number O (by omega) (by omega) (by omega) P1 g1 g9 (fun q3 M2 f2 g2 g92 => ?_) (fun q3 v M2 hv f2 g2 g92 => l_flt129 (by omega) g92 (K1 M2 _ (fun c k w => by rw [f2 c k w.1]; exact fr1 c k w) ?_ g2 g92))
        · have b4 := nmB_t q3
          have g2 : M2 182 8 = nI (nE n tp (sk n tp p + 1)).1 := g2
          show P_X10_walks_129 M2 (nI (tot + 0)) (nI (8 - (d + 1))) (nI (tp (sk n tp p) - 97)) (nI (nE n tp (sk n tp p + 1)).2) (nI 0) Q
          refine l_129 (by omega) _ 0 M2 rfl (by omega) g92 (fun M3 f3 u3 => ?_)
          rw [show 8 - (d + 1) + 1 = 8 - d by omega]
          have fr3 : ∀ c k, wfr c k → M3 c k = M c k := fun c k w => by
            rw [f3 c k (fun v => w.2 v.1), f2 c k w.1]; exact fr1 c k w
          have z3 : M3 182 9 = nI 0 := by rw [f3 _ _ (by omega)]; exact g92
          have p3 : M3 182 8 = nI (nE n tp (sk n tp p + 1)).1 := by rw [f3 _ _ (by omega)]; exact g2
          have P3 : PM M3 n tp := P.congr (fun c k w => fr3 c k (by unfold wfr; omega))
          have G3 : ∀ k, k < tot + (nE n tp (sk n tp p + 1)).2 → M3 186 k = nI (if tot ≤ k then tp (sk n tp p) - 97 else pth k) := fun k hk => by
            by_cases w : tot ≤ k
            · rw [if_pos w]; exact u3 k (by omega) hk
            · rw [if_neg w, f3 _ _ (by omega), f2 _ _ (by omega)]; exact G1 k (by omega)
          refine T_X10_walks_17 ⟨fun w => absurd ((n_eq0 (by omega)).mp w) (by omega), fun _ => ⟨fun w => absurd (z3.trans nI_0) w, fun _ => m_here O b2.2 P3 p3 (fun M4 f4 g4 => ?_)⟩⟩
          have z4 : M4 182 9 = nI 0 := by rw [f4 _ _ (by omega)]; exact z3
          have fr4 : ∀ c k, wfr c k → M4 c k = M c k := fun c k w => by
            unfold wfr at w; rw [f4 c k (by omega)]; exact fr3 c k w
          by_cases q4 : sk n tp (nE n tp (sk n tp p + 1)).1 < n
          · have tb := O.2 _ q4
            have ew : wkf h n tp (d + 1) p ah tot pth = wkf h n tp d (sk n tp (nE n tp (sk n tp p + 1)).1) (some (tp (sk n tp p) - 97)) (tot + (nE n tp (sk n tp p + 1)).2) (fun k => if tot ≤ k then tp (sk n tp p) - 97 else pth k) := by
              rw [wkf, if_neg (by rw [q1]; decide), if_neg (by rw [q2]; decide), if_neg (by rw [q3]; decide), if_pos q4]
            rw [if_pos q4]
            refine ⟨fun w => absurd ((n_eq0 (by omega)).mp w) (by omega), fun _ => m_here O b3.2 (P.congr (fun c k w => fr4 c k (by unfold wfr; omega))) g4 (fun M5 f5 g5 => ?_)⟩
            rw [sk_sk _ _ rfl] at g5
            have z5 : M5 182 9 = nI 0 := by rw [f5 _ _ (by omega)]; exact z4
            have fr5 : ∀ c k, wfr c k → M5 c k = M c k := fun c k w => by
              unfold wfr at w; rw [f5 c k (by omega)]; exact fr4 c k w
            have go := ih (sk n tp (nE n tp (sk n tp p + 1)).1) (some (tp (sk n tp p) - 97)) (tot + (nE n tp (sk n tp p + 1)).2) (fun k => if tot ≤ k then tp (sk n tp p) - 97 else pth k) M5 (by omega) b3.2 (sk_sk _ _ rfl) (by omega) (fun a w => by cases w; omega) (H.congr (fun c k w => fr5 c k (by unfold wfr; omega))) (P.congr (fun c k w => fr5 c k (by unfold wfr; omega))) g5 (fun k hk => by rw [f5 _ _ (by omega), f4 _ _ (by omega)]; exact G3 k hk) (fun M' f w w2 w3 w4 => K1 M' f (fun c k v => by rw [w c k v]; exact fr5 c k v) (ew.trans w2) w3 w4) (fun M' g w w2 w3 w4 => K2 M' g (fun c k v => by rw [w c k v]; exact fr5 c k v) (ew.trans w2) w3 w4)
            refine ⟨fun w => absurd (z5.trans nI_0) w, fun _ => ?_⟩
            rw [g5, n_eq (by omega) (by omega)]
            refine ⟨fun w => ?_, fun w => ?_⟩
            · rw [if_neg (by omega)] at go; exact go
            · rw [if_pos (by omega)] at go; exact go
          · rw [if_neg q4]
            refine ⟨fun _ => l_171 _ _ M4 rfl (by omega) z4 (fun M5 f5 u5 => K2 M5 (fun k => if tot ≤ k then tp (sk n tp p) - 97 else pth k) (fun c k w => by rw [f5 c k (fun v => w.2 v.1)]; exact fr4 c k w) ?_ (by rw [f5 _ _ (by omega)]; exact z4) (fun k hk => ?_)), fun w => absurd nI_0 w⟩
            · rw [wkf, if_neg (by rw [q1]; decide), if_neg (by rw [q2]; decide), if_neg (by rw [q3]; decide), if_neg q4]
            · by_cases w : tot + (nE n tp (sk n tp p + 1)).2 ≤ k
              · rw [if_pos (by omega)]; exact u5 k w hk
              · rw [f5 _ _ (by omega), f4 _ _ (by omega)]; exact G3 k (by omega)
        · rw [wkf, if_neg (by rw [q1]; decide), if_neg (by rw [q2]; decide), if_pos q3]
      cases ah with
      | none => exact ⟨fun _ => cont rfl, fun w => absurd (show (-4 : Int32) < 0 by decide) w⟩
      | some a =>
        have ha := hah a rfl
        refine ⟨fun w => absurd w (nI_pos (by omega)), fun _ => ?_⟩
        simp only [ahM]
        rw [n_mul, n_add, vin (by omega), ix_n (by omega), H1.2.2.2.1 a (by omega) _ (by omega)]
        have hk := HO_.2.2.1 a (tp (sk n tp p) - 97)
        refine ⟨by omega, fun w => cont (decide_eq_true ?_), fun w => l_flt115 (by omega) (by rw [wr_nk _ _ _ _ (by omega), wr_eq]) (fun M' f => K1 M' _ (fun c k v => ?_) ?_ (by rw [f, wr_eq]) (by rw [f, wr_nk _ _ _ _ (by omega), wr_eq]))⟩
        · rcases (show h.2.2.2.1 a (tp (sk n tp p) - 97) = 0 ∨ h.2.2.2.1 a (tp (sk n tp p) - 97) = 1 ∨ h.2.2.2.1 a (tp (sk n tp p) - 97) = 2 by omega) with v | v | v
          · rw [v] at w; exact absurd w (by decide)
          · exact v
          · rw [v] at w; exact absurd w (by decide)
        · have v' := v
          unfold wfr at v'
          rw [f, ← fr1 c k v]; exact (by simp only [wr]; repeat rw [if_neg (by omega)])
        · rw [wkf, if_neg (by rw [q1]; decide), if_pos, hs]
          refine decide_eq_false (fun v => w ?_)
          rw [v]; decide
    · unfold wfr at w; rw [f, f1 c k w.1]; exact (by simp only [wr]; repeat rw [if_neg (by omega)])
    · rw [wkf, if_pos q1]
