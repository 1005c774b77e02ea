/-! ===== walk ===== -/
theorem ltB_sk (n : Nat) (tp : Nat → Nat) (L p : Nat) : ltB n tp L (sk n tp p) = ltB n tp L p := by unfold ltB; rw [sk_sk _ p rfl]
theorem wkf_sk (h : HS) (n : Nat) (tp : Nat → Nat) (d p : Nat) (ah : Option Nat) (tot : Nat) (pth : Nat → Nat) : wkf h n tp d (sk n tp p) ah tot pth = wkf h n tp d p ah tot pth := by
  cases d with
  | zero => rw [wkf, wkf, sk_sk _ p rfl]
  | succ d => rw [wkf, wkf, ltB_sk, sk_sk _ p rfl]
theorem wkf_l {h : HS} {n : Nat} {tp : Nat → Nat} {f : Nat} : ∀ d p ah tot pth, p ≤ n → wkf h n tp d p ah tot pth = .inl f → f ≤ n := by
  intro d
  induction d with
  | zero =>
    intro p ah tot pth hp e
    have hb := sk_bd (n := n) (tp := tp) _ p rfl hp
    rw [wkf] at e
    cases e; exact hb.2
  | succ d ih =>
    intro p ah tot pth hp e
    have hb := sk_bd (n := n) (tp := tp) _ p rfl hp
    rw [wkf] at e
    split at e
    · cases e; exact hb.2
    rename_i q1
    have l1 := ltB_t (show ltB n tp h.1 p = true from by simpa using q1)
    have b1 := sk_bd (n := n) (tp := tp) _ (sk n tp p + 1) rfl (by omega)
    have b2 := nE_bd (n := n) (tp := tp) (p := sk n tp p + 1) (by omega)
    have b3 := sk_bd (n := n) (tp := tp) _ (nE n tp (sk n tp p + 1)).1 rfl b2.2
    split at e
    · cases e; exact hb.2
    split at e
    · cases e; exact b1.2
    split at e
    · exact ih _ _ _ _ b3.2 e
    · cases e
theorem wkf_r {h : HS} {n : Nat} {tp : Nat → Nat} {g : Nat → Nat} : ∀ d p ah tot pth, (∀ k, k < tot → pth k < h.1) → wkf h n tp d p ah tot pth = .inr g → ∀ k, g k < h.1 ∨ (k < tot ∧ g k = pth k) := by
  intro d
  induction d with
  | zero => intro p ah tot pth hp e; rw [wkf] at e; cases e
  | succ d ih =>
    intro p ah tot pth hp e
    rw [wkf] at e
    split at e
    · cases e
    rename_i q1
    have l1 := ltB_t (show ltB n tp h.1 p = true from by simpa using q1)
    have pp : ∀ k, (if tot ≤ k then tp (sk n tp p) - 97 else pth k) < h.1 := fun k => by
      split
      · omega
      · exact hp k (by omega)
    split at e
    · cases e
    split at e
    · cases e
    split at e
    · intro k
      rcases ih _ _ _ _ (fun k _ => pp k) e k with w | w
      · exact Or.inl w
      · rw [w.2]; exact Or.inl (pp k)
    · cases e
      exact fun k => Or.inl (pp k)
theorem s_readWalk {h : HS} (HO_ : HO h) {n : Nat} {tp : Nat → Nat} (O : PO n tp) {M : Mem} {Q : Int32 → Mem → Prop} (H : HC 1 M h) (P : PC M n tp) (K1 : ∀ M' f, (∀ c k, ¬ (c = 85 ∧ (k = 2 ∨ k = 3)) → c ≠ 174 → M' c k = M c k) → wkf h n tp 8 0 none 0 (fun _ => 0) = .inl f → Q (-20 - nI f) M') (K2 : ∀ M' g, (∀ c k, ¬ (c = 85 ∧ (k = 2 ∨ k = 3)) → c ≠ 174 → M' c k = M c k) → wkf h n tp 8 0 none 0 (fun _ => 0) = .inr g → (∀ k, k < 24 → M' 174 k = nI (g k)) → Q (nI 0) M') : C_X7_readWalk_1 M 174 Q := by
  refine T_X7_readWalk_1 ia_174 ?_
  have fr : ∀ c k, ¬ (c = 85 ∧ (k = 2 ∨ k = 3)) → wr M 85 2 (nI 0) c k = M c k := fun c k w => (by simp only [wr]; repeat rw [if_neg (by omega)])
  exact l_readWalk HO_ O 8 0 none 0 (fun _ => 0) _ (by omega) (by omega) (by omega) (fun a w => by cases w) (fun w => absurd w (by omega)) (H.congr HO_.2.1 (fun c k _ _ => fr c k (by omega))) (P.congr (fun c k w => fr c k (by omega))) (wr_eq _ _ _ _) (fun k hk => absurd hk (by omega)) (fun M' f w w2 => K1 M' f (fun c k v v2 => by rw [w c k v v2]; exact fr c k v) w2) (fun M' g w w2 w3 => K2 M' g (fun c k v v2 => by rw [w c k v v2]; exact fr c k v) w2 w3)
theorem m_walks {h : HS} (HO_ : HO h) {n : Nat} {tp : Nat → Nat} (O : PO n tp) {M : Mem} {Q : Mem → Prop} (H : HM M h) (P : PM M n tp) (K1 : ∀ M' f, (∀ c k, wfr c k → M' c k = M c k) → wkf h n tp 8 0 none 0 (fun _ => 0) = .inl f → M' 182 8 = nI f → M' 182 9 = nI 1 → Q M') (K2 : ∀ M' g, (∀ c k, wfr c k → M' c k = M c k) → wkf h n tp 8 0 none 0 (fun _ => 0) = .inr g → M' 182 9 = nI 0 → (∀ k, k < 24 → M' 186 k = nI (g k)) → Q M') : C_X10_walks M Q := by
  have hb := sk_bd (n := n) (tp := tp) _ 0 rfl (by omega)
  have fr : ∀ c k, wfr c k → wr (wr M 182 8 (nI 0)) 182 9 (nI 0) c k = M c k := fun c k w => by unfold wfr at w; exact (by simp only [wr]; repeat rw [if_neg (by omega)])
  refine T_X10_walks (T_X10_walks_17 ⟨fun _ => m_here O (p := 0) (by omega) (P.congr (fun c k w => fr c k (by unfold wfr; omega))) (by rw [wr_nk _ _ _ _ (by omega), wr_eq]) (fun M1 f1 g1 => ?_), fun w => absurd nI_0 w⟩)
  have z : M1 182 9 = nI 0 := by rw [f1 _ _ (by omega), wr_eq]
  have fr1 : ∀ c k, wfr c k → M1 c k = M c k := fun c k w => by
    rw [f1 c k (by unfold wfr at w; omega)]; exact fr c k w
  refine ⟨fun w => absurd (z.trans nI_0) w, fun _ => ⟨fun _ => ?_, fun w => absurd w (by decide)⟩⟩
  rw [g1]
  have go := l_w65 HO_ O (Q := Q) 8 (sk n tp 0) none 0 (fun _ => 0) M1 (by omega) hb.2 (sk_sk _ 0 rfl) (by omega) (fun a w => by cases w) (H.congr (fun c k w => fr1 c k (by unfold wfr; omega))) (P.congr (fun c k w => fr1 c k (by unfold wfr; omega))) g1 (fun k hk => absurd hk (by omega)) (fun M' f w w2 => K1 M' f (fun c k v => by rw [w c k v]; exact fr1 c k v) ((wkf_sk _ _ _ _ _ _ _ _).symm.trans w2)) (fun M' g w w2 => K2 M' g (fun c k v => by rw [w c k v]; exact fr1 c k v) ((wkf_sk _ _ _ _ _ _ _ _).symm.trans w2))
  exact go
theorem l_w37 {G : Nat} (hG : G < 3) {Q : Int32 → Mem → Prop} : ∀ e i M, 24 - i = e → i ≤ 24 → M 182 3 = nI G → (∀ M', (∀ c k, c ≠ 184 ∨ k < 24 * G + i → M' c k = M c k) → (∀ k, i ≤ k → k < 24 → M' 184 (24 * G + k) = M 186 k) → Q (nI G) (wr (wr M' 182 3 (nI (G + 1))) 182 13 (nI 0))) → P_X10_walk_37 M (nI i) Q := by
  intro e
  induction e with
  | zero =>
    intro i M he hi g K
    refine T_X10_walk_37 ?_
    rw [n_le (by omega) (by omega), g, sub11, n_add G 1]
    exact ⟨fun _ => K M (fun _ _ _ => rfl) (fun k w w2 => absurd w (by omega)), fun w => absurd (by omega) w⟩
  | succ e ih =>
    intro i M he hi g K
    refine T_X10_walk_37 ?_
    rw [n_le (by omega) (by omega), g, vin (by omega), ix_n (by omega), n_mul, n_add (24 * G) i, n_add i 1, vin (by omega), ix_n (by omega)]
    refine ⟨fun w => absurd w (by omega), fun _ => ⟨by omega, by omega, ?_⟩⟩
    refine ih (i + 1) _ (by omega) (by omega) (by rw [wr_nc _ _ _ _ (by omega)]; exact g) (fun M' f u => K M' (fun c k w => by rw [f c k (by omega)]; exact (by simp only [wr]; repeat rw [if_neg (by omega)])) (fun k w w2 => ?_))
    by_cases q : k = i
    · subst q; rw [f _ _ (by omega), wr_eq]
    · rw [u k (by omega) w2, wr_nc _ _ _ _ (by omega)]
theorem flt_n0 : ∀ f, f < 81 → ¬ (-20 - nI f = 0) := by decide
theorem b_walk {M : Mem} (C : Cpl M) : C_X9_walk M (fun r M1 => C_X10_walk M1 (fun r' M2 => r = r' ∧ Cpl M2)) := by
  obtain ⟨h, s, t, n, tp, x, kx, I, J, O⟩ := C
  have hn := O.2.2.2.1.1
  have O0 : IO h s t 0 tp x kx := ⟨O.1, O.2.1, O.2.2.1, ⟨by omega, fun i hi => absurd hi (by omega)⟩, O.2.2.2.2⟩
  refine T_X9_walk (s_readWalk O.1 O.2.2.2.1 I.1 I.2.2.2.2.1 (fun M0 f f0 e => T_X7_clear ⟨fun w => absurd w (flt_n0 f (by have := wkf_l _ _ _ _ _ (by omega) e; omega)), fun _ => ?_⟩) (fun M0 g f0 e pt => T_X7_clear ⟨fun _ => ?_, fun w => absurd nI_0 w⟩))
  · have I0 : IC (wr M0 85 0 (nI 0)) h s t 0 tp x kx := I.tape O ⟨wr_eq _ _ _ _, fun i hi => absurd hi (by omega)⟩ (fun c k w => by rw [wr_nc _ _ _ _ (by omega)]; exact f0 c k (by omega) (by omega))
    have J0 : IM (wr M0 85 0 (nI 0)) h s t n tp x kx := J.far (fun c k w => by rw [wr_nc _ _ _ _ (by omega)]; exact f0 c k (by omega) (by omega))
    refine T_X10_walk (m_walks O.1 O.2.2.2.1 J0.1 J0.2.2.2.1 (fun M1 f' f1 e' p8 p9 => ⟨fun w => absurd (p9.symm.trans w) nI1n0, fun _ => ?_⟩) (fun M1 g f1 e' _ _ => by rw [e] at e'; cases e'))
    rw [e] at e'
    cases e'
    rw [p8]
    refine ⟨rfl, h, s, t, 0, tp, x, kx, I0.far O0 (fun c k w => by rw [wr_nc _ _ _ _ (by omega)]; exact f1 c k (by unfold wfr; omega)), J0.tape ⟨wr_eq _ _ _ _, fun i hi => absurd hi (by omega)⟩ (fun c k w => ?_), O0⟩
    rw [wr, if_neg (by omega)]; exact f1 c k (by unfold wfr; omega)
  · have I0 : IC (wr M0 85 0 (nI 0)) h s t 0 tp x kx := I.tape O ⟨wr_eq _ _ _ _, fun i hi => absurd hi (by omega)⟩ (fun c k w => by rw [wr_nc _ _ _ _ (by omega)]; exact f0 c k (by omega) (by omega))
    have J0 : IM (wr M0 85 0 (nI 0)) h s t n tp x kx := J.far (fun c k w => by rw [wr_nc _ _ _ _ (by omega)]; exact f0 c k (by omega) (by omega))
    have hG := O.1.2.1
    have gR : ∀ k, g k < h.1 := fun k => by
      rcases wkf_r _ _ _ _ _ (fun k hk => absurd hk (by omega)) e k with w | w
      · exact w
      · exact absurd w.1 (by omega)
    have e2 : wr M0 85 0 (nI 0) 1 2 = nI h.2.2.1 := I0.1.2.2.1
    have pt1 : ∀ k, k < 24 → wr M0 85 0 (nI 0) 174 k = nI (g k) := fun k hk => by rw [wr_nc _ _ _ _ (by omega)]; exact pt k hk
    generalize wr M0 85 0 (nI 0) = N at I0 J0 e2 pt1
    have mst : ∀ (A : Int32 → Mem → Prop) (N : Mem), IM N h s t n tp x kx → (∀ M1, (∀ c k, wfr c k → M1 c k = N c k) → (∀ k, k < 24 → M1 186 k = nI (g k)) → ((¬ h.2.2.1 = 3 → (P_X10_walk_37 (wr M1 182 7 (nI 0)) (nI 0) A)) ∧ (h.2.2.1 = 3 → (A (-3) (wr M1 182 7 (nI 0)))))) → C_X10_walk N A := by
      intro A N JN k
      refine T_X10_walk (m_walks O.1 O.2.2.2.1 JN.1 JN.2.2.2.1 (fun M1 f' f1 e' _ _ => by rw [e] at e'; cases e') (fun M1 g' f1 e' p9 pg => ⟨fun _ => ?_, fun w => absurd (p9.trans nI_0) w⟩))
      rw [e] at e'
      cases e'
      have e3 : M1 182 3 = nI h.2.2.1 := by rw [f1 _ _ (by unfold wfr; omega)]; exact JN.1.2.2.1
      rw [e3, n_eq (by omega) (by omega)]
      exact k M1 f1 pg
    rw [e2, n_eq (by omega) (by omega)]
    refine ⟨fun q => ⟨by rw [vin (by omega)]; omega, cp_ok (by omega) 24 (by omega) ?_⟩, fun q => mst _ N J0 (fun M1 f1 pg => ⟨fun w => absurd q w, fun _ => ⟨rfl, h, s, t, 0, tp, x, kx, I0.far O0 (fun c k w => by rw [wr_nc _ _ _ _ (by omega)]; exact f1 c k (by unfold wfr; omega)), J0.tape ⟨wr_eq _ _ _ _, fun i hi => absurd hi (by omega)⟩ (fun c k w => by rw [wr, if_neg (by omega)]; exact f1 c k (by unfold wfr; omega)), O0⟩⟩)⟩
    simp (disch := omega) only [ix_n]
    rw [cpf _ (by omega), e2, n_add h.2.2.1 1]
    refine s_plansChanged (fun M1 f1 z1 z2 => ?_)
    have O' : IO (h.1, h.2.1, h.2.2.1 + 1, h.2.2.2.1, up_ h.2.2.2.2 h.2.2.1 g) s t 0 tp x kx := by
      obtain ⟨⟨a1, a2, a3, a4, a5, a6, a7⟩, o2⟩ := O0
      refine ⟨⟨a1, ?_, a3, a4, a5, a6, fun g' hg u hu => ?_⟩, o2⟩
      · show h.2.2.1 + 1 ≤ 3; omega
      · have hg' : g' < h.2.2.1 + 1 := hg
        show up_ h.2.2.2.2 h.2.2.1 g g' u < h.1
        by_cases w : g' = h.2.2.1
        · subst w; rw [up_eq]; exact gR u
        · rw [up_ne _ _ w]; exact a7 g' (by omega) u hu
    have fr1 : ∀ c k, ¬ (c = 5 + h.2.2.1) → ¬ (c = 1 ∧ k = 2) → ¬ ((c = 95 ∧ k = 1) ∨ (c = 124 ∧ k = 3)) → M1 c k = N c k := fun c k w1 w2 w3 => by
      rw [f1 c k w3, wr, if_neg (by omega), cpf _ (by omega)]
    have I1 : IC M1 (h.1, h.2.1, h.2.2.1 + 1, h.2.2.2.1, up_ h.2.2.2.2 h.2.2.1 g) s t 0 tp x kx := by
      obtain ⟨g1, g2, g3, g4, g5, g6⟩ := I0.1
      refine I0.house O0 ⟨by rw [fr1 _ _ (by omega) (by omega) (by omega)]; exact g1, by rw [fr1 _ _ (by omega) (by omega) (by omega)]; exact g2, by rw [f1 _ _ (by omega), wr_eq], fun a ha => by rw [fr1 _ _ (by omega) (by omega) (by omega)]; exact g4 a ha, fun a ha => by rw [fr1 _ _ (by omega) (by omega) (by omega)]; exact g5 a ha, fun g' hg u hu => ?_⟩ (I0.2.1.congr O.1.1 (fun c k w => fr1 c k (by omega) (by omega) (by omega))) (fun c k w => fr1 c k (by omega) (by omega) (by omega)) z1 z2
      have hg' : g' < h.2.2.1 + 1 := hg
      show M1 (1 + 4 + g') u = nI (up_ h.2.2.2.2 h.2.2.1 g g' u)
      by_cases w : g' = h.2.2.1
      · subst w
        rw [up_eq, f1 _ _ (by omega), wr_nc _ _ _ _ (by omega), show 1 + 4 + h.2.2.1 = 4 + 1 + h.2.2.1 by omega, cpi _ hu]; exact pt1 u hu
      · rw [up_ne _ _ w, fr1 _ _ (by omega) (by omega) (by omega)]; exact g6 g' (by omega) u hu
    have J1 : IM M1 h s t n tp x kx := J0.far (fun c k w => fr1 c k (by omega) (by omega) (by omega))
    have e4 : M1 1 2 = nI (h.2.2.1 + 1) := I1.1.2.2.1
    rw [e4, n_sub (by omega)]
    refine mst _ M1 J1 (fun M2 f2 pg => ⟨fun _ => l_w37 (G := h.2.2.1) (by omega) _ 0 _ rfl (by omega) ?_ (fun M3 f3 u3 => ⟨rfl, _, _, _, _, _, _, _, I1.far O' (fun c k w => ?_), ?_, O'⟩), fun w => absurd w q⟩)
    · rw [wr_nk _ _ _ _ (by omega), f2 _ _ (by unfold wfr; omega)]; exact J1.1.2.2.1
    · rw [wr_nc _ _ _ _ (by omega), wr_nc _ _ _ _ (by omega), f3 c k (by omega), wr_nc _ _ _ _ (by omega), f2 c k (by unfold wfr; omega)]
    · have J2 : IM (wr M2 182 7 (nI 0)) h s t 0 tp x kx := J1.tape ⟨wr_eq _ _ _ _, fun i hi => absurd hi (by omega)⟩ (fun c k w => by rw [wr, if_neg (by omega)]; exact f2 c k (by unfold wfr; omega))
      obtain ⟨g1, g2, g3, g4, g5⟩ := J2.1
      refine J2.house ⟨by rw [wr_nk _ _ _ _ (by omega), wr_nk _ _ _ _ (by omega), f3 _ _ (by omega)]; exact g1, by rw [wr_nk _ _ _ _ (by omega), wr_nk _ _ _ _ (by omega), f3 _ _ (by omega)]; exact g2, by rw [wr_nk _ _ _ _ (by omega), wr_eq], fun a ha b hb => by rw [wr_nc _ _ _ _ (by omega), wr_nc _ _ _ _ (by omega), f3 _ _ (by omega)]; exact g4 a ha b hb, fun g' hg u hu => ?_⟩ (fun c k w => by rw [wr, if_neg (by omega), wr, if_neg (by omega)]; exact f3 c k (by omega)) (wr_eq _ _ _ _)
      have hg' : g' < h.2.2.1 + 1 := hg
      show _ = nI (up_ h.2.2.2.2 h.2.2.1 g g' u)
      rw [wr_nc _ _ _ _ (by omega), wr_nc _ _ _ _ (by omega)]
      by_cases w : g' = h.2.2.1
      · subst w
        rw [up_eq, u3 u (by omega) hu, wr_nc _ _ _ _ (by omega)]; exact pg u hu
      · rw [up_ne _ _ w, f3 _ _ (by omega)]; exact g5 g' (by omega) u hu
