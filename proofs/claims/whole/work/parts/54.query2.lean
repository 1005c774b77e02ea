/-! ===== calls that ask: told, does, trip, guest, count ===== -/
theorem rn_le {h : HS} {s : SS} (P : SO s h.1) {b o : Nat → Nat} : ∀ i, (∀ j, j < i → o j < s.2.1 ∧ b (o j) < s.1) → ∀ e, rnD h s b o i e ≤ 24 ∧ rnT h s b o i e ≤ 24 := by
  intro i
  induction i with
  | zero => intro _ e; exact ⟨Nat.zero_le _, Nat.zero_le _⟩
  | succ i ih =>
    intro hj e
    have ih' := ih (fun j q => hj j (by omega)) e
    have h1 := hj i (by omega)
    have hd := dk_le (h := h) P (by_ := b) (ord := o) (i := i) (fun j q => (hj j (by omega)).1) h1.2
    have hp := pos_ok (h := h) P (by_ := b) (ord := o) i (fun j q => (hj j (by omega)).1) _ h1.2
    simp only [rnD, rnT]
    refine ⟨by split <;> omega, ?_⟩
    split
    · unfold tkk
      split
      · omega
      · rename_i hne
        refine tk_le P h1.1 ?_
        apply Classical.byContradiction
        intro q
        apply hne
        unfold dk_ dn
        rw [if_pos (by omega)]
    · exact ih'.2
theorem ans24 {v : Nat} (hv : v ≤ 24) {A : Int32 → Prop} (k : A (edI v)) : (¬ nI v = nI 24 → A (nI v)) ∧ (nI v = nI 24 → A (-4)) := by
  rw [n_eq (by omega) (by omega)]
  refine ⟨fun q => ?_, fun q => ?_⟩
  · rw [edI_eq (by omega)] at k; exact k
  · rw [q, edI_24] at k; exact k
theorem x_told {M : Mem} {h : HS} {s : SS} {t : TS} {n : Nat} {tp : Nat → Nat} {x : WS} {kx : KS} (I : IC M h s t n tp x kx) (J : IM M h s t n tp x kx) (O : IO h s t n tp x kx) (hne : ∃ v, wel s v = true) {Q : Mem → Prop}
    (K : ∀ M1 (v5 v6 v7 : Nat → Nat), IC M1 h s t n tp x kx → IM M1 h s t n tp x kx → (∀ e, e < s.2.1 → M1 127 e = nI (v5 e) ∧ M1 128 e = nI (v6 e) ∧ M1 129 e = nI (v7 e) ∧ v6 e ≤ 24 ∧ v7 e ≤ 24) → (∀ A : Int32 → Mem → Prop, (∀ r M2, IC M2 h s t n tp x kx → IM M2 h s t n tp x kx → (∀ e, e < s.2.1 → M2 198 e = nI (v5 e) ∧ M2 194 e = edI (v6 e) ∧ M2 195 e = tkI s e (v7 e)) → A r M2) → C_X10_bestDone M1 A) → Q M1) : C_X3_prepare M Q := by
  have hE : s.2.1 < 6 := by have := O.2.1.2.1; omega
  refine x_prep I O hne (fun M1 f1 I1 P1 => ?_)
  have J1 : IM M1 h s t n tp x kx := J.far f1
  obtain ⟨b, k, B1, e1, e2, e3⟩ := P1.2.1
  have pa := prm_a _ hE k B1.2.1
  have le := rn_le (h := h) O.2.1 (b := b) (o := prm s.2.1 k) s.2.1 (fun j hj => ⟨pa.2.1 j hj, (wel_t (B1.1 _ (pa.2.1 j hj))).1⟩)
  refine K M1 b (rnD h s b (prm s.2.1 k) s.2.1) (rnT h s b (prm s.2.1 k) s.2.1) I1 J1 (fun e he => ⟨(e3 e he).1, (e3 e he).2.1, (e3 e he).2.2, (le e).1, (le e).2⟩) (fun A hA => ?_)
  refine m_bestDone O.1 O.2.1 J1.1 J1.2.1 J1.2.2.2.2.2.2 hne (fun M2 b2 k2 f2 L2 B2 w1 w2 w3 => ?_)
  obtain ⟨u1, u2⟩ := BT_uniq hE (B := s.1) (fun v hv => (wel_t hv).1) B1 B2
  subst u2
  have ec : ∀ j, j < s.2.1 → prm s.2.1 k j = prm s.2.1 k j ∧ b (prm s.2.1 k j) = b2 (prm s.2.1 k j) := fun j hj => ⟨rfl, u1 _ (pa.2.1 j hj)⟩
  exact hA _ M2 (I1.far O (fun c j hc => f2 c j (mlay_lt hc))) (J1.lay f2 L2) (fun e he => ⟨by rw [w1 e he, u1 e he], by rw [(w3 e he).1, rnD_c ec], by rw [(w3 e he).2, rnT_c ec]⟩)
theorem b_told {M : Mem} (C : Cpl M) (a w : Int32) : C_X9_told M a w (fun r M1 => C_X10_told M1 a w (fun r' M2 => r = r' ∧ Cpl M2)) := by
  obtain ⟨h, s, t, n, tp, x, kx, I, J, O⟩ := C
  have hS := O.2.1.1
  have hE5 := O.2.1.2.1
  have same : Cpl M := ⟨h, s, t, n, tp, x, kx, I, J, O⟩
  refine T_X9_told (s_hasErrand I.2.2.1.2.2.2.1 hE5 (br (fun q => ?_) (fun q => rle (n := 7) (by omega) (fun q2 => ?_) (fun q2 => ?_))))
  · refine T_X10_told (s_in ?_)
    rw [J.2.1.2.1, in_ok a (by omega), q]
    exact ⟨fun _ => ⟨rfl, same⟩, fun w => absurd nI_0 w⟩
  · refine T_X10_told (s_in ?_)
    rw [J.2.1.2.1, in_ok a (by omega), q]
    refine ⟨fun w => absurd w (by decide), fun _ => s_in ?_⟩
    rw [in_07, q2]
    exact ⟨fun w => absurd nI_0 w, fun _ => ⟨rfl, same⟩⟩
  · obtain ⟨e, he, rfl⟩ := okN_t (by omega) q
    obtain ⟨y, hy, rfl⟩ := okN_t (by omega) q2
    have hp := O.2.1.2.2.2.2 e he
    have gk : M 32 e = nI (s.2.2.2.2.2 e 0) := I.2.2.1.2.2.2.2.2 e he 0 (by omega)
    have gm : M 191 (5 * e) = nI (s.2.2.2.2.2 e 0) := J.2.1.2.2.2.2 e he 0 (by omega)
    -- the reference's beginning
    have mstart : ∀ (N : Mem), IM N h s t n tp x kx → ∀ {A : Int32 → Mem → Prop}, (5 ≤ y → y ≠ 7 → C_X10_well N (fun r6 M6 => ((¬ r6 = 0) → (C_X10_bestDone M6 (fun r8 M8 => ((¬ nI y = (nI 5)) → (((¬ nI y = (nI 6)) → (vp_in (nI e) 5 ∧ (A (M8 195 (ix (nI e))) M8))) ∧ ((nI y = (nI 6)) → (vp_in (nI e) 5 ∧ (A (M8 194 (ix (nI e))) M8))))) ∧ ((nI y = (nI 5)) → (vp_in (nI e) 5 ∧ (A (M8 198 (ix (nI e))) M8)))))) ∧ ((r6 = 0) → (A (-2) M6)))) → (y = 7 → s.2.2.2.2.2 e 0 ≠ 0 → C_X10_well N (fun r6 M6 => ((¬ r6 = 0) → (C_X10_bestDone M6 (fun r8 M8 => ((¬ nI y = (nI 5)) → (((¬ nI y = (nI 6)) → (vp_in (nI e) 5 ∧ (A (M8 195 (ix (nI e))) M8))) ∧ ((nI y = (nI 6)) → (vp_in (nI e) 5 ∧ (A (M8 194 (ix (nI e))) M8))))) ∧ ((nI y = (nI 5)) → (vp_in (nI e) 5 ∧ (A (M8 198 (ix (nI e))) M8)))))) ∧ ((r6 = 0) → (A (-2) M6)))) → (y = 7 → s.2.2.2.2.2 e 0 = 0 → A (-12) N) → (y < 5 → A (nI (s.2.2.2.2.2 e y)) N) → C_X10_told N (nI e) (nI y) A := by
      intro N JN A k1 k2 k3 k4
      have gmN : N 191 (5 * e) = nI (s.2.2.2.2.2 e 0) := JN.2.1.2.2.2.2 e he 0 (by omega)
      refine T_X10_told (s_in ?_)
      rw [JN.2.1.2.1, in_ok _ (by omega), q]
      refine ⟨fun w => absurd w (by decide), fun _ => s_in ?_⟩
      rw [in_07, q2]
      refine ⟨fun _ => ?_, fun w => absurd w (by decide)⟩
      rw [n_le (by omega) (by omega), n_eq (by omega) (by omega)]
      refine ⟨fun w5 => ⟨fun w7 => k1 w5 w7, fun w7 => ?_⟩, fun w5 => ?_⟩
      · rw [n_mul, vin (by omega), ix_n (by omega), gmN, n_eq0 (by omega)]
        exact ⟨by omega, fun w0 => k2 w7 w0, fun w0 => k3 w7 w0⟩
      · rw [n_mul, n_add, vin (by omega), ix_n (by omega), JN.2.1.er he (show y < 5 by omega)]
        exact ⟨by omega, k4 (by omega)⟩
    have done : ∀ (hne : ∃ v, wel s v = true) (h5 : 5 ≤ y) (hk : y = 7 → s.2.2.2.2.2 e 0 ≠ 0) {D : Mem → Prop}, (∀ M1 (v5 v6 v7 : Nat), IC M1 h s t n tp x kx → M1 127 e = nI v5 → M1 128 e = nI v6 → M1 129 e = nI v7 → v6 ≤ 24 → v7 ≤ 24 → (∀ r : Int32, r = (if y = 5 then nI v5 else if y = 6 then edI v6 else edI v7) → C_X10_told M1 (nI e) (nI y) (fun r' M2 => r = r' ∧ Cpl M2)) → D M1) → C_X3_prepare M D := by
      intro hne h5 hk D kD
      refine x_told I J O hne (fun M1 v5 v6 v7 I1 J1 hv bd => ?_)
      obtain ⟨a1, a2, a3, a4, a5⟩ := hv e he
      refine kD M1 (v5 e) (v6 e) (v7 e) I1 a1 a2 a3 a4 a5 (fun r hr => ?_)
      have wneq : ¬ mk (wel s) = 0 := by
        obtain ⟨v, hv2⟩ := hne
        intro w
        rw [mk_eq0] at w
        have := w v (by have := (wel_t hv2).1; omega)
        rw [hv2] at this; cases this
      have tail : C_X10_well M1 (fun r6 M6 => ((¬ r6 = 0) → (C_X10_bestDone M6 (fun r8 M8 => ((¬ nI y = (nI 5)) → (((¬ nI y = (nI 6)) → (vp_in (nI e) 5 ∧ ((fun r' M2 => r = r' ∧ Cpl M2) (M8 195 (ix (nI e))) M8))) ∧ ((nI y = (nI 6)) → (vp_in (nI e) 5 ∧ ((fun r' M2 => r = r' ∧ Cpl M2) (M8 194 (ix (nI e))) M8))))) ∧ ((nI y = (nI 5)) → (vp_in (nI e) 5 ∧ ((fun r' M2 => r = r' ∧ Cpl M2) (M8 198 (ix (nI e))) M8)))))) ∧ ((r6 = 0) → ((fun r' M2 => r = r' ∧ Cpl M2) (-2) M6))) := by
        refine m_well O.2.1 J1.2.1 ⟨fun _ => bd _ (fun r8 M2 I2 J2 hv2 => ?_), fun w => absurd w wneq⟩
        obtain ⟨c1, c2, c3⟩ := hv2 e he
        have cp : Cpl M2 := ⟨h, s, t, n, tp, x, kx, I2, J2, O⟩
        rw [n_eq (by omega) (by omega), n_eq (by omega) (by omega), vin (by omega), ix_n (by omega), c1, c2, c3]
        refine ⟨fun w5 => ⟨fun w6 => ⟨by omega, ?_, cp⟩, fun w6 => ⟨by omega, ?_, cp⟩⟩, fun w5 => ⟨by omega, ?_, cp⟩⟩
        · rw [hr, if_neg w5, if_neg w6, tkI, if_neg (hk (by omega))]
        · rw [hr, if_neg w5, if_pos w6]
        · rw [hr, if_pos w5]
      exact mstart M1 J1 (fun _ _ => tail) (fun _ _ => tail) (fun w7 w0 => absurd w0 (hk w7)) (fun w => by omega)
    rw [n_le (by omega) (by omega), n_eq (by omega) (by omega)]
    refine ⟨fun w5 => ⟨fun w7 => s_wellW I.2.2.1 hS ⟨fun wz => done (wel_ne wz hS) w5 (fun q => absurd q w7) (fun M1 v5 v6 v7 I1 a1 a2 a3 a4 a5 fin => ?_), fun wz => ?_⟩, fun w7 => ?_⟩, fun w5 => ?_⟩
    · rw [n_eq (by omega) (by omega), n_eq (by omega) (by omega), vin (by omega), ix_n (by omega), a1, a2, a3]
      refine ⟨fun q5 => ⟨fun q6 => by omega, fun q6 => ⟨by omega, ans24 a4 (A := fun z => C_X10_told M1 (nI e) (nI y) (fun r' M2 => z = r' ∧ Cpl M2)) (fin _ ?_)⟩⟩, fun q5 => ⟨by omega, fin _ ?_⟩⟩
      · rw [if_neg q5, if_pos q6]
      · rw [if_pos q5]
    · refine mstart M J (fun _ _ => m_well O.2.1 J.2.1 ⟨fun w => absurd wz w, fun _ => ⟨rfl, same⟩⟩) (fun q => absurd q w7) (fun q => absurd q w7) (fun q => by omega)
    · rw [vin (by omega), ix_n (by omega), gk, n_eq (by omega) (by omega)]
      refine ⟨by omega, fun k1 => s_wellW I.2.2.1 hS ⟨fun wz => done (wel_ne wz hS) w5 (fun _ => by omega) (fun M1 v5 v6 v7 I1 a1 a2 a3 a4 a5 fin => ?_), fun wz => ?_⟩, fun k0 => ?_⟩
      · rw [n_eq (by omega) (by omega), n_eq (by omega) (by omega), a1, a2, a3]
        refine ⟨fun q5 => ⟨fun q6 => ans24 a5 (A := fun z => C_X10_told M1 (nI e) (nI y) (fun r' M2 => z = r' ∧ Cpl M2)) (fin _ ?_), fun q6 => by omega⟩, fun q5 => by omega⟩
        rw [if_neg q5, if_neg q6]
      · refine mstart M J (fun _ q => absurd w7 q) (fun _ _ => m_well O.2.1 J.2.1 ⟨fun w => absurd wz w, fun _ => ⟨rfl, same⟩⟩) (fun _ q => by omega) (fun q => by omega)
      · refine mstart M J (fun _ q => absurd w7 q) (fun _ q => by omega) (fun _ _ => ⟨rfl, same⟩) (fun q => by omega)
    · have g := I.2.2.1.2.2.2.2.2 e he
      have g0 : M 32 e = nI (s.2.2.2.2.2 e 0) := g 0 (by omega)
      have g1 : M 33 e = nI (s.2.2.2.2.2 e 1) := g 1 (by omega)
      have g2 : M 34 e = nI (s.2.2.2.2.2 e 2) := g 2 (by omega)
      have g3 : M 35 e = nI (s.2.2.2.2.2 e 3) := g 3 (by omega)
      have g4 : M 36 e = nI (s.2.2.2.2.2 e 4) := g 4 (by omega)
      have fin : ∀ r : Int32, r = nI (s.2.2.2.2.2 e y) → C_X10_told M (nI e) (nI y) (fun r' M2 => r = r' ∧ Cpl M2) := fun r hr => mstart M J (fun q => by omega) (fun q => by omega) (fun q => by omega) (fun _ => ⟨hr, same⟩)
      refine T_X5_asTold_30 ?_
      simp (disch := omega) only [n_eq, vin, ix_n, g0, g1, g2, g3, g4]
      refine ⟨fun q => ⟨by omega, fin _ (by rw [q])⟩, fun q => ⟨by omega, fin _ (by rw [q])⟩, fun q => ⟨by omega, fin _ (by rw [q])⟩, fun q => ⟨by omega, fin _ (by rw [q])⟩, fun q0 q1 q2 q3 => ⟨by omega, fin _ (by rw [show y = 4 by omega])⟩⟩
