/-! ===== does, trip, guest, count ===== -/
def nth_ (f o : Nat → Nat) (v : Nat) : Nat → Nat → Nat → Option Nat
  | 0, _, _ => none
  | n + 1, k, l => if f (o k) = v then (if l = 0 then some (o k) else nth_ f o v n (k + 1) (l - 1)) else nth_ f o v n (k + 1) l
def ansO (d : Int32) : Option Nat → Int32
  | none => d
  | some e => nI e
theorem nth_c {f g o o' : Nat → Nat} {v : Nat} : ∀ {n k l : Nat}, (∀ i, k ≤ i → i < k + n → o i = o' i ∧ f (o i) = g (o i)) → nth_ f o v n k l = nth_ g o' v n k l := by
  intro n
  induction n with
  | zero => intro k l _; rfl
  | succ n ih =>
    intro k l hh
    have h1 := hh k (Nat.le_refl _) (by omega)
    simp only [nth_]
    rw [h1.2, h1.1, ih (fun i a b => hh i (by omega) (by omega)), ih (fun i a b => hh i (by omega) (by omega))]
theorem nth_lt {f o : Nat → Nat} {v E : Nat} : ∀ {n k l e : Nat}, (∀ i, k ≤ i → i < k + n → o i < E) → nth_ f o v n k l = some e → e < E := by
  intro n
  induction n with
  | zero => intro k l e _ q; simp [nth_] at q
  | succ n ih =>
    intro k l e hh q
    simp only [nth_] at q
    split at q
    · split at q
      · cases q; exact hh k (Nat.le_refl _) (by omega)
      · exact ih (fun i a b => hh i (by omega) (by omega)) q
    · exact ih (fun i a b => hh i (by omega) (by omega)) q
theorem s_errandOf_125 {M : Mem} {E v : Nat} (hE : E ≤ 5) (hv : v < 3) {f o : Nat → Nat} (h1 : ∀ i, i < E → M 126 i = nI (o i) ∧ o i < E) (h2 : ∀ e, e < E → M 127 e = nI (f e) ∧ f e < 3) {l : Nat} (hl : l < 2147483648) {Q : Int32 → Mem → Prop} (k : Q (ansO (-1) (nth_ f o v E 0 l)) M) : C_X2_errandOf_125 M (nI v) (nI l) (nI E) Q := by
  have key : ∀ n i l, i + n = E → l < 2147483648 → Q (ansO (-1) (nth_ f o v n i l)) M → P_X2_errandOf_125_6 M (nI v) (nI E) (nI l) (nI i) Q := by
    intro n
    induction n with
    | zero =>
      intro i l hi hl kk
      refine T_X2_errandOf_125_6 ?_
      rw [n_le (by omega) (by omega)]
      exact ⟨fun _ => kk, fun q => by omega⟩
    | succ n ih =>
      intro i l hi hl kk
      have a := h1 i (by omega)
      have b2 := h2 (o i) a.2
      simp only [nth_] at kk
      refine T_X2_errandOf_125_6 ?_
      rw [n_le (by omega) (by omega), vin (by omega), ix_n (by omega), a.1, vin (by omega), ix_n (by omega), b2.1, n_eq (by omega) (by omega), n_eq0 (by omega), n_add]
      refine ⟨fun q => by omega, fun _ => ⟨by omega, by omega, fun q => ?_, fun q => ⟨fun q2 => ?_, fun q2 => ?_⟩⟩⟩
      · rw [if_neg q] at kk
        exact ih (i + 1) l (by omega) hl kk
      · rw [if_pos q, if_neg q2] at kk
        rw [n_m1 (by omega)]
        exact ih (i + 1) (l - 1) (by omega) (by omega) kk
      · rw [if_pos q, if_pos q2] at kk
        exact kk
  exact T_X2_errandOf_125 (key E 0 l (by omega) hl k)
theorem s_errandOf_130 {M : Mem} {E v : Nat} (hE : E ≤ 5) (hv : v < 3) {f o : Nat → Nat} (h1 : ∀ i, i < E → M 131 i = nI (o i) ∧ o i < E) (h2 : ∀ e, e < E → M 132 e = nI (f e) ∧ f e < 3) {l : Nat} (hl : l < 2147483648) {Q : Int32 → Mem → Prop} (k : Q (ansO (-1) (nth_ f o v E 0 l)) M) : C_X2_errandOf_130 M (nI v) (nI l) (nI E) Q := by
  have key : ∀ n i l, i + n = E → l < 2147483648 → Q (ansO (-1) (nth_ f o v n i l)) M → P_X2_errandOf_130_6 M (nI v) (nI E) (nI l) (nI i) Q := by
    intro n
    induction n with
    | zero =>
      intro i l hi hl kk
      refine T_X2_errandOf_130_6 ?_
      rw [n_le (by omega) (by omega)]
      exact ⟨fun _ => kk, fun q => by omega⟩
    | succ n ih =>
      intro i l hi hl kk
      have a := h1 i (by omega)
      have b2 := h2 (o i) a.2
      simp only [nth_] at kk
      refine T_X2_errandOf_130_6 ?_
      rw [n_le (by omega) (by omega), vin (by omega), ix_n (by omega), a.1, vin (by omega), ix_n (by omega), b2.1, n_eq (by omega) (by omega), n_eq0 (by omega), n_add]
      refine ⟨fun q => by omega, fun _ => ⟨by omega, by omega, fun q => ?_, fun q => ⟨fun q2 => ?_, fun q2 => ?_⟩⟩⟩
      · rw [if_neg q] at kk
        exact ih (i + 1) l (by omega) hl kk
      · rw [if_pos q, if_neg q2] at kk
        rw [n_m1 (by omega)]
        exact ih (i + 1) (l - 1) (by omega) (by omega) kk
      · rw [if_pos q, if_pos q2] at kk
        exact kk
  exact T_X2_errandOf_130 (key E 0 l (by omega) hl k)
theorem m_does65 {M : Mem} {E v : Nat} (hE : E ≤ 5) (hv : v < 3) (e3 : M 182 17 = nI E) {f o : Nat → Nat} (h1 : ∀ i, i < E → M 199 i = nI (o i) ∧ o i < E) (h2 : ∀ e, e < E → M 198 e = nI (f e) ∧ f e < 3) {l : Nat} (hl : l < 2147483648) {Q : Int32 → Mem → Prop} (k : Q (ansO (-4) (nth_ f o v E 0 l)) M) : P_X10_does_65 M (nI v) (nI l) (nI 0) (nI 0) Q := by
  have key : ∀ n i c, i + n = E → c ≤ l → c ≤ i → Q (ansO (-4) (nth_ f o v n i (l - c))) M → P_X10_does_65 M (nI v) (nI l) (nI c) (nI i) Q := by
    intro n
    induction n with
    | zero =>
      intro i c hi hc hci kk
      refine T_X10_does_65 ?_
      rw [e3, n_le (by omega) (by omega)]
      exact ⟨fun _ => kk, fun q => by omega⟩
    | succ n ih =>
      intro i c hi hc hci kk
      have a := h1 i (by omega)
      have b2 := h2 (o i) a.2
      simp only [nth_] at kk
      refine T_X10_does_65 ?_
      rw [e3, n_le (by omega) (by omega), vin (by omega), ix_n (by omega), a.1, vin (by omega), ix_n (by omega), b2.1, n_eq (by omega) (by omega), n_eq (by omega) (by omega)]
      simp only [n_add]
      refine ⟨fun q => by omega, fun _ => ⟨by omega, by omega, fun q => ?_, fun q => ⟨fun q2 => ?_, fun q2 => ?_⟩⟩⟩
      · rw [if_neg q] at kk
        exact ih (i + 1) c (by omega) hc (by omega) kk
      · rw [if_pos q, if_neg (by omega)] at kk
        exact ih (i + 1) (c + 1) (by omega) (by omega) (by omega) (by rw [show l - (c + 1) = l - c - 1 by omega]; exact kk)
      · rw [if_pos q, if_pos (by omega)] at kk
        exact kk
  exact key E 0 0 (by omega) (by omega) (by omega) k
theorem ans_cl {r : Option Nat} (hr : ∀ e, r = some e → e < 100) {A : Int32 → Prop} (k : A (ansO (-4) r)) : (0 ≤ ansO (-1) r → A (ansO (-1) r)) ∧ (¬ 0 ≤ ansO (-1) r → A (-4)) := by
  cases r with
  | none => exact ⟨fun q => absurd q (by decide), fun _ => k⟩
  | some e => exact ⟨fun _ => k, fun q => absurd (nI_pos' (by have := hr e rfl; omega)) q⟩
theorem b_does {M : Mem} (C : Cpl M) (a v i : Int32) : C_X9_does M a v i (fun r M1 => C_X10_does M1 a v i (fun r' M2 => r = r' ∧ Cpl M2)) := by
  obtain ⟨h, s, t, n, tp, x, kx, I, J, O⟩ := C
  have hS := O.2.1.1
  have hE5 := O.2.1.2.1
  have hE : s.2.1 < 6 := by omega
  have same : Cpl M := ⟨h, s, t, n, tp, x, kx, I, J, O⟩
  refine T_X9_does (rlt (n := 1) (by omega) (fun q => ?_) (fun q => s_hasServant I.2.2.1.1 hS (br (fun q2 => ?_) (fun q2 => ⟨fun q3 => s_wellW I.2.2.1 hS ⟨fun wz => ?_, fun wz => ?_⟩, fun q3 => ?_⟩))))
  · refine T_X10_does (s_in ?_)
    rw [in_01, q]
    exact ⟨fun _ => ⟨rfl, same⟩, fun w => absurd nI_0 w⟩
  · refine T_X10_does (s_in ?_)
    rw [in_01, q]
    refine ⟨fun w => absurd w (by decide), fun _ => s_in ?_⟩
    rw [J.2.1.1, in_ok v (by omega), q2]
    exact ⟨fun _ => ⟨rfl, same⟩, fun w => absurd nI_0 w⟩
  · have hne := wel_ne wz hS
    obtain ⟨j, hj, rfl⟩ := okN_t (by omega) q
    obtain ⟨w, hw, rfl⟩ := okN_t (by omega) q2
    obtain ⟨l, hl, rfl⟩ := nI_of (x := i) (Int32.not_lt.mpr q3)
    refine x_prep I O hne (fun M1 f1 I1 P1 => T_X3_plan ?_)
    have J1 : IM M1 h s t n tp x kx := J.far f1
    have e30 : M1 30 3 = nI s.2.1 := I1.2.2.1.2.2.2.1
    have mst : ∀ {A : Int32 → Mem → Prop}, (j ≠ 0 → C_X10_ruled M1 (fun r8 M8 => P_X10_does_65 M8 (nI w) (nI l) (nI 0) (nI 0) A)) → (j = 0 → C_X10_bestDone M1 (fun r8 M8 => P_X10_does_65 M8 (nI w) (nI l) (nI 0) (nI 0) A)) → C_X10_does M1 (nI j) (nI w) (nI l) A := by
      intro A k1 k2
      refine T_X10_does (s_in ?_)
      rw [in_01, q]
      refine ⟨fun w => absurd w (by decide), fun _ => s_in ?_⟩
      rw [J1.2.1.1, in_ok _ (by omega), q2]
      refine ⟨fun w => absurd w (by decide), fun _ => ⟨fun _ => m_well O.2.1 J1.2.1 ⟨fun _ => ?_, fun w => absurd w wz⟩, fun w => absurd q3 w⟩⟩
      rw [n_eq0 (by omega)]
      exact ⟨fun z => k1 z, fun z => k2 z⟩
    rw [n_eq0 (by omega), e30]
    refine ⟨fun qj => Or.inr ⟨rfl, ?_⟩, fun qj => Or.inl ⟨rfl, ?_⟩⟩
    · obtain ⟨b, ro, R1, _, e2, e3⟩ := P1.2.2
      have hlt : ∀ e, nth_ b ro w s.2.1 0 l = some e → e < 100 := fun e he => by
        have := nth_lt (E := s.2.1) (fun i _ hi => R1.1 i (by omega)) he; omega
      have hb3 : ∀ e, e < s.2.1 → b e < 3 := fun e he => by
        obtain ⟨i, hi, rfl⟩ := RU_surj hE R1 he
        have := (wel_t (R1.2.2 i hi).1).1; omega
      refine s_errandOf_130 hE5 (by omega) (fun i hi => ⟨e2 i hi, R1.1 i hi⟩) (fun e he => ⟨e3 e he, hb3 e he⟩) hl (ans_cl hlt (A := fun z => C_X10_does M1 (nI j) (nI w) (nI l) (fun r' M2 => z = r' ∧ Cpl M2)) ?_)
      refine mst (fun _ => ?_) (fun z => absurd z qj)
      refine m_ruled O.1 O.2.1 J1.1 J1.2.1 J1.2.2.2.2.2.2 hne (fun M2 b' ro' f2 L2 R2 w1 w2 => ?_)
      obtain ⟨u1, u2⟩ := RU_uniq hE R1 R2
      have J2 := J1.lay f2 L2
      refine m_does65 hE5 (by omega) J2.2.1.2.1 (f := b') (o := ro') (fun i hi => ⟨w2 i hi, R2.1 i hi⟩) (fun e he => ⟨w1 e he, by rw [← u2 e he]; exact hb3 e he⟩) hl ?_
      refine ⟨?_, h, s, t, n, tp, x, kx, I1.far O (fun c k hc => f2 c k (mlay_lt hc)), J2, O⟩
      rw [nth_c (fun i _ hi => ⟨u1 i (by omega), u2 _ (R1.1 i (by omega))⟩)]
    · obtain ⟨b, k, B1, _, e2, e3⟩ := P1.2.1
      have pa := prm_a _ hE k B1.2.1
      have hlt : ∀ e, nth_ b (prm s.2.1 k) w s.2.1 0 l = some e → e < 100 := fun e he => by
        have := nth_lt (E := s.2.1) (fun i _ hi => pa.2.1 i (by omega)) he; omega
      have hb3 : ∀ e, e < s.2.1 → b e < 3 := fun e he => by
        have := (wel_t (B1.1 e he)).1; omega
      refine s_errandOf_125 hE5 (by omega) (fun i hi => ⟨e2 i hi, pa.2.1 i hi⟩) (fun e he => ⟨(e3 e he).1, hb3 e he⟩) hl (ans_cl hlt (A := fun z => C_X10_does M1 (nI j) (nI w) (nI l) (fun r' M2 => z = r' ∧ Cpl M2)) ?_)
      refine mst (fun z => absurd qj z) (fun _ => ?_)
      refine m_bestDone O.1 O.2.1 J1.1 J1.2.1 J1.2.2.2.2.2.2 hne (fun M2 b' k' f2 L2 B2 w1 w2 _ => ?_)
      obtain ⟨u1, u2⟩ := BT_uniq hE (B := s.1) (fun v hv => (wel_t hv).1) B1 B2
      subst u2
      have J2 := J1.lay f2 L2
      refine m_does65 hE5 (by omega) J2.2.1.2.1 (f := b') (o := prm s.2.1 k) (fun i hi => ⟨w2 i hi, pa.2.1 i hi⟩) (fun e he => ⟨w1 e he, by rw [← u1 e he]; exact hb3 e he⟩) hl ?_
      refine ⟨?_, h, s, t, n, tp, x, kx, I1.far O (fun c k hc => f2 c k (mlay_lt hc)), J2, O⟩
      rw [nth_c (fun i _ hi => ⟨rfl, u1 _ (pa.2.1 i (by omega))⟩)]
  · refine T_X10_does (s_in ?_)
    rw [in_01, q]
    refine ⟨fun w => absurd w (by decide), fun _ => s_in ?_⟩
    rw [J.2.1.1, in_ok v (by omega), q2]
    exact ⟨fun w => absurd w (by decide), fun _ => ⟨fun _ => m_well O.2.1 J.2.1 ⟨fun w => absurd wz w, fun _ => ⟨rfl, same⟩⟩, fun w => absurd q3 w⟩⟩
  · refine T_X10_does (s_in ?_)
    rw [in_01, q]
    refine ⟨fun w => absurd w (by decide), fun _ => s_in ?_⟩
    rw [J.2.1.1, in_ok v (by omega), q2]
    exact ⟨fun w => absurd w (by decide), fun _ => ⟨fun w => absurd w q3, fun _ => ⟨rfl, same⟩⟩⟩
theorem b_trip {M : Mem} (C : Cpl M) (a t' b : Int32) (co : Bool) (u : Int32) : C_X9_trip M a t' b (bI co) u (fun r M1 => C_X10_trip M1 a t' b (bI co) u (fun r' M2 => r = r' ∧ Cpl M2)) := by
  obtain ⟨h, s, t, n, tp, x, kx, I, J, O⟩ := C
  refine x_trip O.1 I.1 I.2.2.2.2.2.2.2.1 (fun M1 f1 T1 => ?_)
  have I1 : IC M1 h s t n tp x kx := I.tmp O (fun c k w => f1 c k (by unfold scr at w; omega)) T1 (I.2.2.2.2.2.2.2.2.congr O.2.1.1 (fun c k w => f1 c k (by omega)))
  have J1 : IM M1 h s t n tp x kx := J.far (fun c k hc => f1 c k (by omega))
  refine y_trip O.1 J1.1 J1.2.2.2.2.2.2 (fun M2 f2 L2 => ⟨rfl, h, s, t, n, tp, x, kx, I1.far O (fun c k hc => f2 c k (by omega)), J1.tmp (fun c k w => f2 c k (by unfold msc at w; omega)) L2, O⟩)
theorem b_guest {M : Mem} (C : Cpl M) (a u : Int32) : C_X9_guest M a u (fun r M1 => C_X10_guest M1 a u (fun r' M2 => r = r' ∧ Cpl M2)) := by
  obtain ⟨h, s, t, n, tp, x, kx, I, J, O⟩ := C
  have hG := O.1.2.1
  have same : Cpl M := ⟨h, s, t, n, tp, x, kx, I, J, O⟩
  have e1 : M 1 2 = nI h.2.2.1 := I.1.2.2.1
  refine T_X9_guest ?_
  rw [e1]
  refine rg (by omega) (fun q => ?_) (fun q => s_isTick (br' (fun q2 => ?_) (fun q2 => ?_)))
  · refine T_X10_guest (s_in ?_)
    rw [J.1.2.2.1, in_ok a (by omega), q]
    exact ⟨fun _ => ⟨rfl, same⟩, fun w => absurd nI_0 w⟩
  · refine T_X10_guest (s_in ?_)
    rw [J.1.2.2.1, in_ok a (by omega), q]
    refine ⟨fun w => absurd w (by decide), fun _ => m_isTick ?_⟩
    rw [q2]
    exact ⟨fun _ => ⟨rfl, same⟩, fun w => absurd nI_0 w⟩
  · obtain ⟨g, hg, rfl⟩ := okN_t (by omega) q
    obtain ⟨v, hv, rfl⟩ := okN_t (by omega) q2
    have c1 := I.1.2.2.2.2.2 g hg v hv
    have c2 := J.1.2.2.2.2 g hg v hv
    rw [vin (by omega), vin (by omega), ix_n (by omega), ix_n (by omega), show 4 + 1 + g = 1 + 4 + g by omega, c1]
    refine ⟨by omega, by omega, ?_⟩
    refine T_X10_guest (s_in ?_)
    rw [J.1.2.2.1, in_ok _ (by omega), q]
    refine ⟨fun w => absurd w (by decide), fun _ => m_isTick ?_⟩
    rw [q2, n_mul, n_add, vin (by omega), ix_n (by omega), c2]
    exact ⟨fun w => absurd w (by decide), fun _ => ⟨by omega, rfl, same⟩⟩
theorem b_count {M : Mem} (C : Cpl M) (a : Int32) : C_X9_count M a (fun r M1 => C_X10_count M1 a (fun r' M2 => r = r' ∧ Cpl M2)) := by
  obtain ⟨h, s, t, n, tp, x, kx, I, J, O⟩ := C
  have hS := O.2.1.1
  have same : Cpl M := ⟨h, s, t, n, tp, x, kx, I, J, O⟩
  obtain ⟨c1, c2, c3, _, _, _⟩ := I.1
  obtain ⟨d1, d2, d3, d4, d5, d6⟩ := I.2.2.1
  obtain ⟨f1, f2, f3, _, _, _⟩ := I.2.2.2.1
  obtain ⟨r1, r2, r3, _, _⟩ := J.1
  obtain ⟨p1, p2, p3, p4, p5⟩ := J.2.1
  obtain ⟨t1, t2, t3, _, _, _⟩ := J.2.2.1
  have lit : ∀ i j : Nat, i < 8 → j < 8 → i ≠ j → ¬ nI i = nI j := fun i j hi hj hij w => hij ((n_eq (by omega) (by omega)).mp w)
  have one : ∀ (k : Nat) (r : Int32), k < 8 → (k = 0 → r = M 182 0) → (k = 1 → r = M 182 1) → (k = 2 → r = M 182 3) → (k = 3 → r = M 182 14) → (k = 4 → C_X10_well M (fun r9 M9 => C_X10_size M9 r9 (fun r10 M10 => r = (M 182 14) - r10 ∧ Cpl M10))) → (k = 5 → r = M 182 17) → (k = 6 → r = M 182 28) → (k = 7 → r = M 182 30) → C_X10_count M (nI k) (fun r' M2 => r = r' ∧ Cpl M2) := by
    intro k r hk k0 k1 k2 k3 k4 k5 k6 k7
    refine T_X10_count ?_
    simp (disch := omega) only [n_eq]
    exact ⟨fun q => ⟨k0 q, same⟩, fun q => ⟨k1 q, same⟩, fun q => ⟨k2 q, same⟩, fun q => ⟨k3 q, same⟩, fun q => k4 q, fun q => ⟨k5 q, same⟩, fun q => ⟨k6 q, same⟩, fun q => ⟨k7 q, same⟩, fun _ _ _ _ _ _ _ _ => by omega⟩
  refine T_X9_count ⟨fun q => ?_, fun q => ?_, fun q => ?_, fun q => ?_, fun q => ?_, fun q => ?_, fun q => ?_, fun q => ?_, fun q0 q1 q2 q3 q4 q5 q6 q7 => ?_⟩
  · subst q
    exact one 0 _ (by omega) (fun _ => by rw [r1]; exact c1) (fun w => by omega) (fun w => by omega) (fun w => by omega) (fun w => by omega) (fun w => by omega) (fun w => by omega) (fun w => by omega)
  · subst q
    exact one 1 _ (by omega) (fun w => by omega) (fun _ => by rw [r2]; exact c2) (fun w => by omega) (fun w => by omega) (fun w => by omega) (fun w => by omega) (fun w => by omega) (fun w => by omega)
  · subst q
    exact one 2 _ (by omega) (fun w => by omega) (fun w => by omega) (fun _ => by rw [r3]; exact c3) (fun w => by omega) (fun w => by omega) (fun w => by omega) (fun w => by omega) (fun w => by omega)
  · subst q
    exact one 3 _ (by omega) (fun w => by omega) (fun w => by omega) (fun w => by omega) (fun _ => by rw [p1]; exact d1) (fun w => by omega) (fun w => by omega) (fun w => by omega) (fun w => by omega)
  · subst q
    have d2 : M 30 1 = mk (fun i => decide (i < s.1) && s.2.2.2.2.1 i) := d2
    rw [d2]
    refine s_bitCount (fun i hi => by rw [decide_eq_false (by omega)]; rfl) ?_
    refine one 4 _ (by omega) (fun w => by omega) (fun w => by omega) (fun w => by omega) (fun w => by omega) (fun _ => m_well O.2.1 J.2.1 ?_) (fun w => by omega) (fun w => by omega) (fun w => by omega)
    obtain ⟨y, hy, hye⟩ := tb_ex hS (T := wel s) (fun i hi => (wel_t hi).1)
    have hp2 : 2 ^ s.1 ≤ 8 := by
      have : (2 : Nat) ^ s.1 ≤ 2 ^ 3 := Nat.pow_le_pow_right (by omega) hS
      exact this
    rw [show mk (wel s) = nI y from by rw [nI_mk y (by omega)]; exact mk_ext (fun i _ => (hye i).symm)]
    refine m_size (by omega) ⟨?_, same⟩
    rw [p1]
    have e2 : tb_ y = wel s := funext hye
    rw [e2]
    have all : ∀ S, S < 4 → ∀ a b c : Bool, cntN (fun i => decide (i < S) && c5 a b c false false i) 5 + cntN (fun i => decide (i < S) && !c5 a b c false false i) 5 = S := by decide +kernel
    have e3 := all s.1 (by omega) (s.2.2.2.2.1 0) (s.2.2.2.2.1 1) (s.2.2.2.2.1 2)
    have ce : ∀ (p q : Nat → Bool), (∀ i, i < 5 → p i = q i) → cntN p 5 = cntN q 5 := by
      intro p q hpq
      simp only [cntN]
      rw [hpq 0 (by omega), hpq 1 (by omega), hpq 2 (by omega), hpq 3 (by omega), hpq 4 (by omega)]
    have x1 : cntN (fun i => decide (i < s.1) && s.2.2.2.2.1 i) 5 = cntN (fun i => decide (i < s.1) && c5 (s.2.2.2.2.1 0) (s.2.2.2.2.1 1) (s.2.2.2.2.1 2) false false i) 5 := ce _ _ (fun i hi => by
      rcases (show i = 0 ∨ i = 1 ∨ i = 2 ∨ 3 ≤ i by omega) with q | q | q | q
      · subst q; rfl
      · subst q; rfl
      · subst q; rfl
      · rw [decide_eq_false (by omega), Bool.false_and, Bool.false_and])
    have x2 : cntN (wel s) 5 = cntN (fun i => decide (i < s.1) && !c5 (s.2.2.2.2.1 0) (s.2.2.2.2.1 1) (s.2.2.2.2.1 2) false false i) 5 := ce _ _ (fun i hi => by
      unfold wel
      rcases (show i = 0 ∨ i = 1 ∨ i = 2 ∨ 3 ≤ i by omega) with q | q | q | q
      · subst q; rfl
      · subst q; rfl
      · subst q; rfl
      · rw [decide_eq_false (by omega), Bool.false_and, Bool.false_and])
    rw [n_sub (by omega)]
    congr 1
    omega
  · subst q
    exact one 5 _ (by omega) (fun w => by omega) (fun w => by omega) (fun w => by omega) (fun w => by omega) (fun w => by omega) (fun _ => by rw [p2]; exact d4) (fun w => by omega) (fun w => by omega)
  · subst q
    exact one 6 _ (by omega) (fun w => by omega) (fun w => by omega) (fun w => by omega) (fun w => by omega) (fun w => by omega) (fun w => by omega) (fun _ => by rw [t1]; exact f1) (fun w => by omega)
  · subst q
    exact one 7 _ (by omega) (fun w => by omega) (fun w => by omega) (fun w => by omega) (fun w => by omega) (fun w => by omega) (fun w => by omega) (fun w => by omega) (fun _ => by rw [t2]; exact f2)
  · exact T_X10_count ⟨fun q => absurd q q0, fun q => absurd q q1, fun q => absurd q q2, fun q => absurd q q3, fun q => absurd q q4, fun q => absurd q q5, fun q => absurd q q6, fun q => absurd q q7, fun _ _ _ _ _ _ _ _ => ⟨rfl, same⟩⟩
