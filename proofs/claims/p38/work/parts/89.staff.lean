/-! ===== the law's plans: one ill is never cheaper; an errand less, and back ===== -/
theorem pos_ill (h : HS) (s : SS) (j : Nat) (is : Bool) (b o : Nat → Nat) : ∀ i v, pos h (sill s j is) b o i v = pos h s b o i v := by
  intro i
  induction i with
  | zero => intro v; rfl
  | succ i ih =>
    intro v
    show (if v = b (o i) then (s.2.2.2.2.2 (o i) 1, dn h s (o i) (pos h (sill s j is) b o i v).1 (pos h (sill s j is) b o i v).2) else pos h (sill s j is) b o i v) = _
    rw [ih]; rfl
theorem cst_ill (h : HS) (s : SS) (j : Nat) (is : Bool) (b o : Nat → Nat) : ∀ i, cst h (sill s j is) b o i = cst h s b o i := by
  intro i
  induction i with
  | zero => rfl
  | succ i ih =>
    show cst h (sill s j is) b o i + wt s (o i) (dn h s (o i) (pos h (sill s j is) b o i (b (o i))).1 (pos h (sill s j is) b o i (b (o i))).2) = _
    rw [ih, pos_ill]; rfl
theorem MV_ill {h : HS} {s : SS} {j : Nat} {is : Bool} {T : Nat → Bool} {v : Nat} (H : MV h (sill s j is) T v) : MV h s T v := by
  have e : ∀ b k, Cc h (sill s j is) b k = Cc h s b k := fun b k => cst_ill h s j is b _ _
  obtain ⟨⟨b, k, a1, a2, a3⟩, a4⟩ := H
  refine ⟨⟨b, k, a1, a2, (e b k).symm.trans a3⟩, fun b' k' c1 c2 => ?_⟩
  have := a4 b' k' c1 c2
  rw [e] at this
  exact this
theorem MV_sub {h : HS} {s : SS} {T T' : Nat → Bool} {v v' : Nat} (H : MV h s T v) (H' : MV h s T' v') (hs : ∀ i, T' i = true → T i = true) : v ≤ v' := by
  obtain ⟨⟨b, k, a1, a2, a3⟩, a4⟩ := H'
  have := H.2 b k (vld_mono hs a1) a2
  omega
theorem sill_back {s : SS} {j : Nat} (h0 : s.2.2.2.2.1 j = false) : sill (sill s j true) j false = s := by
  obtain ⟨a, b, c, d, e, f⟩ := s
  have : (fun i => if i = j then false else (if i = j then true else e i)) = e := funext fun i => by
    by_cases q : i = j
    · subst q; rw [if_pos rfl]; exact h0.symm
    · rw [if_neg q, if_neg q]
  show (a, b, c, d, (fun i => if i = j then false else (if i = j then true else e i)), f) = (a, b, c, d, e, f)
  rw [this]
theorem l_staff {X : HX} {L : Nat} {xs : Nat → Int32} {Q : Int32 → Mem → Prop} (C : LC mdL_law 9 600000 7302250 X L xs) (R : RT mdL_law X 186 2099 Q) {M : Mem} {h : HS} {s : SS} {t : TS} {z : Nat} {tp : Nat → Nat} {x : WS} {kx : KS} (O : IO h s t z tp x kx) {n : Nat} (hs1 : 1 ≤ s.1) (he1 : 1 ≤ s.2.1) (he4 : s.2.1 ≤ 4) (hill : ∀ i, s.2.2.2.2.1 i = false)
    (NEXT : ∀ M2, fA M2 M → IC M2 h s t z tp x (true, h, s, t) → IO h s t z tp x (true, h, s, t) → P_L_law_516 X M2 (nI n) (nI 1)) {M1 : Mem} (f1 : fA M1 M) (I1 : IC M1 h s t z tp x kx) : P_L_law_342 X M1 (nI n) (nI s.2.1) (nI 1) := by
  have hS3 := O.2.1.1
  have hne : ∃ v, wel s v = true := ⟨0, by unfold wel; rw [hill, decide_eq_true (by omega)]; rfl⟩
  refine T_L_law_342 C R (z_cost I1 O hne (fun M2 v0 f2 I2 mv => z_count3 I2 ?_))
  have hv0 := MV_le O.2.1 (fun v hv => (wel_t hv).1) mv
  have drops : ∀ d k M3, k + d = s.2.1 → fA M3 M → IC M3 h s t z tp x (true, h, s, t) → IO h s t z tp x (true, h, s, t) → P_L_law_446 X M3 (nI n) (nI 1) (nI s.2.1) (nI v0) (nI k) := by
    intro d
    induction d with
    | zero =>
      intro k M3 hk f3 I3 O3
      refine T_L_law_446 C R ?_
      rw [n_le (by omega) (by omega)]
      exact ⟨fun _ => NEXT M3 f3 I3 O3, fun w => absurd (by omega) w⟩
    | succ d ih =>
      intro k M3 hk f3 I3 O3
      refine T_L_law_446 C R ?_
      rw [n_le (by omega) (by omega), n_le (by omega) (by omega)]
      refine ⟨fun w => absurd w (by omega), fun _ => ⟨fun w => absurd w (by decide), fun _ => ⟨fun _ => NEXT M3 f3 I3 O3, fun _ => z_drop I3 O3 (show k < s.2.1 by omega) (fun M4 f4 I4 O4 => ?_)⟩⟩⟩
      rw [n_sub (by omega)]
      have hne4 : ∃ v, wel (sdel s k) v = true := hne
      refine ⟨fun w => absurd rfl w, fun _ => z_cost I4 O4 hne4 (fun M5 v5 f5 I5 mv5 => ?_)⟩
      have hv5 := MV_le O4.2.1 (fun v hv => (wel_t hv).1) mv5
      rw [n_lt0 (by omega)]
      refine ⟨fun w => w.elim, fun _ => z_restore I5 O4 rfl (fun M6 f6 I6 O6 => ⟨fun w => absurd rfl w, fun _ => z_cost I6 O6 hne (fun M7 v7 f7 I7 mv7 => ?_)⟩)⟩
      rw [MV_uniq mv7 mv]
      refine ⟨fun w => absurd rfl w, fun _ => T_L_law_508 C R ?_⟩
      rw [n_add]
      exact ih (k + 1) M7 (by omega) ((((f3.fr f4).fr f5).fr f6).fr f7) I7 O6
  have imgs : ∀ M3, fA M3 M → IC M3 h s t z tp x kx → P_L_law_423 X M3 (nI n) (nI 1) (nI s.2.1) (nI v0) := fun M3 f3 I3 =>
    T_L_law_423 C R ⟨fun w => absurd w (by decide), fun _ => z_image I3 O (fun M4 f4 I4 O4 => ⟨fun w => absurd rfl w, fun _ => T_L_law_441 C R (drops s.2.1 0 M4 (by omega) (f3.fr f4) I4 O4)⟩)⟩
  have ills : ∀ d k M3, k + d = s.1 → fA M3 M → IC M3 h s t z tp x kx → P_L_law_361 X M3 (nI n) (nI 1) (nI s.2.1) (nI v0) (nI s.1) (nI k) := by
    intro d
    induction d with
    | zero =>
      intro k M3 hk f3 I3
      refine T_L_law_361 C R ?_
      rw [n_le (by omega) (by omega)]
      exact ⟨fun _ => imgs M3 f3 I3, fun w => absurd (by omega) w⟩
    | succ d ih =>
      intro k M3 hk f3 I3
      refine T_L_law_361 C R ?_
      rw [n_le (by omega) (by omega), n_le (by omega) (by omega)]
      refine ⟨fun w => absurd w (by omega), fun _ => ⟨fun w => absurd w (by decide), fun _ => ⟨fun _ => imgs M3 f3 I3, fun w1 => z_ill I3 O (show k < s.1 by omega) true (fun M4 f4 I4 O4 => ?_)⟩⟩⟩
      rw [hill k]
      have hne4 : ∃ v, wel (sill s k true) v = true := by
        by_cases q : k = 0
        · refine ⟨1, ?_⟩
          show (decide (1 < s.1) && !(if 1 = k then true else s.2.2.2.2.1 1)) = true
          rw [decide_eq_true (by omega), if_neg (by omega), hill]; rfl
        · refine ⟨0, ?_⟩
          show (decide (0 < s.1) && !(if 0 = k then true else s.2.2.2.2.1 0)) = true
          rw [decide_eq_true (by omega), if_neg (by omega), hill]; rfl
      refine ⟨fun w => absurd nI_0 w, fun _ => z_cost I4 O4 hne4 (fun M5 v5 f5 I5 mv5 => ?_)⟩
      have hv5 := MV_le O4.2.1 (fun v hv => (wel_t hv).1) mv5
      have hle : v0 ≤ v5 := MV_sub mv (MV_ill mv5) (fun i hi => by
        have := wel_t hi
        have h1 : i < s.1 := this.1
        unfold wel
        rw [hill, decide_eq_true h1]; rfl)
      rw [n_lt (by omega) (by omega)]
      refine ⟨fun w => absurd w (by omega), fun _ => z_ill I5 O4 (show k < s.1 by omega) false (fun M6 f6 I6 O6 => ?_)⟩
      rw [sill_back (hill k)] at I6
      have e6 : (sill s k true).2.2.2.2.1 k = true := by show (if k = k then true else _) = true; rw [if_pos rfl]
      rw [e6]
      refine ⟨fun w => absurd rfl w, fun _ => T_L_law_415 C R ?_⟩
      rw [n_add]
      exact ih (k + 1) M6 (by omega) (((f3.fr f4).fr f5).fr f6) I6
  exact ills s.1 0 M2 (by omega) (f1.fr f2) I2
