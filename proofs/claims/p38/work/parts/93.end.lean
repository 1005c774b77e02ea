/-! ===== the law's end: no liar, each may be where he was, who was alone is a suspect ===== -/
theorem nn_31 {x : Int32} (h : bt x 31 = false) : ¬ x < 0 := by
  rw [Int32.lt_iff_toInt_lt, Int32.toInt_zero]
  have h1 : x.toBitVec.msb = false := by rw [BitVec.msb_eq_getLsbD_last]; exact h
  have h2 := BitVec.toInt_eq_toNat_of_msb h1
  show ¬ x.toBitVec.toInt < 0
  rw [h2]; omega
theorem mk_in {P P' : Nat → Bool} (h : mk P = mk P') {i : Nat} (hi : i < 32) : P i = P' i := by
  have := congrArg (fun y => bt y i) h
  simp only [mk_b _ hi] at this
  exact this
section End
variable {X : HX} {L : Nat} {xs : Nat → Int32} {Q : Int32 → Mem → Prop} {h : HS} {s : SS} {z : Nat} {tp : Nat → Nat} {x : WS} {kx : KS} {n F room : Nat}
theorem l_end (C : LC mdL_law 9 600000 7302250 X L xs) (R : RT mdL_law X 186 2099 Q) (hQ : ∀ M, Q (nI 1) M) (hF : F ≤ 5) (hn4 : 4 ≤ n) (hn8 : n ≤ 8) (hh : h.1 = n) (hroom : room < n) {M : Mem} {t : TS} {W : Nat → Nat → Nat} {c : Nat → Nat} (I : IC M h s t z tp x kx) (O : IO h s t z tp x kx) (tk : TK t F) (fk : FK M h t F room W c 24) : P_L_law_862 X M (nI 1) (nI F) (nI room) (nI 0) := by
  obtain ⟨k1, k2, k3, k4, k5, k6, k7⟩ := fk
  have hb : ∀ f, f < F → bkf t f = true := fun f hf => by unfold bkf; rw [tk.2 f hf]; rfl
  refine T_L_law_862 C R ⟨fun w => absurd w (by decide), fun _ => z_liars I O (by omega) (fun M1 y f1 I1 li => ?_)⟩
  rw [LI_0 O.1 tk.1 k1 k2 hb li, nI_0]
  refine ⟨fun w => absurd rfl w, fun _ => z_theft I1 O (j := room) (f := 0) (g := 23) (by omega) (by omega) (by omega) (fun M2 f2 I2 O2 => ⟨fun w => absurd rfl w, fun _ => T_L_law_892 C R ?_⟩)⟩
  -- the state with the theft
  have hT1 : ∃ t1 : TS, t1 = (t.1, t.2.1, t.2.2.1, t.2.2.2.1, true, room, 0, 23) := ⟨_, rfl⟩
  obtain ⟨t1, et⟩ := hT1
  rw [← et] at I2 O2
  have st : t1.2.2.2.2.1 = true := by rw [et]
  have e1 : t1.1 = F := by rw [et]; exact tk.1
  have eR : t1.2.2.2.2.2.1 = room := by rw [et]
  have eA : t1.2.2.2.2.2.2.1 = 0 := by rw [et]
  have eB : t1.2.2.2.2.2.2.2 = 23 := by rw [et]
  have S1 : SY t1 W 24 := by rw [et]; exact k2
  have hb1 : ∀ f, f < F → bkf t1 f = true := fun f hf => by rw [et]; exact hb f hf
  have hY1 : t1.2.2.1 ≤ 12 := O2.2.2.1.2.1
  have lz : ∀ {y : Nat}, LI h t1 99 y → y = 0 := fun li => LI_0 O.1 e1 k1 S1 hb1 li
  have wyt : ∀ f, f < F → ∀ u, u < 24 → wy h t1 (tb_ 0) 99 f u (W f u) = true := fun f hf u hu => wy_true O.1 k1 S1 _ 99 hf (hb1 f hf) (23 - u) u (by omega)
  have fkeep : ∀ M', far M' M → (∀ f, f < F → M' 185 f = nI (W f 0)) ∧ (∀ u, u < 24 → M' 183 u = mk (fun f => decide (f < F) && decide (W f u = room))) ∧ gx M' = 4 := fun M' f => ⟨fun g hg => by rw [f _ _ (by omega), k5 g hg, if_neg (by omega)], fun u hu => by rw [f _ _ (by omega)]; exact k6 u hu, by rw [← k7]; unfold gx; rw [f _ _ (by omega)]⟩
  refine z_suspects I2 O2 (by omega) st (fun M3 y f3 I3 li => ?_)
  rw [lz li, e1]
  have f03 : far M3 M := (f1.tr f2).tr f3
  -- the last loop, and the answer
  have clears : ∀ (A : Nat → Bool), (∀ f, A f = true → f < F ∧ suB h t1 (tb_ 0) 99 f = true) → ∀ d f M4, f + d = F → IC M4 h s t1 z tp x kx → P_L_law_1031 X M4 (nI 1) (nI F) (mk A) (mk (fun z => decide (z < F) && suB h t1 (tb_ 0) 99 z)) (nI f) := by
    intro A hA d
    induction d with
    | zero =>
      intro f M4 hf I4
      refine T_L_law_1031 C R ?_
      rw [n_le (by omega) (by omega)]
      refine ⟨fun _ => T_L_law_1095 C R ⟨fun w => absurd w (by decide), fun _ => ?_⟩, fun w => absurd (by omega) w⟩
      have e0 : mk A &&& (mk (fun z => decide (z < F) && suB h t1 (tb_ 0) 99 z) ^^^ (-1)) = 0 := by
        rw [mk_not, mk_and, mk_eq0]
        intro i _
        cases ha : A i with
        | false => rfl
        | true =>
          obtain ⟨h1, h2⟩ := hA i ha
          rw [h2, decide_eq_true h1]; rfl
      rw [e0]
      exact ⟨fun w => absurd rfl w, fun _ => T_L_law_1115 C R (hQ M4)⟩
    | succ d ih =>
      intro f M4 hf I4
      refine T_L_law_1031 C R ?_
      rw [n_le (by omega) (by omega)]
      refine ⟨fun w => absurd w (by omega), fun _ => ⟨fun w => absurd w (by decide), fun _ => z_clears I4 O2 (by omega) st (o := f) (by omega) (fun M5 y r f5 I5 li5 c1 c2 => ?_)⟩⟩
      rw [lz li5] at c1 c2
      have nxt : P_L_law_1087 X M5 (nI F) (mk A) (mk (fun z => decide (z < F) && suB h t1 (tb_ 0) 99 z)) (nI f) (nI 1) := by
        refine T_L_law_1087 C R ?_
        rw [n_add]
        exact ih (f + 1) M5 (by omega) I5
      rw [mk_test _ (by omega), decide_eq_true (show f < F by omega), Bool.true_and, bI_1]
      refine ⟨fun w => ?_, fun w => ?_⟩
      · obtain ⟨p, hp⟩ := c2 (by cases hs : suB h t1 (tb_ 0) 99 f with | false => rfl | true => exact absurd hs w)
        refine ⟨fun w2 => absurd w2 ?_, fun _ => nxt⟩
        rw [hp]
        refine nn_31 ?_
        rw [mk_b _ (by omega), decide_eq_false (by omega)]; rfl
      · rw [c1 w]
        exact ⟨fun w2 => absurd rfl w2, fun _ => nxt⟩
  have ticks : ∀ d u (A : Nat → Bool) M4, u + d = 24 → (∀ f, A f = true → f < F ∧ suB h t1 (tb_ 0) 99 f = true) → far M4 M → IC M4 h s t1 z tp x kx → P_L_law_903 X M4 (nI 1) (nI F) (nI room) (mk A) (mk (fun z => decide (z < F) && suB h t1 (tb_ 0) 99 z)) (nI u) := by
    intro d
    induction d with
    | zero =>
      intro u A M4 hu hA f4 I4
      refine T_L_law_903 C R ?_
      rw [n_le (by omega) (by omega)]
      exact ⟨fun _ => T_L_law_1028 C R (clears A hA F 0 M4 (by omega) I4), fun w => absurd (by omega) w⟩
    | succ d ih =>
      intro u A M4 hu hA f4 I4
      refine T_L_law_903 C R ?_
      rw [n_le (by omega) (by omega)]
      refine ⟨fun w => absurd w (by omega), fun _ => ⟨fun w => absurd w (by decide), fun _ => ?_⟩⟩
      have each : ∀ e f (A : Nat → Bool) M5, f + e = F → (∀ f, A f = true → f < F ∧ suB h t1 (tb_ 0) 99 f = true) → far M5 M → IC M5 h s t1 z tp x kx → P_L_law_918 X M5 (nI 1) (nI F) (nI room) (mk A) (mk (fun z => decide (z < F) && suB h t1 (tb_ 0) 99 z)) (nI u) (nI f) := by
        intro e
        induction e with
        | zero =>
          intro f A M5 hf hA f5 I5
          refine T_L_law_918 C R ?_
          rw [n_le (by omega) (by omega), n_add]
          exact ⟨fun _ => ih (u + 1) A M5 (by omega) hA f5 I5, fun w => absurd (by omega) w⟩
        | succ e ihe =>
          intro f A M5 hf hA f5 I5
          have hfF : f < F := by omega
          obtain ⟨g1, g2, g3⟩ := fkeep M5 f5
          -- behind the set of those who were alone
          have go : ∀ s1 (A' : Nat → Bool), mk A ||| s1 = mk A' → (∀ f, A' f = true → f < F ∧ suB h t1 (tb_ 0) 99 f = true) → P_L_law_947 X M5 (nI 1) (nI F) (nI room) (mk (fun z => decide (z < F) && suB h t1 (tb_ 0) 99 z)) (nI u) (nI f) (mk A) s1 := by
            intro s1 A' hs hA'
            have nxt : ∀ M6, far M6 M → IC M6 h s t1 z tp x kx → P_L_law_1009 X M6 (nI F) (nI room) (mk A') (mk (fun z => decide (z < F) && suB h t1 (tb_ 0) 99 z)) (nI u) (nI f) := fun M6 f6 I6 => by
              refine T_L_law_1009 C R (T_L_law_1014 C R ?_)
              rw [n_add]
              exact ihe (f + 1) A' M6 (by omega) hA' f6 I6
            have early : ∀ M6, far M6 M → IC M6 h s t1 z tp x kx → P_L_law_985 X M6 (nI F) (nI room) (mk A') (mk (fun z => decide (z < F) && suB h t1 (tb_ 0) 99 z)) (nI u) (nI f) := fun M6 f6 I6 => by
              refine T_L_law_985 C R ⟨fun _ => nxt M6 f6 I6, fun _ => z_maybe I6 O2 (by omega) (o := f) (v := 0) (by omega) (by omega) (fun M7 y f7 I7 li7 => ?_)⟩
              obtain ⟨m1, m2, m3⟩ := fkeep M7 (f6.tr f7)
              rw [lz li7, vin (by omega), ix_n (by omega), m1 f hfF, mk_test _ (by have := k1.1 f hfF 0 (by omega); omega), wyt f hfF 0 (by omega)]
              exact ⟨⟨by omega, by omega⟩, fun w => absurd rfl w, fun _ => nxt M7 (f6.tr f7) I7⟩
            refine T_L_law_947 C R ⟨fun w => absurd w (by decide), fun _ => ?_⟩
            rw [hs, vin (by omega), ix_n (by omega), g2 u (by omega), mk_test _ (by omega), decide_eq_true hfF, Bool.true_and]
            refine ⟨⟨by omega, by omega⟩, br (fun _ => early M5 f5 I5) (fun hw => z_maybe I5 O2 (by omega) (o := f) (v := u) (by omega) (by omega) (fun M6 y f6 I6 li6 => ?_))⟩
            have hw : W f u = room := of_decide_eq_true hw
            rw [lz li6, mk_test _ (by omega), ← hw, wyt f hfF u (by omega)]
            exact ⟨fun w => absurd rfl w, fun _ => by rw [hw]; exact early M6 (f5.tr f6) I6⟩
          refine T_L_law_918 C R ?_
          rw [n_le (by omega) (by omega), vin (by omega), ix_n (by omega), g2 u (by omega), mk_one (by omega)]
          refine ⟨fun w => absurd w (by omega), fun _ => ⟨⟨by omega, by omega⟩, fun _ => go (nI 0) A (by rw [mk_0, mk_or]; exact mk_ext (fun i _ => by simp)) hA, fun w => go _ (fun i => A i || decide (i = f)) (mk_or _ _) (fun g hg => ?_)⟩⟩
          simp only [Bool.or_eq_true, decide_eq_true_eq] at hg
          rcases hg with hg | hg
          · exact hA g hg
          · subst hg
            refine ⟨hfF, su_alone O.1 e1 k1 S1 hb1 _ 99 hfF (u := u) (by omega) (by rw [eA]; omega) (by rw [eB]; omega) ?_ (fun o ho hne => ?_)⟩
            · have := mk_in w (i := g) (by omega)
              rw [decide_eq_true hfF, Bool.true_and, decide_eq_true (rfl : g = g)] at this
              rw [eR]; exact of_decide_eq_true this
            · have := mk_in w (i := o) (by omega)
              rw [decide_eq_true ho, Bool.true_and, decide_eq_false hne] at this
              rw [eR]; exact of_decide_eq_false this
      exact each F 0 A M4 (by omega) hA f4 I4
  have fin := ticks 24 0 (fun _ => false) M3 (by omega) (fun f hf => by cases hf) f03 I3
  rw [show mk (fun _ => false) = nI 0 from mk_0.symm] at fin
  exact fin
end End
