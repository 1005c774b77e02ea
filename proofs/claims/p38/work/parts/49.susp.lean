/-! ===== suspects ===== -/
def els (h : HS) (t : TS) (L : Nat → Bool) (w o u : Nat) : Bool := anyN (fun r => decide (r ≠ t.2.2.2.2.2.1) && wy h t L w o u r) h.1
def susU (h : HS) (t : TS) (L : Nat → Bool) (w one u : Nat) : Bool := wy h t L w one u t.2.2.2.2.2.1 && allN (fun o => decide (o = one) || els h t L w o u) t.1
def suB (h : HS) (t : TS) (L : Nat → Bool) (w one : Nat) : Bool := anyN (fun u => decide (t.2.2.2.2.2.2.1 ≤ u) && susU h t L w one u) (t.2.2.2.2.2.2.2 + 1)
theorem els_0 {h : HS} {t : TS} {L : Nat → Bool} {w o u : Nat} (O : HO h) (hu : u ≤ 23) : (mk (wy h t L w o u) &&& mk (fun i => !decide (i = t.2.2.2.2.2.1)) = 0) = (els h t L w o u = false) := by
  have hR := O.1
  rw [mk_and, mk_eq0]
  unfold els
  rw [anyN_f]
  refine propext ⟨fun q i hi => ?_, fun q i hi => ?_⟩
  · have := q i (by omega)
    rw [Bool.and_comm] at this
    rw [← this]
    simp
  · cases hw : wy h t L w o u i with
    | false => rfl
    | true =>
      have := q i (fw_al (wy_fw hu hw)).1
      rw [hw, Bool.and_true, decide_eq_false_iff_not] at this
      have : i = t.2.2.2.2.2.1 := Classical.not_not.mp this
      simp [this]
theorem s_others {h : HS} {t : TS} (O : HO h) (TO' : TO t h.1) (st : t.2.2.2.2.1 = true) {M : Mem} (H : HC 1 M h) (T : TC 37 M t) (W : WY M h) {w x one u : Nat} (h1 : one < t.1) (hu : u < 24) (P : PNs M h t w x) {Q : Int32 → Mem → Prop} (k : Q (bI (allN (fun o => decide (o = one) || els h t (tb_ x) w o u) t.1)) M) : C_X1_othersMayBeElsewhere M (nI one) (nI u) Q := by
  have hF := TO'.1
  have hR := O.1
  have ht := TO'.2.2.2.2 st
  have e3 : M 37 3 = nI t.2.2.2.2.2.1 := (T.2.2.2.1 st).1
  have key : ∀ n o, o + n = t.1 → allN (fun o => decide (o = one) || els h t (tb_ x) w o u) o = true → P_X1_othersMayBeElsewhere_2 M (nI one) (nI u) (nI o) Q := by
    intro n
    induction n with
    | zero =>
      intro o ho ha
      have : o = t.1 := by omega
      subst this
      refine T_X1_othersMayBeElsewhere_2 ?_
      rw [T.1, n_le (by omega) (by omega)]
      rw [ha] at k
      exact ⟨fun _ => k, fun q => by omega⟩
    | succ n ih =>
      intro o ho ha
      have z := ih (o + 1) (by omega)
      simp only [allN, ha, Bool.true_and] at z
      refine T_X1_othersMayBeElsewhere_2 ?_
      rw [T.1, n_le (by omega) (by omega), n_eq (by omega) (by omega), n_add]
      refine ⟨fun q => by omega, fun _ => ⟨fun q => z (by simp [q]), fun q => ?_⟩⟩
      refine s_roomsOf O TO' H T W (show o < t.1 by omega) hu P ?_
      rw [e3, mk_one (by omega), mk_not, els_0 O (by omega)]
      refine ⟨fun q2 => z (by rw [Bool.not_eq_false] at q2; rw [q2]; simp), fun q2 => ?_⟩
      have : allN (fun o => decide (o = one) || els h t (tb_ x) w o u) t.1 = false := allN_f.mpr ⟨o, by omega, by rw [q2, decide_eq_false q]; rfl⟩
      rw [this] at k
      exact k
  exact T_X1_othersMayBeElsewhere (key t.1 0 (by omega) rfl)
theorem s_isSuspect {h : HS} {t : TS} (O : HO h) (TO' : TO t h.1) (st : t.2.2.2.2.1 = true) {M : Mem} (H : HC 1 M h) (T : TC 37 M t) (W : WY M h) {w x one : Nat} (h1 : one < t.1) (P : PNs M h t w x) {Q : Int32 → Mem → Prop} (k : Q (bI (suB h t (tb_ x) w one)) M) : C_X1_isSuspect M (nI one) Q := by
  have hF := TO'.1
  have hR := O.1
  have ht := TO'.2.2.2.2 st
  obtain ⟨e3, e4, e5⟩ := T.2.2.2.1 st
  have e3 : M 37 3 = nI t.2.2.2.2.2.1 := e3
  have e4 : M 37 4 = nI t.2.2.2.2.2.2.1 := e4
  have e5 : M 37 5 = nI t.2.2.2.2.2.2.2 := e5
  have key : ∀ n u, u + n = t.2.2.2.2.2.2.2 + 1 → t.2.2.2.2.2.2.1 ≤ u → anyN (fun u => decide (t.2.2.2.2.2.2.1 ≤ u) && susU h t (tb_ x) w one u) u = false → P_X1_isSuspect_8 M (nI one) (nI u) Q := by
    intro n
    induction n with
    | zero =>
      intro u hu hfu ha
      have e : u = t.2.2.2.2.2.2.2 + 1 := by omega
      subst e
      refine T_X1_isSuspect_8 ?_
      rw [e5, n_lt (by omega) (by omega)]
      unfold suB at k
      rw [ha] at k
      exact ⟨fun _ => k, fun q => by omega⟩
    | succ n ih =>
      intro u hu hfu ha
      have z := ih (u + 1) (by omega) (by omega)
      simp only [anyN, ha, Bool.false_or, decide_eq_true hfu, Bool.true_and] at z
      have yes : susU h t (tb_ x) w one u = true → Q (nI 1) M := by
        intro q
        have : suB h t (tb_ x) w one = true := anyN_iff.mpr ⟨u, by omega, by rw [q, decide_eq_true hfu]; rfl⟩
        rw [this] at k; exact k
      refine T_X1_isSuspect_8 ?_
      rw [e5, n_lt (by omega) (by omega), n_add]
      refine ⟨fun q => by omega, fun _ => ?_⟩
      refine s_roomsOf O TO' H T W h1 (by omega) P ?_
      rw [e3, mk_test _ (by omega)]
      refine br (fun q => z (by unfold susU; rw [q]; rfl)) (fun q => ?_)
      refine s_others O TO' st H T W h1 (by omega) P (br (fun q2 => z (by unfold susU; rw [q, q2]; rfl)) (fun q2 => yes (by unfold susU; rw [q, q2]; rfl)))
  refine T_X1_isSuspect ?_
  rw [e4]
  refine key (t.2.2.2.2.2.2.2 + 1 - t.2.2.2.2.2.2.1) _ (by omega) (Nat.le_refl _) ?_
  rw [anyN_f]
  intro i hi
  rw [decide_eq_false (by omega)]; rfl
/-! ===== the reference's suspects ===== -/
theorem bI_nat (b : Bool) : bI b = nI b.toNat := by cases b <;> rfl
def nv (h : HS) (t : TS) (L : Nat → Bool) (w f u : Nat) : Nat := (wy h t L w f u t.2.2.2.2.2.1).toNat + 2 * (els h t L w f u).toNat
