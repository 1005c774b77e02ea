/-! ===== ways through the house ===== -/
theorem nb_sym {h : HS} (O : HO h) (bk : Bool) (a b : Nat) : nb h bk a b = nb h bk b a := by
  have o4 := O.2.2.2.1
  unfold nb
  rw [o4 a b, show decide (a = b) = decide (b = a) from by rw [decide_eq_decide]; exact eq_comm]
theorem rr_cons {h : HS} {bk : Bool} {a c : Nat} (hc : c < h.1) (ha : a < h.1) (h1 : nb h bk a c = true) : ∀ {k b : Nat}, rr h bk c k b = true → rr h bk a (k + 1) b = true := by
  intro k
  induction k with
  | zero =>
    intro b hb
    simp only [rr, decide_eq_true_eq] at hb
    subst hb
    exact rr_step ha (by simp [rr]) h1
  | succ k ih =>
    intro b hb
    obtain ⟨d, hd, h2, h3⟩ := rr_inv hb
    exact rr_step hd (ih h2) h3
theorem rr_first {h : HS} (O : HO h) {bk : Bool} {a : Nat} (ha : a < h.1) : ∀ {k b : Nat}, rr h bk a (k + 1) b = true → ∃ c, c < h.1 ∧ nb h bk a c = true ∧ rr h bk c k b = true := by
  intro k
  induction k with
  | zero =>
    intro b hb
    have hb' := rr_lt O ha hb
    obtain ⟨d, hd, h2, h3⟩ := rr_inv hb
    simp only [rr, decide_eq_true_eq] at h2
    subst h2
    exact ⟨b, hb', h3, by simp [rr]⟩
  | succ k ih =>
    intro b hb
    obtain ⟨d, hd, h2, h3⟩ := rr_inv hb
    obtain ⟨c, hc, h4, h5⟩ := ih h2
    exact ⟨c, hc, h4, rr_step hd h5 h3⟩
def bd (t : TS) (L : Nat → Bool) (w one k : Nat) : Bool := decide (k ≠ w) && (!L (t.2.2.2.1 k 0) && (decide (t.2.2.2.1 k 0 = one) || decide (t.2.2.2.1 k 1 = one)))
def al (t : TS) (L : Nat → Bool) (w one u r : Nat) : Bool := allN (fun k => !(bd t L w one k && decide (t.2.2.2.1 k 3 = u)) || decide (t.2.2.2.1 k 2 = r)) t.2.2.1
def bkf (t : TS) (one : Nat) : Bool := decide (t.2.1 one ≠ 0)
def fw (h : HS) (t : TS) (L : Nat → Bool) (w one : Nat) : Nat → Nat → Bool
  | 0 => fun r => decide (r < h.1) && al t L w one 0 r
  | u + 1 => fun r => (decide (r < h.1) && al t L w one (u + 1) r) && anyN (fun c => fw h t L w one u c && nb h (bkf t one) c r) h.1
def bw (h : HS) (t : TS) (L : Nat → Bool) (w one : Nat) : Nat → Nat → Bool
  | 0 => fun r => fw h t L w one 23 r
  | i + 1 => fun r => fw h t L w one (23 - (i + 1)) r && anyN (fun c => bw h t L w one i c && nb h (bkf t one) c r) h.1
def wy (h : HS) (t : TS) (L : Nat → Bool) (w one u : Nat) : Nat → Bool := bw h t L w one (23 - u)
theorem fw_al {h : HS} {t : TS} {L : Nat → Bool} {w one u r : Nat} (hf : fw h t L w one u r = true) : r < h.1 ∧ al t L w one u r = true := by
  cases u with
  | zero => simpa [fw] using hf
  | succ u =>
    have h1 : (decide (r < h.1) && al t L w one (u + 1) r) = true := (Bool.and_eq_true _ _ ▸ hf : _ ∧ _).1
    simpa using h1
theorem fw_inv {h : HS} {t : TS} {L : Nat → Bool} {w one u r : Nat} (hf : fw h t L w one (u + 1) r = true) : ∃ c, c < h.1 ∧ fw h t L w one u c = true ∧ nb h (bkf t one) c r = true := by
  have h1 : anyN _ _ = true := (Bool.and_eq_true _ _ ▸ hf : _ ∧ _).2
  obtain ⟨c, hc, h2⟩ := anyN_iff.mp h1
  rw [Bool.and_eq_true] at h2
  exact ⟨c, hc, h2.1, h2.2⟩
theorem fw_step {h : HS} {t : TS} {L : Nat → Bool} {w one u r c : Nat} (hr : r < h.1) (ha : al t L w one (u + 1) r = true) (hc : c < h.1) (h1 : fw h t L w one u c = true) (h2 : nb h (bkf t one) c r = true) : fw h t L w one (u + 1) r = true := by
  show ((decide (r < h.1) && al t L w one (u + 1) r) && anyN _ _) = true
  rw [ha, decide_eq_true hr, Bool.true_and, Bool.true_and, anyN_iff]
  exact ⟨c, hc, by rw [h1, h2]; rfl⟩
theorem wy_fw {h : HS} {t : TS} {L : Nat → Bool} {w one u r : Nat} (hu : u ≤ 23) (hb : wy h t L w one u r = true) : fw h t L w one u r = true := by
  unfold wy at hb
  by_cases e : u = 23
  · subst e; exact hb
  · rw [show 23 - u = (23 - u - 1) + 1 by omega] at hb
    have h1 : fw h t L w one (23 - (23 - u - 1 + 1)) r = true := (Bool.and_eq_true _ _ ▸ hb : _ ∧ _).1
    rw [show 23 - (23 - u - 1 + 1) = u by omega] at h1
    exact h1
theorem wy_next {h : HS} {t : TS} {L : Nat → Bool} {w one u r : Nat} (hu : u < 23) (hb : wy h t L w one u r = true) : ∃ c, c < h.1 ∧ wy h t L w one (u + 1) c = true ∧ nb h (bkf t one) c r = true := by
  unfold wy at hb
  rw [show 23 - u = (23 - (u + 1)) + 1 by omega] at hb
  have h1 : anyN _ _ = true := (Bool.and_eq_true _ _ ▸ hb : _ ∧ _).2
  obtain ⟨c, hc, h2⟩ := anyN_iff.mp h1
  rw [Bool.and_eq_true] at h2
  exact ⟨c, hc, h2.1, h2.2⟩
theorem wy_step {h : HS} {t : TS} {L : Nat → Bool} {w one u r c : Nat} (hu : u < 23) (hf : fw h t L w one u r = true) (hc : c < h.1) (h1 : wy h t L w one (u + 1) c = true) (h2 : nb h (bkf t one) c r = true) : wy h t L w one u r = true := by
  unfold wy at h1 ⊢
  rw [show 23 - u = (23 - (u + 1)) + 1 by omega]
  show (fw h t L w one (23 - (23 - (u + 1) + 1)) r && anyN _ _) = true
  rw [show 23 - (23 - (u + 1) + 1) = u by omega, hf, Bool.true_and, anyN_iff]
  exact ⟨c, hc, by rw [h1, h2]; rfl⟩
def PinOk (h : HS) (t : TS) (L : Nat → Bool) (w one : Nat) (pn : Nat → Nat) : Prop := (∀ u, u < 24 → pn u ≤ h.1) ∧ ∀ u, u < 24 → ∀ r, r < h.1 → (al t L w one u r = true ↔ (pn u = 0 ∨ pn u = r + 1))
def la (pn : Nat → Nat) : Nat → Nat
  | 0 => 0
  | u + 1 => if pn u = 0 then la pn u else u + 1
def nx (pn : Nat → Nat) (u : Nat) : Nat := lst (fun v => decide (pn v ≠ 0)) (24 - u) u
def HW (h : HS) (bk : Bool) (pn : Nat → Nat) : Prop := ∀ u, u < 24 → pn u ≠ 0 → la pn u ≠ 0 → rr h bk (pn (la pn u - 1) - 1) (u - (la pn u - 1)) (pn u - 1) = true
theorem la_ok (pn : Nat → Nat) : ∀ u, la pn u ≤ u ∧ (la pn u ≠ 0 → pn (la pn u - 1) ≠ 0) ∧ ∀ v, la pn u ≤ v → v < u → pn v = 0 := by
  intro u
  induction u with
  | zero => exact ⟨Nat.le_refl _, fun q => absurd rfl q, fun v _ h => by omega⟩
  | succ u ih =>
    simp only [la]
    by_cases e : pn u = 0
    · rw [if_pos e]
      refine ⟨by omega, ih.2.1, fun v h1 h2 => ?_⟩
      by_cases e2 : v = u
      · subst e2; exact e
      · exact ih.2.2 v h1 (by omega)
    · rw [if_neg e]
      exact ⟨Nat.le_refl _, fun _ => e, fun v h1 h2 => by omega⟩
def RO (h : HS) (bk : Bool) (pn : Nat → Nat) (u r : Nat) : Prop := (la pn (u + 1) = 0 ∨ rr h bk (pn (la pn (u + 1) - 1) - 1) (u - (la pn (u + 1) - 1)) r = true) ∧ (nx pn u = 24 ∨ rr h bk r (nx pn u - u) (pn (nx pn u) - 1) = true)
section Ways
variable {h : HS} {t : TS} {L : Nat → Bool} {w one : Nat} {pn : Nat → Nat}
theorem al_pin (A : PinOk h t L w one pn) {u r : Nat} (hu : u < 24) (hr : r < h.1) (ha : al t L w one u r = true) (hp : pn u ≠ 0) : r = pn u - 1 := by
  rcases (A.2 u hu r hr).mp ha with q | q
  · exact absurd q hp
  · omega
theorem fw_rr (A : PinOk h t L w one pn) : ∀ u, u < 24 → ∀ r, fw h t L w one u r = true → ∀ a, a ≤ u → pn a ≠ 0 → rr h (bkf t one) (pn a - 1) (u - a) r = true := by
  intro u
  induction u with
  | zero =>
    intro hu r hf a ha hp
    have h1 := fw_al hf
    have : a = 0 := by omega
    subst this
    rw [al_pin A hu h1.1 h1.2 hp]
    simp [rr]
  | succ u ih =>
    intro hu r hf a ha hp
    have h1 := fw_al hf
    by_cases e : a = u + 1
    · subst e
      rw [al_pin A hu h1.1 h1.2 hp, Nat.sub_self]
      simp [rr]
    · obtain ⟨c, hc, h2, h3⟩ := fw_inv hf
      have := ih (by omega) c h2 a (by omega) hp
      rw [show u + 1 - a = (u - a) + 1 by omega]
      exact rr_step hc this h3
theorem wy_rr (O : HO h) (A : PinOk h t L w one pn) : ∀ i u, u + i = 23 → ∀ r, wy h t L w one u r = true → ∀ b, u ≤ b → b < 24 → pn b ≠ 0 → rr h (bkf t one) r (b - u) (pn b - 1) = true := by
  intro i
  induction i with
  | zero =>
    intro u hu r hb b h1 h2 hp
    have h3 := fw_al (wy_fw (by omega) hb)
    have : b = u := by omega
    subst this
    rw [← al_pin A h2 h3.1 h3.2 hp, Nat.sub_self]
    simp [rr]
  | succ i ih =>
    intro u hu r hb b h1 h2 hp
    have h3 := fw_al (wy_fw (by omega) hb)
    by_cases e : b = u
    · subst e
      rw [← al_pin A h2 h3.1 h3.2 hp, Nat.sub_self]
      simp [rr]
    · obtain ⟨c, hc, h4, h5⟩ := wy_next (by omega) hb
      have := ih (u + 1) (by omega) c h4 b (by omega) h2 hp
      rw [show b - u = (b - (u + 1)) + 1 by omega]
      rw [nb_sym O] at h5
      exact rr_cons hc h3.1 h5 this
theorem ways_hw (A : PinOk h t L w one pn) {r : Nat} (hb : wy h t L w one 0 r = true) : HW h (bkf t one) pn := by
  have key : ∀ u, u < 24 → ∃ r, wy h t L w one u r = true := by
    intro u
    induction u with
    | zero => intro _; exact ⟨r, hb⟩
    | succ u ih =>
      intro hu
      obtain ⟨r', h1⟩ := ih (by omega)
      obtain ⟨c, _, h2, _⟩ := wy_next (by omega) h1
      exact ⟨c, h2⟩
  intro u hu hp hl
  obtain ⟨r', h1⟩ := key u hu
  have h2 := wy_fw (by omega) h1
  have h3 := fw_al h2
  have h4 := (la_ok pn u).2.1 hl
  have h5 := (la_ok pn u).1
  have := fw_rr A u hu r' h2 (la pn u - 1) (by omega) h4
  rw [al_pin A hu h3.1 h3.2 hp] at this
  exact this
theorem fw_of (O : HO h) (A : PinOk h t L w one pn) (H : HW h (bkf t one) pn) : ∀ u, u < 24 → ∀ r, r < h.1 → al t L w one u r = true → (la pn (u + 1) = 0 ∨ rr h (bkf t one) (pn (la pn (u + 1) - 1) - 1) (u - (la pn (u + 1) - 1)) r = true) → fw h t L w one u r = true := by
  intro u
  induction u with
  | zero =>
    intro hu r hr ha _
    show (decide (r < h.1) && al t L w one 0 r) = true
    rw [ha, decide_eq_true hr]; rfl
  | succ u ih =>
    intro hu r hr ha hro
    have key : la pn (u + 1) = 0 ∨ rr h (bkf t one) (pn (la pn (u + 1) - 1) - 1) (u + 1 - (la pn (u + 1) - 1)) r = true := by
      by_cases e : pn (u + 1) = 0
      · rw [show la pn (u + 1 + 1) = la pn (u + 1) from by simp [la, e]] at hro
        exact hro
      · by_cases e2 : la pn (u + 1) = 0
        · exact Or.inl e2
        · have := H (u + 1) hu e e2
          rw [← al_pin A hu hr ha e] at this
          exact Or.inr this
    have lo := la_ok pn (u + 1)
    rcases key with k | k
    · have e0 : pn u = 0 := lo.2.2 u (by omega) (by omega)
      exact fw_step hr ha hr (ih (by omega) r hr ((A.2 u (by omega) r hr).mpr (Or.inl e0)) (Or.inl k)) (nb_self h _ r)
    · by_cases e2 : la pn (u + 1) = 0
      · have e0 : pn u = 0 := lo.2.2 u (by omega) (by omega)
        exact fw_step hr ha hr (ih (by omega) r hr ((A.2 u (by omega) r hr).mpr (Or.inl e0)) (Or.inl e2)) (nb_self h _ r)
      · have hpa := lo.2.1 e2
        have hpl := A.1 (la pn (u + 1) - 1) (by omega)
        rw [show u + 1 - (la pn (u + 1) - 1) = (u - (la pn (u + 1) - 1)) + 1 by omega] at k
        obtain ⟨c, hc, h1, h2⟩ := rr_inv k
        refine fw_step hr ha hc (ih (by omega) c hc ((A.2 u (by omega) c hc).mpr ?_) (Or.inr h1)) h2
        by_cases e3 : la pn (u + 1) - 1 = u
        · rw [e3, Nat.sub_self] at h1
          simp only [rr, decide_eq_true_eq] at h1
          rw [e3] at hpa
          right; omega
        · left
          exact lo.2.2 u (by omega) (by omega)
theorem nx_ok (pn : Nat → Nat) {u : Nat} (hu : u ≤ 24) : u ≤ nx pn u ∧ nx pn u ≤ 24 ∧ (nx pn u < 24 → pn (nx pn u) ≠ 0) ∧ ∀ v, u ≤ v → v < nx pn u → pn v = 0 := by
  have h1 := lst_le (fun v => decide (pn v ≠ 0)) (24 - u) u
  refine ⟨h1.1, by unfold nx; omega, fun q => ?_, fun v h2 h3 => ?_⟩
  · exact of_decide_eq_true (lst_is (fun v => decide (pn v ≠ 0)) (24 - u) u (by unfold nx at q; omega))
  · have := of_decide_eq_false (lst_no (fun v => decide (pn v ≠ 0)) (24 - u) u v h2 h3)
    omega
theorem nx_same (pn : Nat → Nat) {u : Nat} (hu : u < 24) (hp : pn u = 0) : nx pn u = nx pn (u + 1) := by
  unfold nx
  rw [show 24 - u = (24 - (u + 1)) + 1 by omega]
  simp only [lst]
  rw [if_neg (by simp [hp])]
theorem wy_of (O : HO h) (A : PinOk h t L w one pn) (H : HW h (bkf t one) pn) : ∀ i u, u + i = 23 → ∀ r, fw h t L w one u r = true → (nx pn u = 24 ∨ rr h (bkf t one) r (nx pn u - u) (pn (nx pn u) - 1) = true) → wy h t L w one u r = true := by
  intro i
  induction i with
  | zero =>
    intro u hu r hf _
    have : u = 23 := by omega
    subst this
    exact hf
  | succ i ih =>
    intro u hu r hf hro
    have hr := fw_al hf
    have no := nx_ok pn (u := u + 1) (by omega)
    by_cases e : nx pn (u + 1) = 24
    · have e0 : pn (u + 1) = 0 := no.2.2.2 (u + 1) (by omega) (by omega)
      refine wy_step (by omega) hf hr.1 (ih (u + 1) (by omega) r (fw_step hr.1 ((A.2 (u + 1) (by omega) r hr.1).mpr (Or.inl e0)) hr.1 hf (nb_self h _ r)) (Or.inl e)) (nb_self h _ r)
    · have k : rr h (bkf t one) r (nx pn (u + 1) - u) (pn (nx pn (u + 1)) - 1) = true := by
        by_cases e0 : pn u = 0
        · rw [nx_same pn (by omega) e0] at hro
          rcases hro with q | q
          · exact absurd q e
          · exact q
        · have el : la pn (nx pn (u + 1)) = u + 1 := by
            have lo := la_ok pn (nx pn (u + 1))
            apply Classical.byContradiction
            intro q
            by_cases q2 : la pn (nx pn (u + 1)) ≤ u
            · exact e0 (lo.2.2 u q2 (by omega))
            · have h1 := lo.2.1 (by omega)
              exact h1 (no.2.2.2 _ (by omega) (by omega))
          have := H (nx pn (u + 1)) (by omega) (no.2.2.1 (by omega)) (by omega)
          rw [el, Nat.add_sub_cancel, ← al_pin A (by omega) hr.1 hr.2 e0] at this
          exact this
      rw [show nx pn (u + 1) - u = (nx pn (u + 1) - (u + 1)) + 1 by omega] at k
      obtain ⟨c, hc, h1, h2⟩ := rr_first O hr.1 k
      refine wy_step (by omega) hf hc (ih (u + 1) (by omega) c (fw_step hc ((A.2 (u + 1) (by omega) c hc).mpr ?_) hr.1 hf h1) (Or.inr h2)) (by rw [nb_sym O]; exact h1)
      by_cases e3 : nx pn (u + 1) = u + 1
      · rw [e3, Nat.sub_self] at h2
        simp only [rr, decide_eq_true_eq] at h2
        have := no.2.2.1 (by omega)
        rw [e3] at this
        right; omega
      · left
        exact no.2.2.2 (u + 1) (by omega) (by omega)
theorem wy_iff (O : HO h) (A : PinOk h t L w one pn) (H : HW h (bkf t one) pn) {u r : Nat} (hu : u < 24) : wy h t L w one u r = true ↔ (r < h.1 ∧ RO h (bkf t one) pn u r) := by
  have lo := la_ok pn (u + 1)
  have no := nx_ok pn (u := u) (by omega)
  constructor
  · intro hb
    have hf := wy_fw (by omega) hb
    refine ⟨(fw_al hf).1, ?_, ?_⟩
    · by_cases e : la pn (u + 1) = 0
      · exact Or.inl e
      · exact Or.inr (fw_rr A u hu r hf _ (by omega) (lo.2.1 e))
    · by_cases e : nx pn u = 24
      · exact Or.inl e
      · exact Or.inr (wy_rr O A (23 - u) u (by omega) r hb _ no.1 (by omega) (no.2.2.1 (by omega)))
  · rintro ⟨hr, h1, h2⟩
    refine wy_of O A H (23 - u) u (by omega) r (fw_of O A H u hu r hr ((A.2 u hu r hr).mpr ?_) h1) h2
    by_cases e : pn u = 0
    · exact Or.inl e
    · have el : la pn (u + 1) = u + 1 := by simp [la, e]
      rcases h1 with q | q
      · omega
      · rw [el, Nat.add_sub_cancel, Nat.sub_self] at q
        simp only [rr, decide_eq_true_eq] at q
        right; omega
theorem hw_ways (O : HO h) (hR : 0 < h.1) (A : PinOk h t L w one pn) (H : HW h (bkf t one) pn) : ∃ r, wy h t L w one 0 r = true := by
  have no := nx_ok pn (u := 0) (by omega)
  by_cases e : nx pn 0 = 24
  · refine ⟨0, (wy_iff O A H (by omega)).mpr ⟨hR, Or.inl ?_, Or.inl e⟩⟩
    have := no.2.2.2 0 (by omega) (by omega)
    simp [la, this]
  · have hp := no.2.2.1 (by omega)
    have hl := A.1 (nx pn 0) (by omega)
    refine ⟨pn (nx pn 0) - 1, (wy_iff O A H (by omega)).mpr ⟨by omega, ?_, Or.inr (rr_mono O (by omega) (k := 0) (by simp [rr]) _ (by omega))⟩⟩
    by_cases e2 : pn 0 = 0
    · left; simp [la, e2]
    · right
      have e3 : nx pn 0 = 0 := by
        apply Classical.byContradiction
        intro q
        exact e2 (no.2.2.2 0 (by omega) (by omega))
      rw [e3]
      simp [la, e2, rr]
end Ways
