/-! ===== sayings that are true of ways ===== -/
def WK (h : HS) (F : Nat) (W : Nat → Nat → Nat) (T : Nat) : Prop := (∀ f, f < F → ∀ u, u < T → W f u < h.1) ∧ ∀ f, f < F → ∀ u, u + 1 < T → W f u = W f (u + 1) ∨ h.2.2.2.1 (W f u) (W f (u + 1)) ≠ 0
def SY (t : TS) (W : Nat → Nat → Nat) (T : Nat) : Prop := ∀ k, k < t.2.2.1 → t.2.2.2.1 k 3 < T ∧ W (t.2.2.2.1 k 0) (t.2.2.2.1 k 3) = t.2.2.2.1 k 2 ∧ W (t.2.2.2.1 k 1) (t.2.2.2.1 k 3) = t.2.2.2.1 k 2
theorem al_true {t : TS} {W : Nat → Nat → Nat} {T : Nat} (S : SY t W T) (L : Nat → Bool) (w one u : Nat) : al t L w one u (W one u) = true := by
  refine allN_iff.mpr (fun k hk => ?_)
  obtain ⟨s1, s2, s3⟩ := S k hk
  cases hb : (bd t L w one k && decide (t.2.2.2.1 k 3 = u)) with
  | false => rfl
  | true =>
    rw [Bool.and_eq_true] at hb
    obtain ⟨b1, b2⟩ := hb
    have hu : t.2.2.2.1 k 3 = u := of_decide_eq_true b2
    unfold bd at b1
    simp only [Bool.and_eq_true, Bool.or_eq_true, decide_eq_true_eq] at b1
    have : t.2.2.2.1 k 2 = W one u := by
      rcases b1.2.2 with q | q
      · rw [← s2, hu, q]
      · rw [← s3, hu, q]
    rw [decide_eq_true this]; rfl
theorem nb_way {h : HS} (O : HO h) {a b : Nat} (hw : a = b ∨ h.2.2.2.1 a b ≠ 0) : nb h true a b = true := by
  have h2 := O.2.2.1 a b
  unfold nb
  simp only [Bool.true_and, Bool.or_eq_true, decide_eq_true_eq]
  omega
theorem fw_true {h : HS} (O : HO h) {t : TS} {F : Nat} {W : Nat → Nat → Nat} (K : WK h F W 24) (S : SY t W 24) (L : Nat → Bool) (w : Nat) {one : Nat} (h1 : one < F) (hb : bkf t one = true) : ∀ u, u ≤ 23 → fw h t L w one u (W one u) = true := by
  intro u
  induction u with
  | zero =>
    intro _
    show (decide (W one 0 < h.1) && al t L w one 0 (W one 0)) = true
    rw [decide_eq_true (K.1 one h1 0 (by omega)), al_true S]; rfl
  | succ u ih =>
    intro hu
    refine fw_step (K.1 one h1 (u + 1) (by omega)) (al_true S L w one (u + 1)) (K.1 one h1 u (by omega)) (ih (by omega)) ?_
    rw [hb]
    exact nb_way O (K.2 one h1 u (by omega))
theorem wy_true {h : HS} (O : HO h) {t : TS} {F : Nat} {W : Nat → Nat → Nat} (K : WK h F W 24) (S : SY t W 24) (L : Nat → Bool) (w : Nat) {one : Nat} (h1 : one < F) (hb : bkf t one = true) : ∀ i u, u + i = 23 → wy h t L w one u (W one u) = true := by
  intro i
  induction i with
  | zero =>
    intro u hu
    rw [show u = 23 by omega]
    exact fw_true O K S L w h1 hb 23 (Nat.le_refl _)
  | succ i ih =>
    intro u hu
    refine wy_step (by omega) (fw_true O K S L w h1 hb u (by omega)) (K.1 one h1 (u + 1) (by omega)) (ih (u + 1) (by omega)) ?_
    rw [hb]
    refine nb_way O ?_
    rcases K.2 one h1 u (by omega) with q | q
    · exact Or.inl q.symm
    · exact Or.inr (by rw [O.2.2.2.1]; exact q)
theorem cnt_0 : cntN (tb_ 0) 5 = 0 := by decide +kernel
theorem LI_0 {h : HS} (O : HO h) {t : TS} {F : Nat} {W : Nat → Nat → Nat} (hF : t.1 = F) (K : WK h F W 24) (S : SY t W 24) (hb : ∀ f, f < F → bkf t f = true) {w y : Nat} (li : LI h t w y) : y = 0 := by
  have := li.2.2 0 (Nat.two_pow_pos _) (fun one h1 => ⟨W one 0, wy_true O K S _ w (by omega) (hb one (by omega)) 23 0 rfl⟩)
  rw [cnt_0] at this
  omega
theorem su_alone {h : HS} (O : HO h) {t : TS} {F : Nat} {W : Nat → Nat → Nat} (hF : t.1 = F) (K : WK h F W 24) (S : SY t W 24) (hb : ∀ f, f < F → bkf t f = true) (L : Nat → Bool) (w : Nat) {f u : Nat} (hf : f < F) (hu : u < 24) (h1 : t.2.2.2.2.2.2.1 ≤ u) (h2 : u ≤ t.2.2.2.2.2.2.2) (hr : W f u = t.2.2.2.2.2.1) (ho : ∀ o, o < F → o ≠ f → W o u ≠ t.2.2.2.2.2.1) : suB h t L w f = true := by
  refine anyN_iff.mpr ⟨u, by omega, ?_⟩
  rw [decide_eq_true h1, Bool.true_and]
  unfold susU
  rw [Bool.and_eq_true]
  refine ⟨?_, allN_iff.mpr (fun o ho2 => ?_)⟩
  · rw [← hr]; exact wy_true O K S L w hf (hb f hf) (23 - u) u (by omega)
  · by_cases e : o = f
    · rw [decide_eq_true e]; rfl
    · rw [decide_eq_false e, Bool.false_or]
      refine anyN_iff.mpr ⟨W o u, K.1 o (by omega) u hu, ?_⟩
      rw [decide_eq_true (ho o (by omega) e), wy_true O K S L w (by omega) (hb o (by omega)) (23 - u) u (by omega)]; rfl
/-- a step in the ring -/
theorem dkP_up {L : Nat} {xs : Nat → Int32} {n a : Nat} (hn : 4 ≤ n) (ha : a < n) : dkP L xs n (n + 1) a ((a + 1) % n) ≠ 0 := by
  unfold dkP
  by_cases e : a + 1 = n
  · have e2 : (a + 1) % n = 0 := by rw [e, Nat.mod_self]
    rw [e2, if_neg (by omega), if_pos (by omega), if_pos (by omega)]
    omega
  · have e2 : (a + 1) % n = a + 1 := Nat.mod_eq_of_lt (by omega)
    rw [e2, if_pos (by omega), if_pos (by omega)]
    omega
theorem dkP_comm (L : Nat) (xs : Nat → Int32) (n m a b : Nat) : dkP L xs n m a b = dkP L xs n m b a := by
  unfold dkP
  rw [Nat.max_comm a b, Nat.min_comm a b]
theorem mod_down {n a : Nat} (hn : 4 ≤ n) (ha : a < n) : ((a + n - 1) % n + 1) % n = a := by
  by_cases e : a = 0
  · subst e
    rw [show 0 + n - 1 = n - 1 by omega, Nat.mod_eq_of_lt (show n - 1 < n by omega), show n - 1 + 1 = n by omega, Nat.mod_self]
  · rw [show a + n - 1 = (a - 1) + n by omega, Nat.add_mod_right, Nat.mod_eq_of_lt (show a - 1 < n by omega), show a - 1 + 1 = a by omega, Nat.mod_eq_of_lt ha]
theorem dkP_down {L : Nat} {xs : Nat → Int32} {n a : Nat} (hn : 4 ≤ n) (ha : a < n) : dkP L xs n (n + 1) a ((a + n - 1) % n) ≠ 0 := by
  have h1 := dkP_up (L := L) (xs := xs) hn (Nat.mod_lt (a + n - 1) (show 0 < n by omega))
  rw [mod_down hn ha, dkP_comm] at h1
  exact h1
