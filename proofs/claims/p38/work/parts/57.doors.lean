/-! ===== rooms and doors ===== -/
def setD (dk : Nat → Nat → Nat) (a b v : Nat) : Nat → Nat → Nat := fun x y => if (x = a ∧ y = b) ∨ (x = b ∧ y = a) then v else dk x y
def hset (h : HS) (d : Int32) (a b v : Nat) : HS := (h.1, d, h.2.2.1, setD h.2.2.2.1 a b v, h.2.2.2.2)
theorem HO.set {h : HS} (O : HO h) {d : Int32} {a b v : Nat} (ha : a < h.1) (hb : b < h.1) (hab : a ≠ b) (hv : v ≤ 2) : HO (hset h d a b v) := by
  obtain ⟨a1, a2, a3, a4, a5, a6, a7⟩ := O
  refine ⟨a1, a2, fun x y => ?_, fun x y => ?_, fun x => ?_, fun x y => ?_, a7⟩
  · show setD h.2.2.2.1 a b v x y ≤ 2
    unfold setD; split
    · exact hv
    · exact a3 x y
  · show setD h.2.2.2.1 a b v x y = setD h.2.2.2.1 a b v y x
    unfold setD
    by_cases q : (x = a ∧ y = b) ∨ (x = b ∧ y = a)
    · rw [if_pos q, if_pos (by omega)]
    · rw [if_neg q, if_neg (by omega)]; exact a4 x y
  · show setD h.2.2.2.1 a b v x x = 0
    unfold setD
    rw [if_neg (by omega)]; exact a5 x
  · show setD h.2.2.2.1 a b v x y ≠ 0 → x < h.1
    unfold setD
    split
    · intro _; omega
    · exact a6 x y
def dkC : Nat → Int32 := fun n => match n with
  | 0 => -1
  | 1 => nI 0
  | _ => nI 1
theorem s_doorKind {h : HS} (O : HO h) {M : Mem} (H : HC 1 M h) {a b : Nat} (ha : a < 10) (hb : b < 10) {Q : Int32 → Mem → Prop} (k : Q (dkC (h.2.2.2.1 a b)) M) : C_X0_doorKind_1 M (nI a) (nI b) Q := by
  have e2 : M 2 a = mk (fun y => decide (h.2.2.2.1 a y = 1)) := H.2.2.2.1 a ha
  have e3 : M 3 a = mk (fun y => decide (h.2.2.2.1 a y = 2)) := H.2.2.2.2.1 a ha
  have o3 := O.2.2.1 a b
  refine T_X0_doorKind_1 ⟨by rw [vin (by omega)]; exact ha, ?_⟩
  rw [ix_n (by omega), e2, e3, mk_test _ (by omega), mk_test _ (by omega)]
  refine br (fun q => br (fun q2 => ?_) (fun q2 => ?_)) (fun q => ?_)
  · have : h.2.2.2.1 a b = 0 := by simp at q q2; omega
    rw [this] at k; exact k
  · have : h.2.2.2.1 a b = 2 := by simpa using q2
    rw [this] at k; exact k
  · have : h.2.2.2.1 a b = 1 := by simpa using q
    rw [this] at k; exact k
theorem s_putDoor {h : HS} (O : HO h) {M : Mem} (H : HC 1 M h) {a b v : Nat} (ha : a < h.1) (hb : b < h.1) (hab : a ≠ b) (h0 : h.2.2.2.1 a b = 0) (hv : v = 1 ∨ v = 2) {Q : Mem → Prop} (K : ∀ M', (∀ c k, ¬ (c = 2 ∨ c = 3 ∨ (c = 1 ∧ k = 1)) → M' c k = M c k) → HC 1 M' (hset h (h.2.1 + nI 1) a b v) → Q M') : C_X0_putDoor_1 M (nI a) (nI b) (nI (v - 1)) Q := by
  have hR := O.1
  have o4 := O.2.2.2.1
  obtain ⟨g1, g2, g3, g4, g5, g6⟩ := H
  have g4 : ∀ a, a < 10 → M 2 a = mk (fun y => decide (h.2.2.2.1 a y = 1)) := g4
  have g5 : ∀ a, a < 10 → M 3 a = mk (fun y => decide (h.2.2.2.1 a y = 2)) := g5
  have row : ∀ w, w = 1 ∨ w = 2 → ∀ (c : Nat) (N : Mem), (∀ x, x < 10 → N c x = mk (fun y => decide (h.2.2.2.1 x y = w))) → ∀ x, x < 10 → wr (wr N c a (N c a ||| mk (fun i => decide (i = b)))) c b (wr N c a (N c a ||| mk (fun i => decide (i = b))) c b ||| mk (fun i => decide (i = a))) c x = mk (fun y => decide (setD h.2.2.2.1 a b w x y = w)) := by
    intro w hw c N hN x hx
    rw [wr_nk _ _ _ _ (by omega : b ≠ a)]
    by_cases e1 : x = b
    · subst e1
      rw [wr_eq, hN x hx, mk_or]
      refine mk_ext (fun y _ => ?_)
      unfold setD
      by_cases e2 : y = a
      · simp [e2]
      · rw [if_neg (by omega)]; simp [e2]
    · rw [wr_nk _ _ _ _ e1]
      by_cases e2 : x = a
      · subst e2
        rw [wr_eq, hN x hx, mk_or]
        refine mk_ext (fun y _ => ?_)
        unfold setD
        by_cases e3 : y = b
        · simp [e3]
        · rw [if_neg (by omega)]; simp [e3]
      · rw [wr_nk _ _ _ _ e2, hN x hx]
        refine mk_ext (fun y _ => ?_)
        unfold setD
        rw [if_neg (by omega)]
  have other : ∀ w w', w ≠ w' → 0 < w' → ∀ x, mk (fun y => decide (h.2.2.2.1 x y = w')) = mk (fun y => decide (setD h.2.2.2.1 a b w x y = w')) := by
    intro w w' hw hw' x
    refine mk_ext (fun y _ => ?_)
    unfold setD
    by_cases q : (x = a ∧ y = b) ∨ (x = b ∧ y = a)
    · rw [if_pos q]
      have : h.2.2.2.1 x y = 0 := by
        rcases q with ⟨q1, q2⟩ | ⟨q1, q2⟩
        · rw [q1, q2]; exact h0
        · rw [q1, q2, o4]; exact h0
      rw [this]
      have h1 : ¬ 0 = w' := by omega
      simp [hw, h1]
    · rw [if_neg q]
  refine T_X0_putDoor_1 ?_
  rw [n_eq0 (by omega), vin (by omega), vin (by omega), ix_n (by omega), ix_n (by omega), mk_one (by omega), mk_one (by omega)]
  refine ⟨fun q => ⟨by omega, by omega, ?_⟩, fun q => ⟨by omega, by omega, ?_⟩⟩
  · have hv2 : v = 2 := by omega
    subst hv2
    refine K _ (fun c k w => (by simp only [wr]; repeat rw [if_neg (by omega)])) ⟨by rw [wr_nk _ _ _ _ (by omega), wr_nc _ _ _ _ (by omega), wr_nc _ _ _ _ (by omega)]; exact g1, by rw [wr_eq, g2]; rfl, by rw [wr_nk _ _ _ _ (by omega), wr_nc _ _ _ _ (by omega), wr_nc _ _ _ _ (by omega)]; exact g3, fun x hx => ?_, fun x hx => ?_, fun g hg u hu => by rw [wr_nc _ _ _ _ (by omega), wr_nc _ _ _ _ (by omega), wr_nc _ _ _ _ (by omega)]; exact g6 g hg u hu⟩
    · rw [wr_nc _ _ _ _ (by omega), wr_nc _ _ _ _ (by omega), wr_nc _ _ _ _ (by omega)]
      exact (g4 x hx).trans (other 2 1 (by omega) (by omega) x)
    · rw [wr_nc _ _ _ _ (by omega)]
      exact row 2 (by omega) 3 M g5 x hx
  · have hv2 : v = 1 := by omega
    subst hv2
    refine K _ (fun c k w => (by simp only [wr]; repeat rw [if_neg (by omega)])) ⟨by rw [wr_nk _ _ _ _ (by omega), wr_nc _ _ _ _ (by omega), wr_nc _ _ _ _ (by omega)]; exact g1, by rw [wr_eq, g2]; rfl, by rw [wr_nk _ _ _ _ (by omega), wr_nc _ _ _ _ (by omega), wr_nc _ _ _ _ (by omega)]; exact g3, fun x hx => ?_, fun x hx => ?_, fun g hg u hu => by rw [wr_nc _ _ _ _ (by omega), wr_nc _ _ _ _ (by omega), wr_nc _ _ _ _ (by omega)]; exact g6 g hg u hu⟩
    · rw [wr_nc _ _ _ _ (by omega)]
      exact row 1 (by omega) 2 M g4 x hx
    · rw [wr_nc _ _ _ _ (by omega), wr_nc _ _ _ _ (by omega), wr_nc _ _ _ _ (by omega)]
      exact (g5 x hx).trans (other 1 2 (by omega) (by omega) x)
theorem dkC_m1 {n : Nat} (hn : n ≤ 2) : (dkC n = -1) = (n = 0) := by
  rcases (show n = 0 ∨ n = 1 ∨ n = 2 by omega) with q | q | q <;> subst q
  · exact propext ⟨fun _ => rfl, fun _ => rfl⟩
  · exact propext ⟨fun w => absurd w (by decide), fun w => by cases w⟩
  · exact propext ⟨fun w => absurd w (by decide), fun w => by cases w⟩
