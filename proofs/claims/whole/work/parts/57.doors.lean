/-! ===== rooms and doors ===== -/
theorem b_room {M : Mem} (C : Cpl M) : C_X9_room M (fun r M1 => C_X10_room M1 (fun r' M2 => r = r' ∧ Cpl M2)) := by
  obtain ⟨h, s, t, n, tp, x, kx, I, J, O⟩ := C
  have hR := O.1.1
  have same : Cpl M := ⟨h, s, t, n, tp, x, kx, I, J, O⟩
  have e1 : M 1 0 = nI h.1 := I.1.1
  refine T_X9_room ?_
  rw [e1, n_eq (by omega) (by omega)]
  refine ⟨fun q => ?_, fun q => ?_⟩
  · have O' : IO (h.1 + 1, h.2) s t n tp x kx := by
      obtain ⟨⟨a1, a2, a3, a4, a5, a6, a7⟩, o2, o3, o4⟩ := O
      refine ⟨⟨?_, a2, a3, a4, a5, fun a b w => ?_, fun g hg u hu => ?_⟩, o2.mono (Nat.le_succ _), o3.mono (Nat.le_succ _), o4⟩
      · show h.1 + 1 ≤ 10; omega
      · exact Nat.lt_succ_of_lt (a6 a b w)
      · exact Nat.lt_succ_of_lt (a7 g hg u hu)
    have H' : HC 1 (wr M 1 0 (nI h.1 + nI 1)) (h.1 + 1, h.2) := by
      obtain ⟨g1, g2, g3, g4, g5, g6⟩ := I.1
      exact ⟨by rw [wr_eq, n_add], by rw [wr_nk _ _ _ _ (by omega)]; exact g2, by rw [wr_nk _ _ _ _ (by omega)]; exact g3, fun a ha => by rw [wr_nc _ _ _ _ (by omega)]; exact g4 a ha, fun a ha => by rw [wr_nc _ _ _ _ (by omega)]; exact g5 a ha, fun g hg u hu => by rw [wr_nc _ _ _ _ (by omega)]; exact g6 g hg u hu⟩
    refine s_doorsChanged O'.1 H' (fun M1 f1 w1 z1 z2 => ?_)
    have I1 : IC M1 (h.1 + 1, h.2) s t n tp x kx := I.house O (H'.congr O.1.2.1 (fun c k _ _ => f1 c k (by omega))) w1 (fun c k w => by rw [f1 c k (by omega), wr_nc _ _ _ _ (by omega)]) z1 z2
    have J1 : IM M1 h s t n tp x kx := J.far (fun c k hc => by rw [f1 c k (by omega), wr_nc _ _ _ _ (by omega)])
    have e2 : M1 1 0 = nI (h.1 + 1) := I1.1.1
    rw [e2]
    refine T_X10_room ?_
    rw [J1.1.1, n_eq (by omega) (by omega)]
    refine ⟨fun _ => ⟨by rw [n_add], _, _, _, _, _, _, _, I1.far O' (fun c k hc => (by simp only [wr]; repeat rw [if_neg (by omega)])), ?_, O'⟩, fun w => absurd w q⟩
    obtain ⟨g1, g2, g3, g4, g5⟩ := J1.1
    exact J1.house ⟨by rw [wr_nk _ _ _ _ (by omega), wr_eq, n_add], by rw [wr_nk _ _ _ _ (by omega), wr_nk _ _ _ _ (by omega)]; exact g2, by rw [wr_nk _ _ _ _ (by omega), wr_nk _ _ _ _ (by omega)]; exact g3, fun a ha b hb => by rw [wr_nc _ _ _ _ (by omega), wr_nc _ _ _ _ (by omega)]; exact g4 a ha b hb, fun g hg u hu => by rw [wr_nc _ _ _ _ (by omega), wr_nc _ _ _ _ (by omega)]; exact g5 g hg u hu⟩ (fun c k w => (by simp only [wr]; repeat rw [if_neg (by omega)])) (wr_eq _ _ _ _)
  · refine T_X10_room ?_
    rw [J.1.1, n_eq (by omega) (by omega)]
    exact ⟨fun w => absurd q w, fun _ => ⟨rfl, same⟩⟩
def setD (dk : Nat → Nat → Nat) (a b v : Nat) : Nat → Nat → Nat := fun x y => if (x = a ∧ y = b) ∨ (x = b ∧ y = a) then v else dk x y
def hset (h : HS) (d : Int32) (a b v : Nat) : HS := (h.1, d, h.2.2.1, setD h.2.2.2.1 a b v, h.2.2.2.2)
theorem HO.set {h : HS} (O : HO h) {d : Int32} {a b v : Nat} (ha : a < h.1) (hb : b < h.1) (hab : a ≠ b) (hv : v ≤ 2) : HO (hset h d a b v) := by
  obtain ⟨a1, a2, a3, a4, a5, a6, a7⟩ := O
  refine ⟨a1, a2, fun x y => ?_, fun x y => ?_, fun x => ?_, fun x y => ?_, a7⟩
  · show setD h.2.2.2.1 a b v x y ≤ 2
    unfold setD; split
    · exact hv
    · exact a3 x y
  · show setD h.2.2.2.1 a b v x y = setD h.2.2.2.1 a b v y x
    unfold setD
    by_cases q : (x = a ∧ y = b) ∨ (x = b ∧ y = a)
    · rw [if_pos q, if_pos (by omega)]
    · rw [if_neg q, if_neg (by omega)]; exact a4 x y
  · show setD h.2.2.2.1 a b v x x = 0
    unfold setD
    rw [if_neg (by omega)]; exact a5 x
  · show setD h.2.2.2.1 a b v x y ≠ 0 → x < h.1
    unfold setD
    split
    · intro _; omega
    · exact a6 x y
def dkC : Nat → Int32 := fun n => match n with
  | 0 => -1
  | 1 => nI 0
  | _ => nI 1
theorem s_doorKind {h : HS} (O : HO h) {M : Mem} (H : HC 1 M h) {a b : Nat} (ha : a < 10) (hb : b < 10) {Q : Int32 → Mem → Prop} (k : Q (dkC (h.2.2.2.1 a b)) M) : C_X0_doorKind_1 M (nI a) (nI b) Q := by
  have e2 : M 2 a = mk (fun y => decide (h.2.2.2.1 a y = 1)) := H.2.2.2.1 a ha
  have e3 : M 3 a = mk (fun y => decide (h.2.2.2.1 a y = 2)) := H.2.2.2.2.1 a ha
  have o3 := O.2.2.1 a b
  refine T_X0_doorKind_1 ⟨by rw [vin (by omega)]; exact ha, ?_⟩
  rw [ix_n (by omega), e2, e3, mk_test _ (by omega), mk_test _ (by omega)]
  refine br (fun q => br (fun q2 => ?_) (fun q2 => ?_)) (fun q => ?_)
  · have : h.2.2.2.1 a b = 0 := by simp at q q2; omega
    rw [this] at k; exact k
  · have : h.2.2.2.1 a b = 2 := by simpa using q2
    rw [this] at k; exact k
  · have : h.2.2.2.1 a b = 1 := by simpa using q
    rw [this] at k; exact k
theorem s_putDoor {h : HS} (O : HO h) {M : Mem} (H : HC 1 M h) {a b v : Nat} (ha : a < h.1) (hb : b < h.1) (hab : a ≠ b) (h0 : h.2.2.2.1 a b = 0) (hv : v = 1 ∨ v = 2) {Q : Mem → Prop} (K : ∀ M', (∀ c k, ¬ (c = 2 ∨ c = 3 ∨ (c = 1 ∧ k = 1)) → M' c k = M c k) → HC 1 M' (hset h (h.2.1 + nI 1) a b v) → Q M') : C_X0_putDoor_1 M (nI a) (nI b) (nI (v - 1)) Q := by
  have hR := O.1
  have o4 := O.2.2.2.1
  obtain ⟨g1, g2, g3, g4, g5, g6⟩ := H
  have g4 : ∀ a, a < 10 → M 2 a = mk (fun y => decide (h.2.2.2.1 a y = 1)) := g4
  have g5 : ∀ a, a < 10 → M 3 a = mk (fun y => decide (h.2.2.2.1 a y = 2)) := g5
  have row : ∀ w, w = 1 ∨ w = 2 → ∀ (c : Nat) (N : Mem), (∀ x, x < 10 → N c x = mk (fun y => decide (h.2.2.2.1 x y = w))) → ∀ x, x < 10 → wr (wr N c a (N c a ||| mk (fun i => decide (i = b)))) c b (wr N c a (N c a ||| mk (fun i => decide (i = b))) c b ||| mk (fun i => decide (i = a))) c x = mk (fun y => decide (setD h.2.2.2.1 a b w x y = w)) := by
    intro w hw c N hN x hx
    rw [wr_nk _ _ _ _ (by omega : b ≠ a)]
    by_cases e1 : x = b
    · subst e1
      rw [wr_eq, hN x hx, mk_or]
      refine mk_ext (fun y _ => ?_)
      unfold setD
      by_cases e2 : y = a
      · simp [e2]
      · rw [if_neg (by omega)]; simp [e2]
    · rw [wr_nk _ _ _ _ e1]
      by_cases e2 : x = a
      · subst e2
        rw [wr_eq, hN x hx, mk_or]
        refine mk_ext (fun y _ => ?_)
        unfold setD
        by_cases e3 : y = b
        · simp [e3]
        · rw [if_neg (by omega)]; simp [e3]
      · rw [wr_nk _ _ _ _ e2, hN x hx]
        refine mk_ext (fun y _ => ?_)
        unfold setD
        rw [if_neg (by omega)]
  have other : ∀ w w', w ≠ w' → 0 < w' → ∀ x, mk (fun y => decide (h.2.2.2.1 x y = w')) = mk (fun y => decide (setD h.2.2.2.1 a b w x y = w')) := by
    intro w w' hw hw' x
    refine mk_ext (fun y _ => ?_)
    unfold setD
    by_cases q : (x = a ∧ y = b) ∨ (x = b ∧ y = a)
    · rw [if_pos q]
      have : h.2.2.2.1 x y = 0 := by
        rcases q with ⟨q1, q2⟩ | ⟨q1, q2⟩
        · rw [q1, q2]; exact h0
        · rw [q1, q2, o4]; exact h0
      rw [this]
      have h1 : ¬ 0 = w' := by omega
      simp [hw, h1]
    · rw [if_neg q]
  refine T_X0_putDoor_1 ?_
  rw [n_eq0 (by omega), vin (by omega), vin (by omega), ix_n (by omega), ix_n (by omega), mk_one (by omega), mk_one (by omega)]
  refine ⟨fun q => ⟨by omega, by omega, ?_⟩, fun q => ⟨by omega, by omega, ?_⟩⟩
  · have hv2 : v = 2 := by omega
    subst hv2
    refine K _ (fun c k w => (by simp only [wr]; repeat rw [if_neg (by omega)])) ⟨by rw [wr_nk _ _ _ _ (by omega), wr_nc _ _ _ _ (by omega), wr_nc _ _ _ _ (by omega)]; exact g1, by rw [wr_eq, g2]; rfl, by rw [wr_nk _ _ _ _ (by omega), wr_nc _ _ _ _ (by omega), wr_nc _ _ _ _ (by omega)]; exact g3, fun x hx => ?_, fun x hx => ?_, fun g hg u hu => by rw [wr_nc _ _ _ _ (by omega), wr_nc _ _ _ _ (by omega), wr_nc _ _ _ _ (by omega)]; exact g6 g hg u hu⟩
    · rw [wr_nc _ _ _ _ (by omega), wr_nc _ _ _ _ (by omega), wr_nc _ _ _ _ (by omega)]
      exact (g4 x hx).trans (other 2 1 (by omega) (by omega) x)
    · rw [wr_nc _ _ _ _ (by omega)]
      exact row 2 (by omega) 3 M g5 x hx
  · have hv2 : v = 1 := by omega
    subst hv2
    refine K _ (fun c k w => (by simp only [wr]; repeat rw [if_neg (by omega)])) ⟨by rw [wr_nk _ _ _ _ (by omega), wr_nc _ _ _ _ (by omega), wr_nc _ _ _ _ (by omega)]; exact g1, by rw [wr_eq, g2]; rfl, by rw [wr_nk _ _ _ _ (by omega), wr_nc _ _ _ _ (by omega), wr_nc _ _ _ _ (by omega)]; exact g3, fun x hx => ?_, fun x hx => ?_, fun g hg u hu => by rw [wr_nc _ _ _ _ (by omega), wr_nc _ _ _ _ (by omega), wr_nc _ _ _ _ (by omega)]; exact g6 g hg u hu⟩
    · rw [wr_nc _ _ _ _ (by omega)]
      exact row 1 (by omega) 2 M g4 x hx
    · rw [wr_nc _ _ _ _ (by omega), wr_nc _ _ _ _ (by omega), wr_nc _ _ _ _ (by omega)]
      exact (g5 x hx).trans (other 1 2 (by omega) (by omega) x)
theorem s_takeDoor {h : HS} (O : HO h) {M : Mem} (H : HC 1 M h) {a b : Nat} (ha : a < h.1) (hb : b < h.1) (hab : a ≠ b) {Q : Mem → Prop} (K : ∀ M', (∀ c k, ¬ (c = 2 ∨ c = 3 ∨ (c = 1 ∧ k = 1)) → M' c k = M c k) → HC 1 M' (hset h (h.2.1 - nI 1) a b 0) → Q M') : C_X0_takeDoor_1 M (nI a) (nI b) Q := by
  have hR := O.1
  obtain ⟨g1, g2, g3, g4, g5, g6⟩ := H
  have g4 : ∀ a, a < 10 → M 2 a = mk (fun y => decide (h.2.2.2.1 a y = 1)) := g4
  have g5 : ∀ a, a < 10 → M 3 a = mk (fun y => decide (h.2.2.2.1 a y = 2)) := g5
  have row : ∀ w, 0 < w → ∀ (c : Nat) (N : Mem), (∀ x, x < 10 → N c x = mk (fun y => decide (h.2.2.2.1 x y = w))) → ∀ x, x < 10 → wr (wr N c a (N c a &&& mk (fun i => !decide (i = b)))) c b (wr N c a (N c a &&& mk (fun i => !decide (i = b))) c b &&& mk (fun i => !decide (i = a))) c x = mk (fun y => decide (setD h.2.2.2.1 a b 0 x y = w)) := by
    intro w hw c N hN x hx
    rw [wr_nk _ _ _ _ (by omega : b ≠ a)]
    have h0 : ¬ 0 = w := by omega
    by_cases e1 : x = b
    · subst e1
      rw [wr_eq, hN x hx, mk_and]
      refine mk_ext (fun y _ => ?_)
      unfold setD
      by_cases e2 : y = a
      · simp [e2, h0]
      · rw [if_neg (by omega)]; simp [e2]
    · rw [wr_nk _ _ _ _ e1]
      by_cases e2 : x = a
      · subst e2
        rw [wr_eq, hN x hx, mk_and]
        refine mk_ext (fun y _ => ?_)
        unfold setD
        by_cases e3 : y = b
        · simp [e3, h0]
        · rw [if_neg (by omega)]; simp [e3]
      · rw [wr_nk _ _ _ _ e2, hN x hx]
        refine mk_ext (fun y _ => ?_)
        unfold setD
        rw [if_neg (by omega)]
  refine T_X0_takeDoor_1 ?_
  rw [vin (by omega), vin (by omega), ix_n (by omega), ix_n (by omega), mk_one (by omega), mk_one (by omega), mk_not, mk_not]
  refine ⟨by omega, by omega, ?_⟩
  refine K _ (fun c k w => (by simp only [wr]; repeat rw [if_neg (by omega)])) ⟨by rw [wr_nk _ _ _ _ (by omega), wr_nc _ _ _ _ (by omega), wr_nc _ _ _ _ (by omega), wr_nc _ _ _ _ (by omega), wr_nc _ _ _ _ (by omega)]; exact g1, by rw [wr_eq, g2]; rfl, by rw [wr_nk _ _ _ _ (by omega), wr_nc _ _ _ _ (by omega), wr_nc _ _ _ _ (by omega), wr_nc _ _ _ _ (by omega), wr_nc _ _ _ _ (by omega)]; exact g3, fun x hx => ?_, fun x hx => ?_, fun g hg u hu => by rw [wr_nc _ _ _ _ (by omega), wr_nc _ _ _ _ (by omega), wr_nc _ _ _ _ (by omega), wr_nc _ _ _ _ (by omega), wr_nc _ _ _ _ (by omega)]; exact g6 g hg u hu⟩
  · rw [wr_nc _ _ _ _ (by omega), wr_nc _ _ _ _ (by omega), wr_nc _ _ _ _ (by omega)]
    exact row 1 (by omega) 2 M g4 x hx
  · rw [wr_nc _ _ _ _ (by omega)]
    have e1 : (wr (wr M 2 a (M 2 a &&& mk fun i => !decide (i = b))) 2 b (wr M 2 a (M 2 a &&& mk fun i => !decide (i = b)) 2 b &&& mk fun i => !decide (i = a))) 3 a = M 3 a := by rw [wr_nc _ _ _ _ (by omega), wr_nc _ _ _ _ (by omega)]
    have := row 2 (by omega) 3 (wr (wr M 2 a (M 2 a &&& mk fun i => !decide (i = b))) 2 b (wr M 2 a (M 2 a &&& mk fun i => !decide (i = b)) 2 b &&& mk fun i => !decide (i = a))) (fun x hx => by rw [wr_nc _ _ _ _ (by omega), wr_nc _ _ _ _ (by omega)]; exact g5 x hx) x hx
    rw [e1] at this
    exact this
theorem m_doorIs {h : HS} (O : HO h) {M : Mem} (H : HM M h) {a b v : Nat} (ha : a < h.1) (hb : b < h.1) {w : Int32} (hw : w = dkI v) {Q : Mem → Prop} (K : ∀ M', (∀ c k, ¬ (c = 183 ∨ (c = 182 ∧ k = 13)) → M' c k = M c k) → M' 182 13 = nI 0 → HM M' (hset h h.2.1 a b v) → Q M') : C_X10_doorIs M (nI a) (nI b) w Q := by
  have hR := O.1
  obtain ⟨g1, g2, g3, g4, g5⟩ := H
  refine T_X10_doorIs ?_
  simp (disch := omega) only [n_mul, n_add, vin, ix_n]
  refine ⟨by omega, by omega, K _ (fun c k w => (by simp only [wr]; repeat rw [if_neg (by omega)])) (wr_eq _ _ _ _) ⟨by rw [wr_nk _ _ _ _ (by omega), wr_nc _ _ _ _ (by omega), wr_nc _ _ _ _ (by omega)]; exact g1, by rw [wr_nk _ _ _ _ (by omega), wr_nc _ _ _ _ (by omega), wr_nc _ _ _ _ (by omega)]; exact g2, by rw [wr_nk _ _ _ _ (by omega), wr_nc _ _ _ _ (by omega), wr_nc _ _ _ _ (by omega)]; exact g3, fun x hx y hy => ?_, fun g hg u hu => by rw [wr_nc _ _ _ _ (by omega), wr_nc _ _ _ _ (by omega), wr_nc _ _ _ _ (by omega)]; exact g5 g hg u hu⟩⟩
  rw [wr_nc _ _ _ _ (by omega)]
  show _ = dkI (setD h.2.2.2.1 a b v x y)
  unfold setD
  by_cases e1 : x = b ∧ y = a
  · obtain ⟨rfl, rfl⟩ := e1
    rw [wr_eq, if_pos (Or.inr ⟨rfl, rfl⟩)]; exact hw
  · rw [wr_nk _ _ _ _ (by omega)]
    by_cases e2 : x = a ∧ y = b
    · obtain ⟨rfl, rfl⟩ := e2
      rw [wr_eq, if_pos (Or.inl ⟨rfl, rfl⟩)]; exact hw
    · rw [wr_nk _ _ _ _ (by omega), if_neg (by omega)]
      exact g4 x hx y hy
theorem dkC_m1 {n : Nat} (hn : n ≤ 2) : (dkC n = -1) = (n = 0) := by
  rcases (show n = 0 ∨ n = 1 ∨ n = 2 by omega) with q | q | q <;> subst q
  · exact propext ⟨fun _ => rfl, fun _ => rfl⟩
  · exact propext ⟨fun w => absurd w (by decide), fun w => by cases w⟩
  · exact propext ⟨fun w => absurd w (by decide), fun w => by cases w⟩
theorem b_door {M : Mem} (C : Cpl M) (a b k : Int32) : C_X9_door M a b k (fun r M1 => C_X10_door M1 a b k (fun r' M2 => r = r' ∧ Cpl M2)) := by
  obtain ⟨h, s, t, n, tp, x, kx, I, J, O⟩ := C
  have hR := O.1.1
  have same : Cpl M := ⟨h, s, t, n, tp, x, kx, I, J, O⟩
  -- the reference's refusals
  have mst : ∀ (N : Mem), IM N h s t n tp x kx → ∀ {A : Int32 → Mem → Prop}, ((okN a h.1 && (okN b h.1 && !decide (a = b))) = false → A (-1) N) → ((okN a h.1 && (okN b h.1 && !decide (a = b))) = true → okN k 2 = false → A (-1) N) → ((okN a h.1 && (okN b h.1 && !decide (a = b))) = true → okN k 2 = true → (vp_in (((nI 10) * a) + b) 100 ∧ ((((N 183 (ix (((nI 10) * a) + b))) < 0) → (((¬ (N 182 1) = (nI 16)) → (C_X10_doorIs N a b k (fun M10 => A ((M10 182 1) + (nI 1)) (wr M10 182 1 ((M10 182 1) + (nI 1)))))) ∧ (((N 182 1) = (nI 16)) → (A (-3) N)))) ∧ ((¬ (N 183 (ix (((nI 10) * a) + b))) < 0) → (A (-2) N))))) → C_X10_door N a b k A := by
    intro N JN A k1 k2 k3
    refine T_X10_door (m_isRoom JN.1.1 hR (br (fun q => k1 (by rw [q]; rfl)) (fun q => m_isRoom JN.1.1 hR (br (fun q2 => k1 (by rw [q, q2]; rfl)) (fun q2 => ⟨fun q3 => k1 (by rw [q, q2, decide_eq_true q3]; rfl), fun q3 => s_in ?_⟩)))))
    have ok : (okN a h.1 && (okN b h.1 && !decide (a = b))) = true := by rw [q, q2, decide_eq_false q3]; rfl
    rw [in_01]
    exact br' (fun q4 => k2 ok q4) (fun q4 => k3 ok q4)
  refine T_X9_door (s_arePair I.1.1 hR (br (fun q => mst M J (fun _ => ⟨rfl, same⟩) (fun w => absurd (q.symm.trans w) (by decide)) (fun w => absurd (q.symm.trans w) (by decide))) (fun q => rle (n := 1) (by omega) (fun q2 => mst M J (fun w => absurd (q.symm.trans w) (by decide)) (fun _ _ => ⟨rfl, same⟩) (fun _ w => absurd (q2.symm.trans w) (by decide))) (fun q2 => ?_))))
  have q' := q
  simp only [Bool.and_eq_true, Bool.not_eq_true', decide_eq_false_iff_not] at q'
  obtain ⟨qa, qb, qab⟩ := q'
  obtain ⟨a', ha, rfl⟩ := okN_t (by omega) qa
  obtain ⟨b', hb, rfl⟩ := okN_t (by omega) qb
  obtain ⟨k', hk, rfl⟩ := okN_t (by omega) q2
  have hab : a' ≠ b' := fun w => qab (by rw [w])
  have o3 := O.1.2.2.1 a' b'
  refine s_doorKind O.1 I.1 (by omega) (by omega) ?_
  rw [dkC_m1 o3, I.1.2.1]
  have mst2 : ∀ (N : Mem), IM N h s t n tp x kx → ∀ {A : Int32 → Mem → Prop}, ((h.2.2.2.1 a' b' = 0 → ((¬ h.2.1 = nI 16 → C_X10_doorIs N (nI a') (nI b') (nI k') (fun M10 => A ((M10 182 1) + (nI 1)) (wr M10 182 1 ((M10 182 1) + (nI 1))))) ∧ (h.2.1 = nI 16 → A (-3) N))) ∧ (¬ h.2.2.2.1 a' b' = 0 → A (-2) N)) → C_X10_door N (nI a') (nI b') (nI k') A := by
    intro N JN A hA
    refine mst N JN (fun w => absurd (q.symm.trans w) (by decide)) (fun _ w => absurd (q2.symm.trans w) (by decide)) (fun _ _ => ?_)
    rw [n_mul, n_add, vin (by omega), ix_n (by omega), JN.1.2.2.2.1 a' (by omega) b' (by omega), dkI_neg, JN.1.2.1]
    exact ⟨by omega, hA⟩
  refine ⟨fun q3 => ⟨fun q4 => ?_, fun q4 => mst2 M J ⟨fun _ => ⟨fun w => absurd q4 w, fun _ => ⟨rfl, same⟩⟩, fun w => absurd q3 w⟩⟩, fun q3 => mst2 M J ⟨fun w => absurd w q3, fun _ => ⟨rfl, same⟩⟩⟩
  have O1 := O.1.set (d := h.2.1 + nI 1) (v := k' + 1) ha hb hab (by omega)
  refine s_putDoor (v := k' + 1) O.1 I.1 ha hb hab q3 (by omega) (fun M1 f1 H1 => s_doorsChanged O1 H1 (fun M2 f2 w2 z1 z2 => ?_))
  have I2 : IC M2 (hset h (h.2.1 + nI 1) a' b' (k' + 1)) s t n tp x kx := I.house O (H1.congr O.1.2.1 (fun c k _ _ => f2 c k (by omega))) w2 (fun c k w => by rw [f2 c k (by omega)]; exact f1 c k (by omega)) z1 z2
  have J2 : IM M2 h s t n tp x kx := J.far (fun c k hc => by rw [f2 c k (by omega)]; exact f1 c k (by omega))
  have O2 : IO (hset h (h.2.1 + nI 1) a' b' (k' + 1)) s t n tp x kx := ⟨O1, O.2⟩
  have e2 : M2 1 1 = h.2.1 + nI 1 := I2.1.2.1
  rw [e2]
  refine mst2 M2 J2 ⟨fun _ => ⟨fun _ => ?_, fun w => absurd w q4⟩, fun w => absurd q3 w⟩
  refine m_doorIs O.1 J2.1 (v := k' + 1) ha hb (by rcases (show k' = 0 ∨ k' = 1 by omega) with w | w <;> subst w <;> rfl) (fun M3 f3 z3 H3 => ?_)
  have e3 : M3 182 1 = h.2.1 := H3.2.1
  rw [e3]
  refine ⟨rfl, _, _, _, _, _, _, _, I2.far O2 (fun c k hc => by rw [wr_nc _ _ _ _ (by omega)]; exact f3 c k (by omega)), ?_, O2⟩
  obtain ⟨g1, g2, g3, g4, g5⟩ := H3
  exact J2.house ⟨by rw [wr_nk _ _ _ _ (by omega)]; exact g1, wr_eq _ _ _ _, by rw [wr_nk _ _ _ _ (by omega)]; exact g3, fun a ha b hb => by rw [wr_nc _ _ _ _ (by omega)]; exact g4 a ha b hb, fun g hg u hu => by rw [wr_nc _ _ _ _ (by omega)]; exact g5 g hg u hu⟩ (fun c k w => by rw [wr, if_neg (by omega)]; exact f3 c k (by omega)) (by rw [wr_nk _ _ _ _ (by omega)]; exact z3)
