/-! ===== sheets ===== -/
def up_ {α : Type} (f : Nat → α) (a : Nat) (v : α) : Nat → α := fun x => if x = a then v else f x
theorem up_eq {α : Type} (f : Nat → α) (a : Nat) (v : α) : up_ f a v a = v := by simp [up_]
theorem up_ne {α : Type} (f : Nat → α) {a x : Nat} (v : α) (h : x ≠ a) : up_ f a v x = f x := by simp [up_, h]
def hdB (z : Nat) (i n : Int32) : Bool := decide (0 ≤ i.toInt ∧ 0 ≤ n.toInt ∧ i.toInt + n.toInt ≤ z)
theorem s_isNothing {x : WS} {M : Mem} (W : WC M x) {s : Nat} (hs : s < 4) {Q : Int32 → Mem → Prop} (k : Q (bI (decide (x.1 s = -1))) M) : C_X4_isNothing M (nI s) Q := by
  refine T_X4_isNothing ⟨by rw [vin (by omega)]; exact hs, ?_⟩
  rw [ix_n (by omega), (W s hs).1]
  refine ⟨fun q => ?_, fun q => ?_⟩
  · rw [decide_eq_false q] at k; exact k
  · rw [decide_eq_true q] at k; exact k
theorem s_holds {x : WS} {M : Mem} (W : WC M x) (O : WO x) {s : Nat} (hs : s < 4) {i n : Int32} {Q : Int32 → Mem → Prop} (k : Q (bI (hdB (x.2.1 s) i n)) M) : C_X4_holds M (nI s) i n Q := by
  have hz := (O s hs).2
  have no : ¬ (0 ≤ i.toInt ∧ 0 ≤ n.toInt ∧ i.toInt + n.toInt ≤ x.2.1 s) → Q (nI 0) M := fun w => by
    unfold hdB at k; rw [decide_eq_false w] at k; exact k
  have yes : (0 ≤ i.toInt ∧ 0 ≤ n.toInt ∧ i.toInt + n.toInt ≤ x.2.1 s) → Q (nI 1) M := fun w => by
    unfold hdB at k; rw [decide_eq_true w] at k; exact k
  refine T_X4_holds ⟨fun q => no ?_, fun q => ⟨fun q2 => no ?_, fun q2 => ⟨by rw [vin (by omega)]; exact hs, ?_⟩⟩⟩
  · rw [Int32.lt_iff_toInt_lt, Int32.toInt_zero] at q; omega
  · rw [Int32.lt_iff_toInt_lt, Int32.toInt_zero] at q2; omega
  · rw [ix_n (by omega), (W s hs).2.1]
    obtain ⟨i', hi, rfl⟩ := nI_of q
    obtain ⟨n', hn, rfl⟩ := nI_of q2
    rw [nI_toInt hi, nI_toInt hn] at no yes
    rw [n_lt (by omega) (by omega)]
    refine ⟨fun q3 => no (by omega), fun q3 => ?_⟩
    rw [n_sub (by omega), n_lt (by omega) (by omega)]
    exact ⟨fun q4 => no (by omega), fun q4 => yes (by omega)⟩
theorem add64 (a b : Int32) : (a.toInt64 + b.toInt64).toInt = a.toInt + b.toInt := by
  have h1 := Int32.toInt_lt a
  have h2 := Int32.le_toInt a
  have h3 := Int32.toInt_lt b
  have h4 := Int32.le_toInt b
  rw [Int64.toInt_add, Int32.toInt_toInt64, Int32.toInt_toInt64]
  exact Int.bmod_eq_of_le (by omega) (by omega)
theorem ln_neg {x : WS} (O : WO x) {s : Nat} (hs : s < 4) : (0 ≤ x.1 s) = ¬ x.1 s = -1 := by
  rcases (O s hs).1 with q | q | q | q <;> rw [q]
  · exact propext ⟨fun w => absurd w (by decide), fun w => absurd rfl w⟩
  · exact propext ⟨fun _ => by decide, fun _ => by decide⟩
  · exact propext ⟨fun _ => by decide, fun _ => by decide⟩
  · exact propext ⟨fun _ => by decide, fun _ => by decide⟩
theorem m_finds {x : WS} {M : Mem} (W : WM M x) (O : WO x) {s : Nat} (hs : s < 4) {l i n : Int32} (hn : 0 ≤ n.toInt) {Q : Int32 → Mem → Prop} (k1 : x.1 s = -1 → Q (-11) M) (k2 : ¬ x.1 s = -1 → ¬ x.1 s = l → Q (-12) M) (k3 : ¬ x.1 s = -1 → x.1 s = l → hdB (x.2.1 s) i n = false → Q (-13) M) (k4 : ¬ x.1 s = -1 → x.1 s = l → hdB (x.2.1 s) i n = true → Q (nI 0) M) : C_X10_finds M (nI s) l i n Q := by
  have hz := (O s hs).2
  refine T_X10_finds ⟨by rw [vin (by omega)]; exact hs, ?_⟩
  rw [ix_n (by omega), (W s hs).1, (W s hs).2.1, ln_neg O hs]
  refine ⟨fun q => ⟨fun q2 => ⟨fun q3 => k3 q q2 ?_, fun q3 => ?_⟩, fun q2 => k2 q q2⟩, fun q => k1 (Classical.not_not.mp q)⟩
  · rw [Int32.lt_iff_toInt_lt, Int32.toInt_zero] at q3
    unfold hdB; rw [decide_eq_false_iff_not]; omega
  · rw [Int32.not_lt, Int32.le_iff_toInt_le, Int32.toInt_zero] at q3
    rw [lg_cmp_le, Int64.le_iff_toInt_le, add64, Int32.toInt_toInt64, nI_toInt (by omega)]
    refine ⟨fun q4 => k4 q q2 ?_, fun q4 => k3 q q2 ?_⟩
    · unfold hdB; rw [decide_eq_true_eq]; omega
    · unfold hdB; rw [decide_eq_false_iff_not]; omega
theorem lane_t {l : Int32} (h : okN l 3 = true) : l = nI 0 ∨ l = nI 1 ∨ l = nI 2 := by
  obtain ⟨j, hj, rfl⟩ := okN_t (by omega) h
  rcases (show j = 0 ∨ j = 1 ∨ j = 2 by omega) with q | q | q <;> subst q <;> simp
theorem b_sheet {M : Mem} (C : Cpl M) (a l m : Int32) : C_X9_sheet M a l m (fun r M1 => C_X10_sheet M1 a l m (fun r' M2 => r = r' ∧ Cpl M2)) := by
  obtain ⟨h, s, t, n, tp, x, kx, I, J, O⟩ := C
  have same : Cpl M := ⟨h, s, t, n, tp, x, kx, I, J, O⟩
  have mst : ∀ (N : Mem) {A : Int32 → Mem → Prop}, (okN a 4 = false → A (-1) N) → (okN a 4 = true → okN l 3 = false → A (-1) N) → (okN a 4 = true → okN l 3 = true → (((m ≤ (nI 24)) → (((0 ≤ m) → (vp_in a 4 ∧ (P_X10_sheet_46 (wr (wr N 206 (ix a) l) 207 (ix a) m) a m (nI 0) A))) ∧ ((¬ 0 ≤ m) → (A (-14) N)))) ∧ ((¬ m ≤ (nI 24)) → (A (-1) N)))) → C_X10_sheet N a l m A := fun N {A} k1 k2 k3 => T_X10_sheet (m_isSheet (br (fun q => k1 q) (fun q => m_isLane (br (fun q2 => k2 q q2) (fun q2 => k3 q q2)))))
  refine T_X9_sheet (s_isSheet (br (fun q => mst M (fun _ => ⟨rfl, same⟩) (fun w => absurd (q.symm.trans w) (by decide)) (fun w => absurd (q.symm.trans w) (by decide))) (fun q => s_isLane (br (fun q2 => mst M (fun w => absurd (q.symm.trans w) (by decide)) (fun _ _ => ⟨rfl, same⟩) (fun _ w => absurd (q2.symm.trans w) (by decide))) (fun q2 => ⟨fun q3 => ⟨fun q4 => ?_, fun q4 => ?_⟩, fun q3 => ?_⟩)))))
  · obtain ⟨j, hj, rfl⟩ := okN_t (by omega) q
    obtain ⟨m', hm, rfl⟩ := nI_of (Int32.not_lt.mpr q4)
    have hm24 := (n_le hm (by omega)).mp q3
    have hc : IA (90 + 1 + j) 24 := by
      have := ra_90.row (i := nI j) ((vin (by omega)).mpr hj)
      rw [ix_n (by omega)] at this; exact this
    refine T_X4_renew ⟨by rw [vin (by omega)]; exact hj, ?_⟩
    rw [ix_n (by omega)]
    refine s_fill hc (by omega) (fun M1 h1 f1 => ?_)
    have O' : IO h s t n tp (up_ x.1 j l, up_ x.2.1 j m', up_ x.2.2 j (fun _ => nI 0)) kx := by
      obtain ⟨o1, o2, o3, o4, o5, o6⟩ := O
      refine ⟨o1, o2, o3, o4, fun s' hs' => ?_, o6⟩
      by_cases e : s' = j
      · subst e
        show ((up_ x.1 s' l s' = -1 ∨ up_ x.1 s' l s' = nI 0 ∨ up_ x.1 s' l s' = nI 1 ∨ up_ x.1 s' l s' = nI 2) ∧ up_ x.2.1 s' m' s' ≤ 24)
        rw [up_eq, up_eq]
        exact ⟨Or.inr (lane_t q2), hm24⟩
      · show ((up_ x.1 j l s' = -1 ∨ up_ x.1 j l s' = nI 0 ∨ up_ x.1 j l s' = nI 1 ∨ up_ x.1 j l s' = nI 2) ∧ up_ x.2.1 j m' s' ≤ 24)
        rw [up_ne _ _ e, up_ne _ _ e]
        exact o5 s' hs'
    have I1 : IC M1 h s t n tp (up_ x.1 j l, up_ x.2.1 j m', up_ x.2.2 j (fun _ => nI 0)) kx := by
      refine I.sheet O (fun s' hs' => ?_) (fun c k w => by rw [f1 c k (by omega), wr_nc _ _ _ _ (by omega), wr_nc _ _ _ _ (by omega)])
      obtain ⟨g1, g2, g3⟩ := I.2.2.2.2.2.1 s' hs'
      by_cases e : s' = j
      · subst e
        show M1 88 s' = up_ x.1 s' l s' ∧ M1 89 s' = nI (up_ x.2.1 s' m' s') ∧ ∀ i, i < 24 → M1 (91 + s') i = up_ x.2.2 s' (fun _ => nI 0) s' i
        rw [up_eq, up_eq, up_eq]
        exact ⟨by rw [f1 _ _ (by omega), wr_nc _ _ _ _ (by omega), wr_eq], by rw [f1 _ _ (by omega), wr_eq], fun i hi => h1 i hi⟩
      · show M1 88 s' = up_ x.1 j l s' ∧ M1 89 s' = nI (up_ x.2.1 j m' s') ∧ ∀ i, i < 24 → M1 (91 + s') i = up_ x.2.2 j (fun _ => nI 0) s' i
        rw [up_ne _ _ e, up_ne _ _ e, up_ne _ _ e]
        exact ⟨by rw [f1 _ _ (by omega), wr_nc _ _ _ _ (by omega), wr_nk _ _ _ _ e]; exact g1, by rw [f1 _ _ (by omega), wr_nk _ _ _ _ e, wr_nc _ _ _ _ (by omega)]; exact g2, fun i hi => by rw [f1 _ _ (by omega), wr_nc _ _ _ _ (by omega), wr_nc _ _ _ _ (by omega)]; exact g3 i hi⟩
    have J1 : IM M1 h s t n tp x kx := J.far (fun c k hc => by rw [f1 c k (by omega), wr_nc _ _ _ _ (by omega), wr_nc _ _ _ _ (by omega)])
    refine mst M1 (fun w => absurd (q.symm.trans w) (by decide)) (fun _ w => absurd (q2.symm.trans w) (by decide)) (fun _ _ => ⟨fun _ => ⟨fun _ => ⟨by rw [vin (by omega)]; exact hj, ?_⟩, fun w => absurd q4 w⟩, fun w => absurd q3 w⟩)
    rw [ix_n (by omega)]
    have key : ∀ n2 i (N : Mem), i + n2 = 24 → (∀ c k, ¬ (206 ≤ c ∧ c ≤ 208) → N c k = M1 c k) → (∀ s', s' < 4 → N 206 s' = up_ x.1 j l s' ∧ N 207 s' = nI (up_ x.2.1 j m' s')) → (∀ s', s' < 4 → s' ≠ j → ∀ y, y < 24 → N 208 (24 * s' + y) = x.2.2 s' y) → (∀ y, y < i → N 208 (24 * j + y) = nI 0) → P_X10_sheet_46 N (nI j) (nI m') (nI i) (fun r' M2 => nI m' = r' ∧ Cpl M2) := by
      intro n2
      induction n2 with
      | zero =>
        intro i N hi hf hl hit hz
        refine T_X10_sheet_46 ?_
        rw [n_le (by omega) (by omega)]
        refine ⟨fun _ => ⟨rfl, _, _, _, _, _, _, _, I1.far O' (fun c k hc => hf c k (by omega)), J1.sheet (fun s' hs' => ⟨(hl s' hs').1, (hl s' hs').2, fun y hy => ?_⟩) (fun c k w => hf c k (by omega)), O'⟩, fun w => by omega⟩
        by_cases e : s' = j
        · subst e
          show N 208 (24 * s' + y) = up_ x.2.2 s' (fun _ => nI 0) s' y
          rw [up_eq]; exact hz y (by omega)
        · show N 208 (24 * s' + y) = up_ x.2.2 j (fun _ => nI 0) s' y
          rw [up_ne _ _ e]; exact hit s' hs' e y hy
      | succ n2 ih =>
        intro i N hi hf hl hit hz
        refine T_X10_sheet_46 ?_
        simp (disch := omega) only [n_le, nF_le, n_mul, n_add, vin, ix_n, nT_lt, false_imp_iff, true_and, not_false_eq_true, true_imp_iff]
        refine ih (i + 1) _ (by omega) (fun c k w => by rw [wr_nc _ _ _ _ (by omega)]; exact hf c k w) (fun s' hs' => by rw [wr_nc _ _ _ _ (by omega), wr_nc _ _ _ _ (by omega)]; exact hl s' hs') (fun s' hs' e y hy => by rw [wr_nk _ _ _ _ (by omega)]; exact hit s' hs' e y hy) (fun y hy => ?_)
        by_cases e : y = i
        · subst e; exact wr_eq _ _ _ _
        · rw [wr_nk _ _ _ _ (by omega)]; exact hz y (by omega)
    refine key 24 0 _ rfl (fun c k w => by rw [wr_nc _ _ _ _ (by omega), wr_nc _ _ _ _ (by omega)]) (fun s' hs' => ?_) (fun s' hs' e y hy => by rw [wr_nc _ _ _ _ (by omega), wr_nc _ _ _ _ (by omega)]; exact (J1.2.2.2.2.1 s' hs').2.2 y hy) (fun y hy => by omega)
    obtain ⟨g1, g2, g3⟩ := J1.2.2.2.2.1 s' hs'
    by_cases e : s' = j
    · subst e
      rw [up_eq, up_eq]
      exact ⟨by rw [wr_nc _ _ _ _ (by omega), wr_eq], wr_eq _ _ _ _⟩
    · rw [up_ne _ _ e, up_ne _ _ e]
      exact ⟨by rw [wr_nc _ _ _ _ (by omega), wr_nk _ _ _ _ e]; exact g1, by rw [wr_nk _ _ _ _ e, wr_nc _ _ _ _ (by omega)]; exact g2⟩
  · exact mst M (fun w => absurd (q.symm.trans w) (by decide)) (fun _ w => absurd (q2.symm.trans w) (by decide)) (fun _ _ => ⟨fun _ => ⟨fun w => absurd w q4, fun _ => ⟨rfl, same⟩⟩, fun w => absurd q3 w⟩)
  · exact mst M (fun w => absurd (q.symm.trans w) (by decide)) (fun _ w => absurd (q2.symm.trans w) (by decide)) (fun _ _ => ⟨fun w => absurd w q3, fun _ => ⟨rfl, same⟩⟩)
theorem b_empty {M : Mem} (C : Cpl M) (a : Int32) : C_X9_empty M a (fun r M1 => C_X10_empty M1 a (fun r' M2 => r = r' ∧ Cpl M2)) := by
  obtain ⟨h, s, t, n, tp, x, kx, I, J, O⟩ := C
  have same : Cpl M := ⟨h, s, t, n, tp, x, kx, I, J, O⟩
  have mst : ∀ (N : Mem) {A : Int32 → Mem → Prop}, (okN a 4 = false → A (-1) N) → (okN a 4 = true → (vp_in a 4 ∧ (((0 ≤ (N 206 (ix a))) → (A (N 207 (ix a)) (wr N 206 (ix a) (-1)))) ∧ ((¬ 0 ≤ (N 206 (ix a))) → (A (-11) N))))) → C_X10_empty N a A := fun N {A} k1 k2 => T_X10_empty (m_isSheet (br' (fun q => k1 q) (fun q => k2 q)))
  refine T_X9_empty (s_isSheet (br' (fun q => mst M (fun _ => ⟨rfl, same⟩) (fun w => absurd (q.symm.trans w) (by decide))) (fun q => ?_)))
  obtain ⟨j, hj, rfl⟩ := okN_t (by omega) q
  obtain ⟨g1, g2, g3⟩ := I.2.2.2.2.2.1 j hj
  obtain ⟨v1, v2, v3⟩ := J.2.2.2.2.1 j hj
  refine s_isNothing I.2.2.2.2.2.1 hj (br (fun q2 => ⟨by rw [vin (by omega)]; exact hj, T_X4_makeNothing ⟨by rw [vin (by omega)]; exact hj, ?_⟩⟩) (fun q2 => ?_))
  · rw [decide_eq_false_iff_not] at q2
    rw [ix_n (by omega), g2]
    have O' : IO h s t n tp (up_ x.1 j (-1), x.2) kx := by
      obtain ⟨o1, o2, o3, o4, o5, o6⟩ := O
      refine ⟨o1, o2, o3, o4, fun s' hs' => ?_, o6⟩
      by_cases e : s' = j
      · subst e
        exact ⟨Or.inl (up_eq _ _ _), (o5 s' hs').2⟩
      · show ((up_ x.1 j (-1) s' = -1 ∨ up_ x.1 j (-1) s' = nI 0 ∨ up_ x.1 j (-1) s' = nI 1 ∨ up_ x.1 j (-1) s' = nI 2) ∧ x.2.1 s' ≤ 24)
        rw [up_ne _ _ e]
        exact o5 s' hs'
    have I1 : IC (wr M 88 j (-1)) h s t n tp (up_ x.1 j (-1), x.2) kx := by
      refine I.sheet O (fun s' hs' => ?_) (fun c k w => by rw [wr_nc _ _ _ _ (by omega)])
      obtain ⟨y1, y2, y3⟩ := I.2.2.2.2.2.1 s' hs'
      refine ⟨?_, by rw [wr_nc _ _ _ _ (by omega)]; exact y2, fun i hi => by rw [wr_nc _ _ _ _ (by omega)]; exact y3 i hi⟩
      show _ = up_ x.1 j (-1) s'
      by_cases e : s' = j
      · subst e; rw [wr_eq, up_eq]
      · rw [wr_nk _ _ _ _ e, up_ne _ _ e]; exact y1
    have J1 : IM (wr M 88 j (-1)) h s t n tp x kx := J.far (fun c k hc => wr_nc _ _ _ _ (by omega))
    refine mst _ (fun w => absurd (q.symm.trans w) (by decide)) (fun _ => ⟨by rw [vin (by omega)]; exact hj, ?_⟩)
    rw [ix_n (by omega), wr_nc _ _ _ _ (by omega), wr_nc _ _ _ _ (by omega), v1, v2, ln_neg O.2.2.2.2.1 hj]
    refine ⟨fun _ => ⟨rfl, _, _, _, _, _, _, _, I1.far O' (fun c k hc => wr_nc _ _ _ _ (by omega)), J1.sheet (fun s' hs' => ?_) (fun c k w => wr_nc _ _ _ _ (by omega)), O'⟩, fun w => absurd q2 w⟩
    obtain ⟨y1, y2, y3⟩ := J1.2.2.2.2.1 s' hs'
    refine ⟨?_, by rw [wr_nc _ _ _ _ (by omega)]; exact y2, fun i hi => by rw [wr_nc _ _ _ _ (by omega)]; exact y3 i hi⟩
    show _ = up_ x.1 j (-1) s'
    by_cases e : s' = j
    · subst e; rw [wr_eq, up_eq]
    · rw [wr_nk _ _ _ _ e, up_ne _ _ e]; exact y1
  · rw [decide_eq_true_eq] at q2
    refine mst M (fun w => absurd (q.symm.trans w) (by decide)) (fun _ => ⟨by rw [vin (by omega)]; exact hj, ?_⟩)
    rw [ix_n (by omega), v1, ln_neg O.2.2.2.2.1 hj]
    exact ⟨fun w => absurd q2 w, fun _ => ⟨rfl, same⟩⟩
theorem hdB_1 {z : Nat} {i : Int32} (h : hdB z i (nI 1) = true) : ∃ y, y < z ∧ i = nI y := by
  unfold hdB at h
  rw [decide_eq_true_eq, nI_toInt (by omega)] at h
  obtain ⟨y, hy, rfl⟩ := nI_of (x := i) (by rw [Int32.not_lt, Int32.le_iff_toInt_le, Int32.toInt_zero]; exact h.1)
  rw [nI_toInt hy] at h
  exact ⟨y, by omega, rfl⟩
theorem b_item {M : Mem} (C : Cpl M) (a l i v : Int32) : C_X9_item M a l i v (fun r M1 => C_X10_item M1 a l i v (fun r' M2 => r = r' ∧ Cpl M2)) := by
  obtain ⟨h, s, t, n, tp, x, kx, I, J, O⟩ := C
  have same : Cpl M := ⟨h, s, t, n, tp, x, kx, I, J, O⟩
  have OW := O.2.2.2.2.1
  have mst : ∀ (N : Mem) {A : Int32 → Mem → Prop}, (okN a 4 = false → A (-1) N) → (okN a 4 = true → okN l 3 = false → A (-1) N) → (okN a 4 = true → okN l 3 = true → C_X10_finds N a l i (nI 1) (fun r4 M4 => ((0 ≤ r4) → (((¬ l = 0) → (((¬ l = (nI 1)) → (vp_in (((nI 24) * a) + i) 96 ∧ (A (nI 1) (wr M4 208 (ix (((nI 24) * a) + i)) v)))) ∧ ((l = (nI 1)) → (vp_in (((nI 24) * a) + i) 96 ∧ (A (nI 1) (wr M4 208 (ix (((nI 24) * a) + i)) (v.toInt16.toInt32))))))) ∧ ((l = 0) → (vp_in (((nI 24) * a) + i) 96 ∧ (A (nI 1) (wr M4 208 (ix (((nI 24) * a) + i)) (v.toInt8.toInt32))))))) ∧ ((¬ 0 ≤ r4) → (A r4 M4)))) → C_X10_item N a l i v A := fun N {A} k1 k2 k3 => T_X10_item (m_isSheet (br (fun q => k1 q) (fun q => m_isLane (br' (fun q2 => k2 q q2) (fun q2 => k3 q q2)))))
  refine T_X9_item (s_isSheet (br (fun q => mst M (fun _ => ⟨rfl, same⟩) (fun w => absurd (q.symm.trans w) (by decide)) (fun w => absurd (q.symm.trans w) (by decide))) (fun q => s_isLane (br' (fun q2 => mst M (fun w => absurd (q.symm.trans w) (by decide)) (fun _ _ => ⟨rfl, same⟩) (fun _ w => absurd (q2.symm.trans w) (by decide))) (fun q2 => ?_)))))
  obtain ⟨j, hj, rfl⟩ := okN_t (by omega) q
  have one0 : (0 : Int) ≤ (nI 1).toInt := by rw [nI_toInt (by omega)]; omega
  have neg : ∀ z : Int32, z < 0 → ¬ 0 ≤ z := fun z hz w => by
    rw [Int32.lt_iff_toInt_lt] at hz
    rw [Int32.le_iff_toInt_le] at w
    omega
  have fst : ∀ (N : Mem), IM N h s t n tp x kx → ∀ {A : Int32 → Mem → Prop}, (x.1 j = -1 → A (-11) N) → (¬ x.1 j = -1 → ¬ x.1 j = l → A (-12) N) → (¬ x.1 j = -1 → x.1 j = l → hdB (x.2.1 j) i (nI 1) = false → A (-13) N) → (¬ x.1 j = -1 → x.1 j = l → hdB (x.2.1 j) i (nI 1) = true → (((¬ l = 0) → (((¬ l = (nI 1)) → (vp_in (((nI 24) * nI j) + i) 96 ∧ (A (nI 1) (wr N 208 (ix (((nI 24) * nI j) + i)) v)))) ∧ ((l = (nI 1)) → (vp_in (((nI 24) * nI j) + i) 96 ∧ (A (nI 1) (wr N 208 (ix (((nI 24) * nI j) + i)) (v.toInt16.toInt32))))))) ∧ ((l = 0) → (vp_in (((nI 24) * nI j) + i) 96 ∧ (A (nI 1) (wr N 208 (ix (((nI 24) * nI j) + i)) (v.toInt8.toInt32))))))) → C_X10_item N (nI j) l i v A := by
    intro N JN A k1 k2 k3 k4
    refine mst N (fun w => absurd (q.symm.trans w) (by decide)) (fun _ w => absurd (q2.symm.trans w) (by decide)) (fun _ _ => ?_)
    exact m_finds JN.2.2.2.2.1 OW hj one0 (fun w => ⟨fun w2 => absurd w2 (by decide), fun _ => k1 w⟩) (fun w w1 => ⟨fun w2 => absurd w2 (by decide), fun _ => k2 w w1⟩) (fun w w1 w3 => ⟨fun w2 => absurd w2 (by decide), fun _ => k3 w w1 w3⟩) (fun w w1 w3 => ⟨fun _ => k4 w w1 w3, fun w2 => absurd (by decide) w2⟩)
  have g1 := (I.2.2.2.2.2.1 j hj).1
  refine s_isNothing I.2.2.2.2.2.1 hj (br (fun q3 => ⟨by rw [vin (by omega)]; exact hj, ?_⟩) (fun q3 => fst M J (fun _ => ⟨rfl, same⟩) (fun w => absurd (of_decide_eq_true q3) w) (fun w => absurd (of_decide_eq_true q3) w) (fun w => absurd (of_decide_eq_true q3) w)))
  have q3 := of_decide_eq_false q3
  rw [ix_n (by omega), g1]
  refine ⟨fun q4 => s_holds I.2.2.2.2.2.1 OW hj (br' (fun q5 => fst M J (fun w => absurd w q3) (fun _ w => absurd q4 w) (fun _ _ _ => ⟨rfl, same⟩) (fun _ _ w => absurd (q5.symm.trans w) (by decide))) (fun q5 => ?_)), fun q4 => fst M J (fun w => absurd w q3) (fun _ _ => ⟨rfl, same⟩) (fun _ w => absurd w q4) (fun _ w => absurd w q4)⟩
  obtain ⟨y, hy, rfl⟩ := hdB_1 q5
  have hz := (OW j hj).2
  obtain ⟨cv, hcv⟩ : ∃ cv : Int32, cv = if l = nI 0 then v.toInt8.toInt32 else if l = nI 1 then v.toInt16.toInt32 else v := ⟨_, rfl⟩
  have O' : IO h s t n tp (x.1, x.2.1, up_ x.2.2 j (up_ (x.2.2 j) y cv)) kx := O
  have I1 : IC (wr M (91 + j) y cv) h s t n tp (x.1, x.2.1, up_ x.2.2 j (up_ (x.2.2 j) y cv)) kx := by
    refine I.sheet O (fun s' hs' => ?_) (fun c k w => by rw [wr_nc _ _ _ _ (by omega)])
    obtain ⟨y1, y2, y3⟩ := I.2.2.2.2.2.1 s' hs'
    refine ⟨by rw [wr_nc _ _ _ _ (by omega)]; exact y1, by rw [wr_nc _ _ _ _ (by omega)]; exact y2, fun i hi => ?_⟩
    show _ = up_ x.2.2 j (up_ (x.2.2 j) y cv) s' i
    by_cases e : s' = j
    · subst e
      rw [up_eq]
      by_cases e2 : i = y
      · subst e2; rw [wr_eq, up_eq]
      · rw [wr_nk _ _ _ _ e2, up_ne _ _ e2]; exact y3 i hi
    · rw [wr_nc _ _ _ _ (by omega), up_ne _ _ e]; exact y3 i hi
  have J1 : IM (wr M (91 + j) y cv) h s t n tp x kx := J.far (fun c k hc => wr_nc _ _ _ _ (by omega))
  have fin : ∀ cv', cv' = cv → (nI 1 = nI 1 ∧ Cpl (wr (wr M (91 + j) y cv) 208 (24 * j + y) cv')) := by
    intro cv' hcv'
    rw [hcv']
    refine ⟨rfl, _, _, _, _, _, _, _, I1.far O' (fun c k hc => wr_nc _ _ _ _ (by omega)), J1.sheet (fun s' hs' => ?_) (fun c k w => wr_nc _ _ _ _ (by omega)), O'⟩
    obtain ⟨y1, y2, y3⟩ := J1.2.2.2.2.1 s' hs'
    refine ⟨by rw [wr_nc _ _ _ _ (by omega)]; exact y1, by rw [wr_nc _ _ _ _ (by omega)]; exact y2, fun i hi => ?_⟩
    show _ = up_ x.2.2 j (up_ (x.2.2 j) y cv) s' i
    by_cases e : s' = j
    · subst e
      rw [up_eq]
      by_cases e2 : i = y
      · subst e2; rw [wr_eq, up_eq]
      · rw [wr_nk _ _ _ _ (by omega), up_ne _ _ e2]; exact y3 i hi
    · rw [wr_nk _ _ _ _ (by omega), up_ne _ _ e]; exact y3 i hi
  have mfin : C_X10_item (wr M (91 + j) y cv) (nI j) l (nI y) v (fun r' M2 => nI 1 = r' ∧ Cpl M2) := by
    refine fst _ J1 (fun w => absurd w q3) (fun _ w => absurd q4 w) (fun _ _ w => absurd (q5.symm.trans w) (by decide)) (fun _ _ _ => ?_)
    simp (disch := omega) only [n_mul, n_add, vin, ix_n]
    refine ⟨fun w0 => ⟨fun w1 => ⟨by omega, trivial, (fin _ ?_).2⟩, fun w1 => ⟨by omega, trivial, (fin _ ?_).2⟩⟩, fun w0 => ⟨by omega, trivial, (fin _ ?_).2⟩⟩
    · rw [hcv, if_neg (fun w => w0 (w.trans nI_0)), if_neg w1]
    · rw [hcv, if_neg (fun w => w0 (w.trans nI_0)), if_pos w1]
    · rw [hcv, if_pos (w0.trans nI_0.symm)]
  refine T_X4_put ⟨by rw [vin (by omega)]; exact hj, ?_⟩
  rw [ix_n (by omega), g1, q4, vin (by omega), ix_n (by omega), show 90 + 1 + j = 91 + j by omega]
  refine ⟨fun w => ⟨by omega, ?_⟩, fun w => ⟨by omega, ?_⟩, fun w0 w1 => ⟨by omega, ?_⟩⟩
  · have e : v.toInt8.toInt32 = cv := by rw [hcv, if_pos w]
    rw [e]; exact mfin
  · have e : v.toInt16.toInt32 = cv := by
      rw [hcv, if_neg (fun w2 => by rw [w] at w2; exact absurd w2 (by decide)), if_pos w]
    rw [e]; exact mfin
  · have e : v = cv := by rw [hcv, if_neg w0, if_neg w1]
    rw [show wr M (91 + j) y v = wr M (91 + j) y cv from by rw [← e]]; exact mfin
