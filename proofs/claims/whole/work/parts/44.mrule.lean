/-! ===== the reference's THE RULE ===== -/
def own (d : Nat) : Nat := if d = 24 then 100 else d
theorem m_size {M : Mem} {Q : Int32 → Mem → Prop} {b : Nat} (hb : b < 32) (k : Q (nI (cntN (tb_ b) 5)) M) : C_X10_size M (nI b) Q := by
  have dec : ∀ b, b < 32 → 0 < b → nI b &&& (nI b - nI 1) = nI (b &&& (b - 1)) ∧ (b &&& (b - 1)) < b ∧ cntN (tb_ b) 5 = 1 + cntN (tb_ (b &&& (b - 1))) 5 := by decide +kernel
  have d0 : cntN (tb_ 0) 5 = 0 := by decide +kernel
  have key : ∀ f b n, b < f → b < 32 → (Q (nI (n + cntN (tb_ b) 5)) M) → P_X10_size_4 M (nI n) (nI b) Q := by
    intro f
    induction f with
    | zero => intro b n h; omega
    | succ f ih =>
      intro b n h1 h2 kk
      refine T_X10_size_4 ?_
      rw [n_eq0 (by omega)]
      refine ⟨fun q => ?_, fun q => ?_⟩
      · subst q; rw [d0] at kk; exact kk
      · obtain ⟨e1, e2, e3⟩ := dec b h2 (by omega)
        rw [e1, n_add]
        refine ih _ (n + 1) (by omega) (by omega) ?_
        rw [e3] at kk
        rw [show n + 1 + cntN (tb_ (b &&& (b - 1))) 5 = n + (1 + cntN (tb_ (b &&& (b - 1))) 5) by omega]
        exact kk
  refine T_X10_size (key 32 b 0 hb hb ?_)
  rw [Nat.zero_add]
  exact k
theorem m_bestDone {h : HS} {s : SS} (O : HO h) (P : SO s h.1) {M0 : Mem} (H0 : HM M0 h) (S0 : SM M0 s) (L0 : LA M0 h) (hne : ∃ v, wel s v = true) {Q : Int32 → Mem → Prop}
    (K : ∀ M' by_ k, (∀ c k, ¬ mlay c k → M' c k = M0 c k) → LA M' h → BT h s (wel s) by_ k → (∀ e, e < s.2.1 → M' 198 e = nI (by_ e)) → (∀ i, i < s.2.1 → M' 199 i = nI (prm s.2.1 k i)) → (∀ e, e < s.2.1 → M' 194 e = edI (rnD h s by_ (prm s.2.1 k) s.2.1 e) ∧ M' 195 e = tkI s e (rnT h s by_ (prm s.2.1 k) s.2.1 e)) → Q (nI (Cc h s by_ k)) M') : C_X10_bestDone M0 Q := by
  have hE : s.2.1 < 6 := by have := P.2.1; omega
  refine T_X10_bestDone (m_well P S0 (m_best O P H0 S0 L0 (fun v hv => (wel_t hv).1) hne (fun M1 by_ k f1 z1 T1 B1 w1 w2 => ?_)))
  have key : ∀ n i (M : Mem), i + n = 5 → (∀ c j, c ≠ 198 → c ≠ 199 → M c j = M1 c j) → (∀ j, j < i → M 198 j = M1 196 j ∧ M 199 j = M1 197 j) → P_X10_bestDone_11 M (nI (Cc h s by_ k)) (nI i) Q := by
    intro n
    induction n with
    | zero =>
      intro i M hi hf hw
      refine T_X10_bestDone_11 ?_
      simp (disch := omega) only [n_lt, n_le, n_eq, n_lt0, n_le0, n_ge0, n_gt0, n_eq0, n_add, n_mul, n_sub, n_m1, ix_n, vin, bI_0, bI_1, nT_le, nF_le, nT_lt, nF_lt, nT_eq, nF_eq, mk_test, true_imp_iff, false_imp_iff, not_true_eq_false, not_false_eq_true, true_and, and_true, tf_, ft_, eq_self, true_or, or_true, false_or, or_false, ]
      have S1 : SM M s := S0.congr (fun c j q => by rw [hf c j (by omega) (by omega)]; exact f1 c j (by unfold mlay; omega))
      refine m_sumOf (by_ := by_) (o := prm s.2.1 k) O P S1 (T1.congr (fun j => hf _ _ (by omega) (by omega))) (fun j hj => by rw [(hw j (by omega)).2]; exact w2 j hj) (prm_a _ hE k B1.2.1).2.1 (fun e he => by rw [(hw e (by omega)).1]; exact w1 e he) (fun e he => (wel_t (B1.1 e he)).1) (fun M2 f2 g2 => ?_)
      refine K M2 by_ k (fun c j q => ?_) (Or.inr ⟨?_, T1.congr (fun j => ?_)⟩) B1 (fun e he => ?_) (fun j hj => ?_) (fun e he => g2 e ?_)
      · unfold mlay at q
        rw [f2 c j (by unfold mscr; omega), hf c j (by omega) (by omega)]
        exact f1 c j (by unfold mlay; omega)
      · rw [f2 _ _ (by unfold mscr; omega), hf _ _ (by omega) (by omega)]; exact z1
      · rw [f2 _ _ (by unfold mscr; omega), hf _ _ (by omega) (by omega)]
      · rw [f2 _ _ (by unfold mscr; omega), (hw e (by omega)).1]; exact w1 e he
      · rw [f2 _ _ (by unfold mscr; omega), (hw j (by omega)).2]; exact w2 j hj
      · obtain ⟨j, hj, h6⟩ := anyN_iff.mp (prm_s _ hE k B1.2.1 e he)
        exact ⟨j, hj, by simpa using h6⟩
    | succ n ih =>
      intro i M hi hf hw
      refine T_X10_bestDone_11 ?_
      simp (disch := omega) only [n_lt, n_le, n_eq, n_lt0, n_le0, n_ge0, n_gt0, n_eq0, n_add, n_mul, n_sub, n_m1, ix_n, vin, bI_0, bI_1, nT_le, nF_le, nT_lt, nF_lt, nT_eq, nF_eq, mk_test, true_imp_iff, false_imp_iff, not_true_eq_false, not_false_eq_true, true_and, and_true, tf_, ft_, eq_self, true_or, or_true, false_or, or_false, ]
      refine ih (i + 1) _ (by omega) (fun c j q1 q2 => by rw [wr_nc _ _ _ _ q2, wr_nc _ _ _ _ q1]; exact hf c j q1 q2) (fun j hj => ?_)
      by_cases e : j = i
      · subst e
        exact ⟨by rw [wr_nc _ _ _ _ (by omega), wr_eq]; exact hf _ _ (by omega) (by omega), by rw [wr_eq]; exact hf _ _ (by omega) (by omega)⟩
      · exact ⟨by rw [wr_nc _ _ _ _ (by omega), wr_nk _ _ _ _ e]; exact (hw j (by omega)).1, by rw [wr_nk _ _ _ _ e, wr_nc _ _ _ _ (by omega)]; exact (hw j (by omega)).2⟩
  exact key 5 0 M1 rfl (fun _ _ _ _ => rfl) (fun j hj => by omega)
theorem m_ruled {h : HS} {s : SS} (O : HO h) (P : SO s h.1) {M0 : Mem} (H0 : HM M0 h) (S0 : SM M0 s) (L0 : LA M0 h) (hne : ∃ v, wel s v = true) {Q : Int32 → Mem → Prop}
    (K : ∀ M' by_ ro, (∀ c k, ¬ mlay c k → M' c k = M0 c k) → LA M' h → RU h s by_ ro → (∀ e, e < s.2.1 → M' 198 e = nI (by_ e)) → (∀ i, i < s.2.1 → M' 199 i = nI (ro i)) → Q (nI (cst h s by_ ro s.2.1)) M') : C_X10_ruled M0 Q := by
  have hS := P.1
  have hE := P.2.1
  have hE6 : s.2.1 < 6 := by omega
  refine T_X10_ruled (m_lays O H0 L0 (fun M1 f1 z1 T1 => ?_))
  have S1 : SM M1 s := S0.congr (fun c k q => f1 c k (by omega))
  have good : ∀ M : Mem, (∀ c k, ¬ ((c = 182 ∧ k = 23) ∨ (192 ≤ c ∧ c ≤ 199)) → M c k = M1 c k) → SM M s ∧ LT M h := fun M f => ⟨S1.congr (fun c k q => by rw [f c k (by omega)]), T1.congr (fun k => f _ k (by omega))⟩
  have k14 : ∀ n i (M : Mem) (o by_ : Nat → Nat), i + n = s.2.1 → (∀ c k, ¬ ((c = 182 ∧ k = 23) ∨ (192 ≤ c ∧ c ≤ 199)) → M c k = M1 c k) → (∀ j, j < i → o j < s.2.1 ∧ M 199 j = nI (o j) ∧ M 198 (o j) = nI (by_ (o j)) ∧ WH h s (pos h s by_ o j) (o j) (by_ (o j))) → (∀ a b, a < b → b < i → ahd s (o a) (o b) = true) → (∀ j e, j < i → e < s.2.1 → (∀ j', j' < i → o j' ≠ e) → ahd s (o j) e = true) → PQ M h s by_ o i →
      P_X10_ruled_14 M (mk (fun x => anyN (fun j => decide (o j = x)) i)) (nI (cst h s by_ o i)) (nI i) Q := by
    intro n
    induction n with
    | zero =>
      intro i M o by_ hi hf hw hs hm hp
      obtain ⟨S2, L2⟩ := good M hf
      have : i = s.2.1 := by omega
      subst this
      refine T_X10_ruled_14 ?_
      simp (disch := omega) only [n_lt, n_le, n_eq, n_lt0, n_le0, n_ge0, n_gt0, n_eq0, n_add, n_mul, n_sub, n_m1, ix_n, vin, bI_0, bI_1, nT_le, nF_le, nT_lt, nF_lt, nT_eq, nF_eq, mk_test, true_imp_iff, false_imp_iff, not_true_eq_false, not_false_eq_true, true_and, and_true, tf_, ft_, eq_self, true_or, or_true, false_or, or_false, S2.2.1]
      have U : RU h s by_ o := ⟨fun j hj => (hw j hj).1, fun a b hab hb => hs a b hab hb, fun j hj => (hw j hj).2.2.2⟩
      refine K M by_ o (fun c k q => ?_) (Or.inr ⟨by rw [hf _ _ (by omega)]; exact z1, L2⟩) U (fun e he => ?_) (fun j hj => (hw j hj).2.1)
      · unfold mlay at q
        rw [hf c k (by omega)]; exact f1 c k (by omega)
      · obtain ⟨j, hj, rfl⟩ := RU_surj hE6 U he
        exact (hw j hj).2.2.1
    | succ n ih =>
      intro i M o by_ hi hf hw hs hm hp
      obtain ⟨S2, L2⟩ := good M hf
      have bits : ∀ x, anyN (fun j => decide (o j = x)) i = false ↔ ∀ j, j < i → o j ≠ x := by
        intro x
        rw [anyN_f]
        simp
      -- who does it
      have k174 : ∀ n2 v x (M2 : Mem), v + n2 = s.1 → x < s.2.1 → (∀ j, j < i → o j ≠ x) → (∀ e, e < s.2.1 → e ≠ x → (∀ j, j < i → o j ≠ e) → ahd s x e = true) → (∀ c k, ¬ (c = 182 ∧ k = 23) → M2 c k = M c k) → ∀ (w sn : Int32), ((w = -4 ∧ sn = nI 1000 ∧ ∀ u, u < v → wel s u = false) ∨ ∃ u, u < v ∧ w = nI u ∧ sn = nI (own (dn h s x (pos h s by_ o i u).1 (pos h s by_ o i u).2)) ∧ wel s u = true ∧ (∀ y, y < v → wel s y = true → dn h s x (pos h s by_ o i u).1 (pos h s by_ o i u).2 ≤ dn h s x (pos h s by_ o i y).1 (pos h s by_ o i y).2) ∧ ∀ y, y < u → wel s y = true → dn h s x (pos h s by_ o i u).1 (pos h s by_ o i u).2 < dn h s x (pos h s by_ o i y).1 (pos h s by_ o i y).2) →
          P_X10_ruled_174 M2 (mk (fun y => anyN (fun j => decide (o j = y)) i) ||| (nI 1 <<< (nI x &&& 31))) (nI (cst h s by_ o i)) (nI i) (nI x) w sn (nI v) Q := by
        intro n2
        induction n2 with
        | zero =>
          intro v x M2 hv hx hxn hxm hf2 w sn hws
          have f2' : ∀ c k, ¬ ((c = 182 ∧ k = 23) ∨ (192 ≤ c ∧ c ≤ 199)) → M2 c k = M1 c k := fun c k q => by rw [hf2 c k (by omega)]; exact hf c k q
          obtain ⟨S3, L3⟩ := good M2 f2'
          have : v = s.1 := by omega
          subst this
          rcases hws with ⟨_, _, h3⟩ | ⟨u, hu, rfl, rfl, h4, h5, h6⟩
          · obtain ⟨u, hu⟩ := hne
            rw [h3 u (wel_t hu).1] at hu; cases hu
          · have W : WH h s (pos h s by_ o i) x u := ⟨h4, fun y hy => h5 y (wel_t hy).1 hy, h6⟩
            have hpos := pos_ok (h := h) P (by_ := by_) (ord := o) i (fun j hj => (hw j hj).1) u hu
            have hdn := dn_le P (h := h) (r := (pos h s by_ o i u).1) hx hpos.2
            refine T_X10_ruled_174 ?_
            simp (disch := omega) only [n_lt, n_le, n_eq, n_lt0, n_le0, n_ge0, n_gt0, n_eq0, n_add, n_mul, n_sub, n_m1, ix_n, vin, bI_0, bI_1, nT_le, nF_le, nT_lt, nF_lt, nT_eq, nF_eq, mk_test, true_imp_iff, false_imp_iff, not_true_eq_false, not_false_eq_true, true_and, and_true, tf_, ft_, eq_self, true_or, or_true, false_or, or_false, S3.1, mk_one, mk_or]
            have f4 : ∀ c k, ¬ ((c = 182 ∧ k = 23) ∨ (192 ≤ c ∧ c ≤ 199)) → (wr (wr M2 199 i (nI x)) 198 x (nI u)) c k = M1 c k := fun c k q => by rw [wr_nc _ _ _ _ (by omega), wr_nc _ _ _ _ (by omega)]; exact f2' c k q
            obtain ⟨S4, L4⟩ := good _ f4
            have hpu := hp u hu
            refine m_doIt O P S4 L4 hx hu hpos.1 hpos.2 (by rw [wr_nc _ _ _ _ (by omega), wr_nc _ _ _ _ (by omega), hf2 _ _ (by omega)]; exact hpu.1) (by rw [wr_nc _ _ _ _ (by omega), wr_nc _ _ _ _ (by omega), hf2 _ _ (by omega)]; exact hpu.2) (fun M5 f5 g1 g2 g3 g4 => ?_)
            have f5' : ∀ c k, ¬ ((c = 182 ∧ k = 23) ∨ (192 ≤ c ∧ c ≤ 199)) → M5 c k = M1 c k := fun c k q => by rw [f5 c k (by omega)]; exact f4 c k q
            refine m_costOf (h := h) P (good M5 f5').1 hx hdn g1 ?_
            obtain ⟨o', eo1, eo2⟩ : ∃ o' : Nat → Nat, o' i = x ∧ ∀ j, j ≠ i → o' j = o j := ⟨fun j => if j = i then x else o j, by simp, fun j hj => by simp [hj]⟩
            obtain ⟨g, eg1, eg2⟩ : ∃ g : Nat → Nat, g x = u ∧ ∀ e, e ≠ x → g e = by_ e := ⟨fun e => if e = x then u else by_ e, by simp, fun e he => by simp [he]⟩
            have ec : ∀ j, j < i → o j = o' j ∧ by_ (o j) = g (o j) := fun j hj => ⟨(eo2 j (by omega)).symm, (eg2 _ (hxn j hj)).symm⟩
            have z := ih (i + 1) M5 o' g (by omega) f5' (fun j hj => ?_) (fun a b hab hb => ?_) (fun j e hj he hne2 => ?_) (fun v hv => ?_)
            · rw [show (mk fun x_1 => anyN (fun j => decide (o' j = x_1)) (i + 1)) = (mk fun i_1 => anyN (fun j => decide (o j = i_1)) i || decide (i_1 = x)) from mk_ext (fun y _ => by
                simp only [anyN]
                rw [eo1, anyN_c (p := fun j => decide (o' j = y)) (q := fun j => decide (o j = y)) (fun j hj => by rw [eo2 j (by omega)])]
                congr 1
                rw [decide_eq_decide]; exact eq_comm)] at z
              rw [show cst h s g o' (i + 1) = cst h s by_ o i + wt s x (dn h s x (pos h s by_ o i u).1 (pos h s by_ o i u).2) from by
                show cst h s g o' i + wt s (o' i) (dk_ h s g o' i) = _
                rw [← cst_c ec, eo1]
                unfold dk_
                rw [eo1, eg1, ← pos_c ec u]] at z
              rw [n_add]
              exact z
            · by_cases q : j = i
              · subst q
                rw [eo1, eg1]
                refine ⟨hx, by rw [f5 _ _ (by omega), wr_nc _ _ _ _ (by omega), wr_eq], by rw [f5 _ _ (by omega), wr_eq], ?_⟩
                rw [← show pos h s by_ o j = pos h s g o' j from funext (fun v => pos_c ec v)]
                exact W
              · have hj' : j < i := by omega
                have hwj := hw j hj'
                have hne' := hxn j hj'
                rw [eo2 j q, eg2 _ hne']
                refine ⟨hwj.1, by rw [f5 _ _ (by omega), wr_nc _ _ _ _ (by omega), wr_nk _ _ _ _ q, hf2 _ _ (by omega)]; exact hwj.2.1, by rw [f5 _ _ (by omega), wr_nk _ _ _ _ hne', wr_nc _ _ _ _ (by omega), hf2 _ _ (by omega)]; exact hwj.2.2.1, ?_⟩
                rw [← show pos h s by_ o j = pos h s g o' j from funext (fun v => pos_c (fun j' hj2 => ec j' (by omega)) v)]
                exact hwj.2.2.2
            · by_cases q : b = i
              · subst q
                rw [eo1, eo2 a (by omega)]
                exact hm a x (by omega) hx hxn
              · rw [eo2 a (by omega), eo2 b q]
                exact hs a b hab (by omega)
            · have hne3 : ∀ j', j' < i → o j' ≠ e := fun j' hj' => by
                have := hne2 j' (by omega)
                rw [eo2 j' (by omega)] at this
                exact this
              by_cases q : j = i
              · subst q
                rw [eo1]
                refine hxm e he (fun q2 => ?_) hne3
                exact hne2 j (by omega) (by rw [eo1, q2])
              · rw [eo2 j q]
                exact hm j e (by omega) he hne3
            · simp only [pos]
              rw [← pos_c ec v, eo1, eg1]
              by_cases q : v = u
              · subst q; rw [if_pos rfl]; exact ⟨g3, g4⟩
              · rw [if_neg q, f5 _ _ (by omega), f5 _ _ (by omega), wr_nc _ _ _ _ (by omega), wr_nc _ _ _ _ (by omega), wr_nc _ _ _ _ (by omega), wr_nc _ _ _ _ (by omega), hf2 _ _ (by omega), hf2 _ _ (by omega)]
                exact hp v hv
        | succ n2 ih2 =>
          intro v x M2 hv hx hxn hxm hf2 w sn hws
          have f2' : ∀ c k, ¬ ((c = 182 ∧ k = 23) ∨ (192 ≤ c ∧ c ≤ 199)) → M2 c k = M1 c k := fun c k q => by rw [hf2 c k (by omega)]; exact hf c k q
          obtain ⟨S3, L3⟩ := good M2 f2'
          have eill := (S3.2.2.2.1 v (by omega)).2
          have hposv := pos_ok (h := h) P (by_ := by_) (ord := o) i (fun j hj => (hw j hj).1) v (by omega)
          have hdnv := dn_le P (h := h) (r := (pos h s by_ o i v).1) hx hposv.2
          have hpv := hp v (by omega)
          have ow : ∀ d, d ≤ 24 → own d ≤ 100 := fun d hd => by unfold own; split <;> omega
          have om : ∀ d d', d ≤ 24 → d' ≤ 24 → (own d ≤ own d' ↔ d ≤ d') := fun d d' h1 h2 => by unfold own; split <;> split <;> omega
          refine T_X10_ruled_174 ?_
          simp (disch := omega) only [n_lt, n_le, n_eq, n_lt0, n_le0, n_ge0, n_gt0, n_eq0, n_add, n_mul, n_sub, n_m1, ix_n, vin, bI_0, bI_1, nT_le, nF_le, nT_lt, nF_lt, nT_eq, nF_eq, mk_test, true_imp_iff, false_imp_iff, not_true_eq_false, not_false_eq_true, true_and, and_true, tf_, ft_, eq_self, true_or, or_true, false_or, or_false, S3.1, eill]
          refine ⟨fun q => ?_, fun q => ?_⟩
          · have hwv : wel s v = true := by
              unfold wel
              rw [Bool.not_eq_true] at q
              rw [q, decide_eq_true (by omega)]; rfl
            refine m_wouldBe O P S3 L3 hx (by omega) hposv.1 hposv.2 (by rw [hf2 _ _ (by omega)]; exact hpv.1) (by rw [hf2 _ _ (by omega)]; exact hpv.2) (fun M3 f3 _ => ?_)
            have f3' : ∀ c k, ¬ (c = 182 ∧ k = 23) → M3 c k = M c k := fun c k q => by rw [f3 c k q]; exact hf2 c k q
            have tail : P_X10_ruled_222 M3 (mk (fun y => anyN (fun j => decide (o j = y)) i) ||| (nI 1 <<< (nI x &&& 31))) (nI (cst h s by_ o i)) (nI i) (nI x) w sn (nI v) (nI (own (dn h s x (pos h s by_ o i v).1 (pos h s by_ o i v).2))) Q := by
              have hov := ow _ hdnv
              rcases hws with ⟨rfl, rfl, h3⟩ | ⟨u, hu, rfl, rfl, h4, h5, h6⟩
              · refine T_X10_ruled_222 ?_
                rw [n_le (by omega) (by omega)]
                refine ⟨fun q2 => by omega, fun _ => ?_⟩
                refine T_X10_ruled_238 ?_
                rw [n_le (by omega) (by omega), n_add]
                refine ⟨fun q2 => by omega, fun _ => ?_⟩
                refine ih2 (v + 1) x M3 (by omega) hx hxn hxm f3' _ _ (Or.inr ⟨v, by omega, rfl, rfl, hwv, fun y hy hy2 => ?_, fun y hy hy2 => ?_⟩)
                · by_cases e : y = v
                  · subst e; exact Nat.le_refl _
                  · rw [h3 y (by omega)] at hy2; cases hy2
                · rw [h3 y hy] at hy2; cases hy2
              · have hposu := pos_ok (h := h) P (by_ := by_) (ord := o) i (fun j hj => (hw j hj).1) u (by omega)
                have hdnu := dn_le P (h := h) (r := (pos h s by_ o i u).1) hx hposu.2
                have hou := ow _ hdnu
                refine T_X10_ruled_222 ?_
                rw [n_le (by omega) (by omega), om _ _ hdnu hdnv]
                refine ⟨fun q2 => ?_, fun q2 => ?_⟩
                · refine T_X10_ruled_238 ?_
                  rw [n_le (by omega) (by omega), om _ _ hdnu hdnv, n_add]
                  refine ⟨fun _ => ?_, fun q3 => absurd q2 q3⟩
                  refine ih2 (v + 1) x M3 (by omega) hx hxn hxm f3' _ _ (Or.inr ⟨u, by omega, rfl, rfl, h4, fun y hy hy2 => ?_, h6⟩)
                  by_cases e : y = v
                  · subst e; exact q2
                  · exact h5 y (by omega) hy2
                · refine T_X10_ruled_238 ?_
                  rw [n_le (by omega) (by omega), om _ _ hdnu hdnv, n_add]
                  refine ⟨fun q3 => absurd q3 q2, fun _ => ?_⟩
                  refine ih2 (v + 1) x M3 (by omega) hx hxn hxm f3' _ _ (Or.inr ⟨v, by omega, rfl, rfl, hwv, fun y hy hy2 => ?_, fun y hy hy2 => ?_⟩)
                  · by_cases e : y = v
                    · subst e; exact Nat.le_refl _
                    · have := h5 y (by omega) hy2; omega
                  · have := h5 y hy hy2; omega
            rw [edI_pos hdnv]
            refine ⟨fun q2 => ?_, fun q2 => ?_⟩
            · rw [edI_eq q2]
              rw [own, if_neg (by omega)] at tail
              exact tail
            · rw [own, if_pos (by omega)] at tail
              exact tail
          · have hwv : wel s v = false := by
              unfold wel
              rw [q]; simp
            refine T_X10_ruled_222 ?_
            have keep : P_X10_ruled_238 M2 (mk (fun y => anyN (fun j => decide (o j = y)) i) ||| (nI 1 <<< (nI x &&& 31))) (nI (cst h s by_ o i)) (nI i) (nI x) sn (nI v) (nI 1000) w Q := by
              refine T_X10_ruled_238 ?_
              have go : P_X10_ruled_174 M2 (mk (fun y => anyN (fun j => decide (o j = y)) i) ||| (nI 1 <<< (nI x &&& 31))) (nI (cst h s by_ o i)) (nI i) (nI x) w sn (nI v + nI 1) Q := by
                rw [n_add]
                refine ih2 (v + 1) x M2 (by omega) hx hxn hxm hf2 w sn ?_
                rcases hws with ⟨h1, h2, h3⟩ | ⟨u, hu, h1, h2, h4, h5, h6⟩
                · refine Or.inl ⟨h1, h2, fun y hy => ?_⟩
                  by_cases e : y = v
                  · subst e; exact hwv
                  · exact h3 y (by omega)
                · refine Or.inr ⟨u, by omega, h1, h2, h4, fun y hy hy2 => ?_, h6⟩
                  by_cases e : y = v
                  · subst e; rw [hwv] at hy2; cases hy2
                  · exact h5 y (by omega) hy2
              refine ⟨fun _ => go, fun q2 => ?_⟩
              exfalso
              apply q2
              rcases hws with ⟨h1, h2, h3⟩ | ⟨u, hu, h1, h2, h4, h5, h6⟩
              · rw [h2]; exact Int32.le_refl _
              · have hposu := pos_ok (h := h) P (by_ := by_) (ord := o) i (fun j hj => (hw j hj).1) u (by omega)
                have hdnu := dn_le P (h := h) (r := (pos h s by_ o i u).1) hx hposu.2
                have hou := ow _ hdnu
                rw [h2, n_le (by omega) (by omega)]; omega
            refine ⟨fun _ => keep, fun q2 => ?_⟩
            exfalso
            apply q2
            rcases hws with ⟨h1, h2, h3⟩ | ⟨u, hu, h1, h2, h4, h5, h6⟩
            · rw [h2]; exact Int32.le_refl _
            · have hposu := pos_ok (h := h) P (by_ := by_) (ord := o) i (fun j hj => (hw j hj).1) u (by omega)
              have hdnu := dn_le P (h := h) (r := (pos h s by_ o i u).1) hx hposu.2
              have hou := ow _ hdnu
              rw [h2, n_le (by omega) (by omega)]; omega
      -- which comes next
      have k34 : ∀ m, m ≤ s.2.1 → ∀ nx : Int32, ((nx = -4 ∧ ∀ e, m ≤ e → e < s.2.1 → anyN (fun j => decide (o j = e)) i = true) ∨ ∃ x, m ≤ x ∧ x < s.2.1 ∧ nx = nI x ∧ (∀ j, j < i → o j ≠ x) ∧ ∀ e, m ≤ e → e < s.2.1 → e ≠ x → (∀ j, j < i → o j ≠ e) → ahd s x e = true) → P_X10_ruled_34 M (mk (fun x => anyN (fun j => decide (o j = x)) i)) (nI (cst h s by_ o i)) (nI i) nx (nI m + (-1)) Q := by
        intro m
        induction m with
        | zero =>
          intro hm2 nx hnx
          refine T_X10_ruled_34 ?_
          rw [n_m1lt0 (by omega)]
          refine ⟨fun _ => ?_, fun q => absurd rfl q⟩
          rcases hnx with ⟨h1, h2⟩ | ⟨x, h1, h2, rfl, h4, h5⟩
          · exfalso
            -- all are put: more than there are places
            have inj : ∀ a, a < i → ∀ b, b < i → o a = o b → a = b := by
              intro a ha b hb hab
              rcases Nat.lt_trichotomy a b with q | q | q
              · have w1 := hs a b q hb
                have w2 := ahd_as w1
                rw [hab] at w1 w2
                rw [w1] at w2; cases w2
              · exact q
              · have w1 := hs b a q ha
                have w2 := ahd_as w1
                rw [hab] at w1 w2
                rw [w1] at w2; cases w2
            have nd := pre_nodup inj
            have pm := (List.perm_ext_iff_of_nodup nd List.nodup_range).mpr (fun y => by
              rw [pre_mem, List.mem_range]
              constructor
              · rintro ⟨j, hj, rfl⟩; exact (hw j hj).1
              · intro hy
                obtain ⟨j, hj, hj2⟩ := anyN_iff.mp (h2 y (by omega) hy)
                exact ⟨j, hj, by simpa using hj2⟩)
            have := pm.length_eq
            rw [pre_len, List.length_range] at this
            omega
          · exact k174 s.1 0 x M (by omega) h2 h4 (fun e he hne2 hn2 => h5 e (by omega) he hne2 hn2) (fun _ _ _ => rfl) _ _ (Or.inl ⟨rfl, rfl, fun u hu => by omega⟩)
        | succ m ihm =>
          intro hm2 nx hnx
          have a3 := S2.er (show m < s.2.1 by omega) (k := 3) (by omega)
          have a2 := S2.er (show m < s.2.1 by omega) (k := 2) (by omega)
          have pm := P.2.2.2.2 m (by omega)
          have k124 : ∀ b : Bool, (b = true ↔ (nx = -4 ∨ ∃ x, nx = nI x ∧ m + 1 ≤ x ∧ x < s.2.1 ∧ ahd s m x = true)) → P_X10_ruled_124 M (mk (fun x => anyN (fun j => decide (o j = x)) i)) (nI (cst h s by_ o i)) (nI i) nx (nI m) (bI b) Q := by
            intro b hb
            refine T_X10_ruled_124 ?_
            rw [mk_test _ (by omega), bI_0]
            refine ⟨fun q => ?_, fun q => ?_⟩
            · rw [Bool.not_eq_false] at q
              refine ihm (by omega) nx ?_
              rcases hnx with ⟨h1, h2⟩ | ⟨x, h1, h2, h3, h4, h5⟩
              · refine Or.inl ⟨h1, fun e he1 he2 => ?_⟩
                by_cases e' : e = m
                · subst e'; exact q
                · exact h2 e (by omega) he2
              · refine Or.inr ⟨x, by omega, h2, h3, h4, fun e he1 he2 he3 he4 => ?_⟩
                by_cases e' : e = m
                · subst e'
                  rw [(bits e).mpr he4] at q; cases q
                · exact h5 e (by omega) he2 he3 he4
            · have qn := (bits m).mp q
              refine br (fun qb => ?_) (fun qb => ?_)
              · have nb' : ¬ (nx = -4 ∨ ∃ x, nx = nI x ∧ m + 1 ≤ x ∧ x < s.2.1 ∧ ahd s m x = true) := fun w => by rw [hb.mpr w] at qb; cases qb
                refine ihm (by omega) nx ?_
                rcases hnx with ⟨h1, h2⟩ | ⟨x, h1, h2, h3, h4, h5⟩
                · exact absurd (Or.inl h1) nb'
                · refine Or.inr ⟨x, by omega, h2, h3, h4, fun e he1 he2 he3 he4 => ?_⟩
                  by_cases e' : e = m
                  · subst e'
                    refine ahd_to ?_ (fun w => he3 w)
                    cases hq : ahd s e x with
                    | false => rfl
                    | true => exact absurd (Or.inr ⟨x, h3, h1, h2, hq⟩) nb'
                  · exact h5 e (by omega) he2 he3 he4
              · refine ihm (by omega) (nI m) (Or.inr ⟨m, Nat.le_refl _, by omega, rfl, qn, fun e he1 he2 he3 he4 => ?_⟩)
                rcases hnx with ⟨h1, h2⟩ | ⟨x, h1, h2, h3, h4, h5⟩
                · have := h2 e (by omega) he2
                  rw [(bits e).mpr he4] at this; cases this
                · have hmx : ahd s m x = true := by
                    rcases hb.mp qb with w | ⟨x', w1, w2, w3, w4⟩
                    · rw [h3] at w
                      have := nI_pos (n := x) (by omega)
                      rw [w] at this
                      exact absurd (by decide) this
                    · have : x = x' := (n_eq (by omega) (by omega)).mp (h3.symm.trans w1)
                      rw [this]; exact w4
                  by_cases e' : e = x
                  · subst e'; exact hmx
                  · exact ahd_tr hmx (h5 e (by omega) he2 e' he4)
          refine T_X10_ruled_34 ?_
          rw [n_m1lt0 (by omega)]
          refine ⟨fun q => by omega, fun _ => ?_⟩
          rw [n_m1 (by omega), Nat.add_sub_cancel]
          rcases hnx with ⟨rfl, h2⟩ | ⟨x, h1, h2, rfl, h4, h5⟩
          · refine ⟨fun _ => k124 true ⟨fun _ => Or.inl rfl, fun _ => rfl⟩, fun q => absurd (by decide) q⟩
          · have b3 := S2.er h2 (k := 3) (by omega)
            have b2 := S2.er h2 (k := 2) (by omega)
            have px := P.2.2.2.2 x h2
            have fb : ∀ b : Bool, (b = true ↔ ahd s m x = true) → (b = true ↔ (nI x = -4 ∨ ∃ y, nI x = nI y ∧ m + 1 ≤ y ∧ y < s.2.1 ∧ ahd s m y = true)) := by
              intro b hb
              rw [hb]
              constructor
              · intro w; exact Or.inr ⟨x, rfl, h1, h2, w⟩
              · rintro (w | ⟨y, w1, w2, w3, w4⟩)
                · have := nI_pos (n := x) (by omega)
                  rw [w] at this
                  exact absurd (by decide) this
                · have : x = y := (n_eq (by omega) (by omega)).mp w1
                  rw [this]; exact w4
            have aiff := ahd_iff s m x
            simp (disch := omega) only [n_lt, n_le, n_eq, n_lt0, n_le0, n_ge0, n_gt0, n_eq0, n_add, n_mul, n_sub, n_m1, ix_n, vin, bI_0, bI_1, nT_le, nF_le, nT_lt, nF_lt, nT_eq, nF_eq, mk_test, true_imp_iff, false_imp_iff, not_true_eq_false, not_false_eq_true, true_and, and_true, tf_, ft_, eq_self, true_or, or_true, false_or, or_false, a3, a2, b3, b2]
            refine ⟨fun q => k124 true (fb true ⟨fun _ => ?_, fun _ => rfl⟩), fun q => ⟨fun q2 => k124 false (fb false ⟨fun w => absurd w (by decide), fun w => ?_⟩), fun q2 => ⟨fun q3 => k124 false (fb false ⟨fun w => absurd w (by decide), fun w => ?_⟩), fun q3 => k124 true (fb true ⟨fun _ => ?_, fun _ => rfl⟩)⟩⟩⟩
            · rw [aiff]; omega
            · rw [aiff] at w; omega
            · rw [aiff] at w; omega
            · rw [aiff]; omega
      refine T_X10_ruled_14 ?_
      rw [S2.2.1, n_le (by omega) (by omega), m1_sub]
      exact ⟨fun q => by omega, fun _ => k34 s.2.1 (Nat.le_refl _) _ (Or.inl ⟨rfl, fun e h1 h2 => by omega⟩)⟩
  refine m_wakes (h := h) (by_ := fun _ => 0) (o := fun _ => 0) P S1 (fun M2 f2 p2 => ?_)
  have z := k14 s.2.1 0 M2 (fun _ => 0) (fun _ => 0) (by omega) (fun c k q => f2 c k (by omega) (by omega)) (fun j hj => by omega) (fun a b _ hb => by omega) (fun j e hj => by omega) p2
  rw [mk_0]
  exact z
