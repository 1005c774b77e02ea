/-! ===== the reference's THE BEST ===== -/
def mlay (c k : Nat) : Prop := c = 187 ∨ c = 188 ∨ (c = 182 ∧ (k = 13 ∨ k = 23)) ∨ (192 ≤ c ∧ c ≤ 199)
theorem m_keeps {M0 : Mem} {Q : Mem → Prop} (K : ∀ M', (∀ c j, c ≠ 196 → c ≠ 197 → M' c j = M0 c j) → (∀ j, j < 5 → M' 196 j = M0 198 j ∧ M' 197 j = M0 199 j) → Q M') : C_X10_keeps M0 Q := by
  have key : ∀ n i (M : Mem), i + n = 5 → (∀ c j, c ≠ 196 → c ≠ 197 → M c j = M0 c j) → (∀ j, j < i → M 196 j = M0 198 j ∧ M 197 j = M0 199 j) → P_X10_keeps_2 M (nI i) Q := by
    intro n
    induction n with
    | zero =>
      intro i M hi hf hw
      refine T_X10_keeps_2 ?_
      simp (disch := omega) only [n_lt, n_le, n_eq, n_lt0, n_le0, n_ge0, n_gt0, n_eq0, n_add, n_mul, n_sub, n_m1, ix_n, vin, bI_0, bI_1, nT_le, nF_le, nT_lt, nF_lt, nT_eq, nF_eq, mk_test, true_imp_iff, false_imp_iff, not_true_eq_false, not_false_eq_true, true_and, and_true, tf_, ft_, eq_self, true_or, or_true, false_or, or_false, ]
      exact K M hf (fun j hj => hw j (by omega))
    | succ n ih =>
      intro i M hi hf hw
      refine T_X10_keeps_2 ?_
      simp (disch := omega) only [n_lt, n_le, n_eq, n_lt0, n_le0, n_ge0, n_gt0, n_eq0, n_add, n_mul, n_sub, n_m1, ix_n, vin, bI_0, bI_1, nT_le, nF_le, nT_lt, nF_lt, nT_eq, nF_eq, mk_test, true_imp_iff, false_imp_iff, not_true_eq_false, not_false_eq_true, true_and, and_true, tf_, ft_, eq_self, true_or, or_true, false_or, or_false, ]
      refine ih (i + 1) _ (by omega) (fun c j q1 q2 => by rw [wr_nc _ _ _ _ q2, wr_nc _ _ _ _ q1]; exact hf c j q1 q2) (fun j hj => ?_)
      by_cases e : j = i
      · subst e
        exact ⟨by rw [wr_nc _ _ _ _ (by omega), wr_eq]; exact hf _ _ (by omega) (by omega), by rw [wr_eq]; exact hf _ _ (by omega) (by omega)⟩
      · exact ⟨by rw [wr_nc _ _ _ _ (by omega), wr_nk _ _ _ _ e]; exact (hw j (by omega)).1, by rw [wr_nk _ _ _ _ e, wr_nc _ _ _ _ (by omega)]; exact (hw j (by omega)).2⟩
  exact T_X10_keeps (key 5 0 M0 rfl (fun _ _ _ _ => rfl) (fun j hj => by omega))
theorem m_best {h : HS} {s : SS} (O : HO h) (P : SO s h.1) {M0 : Mem} (H0 : HM M0 h) (S0 : SM M0 s) (L0 : LA M0 h) {T : Nat → Bool} (hT : ∀ v, T v = true → v < s.1) (hne : ∃ v, T v = true) {Q : Int32 → Mem → Prop}
    (K : ∀ M' by_ k, (∀ c k, ¬ mlay c k → M' c k = M0 c k) → M' 182 13 = nI 1 → LT M' h → BT h s T by_ k → (∀ e, e < s.2.1 → M' 196 e = nI (by_ e)) → (∀ i, i < s.2.1 → M' 197 i = nI (prm s.2.1 k i)) → Q (nI (Cc h s by_ k)) M') : C_X10_best M0 (mk T) Q := by
  have hS := P.1
  have hE : s.2.1 < 6 := by have := P.2.1; omega
  have hf120 := fct_pos _ hE
  have hS0 : 0 < s.1 := by
    obtain ⟨v, hv⟩ := hne
    have := hT v hv
    omega
  have hpow : ∀ i, i ≤ s.2.1 → s.1 ^ i ≤ 243 := fun i hi => by
    have h1 : s.1 ^ i ≤ 3 ^ i := Nat.pow_le_pow_left hS i
    have h2 : (3 : Nat) ^ i ≤ 3 ^ 5 := Nat.pow_le_pow_right (by omega) (by omega)
    exact Nat.le_trans h1 h2
  have hp := hpow s.2.1 (Nat.le_refl _)
  refine T_X10_best (m_lays O H0 L0 (fun M1 f1 z1 T1 => ?_))
  have good : ∀ M : Mem, (∀ c k, ¬ ((c = 182 ∧ k = 23) ∨ (192 ≤ c ∧ c ≤ 199)) → M c k = M1 c k) → SM M s ∧ LT M h := fun M f => ⟨S0.congr (fun c k q => by rw [f c k (by omega)]; exact f1 c k (by omega)), T1.congr (fun k => f _ k (by omega))⟩
  have fin : ∀ M : Mem, (∀ c k, ¬ ((c = 182 ∧ k = 23) ∨ (192 ≤ c ∧ c ≤ 199)) → M c k = M1 c k) → (∀ c k, ¬ mlay c k → M c k = M0 c k) := fun M f c k q => by
    unfold mlay at q
    rw [f c k (by omega)]; exact f1 c k (by omega)
  have bnd : ∀ w k, vld s T (dg s.1 s.2.1 w) → k < fct s.2.1 → Cc h s (dg s.1 s.2.1 w) k ≤ 1080 := by
    intro w k hv hk
    have := cst_le (h := h) P (by_ := dg s.1 s.2.1 w) (ord := prm s.2.1 k) s.2.1 (fun j hj => by
      have := (prm_a _ hE k hk).2.1 j hj
      exact ⟨this, hT _ (hv _ this)⟩)
    unfold Cc
    omega
  have lowb : ∀ (M : Mem) (low : Nat) (w k : Nat), ((low = 1000000 ∧ ∀ w' k', (w' < w ∨ (w' = w ∧ k' < k)) → k' < fct s.2.1 → ¬ vld s T (dg s.1 s.2.1 w')) ∨ (∃ wb kb, kb < fct s.2.1 ∧ wb < s.1 ^ s.2.1 ∧ vld s T (dg s.1 s.2.1 wb) ∧ low = Cc h s (dg s.1 s.2.1 wb) kb ∧ (∀ w' k', (w' < w ∨ (w' = w ∧ k' < k)) → k' < fct s.2.1 → vld s T (dg s.1 s.2.1 w') → low ≤ Cc h s (dg s.1 s.2.1 w') k') ∧ (∀ w' k', (w' < wb ∨ (w' = wb ∧ k' < kb)) → k' < fct s.2.1 → vld s T (dg s.1 s.2.1 w') → low < Cc h s (dg s.1 s.2.1 w') k') ∧ (∀ e, e < s.2.1 → M 196 e = nI (dg s.1 s.2.1 wb e)) ∧ (∀ i, i < s.2.1 → M 197 i = nI (prm s.2.1 kb i)))) → low ≤ 1000000 := by
    intro M low w k hl
    rcases hl with ⟨q, _⟩ | ⟨wb, kb, q1, q2, q3, q4, _⟩
    · omega
    · have := bnd wb kb q3 q1; omega
  have k130 : ∀ n k w (M : Mem) (low : Nat), k + n = fct s.2.1 → w < s.1 ^ s.2.1 → (∀ c k, ¬ ((c = 182 ∧ k = 23) ∨ (192 ≤ c ∧ c ≤ 199)) → M c k = M1 c k) → vld s T (dg s.1 s.2.1 w) → (∀ e, e < s.2.1 → M 198 e = nI (dg s.1 s.2.1 w e)) →
      ((low = 1000000 ∧ ∀ w' k', (w' < w ∨ (w' = w ∧ k' < k)) → k' < fct s.2.1 → ¬ vld s T (dg s.1 s.2.1 w')) ∨ (∃ wb kb, kb < fct s.2.1 ∧ wb < s.1 ^ s.2.1 ∧ vld s T (dg s.1 s.2.1 wb) ∧ low = Cc h s (dg s.1 s.2.1 wb) kb ∧ (∀ w' k', (w' < w ∨ (w' = w ∧ k' < k)) → k' < fct s.2.1 → vld s T (dg s.1 s.2.1 w') → low ≤ Cc h s (dg s.1 s.2.1 w') k') ∧ (∀ w' k', (w' < wb ∨ (w' = wb ∧ k' < kb)) → k' < fct s.2.1 → vld s T (dg s.1 s.2.1 w') → low < Cc h s (dg s.1 s.2.1 w') k') ∧ (∀ e, e < s.2.1 → M 196 e = nI (dg s.1 s.2.1 wb e)) ∧ (∀ i, i < s.2.1 → M 197 i = nI (prm s.2.1 kb i)))) →
      (∀ M' low', (∀ c k, ¬ ((c = 182 ∧ k = 23) ∨ (192 ≤ c ∧ c ≤ 199)) → M' c k = M1 c k) → ((low' = 1000000 ∧ ∀ w' k', (w' < w + 1 ∨ (w' = w + 1 ∧ k' < 0)) → k' < fct s.2.1 → ¬ vld s T (dg s.1 s.2.1 w')) ∨ (∃ wb kb, kb < fct s.2.1 ∧ wb < s.1 ^ s.2.1 ∧ vld s T (dg s.1 s.2.1 wb) ∧ low' = Cc h s (dg s.1 s.2.1 wb) kb ∧ (∀ w' k', (w' < w + 1 ∨ (w' = w + 1 ∧ k' < 0)) → k' < fct s.2.1 → vld s T (dg s.1 s.2.1 w') → low' ≤ Cc h s (dg s.1 s.2.1 w') k') ∧ (∀ w' k', (w' < wb ∨ (w' = wb ∧ k' < kb)) → k' < fct s.2.1 → vld s T (dg s.1 s.2.1 w') → low' < Cc h s (dg s.1 s.2.1 w') k') ∧ (∀ e, e < s.2.1 → M' 196 e = nI (dg s.1 s.2.1 wb e)) ∧ (∀ i, i < s.2.1 → M' 197 i = nI (prm s.2.1 kb i)))) → P_X10_best_45 M' (mk T) (nI (fct s.2.1)) (nI (s.1 ^ s.2.1)) (nI low') (nI w + nI 1) Q) →
      P_X10_best_130 M (mk T) (nI (fct s.2.1)) (nI (s.1 ^ s.2.1)) (nI low) (nI w) (bI true) (nI k) Q := by
    intro n
    induction n with
    | zero =>
      intro k w M low hk hw hf hv hby hl K2
      refine T_X10_best_130 ?_
      rw [n_le (by omega) (by omega)]
      refine ⟨fun _ => K2 M low hf ?_, fun q => by omega⟩
      rcases hl with ⟨q1, q2⟩ | ⟨wb, kb, q1, q2, q3, q4, q5, q6, q7, q8⟩
      · exact Or.inl ⟨q1, fun w' k' h1 h2 => q2 w' k' (by omega) h2⟩
      · exact Or.inr ⟨wb, kb, q1, q2, q3, q4, fun w' k' h1 h2 h3 => q5 w' k' (by omega) h2 h3, q6, q7, q8⟩
    | succ n ih =>
      intro k w M low hk hw hf hv hby hl K2
      obtain ⟨S1, L1⟩ := good M hf
      have hlow := lowb M low w k hl
      have hk' : k < fct s.2.1 := by omega
      have pa := prm_a _ hE k hk'
      refine T_X10_best_130 ?_
      rw [n_le (by omega) (by omega)]
      refine ⟨fun q => by omega, fun _ => ⟨fun q => absurd q (by decide), fun _ => ?_⟩⟩
      refine m_rows P S1 hk' (fun M2 f2 w2 => ?_)
      have f2' : ∀ c k, ¬ ((c = 182 ∧ k = 23) ∨ (192 ≤ c ∧ c ≤ 199)) → M2 c k = M1 c k := fun c k q => by rw [f2 c k (by omega)]; exact hf c k q
      obtain ⟨S2, L2⟩ := good M2 f2'
      refine m_sumOf O P S2 L2 w2 pa.2.1 (fun e he => by rw [f2 _ _ (by omega)]; exact hby e he) (fun e he => hT _ (hv e he)) (fun M3 f3 _ => ?_)
      have f3' : ∀ c k, ¬ ((c = 182 ∧ k = 23) ∨ (192 ≤ c ∧ c ≤ 199)) → M3 c k = M1 c k := fun c k q => by rw [f3 c k (by unfold mscr; omega)]; exact f2' c k q
      have hb := bnd w k hv hk'
      have hby3 : ∀ e, e < s.2.1 → M3 198 e = nI (dg s.1 s.2.1 w e) := fun e he => by rw [f3 _ _ (by unfold mscr; omega), f2 _ _ (by omega)]; exact hby e he
      have e13 : ∀ j, M3 196 j = M 196 j ∧ M3 197 j = M 197 j := fun j => ⟨by rw [f3 _ _ (by unfold mscr; omega), f2 _ _ (by omega)], by rw [f3 _ _ (by unfold mscr; omega), f2 _ _ (by omega)]⟩
      have eC : cst h s (dg s.1 s.2.1 w) (prm s.2.1 k) s.2.1 = Cc h s (dg s.1 s.2.1 w) k := rfl
      rw [eC, n_le (by omega) (by omega), n_add]
      refine ⟨fun q => ih (k + 1) w M3 low (by omega) hw f3' hv hby3 ?_ K2, fun q => ?_⟩
      · rcases hl with ⟨q1, q2⟩ | ⟨wb, kb, q1, q2, q3, q4, q5, q6, q7, q8⟩
        · omega
        · refine Or.inr ⟨wb, kb, q1, q2, q3, q4, fun w' k' h1 h2 h3 => ?_, q6, fun e he => by rw [(e13 e).1]; exact q7 e he, fun i hi => by rw [(e13 i).2]; exact q8 i hi⟩
          by_cases e : w' = w ∧ k' = k
          · obtain ⟨rfl, rfl⟩ := e; exact q
          · exact q5 w' k' (by omega) h2 h3
      · refine m_keeps (fun M4 f4 w4 => ?_)
        refine ih (k + 1) w M4 _ (by omega) hw (fun c k q => by rw [f4 c k (by omega) (by omega)]; exact f3' c k q) hv (fun e he => by rw [f4 _ _ (by omega) (by omega)]; exact hby3 e he) (Or.inr ⟨w, k, hk', hw, hv, rfl, fun w' k' h1 h2 h3 => ?_, fun w' k' h1 h2 h3 => ?_, fun e he => by rw [(w4 e (by omega)).1]; exact hby3 e he, fun i hi => by rw [(w4 i (by omega)).2, f3 _ _ (by unfold mscr; omega)]; exact w2 i hi⟩) K2
        · by_cases e : w' = w ∧ k' = k
          · obtain ⟨rfl, rfl⟩ := e; exact Nat.le_refl _
          · rcases hl with ⟨q1, q2⟩ | ⟨wb, kb, q1, q2, q3, q4, q5, q6, q7, q8⟩
            · exact absurd h3 (q2 w' k' (by omega) h2)
            · have := q5 w' k' (by omega) h2 h3; omega
        · rcases hl with ⟨q1, q2⟩ | ⟨wb, kb, q1, q2, q3, q4, q5, q6, q7, q8⟩
          · exact absurd h3 (q2 w' k' (by omega) h2)
          · have := q5 w' k' (by omega) h2 h3; omega
  have k66 : ∀ m w (M : Mem) (low : Nat), m ≤ s.2.1 → w < s.1 ^ s.2.1 → (∀ c k, ¬ ((c = 182 ∧ k = 23) ∨ (192 ≤ c ∧ c ≤ 199)) → M c k = M1 c k) → (∀ e, m ≤ e → e < s.2.1 → M 198 e = nI (dg s.1 s.2.1 w e)) → ∀ b : Bool, (b = true ↔ ∀ e, m ≤ e → e < s.2.1 → T (dg s.1 s.2.1 w e) = true) →
      (∀ M' : Mem, (∀ c k, ¬ ((c = 182 ∧ k = 23) ∨ (192 ≤ c ∧ c ≤ 199)) → M' c k = M1 c k) → (∀ c k, c ≠ 198 → M' c k = M c k) → (∀ e, e < s.2.1 → M' 198 e = nI (dg s.1 s.2.1 w e)) → ∀ b : Bool, (b = true ↔ vld s T (dg s.1 s.2.1 w)) → P_X10_best_130 M' (mk T) (nI (fct s.2.1)) (nI (s.1 ^ s.2.1)) (nI low) (nI w) (bI b) (nI 0) Q) →
      P_X10_best_66 M (mk T) (nI (fct s.2.1)) (nI (s.1 ^ s.2.1)) (nI low) (nI w) (nI (val s.1 (dg s.1 s.2.1 w) m)) (bI b) (nI m + (-1)) Q := by
    intro m
    induction m with
    | zero =>
      intro w M low hm hw hf hby b hb K2
      refine T_X10_best_66 ?_
      rw [n_m1lt0 (by omega)]
      refine ⟨fun _ => K2 M hf (fun _ _ _ => rfl) (fun e he => hby e (by omega) he) b ⟨fun q e he => hb.mp q e (by omega) he, fun q => hb.mpr (fun e _ he => q e he)⟩, fun q => absurd rfl q⟩
    | succ m ih =>
      intro w M low hm hw hf hby b hb K2
      obtain ⟨S1, L1⟩ := good M hf
      have hd := dg_lt hS0 s.2.1 w m
      have hv1 : val s.1 (dg s.1 s.2.1 w) (m + 1) ≤ 243 := by
        have h1 := val_lt (B := s.1) (f := dg s.1 s.2.1 w) (n := m + 1) (fun e _ => dg_lt hS0 _ _ _)
        have := hpow (m + 1) hm
        omega
      have e1 : val s.1 (dg s.1 s.2.1 w) (m + 1) % s.1 = dg s.1 s.2.1 w m := by
        simp only [val]
        rw [Nat.add_comm, Nat.add_mul_mod_self_right, Nat.mod_eq_of_lt hd]
      have e2 : val s.1 (dg s.1 s.2.1 w) (m + 1) / s.1 = val s.1 (dg s.1 s.2.1 w) m := by
        simp only [val]
        rw [Nat.add_comm, Nat.add_mul_div_right _ _ hS0, Nat.div_eq_of_lt hd, Nat.zero_add]
      refine T_X10_best_66 ?_
      rw [n_m1lt0 (by omega), S1.1, n_r (a := val s.1 (dg s.1 s.2.1 w) (m + 1)) (d := s.1) (by omega), n_d (a := val s.1 (dg s.1 s.2.1 w) (m + 1)) (d := s.1) (by omega), e1, e2]
      refine ⟨fun q => by omega, fun _ => ?_⟩
      have ne : ¬ nI s.1 = 0 := by rw [n_eq0 (by omega)]; omega
      rw [n_m1 (by omega), Nat.add_sub_cancel]
      refine ⟨ne, by rw [vin (by omega)]; omega, ne, ?_⟩
      rw [ix_n (by omega), wr_eq, mk_test _ (by omega), bI_1]
      have step : ∀ b' : Bool, (b' = true ↔ ∀ e, m ≤ e → e < s.2.1 → T (dg s.1 s.2.1 w e) = true) → P_X10_best_66 (wr M 198 m (nI (dg s.1 s.2.1 w m))) (mk T) (nI (fct s.2.1)) (nI (s.1 ^ s.2.1)) (nI low) (nI w) (nI (val s.1 (dg s.1 s.2.1 w) m)) (bI b') (nI m + (-1)) Q := by
        intro b' hb'
        refine ih w _ low (by omega) hw (fun c k q => by rw [wr_nc _ _ _ _ (by omega)]; exact hf c k q) (fun e q1 q2 => ?_) b' hb' (fun M' f' g' => K2 M' f' (fun c k q => by rw [g' c k q, wr_nc _ _ _ _ q]))
        by_cases e' : e = m
        · subst e'; exact wr_eq _ _ _ _
        · rw [wr_nk _ _ _ _ e']; exact hby e (by omega) q2
      refine br (fun q => step false ⟨fun w' => absurd w' (by decide), fun w' => ?_⟩) (fun q => ⟨fun q2 => step false ⟨fun w' => absurd w' (by decide), fun w' => ?_⟩, fun q2 => step true ⟨fun _ e h1 h2 => ?_, fun _ => rfl⟩⟩)
      · have := hb.mpr (fun e h1 h2 => w' e (by omega) h2)
        rw [q] at this; cases this
      · exact absurd (w' m (Nat.le_refl _) (by omega)) q2
      · by_cases e' : e = m
        · subst e'; exact q2
        · exact hb.mp q e (by omega) h2
  have k45 : ∀ n w (M : Mem) (low : Nat), w + n = s.1 ^ s.2.1 → (∀ c k, ¬ ((c = 182 ∧ k = 23) ∨ (192 ≤ c ∧ c ≤ 199)) → M c k = M1 c k) →
      ((low = 1000000 ∧ ∀ w' k', (w' < w ∨ (w' = w ∧ k' < 0)) → k' < fct s.2.1 → ¬ vld s T (dg s.1 s.2.1 w')) ∨ (∃ wb kb, kb < fct s.2.1 ∧ wb < s.1 ^ s.2.1 ∧ vld s T (dg s.1 s.2.1 wb) ∧ low = Cc h s (dg s.1 s.2.1 wb) kb ∧ (∀ w' k', (w' < w ∨ (w' = w ∧ k' < 0)) → k' < fct s.2.1 → vld s T (dg s.1 s.2.1 w') → low ≤ Cc h s (dg s.1 s.2.1 w') k') ∧ (∀ w' k', (w' < wb ∨ (w' = wb ∧ k' < kb)) → k' < fct s.2.1 → vld s T (dg s.1 s.2.1 w') → low < Cc h s (dg s.1 s.2.1 w') k') ∧ (∀ e, e < s.2.1 → M 196 e = nI (dg s.1 s.2.1 wb e)) ∧ (∀ i, i < s.2.1 → M 197 i = nI (prm s.2.1 kb i)))) →
      P_X10_best_45 M (mk T) (nI (fct s.2.1)) (nI (s.1 ^ s.2.1)) (nI low) (nI w) Q := by
    intro n
    induction n with
    | zero =>
      intro w M low hw hf hl
      refine T_X10_best_45 ?_
      rw [n_le (by omega) (by omega)]
      refine ⟨fun _ => ?_, fun q => by omega⟩
      obtain ⟨S1, L1⟩ := good M hf
      have num : ∀ b', vld s T b' → val s.1 b' s.2.1 < s.1 ^ s.2.1 ∧ (∀ e, e < s.2.1 → dg s.1 s.2.1 (val s.1 b' s.2.1) e = b' e) ∧ vld s T (dg s.1 s.2.1 (val s.1 b' s.2.1)) := by
        intro b' hv
        have hb : ∀ e, e < s.2.1 → b' e < s.1 := fun e he => hT _ (hv e he)
        have hd := dg_val hb
        exact ⟨val_lt hb, hd, fun e he => by rw [hd e he]; exact hv e he⟩
      rcases hl with ⟨q1, q2⟩ | ⟨wb, kb, q1, q2, q3, q4, q5, q6, q7, q8⟩
      · exfalso
        obtain ⟨v, hv⟩ := hne
        obtain ⟨n1, n2, n3⟩ := num (fun _ => v) (fun e _ => hv)
        exact q2 _ 0 (by omega) (by omega) n3
      · subst q4
        refine K M _ kb (fin M hf) (by rw [hf _ _ (by omega)]; exact z1) L1 ⟨q3, q1, fun b' k' h1 h2 => ?_, fun b' k' h1 h2 h3 => ?_⟩ q7 q8
        · obtain ⟨n1, n2, n3⟩ := num b' h1
          rw [← Cc_c hE n2 h2]
          exact q5 _ k' (by omega) h2 n3
        · obtain ⟨n1, n2, n3⟩ := num b' h1
          rw [← Cc_c hE n2 h2]
          refine q6 _ k' ?_ h2 n3
          have hb : ∀ e, e < s.2.1 → b' e < s.1 := fun e he => hT _ (h1 e he)
          rcases h3 with h3 | ⟨h3, h4⟩
          · left
            have := (val_lex hb (fun e _ => dg_lt hS0 s.2.1 wb e)).mpr h3
            rw [val_dg hS0 _ _ q2] at this
            exact this
          · right
            refine ⟨?_, h4⟩
            rw [val_c h3, val_dg hS0 _ _ q2]
    | succ n ih =>
      intro w M low hw hf hl
      obtain ⟨S1, L1⟩ := good M hf
      have hlow := lowb M low w 0 hl
      refine T_X10_best_45 ?_
      rw [n_le (by omega) (by omega), S1.2.1, m1_sub]
      refine ⟨fun q => by omega, fun _ => ?_⟩
      have z := k66 s.2.1 w M low (Nat.le_refl _) (by omega) hf (fun e h1 h2 => by omega) true ⟨fun _ e h1 h2 => by omega, fun _ => rfl⟩ (fun M2 f2 g2 w2 b hb => ?_)
      · rw [val_dg hS0 _ _ (by omega)] at z
        exact z
      · have hl2 : ((low = 1000000 ∧ ∀ w' k', (w' < w ∨ (w' = w ∧ k' < 0)) → k' < fct s.2.1 → ¬ vld s T (dg s.1 s.2.1 w')) ∨ (∃ wb kb, kb < fct s.2.1 ∧ wb < s.1 ^ s.2.1 ∧ vld s T (dg s.1 s.2.1 wb) ∧ low = Cc h s (dg s.1 s.2.1 wb) kb ∧ (∀ w' k', (w' < w ∨ (w' = w ∧ k' < 0)) → k' < fct s.2.1 → vld s T (dg s.1 s.2.1 w') → low ≤ Cc h s (dg s.1 s.2.1 w') k') ∧ (∀ w' k', (w' < wb ∨ (w' = wb ∧ k' < kb)) → k' < fct s.2.1 → vld s T (dg s.1 s.2.1 w') → low < Cc h s (dg s.1 s.2.1 w') k') ∧ (∀ e, e < s.2.1 → M2 196 e = nI (dg s.1 s.2.1 wb e)) ∧ (∀ i, i < s.2.1 → M2 197 i = nI (prm s.2.1 kb i)))) := by
          rcases hl with q | ⟨wb, kb, q1, q2, q3, q4, q5, q6, q7, q8⟩
          · exact Or.inl q
          · exact Or.inr ⟨wb, kb, q1, q2, q3, q4, q5, q6, fun e he => by rw [g2 _ _ (by omega)]; exact q7 e he, fun i hi => by rw [g2 _ _ (by omega)]; exact q8 i hi⟩
        cases b with
        | true =>
          refine k130 (fct s.2.1) 0 w M2 low (by omega) (by omega) f2 (hb.mp rfl) w2 hl2 (fun M' low' f' hl' => ?_)
          rw [n_add]
          exact ih (w + 1) M' low' (by omega) f' hl'
        | false =>
          have nv : ¬ vld s T (dg s.1 s.2.1 w) := fun q => by have := hb.mpr q; cases this
          refine T_X10_best_130 ?_
          rw [n_le (by omega) (by omega)]
          have go : P_X10_best_45 M2 (mk T) (nI (fct s.2.1)) (nI (s.1 ^ s.2.1)) (nI low) (nI w + nI 1) Q := by
            rw [n_add]
            refine ih (w + 1) M2 low (by omega) f2 ?_
            rcases hl2 with ⟨q1, q2⟩ | ⟨wb, kb, q1, q2, q3, q4, q5, q6, q7, q8⟩
            · refine Or.inl ⟨q1, fun w' k' h1 h2 => ?_⟩
              by_cases e : w' = w
              · subst e; exact nv
              · exact q2 w' k' (by omega) h2
            · refine Or.inr ⟨wb, kb, q1, q2, q3, q4, fun w' k' h1 h2 h3 => ?_, q6, q7, q8⟩
              by_cases e : w' = w
              · subst e; exact absurd h3 nv
              · exact q5 w' k' (by omega) h2 h3
          exact ⟨fun _ => go, fun _ => ⟨fun _ => go, fun q => absurd rfl q⟩⟩
  have k11 : ∀ n i, i + n = s.2.1 → P_X10_best_11 M1 (mk T) (nI (fct i)) (nI (s.1 ^ i)) (nI (i + 1)) Q := by
    intro n
    obtain ⟨S1, L1⟩ := good M1 (fun _ _ _ => rfl)
    induction n with
    | zero =>
      intro i hi
      have : i = s.2.1 := by omega
      subst this
      refine T_X10_best_11 ?_
      rw [S1.2.1, n_lt (by omega) (by omega)]
      refine ⟨fun _ => ?_, fun q => by omega⟩
      rw [show (1000000 : Int32) = nI 1000000 from by decide]
      exact k45 (s.1 ^ s.2.1) 0 M1 1000000 (by omega) (fun _ _ _ => rfl) (Or.inl ⟨rfl, fun w' k' h => by omega⟩)
    | succ n ih =>
      intro i hi
      refine T_X10_best_11 ?_
      rw [S1.2.1, S1.1, n_lt (by omega) (by omega), n_mul, n_mul, n_add]
      refine ⟨fun q => by omega, fun _ => ?_⟩
      have z := ih (i + 1) (by omega)
      rw [show fct (i + 1) = fct i * (i + 1) from Nat.mul_comm _ _, Nat.pow_succ] at z
      exact z
  exact k11 s.2.1 0 (by omega)
