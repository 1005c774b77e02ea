theorem b_folk {M : Mem} (C : Cpl M) (a : Int32) : C_X9_folk M a (fun r M1 => C_X10_folk M1 a (fun r' M2 => r = r' ∧ Cpl M2)) := by
  obtain ⟨h, s, t, n, tp, x, kx, I, J, O⟩ := C
  have hF := O.2.2.1.1
  have same : Cpl M := ⟨h, s, t, n, tp, x, kx, I, J, O⟩
  obtain ⟨g1, g2, g3, g4, g5, g6⟩ := I.2.2.2.1
  obtain ⟨u1, u2, u3, u4, u5, u6⟩ := J.2.2.1
  have g1 : M 37 0 = nI t.1 := g1
  have bad : okN a 2 = false → C_X10_folk M a (fun r' M2 => (-1 : Int32) = r' ∧ Cpl M2) := by
    intro q
    refine T_X10_folk (s_in ?_)
    rw [in_01, q]
    exact ⟨fun w => absurd nI_0 w, fun _ => ⟨rfl, same⟩⟩
  rcases ok_case a (n := 2) (by omega) with ⟨q, q2⟩ | ⟨j, hj, rfl, q⟩
  · refine T_X9_folk ⟨fun _ => bad q, fun w => ⟨fun w2 => ?_, fun _ => bad q⟩⟩
    exfalso
    rcases q2 with q2 | q2
    · exact w q2
    · rw [Int32.le_iff_toInt_le, nI_toInt (by omega)] at q2 w2
      omega
  · refine T_X9_folk ⟨fun w => absurd w (nI_pos (by omega)), fun _ => ⟨fun _ => ?_, fun w => absurd ((n_le (by omega) (by omega)).mpr (by omega)) w⟩⟩
    rw [g1, n_eq (by omega) (by omega)]
    refine ⟨fun q2 => ⟨by rw [vin (by omega)]; omega, ?_⟩, fun q2 => ?_⟩
    · rw [ix_n (by omega)]
      have I1 : IC (wr (wr M 38 t.1 (nI j)) 37 0 (nI t.1 + nI 1)) h s (t.1 + 1, fun i => if i = t.1 then j else t.2.1 i, t.2.2) n tp x kx := by
        refine I.talk O ⟨by rw [wr_eq, n_add], by rw [wr_nk _ _ _ _ (by omega), wr_nc _ _ _ _ (by omega)]; exact g2, by rw [wr_nk _ _ _ _ (by omega), wr_nc _ _ _ _ (by omega)]; exact g3, by rw [wr_nk _ _ _ _ (by omega), wr_nc _ _ _ _ (by omega), wr_nk _ _ _ _ (by omega), wr_nc _ _ _ _ (by omega), wr_nk _ _ _ _ (by omega), wr_nc _ _ _ _ (by omega)]; exact g4, fun i hi => ?_, fun e he k hk => by rw [wr_nc _ _ _ _ (by omega), wr_nc _ _ _ _ (by omega)]; exact g6 e he k hk⟩ (fun c k q => (by simp only [wr]; repeat rw [if_neg (by omega)]))
        rw [wr_nc _ _ _ _ (by omega)]
        by_cases e : i = t.1
        · simp [e, wr]
        · rw [wr_nk _ _ _ _ e]
          simp only [e, if_false]
          exact g5 i (by simp at hi; omega)
      have J1 : IM (wr (wr M 38 t.1 (nI j)) 37 0 (nI t.1 + nI 1)) h s t n tp x kx := J.far (fun c k hc => (by simp only [wr]; repeat rw [if_neg (by omega)]))
      have O' : IO h s (t.1 + 1, fun i => if i = t.1 then j else t.2.1 i, t.2.2) n tp x kx := by
        obtain ⟨o1, o2, o3, o4⟩ := O
        refine ⟨o1, o2, ⟨?_, o3.2.1, fun i hi => ?_, fun k hk => ?_, o3.2.2.2.2⟩, o4⟩
        · show t.1 + 1 ≤ 5; omega
        · show (if i = t.1 then j else t.2.1 i) ≤ 1
          split
          · omega
          · exact o3.2.2.1 i (by simp at hi; omega)
        · have := o3.2.2.2.1 k hk
          refine ⟨?_, ?_, this.2.2⟩
          · exact Nat.lt_succ_of_lt this.1
          · exact Nat.lt_succ_of_lt this.2.1
      obtain ⟨v1, v2, v3, v4, v5, v6⟩ := J1.2.2.1
      refine T_X10_folk (s_in ?_)
      rw [in_01, q, v1, n_eq (by omega) (by omega)]
      refine ⟨fun _ => ⟨fun _ => ⟨by rw [vin (by omega)]; omega, rfl, _, _, _, _, _, _, _, I1.far O' (fun c k hc => (by simp only [wr]; repeat rw [if_neg (by omega)])), ?_, O'⟩, fun w => absurd w q2⟩, fun w => absurd w (by decide)⟩
      rw [ix_n (by omega)]
      refine J1.talk ⟨by rw [wr_eq, n_add], by rw [wr_nk _ _ _ _ (by omega), wr_nc _ _ _ _ (by omega)]; exact v2, by rw [wr_nk _ _ _ _ (by omega), wr_nc _ _ _ _ (by omega)]; exact v3, by rw [wr_nk _ _ _ _ (by omega), wr_nc _ _ _ _ (by omega), wr_nk _ _ _ _ (by omega), wr_nc _ _ _ _ (by omega)]; exact v4, fun i hi => ?_, fun e he k hk => by rw [wr_nc _ _ _ _ (by omega), wr_nc _ _ _ _ (by omega)]; exact v6 e he k hk⟩ (fun c k q => (by simp only [wr]; repeat rw [if_neg (by omega)]))
      rw [wr_nc _ _ _ _ (by omega)]
      by_cases e : i = t.1
      · subst e; rw [wr_eq]; simp
      · rw [wr_nk _ _ _ _ e]
        simp only [e, if_false]
        exact v5 i (by simp at hi; omega)
    · refine T_X10_folk (s_in ?_)
      rw [in_01, q, u1, n_eq (by omega) (by omega)]
      exact ⟨fun _ => ⟨fun w => absurd q2 w, fun _ => ⟨rfl, same⟩⟩, fun w => absurd w (by decide)⟩
theorem b_theft {M : Mem} (C : Cpl M) (a f g : Int32) : C_X9_theft M a f g (fun r M1 => C_X10_theft M1 a f g (fun r' M2 => r = r' ∧ Cpl M2)) := by
  obtain ⟨h, s, t, n, tp, x, kx, I, J, O⟩ := C
  have hR := O.1.1
  have same : Cpl M := ⟨h, s, t, n, tp, x, kx, I, J, O⟩
  have ed' : okN f 24 = true → (decide (f.toInt64 ≤ g.toInt64) && decide (g.toInt64 ≤ (23 : Int64))) = (okN g 24 && decide (f ≤ g)) := by
    intro hf
    simp only [okN, decide_eq_true_eq] at hf
    apply b_of
    simp only [Bool.and_eq_true, decide_eq_true_eq, okN, Int64.le_iff_toInt_le, Int32.le_iff_toInt_le, Int32.toInt_toInt64, show (23 : Int64).toInt = 23 from rfl]
    omega
  refine T_X9_theft (s_hasRoom I.1.1 hR (br (fun q => ?_) (fun q1 => s_isTick (br (fun q => ?_) (fun q2 => s_isTick (br (fun q => ?_) (fun q3 => ⟨fun q4 => ?_, fun q => ?_⟩)))))))
  · refine T_X10_theft (m_isRoom J.1.1 hR ?_)
    rw [q]; exact ⟨fun _ => ⟨rfl, same⟩, fun w => absurd nI_0 w⟩
  · refine T_X10_theft (m_isRoom J.1.1 hR ?_)
    rw [q1]
    refine ⟨fun w => absurd w (by decide), fun _ => m_isTick ?_⟩
    rw [q]; exact ⟨fun _ => ⟨rfl, same⟩, fun w => absurd nI_0 w⟩
  · refine T_X10_theft (m_isRoom J.1.1 hR ?_)
    rw [q1]
    refine ⟨fun w => absurd w (by decide), fun _ => m_isTick ?_⟩
    rw [q2]
    refine ⟨fun w => absurd w (by decide), fun _ => s_in ?_⟩
    rw [ed' q2, q]
    exact ⟨fun w => absurd nI_0 w, fun _ => ⟨rfl, same⟩⟩
  · obtain ⟨j, hj, rfl⟩ := okN_t (by omega) q1
    obtain ⟨f', hf', rfl⟩ := okN_t (by omega) q2
    obtain ⟨g', hg', rfl⟩ := okN_t (by omega) q3
    have hle := (n_le (by omega) (by omega)).mp q4
    obtain ⟨g1, g2, g3, g4, g5, g6⟩ := I.2.2.2.1
    have I1 : IC (wr (wr (wr (wr M 37 2 (nI 1)) 37 3 (nI j)) 37 4 (nI f')) 37 5 (nI g')) h s (t.1, t.2.1, t.2.2.1, t.2.2.2.1, true, j, f', g') n tp x kx := by
      refine I.talk O ⟨by rw [wr_nk _ _ _ _ (by omega), wr_nk _ _ _ _ (by omega), wr_nk _ _ _ _ (by omega), wr_nk _ _ _ _ (by omega)]; exact g1, by rw [wr_nk _ _ _ _ (by omega), wr_nk _ _ _ _ (by omega), wr_nk _ _ _ _ (by omega), wr_nk _ _ _ _ (by omega)]; exact g2, by rw [wr_nk _ _ _ _ (by omega), wr_nk _ _ _ _ (by omega), wr_nk _ _ _ _ (by omega), wr_eq]; rfl, fun _ => ⟨by rw [wr_nk _ _ _ _ (by omega), wr_nk _ _ _ _ (by omega), wr_eq], by rw [wr_nk _ _ _ _ (by omega), wr_eq], wr_eq _ _ _ _⟩, fun i hi => by rw [wr_nc _ _ _ _ (by omega), wr_nc _ _ _ _ (by omega), wr_nc _ _ _ _ (by omega), wr_nc _ _ _ _ (by omega)]; exact g5 i hi, fun e he k hk => by rw [wr_nc _ _ _ _ (by omega), wr_nc _ _ _ _ (by omega), wr_nc _ _ _ _ (by omega), wr_nc _ _ _ _ (by omega)]; exact g6 e he k hk⟩ (fun c k q => (by simp only [wr]; repeat rw [if_neg (by omega)]))
    have J1 : IM (wr (wr (wr (wr M 37 2 (nI 1)) 37 3 (nI j)) 37 4 (nI f')) 37 5 (nI g')) h s t n tp x kx := J.far (fun c k hc => (by simp only [wr]; repeat rw [if_neg (by omega)]))
    have O' : IO h s (t.1, t.2.1, t.2.2.1, t.2.2.2.1, true, j, f', g') n tp x kx := by
      obtain ⟨o1, o2, o3, o4⟩ := O
      exact ⟨o1, o2, ⟨o3.1, o3.2.1, o3.2.2.1, o3.2.2.2.1, fun _ => ⟨hj, hle, by show g' ≤ 23; omega⟩⟩, o4⟩
    obtain ⟨v1, v2, v3, v4, v5, v6⟩ := J1.2.2.1
    refine T_X10_theft (m_isRoom J1.1.1 hR ?_)
    rw [q1]
    refine ⟨fun w => absurd w (by decide), fun _ => m_isTick ?_⟩
    rw [q2]
    refine ⟨fun w => absurd w (by decide), fun _ => s_in ?_⟩
    rw [ed' q2, q3, decide_eq_true q4]
    refine ⟨fun _ => ⟨rfl, _, _, _, _, _, _, _, I1.far O' (fun c k hc => (by simp only [wr]; repeat rw [if_neg (by omega)])), ?_, O'⟩, fun w => absurd w (by decide)⟩
    refine J1.talk ⟨by rw [wr_nk _ _ _ _ (by omega), wr_nk _ _ _ _ (by omega), wr_nk _ _ _ _ (by omega)]; exact v1, by rw [wr_nk _ _ _ _ (by omega), wr_nk _ _ _ _ (by omega), wr_nk _ _ _ _ (by omega)]; exact v2, by rw [wr_nk _ _ _ _ (by omega), wr_nk _ _ _ _ (by omega), wr_eq]; simp, fun _ => ⟨by rw [wr_nk _ _ _ _ (by omega), wr_eq], wr_eq _ _ _ _⟩, fun i hi => by rw [wr_nc _ _ _ _ (by omega), wr_nc _ _ _ _ (by omega), wr_nc _ _ _ _ (by omega)]; exact v5 i hi, fun e he k hk => by rw [wr_nc _ _ _ _ (by omega), wr_nc _ _ _ _ (by omega), wr_nc _ _ _ _ (by omega)]; exact v6 e he k hk⟩ (fun c k q => (by simp only [wr]; repeat rw [if_neg (by omega)]))
  · refine T_X10_theft (m_isRoom J.1.1 hR ?_)
    rw [q1]
    refine ⟨fun w => absurd w (by decide), fun _ => m_isTick ?_⟩
    rw [q2]
    refine ⟨fun w => absurd w (by decide), fun _ => s_in ?_⟩
    rw [ed' q2, q3, decide_eq_false q]
    exact ⟨fun w => absurd nI_0 w, fun _ => ⟨rfl, same⟩⟩
def sy1 (t : TS) (b o r u : Nat) : Nat → Nat → Nat := fun k j => if k = t.2.2.1 then (match j with | 0 => b | 1 => o | 2 => r | _ => u) else t.2.2.2.1 k j
def tadd (t : TS) (b o r u : Nat) : TS := (t.1, t.2.1, t.2.2.1 + 1, sy1 t b o r u, t.2.2.2.2)
theorem s_addSaying {t : TS} {M : Mem} (H : TC 37 M t) (hY : t.2.2.1 < 12) {b o r u : Nat} {Q : Mem → Prop} (K : ∀ M', (∀ c j, ¬ (37 ≤ c ∧ c ≤ 42) → M' c j = M c j) → TC 37 M' (tadd t b o r u) → Q M') : C_X6_addSaying_37 M (nI b) (nI o) (nI r) (nI u) Q := by
  obtain ⟨g1, g2, g3, g4, g5, g6⟩ := H
  have g2 : M 37 1 = nI t.2.2.1 := g2
  refine T_X6_addSaying_37 ⟨by rw [g2, vin (by omega)]; exact hY, ?_⟩
  rw [g2, ix_n (by omega)]
  refine K _ (fun c j q => (by simp only [wr]; repeat rw [if_neg (by omega)])) ⟨by rw [wr_nk _ _ _ _ (by omega), wr_nc _ _ _ _ (by omega), wr_nc _ _ _ _ (by omega), wr_nc _ _ _ _ (by omega), wr_nc _ _ _ _ (by omega)]; exact g1, by rw [wr_eq, n_add]; rfl, by rw [wr_nk _ _ _ _ (by omega), wr_nc _ _ _ _ (by omega), wr_nc _ _ _ _ (by omega), wr_nc _ _ _ _ (by omega), wr_nc _ _ _ _ (by omega)]; exact g3, by rw [wr_nk _ _ _ _ (by omega), wr_nc _ _ _ _ (by omega), wr_nc _ _ _ _ (by omega), wr_nc _ _ _ _ (by omega), wr_nc _ _ _ _ (by omega), wr_nk _ _ _ _ (by omega), wr_nc _ _ _ _ (by omega), wr_nc _ _ _ _ (by omega), wr_nc _ _ _ _ (by omega), wr_nc _ _ _ _ (by omega), wr_nk _ _ _ _ (by omega), wr_nc _ _ _ _ (by omega), wr_nc _ _ _ _ (by omega), wr_nc _ _ _ _ (by omega), wr_nc _ _ _ _ (by omega)]; exact g4, fun i hi => by rw [wr_nc _ _ _ _ (by omega), wr_nc _ _ _ _ (by omega), wr_nc _ _ _ _ (by omega), wr_nc _ _ _ _ (by omega), wr_nc _ _ _ _ (by omega)]; exact g5 i hi, fun e he j hj => ?_⟩
  by_cases e' : e = t.2.2.1
  · subst e'
    rcases (show j = 0 ∨ j = 1 ∨ j = 2 ∨ j = 3 by omega) with q | q | q | q <;> subst q <;> simp [wr, sy1, tadd]
  · have he2 : e < t.2.2.1 := by simp [tadd] at he; omega
    have g := g6 e he2 j hj
    simp only [sy1, tadd, e', if_false]
    rw [← g]
    simp only [wr]
    rw [if_neg (by omega), if_neg (by omega), if_neg (by omega), if_neg (by omega), if_neg (by omega)]
theorem TO.add {t : TS} {R : Nat} (O : TO t R) (hY : t.2.2.1 < 12) {b o r u : Nat} (h1 : b < t.1) (h2 : o < t.1) (h3 : r < R) (h4 : u < 24) : TO (tadd t b o r u) R := by
  refine ⟨O.1, ?_, O.2.2.1, fun e he => ?_, O.2.2.2.2⟩
  · show t.2.2.1 + 1 ≤ 12; omega
  · by_cases e' : e = t.2.2.1
    · subst e'
      simp only [tadd, sy1, if_true]
      exact ⟨h1, h2, h3, h4⟩
    · simp only [tadd, sy1, e', if_false]
      exact O.2.2.2.1 e (by simp [tadd] at he; omega)
theorem TM_add {t : TS} {M M' : Mem} (H : TM M t) {b o r u : Nat} (f : ∀ c j, ¬ ((c = 182 ∧ j = 30) ∨ (c = 201 ∧ 4 * t.2.2.1 ≤ j)) → M' c j = M c j) (e : M' 182 30 = nI (t.2.2.1 + 1)) (e0 : M' 201 (4 * t.2.2.1) = nI b) (e1 : M' 201 (4 * t.2.2.1 + 1) = nI o) (e2 : M' 201 (4 * t.2.2.1 + 2) = nI r) (e3 : M' 201 (4 * t.2.2.1 + 3) = nI u) : TM M' (tadd t b o r u) := by
  obtain ⟨g1, g2, g3, g4, g5, g6⟩ := H
  refine ⟨by rw [f _ _ (by omega)]; exact g1, e, by rw [f _ _ (by omega)]; exact g3, by rw [f _ _ (by omega), f _ _ (by omega)]; exact g4, fun i hi => by rw [f _ _ (by omega)]; exact g5 i hi, fun k hk j hj => ?_⟩
  by_cases e' : k = t.2.2.1
  · subst e'
    rcases (show j = 0 ∨ j = 1 ∨ j = 2 ∨ j = 3 by omega) with q | q | q | q <;> subst q <;> simp only [sy1, tadd, if_true]
    · exact e0
    · exact e1
    · exact e2
    · exact e3
  · have he2 : k < t.2.2.1 := by simp [tadd] at hk; omega
    simp only [sy1, tadd, e', if_false]
    rw [f _ _ (by omega)]
    exact g6 k he2 j hj
theorem b_say {M : Mem} (C : Cpl M) (a o r u : Int32) : C_X9_say M a o r u (fun y M1 => C_X10_say M1 a o r u (fun y' M2 => y = y' ∧ Cpl M2)) := by
  obtain ⟨h, s, t, n, tp, x, kx, I, J, O⟩ := C
  have hR := O.1.1
  have hF := O.2.2.1.1
  have hY := O.2.2.1.2.1
  have same : Cpl M := ⟨h, s, t, n, tp, x, kx, I, J, O⟩
  have g2 : M 37 1 = nI t.2.2.1 := I.2.2.2.1.2.1
  refine T_X9_say (s_hasOne I.2.2.2.1.1 hF (br (fun q => ?_) (fun q1 => s_hasOne I.2.2.2.1.1 hF (br (fun q => ?_) (fun q2 => s_hasRoom I.1.1 hR (br (fun q => ?_) (fun q3 => s_isTick (br' (fun q => ?_) (fun q4 => ?_)))))))))
  · refine T_X10_say (m_isOne J.2.2.1.1 hF ?_)
    rw [q]; exact ⟨fun _ => ⟨rfl, same⟩, fun w => absurd nI_0 w⟩
  · refine T_X10_say (m_isOne J.2.2.1.1 hF ?_)
    rw [q1]; refine ⟨fun w => absurd w (by decide), fun _ => m_isOne J.2.2.1.1 hF ?_⟩
    rw [q]; exact ⟨fun _ => ⟨rfl, same⟩, fun w => absurd nI_0 w⟩
  · refine T_X10_say (m_isOne J.2.2.1.1 hF ?_)
    rw [q1]; refine ⟨fun w => absurd w (by decide), fun _ => m_isOne J.2.2.1.1 hF ?_⟩
    rw [q2]; refine ⟨fun w => absurd w (by decide), fun _ => m_isRoom J.1.1 hR ?_⟩
    rw [q]; exact ⟨fun _ => ⟨rfl, same⟩, fun w => absurd nI_0 w⟩
  · refine T_X10_say (m_isOne J.2.2.1.1 hF ?_)
    rw [q1]; refine ⟨fun w => absurd w (by decide), fun _ => m_isOne J.2.2.1.1 hF ?_⟩
    rw [q2]; refine ⟨fun w => absurd w (by decide), fun _ => m_isRoom J.1.1 hR ?_⟩
    rw [q3]; refine ⟨fun w => absurd w (by decide), fun _ => m_isTick ?_⟩
    rw [q]; exact ⟨fun w => absurd nI_0 w, fun _ => ⟨rfl, same⟩⟩
  · obtain ⟨a', ha, rfl⟩ := okN_t (by omega) q1
    obtain ⟨o', ho, rfl⟩ := okN_t (by omega) q2
    obtain ⟨r', hr, rfl⟩ := okN_t (by omega) q3
    obtain ⟨u', hu, rfl⟩ := okN_t (by omega) q4
    rw [g2, n_eq (by omega) (by omega)]
    refine ⟨fun q5 => s_addSaying I.2.2.2.1 (by omega) (fun M1 f1 s1 => ?_), fun q5 => ?_⟩
    · have I1 := I.talk O s1 f1
      have J1 : IM M1 h s t n tp x kx := J.far (fun c k hc => f1 c k (by omega))
      have O' : IO h s (tadd t a' o' r' u') n tp x kx := ⟨O.1, O.2.1, O.2.2.1.add (by omega) ha ho hr hu, O.2.2.2⟩
      refine T_X10_say (m_isOne J1.2.2.1.1 hF ?_)
      rw [q1]; refine ⟨fun w => absurd w (by decide), fun _ => m_isOne J1.2.2.1.1 hF ?_⟩
      rw [q2]; refine ⟨fun w => absurd w (by decide), fun _ => m_isRoom J1.1.1 hR ?_⟩
      rw [q3]; refine ⟨fun w => absurd w (by decide), fun _ => m_isTick ?_⟩
      rw [q4, J1.2.2.1.2.1]
      refine ⟨fun _ => ⟨fun _ => ?_, fun w => absurd ((n_eq (by omega) (by omega)).mp w) q5⟩, fun w => absurd w (by decide)⟩
      simp (disch := omega) only [n_mul, n_add, vin, ix_n]
      refine ⟨by omega, by omega, by omega, by omega, ?_, _, _, _, _, _, _, _, I1.far O' (fun c k hc => (by simp only [wr]; repeat rw [if_neg (by omega)])), J1.talk (TM_add J1.2.2.1 (b := a') (o := o') (r := r') (u := u') (fun c j q => (by simp only [wr]; repeat rw [if_neg (by omega)])) (wr_eq _ _ _ _) (by simp [wr]) (by simp [wr]) (by simp [wr]) (by simp [wr])) (fun c k q => (by simp only [wr]; repeat rw [if_neg (by omega)])), O'⟩
      have e1 := s1.2.1
      rw [e1]
      rfl
    · refine T_X10_say (m_isOne J.2.2.1.1 hF ?_)
      rw [q1]; refine ⟨fun w => absurd w (by decide), fun _ => m_isOne J.2.2.1.1 hF ?_⟩
      rw [q2]; refine ⟨fun w => absurd w (by decide), fun _ => m_isRoom J.1.1 hR ?_⟩
      rw [q3]; refine ⟨fun w => absurd w (by decide), fun _ => m_isTick ?_⟩
      rw [q4, J.2.2.1.2.1]
      exact ⟨fun _ => ⟨fun w => absurd (by rw [q5]) w, fun _ => ⟨rfl, same⟩⟩, fun w => absurd w (by decide)⟩
