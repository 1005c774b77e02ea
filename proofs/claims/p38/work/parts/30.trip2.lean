/-! ===== trip: the class's call ===== -/
theorem rng_lo {x : Int32} {a b : Int} (h : x.toInt < a) : rng x a b = false := by simp only [rng, decide_eq_false_iff_not]; omega
theorem rng_hi {x : Int32} {a b : Int} (h : b < x.toInt) : rng x a b = false := by simp only [rng, decide_eq_false_iff_not]; omega
theorem rng_in {x : Int32} {a b : Int} (h1 : a ≤ x.toInt) (h2 : x.toInt ≤ b) : rng x a b = true := by simp only [rng, decide_eq_true_eq]; omega
theorem m1_int : (-1 : Int32).toInt = -1 := by decide
theorem x_trip {h : HS} (O : HO h) {M0 : Mem} (H0 : HC 1 M0 h) (F0 : TF M0 h) {co : Bool} {a t b u : Int32} {Q : Int32 → Mem → Prop}
    (K : ∀ M', (∀ c k, ¬ ((c = 95 ∧ k = 1) ∨ (96 ≤ c ∧ c ≤ 123)) → M' c k = M0 c k) → TF M' h → Q (tripO h a t b co u) M') : C_X9_trip M0 a t b (bI co) u Q := by
  have hR := O.1
  have K0 := K M0 (fun _ _ _ => rfl) F0
  unfold tripO at K0
  refine T_X9_trip (s_hasRoom H0.1 hR (br (fun q => ?_) (fun qa => s_isTick (br (fun q => ?_) (fun qt => s_hasRoom H0.1 hR (br (fun q => ?_) (fun qb => ?_)))))))
  · rw [q] at K0; exact K0
  · rw [qa, q] at K0; exact K0
  · rw [qa, qt, q] at K0; exact K0
  · refine ⟨fun q => ?_, fun q => ⟨fun q2 => ?_, fun q2 => ?_⟩⟩
    · rw [Int32.lt_iff_toInt_lt, m1_int] at q
      rw [qa, qt, qb, rng_lo q] at K0; exact K0
    · have Kf : ∀ M', (∀ c k, ¬ ((c = 95 ∧ k = 1) ∨ (96 ≤ c ∧ c ≤ 123)) → M' c k = M0 c k) → TF M' h → Q (tripA h co (ix a) (ix t) (ix b) u) M' := by
        intro M' f' t'
        have := K M' f' t'
        unfold tripO at this
        rw [Int32.not_lt, Int32.le_iff_toInt_le, m1_int] at q
        rw [Int32.le_iff_toInt_le, nI_toInt (by omega)] at q2
        rw [qa, qt, qb, rng_in q (show u.toInt ≤ 23 from q2)] at this
        exact this
      obtain ⟨a', ha', rfl⟩ := okN_t (by omega) qa
      obtain ⟨t', ht', rfl⟩ := okN_t (by omega) qt
      obtain ⟨b', hb', rfl⟩ := okN_t (by omega) qb
      simp (disch := omega) only [ix_n] at Kf
      have hle := ed_le h co a' t' b' (by omega)
      refine s_soonest O H0 F0 ha' ht' hb' (fun M1 f1 z1 T1 w1 => ?_)
      have K1 := Kf M1 f1 (Or.inr ⟨z1, T1⟩)
      unfold tripA at K1
      rw [n_eq (by omega) (by omega)]
      refine ⟨fun e1 => ?_, fun e1 => ?_⟩
      · rw [if_neg e1] at K1
        refine ⟨fun u1 => ?_, fun u1 => ?_⟩
        · have u0 : ¬ u < 0 := by
            intro h1
            rw [Int32.lt_iff_toInt_lt, Int32.toInt_zero] at h1
            rw [Int32.not_lt, Int32.le_iff_toInt_le, m1_int] at q
            have : u.toInt = (-1 : Int32).toInt := by rw [m1_int]; omega
            exact u1 (Int32.toInt_inj.mp this)
          rw [if_neg u0] at K1
          refine ⟨fun u2 => ?_, fun u2 => ⟨fun u3 => ?_, fun u3 => ?_⟩⟩
          · rw [Int32.lt_iff_toInt_lt, nI_toInt (by omega)] at u2
            rw [rng_lo u2] at K1; exact K1
          · rw [Int32.not_lt, Int32.le_iff_toInt_le, nI_toInt (by omega)] at u2
            rw [Int32.le_iff_toInt_le, nI_toInt (by omega)] at u3
            have hr := rng_in u2 u3
            obtain ⟨v, hv1, hv2, rfl⟩ := rng_t (by omega) hr
            obtain ⟨w2, w3⟩ := w1 (by omega)
            have H1 : HC 1 M1 h := H0.congr O.2.1 (fun c k q1 q2 => f1 c k (by omega))
            refine s_roomOnTrip O H1 T1 ha' hv1 hv2 (by omega) (ed_rc (by omega) ht') w2 w3 (fun M2 f2 => ?_)
            have K2 := Kf M2 (fun c k hc => by rw [f2 c k (by omega)]; exact f1 c k hc) (Or.inr ⟨by rw [f2 _ _ (by omega)]; exact z1, T1.congr (fun c k _ _ => f2 c k (by omega))⟩)
            unfold tripA at K2
            rw [if_neg e1, if_neg u0, if_pos hr, ix_n (by omega)] at K2
            exact K2
          · rw [Int32.not_le, Int32.lt_iff_toInt_lt, nI_toInt (by omega)] at u3
            rw [rng_hi u3] at K1; exact K1
        · subst u1
          rw [if_pos (by decide)] at K1; exact K1
      · rw [if_pos e1] at K1; exact K1
    · rw [Int32.not_le, Int32.lt_iff_toInt_lt, nI_toInt (by omega)] at q2
      rw [qa, qt, qb, rng_hi (show (23 : Int) < u.toInt from q2)] at K0; exact K0
/-! ===== trip: the reference's call ===== -/
def nxI (R x : Nat) : Int32 := if x < R then nI x else -4
theorem edI_neg {e : Nat} (he : e ≤ 24) : (edI e < 0) = (e = 24) := by
  unfold edI
  split
  · rw [n_lt0 (by omega)]; exact propext ⟨False.elim, fun q => by omega⟩
  · exact propext ⟨fun _ => by omega, fun _ => by decide⟩
theorem edI_pos {e : Nat} (he : e ≤ 24) : (0 ≤ edI e) = (e < 24) := by
  unfold edI
  split
  · rw [n_ge0 (by omega)]; exact propext ⟨fun _ => by omega, fun q => trivial⟩
  · exact propext ⟨fun q => absurd q (by decide), fun q => by omega⟩
