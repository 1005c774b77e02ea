/-! ===== the law, once the object stands ===== -/
theorem C_init {M : Mem} (z : ∀ c k, c ≠ 88 → M c k = nI 0) (z88 : ∀ k, k < 4 → M 88 k = -1) : ∃ (h : HS) (s : SS) (t : TS) (tp : Nat → Nat) (x : WS) (kx : KS), IC M h s t 0 tp x kx ∧ IO h s t 0 tp x kx ∧ (h.1 = 0 ∧ h.2.1 = nI 0 ∧ h.2.2.1 = 0 ∧ ∀ a b, h.2.2.2.1 a b = 0) ∧ (s.1 = 0 ∧ s.2.1 = 0 ∧ s.2.2.1 = 0 ∧ ∀ i, s.2.2.2.2.1 i = false) ∧ t.1 = 0 ∧ t.2.2.1 = 0 := by
  have e0 : nI 0 = mk (fun _ => false) := mk_0
  refine ⟨(0, nI 0, 0, fun _ _ => 0, fun _ _ => 0), (0, 0, 0, fun _ => 0, fun _ => false, fun _ _ => 0), (0, fun _ => 0, 0, fun _ _ => 0, false, 0, 0, 0), fun _ => 0, (fun _ => -1, fun _ => 0, fun _ _ => nI 0), (false, (0, nI 0, 0, fun _ _ => 0, fun _ _ => 0), (0, 0, 0, fun _ => 0, fun _ => false, fun _ _ => 0), (0, fun _ => 0, 0, fun _ _ => 0, false, 0, 0, 0)), ⟨?_, ?_, ?_, ?_, ?_, ?_, ?_, Or.inl (z _ _ (by omega)), Or.inl (z _ _ (by omega))⟩, ?_, ⟨rfl, rfl, rfl, fun _ _ => rfl⟩, ⟨rfl, rfl, rfl, fun _ => rfl⟩, rfl, rfl⟩
  · refine ⟨z _ _ (by omega), z _ _ (by omega), z _ _ (by omega), fun a ha => ?_, fun a ha => ?_, fun g hg => absurd hg (Nat.not_lt_zero g)⟩
    · rw [z _ _ (by omega), e0]; exact mk_ext (fun i _ => rfl)
    · rw [z _ _ (by omega), e0]; exact mk_ext (fun i _ => rfl)
  · exact fun a ha => absurd ha (Nat.not_lt_zero a)
  · refine ⟨z _ _ (by omega), ?_, z _ _ (by omega), z _ _ (by omega), fun i hi => absurd hi (Nat.not_lt_zero i), fun i hi => absurd hi (Nat.not_lt_zero i)⟩
    rw [z _ _ (by omega), e0]
    exact mk_ext (fun i _ => by simp)
  · exact ⟨z _ _ (by omega), z _ _ (by omega), (z _ _ (by omega)).trans bI_f.symm, fun w => absurd w (by decide), fun i hi => absurd hi (Nat.not_lt_zero i), fun i hi => absurd hi (Nat.not_lt_zero i)⟩
  · exact ⟨z _ _ (by omega), fun i hi => absurd hi (Nat.not_lt_zero i)⟩
  · exact fun s hs => ⟨z88 s hs, z _ _ (by omega), fun i _ => z _ _ (by omega)⟩
  · exact ⟨(z _ _ (by omega)).trans bI_f.symm, fun w => absurd w (by decide)⟩
  · refine ⟨⟨Nat.zero_le _, Nat.zero_le _, fun _ _ => Nat.zero_le _, fun _ _ => rfl, fun _ => rfl, fun _ _ w => absurd rfl w, fun g hg => absurd hg (Nat.not_lt_zero g)⟩, ⟨Nat.zero_le _, Nat.zero_le _, Or.inr ⟨rfl, rfl, rfl⟩, fun i hi => absurd hi (Nat.not_lt_zero i), fun i hi => absurd hi (Nat.not_lt_zero i)⟩, ⟨Nat.zero_le _, Nat.zero_le _, fun i hi => absurd hi (Nat.not_lt_zero i), fun i hi => absurd hi (Nat.not_lt_zero i), fun w => absurd w (by decide)⟩, ⟨Nat.zero_le _, fun i hi => absurd hi (Nat.not_lt_zero i)⟩, fun s _ => ⟨Or.inl rfl, Nat.zero_le _⟩, fun w => absurd w (by decide)⟩
theorem gx_999 {M : Mem} {v : Nat} (hv : v < 100) : gx (wr M 999 0 (nI v)) = v := by
  unfold gx
  rw [wr_eq, ix_n (by omega)]
theorem law_main {X : HX} {L : Nat} {xs : Nat → Int32} {Q : Int32 → Mem → Prop} (C : LC mdL_law 9 600000 7302250 X L xs) (R : RT mdL_law X 186 2099 Q) (hQ : ∀ M, Q (nI 1) M) {M : Mem} (z : ∀ c k, c ≠ 88 → M c k = nI 0) (z88 : ∀ k, k < 4 → M 88 k = -1) : SW mdL_law X 182 2017 8 [(0, .ref (bX X)), (1, .ref (BX X + 0))] [] (w0 M) := by
  have hL := LC_L C
  obtain ⟨h, s, t, tp, x, kx, I, O, ⟨a1, a2, a3, a4⟩, ⟨b1, b2, b3, b4⟩, t1, t2⟩ := C_init z z88
  refine T_L_law C R (s_lays hL I O a1 a2 a3 a4 (fun M0 n h1 f0 hn4 hn8 I0 O0 h1n h1g hdk => ?_))
  have z0 : ∀ c k, 182 ≤ c → M0 c k = nI 0 := fun c k hc => (f0 c k hc).trans (z c k (by omega))
  have g0 : gx M0 = 0 := by unfold gx; rw [z0 _ _ (by omega), ix_n (by omega)]
  refine ⟨⟨g0, fun j => z0 _ _ (by omega)⟩, fun w => absurd ((n_le0 (by omega)).mp w) (by omega), fun _ => ?_⟩
  have I1 : IC (wr M0 999 0 (nI 1)) h1 s t 0 tp x kx := I0.far O0 (fun c k hc => wr_nc _ _ _ _ (by omega))
  have z1 : ∀ c k, 182 ≤ c → c ≠ 999 → wr M0 999 0 (nI 1) c k = nI 0 := fun c k hc hc2 => (wr_nc _ _ _ _ hc2).trans (z0 c k hc)
  have g1 : gx (wr M0 999 0 (nI 1)) = 1 := gx_999 (by omega)
  generalize wr M0 999 0 (nI 1) = Mb at I1 z1 g1
  refine s_walks hL I1 O0 hn4 hn8 h1n h1g hdk g1 (fun M2 h2 tp2 f2 I2 O2 h2n h2d => ?_)
  have hG := O2.1.2.1
  refine T_L_law_34 C R ⟨fun w => absurd w (nI_pos (by omega)), fun _ => T_L_law_46 C R ?_⟩
  have hdk2 : ∀ a b, a < n → b < n → h2.2.2.2.1 a b = dkP L xs n (n + 1) a b := fun a b ha hb => by rw [h2d]; exact hdk a b ha hb
  refine l_trips (M := Mb) C R O2 hn4 hn8 h2n (fun M3 f3 I3 => ?_) 6 0 M2 (by omega) f2 I2
  refine T_L_law_310 C R ⟨fun w => absurd w (by decide), fun _ => ?_⟩
  have hire := s_hires (L := L) (xs := xs) hL I3 O2 (by omega) b1 b2 b3 b4 (Q := fun r1 M1 => P_L_law_325 X M1 (nI n) (nI 1) r1) (fun M4 s4 f4 I4 O4 c1 c2 c3 c4 c5 => by
    refine T_L_law_325 C R ⟨fun w => absurd w (by decide), fun _ => ⟨fun w => absurd ((n_le0 (by omega)).mp w) (by omega), fun _ => ?_⟩⟩
    refine l_staff (M := Mb) C R O4 c1 c3 c4 c5 (fun M5 f5 I5 O5 => ?_) (f3.fr f4) I4
    have y5 : ∀ c k, 182 < c → c ≠ 999 → M5 c k = nI 0 := fun c k hc hc2 => (f5 c k hc).trans (z1 c k (by omega) hc2)
    have g5 : gx M5 = 1 := by rw [← g1]; unfold gx; rw [f5 _ _ (by omega)]
    refine T_L_law_516 C R ⟨⟨g5, fun j => y5 _ _ (by omega) (by omega)⟩, ⟨gx_999 (by omega), fun j => by rw [wr_nc _ _ _ _ (by omega)]; exact y5 _ _ (by omega) (by omega)⟩, ⟨gx_999 (by omega), fun j => by rw [wr_nc _ _ _ _ (by omega), wr_nc _ _ _ _ (by omega)]; exact y5 _ _ (by omega) (by omega)⟩, ?_⟩
    obtain ⟨ff, hff, ef⟩ := cl_rem L xs (nI 15) (n := 3) (by omega) (by omega)
    rw [ef, n_add]
    have I6 : IC (wr (wr (wr M5 999 0 (nI 2)) 999 0 (nI 3)) 999 0 (nI 4)) h2 s4 t 0 tp2 x (true, h2, s4, t) := I5.far O5 (fun c k hc => by rw [wr_nc _ _ _ _ (by omega), wr_nc _ _ _ _ (by omega), wr_nc _ _ _ _ (by omega)])
    refine l_folk (F := 2 + ff) C R (by omega) hn4 hn8 h2n (fun M7 t7 c7 I7 O7 tk7 fk7 => ?_) (2 + ff) 0 _ t (fun _ => 0) (by omega) I6 O5 ⟨t1, fun f hf => absurd hf (by omega)⟩ t2 (fun f hf => absurd hf (by omega)) (gx_999 (by omega))
    obtain ⟨rm, hrm, er⟩ := cl_rem L xs (nI 17) (n := n) (by omega) (by omega)
    refine T_L_law_610 C R ⟨by rw [n_eq0 (by omega)]; omega, ?_⟩
    rw [er]
    exact l_ticks C R (by omega) hn4 hn8 h2n hrm hdk2 (fun M8 t8 W c I8 O8 tk8 fk8 => l_end C R hQ (by omega) hn4 hn8 h2n hrm I8 O8 tk8 fk8) 24 0 M7 t7 (fun _ _ => 0) c7 (by omega) I7 O7 tk7 (fk7 rm))
  rw [h2n] at hire
  exact hire
