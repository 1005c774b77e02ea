/-! ===== the law's trips: with coals nobody is met, without them it is no later ===== -/
theorem pt_rc {h : HS} (O : HO h) {co : Bool} {a t e b : Nat} (ha : a < h.1) (hte : t ≤ e) (hb : rc h co a t (e - t) b = true) {j : Nat} (hj : j ≤ e - t) : rc h co a t j (pt h co a t e b j) = true := by
  have h2 := (pt_ok O ha hte hb j hj).2
  cases hi : e - (t + j) with
  | zero =>
    rw [hi] at h2
    have e1 : pt h co a t e b j = b := of_decide_eq_true h2
    rw [e1, show j = e - t by omega]
    exact hb
  | succ i =>
    rw [hi] at h2
    have h3 : rc h co a t (e - (i + 1) - t) (pt h co a t e b j) = true := (Bool.and_eq_true _ _ ▸ h2 : _ ∧ _).1
    rw [show e - (i + 1) - t = j by omega] at h3
    exact h3
theorem pt_mv {h : HS} (O : HO h) {co : Bool} {a t e b : Nat} (ha : a < h.1) (hte : t ≤ e) (hb : rc h co a t (e - t) b = true) {j : Nat} (hj : j < e - t) : mv h co (t + j) (pt h co a t e b j) (pt h co a t e b (j + 1)) = true := by
  obtain ⟨h1, h2⟩ := pt_ok O ha hte hb j (by omega)
  rw [show e - (t + j) = (e - (t + (j + 1))) + 1 by omega] at h2
  have h3 : anyN _ _ = true := (Bool.and_eq_true _ _ ▸ h2 : _ ∧ _).2
  obtain ⟨o, ho, h4⟩ := anyN_iff.mp h3
  rw [show e - (e - (t + (j + 1)) + 1) = t + j by omega] at h4
  have hl : lst (fun o => gd h co a t e b (e - (t + (j + 1))) o && mv h co (t + j) (pt h co a t e b j) o) h.1 0 < h.1 := by
    apply Classical.byContradiction
    intro q
    have := lst_no (fun o => gd h co a t e b (e - (t + (j + 1))) o && mv h co (t + j) (pt h co a t e b j) o) h.1 0 o (by omega) (by omega)
    rw [h4] at this; cases this
  have := lst_is (fun o => gd h co a t e b (e - (t + (j + 1))) o && mv h co (t + j) (pt h co a t e b j) o) h.1 0 (by omega)
  simp only [Bool.and_eq_true] at this
  exact this.2
theorem mv_met {h : HS} {u a b : Nat} (hm : mv h true u a b = true) : met h b (u + 1) = false := by
  unfold mv at hm
  simp only [Bool.and_eq_true, Bool.not_true, Bool.false_or, Bool.not_eq_true'] at hm
  exact hm.2.1
theorem mv_cross {h : HS} {u a b : Nat} (hm : mv h true u a b = true) (hab : a ≠ b) {g : Nat} (hg : g < h.2.2.1) (h1 : h.2.2.2.2 g u = b) : h.2.2.2.2 g (u + 1) ≠ a := by
  intro h2
  unfold mv at hm
  simp only [Bool.and_eq_true, Bool.not_true, Bool.false_or, Bool.or_eq_true, decide_eq_true_eq, Bool.not_eq_true'] at hm
  rcases hm.2.2 with w | w
  · exact hab w
  · have : anyN (fun g => decide (h.2.2.2.2 g u = b) && decide (h.2.2.2.2 g (u + 1) = a)) h.2.2.1 = true := anyN_iff.mpr ⟨g, hg, by rw [decide_eq_true h1, decide_eq_true h2]; rfl⟩
    rw [w] at this; cases this
theorem met_no {h : HS} {r u : Nat} (hm : met h r u = false) {g : Nat} (hg : g < h.2.2.1) : h.2.2.2.2 g u ≠ r := by
  intro w
  have : met h r u = true := anyN_iff.mpr ⟨g, hg, decide_eq_true w⟩
  rw [hm] at this; cases this
theorem rc_met {h : HS} {a t : Nat} : ∀ {j x : Nat}, rc h true a t j x = true → met h x (t + j) = false := by
  intro j
  cases j with
  | zero =>
    intro x hx
    have hx : (decide (x = a) && !(true && met h a t)) = true := hx
    simp only [Bool.and_eq_true, Bool.true_and, decide_eq_true_eq, Bool.not_eq_true'] at hx
    rw [hx.1]; exact hx.2
  | succ j =>
    intro x hx
    obtain ⟨y, hy, h3⟩ := anyN_iff.mp (show anyN _ _ = true from hx)
    rw [Bool.and_eq_true] at h3
    exact mv_met h3.2
theorem rc_free {h : HS} {a t : Nat} : ∀ {j x : Nat}, rc h true a t j x = true → rc h false a t j x = true := by
  intro j
  induction j with
  | zero =>
    intro x hx
    have hx : (decide (x = a) && !(true && met h a t)) = true := hx
    simp only [Bool.and_eq_true] at hx
    show (decide (x = a) && !(false && met h a t)) = true
    rw [hx.1]; rfl
  | succ j ih =>
    intro x hx
    obtain ⟨y, hy, h3⟩ := anyN_iff.mp (show anyN _ _ = true from hx)
    rw [Bool.and_eq_true] at h3
    have h5 : mv h false (t + j) y x = true := by
      have := h3.2
      unfold mv at this ⊢
      simp only [Bool.and_eq_true] at this
      rw [this.1]; rfl
    show anyN _ _ = true
    exact anyN_iff.mpr ⟨y, hy, by rw [ih h3.1, h5]; rfl⟩
theorem ed_free {h : HS} {a t b : Nat} (ht : t < 24) (he : ed h true a t b < 24) : ed h false a t b ≤ ed h true a t b := by
  have h1 := rc_free (ed_rc he ht)
  have h2 : t ≤ ed h true a t b := (lst_le _ _ _).1
  apply Classical.byContradiction
  intro q
  have h3 := lst_no (fun u => rc h false a t (u - t) b) (24 - t) t (ed h true a t b) h2 (by unfold ed at q ⊢; omega)
  have h3 : rc h false a t (ed h true a t b - t) b = false := h3
  rw [h1] at h3; cases h3
theorem tripA_e {h : HS} {co : Bool} {a t b : Nat} : tripA h co a t b (-1) = if ed h co a t b = 24 then -4 else nI (ed h co a t b) := by
  unfold tripA
  split
  · rfl
  · rw [if_pos (by decide)]
theorem tripA_k {h : HS} {co : Bool} {a t b k : Nat} (he : ed h co a t b < 24) (h1 : t ≤ k) (h2 : k ≤ ed h co a t b) : tripA h co a t b (nI k) = nI (pt h co a t (ed h co a t b) b (k - t)) := by
  unfold tripA
  rw [if_neg (by omega), if_neg (nI_pos (by omega)), if_pos (by rw [rng_n (by omega)]; exact decide_eq_true (by omega)), ix_n (by omega)]
theorem ed_le24 (h : HS) (co : Bool) {a t b : Nat} (ht : t < 24) : ed h co a t b ≤ 24 := by
  have := lst_le (fun u => rc h co a t (u - t) b) (24 - t) t
  unfold ed; omega
theorem m4_lt : ∀ u, u < 24 → (-4 : Int32) < nI u := by decide
theorem l_trips {X : HX} {L : Nat} {xs : Nat → Int32} {Q : Int32 → Mem → Prop} (C : LC mdL_law 9 600000 7302250 X L xs) (R : RT mdL_law X 186 2099 Q) {M : Mem} {h : HS} {s : SS} {t : TS} {z : Nat} {tp : Nat → Nat} {x : WS} {kx : KS} (O : IO h s t z tp x kx) {n : Nat} (hn4 : 4 ≤ n) (hn8 : n ≤ 8) (hh : h.1 = n)
    (NEXT : ∀ M2, fA M2 M → IC M2 h s t z tp x kx → P_L_law_310 X M2 (nI n) (nI 1)) :
    ∀ d k M1, k + d = 6 → fA M1 M → IC M1 h s t z tp x kx → P_L_law_51 X M1 (nI n) (nI h.2.2.1) (nI 1) (nI k) := by
  have hG := O.1.2.1
  intro d
  induction d with
  | zero =>
    intro k M1 hk f1 I1
    refine T_L_law_51 C R ?_
    rw [n_le (by omega) (by omega)]
    exact ⟨fun _ => NEXT M1 f1 I1, fun w => absurd (by omega) w⟩
  | succ d ih =>
    intro k M1 hk f1 I1
    refine T_L_law_51 C R ?_
    obtain ⟨a, ha, ea⟩ := cl_rem L xs (nI (9 + k)) (n := n) (by omega) (by omega)
    obtain ⟨b, hb, eb⟩ := cl_srem L xs (nI (9 + k)) (s := 4) (by omega) (n := n) (by omega) (by omega)
    obtain ⟨u, hu, eu⟩ := cl_srem L xs (nI (9 + k)) (s := 8) (by omega) (n := 24) (by omega) (by omega)
    rw [n_le (by omega) (by omega), n_add 9 k, n_lt0 (by omega), ea, eb, eu]
    have ha' : a < h.1 := by omega
    have hb' : b < h.1 := by omega
    refine ⟨fun w => absurd w (by omega), fun _ => ⟨fun w => absurd w (by decide), fun _ => ⟨fun w => w, by rw [n_eq0 (by omega)]; omega, ?_⟩⟩⟩
    refine z_trip I1 O ha' hu hb' true (by decide) (fun M2 f2 I2 => z_trip I2 O ha' hu hb' false (by decide) (fun M3 f3 I3 => ?_))
    have f13 : fA M3 M := (f1.fr f2).fr f3
    have done : ∀ M4, fA M4 M → IC M4 h s t z tp x kx → P_L_law_304 X M4 (nI n) (nI h.2.2.1) (nI 1) (nI k) := fun M4 f4 I4 => by
      refine T_L_law_304 C R ?_
      rw [n_add]
      exact ih (k + 1) M4 (by omega) f4 I4
    have e24 := ed_le24 h true (a := a) (b := b) hu
    rw [tripA_e, tripA_e]
    by_cases he : ed h true a u b = 24
    · rw [if_pos he]
      refine ⟨fun _ => T_L_law_143 C R (T_L_law_148 C R (T_L_law_154 C R ⟨fun _ => done M3 f13 I3, fun w => absurd (m4_lt u hu) w⟩)), fun w => absurd (by decide) w⟩
    · have he2 : ed h true a u b < 24 := by omega
      have hfr := ed_free hu he2
      rw [if_neg he, if_neg (by omega)]
      have hrc := ed_rc he2 hu
      have hue : u ≤ ed h true a u b := (lst_le _ _ _).1
      generalize hE : ed h true a u b = E at *
      rw [n_lt0 (by omega), n_lt0 (by omega), n_lt (by omega) (by omega)]
      refine ⟨fun w => w.elim, fun _ => ⟨fun w => w.elim, fun _ => ⟨fun w => absurd w (by omega), fun _ => T_L_law_143 C R (T_L_law_148 C R ?_)⟩⟩⟩
      -- tick by tick
      have ticks : ∀ e kk M4, kk + e = E + 1 → u ≤ kk → fA M4 M → IC M4 h s t z tp x kx → P_L_law_154 X M4 (nI n) (nI h.2.2.1) (nI 1) (nI k) (nI a) (nI b) (nI u) (nI E) (nI kk) := by
        intro e
        induction e with
        | zero =>
          intro kk M4 hkk hku f4 I4
          refine T_L_law_154 C R ?_
          rw [n_lt (by omega) (by omega)]
          exact ⟨fun _ => done M4 f4 I4, fun w => absurd (by omega) w⟩
        | succ e ihe =>
          intro kk M4 hkk hku f4 I4
          refine T_L_law_154 C R ?_
          rw [n_lt (by omega) (by omega)]
          have hkr : rng (nI kk) (-1) 23 = true := by rw [rng_n (by omega)]; exact decide_eq_true (by omega)
          have hpt := fun j (hj : j ≤ E - u) => (pt_ok O.1 ha' hue hrc j hj).1
          have hp0 := hpt (kk - u) (by omega)
          refine ⟨fun w => absurd w (by omega), fun _ => ⟨fun w => absurd w (by decide), fun _ => z_trip I4 O ha' hu hb' true hkr (fun M5 f5 I5 => ?_)⟩⟩
          rw [tripA_k (by omega) hku (by omega), hE]
          have hR := O.1.1
          rw [n_lt0 (by omega)]
          refine ⟨fun w => w.elim, fun _ => T_L_law_191 C R ?_⟩
          have nomet : met h (pt h true a u E b (kk - u)) kk = false := by
            have := rc_met (pt_rc O.1 ha' hue hrc (j := kk - u) (by omega))
            rw [show u + (kk - u) = kk by omega] at this
            exact this
          have gues : ∀ c g M6, g + c = h.2.2.1 → fA M6 M → IC M6 h s t z tp x kx → P_L_law_196 X M6 (nI n) (nI h.2.2.1) (nI 1) (nI k) (nI a) (nI b) (nI u) (nI E) (nI kk) (nI (pt h true a u E b (kk - u))) (nI g) := by
            intro c
            induction c with
            | zero =>
              intro g M6 hg f6 I6
              refine T_L_law_196 C R ?_
              rw [n_le (by omega) (by omega)]
              refine ⟨fun _ => T_L_law_298 C R ?_, fun w => absurd (by omega) w⟩
              rw [n_add]
              exact ihe (kk + 1) M6 (by omega) (by omega) f6 I6
            | succ c ihc =>
              intro g M6 hg f6 I6
              refine T_L_law_196 C R ?_
              rw [n_le (by omega) (by omega)]
              have hg' : g < h.2.2.1 := by omega
              have nm := met_no nomet hg'
              have gR : ∀ v, v < 24 → h.2.2.2.2 g v < h.1 := fun v hv => O.1.2.2.2.2.2.2 g hg' v hv
              have gk := gR kk (by omega)
              refine ⟨fun w => absurd w (by omega), fun _ => ⟨fun w => absurd w (by decide), fun _ => z_guest I6 O hg' (by omega) ?_⟩⟩
              rw [n_eq (by omega) (by omega)]
              refine ⟨fun w => absurd w nm, fun _ => T_L_law_226 C R ?_⟩
              rw [n_le (by omega) (by omega)]
              have nxt : ∀ M7, fA M7 M → IC M7 h s t z tp x kx → P_L_law_292 X M7 (nI n) (nI h.2.2.1) (nI 1) (nI k) (nI a) (nI b) (nI u) (nI E) (nI kk) (nI (pt h true a u E b (kk - u))) (nI g) := fun M7 f7 I7 => by
                refine T_L_law_292 C R ?_
                rw [n_add]
                exact ihc (g + 1) M7 (by omega) f7 I7
              have ok1 : ∀ M7, fA M7 M → IC M7 h s t z tp x kx → P_L_law_285 X M7 (nI n) (nI h.2.2.1) (nI k) (nI a) (nI b) (nI u) (nI E) (nI kk) (nI (pt h true a u E b (kk - u))) (nI g) := fun M7 f7 I7 => T_L_law_285 C R (T_L_law_290 C R (nxt M7 f7 I7))
              refine ⟨fun _ => nxt M6 f6 I6, fun w => ?_⟩
              have hk1r : rng (nI (kk + 1)) (-1) 23 = true := by rw [rng_n (by omega)]; exact decide_eq_true (by omega)
              rw [n_add kk 1]
              refine z_trip I6 O ha' hu hb' true hk1r (fun M7 f7 I7 => ⟨fun w => absurd w (by decide), fun _ => z_guest I7 O hg' (by omega) ?_⟩)
              rw [tripA_k (by omega) (by omega) (by omega), hE]
              have hp1 := hpt (kk + 1 - u) (by omega)
              have gk1 := gR (kk + 1) (by omega)
              rw [n_eq (by omega) (by omega)]
              refine ⟨fun _ => ok1 M7 (f6.fr f7) I7, fun w2 => z_guest I7 O hg' (by omega) ?_⟩
              rw [n_eq (by omega) (by omega)]
              refine ⟨fun w3 => ?_, fun _ => ok1 M7 (f6.fr f7) I7⟩
              have hm := pt_mv O.1 ha' hue hrc (j := kk - u) (by omega)
              rw [show u + (kk - u) = kk by omega, show kk - u + 1 = kk + 1 - u by omega] at hm
              by_cases hab : pt h true a u E b (kk - u) = pt h true a u E b (kk + 1 - u)
              · exact absurd (w2.trans hab.symm) nm
              · exact absurd w3 (mv_cross hm hab hg' w2)
          exact gues h.2.2.1 0 M5 (by omega) (f4.fr f5) I5
      exact ticks (E + 1 - u) u M3 (by omega) (Nat.le_refl _) f13 I3
