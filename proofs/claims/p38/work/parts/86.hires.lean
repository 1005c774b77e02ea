/-! ===== hires: servants and errands ===== -/
theorem s_hires {L : Nat} {xs : Nat → Int32} (hL : L ≤ 260) {M : Mem} {h : HS} {s : SS} {t : TS} {z : Nat} {tp : Nat → Nat} {x : WS} {kx : KS} (I : IC M h s t z tp x kx) (O : IO h s t z tp x kx) (hn : 4 ≤ h.1) (e0 : s.1 = 0) (e1 : s.2.1 = 0) (e2 : s.2.2.1 = 0) (e3 : ∀ i, s.2.2.2.2.1 i = false) {Q : Int32 → Mem → Prop}
    (K : ∀ M' s', far M' M → IC M' h s' t z tp x kx → IO h s' t z tp x kx → 1 ≤ s'.1 → s'.1 ≤ 3 → 1 ≤ s'.2.1 → s'.2.1 ≤ 4 → (∀ i, s'.2.2.2.2.1 i = false) → Q (nI s'.2.1) M') : C_L_hires L xs M (nI h.1) Q := by
  have hn8 := O.1.1
  refine HLc_of (by decide +kernel) (fun _ _ => Nat.le_of_ble_eq_true rfl) rfl hL (fun X C R => T_L_hires C R ?_)
  obtain ⟨c, hc, ec⟩ := cl_srem L xs (nI 4) (s := 2) (by omega) (n := h.1) (by omega) (by omega)
  obtain ⟨sv, hsv, es⟩ := cl_rem L xs (nI 4) (n := 3) (by omega) (by omega)
  obtain ⟨er, her, ee⟩ := cl_srem L xs (nI 4) (s := 20) (by omega) (n := 4) (by omega) (by omega)
  rw [ec, es, n_add]
  have errs : ∀ d k (M1 : Mem) (s1 : SS), k + d = 1 + er → far M1 M → IC M1 h s1 t z tp x kx → IO h s1 t z tp x kx → 1 ≤ s1.1 → s1.1 ≤ 3 → s1.2.1 = k → (∀ i, s1.2.2.2.2.1 i = false) → P_L_hires_101 X M1 (nI h.1) (nI 1) (nI (1 + er)) (nI k) := by
    intro d
    induction d with
    | zero =>
      intro k M1 s1 hk f1 I1 O1 a1 a2 a3 a4
      refine T_L_hires_101 C R ?_
      rw [n_le (by omega) (by omega)]
      refine ⟨fun _ => ⟨fun w => absurd w (by decide), fun _ => ?_⟩, fun w => absurd (by omega) w⟩
      have := K M1 s1 f1 I1 O1 a1 a2 (by omega) (by omega) a4
      rw [show s1.2.1 = 1 + er by omega] at this
      exact this
    | succ d ih =>
      intro k M1 s1 hk f1 I1 O1 a1 a2 a3 a4
      refine T_L_hires_101 C R ?_
      rw [n_add 5 k, n_add k 1]
      obtain ⟨r, hr, er1⟩ := cl_srem L xs (nI (5 + k)) (s := 1) (by omega) (n := h.1) (by omega) (by omega)
      obtain ⟨rk, hrk, er2⟩ := cl_srem L xs (nI (5 + k)) (s := 5) (by omega) (n := 9) (by omega) (by omega)
      obtain ⟨fr, hfr, er3⟩ := cl_srem L xs (nI (5 + k)) (s := 8) (by omega) (n := 16) (by omega) (by omega)
      obtain ⟨du, hdu, er4⟩ := cl_srem L xs (nI (5 + k)) (s := 12) (by omega) (n := 8) (by omega) (by omega)
      rw [er1, er2, er3, er4, and1_n, n_add 1 rk, n_add fr du, n_le (by omega) (by omega), n_lt0 (by omega)]
      have kb : (bt (clI L xs (nI (5 + k))) 0).toNat ≤ 1 := by cases bt (clI L xs (nI (5 + k))) 0 <;> decide
      refine ⟨fun w => absurd w (by omega), fun _ => ⟨fun w => absurd w (by decide), fun _ => ⟨fun w => w, by rw [n_eq0 (by omega)]; omega, ?_⟩⟩⟩
      refine z_errand I1 O1 kb hr (by omega) (by omega) (by omega) (by omega) (by omega) (fun M2 f2 I2 O2 => ?_)
      rw [a3, n_eq (by omega) (by omega)]
      exact ⟨fun w => absurd rfl w, fun _ => ih (k + 1) M2 _ (by omega) (f1.tr f2) I2 O2 a1 a2 (by show s1.2.1 + 1 = k + 1; omega) a4⟩
  have servs : ∀ d k (M1 : Mem) (s1 : SS), k + d = 1 + sv → far M1 M → IC M1 h s1 t z tp x kx → IO h s1 t z tp x kx → s1.1 = k → s1.2.1 = 0 → (∀ i, s1.2.2.2.2.1 i = false) → P_L_hires_36 X M1 (nI h.1) (nI (1 + sv)) (nI 1) (nI k) := by
    intro d
    induction d with
    | zero =>
      intro k M1 s1 hk f1 I1 O1 a1 a2 a3
      refine T_L_hires_36 C R ?_
      rw [n_le (by omega) (by omega), ee, n_add 1 er]
      exact ⟨fun _ => errs (1 + er) 0 M1 s1 (by omega) f1 I1 O1 (by omega) (by omega) a2 a3, fun w => absurd (by omega) w⟩
    | succ d ih =>
      intro k M1 s1 hk f1 I1 O1 a1 a2 a3
      refine T_L_hires_36 C R ?_
      obtain ⟨r, hr, er1⟩ := cl_srem L xs (nI 4) (s := 6 + 4 * k) (by omega) (n := h.1) (by omega) (by omega)
      rw [n_mul, n_add 6, er1, n_add k 1, n_le (by omega) (by omega)]
      refine ⟨fun w => absurd w (by omega), fun _ => ⟨fun w => absurd w (by decide), fun _ => ⟨by rw [n_eq0 (by omega)]; omega, ?_⟩⟩⟩
      refine z_servant I1 O1 hr (by omega) (fun M2 f2 I2 O2 => ?_)
      rw [a1, n_eq (by omega) (by omega)]
      refine ⟨fun w => absurd rfl w, fun _ => ih (k + 1) M2 _ (by omega) (f1.tr f2) I2 O2 (by show s1.1 + 1 = k + 1; omega) a2 (fun i => ?_)⟩
      show (if i = s1.1 then false else s1.2.2.2.2.1 i) = false
      split
      · rfl
      · exact a3 i
  refine ⟨by rw [n_eq0 (by omega)]; omega, z_cellar I O hc (fun M1 f1 I1 O1 => ?_)⟩
  rw [e2, n_eq0 (by omega)]
  exact ⟨fun w => absurd rfl w, fun _ => servs (1 + sv) 0 M1 _ (by omega) f1 I1 O1 e0 e1 e3⟩
