/-! ===== lays: the house ===== -/
theorem s_lays {L : Nat} {xs : Nat → Int32} (hL : L ≤ 260) {M : Mem} {h : HS} {s : SS} {t : TS} {z : Nat} {tp : Nat → Nat} {x : WS} {kx : KS} (I : IC M h s t z tp x kx) (O : IO h s t z tp x kx) (e0 : h.1 = 0) (e1 : h.2.1 = nI 0) (e2 : h.2.2.1 = 0) (e3 : ∀ a b, h.2.2.2.1 a b = 0) {Q : Int32 → Mem → Prop}
    (K : ∀ M' n h', far M' M → 4 ≤ n → n ≤ 8 → IC M' h' s t z tp x kx → IO h' s t z tp x kx → h'.1 = n → h'.2.2.1 = 0 → (∀ a b, a < n → b < n → h'.2.2.2.1 a b = dkP L xs n (n + 1) a b) → Q (nI n) M') : C_L_lays L xs M Q := by
  refine HLc_of (by decide +kernel) (fun _ _ => Nat.le_of_ble_eq_true rfl) rfl hL (fun X C R => T_L_lays C R ?_)
  obtain ⟨c, hc, ec⟩ := cl_rem L xs (nI 0) (n := 5) (by omega) (by omega)
  rw [ec, n_add]
  generalize hn : 4 + c = n
  have hn4 : 4 ≤ n := by omega
  have hn8 : n ≤ 8 := by omega
  have doors : ∀ d m (M1 : Mem) (h1 : HS), m + d = n → far M1 M → IC M1 h1 s t z tp x kx → IO h1 s t z tp x kx → h1.1 = n → h1.2.1 = nI m → h1.2.2.1 = 0 → (∀ a b, a < n → b < n → h1.2.2.2.1 a b = dkP L xs n m a b) → P_L_lays_49 X M1 (nI n) (nI 1) (nI m) := by
    intro d
    induction d with
    | zero =>
      intro m M1 h1 hm f1 I1 O1 a1 a2 a3 a4
      have : m = n := by omega
      subst this
      refine T_L_lays_49 C R ?_
      rw [n_le (by omega) (by omega), kk_e _ _ (by omega), n_add]
      refine ⟨fun _ => ⟨fun w => absurd w (by decide), fun _ => ?_⟩, fun w => absurd (Nat.le_refl _) w⟩
      refine z_door I1 O1 (r := m) (by omega) (by omega) (by omega) (kk_lt L xs 12) (by rw [a4 0 2 (by omega) (by omega)]; exact dkP_no2 hn4) a2 (by omega) (fun M2 f2 I2 O2 => ?_)
      rw [n_eq (by omega) (by omega)]
      refine ⟨fun w => absurd rfl w, fun _ => K M2 m _ (f1.tr f2) hn4 hn8 I2 O2 a1 a3 (fun a b ha hb => ?_)⟩
      show setD h1.2.2.2.1 0 2 (kk L xs 12 + 1) a b = _
      rw [← dkP_chord hn4 ha hb]
      unfold setD
      rw [a4 a b ha hb]
    | succ d ih =>
      intro m M1 h1 hm f1 I1 O1 a1 a2 a3 a4
      refine T_L_lays_49 C R ?_
      have hml : (m + 1) % n < n := Nat.mod_lt _ (by omega)
      have hmn : m ≠ (m + 1) % n := by
        by_cases e : m + 1 = n
        · rw [e, Nat.mod_self]; omega
        · rw [Nat.mod_eq_of_lt (by omega)]; omega
      rw [n_le (by omega) (by omega), n_add m 1, n_rem (by omega) (by omega) (by omega), n_add 3 m, kk_e L xs (j := 3 + m) (by omega)]
      refine ⟨fun w => absurd w (by omega), fun _ => ⟨fun w => absurd w (by decide), fun _ => ⟨by rw [n_eq0 (by omega)]; omega, ?_⟩⟩⟩
      refine z_door I1 O1 (r := m) (by omega) (by omega) hmn (kk_lt L xs (3 + m)) (by rw [a4 m _ (by omega) hml]; exact dkP_no hn4 (by omega)) a2 (by omega) (fun M2 f2 I2 O2 => ?_)
      rw [n_eq (by omega) (by omega)]
      refine ⟨fun w => absurd rfl w, fun _ => ih (m + 1) M2 _ (by omega) (f1.tr f2) I2 O2 a1 rfl a3 (fun a b ha hb => ?_)⟩
      show setD h1.2.2.2.1 m ((m + 1) % n) (kk L xs (3 + m) + 1) a b = _
      rw [← dkP_ring hn4 (by omega) ha hb]
      unfold setD
      rw [a4 a b ha hb]
  have rooms : ∀ d r (M1 : Mem) (h1 : HS), r + d = n → far M1 M → IC M1 h1 s t z tp x kx → IO h1 s t z tp x kx → h1.1 = r → h1.2.1 = nI 0 → h1.2.2.1 = 0 → (∀ a b, h1.2.2.2.1 a b = 0) → P_L_lays_15 X M1 (nI n) (nI 1) (nI r) := by
    intro d
    induction d with
    | zero =>
      intro r M1 h1 hr f1 I1 O1 a1 a2 a3 a4
      refine T_L_lays_15 C R ?_
      rw [n_le (by omega) (by omega)]
      exact ⟨fun _ => doors n 0 M1 h1 (by omega) f1 I1 O1 (by omega) a2 a3 (fun a b _ _ => by rw [a4, dkP_0 hn4]), fun w => absurd (by omega) w⟩
    | succ d ih =>
      intro r M1 h1 hr f1 I1 O1 a1 a2 a3 a4
      refine T_L_lays_15 C R ?_
      rw [n_le (by omega) (by omega), n_add]
      refine ⟨fun w => absurd w (by omega), fun _ => ⟨fun w => absurd w (by decide), fun _ => z_room I1 O1 (by omega) (fun M2 f2 I2 O2 => ?_)⟩⟩
      rw [a1, n_eq (by omega) (by omega)]
      exact ⟨fun w => absurd rfl w, fun _ => ih (r + 1) M2 _ (by omega) (f1.tr f2) I2 O2 (by show h1.1 + 1 = r + 1; omega) a2 a3 a4⟩
  exact rooms n 0 M h (by omega) (far.rf M) I O e0 e1 e2 e3
