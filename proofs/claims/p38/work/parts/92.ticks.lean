/-! ===== the law's ticks: each goes on, or stays ===== -/
section Ticks
variable {X : HX} {L : Nat} {xs : Nat → Int32} {Q : Int32 → Mem → Prop} {h : HS} {s : SS} {z : Nat} {tp : Nat → Nat} {x : WS} {kx : KS} {n F room : Nat}
theorem gx_184 {M : Mem} {k : Nat} {v : Int32} : gx (wr M 184 k v) = gx M := gx_wr (by omega)
theorem l_move (C : LC mdL_law 9 600000 7302250 X L xs) (R : RT mdL_law X 186 2099 Q) (hF : F ≤ 5) (hn4 : 4 ≤ n) (hn8 : n ≤ 8) (hh : h.1 = n) (hroom : room < n) (hdk : ∀ a b, a < n → b < n → h.2.2.2.1 a b = dkP L xs n (n + 1) a b) {T : Nat} (hT : T < 24) {W : Nat → Nat → Nat} {p : Nat → Nat} {t : TS} (O : IO h s t z tp x kx)
    (NEXT : ∀ M W' c, IC M h s t z tp x kx → FK M h t F room W' c (T + 1) → P_L_law_760 X M (nI n) (nI 1) (nI F) (nI room) (nI 0) (nI T) (nI 0))
    (k1 : WK h F W T) (k2 : SY t W T) (k4 : ∀ f, f < F → 0 < T → p f = W f (T - 1)) :
    ∀ (d g : Nat) (M : Mem) (c : Nat → Nat), g + d = F → IC M h s t z tp x kx → (∀ f, f < F → M 184 f = nI (c f) ∧ c f < h.1) → (∀ f, f < F → g ≤ f → c f = p f) → (∀ f, f < F → (T = 0 → c f = p f) ∧ (p f = c f ∨ h.2.2.2.1 (p f) (c f) ≠ 0)) → (∀ f, f < F → M 185 f = nI (if T = 0 then p f else W f 0)) → (∀ u, u < T → M 183 u = mk (fun f => decide (f < F) && decide (W f u = room))) → gx M = 4 →
      P_L_law_644 X M (nI n) (nI 1) (nI F) (nI room) (nI 0) (nI T) (mk (fun f => decide (f < g) && decide (c f = room))) (nI g) := by
  have hR := O.1.1
  intro d
  induction d with
  | zero =>
    intro g M c hg I c1 c2 c3 c5 c6 c7
    refine T_L_law_644 C R ?_
    rw [n_le (by omega) (by omega), vin (by omega), ix_n (by omega)]
    refine ⟨fun _ => ⟨⟨by omega, hT⟩, ?_⟩, fun w => absurd (by omega) w⟩
    refine NEXT _ (fun f u => if u = T then c f else W f u) c (I.far O (fun c k hc => wr_nc _ _ _ _ (by omega))) ⟨⟨fun f hf u hu => ?_, fun f hf u hu => ?_⟩, fun k hk => ?_, fun f hf => ?_, fun f hf _ => ?_, fun f hf => ?_, fun u hu => ?_, ?_⟩
    · show (if u = T then c f else W f u) < h.1
      by_cases e : u = T
      · rw [if_pos e]; exact (c1 f hf).2
      · rw [if_neg e]; exact k1.1 f hf u (by omega)
    · show (if u = T then c f else W f u) = (if u + 1 = T then c f else W f (u + 1)) ∨ h.2.2.2.1 (if u = T then c f else W f u) (if u + 1 = T then c f else W f (u + 1)) ≠ 0
      rw [if_neg (by omega)]
      by_cases e : u + 1 = T
      · rw [if_pos e, show W f u = p f from by rw [k4 f hf (by omega), show T - 1 = u by omega]]
        exact (c3 f hf).2
      · rw [if_neg e]; exact k1.2 f hf u (by omega)
    · obtain ⟨s1, s2, s3⟩ := k2 k hk
      refine ⟨by omega, ?_, ?_⟩
      · show (if t.2.2.2.1 k 3 = T then _ else W (t.2.2.2.1 k 0) (t.2.2.2.1 k 3)) = _
        rw [if_neg (by omega)]; exact s2
      · show (if t.2.2.2.1 k 3 = T then _ else W (t.2.2.2.1 k 1) (t.2.2.2.1 k 3)) = _
        rw [if_neg (by omega)]; exact s3
    · rw [wr_nc _ _ _ _ (by omega)]; exact c1 f hf
    · show c f = (if T + 1 - 1 = T then c f else _)
      rw [if_pos (by omega)]
    · rw [wr_nc _ _ _ _ (by omega), c5 f hf, if_neg (show ¬ T + 1 = 0 by omega)]
      show nI (if T = 0 then p f else W f 0) = nI (if 0 = T then c f else W f 0)
      by_cases e : T = 0
      · rw [if_pos e, if_pos e.symm, (c3 f hf).1 e]
      · rw [if_neg e, if_neg (fun w => e w.symm)]
    · by_cases e : u = T
      · subst e
        rw [wr_eq, show g = F by omega]
        exact mk_ext (fun i _ => by simp)
      · rw [wr_nk _ _ _ _ e, c6 u (by omega)]
        exact mk_ext (fun i _ => by simp [e])
    · rw [← c7]; exact gx_wr (by omega)
  | succ d ih =>
    intro g M c hg I c1 c2 c3 c5 c6 c7
    have hgF : g < F := by omega
    obtain ⟨cg1, cg2⟩ := c1 g hgF
    have hcp := c2 g hgF (Nat.le_refl _)
    have go : ∀ q, q < n → (T = 0 → q = c g) → (c g = q ∨ h.2.2.2.1 (c g) q ≠ 0) → P_L_law_720 X M (nI n) (nI 1) (nI F) (nI room) (nI 0) (nI T) (mk (fun f => decide (f < g) && decide (c f = room))) (nI g) (nI g) (nI q) := by
      intro q hq q0 q1
      have nxt : ∀ v, v = mk (fun f => decide (f < g + 1) && decide ((if f = g then q else c f) = room)) → P_L_law_644 X (wr M 184 g (nI q)) (nI n) (nI 1) (nI F) (nI room) (nI 0) (nI T) v (nI (g + 1)) := by
        intro v hv
        rw [hv]
        refine ih (g + 1) _ (fun f => if f = g then q else c f) (by omega) (I.far O (fun c k hc => wr_nc _ _ _ _ (by omega))) (fun f hf => ?_) (fun f hf hgf => ?_) (fun f hf => ?_) (fun f hf => by rw [wr_nc _ _ _ _ (by omega)]; exact c5 f hf) (fun u hu => by rw [wr_nc _ _ _ _ (by omega)]; exact c6 u hu) (by rw [gx_184]; exact c7)
        · by_cases e : f = g
          · subst e; rw [wr_eq, if_pos rfl]; exact ⟨rfl, by omega⟩
          · rw [wr_nk _ _ _ _ e, if_neg e]; exact c1 f hf
        · show (if f = g then q else c f) = p f
          rw [if_neg (by omega)]; exact c2 f hf (by omega)
        · by_cases e : f = g
          · subst e; simp only [if_true]; rw [← hcp]; exact ⟨q0, q1⟩
          · simp only [e, if_false]; exact c3 f hf
      refine T_L_law_720 C R ?_
      rw [vin (by omega), ix_n (by omega), wr_eq, gx_184, n_eq (by omega) (by omega)]
      refine ⟨⟨by omega, by omega⟩, ⟨by omega, by omega⟩, fun w => T_L_law_741 C R ?_, fun w => T_L_law_741 C R ?_⟩
      · rw [n_add, mk_0, mk_or]
        refine nxt _ (mk_ext (fun i _ => ?_))
        by_cases e : i = g
        · subst e; simp [w]
        · simp [e, show (i < g + 1) = (i < g) from by rw [eq_iff_iff]; omega]
      · rw [n_add, mk_one (by omega), mk_or]
        refine nxt _ (mk_ext (fun i _ => ?_))
        by_cases e : i = g
        · subst e; simp [w]
        · simp [e, show (i < g + 1) = (i < g) from by rw [eq_iff_iff]; omega]
    have stay : P_L_law_715 X M (nI n) (nI 1) (nI F) (nI room) (nI 0) (nI T) (mk (fun f => decide (f < g) && decide (c f = room))) (nI g) (nI g) := by
      refine T_L_law_715 C R ?_
      rw [vin (by omega), ix_n (by omega), cg1]
      exact ⟨⟨by omega, by omega⟩, go (c g) (by omega) (fun _ => rfl) (Or.inl rfl)⟩
    refine T_L_law_644 C R ?_
    rw [n_le (by omega) (by omega), n_add 18 g, n_lt0 (by omega), n_le0 (by omega), vin (i := g) (by omega), ix_n (n := g) (by omega), cg1, n_add (c g) n, n_sub (by omega), n_add (c g) 1, n_rem (by omega) (by omega) (by omega), n_rem (by omega) (by omega) (by omega)]
    refine ⟨fun w => absurd w (by omega), fun _ => ⟨fun w => w, fun _ => stay, fun w0 => ⟨fun _ => stay, fun _ => ⟨fun _ => ⟨⟨by omega, by omega⟩, by rw [n_eq0 (by omega)]; omega, ?_⟩, fun _ => ⟨⟨by omega, by omega⟩, by rw [n_eq0 (by omega)]; omega, ?_⟩⟩⟩⟩⟩
    · refine go _ (Nat.mod_lt _ (by omega)) (fun w => absurd w w0) (Or.inr ?_)
      rw [hdk _ _ (by omega) (Nat.mod_lt _ (by omega))]
      exact dkP_down hn4 (by omega)
    · refine go _ (Nat.mod_lt _ (by omega)) (fun w => absurd w w0) (Or.inr ?_)
      rw [hdk _ _ (by omega) (Nat.mod_lt _ (by omega))]
      exact dkP_up hn4 (by omega)
theorem l_ticks (C : LC mdL_law 9 600000 7302250 X L xs) (R : RT mdL_law X 186 2099 Q) (hF : F ≤ 5) (hn4 : 4 ≤ n) (hn8 : n ≤ 8) (hh : h.1 = n) (hroom : room < n) (hdk : ∀ a b, a < n → b < n → h.2.2.2.1 a b = dkP L xs n (n + 1) a b)
    (NEXT : ∀ M t W c, IC M h s t z tp x kx → IO h s t z tp x kx → TK t F → FK M h t F room W c 24 → P_L_law_862 X M (nI 1) (nI F) (nI room) (nI 0)) :
    ∀ (d T : Nat) (M : Mem) (t : TS) (W : Nat → Nat → Nat) (c : Nat → Nat), T + d = 24 → IC M h s t z tp x kx → IO h s t z tp x kx → TK t F → FK M h t F room W c T → P_L_law_626 X M (nI n) (nI 1) (nI F) (nI room) (nI 0) (nI T) := by
  intro d
  induction d with
  | zero =>
    intro T M t W c hT I O tk fk
    have : T = 24 := by omega
    subst this
    refine T_L_law_626 C R ?_
    rw [n_le (by omega) (by omega)]
    exact ⟨fun _ => NEXT M t W c I O tk fk, fun w => absurd (Nat.le_refl _) w⟩
  | succ d ih =>
    intro T M t W c hT I O tk fk
    refine T_L_law_626 C R ?_
    rw [n_le (by omega) (by omega)]
    refine ⟨fun w => absurd w (by omega), fun _ => ⟨fun w => absurd w (by decide), fun _ => ?_⟩⟩
    obtain ⟨k1, k2, k3, k4, k5, k6, k7⟩ := fk
    have go := l_move C R hF hn4 hn8 hh hroom hdk (T := T) (by omega) (p := c) O (fun M2 W' c' I2 fk2 => l_says C R hF hn8 hh (T := T) (by omega) (W := W') (c := c') (fun M3 t3 I3 O3 tk3 fk3 => by
        refine T_L_law_856 C R ?_
        rw [n_add]
        exact ih (T + 1) M3 t3 W' c' (by omega) I3 O3 tk3 fk3) F 0 M2 t (by omega) I2 O tk fk2) k1 k2 k4 F 0 M c (by omega) I k3 (fun _ _ _ => rfl) (fun f hf => ⟨fun _ => rfl, Or.inl rfl⟩) k5 k6 k7
    rw [show (mk fun f => decide (f < 0) && decide (c f = room)) = nI 0 from by rw [mk_0]; exact mk_ext (fun i _ => by simp)] at go
    exact go
theorem l_folk (C : LC mdL_law 9 600000 7302250 X L xs) (R : RT mdL_law X 186 2099 Q) (hF : F ≤ 5) (hn4 : 4 ≤ n) (hn8 : n ≤ 8) (hh : h.1 = n)
    (NEXT : ∀ M t c, IC M h s t z tp x kx → IO h s t z tp x kx → TK t F → (∀ room, FK M h t F room (fun _ _ => 0) c 0) → P_L_law_610 X M (nI n) (nI 1) (nI F)) :
    ∀ (d g : Nat) (M : Mem) (t : TS) (c : Nat → Nat), g + d = F → IC M h s t z tp x kx → IO h s t z tp x kx → TK t g → t.2.2.1 = 0 → (∀ f, f < g → M 184 f = nI (c f) ∧ c f < h.1 ∧ M 185 f = nI (c f)) → gx M = 4 → P_L_law_547 X M (nI n) (nI 1) (nI F) (nI g) := by
  intro d
  induction d with
  | zero =>
    intro g M t c hg I O tk t0 c1 c7
    have : g = F := by omega
    subst this
    refine T_L_law_547 C R ?_
    rw [n_le (by omega) (by omega)]
    exact ⟨fun _ => NEXT M t c I O tk (fun room => ⟨⟨fun f hf u hu => absurd hu (by omega), fun f hf u hu => absurd hu (by omega)⟩, fun k hk => absurd hk (by omega), fun f hf => ⟨(c1 f hf).1, (c1 f hf).2.1⟩, fun f hf w => absurd w (by omega), fun f hf => by rw [if_pos rfl]; exact (c1 f hf).2.2, fun u hu => absurd hu (by omega), c7⟩), fun w => absurd (by omega) w⟩
  | succ d ih =>
    intro g M t c hg I O tk t0 c1 c7
    have hR := O.1.1
    refine T_L_law_547 C R ?_
    rw [n_le (by omega) (by omega)]
    refine ⟨fun w => absurd w (by omega), fun _ => ⟨fun w => absurd w (by decide), fun _ => z_folk I O (by rw [tk.1]; omega) (fun M2 f2 I2 O2 => ?_)⟩⟩
    rw [tk.1, n_eq (by omega) (by omega)]
    refine ⟨fun w => absurd rfl w, fun _ => T_L_law_574 C R ?_⟩
    obtain ⟨q, hq, eq⟩ := cl_srem L xs (nI 16) (s := 4 * g) (by omega) (n := n) (by omega) (by omega)
    have g4 : gx M2 = 4 := by rw [← c7]; unfold gx; rw [f2 _ _ (by omega)]
    rw [n_mul, eq, vin (by omega), ix_n (by omega), wr_eq, gx_184, n_add]
    refine ⟨by rw [n_eq0 (by omega)]; omega, ⟨by omega, by omega⟩, ⟨by omega, by omega⟩, ⟨by omega, by omega⟩, ?_⟩
    refine ih (g + 1) _ _ (fun f => if f = g then q else c f) (by omega) (I2.far O2 (fun c k hc => (by simp only [wr]; repeat rw [if_neg (by omega)]))) O2 ⟨by show t.1 + 1 = g + 1; rw [tk.1], fun f hf => ?_⟩ t0 (fun f hf => ?_) (by rw [gx_wr (by omega), gx_184]; exact g4)
    · show (if f = t.1 then 1 else t.2.1 f) = 1
      split
      · rfl
      · exact tk.2 f (by have := tk.1; omega)
    · by_cases e : f = g
      · subst e
        rw [wr_nc _ _ _ _ (by omega), wr_eq, if_pos rfl, wr_eq]
        exact ⟨rfl, by omega, rfl⟩
      · rw [wr_nc _ _ _ _ (by omega), wr_nk _ _ _ _ e, wr_nk _ _ _ _ e, wr_nc _ _ _ _ (by omega), if_neg e, f2 _ _ (by omega), f2 _ _ (by omega)]
        exact c1 f (by omega)
end Ticks
