/-! ===== the law's folk: ways by cells, sayings true of them ===== -/
/-- what the law holds when T ticks are gone: W where each was, c where each is -/
def FK (M : Mem) (h : HS) (t : TS) (F room : Nat) (W : Nat → Nat → Nat) (c : Nat → Nat) (T : Nat) : Prop := WK h F W T ∧ SY t W T ∧ (∀ f, f < F → M 184 f = nI (c f) ∧ c f < h.1) ∧ (∀ f, f < F → 0 < T → c f = W f (T - 1)) ∧ (∀ f, f < F → M 185 f = nI (if T = 0 then c f else W f 0)) ∧ (∀ u, u < T → M 183 u = mk (fun f => decide (f < F) && decide (W f u = room))) ∧ gx M = 4
def TK (t : TS) (F : Nat) : Prop := t.1 = F ∧ ∀ f, f < F → t.2.1 f = 1
theorem FK.far {M M' : Mem} {h : HS} {t : TS} {F room : Nat} {W : Nat → Nat → Nat} {c : Nat → Nat} {T : Nat} (K : FK M h t F room W c T) (f : far M' M) : FK M' h t F room W c T := by
  obtain ⟨k1, k2, k3, k4, k5, k6, k7⟩ := K
  exact ⟨k1, k2, fun g hg => by rw [f _ _ (by omega)]; exact k3 g hg, k4, fun g hg => by rw [f _ _ (by omega)]; exact k5 g hg, fun u hu => by rw [f _ _ (by omega)]; exact k6 u hu, by rw [← k7]; unfold gx; rw [f _ _ (by omega)]⟩
theorem SY.add {t : TS} {W : Nat → Nat → Nat} {T : Nat} (S : SY t W T) {a o r u : Nat} (hu : u < T) (h1 : W a u = r) (h2 : W o u = r) : SY (tadd t a o r u) W T := by
  intro k hk
  have hk : k < t.2.2.1 + 1 := hk
  show sy1 t a o r u k 3 < T ∧ W (sy1 t a o r u k 0) (sy1 t a o r u k 3) = sy1 t a o r u k 2 ∧ W (sy1 t a o r u k 1) (sy1 t a o r u k 3) = sy1 t a o r u k 2
  unfold sy1
  by_cases e : k = t.2.2.1
  · simp only [e, if_true]
    exact ⟨hu, h1, h2⟩
  · simp only [e, if_false]
    exact S k (by omega)
section Folk
variable {X : HX} {L : Nat} {xs : Nat → Int32} {Q : Int32 → Mem → Prop} {h : HS} {s : SS} {z : Nat} {tp : Nat → Nat} {x : WS} {kx : KS} {n F room : Nat}
/-- the sayings at a tick: each of two in one room says it of the other -/
theorem l_says (C : LC mdL_law 9 600000 7302250 X L xs) (R : RT mdL_law X 186 2099 Q) (hF : F ≤ 5) (hn8 : n ≤ 8) (hh : h.1 = n) {T : Nat} (hT : T < 24) {W : Nat → Nat → Nat} {c : Nat → Nat}
    (NEXT : ∀ M t, IC M h s t z tp x kx → IO h s t z tp x kx → TK t F → FK M h t F room W c (T + 1) → P_L_law_856 X M (nI n) (nI 1) (nI F) (nI room) (nI 0) (nI T)) :
    ∀ d f M t, f + d = F → IC M h s t z tp x kx → IO h s t z tp x kx → TK t F → FK M h t F room W c (T + 1) → P_L_law_760 X M (nI n) (nI 1) (nI F) (nI room) (nI 0) (nI T) (nI f) := by
  intro d
  induction d with
  | zero =>
    intro f M t hf I O tk fk
    refine T_L_law_760 C R ?_
    rw [n_le (by omega) (by omega)]
    exact ⟨fun _ => NEXT M t I O tk fk, fun w => absurd (by omega) w⟩
  | succ d ih =>
    intro f M t hf I O tk fk
    refine T_L_law_760 C R ?_
    rw [n_le (by omega) (by omega)]
    refine ⟨fun w => absurd w (by omega), fun _ => ⟨fun w => absurd w (by decide), fun _ => ⟨fun _ => NEXT M t I O tk fk, fun _ => ?_⟩⟩⟩
    have inner : ∀ e g M t, g + e = F → IC M h s t z tp x kx → IO h s t z tp x kx → TK t F → FK M h t F room W c (T + 1) → P_L_law_783 X M (nI n) (nI 1) (nI F) (nI room) (nI 0) (nI T) (nI f) (nI g) := by
      intro e
      induction e with
      | zero =>
        intro g M t hg I O tk fk
        refine T_L_law_783 C R ?_
        rw [n_le (by omega) (by omega)]
        refine ⟨fun _ => T_L_law_850 C R ?_, fun w => absurd (by omega) w⟩
        rw [n_add]
        exact ih (f + 1) M t (by omega) I O tk fk
      | succ e ihe =>
        intro g M t hg I O tk fk
        have hR := O.1.1
        obtain ⟨cf1, cf2⟩ := fk.2.2.1 f (by omega)
        obtain ⟨cg1, cg2⟩ := fk.2.2.1 g (by omega)
        have gx4 := fk.2.2.2.2.2.2
        have nxt : ∀ M t, IC M h s t z tp x kx → IO h s t z tp x kx → TK t F → FK M h t F room W c (T + 1) → P_L_law_844 X M (nI n) (nI 1) (nI F) (nI room) (nI 0) (nI T) (nI f) (nI g) := fun M t I O tk fk => by
          refine T_L_law_844 C R ?_
          rw [n_add]
          exact ihe (g + 1) M t (by omega) I O tk fk
        refine T_L_law_783 C R ?_
        rw [n_le (by omega) (by omega), vin (by omega), vin (by omega), ix_n (by omega), ix_n (by omega), cf1, cg1, n_eq (by omega) (by omega)]
        refine ⟨fun w => absurd w (by omega), fun _ => ⟨fun w => absurd w (by decide), fun _ => ⟨⟨by omega, by omega⟩, ⟨by omega, by omega⟩, fun _ => nxt M t I O tk fk, fun same => z_count7 I ?_⟩⟩⟩
        have hY := O.2.2.1.2.1
        rw [n_le (by omega) (by omega)]
        refine ⟨fun _ => nxt M t I O tk fk, fun w => ⟨⟨by omega, by omega⟩, ?_⟩⟩
        rw [cf1]
        refine z_say I O (by rw [tk.1]; omega) (by rw [tk.1]; omega) cf2 hT (by omega) (fun M2 f2 I2 O2 => ?_)
        rw [n_lt0 (by omega)]
        refine ⟨fun w => w.elim, fun _ => T_L_law_842 C R (nxt M2 _ I2 O2 tk ?_)⟩
        have fk2 := fk.far f2
        obtain ⟨k1, k2, k3, k4, k5, k6, k7⟩ := fk2
        have w1 : W f T = c f := (k4 f (by omega) (by omega)).symm
        have w2 : W g T = c f := by rw [same]; exact (k4 g (by omega) (by omega)).symm
        exact ⟨k1, k2.add (by omega) w1 w2, k3, k4, k5, k6, k7⟩
    exact inner F 0 M t (by omega) I O tk fk
end Folk
