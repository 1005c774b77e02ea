/-! ===== the class's calls, alone: as told, from a state that holds h, s, t ===== -/
def far (M' M : Mem) : Prop := ∀ c k, 182 ≤ c → M' c k = M c k
theorem far.rf (M : Mem) : far M M := fun _ _ _ => rfl
theorem far.tr {M M1 M2 : Mem} (a : far M1 M) (b : far M2 M1) : far M2 M := fun c k h => (b c k h).trans (a c k h)
section Z74
variable {M : Mem} {h : HS} {s : SS} {t : TS} {n : Nat} {tp : Nat → Nat} {x : WS} {kx : KS}
theorem z_room (I : IC M h s t n tp x kx) (O : IO h s t n tp x kx) (hR : h.1 < 10) {Q : Int32 → Mem → Prop} (K : ∀ M', far M' M → IC M' (h.1 + 1, h.2) s t n tp x kx → IO (h.1 + 1, h.2) s t n tp x kx → Q (nI h.1) M') : C_X9_room M Q := by
  have e1 : M 1 0 = nI h.1 := I.1.1
  refine T_X9_room ?_
  rw [e1, n_eq (by omega) (by omega)]
  refine ⟨fun q => ?_, fun q => absurd q (by omega)⟩
  have O' : IO (h.1 + 1, h.2) s t n tp x kx := by
    obtain ⟨⟨a1, a2, a3, a4, a5, a6, a7⟩, o2, o3, o4⟩ := O
    refine ⟨⟨?_, a2, a3, a4, a5, fun a b w => ?_, fun g hg u hu => ?_⟩, o2.mono (Nat.le_succ _), o3.mono (Nat.le_succ _), o4⟩
    · show h.1 + 1 ≤ 10; omega
    · exact Nat.lt_succ_of_lt (a6 a b w)
    · exact Nat.lt_succ_of_lt (a7 g hg u hu)
  have H' : HC 1 (wr M 1 0 (nI h.1 + nI 1)) (h.1 + 1, h.2) := by
    obtain ⟨g1, g2, g3, g4, g5, g6⟩ := I.1
    exact ⟨by rw [wr_eq, n_add], by rw [wr_nk _ _ _ _ (by omega)]; exact g2, by rw [wr_nk _ _ _ _ (by omega)]; exact g3, fun a ha => by rw [wr_nc _ _ _ _ (by omega)]; exact g4 a ha, fun a ha => by rw [wr_nc _ _ _ _ (by omega)]; exact g5 a ha, fun g hg u hu => by rw [wr_nc _ _ _ _ (by omega)]; exact g6 g hg u hu⟩
  refine s_doorsChanged O'.1 H' (fun M1 f1 w1 z1 z2 => ?_)
  have I1 : IC M1 (h.1 + 1, h.2) s t n tp x kx := I.house O (H'.congr O.1.2.1 (fun c k _ _ => f1 c k (by omega))) w1 (fun c k w => by rw [f1 c k (by omega), wr_nc _ _ _ _ (by omega)]) z1 z2
  have e2 : M1 1 0 = nI (h.1 + 1) := I1.1.1
  rw [e2, n_sub (by omega)]
  exact K M1 (fun c k hc => by rw [f1 c k (by omega), wr_nc _ _ _ _ (by omega)]) I1 O'
theorem z_door (I : IC M h s t n tp x kx) (O : IO h s t n tp x kx) {a b k r : Nat} (ha : a < h.1) (hb : b < h.1) (hab : a ≠ b) (hk : k < 2) (h0 : h.2.2.2.1 a b = 0) (hr : h.2.1 = nI r) (hr2 : r < 16) {Q : Int32 → Mem → Prop} (K : ∀ M', far M' M → IC M' (hset h (nI (r + 1)) a b (k + 1)) s t n tp x kx → IO (hset h (nI (r + 1)) a b (k + 1)) s t n tp x kx → Q (nI (r + 1)) M') : C_X9_door M (nI a) (nI b) (nI k) Q := by
  have hR := O.1.1
  have q : (okN (nI a) h.1 && (okN (nI b) h.1 && !decide (nI a = nI b))) = true := by
    rw [okN_n (by omega), okN_n (by omega), decide_eq_true ha, decide_eq_true hb, decide_eq_false (fun w => hab ((n_eq (by omega) (by omega)).mp w))]; rfl
  have o3 := O.1.2.2.1 a b
  refine T_X9_door (s_arePair I.1.1 hR (br (fun w => absurd (q.symm.trans w) (by decide)) (fun _ => rle (n := 1) (by omega) (fun w => by rw [okN_n (by omega), decide_eq_true hk] at w; cases w) (fun _ => ?_))))
  refine s_doorKind O.1 I.1 (by omega) (by omega) ?_
  rw [dkC_m1 o3, I.1.2.1, hr]
  refine ⟨fun _ => ⟨fun _ => ?_, fun w => absurd ((n_eq (by omega) (by omega)).mp w) (by omega)⟩, fun w => absurd h0 w⟩
  have O1 := O.1.set (d := h.2.1 + nI 1) (v := k + 1) ha hb hab (by omega)
  refine s_putDoor (v := k + 1) O.1 I.1 ha hb hab h0 (by omega) (fun M1 f1 H1 => s_doorsChanged O1 H1 (fun M2 f2 w2 z1 z2 => ?_))
  have I2 : IC M2 (hset h (h.2.1 + nI 1) a b (k + 1)) s t n tp x kx := I.house O (H1.congr O.1.2.1 (fun c k _ _ => f2 c k (by omega))) w2 (fun c k w => by rw [f2 c k (by omega)]; exact f1 c k (by omega)) z1 z2
  have O2 : IO (hset h (h.2.1 + nI 1) a b (k + 1)) s t n tp x kx := ⟨O1, O.2⟩
  have e2 : M2 1 1 = h.2.1 + nI 1 := I2.1.2.1
  have e3 : h.2.1 + nI 1 = nI (r + 1) := by rw [hr, n_add]
  rw [e3] at I2 O2 e2
  rw [e2]
  exact K M2 (fun c j hc => by rw [f2 c j (by omega)]; exact f1 c j (by omega)) I2 O2
theorem z_type (I : IC M h s t n tp x kx) (O : IO h s t n tp x kx) {a : Int64} (hn : n < 80) (hb : 32 ≤ bt8 a 0 ∧ bt8 a 0 ≤ 126) {Q : Int32 → Mem → Prop} (K : ∀ M', far M' M → IC M' h s t (n + 1) (up_ tp n (bt8 a 0)) x kx → IO h s t (n + 1) (up_ tp n (bt8 a 0)) x kx → Q (nI (n + 1)) M') : C_X9_type M a (nI 1) Q := by
  refine T_X9_type (T_X7_add ⟨fun q => absurd q (by decide), fun _ => ⟨fun _ => ?_, fun q => absurd (by decide) q⟩⟩)
  refine l_add16 (m := 1) a (by omega) _ 0 rfl (by omega) (fun w => by obtain ⟨k, hk, q4⟩ := w; rw [show k = 0 by omega] at q4; exact absurd hb q4) (fun u => ?_)
  rw [I.2.2.2.2.1.1, n_add, n_le (by omega) (by omega), n_sub (by omega)]
  refine ⟨fun _ => l_add71 a 0 n tp M I.2.2.2.2.1 (by omega) (fun M1 f1 p1 => ?_), fun q4 => absurd (by omega) q4⟩
  have e : ty a 0 n tp = up_ tp n (bt8 a 0) := rfl
  rw [e] at p1
  have I1 := I.tape O p1 (fun c k q => f1 c k (by omega))
  exact K M1 (fun c k hc => f1 c k (by omega)) I1 ⟨O.1, O.2.1, O.2.2.1, PO_add O.2.2.2.1 hn hb.1 hb.2, O.2.2.2.2⟩
theorem z_walk (I : IC M h s t n tp x kx) (O : IO h s t n tp x kx) {g : Nat → Nat} (e : wkf h n tp 8 0 none 0 (fun _ => 0) = .inr g) (hG : h.2.2.1 < 3) {Q : Int32 → Mem → Prop} (K : ∀ M', far M' M → IC M' (h.1, h.2.1, h.2.2.1 + 1, h.2.2.2.1, up_ h.2.2.2.2 h.2.2.1 g) s t 0 tp x kx → IO (h.1, h.2.1, h.2.2.1 + 1, h.2.2.2.1, up_ h.2.2.2.2 h.2.2.1 g) s t 0 tp x kx → Q (nI h.2.2.1) M') : C_X9_walk M Q := by
  have hn := O.2.2.2.1.1
  have O0 : IO h s t 0 tp x kx := ⟨O.1, O.2.1, O.2.2.1, ⟨by omega, fun i hi => absurd hi (by omega)⟩, O.2.2.2.2⟩
  refine T_X9_walk (s_readWalk O.1 O.2.2.2.1 I.1 I.2.2.2.2.1 (fun M0 f f0 e9 => by rw [e] at e9; cases e9) (fun M0 g9 f0 e9 pt => T_X7_clear ⟨fun _ => ?_, fun w => absurd nI_0 w⟩))
  rw [e] at e9
  cases e9
  have I0 : IC (wr M0 85 0 (nI 0)) h s t 0 tp x kx := I.tape O ⟨wr_eq _ _ _ _, fun i hi => absurd hi (by omega)⟩ (fun c k w => by rw [wr_nc _ _ _ _ (by omega)]; exact f0 c k (by omega) (by omega))
  have gR : ∀ k, g k < h.1 := fun k => by
    rcases wkf_r _ _ _ _ _ (fun k hk => absurd hk (by omega)) e k with w | w
    · exact w
    · exact absurd w.1 (by omega)
  have e2 : wr M0 85 0 (nI 0) 1 2 = nI h.2.2.1 := I0.1.2.2.1
  have pt1 : ∀ k, k < 24 → wr M0 85 0 (nI 0) 174 k = nI (g k) := fun k hk => by rw [wr_nc _ _ _ _ (by omega)]; exact pt k hk
  have fN : far (wr M0 85 0 (nI 0)) M := fun c k w => by rw [wr_nc _ _ _ _ (by omega)]; exact f0 c k (by omega) (by omega)
  generalize wr M0 85 0 (nI 0) = N at I0 e2 pt1 fN
  rw [e2, n_eq (by omega) (by omega)]
  refine ⟨fun q => ⟨by rw [vin (by omega)]; omega, cp_ok (by omega) 24 (by omega) ?_⟩, fun q => absurd q (by omega)⟩
  simp (disch := omega) only [ix_n]
  rw [cpf _ (by omega), e2, n_add h.2.2.1 1]
  refine s_plansChanged (fun M1 f1 z1 z2 => ?_)
  have O' : IO (h.1, h.2.1, h.2.2.1 + 1, h.2.2.2.1, up_ h.2.2.2.2 h.2.2.1 g) s t 0 tp x kx := by
    obtain ⟨⟨a1, a2, a3, a4, a5, a6, a7⟩, o2⟩ := O0
    refine ⟨⟨a1, ?_, a3, a4, a5, a6, fun g' hg u hu => ?_⟩, o2⟩
    · show h.2.2.1 + 1 ≤ 3; omega
    · have hg' : g' < h.2.2.1 + 1 := hg
      show up_ h.2.2.2.2 h.2.2.1 g g' u < h.1
      by_cases w : g' = h.2.2.1
      · subst w; rw [up_eq]; exact gR u
      · rw [up_ne _ _ w]; exact a7 g' (by omega) u hu
  have fr1 : ∀ c k, ¬ (c = 5 + h.2.2.1) → ¬ (c = 1 ∧ k = 2) → ¬ ((c = 95 ∧ k = 1) ∨ (c = 124 ∧ k = 3)) → M1 c k = N c k := fun c k w1 w2 w3 => by
    rw [f1 c k w3, wr, if_neg (by omega), cpf _ (by omega)]
  have I1 : IC M1 (h.1, h.2.1, h.2.2.1 + 1, h.2.2.2.1, up_ h.2.2.2.2 h.2.2.1 g) s t 0 tp x kx := by
    obtain ⟨g1, g2, g3, g4, g5, g6⟩ := I0.1
    refine I0.house O0 ⟨by rw [fr1 _ _ (by omega) (by omega) (by omega)]; exact g1, by rw [fr1 _ _ (by omega) (by omega) (by omega)]; exact g2, by rw [f1 _ _ (by omega), wr_eq], fun a ha => by rw [fr1 _ _ (by omega) (by omega) (by omega)]; exact g4 a ha, fun a ha => by rw [fr1 _ _ (by omega) (by omega) (by omega)]; exact g5 a ha, fun g' hg u hu => ?_⟩ (I0.2.1.congr O.1.1 (fun c k w => fr1 c k (by omega) (by omega) (by omega))) (fun c k w => fr1 c k (by omega) (by omega) (by omega)) z1 z2
    have hg' : g' < h.2.2.1 + 1 := hg
    show M1 (1 + 4 + g') u = nI (up_ h.2.2.2.2 h.2.2.1 g g' u)
    by_cases w : g' = h.2.2.1
    · subst w
      rw [up_eq, f1 _ _ (by omega), wr_nc _ _ _ _ (by omega), show 1 + 4 + h.2.2.1 = 4 + 1 + h.2.2.1 by omega, cpi _ hu]; exact pt1 u hu
    · rw [up_ne _ _ w, fr1 _ _ (by omega) (by omega) (by omega)]; exact g6 g' (by omega) u hu
  have e4 : M1 1 2 = nI (h.2.2.1 + 1) := I1.1.2.2.1
  rw [e4, n_sub (by omega)]
  exact K M1 (fun c k w => (fr1 c k (by omega) (by omega) (by omega)).trans (fN c k w)) I1 O'
theorem z_guest (I : IC M h s t n tp x kx) (O : IO h s t n tp x kx) {g v : Nat} (hg : g < h.2.2.1) (hv : v < 24) {Q : Int32 → Mem → Prop} (K : Q (nI (h.2.2.2.2 g v)) M) : C_X9_guest M (nI g) (nI v) Q := by
  have hG := O.1.2.1
  have e1 : M 1 2 = nI h.2.2.1 := I.1.2.2.1
  refine T_X9_guest ?_
  rw [e1]
  refine rg (by omega) (fun q => by rw [okN_n (by omega), decide_eq_true hg] at q; cases q) (fun q => s_isTick (br' (fun q2 => by rw [okN_n (by omega), decide_eq_true hv] at q2; cases q2) (fun q2 => ?_)))
  have c1 := I.1.2.2.2.2.2 g hg v hv
  rw [vin (by omega), vin (by omega), ix_n (by omega), ix_n (by omega), show 4 + 1 + g = 1 + 4 + g by omega, c1]
  exact ⟨by omega, by omega, K⟩
theorem z_trip (I : IC M h s t n tp x kx) (O : IO h s t n tp x kx) {a u b : Nat} (ha : a < h.1) (hu : u < 24) (hb : b < h.1) (co : Bool) {v : Int32} (hv : rng v (-1) 23 = true) {Q : Int32 → Mem → Prop} (K : ∀ M', far M' M → IC M' h s t n tp x kx → Q (tripA h co a u b v) M') : C_X9_trip M (nI a) (nI u) (nI b) (bI co) v Q := by
  have hR := O.1.1
  refine x_trip O.1 I.1 I.2.2.2.2.2.2.2.1 (fun M1 f1 T1 => ?_)
  have I1 : IC M1 h s t n tp x kx := I.tmp O (fun c k w => f1 c k (by unfold scr at w; omega)) T1 (I.2.2.2.2.2.2.2.2.congr O.2.1.1 (fun c k w => f1 c k (by omega)))
  have e : tripO h (nI a) (nI u) (nI b) co v = tripA h co a u b v := by
    unfold tripO
    rw [okN_n (by omega), okN_n (by omega), okN_n (by omega), decide_eq_true ha, decide_eq_true hu, decide_eq_true hb, hv, ix_n (by omega), ix_n (by omega), ix_n (by omega)]
    rfl
  rw [e]
  exact K M1 (fun c k hc => f1 c k (by omega)) I1
theorem z_cellar (I : IC M h s t n tp x kx) (O : IO h s t n tp x kx) {j : Nat} (hj : j < h.1) {Q : Int32 → Mem → Prop} (K : ∀ M', far M' M → IC M' h (s.1, s.2.1, j, s.2.2.2) t n tp x kx → IO h (s.1, s.2.1, j, s.2.2.2) t n tp x kx → Q (nI s.2.2.1) M') : C_X9_cellar M (nI j) Q := by
  have hR := O.1.1
  refine T_X9_cellar (s_hasRoom I.1.1 hR (br' (fun q => by rw [okN_n (by omega), decide_eq_true hj] at q; cases q) (fun q => ?_)))
  refine s_plansChanged (fun M1 f1 z1 z2 => ?_)
  have I1 : IC M1 h (s.1, s.2.1, j, s.2.2.2) t n tp x kx := by
    refine I.staff O ?_ (fun c k q => by rw [f1 c k (by omega), wr, if_neg (by omega)]) z1 z2
    obtain ⟨g1, g2, g3, g4, g5, g6⟩ := I.2.2.1
    refine ⟨by rw [f1 _ _ (by omega), wr_nk _ _ _ _ (by omega)]; exact g1, by rw [f1 _ _ (by omega), wr_nk _ _ _ _ (by omega)]; exact g2, by rw [f1 _ _ (by omega), wr_eq], by rw [f1 _ _ (by omega), wr_nk _ _ _ _ (by omega)]; exact g4, fun i hi => by rw [f1 _ _ (by omega), wr_nc _ _ _ _ (by omega)]; exact g5 i hi, fun e he k hk => by rw [f1 _ _ (by omega), wr_nc _ _ _ _ (by omega)]; exact g6 e he k hk⟩
  have O' : IO h (s.1, s.2.1, j, s.2.2.2) t n tp x kx := by
    obtain ⟨o1, o2, o3⟩ := O
    exact ⟨o1, ⟨o2.1, o2.2.1, Or.inl hj, o2.2.2.2⟩, o3⟩
  have e3 : M 30 2 = nI s.2.2.1 := I.2.2.1.2.2.1
  rw [e3]
  exact K M1 (fun c k hc => by rw [f1 c k (by omega), wr_nc _ _ _ _ (by omega)]) I1 O'
def sadd (s : SS) (j : Nat) : SS := (s.1 + 1, s.2.1, s.2.2.1, fun i => if i = s.1 then j else s.2.2.2.1 i, fun i => if i = s.1 then false else s.2.2.2.2.1 i, s.2.2.2.2.2)
theorem z_servant (I : IC M h s t n tp x kx) (O : IO h s t n tp x kx) {j : Nat} (hj : j < h.1) (hS : s.1 < 3) {Q : Int32 → Mem → Prop} (K : ∀ M', far M' M → IC M' h (sadd s j) t n tp x kx → IO h (sadd s j) t n tp x kx → Q (nI s.1) M') : C_X9_servant M (nI j) Q := by
  have hR := O.1.1
  obtain ⟨g1, g2, g3, g4, g5, g6⟩ := I.2.2.1
  have g1 : M 30 0 = nI s.1 := g1
  refine T_X9_servant (s_hasRoom I.1.1 hR (br' (fun q => by rw [okN_n (by omega), decide_eq_true hj] at q; cases q) (fun q => ?_)))
  rw [g1, n_eq (by omega) (by omega)]
  refine ⟨fun q2 => ⟨by rw [vin (by omega)]; omega, T_X9_plansChanged ?_⟩, fun q2 => absurd q2 (by omega)⟩
  rw [ix_n (by omega)]
  have I1 : IC (wr (wr (wr (wr M 31 s.1 (nI j)) 30 0 (nI s.1 + nI 1)) 95 1 (nI 0)) 124 3 (nI 0)) h (sadd s j) t n tp x kx := by
    refine I.staff O ⟨by rw [wr_nc _ _ _ _ (by omega), wr_nc _ _ _ _ (by omega), wr_eq, n_add]; rfl, ?_, by rw [wr_nc _ _ _ _ (by omega), wr_nc _ _ _ _ (by omega), wr_nk _ _ _ _ (by omega), wr_nc _ _ _ _ (by omega)]; exact g3, by rw [wr_nc _ _ _ _ (by omega), wr_nc _ _ _ _ (by omega), wr_nk _ _ _ _ (by omega), wr_nc _ _ _ _ (by omega)]; exact g4, fun i hi => ?_, fun e he k hk => by rw [wr_nc _ _ _ _ (by omega), wr_nc _ _ _ _ (by omega), wr_nc _ _ _ _ (by omega), wr_nc _ _ _ _ (by omega)]; exact g6 e he k hk⟩ (fun c k q => (by simp only [wr]; repeat rw [if_neg (by omega)])) (by rw [wr_nc _ _ _ _ (by omega), wr_eq]) (wr_eq _ _ _ _)
    · rw [wr_nc _ _ _ _ (by omega), wr_nc _ _ _ _ (by omega), wr_nk _ _ _ _ (by omega), wr_nc _ _ _ _ (by omega), g2]
      refine mk_ext (fun i _ => ?_)
      show _ = (decide (i < s.1 + 1) && (if i = s.1 then false else s.2.2.2.2.1 i))
      by_cases e : i = s.1
      · simp [e]
      · simp [e, show (i < s.1 + 1) = (i < s.1) from by rw [eq_iff_iff]; omega]
    · rw [wr_nc _ _ _ _ (by omega), wr_nc _ _ _ _ (by omega), wr_nc _ _ _ _ (by omega)]
      show _ = nI (if i = s.1 then j else s.2.2.2.1 i)
      have hi' : i < s.1 + 1 := hi
      by_cases e : i = s.1
      · simp [e, wr]
      · rw [wr_nk _ _ _ _ e]
        simp only [e, if_false]
        exact g5 i (by omega)
  have O' : IO h (sadd s j) t n tp x kx := by
    obtain ⟨o1, o2, o3⟩ := O
    refine ⟨o1, ⟨?_, o2.2.1, ?_, fun i hi => ?_, o2.2.2.2.2⟩, o3⟩
    · show s.1 + 1 ≤ 3; omega
    · have := o2.2.2.1
      left
      show s.2.2.1 < h.1; omega
    · have hi' : i < s.1 + 1 := hi
      show (if i = s.1 then j else s.2.2.2.1 i) < h.1
      split
      · exact hj
      · exact o2.2.2.2.1 i (by omega)
  have e4 : wr (wr (wr (wr M 31 s.1 (nI j)) 30 0 (nI s.1 + nI 1)) 95 1 (nI 0)) 124 3 (nI 0) 30 0 = nI (s.1 + 1) := I1.2.2.1.1
  rw [e4, n_sub (by omega)]
  exact K _ (fun c k hc => (by simp only [wr]; repeat rw [if_neg (by omega)])) I1 O'
theorem z_errand (I : IC M h s t n tp x kx) (O : IO h s t n tp x kx) {k r f p d : Nat} (h1 : k ≤ 1) (h2 : r < h.1) (h3 : 1 ≤ f) (h4 : f ≤ 9) (h5 : p ≤ d) (h6 : d ≤ 23) (hE : s.2.1 < 5) {Q : Int32 → Mem → Prop} (K : ∀ M', far M' M → IC M' h (s.1, s.2.1 + 1, s.2.2.1, s.2.2.2.1, s.2.2.2.2.1, er1 s k r f p d) t n tp x kx → IO h (s.1, s.2.1 + 1, s.2.2.1, s.2.2.2.1, s.2.2.2.2.1, er1 s k r f p d) t n tp x kx → Q (nI s.2.1) M') : C_X9_errand M (nI k) (nI r) (nI f) (nI p) (nI d) Q := by
  have hR := O.1.1
  have g4 : M 30 3 = nI s.2.1 := I.2.2.1.2.2.2.1
  have q : isEr h.1 (nI k) (nI r) (nI f) (nI p) (nI d) = true := by
    unfold isEr
    rw [okN_n (by omega), okN_n (by omega), okN_n (by omega), okN_n (by omega), rng_n (by omega)]
    simp only [Bool.and_eq_true, decide_eq_true_eq]
    rw [n_le (by omega) (by omega)]
    omega
  refine T_X9_errand (s_isErrand I.1.1 hR (br' (fun w => absurd (q.symm.trans w) (by decide)) (fun _ => ?_)))
  rw [g4, n_eq (by omega) (by omega)]
  refine ⟨fun q2 => s_addErrand I.2.2.1 (by omega) (fun M1 f1 s1 => T_X9_plansChanged ?_), fun q2 => absurd q2 (by omega)⟩
  have I1 : IC (wr (wr M1 95 1 (nI 0)) 124 3 (nI 0)) h (s.1, s.2.1 + 1, s.2.2.1, s.2.2.2.1, s.2.2.2.2.1, er1 s k r f p d) t n tp x kx := I.staff O (s1.congr (fun c j _ _ => (by simp only [wr]; repeat rw [if_neg (by omega)]))) (fun c j q => by rw [wr, if_neg (by omega), wr, if_neg (by omega)]; exact f1 c j (by omega)) (by rw [wr_nc _ _ _ _ (by omega), wr_eq]) (wr_eq _ _ _ _)
  have O' : IO h (s.1, s.2.1 + 1, s.2.2.1, s.2.2.2.1, s.2.2.2.2.1, er1 s k r f p d) t n tp x kx := ⟨O.1, O.2.1.add (by omega) h1 h2 h3 h4 h5 h6, O.2.2⟩
  have e4 : wr (wr M1 95 1 (nI 0)) 124 3 (nI 0) 30 3 = nI (s.2.1 + 1) := I1.2.2.1.2.2.2.1
  rw [e4, n_sub (by omega)]
  exact K _ (fun c j hc => by rw [wr_nc _ _ _ _ (by omega), wr_nc _ _ _ _ (by omega)]; exact f1 c j (by omega)) I1 O'
theorem z_cost (I : IC M h s t n tp x kx) (O : IO h s t n tp x kx) (hne : ∃ v, wel s v = true) {Q : Int32 → Mem → Prop} (K : ∀ M' v, far M' M → IC M' h s t n tp x kx → MV h s (wel s) v → Q (nI v) M') : C_X9_cost M (nI 0) Q := by
  have hS := O.2.1.1
  refine T_X9_cost (rle (n := 1) (by omega) (fun q => by rw [okN_n (by omega)] at q; cases q) (fun q => s_well I.2.2.1 hS ⟨fun q2 => ?_, fun q2 => ?_⟩))
  · refine x_prep I O hne (fun M1 f1 I1 P1 => T_X3_plan ?_)
    rw [n_eq0 (by omega)]
    refine ⟨fun q3 => absurd rfl q3, fun q3 => Or.inl ⟨rfl, ?_⟩⟩
    obtain ⟨b', k', B1, e1, _, _⟩ := P1.2.1
    rw [e1]
    exact K M1 _ f1 I1 (BT_MV B1)
  · obtain ⟨v, hv⟩ := hne
    have := (mk_eq0 _).mp q2 v (by have := (wel_t hv).1; omega)
    have hv2 : (decide (v < s.1) && !s.2.2.2.2.1 v) = true := hv
    rw [hv2] at this
    cases this
def sill (s : SS) (j : Nat) (is : Bool) : SS := (s.1, s.2.1, s.2.2.1, s.2.2.2.1, fun i => if i = j then is else s.2.2.2.2.1 i, s.2.2.2.2.2)
theorem z_ill (I : IC M h s t n tp x kx) (O : IO h s t n tp x kx) {j : Nat} (hj : j < s.1) (is : Bool) {Q : Int32 → Mem → Prop} (K : ∀ M', far M' M → IC M' h (sill s j is) t n tp x kx → IO h (sill s j is) t n tp x kx → Q (bI (s.2.2.2.2.1 j)) M') : C_X9_ill M (nI j) (bI is) Q := by
  have hS := O.2.1.1
  obtain ⟨g1, g2, g3, g4, g5, g6⟩ := I.2.2.1
  refine T_X9_ill (s_hasServant g1 hS (br' (fun q => by rw [okN_n (by omega), decide_eq_true hj] at q; cases q) (fun q => ?_)))
  have g2 : M 30 1 = mk (fun i => decide (i < s.1) && s.2.2.2.2.1 i) := g2
  have e1 : ((M 30 1 >>> (nI j &&& 31)) &&& nI 1) = bI (s.2.2.2.2.1 j) := by
    rw [g2, mk_test _ (by omega), decide_eq_true hj, Bool.true_and]
  have key : ∀ v, v = mk (fun i => decide (i < s.1) && (if i = j then is else s.2.2.2.2.1 i)) → C_X9_plansChanged (wr M 30 1 v) (fun M3 => Q ((M 30 1 >>> (nI j &&& 31)) &&& nI 1) M3) := by
    intro v hv
    refine T_X9_plansChanged ?_
    have I1 : IC (wr (wr (wr M 30 1 v) 95 1 (nI 0)) 124 3 (nI 0)) h (sill s j is) t n tp x kx := by
      refine I.staff O ⟨by rw [wr_nc _ _ _ _ (by omega), wr_nc _ _ _ _ (by omega), wr_nk _ _ _ _ (by omega)]; exact g1, by rw [wr_nc _ _ _ _ (by omega), wr_nc _ _ _ _ (by omega), wr_eq]; exact hv, by rw [wr_nc _ _ _ _ (by omega), wr_nc _ _ _ _ (by omega), wr_nk _ _ _ _ (by omega)]; exact g3, by rw [wr_nc _ _ _ _ (by omega), wr_nc _ _ _ _ (by omega), wr_nk _ _ _ _ (by omega)]; exact g4, fun i hi => by rw [wr_nc _ _ _ _ (by omega), wr_nc _ _ _ _ (by omega), wr_nc _ _ _ _ (by omega)]; exact g5 i hi, fun e he k hk => by rw [wr_nc _ _ _ _ (by omega), wr_nc _ _ _ _ (by omega), wr_nc _ _ _ _ (by omega)]; exact g6 e he k hk⟩ (fun c k q => (by simp only [wr]; repeat rw [if_neg (by omega)])) (by rw [wr_nc _ _ _ _ (by omega), wr_eq]) (wr_eq _ _ _ _)
    have O' : IO h (sill s j is) t n tp x kx := O
    rw [e1]
    exact K _ (fun c k hc => (by simp only [wr]; repeat rw [if_neg (by omega)])) I1 O'
  refine br (fun w => key _ ?_) (fun w => key _ ?_)
  · rw [g2, mk_one (by omega), mk_not, mk_and]
    refine mk_ext (fun i _ => ?_)
    by_cases e : i = j
    · simp [e, w]
    · simp [e]
  · rw [g2, mk_one (by omega), mk_or]
    refine mk_ext (fun i _ => ?_)
    by_cases e : i = j
    · subst e; simp [w, hj]
    · simp [e]
theorem z_count3 (I : IC M h s t n tp x kx) {Q : Int32 → Mem → Prop} (K : Q (nI s.1) M) : C_X9_count M (nI 3) Q := by
  have e : M 30 0 = nI s.1 := I.2.2.1.1
  refine T_X9_count ⟨fun q => absurd q (by decide), fun q => absurd q (by decide), fun q => absurd q (by decide), fun q => by rw [e]; exact K, fun q => absurd q (by decide), fun q => absurd q (by decide), fun q => absurd q (by decide), fun q => absurd q (by decide), fun q0 q1 q2 q3 q4 q5 q6 q7 => absurd rfl q3⟩
theorem z_count7 (I : IC M h s t n tp x kx) {Q : Int32 → Mem → Prop} (K : Q (nI t.2.2.1) M) : C_X9_count M (nI 7) Q := by
  have e : M 37 1 = nI t.2.2.1 := I.2.2.2.1.2.1
  refine T_X9_count ⟨fun q => absurd q (by decide), fun q => absurd q (by decide), fun q => absurd q (by decide), fun q => absurd q (by decide), fun q => absurd q (by decide), fun q => absurd q (by decide), fun q => absurd q (by decide), fun q => by rw [e]; exact K, fun q0 q1 q2 q3 q4 q5 q6 q7 => absurd rfl q7⟩
theorem z_image (I : IC M h s t n tp x kx) (O : IO h s t n tp x kx) {Q : Int32 → Mem → Prop} (K : ∀ M', far M' M → IC M' h s t n tp x (true, h, s, t) → IO h s t n tp x (true, h, s, t) → Q (nI 1) M') : C_X9_image M Q := by
  have hG := O.1.2.1
  refine T_X9_image (s_keepHouse hG I.1 (fun M1 f1 k1 => s_keepStaff O.2.1 (I.2.2.1.congr (fun c k _ _ => f1 c k (by omega))) (fun M2 f2 k2 => s_keepTalk O.2.2.1 (I.2.2.2.1.congr (fun c k _ _ => by rw [f2 c k (by omega), f1 c k (by omega)])) (fun M3 f3 k3 => ?_))))
  have I1 : IC (wr M3 0 6 (nI 1)) h s t n tp x (true, h, s, t) := by
    refine I.kept O ⟨(wr_eq _ _ _ _).trans bI_t.symm, fun _ => ⟨k1.congr hG (fun c k _ _ => by rw [wr_nc _ _ _ _ (by omega), f3 c k (by omega), f2 c k (by omega)]), k2.congr (fun c k _ _ => by rw [wr_nc _ _ _ _ (by omega), f3 c k (by omega)]), k3.congr (fun c k _ _ => by rw [wr_nc _ _ _ _ (by omega)])⟩⟩ (fun c k q => ?_)
    rw [wr, if_neg (by omega), f3 c k (by omega), f2 c k (by omega), f1 c k (by omega)]
  have O' : IO h s t n tp x (true, h, s, t) := ⟨O.1, O.2.1, O.2.2.1, O.2.2.2.1, O.2.2.2.2.1, fun _ => ⟨O.1, O.2.1, O.2.2.1⟩⟩
  exact K _ (fun c k hc => by rw [wr_nc _ _ _ _ (by omega), f3 c k (by omega), f2 c k (by omega), f1 c k (by omega)]) I1 O'
theorem z_drop (I : IC M h s t n tp x kx) (O : IO h s t n tp x kx) {k : Nat} (hk : k < s.2.1) {Q : Int32 → Mem → Prop} (K : ∀ M', far M' M → IC M' h (sdel s k) t n tp x kx → IO h (sdel s k) t n tp x kx → Q (nI (s.2.1 - 1)) M') : C_X9_drop M (nI k) Q := by
  have hE := O.2.1.2.1
  have g4 : M 30 3 = nI s.2.1 := I.2.2.1.2.2.2.1
  refine T_X9_drop (s_hasErrand g4 hE (br' (fun q => by rw [okN_n (by omega), decide_eq_true hk] at q; cases q) (fun q => ?_)))
  refine s_removeErrand I.2.2.1 hE hk (fun M0 f0 s0 => s_plansChanged (fun M1 f1 z1 z2 => ?_))
  have s1 : SC 30 M1 (sdel s k) := s0.congr (fun c j _ _ => f1 c j (by omega))
  have I1 := I.staff O s1 (fun c j q => by rw [f1 c j (by omega), f0 c j (by omega)]) z1 z2
  have O' : IO h (sdel s k) t n tp x kx := ⟨O.1, O.2.1.del k, O.2.2⟩
  have e1 : M1 30 3 = nI (s.2.1 - 1) := s1.2.2.2.1
  rw [e1]
  exact K M1 (fun c k hc => by rw [f1 c k (by omega), f0 c k (by omega)]) I1 O'
theorem z_restore (I : IC M h s t n tp x kx) (O : IO h s t n tp x kx) (q : kx.1 = true) {Q : Int32 → Mem → Prop} (K : ∀ M', far M' M → IC M' kx.2.1 kx.2.2.1 kx.2.2.2 n tp x kx → IO kx.2.1 kx.2.2.1 kx.2.2.2 n tp x kx → Q (nI 1) M') : C_X9_restore M Q := by
  obtain ⟨i1, i2, i3, i4, i5, i6, i7, i8, i9⟩ := I
  have e0 : M 0 6 = bI kx.1 := i7.1
  refine T_X9_restore ?_
  rw [e0]
  refine br' (fun w => absurd (q.symm.trans w) (by decide)) (fun _ => ?_)
  obtain ⟨o1, o2, o3⟩ := O.2.2.2.2.2 q
  obtain ⟨k1, k2, k3⟩ := i7.2 q
  refine s_backHouse o1.2.1 k1 (fun M1 f1 h1 => s_backStaff o2 (k2.congr (fun c k _ _ => f1 c k (by omega))) (fun M2 f2 h2 => s_backTalk o3 (k3.congr (fun c k _ _ => by rw [f2 c k (by omega), f1 c k (by omega)])) (fun M3 f3 h3 => ?_)))
  have H3 : HC 1 M3 kx.2.1 := h1.congr o1.2.1 (fun c k _ _ => by rw [f3 c k (by omega), f2 c k (by omega)])
  refine s_doorsChanged o1 H3 (fun N f4 wy z1 z2 => ?_)
  have O' : IO kx.2.1 kx.2.2.1 kx.2.2.2 n tp x kx := ⟨o1, o2, o3, O.2.2.2⟩
  have all : ∀ c k, 43 ≤ c → ¬ (c = 95 ∧ k = 1) → ¬ (c = 124 ∧ k = 3) → N c k = M c k := fun c k w w1 w2 => by rw [f4 c k (by omega), f3 c k (by omega), f2 c k (by omega), f1 c k (by omega)]
  have I1 : IC N kx.2.1 kx.2.2.1 kx.2.2.2 n tp x kx := by
    refine ⟨H3.congr o1.2.1 (fun c k _ _ => f4 c k (by omega)), wy, h2.congr (fun c k _ _ => ?_), h3.congr (fun c k _ _ => f4 c k (by omega)), i5.congr (fun c k _ => all c k (by omega) (by omega) (by omega)), i6.congr (fun c k _ => all c k (by omega) (by omega) (by omega)), i7.congr O.2.2.2.2.2 (fun c k w => ?_), Or.inl z1, Or.inl z2⟩
    · rw [f4 c k (by omega), f3 c k (by omega)]
    · rw [f4 c k (by omega), f3 c k (by omega), f2 c k (by omega), f1 c k (by omega)]
  exact K N (fun c k w => all c k (by omega) (by omega) (by omega)) I1 O'
theorem z_folk (I : IC M h s t n tp x kx) (O : IO h s t n tp x kx) (hF : t.1 < 5) {Q : Int32 → Mem → Prop} (K : ∀ M', far M' M → IC M' h s (t.1 + 1, fun i => if i = t.1 then 1 else t.2.1 i, t.2.2) n tp x kx → IO h s (t.1 + 1, fun i => if i = t.1 then 1 else t.2.1 i, t.2.2) n tp x kx → Q (nI t.1) M') : C_X9_folk M (nI 1) Q := by
  obtain ⟨g1, g2, g3, g4, g5, g6⟩ := I.2.2.2.1
  have g1 : M 37 0 = nI t.1 := g1
  refine T_X9_folk ⟨fun w => absurd w (nI_pos (by omega)), fun _ => ⟨fun _ => ?_, fun w => absurd ((n_le (by omega) (by omega)).mpr (by omega)) w⟩⟩
  rw [g1, n_eq (by omega) (by omega)]
  refine ⟨fun q2 => ⟨by rw [vin (by omega)]; omega, ?_⟩, fun q2 => absurd q2 (by omega)⟩
  rw [ix_n (by omega)]
  have I1 : IC (wr (wr M 38 t.1 (nI 1)) 37 0 (nI t.1 + nI 1)) h s (t.1 + 1, fun i => if i = t.1 then 1 else t.2.1 i, t.2.2) n tp x kx := by
    refine I.talk O ⟨by rw [wr_eq, n_add], by rw [wr_nk _ _ _ _ (by omega), wr_nc _ _ _ _ (by omega)]; exact g2, by rw [wr_nk _ _ _ _ (by omega), wr_nc _ _ _ _ (by omega)]; exact g3, by rw [wr_nk _ _ _ _ (by omega), wr_nc _ _ _ _ (by omega), wr_nk _ _ _ _ (by omega), wr_nc _ _ _ _ (by omega), wr_nk _ _ _ _ (by omega), wr_nc _ _ _ _ (by omega)]; exact g4, fun i hi => ?_, fun e he k hk => by rw [wr_nc _ _ _ _ (by omega), wr_nc _ _ _ _ (by omega)]; exact g6 e he k hk⟩ (fun c k q => (by simp only [wr]; repeat rw [if_neg (by omega)]))
    rw [wr_nc _ _ _ _ (by omega)]
    by_cases e : i = t.1
    · simp [e, wr]
    · rw [wr_nk _ _ _ _ e]
      simp only [e, if_false]
      exact g5 i (by simp at hi; omega)
  have O' : IO h s (t.1 + 1, fun i => if i = t.1 then 1 else t.2.1 i, t.2.2) n tp x kx := by
    obtain ⟨o1, o2, o3, o4⟩ := O
    refine ⟨o1, o2, ⟨?_, o3.2.1, fun i hi => ?_, fun k hk => ?_, o3.2.2.2.2⟩, o4⟩
    · show t.1 + 1 ≤ 5; omega
    · show (if i = t.1 then 1 else t.2.1 i) ≤ 1
      split
      · omega
      · exact o3.2.2.1 i (by simp at hi; omega)
    · have := o3.2.2.2.1 k hk
      refine ⟨?_, ?_, this.2.2⟩
      · exact Nat.lt_succ_of_lt this.1
      · exact Nat.lt_succ_of_lt this.2.1
  rw [sub11]
  exact K _ (fun c k hc => (by simp only [wr]; repeat rw [if_neg (by omega)])) I1 O'
theorem z_theft (I : IC M h s t n tp x kx) (O : IO h s t n tp x kx) {j f g : Nat} (hj : j < h.1) (hfg : f ≤ g) (hg : g < 24) {Q : Int32 → Mem → Prop} (K : ∀ M', far M' M → IC M' h s (t.1, t.2.1, t.2.2.1, t.2.2.2.1, true, j, f, g) n tp x kx → IO h s (t.1, t.2.1, t.2.2.1, t.2.2.2.1, true, j, f, g) n tp x kx → Q (nI 1) M') : C_X9_theft M (nI j) (nI f) (nI g) Q := by
  have hR := O.1.1
  refine T_X9_theft (s_hasRoom I.1.1 hR (br (fun q => by rw [okN_n (by omega), decide_eq_true hj] at q; cases q) (fun q1 => s_isTick (br (fun q => by rw [okN_n (by omega), decide_eq_true (by omega)] at q; cases q) (fun q2 => s_isTick (br (fun q => by rw [okN_n (by omega), decide_eq_true (by omega)] at q; cases q) (fun q3 => ⟨fun q4 => ?_, fun q => absurd ((n_le (by omega) (by omega)).mpr hfg) q⟩)))))))
  obtain ⟨g1, g2, g3, g4, g5, g6⟩ := I.2.2.2.1
  have I1 : IC (wr (wr (wr (wr M 37 2 (nI 1)) 37 3 (nI j)) 37 4 (nI f)) 37 5 (nI g)) h s (t.1, t.2.1, t.2.2.1, t.2.2.2.1, true, j, f, g) n tp x kx := by
    refine I.talk O ⟨by rw [wr_nk _ _ _ _ (by omega), wr_nk _ _ _ _ (by omega), wr_nk _ _ _ _ (by omega), wr_nk _ _ _ _ (by omega)]; exact g1, by rw [wr_nk _ _ _ _ (by omega), wr_nk _ _ _ _ (by omega), wr_nk _ _ _ _ (by omega), wr_nk _ _ _ _ (by omega)]; exact g2, by rw [wr_nk _ _ _ _ (by omega), wr_nk _ _ _ _ (by omega), wr_nk _ _ _ _ (by omega), wr_eq]; rfl, fun _ => ⟨by rw [wr_nk _ _ _ _ (by omega), wr_nk _ _ _ _ (by omega), wr_eq], by rw [wr_nk _ _ _ _ (by omega), wr_eq], wr_eq _ _ _ _⟩, fun i hi => by rw [wr_nc _ _ _ _ (by omega), wr_nc _ _ _ _ (by omega), wr_nc _ _ _ _ (by omega), wr_nc _ _ _ _ (by omega)]; exact g5 i hi, fun e he k hk => by rw [wr_nc _ _ _ _ (by omega), wr_nc _ _ _ _ (by omega), wr_nc _ _ _ _ (by omega), wr_nc _ _ _ _ (by omega)]; exact g6 e he k hk⟩ (fun c k q => (by simp only [wr]; repeat rw [if_neg (by omega)]))
  have O' : IO h s (t.1, t.2.1, t.2.2.1, t.2.2.2.1, true, j, f, g) n tp x kx := by
    obtain ⟨o1, o2, o3, o4⟩ := O
    exact ⟨o1, o2, ⟨o3.1, o3.2.1, o3.2.2.1, o3.2.2.2.1, fun _ => ⟨hj, hfg, by show g ≤ 23; omega⟩⟩, o4⟩
  exact K _ (fun c k hc => (by simp only [wr]; repeat rw [if_neg (by omega)])) I1 O'
theorem z_say (I : IC M h s t n tp x kx) (O : IO h s t n tp x kx) {a o r u : Nat} (ha : a < t.1) (ho : o < t.1) (hr : r < h.1) (hu : u < 24) (hY : t.2.2.1 < 12) {Q : Int32 → Mem → Prop} (K : ∀ M', far M' M → IC M' h s (tadd t a o r u) n tp x kx → IO h s (tadd t a o r u) n tp x kx → Q (nI t.2.2.1) M') : C_X9_say M (nI a) (nI o) (nI r) (nI u) Q := by
  have hR := O.1.1
  have hF := O.2.2.1.1
  have g2 : M 37 1 = nI t.2.2.1 := I.2.2.2.1.2.1
  refine T_X9_say (s_hasOne I.2.2.2.1.1 hF (br (fun q => by rw [okN_n (by omega), decide_eq_true ha] at q; cases q) (fun q1 => s_hasOne I.2.2.2.1.1 hF (br (fun q => by rw [okN_n (by omega), decide_eq_true ho] at q; cases q) (fun q2 => s_hasRoom I.1.1 hR (br (fun q => by rw [okN_n (by omega), decide_eq_true hr] at q; cases q) (fun q3 => s_isTick (br' (fun q => by rw [okN_n (by omega), decide_eq_true hu] at q; cases q) (fun q4 => ?_)))))))))
  rw [g2, n_eq (by omega) (by omega)]
  refine ⟨fun q5 => s_addSaying I.2.2.2.1 (by omega) (fun M1 f1 s1 => ?_), fun q5 => absurd q5 (by omega)⟩
  have I1 := I.talk O s1 f1
  have O' : IO h s (tadd t a o r u) n tp x kx := ⟨O.1, O.2.1, O.2.2.1.add (by omega) ha ho hr hu, O.2.2.2⟩
  have e1 : M1 37 1 = nI (t.2.2.1 + 1) := s1.2.1
  rw [e1, n_sub (by omega)]
  exact K M1 (fun c k hc => f1 c k (by omega)) I1 O'
theorem z_liars (I : IC M h s t n tp x kx) (O : IO h s t n tp x kx) (hR : 0 < h.1) {Q : Int32 → Mem → Prop} (K : ∀ M' y, far M' M → IC M' h s t n tp x kx → LI h t 99 y → Q (nI y) M') : C_X9_liars M Q := by
  have hR2 := O.1.1
  have e1 : M 1 0 = nI h.1 := I.1.1
  refine T_X9_liars ?_
  rw [e1, n_eq0 (by omega), ← wI_99]
  refine ⟨fun q => s_findLiars O.1 (by omega) O.2.2.1 I.2.2.2.1 I.2.1 99 (fun M1 y f1 li _ => K M1 y (fun c k hc => f1 c k (by omega)) (I.inq O f1) li), fun q => absurd q (by omega)⟩
theorem z_maybe (I : IC M h s t n tp x kx) (O : IO h s t n tp x kx) (hR : 0 < h.1) {o v : Nat} (ho : o < t.1) (hv : v < 24) {Q : Int32 → Mem → Prop} (K : ∀ M' y, far M' M → IC M' h s t n tp x kx → LI h t 99 y → Q (mk (wy h t (tb_ y) 99 o v)) M') : C_X9_maybe M (nI o) (nI v) Q := by
  have hR2 := O.1.1
  have hF := O.2.2.1.1
  have e1 : M 1 0 = nI h.1 := I.1.1
  refine T_X9_maybe (s_hasOne I.2.2.2.1.1 hF (br (fun q => by rw [okN_n (by omega), decide_eq_true ho] at q; cases q) (fun q => s_isTick (br' (fun q => by rw [okN_n (by omega), decide_eq_true hv] at q; cases q) (fun q2 => ?_)))))
  rw [e1, n_eq0 (by omega), ← wI_99]
  refine ⟨fun q3 => s_findLiars O.1 (by omega) O.2.2.1 I.2.2.2.1 I.2.1 99 (fun M1 y f1 li pn => ?_), fun q3 => absurd q3 (by omega)⟩
  have I1 := I.inq O f1
  exact s_roomsOf O.1 O.2.2.1 I1.1 I1.2.2.2.1 I1.2.1 ho hv pn (K M1 y (fun c k hc => f1 c k (by omega)) I1 li)
theorem z_suspects (I : IC M h s t n tp x kx) (O : IO h s t n tp x kx) (hR : 0 < h.1) (st : t.2.2.2.2.1 = true) {Q : Int32 → Mem → Prop} (K : ∀ M' y, far M' M → IC M' h s t n tp x kx → LI h t 99 y → Q (mk (fun z => decide (z < t.1) && suB h t (tb_ y) 99 z)) M') : C_X9_suspects M Q := by
  have hF := O.2.2.1.1
  have e2 : M 37 2 = bI t.2.2.2.2.1 := I.2.2.2.1.2.2.1
  refine T_X9_suspects ?_
  rw [e2]
  refine br' (fun q => absurd (st.symm.trans q) (by decide)) (fun _ => ?_)
  rw [← wI_99]
  refine s_findLiars O.1 (by omega) O.2.2.1 I.2.2.2.1 I.2.1 99 (fun M1 y f1 li pn => ?_)
  have I1 := I.inq O f1
  have k0 := K M1 y (fun c k hc => f1 c k (by omega)) I1 li
  have key : ∀ n2 f, f + n2 = t.1 → P_X9_suspects_26 M1 (mk (fun z => decide (z < f) && suB h t (tb_ y) 99 z)) (nI f) Q := by
    intro n2
    induction n2 with
    | zero =>
      intro f hf
      have : f = t.1 := by omega
      subst this
      refine T_X9_suspects_26 ?_
      rw [I1.2.2.2.1.1, n_le (by omega) (by omega)]
      exact ⟨fun _ => k0, fun w => by omega⟩
    | succ n2 ih =>
      intro f hf
      have z := ih (f + 1) (by omega)
      refine T_X9_suspects_26 ?_
      rw [I1.2.2.2.1.1, n_le (by omega) (by omega), n_add]
      refine ⟨fun w => by omega, fun _ => s_isSuspect O.1 O.2.2.1 st I1.1 I1.2.2.2.1 I1.2.1 (show f < t.1 by omega) pn (br (fun q => ?_) (fun q => ?_))⟩
      · rw [show (mk fun z => decide (z < f) && suB h t (tb_ y) 99 z) = mk (fun z => decide (z < f + 1) && suB h t (tb_ y) 99 z) from mk_ext (fun i _ => by
          by_cases e : i = f
          · subst e; simp [q]
          · simp [show (i < f + 1) = (i < f) from by rw [eq_iff_iff]; omega])]
        exact z
      · rw [mk_one (by omega), mk_or, show (mk fun i => (decide (i < f) && suB h t (tb_ y) 99 i) || decide (i = f)) = mk (fun z => decide (z < f + 1) && suB h t (tb_ y) 99 z) from mk_ext (fun i _ => by
          by_cases e : i = f
          · subst e; simp [q]
          · simp [e, show (i < f + 1) = (i < f) from by rw [eq_iff_iff]; omega])]
        exact z
  have z := key t.1 0 (by omega)
  rw [show (mk fun z => decide (z < 0) && suB h t (tb_ y) 99 z) = nI 0 from by rw [mk_0]; exact mk_ext (fun i _ => by simp)] at z
  exact z
/-- clears: NONE for a suspect, else a set of sayings -/
theorem z_clears (I : IC M h s t n tp x kx) (O : IO h s t n tp x kx) (hR : 0 < h.1) (st : t.2.2.2.2.1 = true) {o : Nat} (ho : o < t.1) {Q : Int32 → Mem → Prop} (K : ∀ M' y r, far M' M → IC M' h s t n tp x kx → LI h t 99 y → (suB h t (tb_ y) 99 o = true → r = -4) → (suB h t (tb_ y) 99 o = false → ∃ p : Nat → Bool, r = mk (fun i => decide (i < t.2.2.1) && p i)) → Q r M') : C_X9_clears M (nI o) Q := by
  have hF := O.2.2.1.1
  have hY := O.2.2.1.2.1
  have e2 : M 37 2 = bI t.2.2.2.2.1 := I.2.2.2.1.2.2.1
  refine T_X9_clears (s_hasOne I.2.2.2.1.1 hF (br' (fun q => by rw [okN_n (by omega), decide_eq_true ho] at q; cases q) (fun q => ?_)))
  rw [e2]
  refine br' (fun q2 => absurd (st.symm.trans q2) (by decide)) (fun _ => ?_)
  rw [← wI_99]
  refine s_findLiars O.1 (by omega) O.2.2.1 I.2.2.2.1 I.2.1 99 (fun M1 y f1 li pn => ?_)
  have I1 := I.inq O f1
  refine s_isSuspect O.1 O.2.2.1 st I1.1 I1.2.2.2.1 I1.2.1 ho pn (br (fun q3 => ?_) (fun q3 => K M1 y (-4) (fun c k hc => f1 c k (by omega)) I1 li (fun _ => rfl) (fun w => absurd (q3.symm.trans w) (by decide))))
  have key : ∀ n2 k (M2 : Mem) (p : Nat → Bool), k + n2 = t.2.2.1 → far M2 M → IC M2 h s t n tp x kx → P_X9_clears_53 M2 (nI o) (mk (fun i => decide (i < k) && p i)) (nI k) Q := by
    intro n2
    induction n2 with
    | zero =>
      intro k M2 p hk f2 I2
      have : k = t.2.2.1 := by omega
      subst this
      refine T_X9_clears_53 ?_
      rw [I2.2.2.2.1.2.1, n_le (by omega) (by omega)]
      exact ⟨fun _ => K M2 y _ f2 I2 li (fun w => absurd (q3.symm.trans w) (by decide)) (fun _ => ⟨p, rfl⟩), fun w => by omega⟩
    | succ n2 ih =>
      intro k M2 p hk f2 I2
      refine T_X9_clears_53 ?_
      rw [I2.2.2.2.1.2.1, n_le (by omega) (by omega), n_add]
      refine ⟨fun w => by omega, fun _ => ?_⟩
      rw [show nI k = wI k from by unfold wI; rw [if_pos (by omega)]]
      refine s_findLiars O.1 (by omega) O.2.2.1 I2.2.2.2.1 I2.2.1 k (fun M3 z f3 li3 pn3 => ?_)
      have I3 := I2.inq O f3
      rw [show wI k = nI k from by unfold wI; rw [if_pos (by omega)]]
      have f4 : far M3 M := f2.tr (fun c k hc => f3 c k (by omega))
      refine s_isSuspect O.1 O.2.2.1 st I3.1 I3.2.2.2.1 I3.2.1 ho pn3 (br (fun q5 => ?_) (fun q5 => ?_))
      · have zz := ih (k + 1) M3 (fun i => decide (i < k) && p i) (by omega) f4 I3
        rw [show (mk fun i => decide (i < k) && p i) = mk (fun i => decide (i < k + 1) && (decide (i < k) && p i)) from mk_ext (fun i _ => by
          by_cases e : i < k
          · simp [e, show i < k + 1 from by omega]
          · simp [e])]
        exact zz
      · have zz := ih (k + 1) M3 (fun i => if i = k then true else p i) (by omega) f4 I3
        rw [mk_one (by omega), mk_or, show (mk fun i => (decide (i < k) && p i) || decide (i = k)) = mk (fun i => decide (i < k + 1) && (if i = k then true else p i)) from mk_ext (fun i _ => by
          by_cases e : i = k
          · subst e; simp
          · simp [e, show (i < k + 1) = (i < k) from by rw [eq_iff_iff]; omega])]
        exact zz
  have zz := key t.2.2.1 0 M1 (fun _ => false) (by omega) (fun c k hc => f1 c k (by omega)) I1
  rw [show (mk fun i => decide (i < 0) && false) = nI 0 from by rw [mk_0]; exact mk_ext (fun i _ => by simp)] at zz
  exact zz
end Z74
