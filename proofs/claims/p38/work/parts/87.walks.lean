/-! ===== walks: the guests, as texts ===== -/
theorem n_shr {a : Nat} (ha : a < 2147483648) {k : Nat} (hk : k < 32) : nI a >>> (nI k &&& 31) = nI (a / 2 ^ k) := by
  apply Int32.toInt_inj.mp
  rw [nI_toInt (Nat.lt_of_le_of_lt (Nat.div_le_self _ _) ha)]
  show (nI a >>> (nI k &&& 31)).toBitVec.toInt = _
  rw [Int32.toBitVec_shiftRight]
  show ((nI a).toBitVec.sshiftRight ((nI k &&& 31).toBitVec.smod 32).toNat).toInt = _
  rw [s_l k hk, BitVec.toInt_sshiftRight]
  have : (nI a).toBitVec.toInt = (a : Int) := nI_toInt ha
  rw [this, Int.shiftRight_eq_div_pow]
  first
    | rfl
    | exact (Int.natCast_ediv a (2 ^ k)).symm
    | norm_cast
/-- the tape holds m rooms, each with a number of one digit, an open door from each to the next; r is the last -/
def TW (h : HS) (n : Nat) (tp : Nat → Nat) (m r : Nat) : Prop := n = 2 * m ∧ (∀ j, j < m → 97 ≤ tp (2 * j) ∧ tp (2 * j) < 97 + h.1 ∧ 49 ≤ tp (2 * j + 1) ∧ tp (2 * j + 1) ≤ 52) ∧ (∀ j, j + 1 < m → h.2.2.2.1 (tp (2 * j) - 97) (tp (2 * (j + 1)) - 97) = 1) ∧ (0 < m → tp (2 * (m - 1)) = 97 + r)
theorem TW_0 (h : HS) (tp : Nat → Nat) (r : Nat) : TW h 0 tp 0 r := ⟨rfl, fun j hj => absurd hj (by omega), fun j hj => absurd hj (by omega), fun hm => absurd hm (by omega)⟩
theorem TW_add {h : HS} {n : Nat} {tp : Nat → Nat} {m r : Nat} (T : TW h n tp m r) {r' q : Nat} (hr : r' < h.1) (hd : 0 < m → h.2.2.2.1 r r' = 1) (h1 : 1 ≤ q) (h4 : q ≤ 4) : TW h (n + 1 + 1) (up_ (up_ tp n (97 + r')) (n + 1) (48 + q)) (m + 1) r' := by
  obtain ⟨t1, t2, t3, t4⟩ := T
  subst t1
  have old : ∀ i, i < 2 * m → up_ (up_ tp (2 * m) (97 + r')) (2 * m + 1) (48 + q) i = tp i := fun i hi => by rw [up_ne _ _ (by omega), up_ne _ _ (by omega)]
  have n0 : up_ (up_ tp (2 * m) (97 + r')) (2 * m + 1) (48 + q) (2 * m) = 97 + r' := by rw [up_ne _ _ (by omega), up_eq]
  have n1 : up_ (up_ tp (2 * m) (97 + r')) (2 * m + 1) (48 + q) (2 * m + 1) = 48 + q := up_eq _ _ _
  refine ⟨by omega, fun j hj => ?_, fun j hj => ?_, fun _ => ?_⟩
  · by_cases e : j = m
    · subst e
      rw [n0, n1]; omega
    · rw [old _ (by omega), old _ (by omega)]
      exact t2 j (by omega)
  · by_cases e : j + 1 = m
    · rw [old _ (by omega), show 2 * (j + 1) = 2 * m by omega, n0, show 2 * j = 2 * (m - 1) by omega, t4 (by omega), show 97 + r - 97 = r by omega, show 97 + r' - 97 = r' by omega]
      exact hd (by omega)
    · rw [old _ (by omega), old _ (by omega)]
      exact t3 j (by omega)
  · rw [show 2 * (m + 1 - 1) = 2 * m by omega, n0]
theorem wkf_ok {h : HS} {n : Nat} {tp : Nat → Nat} {m r : Nat} (T : TW h n tp m r) (hm : m ≤ 5) : ∀ d j ah tot pth, j < m → m - j ≤ d → tot ≤ 4 * j → (ah = none ∨ ∃ a, ah = some a ∧ h.2.2.2.1 a (tp (2 * j) - 97) = 1) → ∃ g, wkf h n tp d (2 * j) ah tot pth = .inr g := by
  obtain ⟨t1, t2, t3, t4⟩ := T
  subst t1
  intro d
  induction d with
  | zero => intro j ah tot pth hj hd; omega
  | succ d ih =>
    intro j ah tot pth hj hd ht hah
    obtain ⟨b1, b2, b3, b4⟩ := t2 j hj
    have hs : sk (2 * m) tp (2 * j) = 2 * j := sk_no (fun w => by omega)
    have hs1 : sk (2 * m) tp (2 * j + 1) = 2 * j + 1 := sk_no (fun w => by omega)
    have hdig : isD (2 * m) tp (2 * j + 1) = true := decide_eq_true (by omega)
    have hnd : isD (2 * m) tp (2 * j + 1 + 1) = false := decide_eq_false (fun w => by
      have := (t2 (j + 1) (by omega)).1
      rw [show 2 * (j + 1) = 2 * j + 1 + 1 by omega] at this
      omega)
    have hdg : dgs (2 * m) tp (2 * j + 1) 0 = (2 * j + 1 + 1, dnx 0 (tp (2 * j + 1))) := by rw [dgs_yes hdig, dgs_no hnd]
    have hdn : dnx 0 (tp (2 * j + 1)) = tp (2 * j + 1) - 48 := by unfold dnx; rw [if_pos (by omega)]; omega
    have hnE : nE (2 * m) tp (2 * j + 1) = (2 * j + 1 + 1, tp (2 * j + 1) - 48) := by unfold nE; rw [hs1, hdg, hdn]
    have q1 : ltB (2 * m) tp h.1 (2 * j) = true := by unfold ltB; rw [hs]; exact decide_eq_true (by omega)
    have q2 : dok h ah (tp (2 * j) - 97) = true := by
      rcases hah with e | ⟨a, e, ha⟩
      · rw [e]; rfl
      · rw [e]; exact decide_eq_true ha
    have q3 : nmB (2 * m) tp 1 (24 - tot) (2 * j + 1) = true := by
      unfold nmB
      rw [hs1, hdig, hdg, hdn]
      exact decide_eq_true (by omega)
    have hs2 : sk (2 * m) tp (2 * j + 1 + 1) = 2 * j + 1 + 1 := sk_no (fun w => by
      have := (t2 (j + 1) (by omega)).1
      rw [show 2 * (j + 1) = 2 * j + 1 + 1 by omega] at this
      omega)
    rw [wkf, if_neg (by rw [q1]; decide), hs, if_neg (by rw [q2]; decide), if_neg (by rw [q3]; decide), hnE]
    by_cases e : j + 1 = m
    · rw [if_neg (by rw [hs2]; omega)]
      exact ⟨_, rfl⟩
    · rw [if_pos (by rw [hs2]; omega), hs2, show 2 * j + 1 + 1 = 2 * (j + 1) by omega]
      exact ih (j + 1) _ _ _ (by omega) (by omega) (by show tot + (tp (2 * j + 1) - 48) ≤ 4 * (j + 1); omega) (Or.inr ⟨_, rfl, t3 j (by omega)⟩)
theorem bt_let : ∀ r, r < 10 → bt8 ((97 : Int64) + (nI r).toInt64) 0 = 97 + r := by decide +kernel
theorem bt_num : ∀ q, q < 5 → bt8 ((48 : Int64) + (nI q).toInt64) 0 = 48 + q := by decide +kernel
def fA (M' M : Mem) : Prop := ∀ c k, 182 < c → M' c k = M c k
theorem fA.rf (M : Mem) : fA M M := fun _ _ _ => rfl
theorem fA.tr {M M1 M2 : Mem} (a : fA M1 M) (b : fA M2 M1) : fA M2 M := fun c k h => (b c k h).trans (a c k h)
theorem fA.fr {M M1 M2 : Mem} (a : fA M1 M) (b : far M2 M1) : fA M2 M := fun c k h => (b c k (by omega)).trans (a c k h)
theorem fA.wr {M M1 : Mem} (a : fA M1 M) (k : Nat) (v : Int32) : fA (wr M1 182 k v) M := fun c j h => (wr_nc _ _ _ _ (by omega)).trans (a c j h)
theorem l_guest {X : HX} {L : Nat} {xs : Nat → Int32} {Q : Int32 → Mem → Prop} (C : LC mdL_walks 4 0 0 X L xs) (R : RT mdL_walks X 0 0 Q) {M : Mem} {h : HS} {s : SS} {t : TS} {x : WS} {kx : KS} {n gs g xx : Nat} (hn4 : 4 ≤ n) (hn8 : n ≤ 8) (hg2 : g < 2) (hG : h.2.2.1 = g) (hh : h.1 = n) (hdk : ∀ a b, a < n → b < n → h.2.2.2.1 a b = dkP L xs n (n + 1) a b) (hgx : gx M = 1) (hxx : xx < 2147483648)
    (NEXT : ∀ M2 h2 tp2, fA M2 M → IC M2 h2 s t 0 tp2 x kx → IO h2 s t 0 tp2 x kx → h2.1 = n → h2.2.2.2.1 = h.2.2.2.1 → h2.2.2.1 = g + 1 → P_L_walks_15 X M2 (nI n) (nI gs) (nI 1) (nI (g + 1))) :
    ∀ d k M1 zn tp m r tt, k + d = 5 → fA M1 M → IC M1 h s t zn tp x kx → IO h s t zn tp x kx → TW h zn tp m r → m ≤ k → (0 < k → 0 < m) → r < n → tt ≤ 4 * k → P_L_walks_49 X M1 (nI n) (nI gs) (nI 1) (nI g) (nI xx) (nI r) (nI tt) (nI k) := by
  have gx1 : ∀ M1, fA M1 M → 182 < 182 + gx M1 := fun M1 f => by
    have : gx M1 = 1 := by rw [← hgx]; unfold gx; rw [f 999 0 (by omega)]
    omega
  have fillend : ∀ e M1 zn tp m r tt, tt + e = 24 → fA M1 M → IC M1 h s t zn tp x kx → IO h s t zn tp x kx → TW h zn tp m r → 0 < m → m ≤ 5 → P_L_walks_244 X M1 (nI n) (nI gs) (nI 1) (nI g) (nI r) (nI tt) := by
    intro e
    induction e with
    | zero =>
      intro M1 zn tp m r tt ht f1 I1 O1 T hm hm5
      obtain ⟨gg, eg⟩ := wkf_ok T hm5 8 0 none 0 (fun _ => 0) hm (by omega) (by omega) (Or.inl rfl)
      refine T_L_walks_244 C R ?_
      rw [n_le (by omega) (by omega)]
      refine ⟨fun _ => ⟨fun w => absurd w (by decide), fun _ => z_walk I1 O1 eg (by omega) (fun M2 f2 I2 O2 => ?_)⟩, fun w => absurd (by omega) w⟩
      rw [hG, n_eq (by omega) (by omega), n_add]
      exact ⟨fun w => absurd rfl w, fun _ => NEXT M2 _ tp (f1.fr f2) I2 O2 hh rfl (by show h.2.2.1 + 1 = g + 1; omega)⟩
    | succ e ih =>
      intro M1 zn tp m r tt ht f1 I1 O1 T hm hm5
      refine T_L_walks_244 C R ?_
      rw [n_le (by omega) (by omega), n_mul, n_add (24 * g) tt, n_add tt 1, vin (by omega)]
      exact ⟨fun w => absurd w (by omega), fun _ => ⟨⟨gx1 M1 f1, by omega⟩, ih _ zn tp m r (tt + 1) (by omega) (f1.wr _ _) (I1.far O1 (fun c k hc => wr_nc _ _ _ _ (by omega))) O1 T hm hm5⟩⟩
  intro d
  induction d with
  | zero =>
    intro k M1 zn tp m r tt hk f1 I1 O1 T hmk hkm hr ht
    refine T_L_walks_49 C R ?_
    rw [n_le (by omega) (by omega)]
    exact ⟨fun _ => fillend (24 - tt) M1 zn tp m r tt (by omega) f1 I1 O1 T (hkm (by omega)) (by omega), fun w => absurd (by omega) w⟩
  | succ d ih =>
    intro k M1 zn tp m r tt hk f1 I1 O1 T hmk hkm hr ht
    refine T_L_walks_49 C R ?_
    obtain ⟨q, hq, eq⟩ := rem_lt (n_shr hxx (k := 3 + 3 * k) (by omega)) (Nat.lt_of_le_of_lt (Nat.div_le_self _ _) hxx) (n := 4) (by omega) (by omega)
    rw [n_le (by omega) (by omega), n_mul, n_add 3, eq, n_add 1 q]
    refine ⟨fun w => absurd w (by omega), fun _ => ⟨fun w => absurd w (by decide), fun _ => ?_⟩⟩
    generalize hq1 : 1 + q = qq
    have hqa : 1 ≤ qq := by omega
    have hqb : qq ≤ 4 := by omega
    have fill : ∀ e i M2 zn2 tp2 r2 tt2, i + e = qq → tt2 + e ≤ 4 * (k + 1) → fA M2 M → IC M2 h s t zn2 tp2 x kx → IO h s t zn2 tp2 x kx → TW h zn2 tp2 (m + 1) r2 → r2 < n → P_L_walks_210 X M2 (nI n) (nI gs) (nI 1) (nI g) (nI xx) (nI r2) (nI tt2) (nI k) (nI qq) (nI i) := by
      intro e
      induction e with
      | zero =>
        intro i M2 zn2 tp2 r2 tt2 hi h2 f2 I2 O2 T2 hr2
        refine T_L_walks_210 C R ?_
        rw [n_le (by omega) (by omega), n_add k 1]
        exact ⟨fun _ => ih (k + 1) M2 zn2 tp2 (m + 1) r2 tt2 (by omega) f2 I2 O2 T2 (by omega) (fun _ => by omega) hr2 (by omega), fun w => absurd (by omega) w⟩
      | succ e ihe =>
        intro i M2 zn2 tp2 r2 tt2 hi h2 f2 I2 O2 T2 hr2
        refine T_L_walks_210 C R ?_
        rw [n_le (by omega) (by omega), n_mul, n_add (24 * g) tt2, n_add tt2 1, n_add i 1, vin (by omega)]
        exact ⟨fun w => absurd w (by omega), fun _ => ⟨⟨gx1 M2 f2, by omega⟩, ihe (i + 1) _ zn2 tp2 r2 (tt2 + 1) (by omega) (by omega) (f2.wr _ _) (I2.far O2 (fun c k hc => wr_nc _ _ _ _ (by omega))) O2 T2 hr2⟩⟩
    have hzn : zn ≤ 8 := by have := T.1; omega
    have typed : ∀ r2, r2 < n → (0 < m → h.2.2.2.1 r r2 = 1) → P_L_walks_168 X M1 (nI n) (nI gs) (nI g) (nI xx) (nI tt) (nI k) (nI qq) (nI r2) := by
      intro r2 hr2 hd2
      have b1 := bt_let r2 (by omega)
      have b2 := bt_num qq (by omega)
      refine T_L_walks_168 C R (z_type I1 O1 (by omega) (by rw [b1]; omega) (fun M2 f2 I2 O2 => ?_))
      rw [b1] at I2 O2
      rw [n_le0 (by omega)]
      refine ⟨fun w => absurd w (by omega), fun _ => z_type I2 O2 (by omega) (by rw [b2]; omega) (fun M3 f3 I3 O3 => ?_)⟩
      rw [b2] at I3 O3
      rw [n_le0 (by omega)]
      refine ⟨fun w => absurd w (by omega), fun _ => T_L_walks_205 C R ?_⟩
      exact fill qq 0 M3 _ _ r2 tt (by omega) (by omega) ((f1.fr f2).fr f3) I3 O3 (TW_add T (by omega) hd2 hqa hqb) hr2
    by_cases k0 : k = 0
    · subst k0
      refine T_L_walks_81 C R ?_
      rw [n_le (by omega) (by omega), n_le0 (by omega)]
      refine ⟨fun w => absurd w (by omega), fun _ => ⟨fun _ => ⟨fun _ => ⟨fun w => absurd nI_0 w, fun _ => typed r hr (fun w => absurd w (by omega))⟩, fun w => absurd nI_0 w⟩, fun w => absurd rfl w⟩⟩
    · have hne : ¬ nI k = 0 := by rw [n_eq0 (by omega)]; exact k0
      have hm0 := hkm (by omega)
      have nexts : ∀ e i (nv : Int32), i + e = n → (nv = -1 ∨ ∃ v, nv = nI v ∧ v < n ∧ h.2.2.2.1 r v = 1) → P_L_walks_81 X M1 (nI n) (nI gs) (nI 1) (nI g) (nI xx) (nI r) (nI tt) (nI k) (nI qq) nv (nI i) := by
        intro e
        induction e with
        | zero =>
          intro i nv hi hv
          refine T_L_walks_81 C R ?_
          rw [n_le (by omega) (by omega)]
          refine ⟨fun _ => ⟨fun w => absurd w hne, fun _ => ⟨fun w => ?_, fun w => ⟨fun _ => ?_, fun w2 => absurd w2 hne⟩⟩⟩, fun w => absurd (by omega) w⟩
          · rw [n_add]
            exact ih (k + 1) M1 zn tp m r tt (by omega) f1 I1 O1 T (by omega) (fun _ => hm0) hr (by omega)
          · rcases hv with e1 | ⟨v, rfl, hv1, hv2⟩
            · rw [e1] at w; exact absurd (by decide) w
            · exact typed v hv1 (fun _ => hv2)
        | succ e ihe =>
          intro i nv hi hv
          refine T_L_walks_81 C R ?_
          have hb : xx / 2 ^ (18 + k) ≤ 8192 := by
            have h1 : xx / 2 ^ (18 + k) ≤ xx / 2 ^ 18 := Nat.div_le_div_left (Nat.pow_le_pow_right (by omega) (by omega)) (by omega)
            have h2 : xx / 2 ^ 18 < 8192 := by omega
            omega
          obtain ⟨v, hv3, ev⟩ := rem_lt (x := nI (i + xx / 2 ^ (18 + k))) rfl (by omega) (n := n) (by omega) (by omega)
          rw [n_le (by omega) (by omega), n_add 18 k, n_shr hxx (by omega), n_add i (xx / 2 ^ (18 + k)), ev, n_add i 1, n_le0 (by omega), n_eq (by omega) (by omega)]
          refine ⟨fun w => absurd w (by omega), fun _ => ⟨fun w => absurd w k0, fun _ => ⟨by rw [n_eq0 (by omega)]; omega, fun _ => ihe (i + 1) nv (by omega) hv, fun _ => ⟨fun _ => ihe (i + 1) nv (by omega) hv, fun _ => ⟨fun _ => ihe (i + 1) nv (by omega) hv, fun w => ihe (i + 1) (nI v) (by omega) (Or.inr ⟨v, rfl, hv3, ?_⟩)⟩⟩⟩⟩⟩
          rw [hdk r v hr hv3]
          exact drI_0 hn4 hn8 hr hv3 w
      exact nexts n 0 (-1) (by omega) (Or.inl rfl)
theorem s_walks {L : Nat} {xs : Nat → Int32} (hL : L ≤ 260) {M : Mem} {h : HS} {s : SS} {t : TS} {tp : Nat → Nat} {x : WS} {kx : KS} (I : IC M h s t 0 tp x kx) (O : IO h s t 0 tp x kx) {n : Nat} (hn4 : 4 ≤ n) (hn8 : n ≤ 8) (hh : h.1 = n) (hG : h.2.2.1 = 0) (hdk : ∀ a b, a < n → b < n → h.2.2.2.1 a b = dkP L xs n (n + 1) a b) (hgx : gx M = 1) {Q : Int32 → Mem → Prop}
    (K : ∀ M' h' tp', fA M' M → IC M' h' s t 0 tp' x kx → IO h' s t 0 tp' x kx → h'.1 = n → h'.2.2.2.1 = h.2.2.2.1 → Q (nI h'.2.2.1) M') : C_L_walks L xs M (nI n) Q := by
  refine HLc_of (by decide +kernel) (fun _ _ => Nat.le_of_ble_eq_true rfl) rfl hL (fun X C R => T_L_walks C R ?_)
  obtain ⟨gs, hgs, es⟩ := cl_rem L xs (nI 1) (n := 3) (by omega) (by omega)
  rw [es]
  have key : ∀ d g M1 h1 tp1, g + d = gs → fA M1 M → IC M1 h1 s t 0 tp1 x kx → IO h1 s t 0 tp1 x kx → h1.1 = n → h1.2.2.2.1 = h.2.2.2.1 → h1.2.2.1 = g → P_L_walks_15 X M1 (nI n) (nI gs) (nI 1) (nI g) := by
    intro d
    induction d with
    | zero =>
      intro g M1 h1 tp1 hg f1 I1 O1 a1 a2 a3
      refine T_L_walks_15 C R ?_
      rw [n_le (by omega) (by omega)]
      refine ⟨fun _ => ⟨fun w => absurd w (by decide), fun _ => ?_⟩, fun w => absurd (by omega) w⟩
      have := K M1 h1 tp1 f1 I1 O1 a1 a2
      rw [show h1.2.2.1 = gs by omega] at this
      exact this
    | succ d ih =>
      intro g M1 h1 tp1 hg f1 I1 O1 a1 a2 a3
      refine T_L_walks_15 C R ?_
      obtain ⟨xx, hxx, ex⟩ := cl_n L xs (nI (2 + g))
      rw [n_le (by omega) (by omega), n_add 2 g, n_lt0 (by omega), ex, n_rem hxx (by omega) (by omega)]
      refine ⟨fun w => absurd w (by omega), fun _ => ⟨fun w => absurd w (by decide), fun _ => ⟨fun w => w, by rw [n_eq0 (by omega)]; omega, ?_⟩⟩⟩
      exact l_guest (M := M1) (h := h1) (s := s) (t := t) (x := x) (kx := kx) C R hn4 hn8 (by omega) a3 a1 (fun a b ha hb => by rw [a2]; exact hdk a b ha hb) (by rw [← hgx]; unfold gx; rw [f1 999 0 (by omega)]) hxx
        (fun M2 h2 tp2 f2 I2 O2 b1 b2 b3 => ih (g + 1) M2 h2 tp2 (by omega) (f1.tr f2) I2 O2 b1 (b2.trans a2) b3) 5 0 M1 0 tp1 0 (xx % n) 0 (by omega) (fA.rf M1) I1 O1 (TW_0 h1 tp1 _) (by omega) (fun w => absurd w (by omega)) (Nat.mod_lt _ (by omega)) (by omega)
  exact key gs 0 M h tp (by omega) (fA.rf M) I O hh rfl hG
