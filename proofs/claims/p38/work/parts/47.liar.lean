/-! ===== the fewest liars ===== -/
def LI (h : HS) (t : TS) (w x : Nat) : Prop := x < 2 ^ t.1 ∧ okL h t (tb_ x) w ∧ ∀ y, y < 2 ^ t.1 → okL h t (tb_ y) w → cntN (tb_ x) 5 < cntN (tb_ y) 5 ∨ (cntN (tb_ x) 5 = cntN (tb_ y) 5 ∧ x ≤ y)
theorem LI_uniq {h : HS} {t : TS} {w x y : Nat} (h1 : LI h t w x) (h2 : LI h t w y) : x = y := by
  have := h1.2.2 y h2.1 h2.2.1
  have := h2.2.2 x h1.1 h1.2.1
  omega
theorem bd_c {t : TS} {L L' : Nat → Bool} {w one k : Nat} (e : k ≠ w → L (t.2.2.2.1 k 0) = L' (t.2.2.2.1 k 0)) : bd t L w one k = bd t L' w one k := by
  unfold bd
  by_cases q : k = w
  · simp [q]
  · rw [e q]
theorem al_c {t : TS} {L L' : Nat → Bool} {w one u r : Nat} (e : ∀ k, k < t.2.2.1 → k ≠ w → L (t.2.2.2.1 k 0) = L' (t.2.2.2.1 k 0)) : al t L w one u r = al t L' w one u r := allN_c (fun k hk => by rw [bd_c (e k hk)])
theorem fw_c {h : HS} {t : TS} {L L' : Nat → Bool} {w one : Nat} (e : ∀ k, k < t.2.2.1 → k ≠ w → L (t.2.2.2.1 k 0) = L' (t.2.2.2.1 k 0)) : ∀ u r, fw h t L w one u r = fw h t L' w one u r := by
  intro u
  induction u with
  | zero => intro r; simp only [fw]; rw [al_c e]
  | succ u ih =>
    intro r
    simp only [fw]
    rw [al_c e, anyN_c (fun c _ => by rw [ih c])]
theorem bw_c {h : HS} {t : TS} {L L' : Nat → Bool} {w one : Nat} (e : ∀ k, k < t.2.2.1 → k ≠ w → L (t.2.2.2.1 k 0) = L' (t.2.2.2.1 k 0)) : ∀ i r, bw h t L w one i r = bw h t L' w one i r := by
  intro i
  induction i with
  | zero => intro r; simp only [bw]; rw [fw_c e]
  | succ i ih =>
    intro r
    simp only [bw]
    rw [fw_c e, anyN_c (fun c _ => by rw [ih c])]
theorem okL_c {h : HS} {t : TS} {L L' : Nat → Bool} {w : Nat} (e : ∀ k, k < t.2.2.1 → k ≠ w → L (t.2.2.2.1 k 0) = L' (t.2.2.2.1 k 0)) : okL h t L w → okL h t L' w := by
  intro ok one h1
  obtain ⟨r, hr⟩ := ok one h1
  exact ⟨r, by unfold wy at *; rw [← bw_c e]; exact hr⟩
def spk (t : TS) (w : Nat) : Nat → Nat → Bool
  | 0 => fun _ => false
  | k + 1 => fun x => spk t w k x || (decide (k ≠ w) && decide (t.2.2.2.1 k 0 = x))
theorem spk_iff {t : TS} {w : Nat} : ∀ {k x : Nat}, spk t w k x = true ↔ ∃ j, j < k ∧ j ≠ w ∧ t.2.2.2.1 j 0 = x := by
  intro k
  induction k with
  | zero => intro x; simp [spk]
  | succ k ih =>
    intro x
    simp only [spk, Bool.or_eq_true, Bool.and_eq_true, decide_eq_true_eq, ih]
    constructor
    · rintro (⟨j, h1, h2, h3⟩ | ⟨h1, h2⟩)
      · exact ⟨j, by omega, h2, h3⟩
      · exact ⟨k, by omega, h1, h2⟩
    · rintro ⟨j, h1, h2, h3⟩
      by_cases e : j = k
      · subst e; exact Or.inr ⟨h2, h3⟩
      · exact Or.inl ⟨j, by omega, h2, h3⟩
theorem ok_all {h : HS} {t : TS} {w : Nat} (O : HO h) (hR0 : 0 < h.1) {L : Nat → Bool} (hL : ∀ k, k < t.2.2.1 → L (t.2.2.2.1 k 0) = true) : okL h t L w := by
  intro one _
  have nb' : ∀ k, k < t.2.2.1 → bd t L w one k = false := fun k hk => by unfold bd; rw [hL k hk]; simp
  have al1 : ∀ u r, al t L w one u r = true := fun u r => allN_iff.mpr (fun k hk => by rw [nb' k hk]; rfl)
  have f1 : ∀ u, fw h t L w one u 0 = true := by
    intro u
    induction u with
    | zero => simp only [fw]; rw [al1, decide_eq_true hR0]; rfl
    | succ u ih => exact fw_step hR0 (al1 _ _) hR0 ih (nb_self h _ 0)
  have b1 : ∀ i, bw h t L w one i 0 = true := by
    intro i
    induction i with
    | zero => exact f1 23
    | succ i ih =>
      show (fw h t L w one (23 - (i + 1)) 0 && anyN _ _) = true
      rw [f1, Bool.true_and, anyN_iff]
      exact ⟨0, hR0, by rw [ih, nb_self]; rfl⟩
  exact ⟨0, b1 23⟩
theorem tb_full : ∀ n, n < 6 → ∀ i, i < n → tb_ (2 ^ n - 1) i = true := by decide +kernel
theorem tb_bit : ∀ n, n < 6 → ∀ x, x < 2 ^ n → ∀ i, i < 5 → tb_ x i = true → i < n := by decide +kernel
theorem cnt_and : ∀ x, x < 32 → ∀ y, y < 32 → cntN (tb_ (x &&& y)) 5 ≤ cntN (tb_ x) 5 ∧ (cntN (tb_ (x &&& y)) 5 = cntN (tb_ x) 5 → x &&& y = x) ∧ x &&& y ≤ x := by decide +kernel
theorem cnt_top : ∀ n, n < 6 → ∀ x, x < 2 ^ n → cntN (tb_ x) 5 ≤ n ∧ (cntN (tb_ x) 5 = n → x = 2 ^ n - 1) := by decide +kernel
theorem tb_and (x y i : Nat) : tb_ (x &&& y) i = (tb_ x i && tb_ y i) := by unfold tb_; exact Nat.testBit_and x y i
theorem tb_inj : ∀ x, x < 32 → ∀ y, y < 32 → (∀ i, i < 5 → tb_ x i = tb_ y i) → x = y := by decide +kernel
theorem pow_f {t : TS} (h5 : t.1 ≤ 5) : 2 ^ t.1 ≤ 32 ∧ 1 ≤ 2 ^ t.1 := ⟨by
  have : (2 : Nat) ^ t.1 ≤ 2 ^ 5 := Nat.pow_le_pow_right (by omega) h5
  exact this, Nat.one_le_two_pow⟩
def PNs (M : Mem) (h : HS) (t : TS) (w x : Nat) : Prop := ∃ pns : Nat → Nat → Nat, ∀ one, one < t.1 → PinOk h t (tb_ x) w one (pns one) ∧ HW h (bkf t one) (pns one) ∧ PMm M one (pns one)
theorem s_findLiars {h : HS} {t : TS} (O : HO h) (hR0 : 0 < h.1) (TO' : TO t h.1) {M0 : Mem} (T0 : TC 37 M0 t) (W0 : WY M0 h) (w : Nat) {Q : Int32 → Mem → Prop}
    (K : ∀ M' x, frI M' M0 → LI h t w x → PNs M' h t w x → Q (nI x) M') : C_X1_findLiars M0 (wI w) Q := by
  have hF := TO'.1
  have hR := O.1
  have hY := TO'.2.1
  obtain ⟨hp1, hp2⟩ := pow_f hF
  have good : ∀ M : Mem, frI M M0 → TC 37 M t ∧ WY M h := fun M f => ⟨T0.congr (fun c k q1 q2 => f c k (by omega)), W0.congr hR (fun c k q => f c k (by omega))⟩
  obtain ⟨sp, hsp, hse⟩ : ∃ sp, sp < 32 ∧ ∀ i, tb_ sp i = spk t w t.2.2.1 i := by
    have hi : ∀ x, 5 ≤ x → spk t w t.2.2.1 x = false := by
      intro x hx
      cases hq : spk t w t.2.2.1 x with
      | false => rfl
      | true =>
        obtain ⟨j, hj, _, h3⟩ := spk_iff.mp hq
        have := (TO'.2.2.2.1 j hj).1
        omega
    have e := c5_eq hi
    have e8 : ∀ a b c d e : Bool, ∀ i, i < 5 → tb_ (bv (c5 a b c d e)) i = c5 a b c d e i := by decide +kernel
    refine ⟨bv (spk t w t.2.2.1), bv_lt _, fun i => ?_⟩
    by_cases hi5 : i < 5
    · rw [e]; exact e8 _ _ _ _ _ i hi5
    · rw [tb_hi (bv_lt _) i (by omega), hi i (by omega)]
  have mksp : mk (spk t w t.2.2.1) = mk (tb_ sp) := mk_ext (fun i _ => (hse i).symm)
  have cut : ∀ y, okL h t (tb_ y) w → okL h t (tb_ (y &&& sp)) w := by
    intro y ok
    refine okL_c (fun k hk hkw => ?_) ok
    rw [tb_and, hse, spk_iff.mpr ⟨k, hk, hkw, rfl⟩, Bool.and_true]
  have k56 : ∀ n x z (M : Mem), x + n = 2 ^ t.1 → z < t.1 → frI M M0 → (∀ y, y < 2 ^ t.1 → okL h t (tb_ y) w → y &&& sp = y → z < cntN (tb_ y) 5 ∨ (z = cntN (tb_ y) 5 ∧ x ≤ y)) →
      (∀ M', frI M' M0 → (∀ y, y < 2 ^ t.1 → okL h t (tb_ y) w → y &&& sp = y → z < cntN (tb_ y) 5) → P_X1_findLiars_42 M' (wI w) (mk (tb_ sp)) (nI z + nI 1) Q) → P_X1_findLiars_56 M (wI w) (mk (tb_ sp)) (nI z) (nI x) Q := by
    intro n
    induction n with
    | zero =>
      intro x z M hx hz hf hno K2
      obtain ⟨T, W⟩ := good M hf
      refine T_X1_findLiars_56 ?_
      rw [T.1, shl_n _ (by omega), n_le (by omega) (by omega)]
      refine ⟨fun _ => K2 M hf (fun y hy ok hs => ?_), fun q => by omega⟩
      have := hno y hy ok hs
      omega
    | succ n ih =>
      intro x z M hx hz hf hno K2
      obtain ⟨T, W⟩ := good M hf
      have next : ∀ M' : Mem, frI M' M0 → (okL h t (tb_ x) w → x &&& sp = x → z ≠ cntN (tb_ x) 5) → P_X1_findLiars_56 M' (wI w) (mk (tb_ sp)) (nI z) (nI x + nI 1) Q := by
        intro M' f' hn
        rw [n_add]
        refine ih (x + 1) z M' (by omega) hz f' (fun y hy ok hs => ?_) K2
        rcases hno y hy ok hs with q | ⟨q, q2⟩
        · exact Or.inl q
        · by_cases e : y = x
          · subst e; exact absurd q (hn ok hs)
          · exact Or.inr ⟨q, by omega⟩
      refine T_X1_findLiars_56 ?_
      rw [T.1, shl_n _ (by omega), n_le (by omega) (by omega)]
      refine ⟨fun q => by omega, fun _ => ?_⟩
      rw [show nI x &&& (mk (tb_ sp) ^^^ (-1)) = mk (fun i => tb_ x i && !tb_ sp i) from by rw [nI_mk x (by omega), mk_not, mk_and], mk_eq0]
      refine ⟨fun q => next M hf (fun _ hs => ?_), fun q => ?_⟩
      · exfalso
        apply q
        intro i _
        have := congrArg (fun z => tb_ z i) hs
        simp only [tb_and] at this
        cases h1 : tb_ x i with
        | false => rfl
        | true => rw [h1, Bool.true_and] at this; rw [this]; rfl
      · have hs : x &&& sp = x := by
          have hc := cnt_and x (by omega) sp hsp
          refine tb_inj _ (by omega) _ (by omega) (fun i hi => ?_)
          rw [tb_and]
          have := q i (by omega)
          cases h1 : tb_ x i with
          | false => rfl
          | true =>
            rw [h1, Bool.true_and, Bool.not_eq_false'] at this
            rw [this]; rfl
        rw [show C_J6_bitCount_0f7a4 M (nI x) = C_J6_bitCount_0f7a4 M (mk (tb_ x)) from by rw [nI_mk x (by omega)]]
        have hc := cntN_le (tb_ x) 5
        refine s_bitCount (tb_hi (by omega)) ?_
        rw [n_eq (by omega) (by omega)]
        refine ⟨fun q2 => next M hf (fun _ _ q3 => q2 q3.symm), fun q2 => ?_⟩
        rw [show C_X1_haveWays M (nI x) = C_X1_haveWays M (mk (tb_ x)) from by rw [nI_mk x (by omega)]]
        refine s_haveWays O hR0 TO' T W (tb_ x) w (fun M2 f2 => ⟨fun ok pn => ?_, fun nok => ?_⟩)
        · have f2' : frI M2 M0 := fun c k hc => by rw [f2 c k hc]; exact hf c k hc
          refine ⟨fun q3 => absurd q3 (by decide), fun _ => K M2 x f2' ⟨by omega, ok, fun y hy oky => ?_⟩ pn⟩
          have hcy := cnt_and y (by omega) sp hsp
          have idem : (y &&& sp) &&& sp = y &&& sp := by
            refine tb_inj _ (by have := (cnt_and (y &&& sp) (by omega) sp hsp).2.2; omega) _ (by omega) (fun i _ => ?_)
            rw [tb_and, tb_and, Bool.and_assoc, Bool.and_self]
          have := hno (y &&& sp) (by omega) (cut y oky) idem
          by_cases e : cntN (tb_ (y &&& sp)) 5 = cntN (tb_ y) 5
          · rw [hcy.2.1 e] at this
            omega
          · left; omega
        · have f2' : frI M2 M0 := fun c k hc => by rw [f2 c k hc]; exact hf c k hc
          exact ⟨fun _ => next M2 f2' (fun ok => absurd ok nok), fun q3 => absurd nI_0 q3⟩
  have k42 : ∀ n z (M : Mem), z + n = t.1 → frI M M0 → (∀ y, y < 2 ^ t.1 → okL h t (tb_ y) w → y &&& sp = y → z ≤ cntN (tb_ y) 5) → P_X1_findLiars_42 M (wI w) (mk (tb_ sp)) (nI z) Q := by
    intro n
    induction n with
    | zero =>
      intro z M hz hf hno
      obtain ⟨T, W⟩ := good M hf
      refine T_X1_findLiars_42 ?_
      rw [T.1, n_le (by omega) (by omega), shl_n _ (by omega), n_sub (by omega)]
      refine ⟨fun _ => ?_, fun q => by omega⟩
      rw [show C_X1_haveWays M (nI (2 ^ t.1 - 1)) = C_X1_haveWays M (mk (tb_ (2 ^ t.1 - 1))) from by rw [nI_mk _ (by omega)]]
      have hall : okL h t (tb_ (2 ^ t.1 - 1)) w := ok_all O hR0 (fun k hk => tb_full _ (by omega) _ (TO'.2.2.2.1 k hk).1)
      refine s_haveWays O hR0 TO' T W (tb_ (2 ^ t.1 - 1)) w (fun M2 f2 => ⟨fun ok pn => ?_, fun nok => absurd hall nok⟩)
      refine K M2 _ (fun c k hc => by rw [f2 c k hc]; exact hf c k hc) ⟨by omega, hall, fun y hy oky => ?_⟩ pn
      have hcy := cnt_and y (by omega) sp hsp
      have idem : (y &&& sp) &&& sp = y &&& sp := by
        refine tb_inj _ (by have := (cnt_and (y &&& sp) (by omega) sp hsp).2.2; omega) _ (by omega) (fun i _ => ?_)
        rw [tb_and, tb_and, Bool.and_assoc, Bool.and_self]
      have h1 := hno (y &&& sp) (by omega) (cut y oky) idem
      have h2 := cnt_top t.1 (by omega) y hy
      have h3 := cnt_top t.1 (by omega) (2 ^ t.1 - 1) (by omega)
      have := h2.2 (by omega)
      rw [this]
      exact Or.inr ⟨rfl, Nat.le_refl _⟩
    | succ n ih =>
      intro z M hz hf hno
      obtain ⟨T, W⟩ := good M hf
      refine T_X1_findLiars_42 ?_
      rw [T.1, n_le (by omega) (by omega)]
      refine ⟨fun q => by omega, fun _ => ?_⟩
      refine k56 (2 ^ t.1) 0 z M (by omega) (by omega) hf (fun y hy ok hs => ?_) (fun M' f' hn => ?_)
      · have := hno y hy ok hs
        omega
      · rw [n_add]
        exact ih (z + 1) M' (by omega) f' (fun y hy ok hs => by have := hn y hy ok hs; omega)
  have k4 : ∀ n k, k + n = t.2.2.1 → P_X1_findLiars_4 M0 (wI w) (mk (spk t w k)) (nI k) Q := by
    intro n
    induction n with
    | zero =>
      intro k hk
      have : k = t.2.2.1 := by omega
      subst this
      refine T_X1_findLiars_4 ?_
      rw [T0.2.1, n_le (by omega) (by omega), mksp]
      exact ⟨fun _ => k42 t.1 0 M0 (by omega) (fun _ _ _ => rfl) (fun y _ _ _ => by omega), fun q => by omega⟩
    | succ n ih =>
      intro k hk
      have hk' : k < t.2.2.1 := by omega
      have so := TO'.2.2.2.1 k hk'
      have ey0 : M0 39 k = nI (t.2.2.2.1 k 0) := T0.2.2.2.2.2 k hk' 0 (by omega)
      have z := ih (k + 1) (by omega)
      refine T_X1_findLiars_4 ?_
      rw [T0.2.1, n_le (by omega) (by omega), wI_eq (by omega), n_add]
      refine ⟨fun q => by omega, fun _ => ⟨fun q => ?_, fun q => ⟨by rw [vin (by omega)]; omega, ?_⟩⟩⟩
      · rw [show mk (spk t w k) = mk (spk t w (k + 1)) from mk_ext (fun i _ => by simp [spk, q])]
        exact z
      · rw [ix_n (by omega), ey0, mk_one (by omega), mk_or]
        rw [show (mk fun i => spk t w k i || decide (i = t.2.2.2.1 k 0)) = mk (spk t w (k + 1)) from mk_ext (fun i _ => by simp [spk, q, eq_comm])]
        exact z
  refine T_X1_findLiars ?_
  have z := k4 t.2.2.1 0 (by omega)
  rw [show mk (spk t w 0) = nI 0 from by rw [mk_0]; rfl] at z
  exact z
theorem s_roomsOf {h : HS} {t : TS} (O : HO h) (TO' : TO t h.1) {M : Mem} (H : HC 1 M h) (T : TC 37 M t) (W : WY M h) {w x one u : Nat} (h1 : one < t.1) (hu : u < 24) (P : PNs M h t w x) {Q : Int32 → Mem → Prop} (k : Q (mk (wy h t (tb_ x) w one u)) M) : C_X1_roomsOf M (nI one) (nI u) Q := by
  have hF := TO'.1
  have hR := O.1
  obtain ⟨pns, hpns⟩ := P
  obtain ⟨A, HWp, Pm⟩ := hpns one h1
  have hpl := A.1
  have lo := la_ok (pns one) (u + 1)
  have no := nx_ok (pns one) (u := u) (by omega)
  have k66 : ∀ n r, r + n = h.1 → P_X1_roomsOf_66 M (nI one) (nI u) (nI (la (pns one) (u + 1)) + (-1)) (nI (nx (pns one) u)) (if bkf t one then 19 else 8) (mk (fun y => decide (y < r) && wy h t (tb_ x) w one u y)) (nI r) Q := by
    intro n
    induction n with
    | zero =>
      intro r hr
      refine T_X1_roomsOf_66 (way_ra _) ?_
      rw [H.1, n_le (by omega) (by omega)]
      refine ⟨fun _ => ?_, fun q => by omega⟩
      rw [show (mk fun y => decide (y < r) && wy h t (tb_ x) w one u y) = mk (wy h t (tb_ x) w one u) from mk_ext (fun y _ => by
        cases hy : wy h t (tb_ x) w one u y with
        | false => simp
        | true =>
          have := ((wy_iff O A HWp hu).mp hy).1
          simp; omega)]
      exact k
    | succ n ih =>
      intro r hr
      have hr' : r < h.1 := by omega
      have z := ih (r + 1) (by omega)
      have wi := wy_iff (r := r) O A HWp hu
      have yes : RO h (bkf t one) (pns one) u r → P_X1_roomsOf_66 M (nI one) (nI u) (nI (la (pns one) (u + 1)) + (-1)) (nI (nx (pns one) u)) (if bkf t one then 19 else 8) (mk (fun y => decide (y < r) && wy h t (tb_ x) w one u y) ||| (nI 1 <<< (nI r &&& 31))) (nI r + nI 1) Q := by
        intro ro
        rw [n_add, mk_one (by omega), mk_or]
        rw [show (mk fun i => (decide (i < r) && wy h t (tb_ x) w one u i) || decide (i = r)) = mk (fun y => decide (y < r + 1) && wy h t (tb_ x) w one u y) from mk_ext (fun i _ => by
          by_cases e : i = r
          · subst e; simp [wi.mpr ⟨hr', ro⟩]
          · simp [e, show (i < r + 1) = (i < r) from by rw [eq_iff_iff]; omega])]
        exact z
      have nope : ¬ RO h (bkf t one) (pns one) u r → P_X1_roomsOf_66 M (nI one) (nI u) (nI (la (pns one) (u + 1)) + (-1)) (nI (nx (pns one) u)) (if bkf t one then 19 else 8) (mk (fun y => decide (y < r) && wy h t (tb_ x) w one u y)) (nI r + nI 1) Q := by
        intro ro
        rw [n_add]
        rw [show (mk fun i => (decide (i < r) && wy h t (tb_ x) w one u i)) = mk (fun y => decide (y < r + 1) && wy h t (tb_ x) w one u y) from mk_ext (fun i _ => by
          by_cases e : i = r
          · subst e
            have : wy h t (tb_ x) w one u i = false := by
              cases hq : wy h t (tb_ x) w one u i with
              | false => rfl
              | true => exact absurd (wi.mp hq).2 ro
            simp [this]
          · simp [show (i < r + 1) = (i < r) from by rw [eq_iff_iff]; omega])]
        exact z
      -- behind
      have bhd : (¬ nx (pns one) u = 24) → (vp_in (nI r) 10 ∧ (vp_in (nI one) 5 ∧ (vp_in (nI (nx (pns one) u)) 24 ∧ (vp_in (M (168 + 1 + ix (nI one)) (ix (nI (nx (pns one) u)))) 10 ∧ ((nI (nx (pns one) u) - nI u < M ((if bkf t one then 19 else 8) + 1 + ix (nI r)) (ix (M (168 + 1 + ix (nI one)) (ix (nI (nx (pns one) u)))))) = ¬ rr h (bkf t one) r (nx (pns one) u - u) (pns one (nx (pns one) u) - 1) = true))))) := by
        intro q
        have hp := no.2.2.1 (by omega)
        have hl := hpl (nx (pns one) u) (by omega)
        have ep := Pm (nx (pns one) u) (by omega)
        rw [pnI, if_neg hp] at ep
        have hd := ds_le h (bkf t one) r (pns one (nx (pns one) u) - 1)
        rw [vin (by omega), vin (by omega), vin (by omega), ix_n (by omega), ix_n (by omega), ix_n (by omega), show 168 + 1 + one = 169 + one by omega, ep, vin (by omega), ix_n (by omega), way_val W _ hr' (by omega), n_sub (by omega), n_lt (by omega) (by omega)]
        refine ⟨by omega, by omega, by omega, by omega, ?_⟩
        have := ds_lt O (bk := bkf t one) (a := r) hr' (b := pns one (nx (pns one) u) - 1) (d := nx (pns one) u - u) (by omega)
        rw [← this]
        exact propext (by omega)
      refine T_X1_roomsOf_66 (way_ra _) ?_
      rw [H.1, n_le (by omega) (by omega), n_m1lt0 (by omega), n_eq (by omega) (by omega)]
      refine ⟨fun q => by omega, fun _ => ⟨fun q => ⟨fun q2 => yes ⟨Or.inl q, Or.inl q2⟩, fun q2 => ?_⟩, fun q => ?_⟩⟩
      · obtain ⟨b1, b2, b3, b4, b5⟩ := bhd q2
        refine ⟨b1, b2, b3, b4, fun q3 => nope (fun ro => ?_), fun q3 => yes ⟨Or.inl q, Or.inr ?_⟩⟩
        · rw [b5] at q3
          rcases ro.2 with w1 | w1
          · exact q2 w1
          · exact q3 w1
        · rw [b5] at q3
          exact Classical.not_not.mp q3
      · have hpa := lo.2.1 q
        have hpl2 := hpl (la (pns one) (u + 1) - 1) (by omega)
        have epa := Pm (la (pns one) (u + 1) - 1) (by omega)
        rw [pnI, if_neg hpa] at epa
        have hd := ds_le h (bkf t one) (pns one (la (pns one) (u + 1) - 1) - 1) r
        have hds := ds_lt O (bk := bkf t one) (a := pns one (la (pns one) (u + 1) - 1) - 1) (by omega) (b := r) (d := u - (la (pns one) (u + 1) - 1)) (by omega)
        have e1 : nI (la (pns one) (u + 1)) + (-1) = nI (la (pns one) (u + 1) - 1) := n_m1 (by omega)
        have tree : vp_in (nI one) 5 ∧ (vp_in (nI (la (pns one) (u + 1)) + (-1)) 24 ∧ (vp_in (M (168 + 1 + ix (nI one)) (ix (nI (la (pns one) (u + 1)) + (-1)))) 10 ∧ (vp_in (nI r) 10 ∧ ((nI u - (nI (la (pns one) (u + 1)) + (-1)) < M ((if bkf t one then 19 else 8) + 1 + ix (M (168 + 1 + ix (nI one)) (ix (nI (la (pns one) (u + 1)) + (-1))))) (ix (nI r))) = ¬ rr h (bkf t one) (pns one (la (pns one) (u + 1) - 1) - 1) (u - (la (pns one) (u + 1) - 1)) r = true)))) := by
          rw [e1, vin (by omega), vin (by omega), vin (by omega), ix_n (by omega), ix_n (by omega), ix_n (by omega), show 168 + 1 + one = 169 + one by omega, epa, vin (by omega), ix_n (by omega), way_val W _ (by omega) hr', n_sub (by omega), n_lt (by omega) (by omega)]
          refine ⟨by omega, by omega, by omega, by omega, ?_⟩
          rw [← hds]
          exact propext (by omega)
        obtain ⟨t1, t2, t3, t4, t5⟩ := tree
        refine ⟨t1, t2, t3, t4, fun q3 => nope (fun ro => ?_), fun q3 => ⟨fun q2 => yes ⟨Or.inr ?_, Or.inl q2⟩, fun q2 => ?_⟩⟩
        · rw [t5] at q3
          rcases ro.1 with w1 | w1
          · exact q w1
          · exact q3 w1
        · rw [t5] at q3; exact Classical.not_not.mp q3
        · obtain ⟨b1, b2, b3, b4, b5⟩ := bhd q2
          rw [t5] at q3
          refine ⟨b3, b4, fun q4 => nope (fun ro => ?_), fun q4 => yes ⟨Or.inr (Classical.not_not.mp q3), Or.inr ?_⟩⟩
          · rw [b5] at q4
            rcases ro.2 with w1 | w1
            · exact q2 w1
            · exact q4 w1
          · rw [b5] at q4; exact Classical.not_not.mp q4
  have start : P_X1_roomsOf_66 M (nI one) (nI u) (nI (la (pns one) (u + 1)) + (-1)) (nI (nx (pns one) u)) (if bkf t one then 19 else 8) (nI 0) (nI 0) Q := by
    have z := k66 h.1 0 (by omega)
    rw [show (mk fun y => decide (y < 0) && wy h t (tb_ x) w one u y) = nI 0 from by rw [mk_0]; exact mk_ext (fun i _ => by simp)] at z
    exact z
  have k27 : ∀ n v, v + n = 24 → u ≤ v → nx (pns one) u = lst (fun v => decide (pns one v ≠ 0)) n v → P_X1_roomsOf_27 M (nI one) (nI u) (nI (la (pns one) (u + 1)) + (-1)) (nI v) Q := by
    intro n
    induction n with
    | zero =>
      intro v hv huv hn
      have hn : nx (pns one) u = v := hn
      refine T_X1_roomsOf_27 ?_
      rw [n_le (by omega) (by omega)]
      refine ⟨fun _ => s_wayOf T h1 hF (TO'.2.2.1 one h1) ⟨way_ra _, ?_⟩, fun q => by omega⟩
      rw [← hn]; exact start
    | succ n ih =>
      intro v hv huv hn
      have ep := Pm v (by omega)
      have hl := hpl v (by omega)
      simp only [lst] at hn
      refine T_X1_roomsOf_27 ?_
      rw [n_le (by omega) (by omega)]
      refine ⟨fun q => by omega, fun _ => ?_⟩
      rw [vin (by omega), vin (by omega), ix_n (by omega), ix_n (by omega), show 168 + 1 + one = 169 + one by omega, ep, pnI_m1 (by omega)]
      refine ⟨by omega, by omega, fun q => s_wayOf T h1 hF (TO'.2.2.1 one h1) ⟨way_ra _, ?_⟩, fun q => ?_⟩
      · rw [if_pos (by simp [q])] at hn
        rw [← hn]; exact start
      · rw [if_neg (by simp [q])] at hn
        rw [n_add]
        exact ih (v + 1) (by omega) (by omega) hn
  have k2 : ∀ m, m ≤ u + 1 → la (pns one) m = la (pns one) (u + 1) → P_X1_roomsOf_2 M (nI one) (nI u) (nI m + (-1)) Q := by
    intro m
    induction m with
    | zero =>
      intro hm he
      refine T_X1_roomsOf_2 ?_
      rw [n_m1lt0 (by omega)]
      refine ⟨fun _ => ?_, fun q => absurd rfl q⟩
      have z := k27 (24 - u) u (by omega) (Nat.le_refl _) rfl
      rw [← he] at z
      exact z
    | succ m ih =>
      intro hm he
      have ep := Pm m (by omega)
      have hl := hpl m (by omega)
      have he : (if pns one m = 0 then la (pns one) m else m + 1) = la (pns one) (u + 1) := he
      refine T_X1_roomsOf_2 ?_
      rw [n_m1lt0 (by omega), n_m1 (by omega), Nat.add_sub_cancel]
      refine ⟨fun q => by omega, fun _ => ?_⟩
      rw [vin (by omega), vin (by omega), ix_n (by omega), ix_n (by omega), show 168 + 1 + one = 169 + one by omega, ep, pnI_m1 (by omega)]
      refine ⟨by omega, by omega, fun q => ?_, fun q => ?_⟩
      · rw [if_neg q] at he
        have z := k27 (24 - u) u (by omega) (Nat.le_refl _) rfl
        rw [← he, n_m1 (by omega), Nat.add_sub_cancel] at z
        exact z
      · rw [if_pos q] at he
        exact ih (by omega) he
  refine T_X1_roomsOf ?_
  have z := k2 (u + 1) (Nat.le_refl _) rfl
  rw [n_m1 (by omega), Nat.add_sub_cancel] at z
  exact z
