/-! ===== the fewest ===== -/
def tb_ (x : Nat) : Nat → Bool := fun i => x.testBit i
theorem nI_mk : ∀ x, x < 32 → nI x = mk (tb_ x) := by decide +kernel
theorem tb_hi {x : Nat} (hx : x < 32) : ∀ i, 5 ≤ i → tb_ x i = false := by
  intro i hi
  unfold tb_
  exact Nat.testBit_lt_two_pow (Nat.lt_of_lt_of_le hx (by
    have : (2 : Nat) ^ 5 ≤ 2 ^ i := Nat.pow_le_pow_right (by omega) hi
    exact this))
theorem shl_n : ∀ n, n < 8 → nI 1 <<< (nI n &&& 31) = nI (2 ^ n) := by decide +kernel
def sub_ (s : SS) (x : Nat) : Prop := ∀ i, tb_ x i = true → wel s i = true
/-- with these nothing is late -/
def ZX (h : HS) (s : SS) (x : Nat) : Prop := 0 < x ∧ x < 8 ∧ sub_ s x ∧ MV h s (tb_ x) 0
def EN (h : HS) (s : SS) (x : Nat) : Prop := ZX h s x ∧ ∀ y, ZX h s y → cntN (tb_ x) 5 < cntN (tb_ y) 5 ∨ (cntN (tb_ x) 5 = cntN (tb_ y) 5 ∧ x ≤ y)
theorem EN_uniq {h : HS} {s : SS} {x y : Nat} (h1 : EN h s x) (h2 : EN h s y) : x = y := by
  have := h1.2 y h2.1
  have := h2.2 x h1.1
  omega
theorem tb_some : ∀ x, x < 8 → 0 < x → ∃ i, i < 3 ∧ tb_ x i = true := by decide +kernel
theorem tb_cnt : ∀ x, x < 8 → cntN (tb_ x) 5 = cntN (tb_ x) 3 ∧ (cntN (tb_ x) 5 = 0 → x = 0) := by decide +kernel
/-- the number of a set -/
theorem tb_ex {T : Nat → Bool} {n : Nat} (hn : n ≤ 3) (hT : ∀ i, T i = true → i < n) : ∃ x, x < 2 ^ n ∧ ∀ i, tb_ x i = T i := by
  have e := c5_eq (P := T) (fun x hx => by
    cases h : T x with
    | false => rfl
    | true => have := hT x h; omega)
  have no : ∀ i, n ≤ i → T i = false := fun i hi => by
    cases h : T i with
    | false => rfl
    | true => have := hT i h; omega
  have e8 : ∀ a b c d e : Bool, ∀ i, i < 5 → tb_ (bv (c5 a b c d e)) i = c5 a b c d e i := by decide +kernel
  have key : ∀ x, x = bv T → x < 2 ^ n → ∃ x, x < 2 ^ n ∧ ∀ i, tb_ x i = T i := by
    intro x hx hl
    subst hx
    refine ⟨_, hl, fun i => ?_⟩
    by_cases hi : i < 5
    · rw [e]; exact e8 _ _ _ _ _ i hi
    · rw [tb_hi (bv_lt T) i (by omega), no i (by omega)]
  refine key _ rfl ?_
  have b0 := Bool.toNat_le (T 0)
  have b1 := Bool.toNat_le (T 1)
  have b2 := Bool.toNat_le (T 2)
  unfold bv
  rw [no 3 (by omega), no 4 (by omega)]
  rcases (show n = 0 ∨ n = 1 ∨ n = 2 ∨ n = 3 by omega) with q | q | q | q <;> subst q
  · rw [no 0 (by omega), no 1 (by omega), no 2 (by omega)]; decide
  · rw [no 1 (by omega), no 2 (by omega)]; simp only [Bool.toNat_false]; omega
  · rw [no 2 (by omega)]; simp only [Bool.toNat_false]; omega
  · simp only [Bool.toNat_false]; omega
theorem tb_lt {s : SS} (hs : s.1 ≤ 3) {x : Nat} (hx : x < 8) (h : sub_ s x) : x < 2 ^ s.1 := by
  have b : ∀ x, x < 8 → ∀ n, n < 4 → (∀ i, i < 3 → tb_ x i = true → i < n) → x < 2 ^ n := by decide +kernel
  exact b x hx s.1 (by omega) (fun i _ hi => (wel_t (h i hi)).1)
theorem cnt_lt {s : SS} (hs : s.1 ≤ 3) {x : Nat} (hx : x < 8) (h : sub_ s x) : cntN (tb_ x) 5 ≤ s.1 := by
  have b : ∀ x, x < 8 → ∀ n, n < 4 → (∀ i, i < 3 → tb_ x i = true → i < n) → cntN (tb_ x) 5 ≤ n := by decide +kernel
  exact b x hx s.1 (by omega) (fun i _ hi => (wel_t (h i hi)).1)
theorem vld_mono {s : SS} {T T' : Nat → Bool} (h : ∀ v, T v = true → T' v = true) {b : Nat → Nat} (hv : vld s T b) : vld s T' b := fun e he => h _ (hv e he)
theorem vld_c {s : SS} {T T' : Nat → Bool} (h : ∀ v, T v = T' v) {b : Nat → Nat} : vld s T b ↔ vld s T' b := ⟨fun q => vld_mono (fun v hv => by rw [← h v]; exact hv) q, fun q => vld_mono (fun v hv => by rw [h v]; exact hv) q⟩
theorem MV_c {h : HS} {s : SS} {T T' : Nat → Bool} (e : ∀ v, T v = T' v) {v : Nat} (H : MV h s T v) : MV h s T' v := by
  have : T = T' := funext e
  rw [← this]; exact H
theorem s_fewest {h : HS} {s : SS} (P : SO s h.1) {M0 : Mem} (H0 : SC 30 M0 s) {rvs : Nat → Nat → Nat} (R0 : RV M0 h s rvs) (hne : ∃ v, wel s v = true) (hz : MV h s (wel s) 0) {Q : Int32 → Mem → Prop}
    (K : ∀ M' x, (∀ c k, ¬ (c = 164 ∨ (c = 124 ∧ k = 11)) → M' c k = M0 c k) → EN h s x → Q (nI x) M') : C_X3_fewest M0 Q := by
  have hS := P.1
  have hp2 : 2 ^ s.1 ≤ 8 := by
    have : (2 : Nat) ^ s.1 ≤ 2 ^ 3 := Nat.pow_le_pow_right (by omega) hS
    exact this
  have good : ∀ M : Mem, (∀ c k, ¬ (c = 164 ∨ (c = 124 ∧ k = 11)) → M c k = M0 c k) → SC 30 M s ∧ RV M h s rvs := fun M f => ⟨H0.congr (fun c k q1 q2 => f c k (by omega)), R0.congr hS (fun c k _ _ => f c k (by omega))⟩
  obtain ⟨xw, hxw, hxe⟩ := tb_ex hS (T := wel s) (fun i hi => (wel_t hi).1)
  have zw : ZX h s xw := by
    refine ⟨?_, by omega, fun i hi => by rw [← hxe i]; exact hi, MV_c (fun v => (hxe v).symm) hz⟩
    obtain ⟨v, hv⟩ := hne
    rw [← hxe v] at hv
    rcases Nat.eq_zero_or_pos xw with q | q
    · subst q; simp [tb_] at hv
    · exact q
  have mkw : mk (wel s) = nI xw := by
    rw [nI_mk xw (by omega)]
    exact mk_ext (fun i _ => (hxe i).symm)
  have k23 : ∀ n x z (M : Mem), x + n = 2 ^ s.1 → 0 < x → 1 ≤ z → z < s.1 → (∀ c k, ¬ (c = 164 ∨ (c = 124 ∧ k = 11)) → M c k = M0 c k) → (∀ y, ZX h s y → z < cntN (tb_ y) 5 ∨ (z = cntN (tb_ y) 5 ∧ x ≤ y)) →
      (∀ M', (∀ c k, ¬ (c = 164 ∨ (c = 124 ∧ k = 11)) → M' c k = M0 c k) → (∀ y, ZX h s y → z < cntN (tb_ y) 5) → P_X3_fewest_10 M' (mk (wel s)) (nI z + nI 1) Q) → P_X3_fewest_23 M (mk (wel s)) (nI z) (nI x) Q := by
    intro n
    induction n with
    | zero =>
      intro x z M hx hx0 hz1 hzs hf hno K2
      obtain ⟨H, R⟩ := good M hf
      refine T_X3_fewest_23 ?_
      rw [H.1, shl_n _ (by omega), n_le (by omega) (by omega)]
      refine ⟨fun _ => K2 M hf (fun y hy => ?_), fun q => by omega⟩
      have := hno y hy
      have := tb_lt hS hy.2.1 hy.2.2.1
      omega
    | succ n ih =>
      intro x z M hx hx0 hz1 hzs hf hno K2
      obtain ⟨H, R⟩ := good M hf
      have next : ∀ M' : Mem, (∀ c k, ¬ (c = 164 ∨ (c = 124 ∧ k = 11)) → M' c k = M0 c k) → (ZX h s x → z ≠ cntN (tb_ x) 5) → P_X3_fewest_23 M' (mk (wel s)) (nI z) (nI x + nI 1) Q := by
        intro M' f' hn
        rw [n_add]
        refine ih (x + 1) z M' (by omega) (by omega) hz1 hzs f' (fun y hy => ?_) K2
        rcases hno y hy with q | ⟨q, q2⟩
        · exact Or.inl q
        · by_cases e : y = x
          · subst e; exact absurd q (hn hy)
          · exact Or.inr ⟨q, by omega⟩
      refine T_X3_fewest_23 ?_
      rw [H.1, shl_n _ (by omega), n_le (by omega) (by omega)]
      refine ⟨fun q => by omega, fun _ => ?_⟩
      rw [show nI x &&& (mk (wel s) ^^^ (-1)) = mk (fun i => tb_ x i && !wel s i) from by rw [nI_mk x (by omega), mk_not, mk_and], mk_eq0]
      refine ⟨fun q => next M hf (fun hy => ?_), fun q => ?_⟩
      · exfalso
        apply q
        intro i _
        cases hb : tb_ x i with
        | false => rfl
        | true => rw [hy.2.2.1 i hb]; rfl
      · have hsub : sub_ s x := by
          intro i hi
          by_cases hi5 : i < 5
          · have := q i (by omega)
            rw [hi, Bool.true_and, Bool.not_eq_false'] at this
            exact this
          · rw [tb_hi (by omega) i (by omega)] at hi; cases hi
        rw [show C_J6_bitCount_0f7a4 M (nI x) = C_J6_bitCount_0f7a4 M (mk (tb_ x)) from by rw [nI_mk x (by omega)]]
        have hc := cnt_lt hS (show x < 8 by omega) hsub
        refine s_bitCount (tb_hi (by omega)) ?_
        rw [n_eq (by omega) (by omega)]
        refine ⟨fun q2 => next M hf (fun _ q3 => q2 q3.symm), fun q2 => ?_⟩
        rw [show C_X3_leastWith M (nI x) = C_X3_leastWith M (mk (tb_ x)) from by rw [nI_mk x (by omega)]]
        have hx8 : x < 8 := by omega
        obtain ⟨i0, _, hi0⟩ := tb_some x hx8 hx0
        refine s_leastMV P H R (fun v hv => hsub v hv) ⟨i0, hi0⟩ (fun M2 v f2 mv => ?_)
        have hv := MV_le P (fun v hv => (wel_t (hsub v hv)).1) mv
        have f2' : ∀ c k, ¬ (c = 164 ∨ (c = 124 ∧ k = 11)) → M2 c k = M0 c k := fun c k q => by rw [f2 c k q]; exact hf c k q
        rw [n_eq0 (by omega)]
        refine ⟨fun q3 => next M2 f2' (fun hy => absurd (MV_uniq mv hy.2.2.2) q3), fun q3 => ?_⟩
        subst q3
        refine K M2 x f2' ⟨⟨hx0, hx8, hsub, mv⟩, fun y hy => ?_⟩
        rcases hno y hy with q4 | ⟨q4, q5⟩
        · exact Or.inl (by omega)
        · exact Or.inr ⟨by omega, q5⟩
  have k10 : ∀ n z (M : Mem), z + n = s.1 → 1 ≤ z → (∀ c k, ¬ (c = 164 ∨ (c = 124 ∧ k = 11)) → M c k = M0 c k) → (∀ y, ZX h s y → z ≤ cntN (tb_ y) 5) → P_X3_fewest_10 M (mk (wel s)) (nI z) Q := by
    intro n
    induction n with
    | zero =>
      intro z M hz1 hz2 hf hno
      obtain ⟨H, R⟩ := good M hf
      refine T_X3_fewest_10 ?_
      rw [H.1, n_le (by omega) (by omega)]
      refine ⟨fun _ => ?_, fun q => by omega⟩
      rw [mkw]
      refine K M xw hf ⟨zw, fun y hy => ?_⟩
      have c1 := hno xw zw
      have c2 := cnt_lt hS zw.2.1 zw.2.2.1
      have c3 := hno y hy
      have c4 := cnt_lt hS hy.2.1 hy.2.2.1
      refine Or.inr ⟨by omega, ?_⟩
      have full : ∀ n, n < 4 → ∀ x, x < 8 → (∀ i, i < 3 → tb_ x i = true → i < n) → cntN (tb_ x) 5 = n → x = 2 ^ n - 1 := by decide +kernel
      have q1 := full s.1 (by omega) xw zw.2.1 (fun i _ hi => (wel_t (zw.2.2.1 i hi)).1) (by omega)
      have q2 := full s.1 (by omega) y hy.2.1 (fun i _ hi => (wel_t (hy.2.2.1 i hi)).1) (by omega)
      omega
    | succ n ih =>
      intro z M hz1 hz2 hf hno
      obtain ⟨H, R⟩ := good M hf
      refine T_X3_fewest_10 ?_
      rw [H.1, n_le (by omega) (by omega)]
      refine ⟨fun q => by omega, fun _ => ?_⟩
      have hp1 : 1 ≤ 2 ^ s.1 := Nat.one_le_two_pow
      refine k23 (2 ^ s.1 - 1) 1 z M (by omega) (by omega) hz2 (by omega) hf (fun y hy => ?_) (fun M' f' hn => ?_)
      · have := hno y hy
        have := hy.1
        omega
      · rw [n_add]
        exact ih (z + 1) M' (by omega) (by omega) f' (fun y hy => by have := hn y hy; omega)
  refine T_X3_fewest (s_well H0 hS ?_)
  have hs1 : 1 ≤ s.1 := by
    obtain ⟨v, hv⟩ := hne
    have := (wel_t hv).1
    omega
  refine k10 (s.1 - 1) 1 M0 (by omega) (by omega) (fun _ _ _ => rfl) (fun y hy => ?_)
  have := (tb_cnt y hy.2.1).2
  have := hy.1
  omega
