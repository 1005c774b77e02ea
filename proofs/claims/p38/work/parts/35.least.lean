/-! ===== the class's least costs, by servant and set ===== -/
theorem mkp_hi {E k i : Nat} (hE : E < 6) (hk : k < fct E) (hi : i ≤ E) : ∀ x, 5 ≤ x → mkp E k i x = false := by
  intro x hx
  cases h : mkp E k i x with
  | false => rfl
  | true =>
    obtain ⟨j, hj, rfl⟩ := pre_mem.mp (mkp_mem.mp h)
    have := (prm_a E hE k hk).2.1 j (by omega)
    omega
theorem mkp_succ (E k i : Nat) : mkp E k (i + 1) = fun x => mkp E k i x || decide (prm E k i = x) := rfl
def Lq (h : HS) (s : SS) (v : Nat) (rv : Nat → Nat) (k i : Nat) : Prop := (∀ k' i', k' < fct s.2.1 → i' ≤ s.2.1 → (k' < k ∨ (k' = k ∧ i' ≤ i)) → rv (bv (mkp s.2.1 k' i')) ≤ cst h s (fun _ => v) (prm s.2.1 k') i') ∧ ∀ m, m < 32 → rv m = 1000000 ∨ ∃ k i, k < fct s.2.1 ∧ i ≤ s.2.1 ∧ bv (mkp s.2.1 k i) = m ∧ rv m = cst h s (fun _ => v) (prm s.2.1 k) i
theorem Lq_le {h : HS} {s : SS} (P : SO s h.1) {v : Nat} (hv : v < s.1) {rv : Nat → Nat} {k i : Nat} (L : Lq h s v rv k i) {m : Nat} (hm : m < 32) : rv m ≤ 1000000 := by
  have hE : s.2.1 < 6 := by have := P.2.1; omega
  rcases L.2 m hm with r | ⟨k, i, r1, r2, r3, r4⟩
  · omega
  · have := cst_le (h := h) P (by_ := fun _ => v) (ord := prm s.2.1 k) i (fun j hj => ⟨(prm_a _ hE k r1).2.1 j (by omega), hv⟩)
    omega
theorem s_fillLeast {h : HS} {s : SS} (O : HO h) (P : SO s h.1) {M0 : Mem} (H0 : SC 30 M0 s) (W0 : WY M0 h) (T0 : ET M0 h s) {v : Nat} (hv : v < s.1) {Q : Mem → Prop}
    (K : ∀ M' rv, (∀ c k, c ≠ 161 + v → c ≠ 126 → M' c k = M0 c k) → (∀ m, m < 32 → M' (161 + v) m = nI (rv m)) → LSp h s v rv → Q M') : C_X3_fillLeast M0 (nI v) Q := by
  have hR := O.1
  have hS := P.1
  have hE : s.2.1 < 6 := by have := P.2.1; omega
  have hf0 := fct_pos _ hE
  have hcell : IA (161 + v) 32 := by
    have := ra_160.row (i := nI v) ((vin (by omega)).mpr (by omega))
    rw [ix_n (by omega)] at this; exact this
  have good : ∀ M : Mem, (∀ c k, c ≠ 161 + v → c ≠ 126 → M c k = M0 c k) → SC 30 M s ∧ WY M h ∧ ET M h s := fun M f => ⟨H0.congr (fun c k q1 q2 => f c k (by omega) (by omega)), W0.congr hR (fun c k q => f c k (by omega) (by omega)), fun t ht b hb => by rw [f _ _ (by omega) (by omega)]; exact T0 t ht b hb⟩
  have k33 : ∀ n k (M : Mem) (rv : Nat → Nat), k + n = fct s.2.1 → k < fct s.2.1 → (∀ c k, c ≠ 161 + v → c ≠ 126 → M c k = M0 c k) → AR M 126 (prm s.2.1 k) → (∀ m, m < 32 → M (161 + v) m = nI (rv m)) → Lq h s v rv k 0 → P_X3_fillLeast_33 M (nI v) (161 + v) 126 (nI k) Q := by
    intro n
    induction n with
    | zero => intro k M rv hk hk2; omega
    | succ n ih =>
      intro k M rv hk hk2 hf A hw hL
      have pa := prm_a _ hE k hk2
      have k63 : ∀ n2 i (M : Mem) (rv : Nat → Nat), i + n2 = s.2.1 → (∀ c k, c ≠ 161 + v → c ≠ 126 → M c k = M0 c k) → AR M 126 (prm s.2.1 k) → (∀ m, m < 32 → M (161 + v) m = nI (rv m)) → Lq h s v rv k i → P_X3_fillLeast_63 M (nI v) (161 + v) 126 (nI k) (nI (pos h s (fun _ => v) (prm s.2.1 k) i v).1) (nI (pos h s (fun _ => v) (prm s.2.1 k) i v).2) (nI (cst h s (fun _ => v) (prm s.2.1 k) i)) (mk (mkp s.2.1 k i)) (nI i) Q := by
        intro n2
        induction n2 with
        | zero =>
          intro i M rv hi hf A hw hL
          obtain ⟨H, W, T⟩ := good M hf
          have : i = s.2.1 := by omega
          subst this
          refine T_X3_fillLeast_63 hcell ia_126 ?_
          simp (disch := omega) only [n_lt, n_le, n_eq, n_lt0, n_le0, n_ge0, n_gt0, n_eq0, n_add, n_mul, n_sub, n_m1, ix_n, vin, bI_0, bI_1, nT_le, nF_le, nT_lt, nF_lt, nT_eq, nF_eq, mk_test, true_imp_iff, false_imp_iff, not_true_eq_false, not_false_eq_true, true_and, and_true, tf_, ft_, eq_self, true_or, or_true, false_or, or_false, show M 30 3 = nI s.2.1 from H.2.2.2.1]
          refine s_nextOrder ia_126 (by omega) hE H.2.2.2.1 A pa.1 (fun M' f' A' => ?_)
          have pn := prm_n _ hE k hk2
          have hf' : ∀ c k, c ≠ 161 + v → c ≠ 126 → M' c k = M0 c k := fun c k q1 q2 => by rw [f' c k q2]; exact hf c k q1 q2
          have hw' : ∀ m, m < 32 → M' (161 + v) m = nI (rv m) := fun m hm => by rw [f' _ _ (by omega)]; exact hw m hm
          refine br' (fun q => ?_) (fun q => ?_)
          · rw [pn.1, decide_eq_false_iff_not] at q
            refine K M' rv hf' hw' ⟨fun k' hk' i' hi' => hL.1 k' i' hk' hi' (by omega), hL.2⟩
          · rw [pn.1, decide_eq_true_eq] at q
            refine ih (k + 1) M' rv (by omega) q hf' (fun x hx => by rw [A' x hx, pn.2 q x hx]) hw' ⟨fun k' i' hk' hi' hc => ?_, hL.2⟩
            by_cases e : k' = k + 1
            · have hi0 : i' = 0 := by omega
              subst hi0
              have := hL.1 k 0 hk2 (by omega) (Or.inr ⟨rfl, by omega⟩)
              exact this
            · exact hL.1 k' i' hk' hi' (by omega)
        | succ n2 ih2 =>
          intro i M rv hi hf A hw hL
          obtain ⟨H, W, T⟩ := good M hf
          have hp := pa.2.1 i (by omega)
          have hp5 := pa.1 i (by omega)
          have hpos := pos_ok (h := h) P (by_ := fun _ => v) (ord := prm s.2.1 k) i (fun j hj => pa.2.1 j (by omega)) v hv
          have eA := A i (by omega)
          refine T_X3_fillLeast_63 hcell ia_126 ?_
          simp (disch := omega) only [n_lt, n_le, n_eq, n_lt0, n_le0, n_ge0, n_gt0, n_eq0, n_add, n_mul, n_sub, n_m1, ix_n, vin, bI_0, bI_1, nT_le, nF_le, nT_lt, nF_lt, nT_eq, nF_eq, mk_test, true_imp_iff, false_imp_iff, not_true_eq_false, not_false_eq_true, true_and, and_true, tf_, ft_, eq_self, true_or, or_true, false_or, or_false, show M 30 3 = nI s.2.1 from H.2.2.2.1, eA]
          refine s_doneAt O P H W T hp hpos.1 hpos.2 ?_
          have hd : dn h s (prm s.2.1 k i) (pos h s (fun _ => v) (prm s.2.1 k) i v).1 (pos h s (fun _ => v) (prm s.2.1 k) i v).2 = dk_ h s (fun _ => v) (prm s.2.1 k) i := rfl
          have hdl : dk_ h s (fun _ => v) (prm s.2.1 k) i ≤ 24 := dk_le P (fun j hj => pa.2.1 j (by omega)) hv
          rw [hd]
          refine s_weight P H hp hdl ?_
          have em : mk (mkp s.2.1 k i) ||| mk (fun j => decide (j = prm s.2.1 k i)) = mk (mkp s.2.1 k (i + 1)) := by
            rw [mk_or, mkp_succ]
            exact mk_ext (fun x _ => by simp [eq_comm])
          have eb := mk_bv (mkp_hi hE hk2 (show i + 1 ≤ s.2.1 by omega))
          have hb32 := bv_lt (mkp s.2.1 k (i + 1))
          have hcs := cst_le (h := h) P (by_ := fun _ => v) (ord := prm s.2.1 k) (i + 1) (fun j hj => ⟨pa.2.1 j (by omega), hv⟩)
          have hrv := Lq_le P hv hL hb32
          have e33 : M 33 (prm s.2.1 k i) = nI (s.2.2.2.2.2 (prm s.2.1 k i) 1) := H.2.2.2.2.2 _ hp 1 (by omega)
          have ecs : cst h s (fun _ => v) (prm s.2.1 k) i + wt s (prm s.2.1 k i) (dk_ h s (fun _ => v) (prm s.2.1 k) i) = cst h s (fun _ => v) (prm s.2.1 k) (i + 1) := rfl
          rw [mk_one (by omega), em, eb, n_add, ecs, vin (by omega), ix_n (by omega), hw _ hb32, n_min (by omega), e33, ← eb]
          refine ⟨hb32, ?_⟩
          have ep : pos h s (fun _ => v) (prm s.2.1 k) (i + 1) v = (s.2.2.2.2.2 (prm s.2.1 k i) 1, dk_ h s (fun _ => v) (prm s.2.1 k) i) := by
            simp only [pos, if_true]
            rfl
          have z := ih2 (i + 1) (wr M (161 + v) (bv (mkp s.2.1 k (i + 1))) (nI (min (rv (bv (mkp s.2.1 k (i + 1)))) (cst h s (fun _ => v) (prm s.2.1 k) (i + 1))))) (fun m => if m = bv (mkp s.2.1 k (i + 1)) then min (rv (bv (mkp s.2.1 k (i + 1)))) (cst h s (fun _ => v) (prm s.2.1 k) (i + 1)) else rv m) (by omega) (fun c k q1 q2 => by rw [wr_nc _ _ _ _ q1]; exact hf c k q1 q2) (fun x hx => by rw [wr_nc _ _ _ _ (by omega)]; exact A x hx) (fun m hm => ?_) ⟨fun k' i' hk' hi' hc => ?_, fun m hm => ?_⟩
          · rw [ep] at z
            exact z
          · by_cases e : m = bv (mkp s.2.1 k (i + 1))
            · subst e; rw [wr_eq, if_pos rfl]
            · rw [wr_nk _ _ _ _ e, if_neg e]; exact hw m hm
          · simp only
            by_cases e : bv (mkp s.2.1 k' i') = bv (mkp s.2.1 k (i + 1))
            · rw [if_pos e]
              by_cases e2 : k' = k ∧ i' = i + 1
              · obtain ⟨rfl, rfl⟩ := e2
                omega
              · have := hL.1 k' i' hk' hi' (by omega)
                rw [e] at this
                omega
            · rw [if_neg e]
              refine hL.1 k' i' hk' hi' ?_
              by_cases e2 : k' = k ∧ i' = i + 1
              · obtain ⟨rfl, rfl⟩ := e2
                exact absurd rfl e
              · omega
          · simp only
            by_cases e : m = bv (mkp s.2.1 k (i + 1))
            · rw [if_pos e]
              by_cases e2 : rv (bv (mkp s.2.1 k (i + 1))) ≤ cst h s (fun _ => v) (prm s.2.1 k) (i + 1)
              · rw [Nat.min_eq_left e2, e]
                exact hL.2 _ hb32
              · rw [Nat.min_eq_right (by omega), e]
                exact Or.inr ⟨k, i + 1, hk2, by omega, rfl, rfl⟩
            · rw [if_neg e]
              exact hL.2 m hm
      have e31 : M 31 v = nI (s.2.2.2.1 v) := by rw [hf _ _ (by omega) (by omega)]; exact H0.2.2.2.2.1 v hv
      refine T_X3_fillLeast_33 hcell ia_126 ?_
      simp (disch := omega) only [n_lt, n_le, n_eq, n_lt0, n_le0, n_ge0, n_gt0, n_eq0, n_add, n_mul, n_sub, n_m1, ix_n, vin, bI_0, bI_1, nT_le, nF_le, nT_lt, nF_lt, nT_eq, nF_eq, mk_test, true_imp_iff, false_imp_iff, not_true_eq_false, not_false_eq_true, true_and, and_true, tf_, ft_, eq_self, true_or, or_true, false_or, or_false, e31]
      have z := k63 s.2.1 0 M rv (by omega) hf A hw hL
      have em : mk (mkp s.2.1 k 0) = nI 0 := by rw [mk_0]; rfl
      rw [em] at z
      exact z
  refine T_X3_fillLeast ⟨by rw [vin (by omega)]; omega, ?_⟩
  rw [ix_n (by omega), show 160 + 1 + v = 161 + v by omega]
  refine s_fill hcell (by omega) (fun M1 h1 f1 => ?_)
  refine s_firstOrder ia_126 (fun M2 f2 A2 => ?_)
  refine k33 (fct s.2.1) 0 M2 (fun m => if m = 0 then 0 else 1000000) (by omega) (by omega) (fun c k q1 q2 => by rw [f2 c k q2, wr_nc _ _ _ _ q1, f1 c k q1]) (fun x hx => by rw [A2 x hx, prm_0 _ hE x hx]) (fun m hm => ?_) ⟨fun k' i' hk' hi' hc => ?_, fun m hm => ?_⟩
  · rw [f2 _ _ (by omega)]
    by_cases e : m = 0
    · subst e; rw [ix_n (by omega), wr_eq, if_pos rfl]
    · rw [ix_n (by omega), wr_nk _ _ _ _ e, if_neg e, h1 m hm]
      decide
  · have : k' = 0 ∧ i' = 0 := by omega
    obtain ⟨rfl, rfl⟩ := this
    exact Nat.le_refl _
  · by_cases e : m = 0
    · subst e
      exact Or.inr ⟨0, 0, by omega, by omega, rfl, rfl⟩
    · left
      simp only
      rw [if_neg e]
/-! ===== sharings out as numbers ===== -/
def val (B : Nat) (by_ : Nat → Nat) : Nat → Nat
  | 0 => 0
  | n + 1 => val B by_ n * B + by_ n
def dg (B : Nat) : Nat → Nat → Nat → Nat
  | 0, _ => fun _ => 0
  | n + 1, w => fun e => if e = n then w % B else dg B n (w / B) e
theorem val_c {B : Nat} {f g : Nat → Nat} : ∀ {n : Nat}, (∀ e, e < n → f e = g e) → val B f n = val B g n := by
  intro n
  induction n with
  | zero => intro _; rfl
  | succ n ih => intro h; simp only [val]; rw [ih (fun e he => h e (by omega)), h n (by omega)]
theorem dg_lt {B : Nat} (hB : 0 < B) : ∀ n w e, dg B n w e < B := by
  intro n
  induction n with
  | zero => intro w e; exact hB
  | succ n ih =>
    intro w e
    simp only [dg]
    split
    · exact Nat.mod_lt _ hB
    · exact ih _ _
theorem val_dg {B : Nat} (hB : 0 < B) : ∀ n w, w < B ^ n → val B (dg B n w) n = w := by
  intro n
  induction n with
  | zero => intro w hw; simp at hw; subst hw; rfl
  | succ n ih =>
    intro w hw
    simp only [val]
    rw [val_c (g := dg B n (w / B)) (fun e he => by simp only [dg]; rw [if_neg (by omega)]), ih (w / B) (by rw [Nat.div_lt_iff_lt_mul hB, ← Nat.pow_succ]; exact hw)]
    simp only [dg, if_true]
    rw [Nat.mul_comm]
    exact Nat.div_add_mod w B
theorem val_lt {B : Nat} {f : Nat → Nat} : ∀ {n : Nat}, (∀ e, e < n → f e < B) → val B f n < B ^ n := by
  intro n
  induction n with
  | zero => intro _; simp [val]
  | succ n ih =>
    intro h
    have h1 := ih (fun e he => h e (by omega))
    have h2 := h n (by omega)
    simp only [val]
    rw [Nat.pow_succ]
    have : (val B f n + 1) * B ≤ B ^ n * B := Nat.mul_le_mul_right B h1
    rw [Nat.add_mul, Nat.one_mul] at this
    omega
theorem dg_val {B : Nat} {f : Nat → Nat} : ∀ {n : Nat}, (∀ e, e < n → f e < B) → ∀ e, e < n → dg B n (val B f n) e = f e := by
  intro n
  induction n with
  | zero => intro _ e he; omega
  | succ n ih =>
    intro h e he
    have h2 := h n (by omega)
    have d1 : (val B f n * B + f n) % B = f n := by rw [Nat.add_comm, Nat.add_mul_mod_self_right, Nat.mod_eq_of_lt h2]
    have d2 : (val B f n * B + f n) / B = val B f n := by
      rw [Nat.add_comm, Nat.add_mul_div_right _ _ (by omega), Nat.div_eq_of_lt h2, Nat.zero_add]
    simp only [dg, val]
    by_cases q : e = n
    · subst q; rw [if_pos rfl, d1]
    · rw [if_neg q, d2]
      exact ih (fun e he => h e (by omega)) e (by omega)
