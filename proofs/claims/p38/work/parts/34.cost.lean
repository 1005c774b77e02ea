/-! ===== what orders cost ===== -/
def pre (o : Nat → Nat) (i : Nat) : List Nat := (List.range i).map o
theorem pre_succ (o : Nat → Nat) (i : Nat) : pre o (i + 1) = pre o i ++ [o i] := by simp [pre, List.range_succ]
def lp (h : HS) (s : SS) (p : Nat × Nat) : List Nat → Nat × Nat
  | [] => p
  | e :: l => lp h s (s.2.2.2.2.2 e 1, dn h s e p.1 p.2) l
def lc (h : HS) (s : SS) (p : Nat × Nat) : List Nat → Nat
  | [] => 0
  | e :: l => wt s e (dn h s e p.1 p.2) + lc h s (s.2.2.2.2.2 e 1, dn h s e p.1 p.2) l
theorem lp_app (h : HS) (s : SS) (e : Nat) : ∀ (l : List Nat) (p : Nat × Nat), lp h s p (l ++ [e]) = (s.2.2.2.2.2 e 1, dn h s e (lp h s p l).1 (lp h s p l).2) := by
  intro l
  induction l with
  | nil => intro p; rfl
  | cons x l ih => intro p; exact ih _
theorem lc_app (h : HS) (s : SS) (e : Nat) : ∀ (l : List Nat) (p : Nat × Nat), lc h s p (l ++ [e]) = lc h s p l + wt s e (dn h s e (lp h s p l).1 (lp h s p l).2) := by
  intro l
  induction l with
  | nil => intro p; simp [lc, lp]
  | cons x l ih => intro p; simp only [List.cons_append, lc, lp, ih]; omega
def flt (by_ : Nat → Nat) (v : Nat) (l : List Nat) : List Nat := l.filter (fun e => decide (by_ e = v))
theorem flt_app (by_ : Nat → Nat) (v e : Nat) (l : List Nat) : flt by_ v (l ++ [e]) = if by_ e = v then flt by_ v l ++ [e] else flt by_ v l := by
  unfold flt
  rw [List.filter_append]
  by_cases q : by_ e = v
  · simp [q]
  · simp [q]
theorem pos_lp (h : HS) (s : SS) (by_ o : Nat → Nat) (v : Nat) : ∀ i, pos h s by_ o i v = lp h s (s.2.2.2.1 v, 0) (flt by_ v (pre o i)) := by
  intro i
  induction i with
  | zero => rfl
  | succ i ih =>
    rw [pre_succ, flt_app]
    simp only [pos]
    by_cases q : v = by_ (o i)
    · rw [if_pos q, if_pos q.symm, lp_app, ← ih]
    · rw [if_neg q, if_neg (fun w => q w.symm), ih]
def sc (h : HS) (s : SS) (by_ o : Nat → Nat) (v : Nat) : Nat → Nat
  | 0 => 0
  | i + 1 => sc h s by_ o v i + if by_ (o i) = v then wt s (o i) (dk_ h s by_ o i) else 0
theorem sc_lc (h : HS) (s : SS) (by_ o : Nat → Nat) (v : Nat) : ∀ i, sc h s by_ o v i = lc h s (s.2.2.2.1 v, 0) (flt by_ v (pre o i)) := by
  intro i
  induction i with
  | zero => rfl
  | succ i ih =>
    rw [pre_succ, flt_app]
    simp only [sc]
    by_cases q : by_ (o i) = v
    · rw [if_pos q, if_pos q, lc_app, ← ih, ← pos_lp]
      unfold dk_
      rw [q]
    · rw [if_neg q, if_neg q, ih]; omega
theorem flt_const (v : Nat) (l : List Nat) : flt (fun _ => v) v l = l := by
  unfold flt
  simp
theorem cst_const (h : HS) (s : SS) (o : Nat → Nat) (v : Nat) : ∀ i, cst h s (fun _ => v) o i = lc h s (s.2.2.2.1 v, 0) (pre o i) := by
  intro i
  have := sc_lc h s (fun _ => v) o v i
  rw [flt_const] at this
  rw [← this]
  clear this
  induction i with
  | zero => rfl
  | succ i ih => simp only [cst, sc, if_true, ih]
def sumN (f : Nat → Nat) : Nat → Nat
  | 0 => 0
  | n + 1 => sumN f n + f n
theorem sumN_c {f g : Nat → Nat} : ∀ {n : Nat}, (∀ i, i < n → f i = g i) → sumN f n = sumN g n := by
  intro n
  induction n with
  | zero => intro _; rfl
  | succ n ih => intro h; simp only [sumN]; rw [ih (fun i hi => h i (by omega)), h n (by omega)]
theorem sumN_le {f g : Nat → Nat} : ∀ {n : Nat}, (∀ i, i < n → f i ≤ g i) → sumN f n ≤ sumN g n := by
  intro n
  induction n with
  | zero => intro _; exact Nat.le_refl _
  | succ n ih =>
    intro h
    have := ih (fun i hi => h i (by omega))
    have := h n (by omega)
    simp only [sumN]; omega
theorem sumN_one (f : Nat → Nat) (w b : Nat) : ∀ n, sumN (fun v => f v + if b = v then w else 0) n = sumN f n + if b < n then w else 0 := by
  intro n
  induction n with
  | zero => simp [sumN]
  | succ n ih =>
    simp only [sumN, ih]
    by_cases q : b = n
    · subst q; simp; omega
    · by_cases q2 : b < n
      · simp [q, q2, show b < n + 1 by omega]; omega
      · simp [q, q2, show ¬ b < n + 1 by omega]
theorem cst_sum (h : HS) (s : SS) (by_ o : Nat → Nat) (S : Nat) : ∀ i, (∀ j, j < i → by_ (o j) < S) → cst h s by_ o i = sumN (fun v => sc h s by_ o v i) S := by
  intro i
  induction i with
  | zero =>
    intro _
    have : ∀ n, sumN (fun v => sc h s by_ o v 0) n = 0 := by
      intro n
      induction n with
      | zero => rfl
      | succ n ih =>
        show sumN (fun v => sc h s by_ o v 0) n + 0 = 0
        rw [ih]
    rw [this]; rfl
  | succ i ih =>
    intro hb
    simp only [cst, sc]
    rw [sumN_one, if_pos (hb i (by omega)), ih (fun j hj => hb j (by omega))]
def Cc (h : HS) (s : SS) (by_ : Nat → Nat) (k : Nat) : Nat := cst h s by_ (prm s.2.1 k) s.2.1
theorem pre_len (o : Nat → Nat) (i : Nat) : (pre o i).length = i := by simp [pre]
theorem pre_get (o : Nat → Nat) {i j : Nat} (hj : j < i) : (pre o i)[j]? = some (o j) := by simp [pre, hj]
theorem pre_mem {o : Nat → Nat} {i x : Nat} : x ∈ pre o i ↔ ∃ j, j < i ∧ o j = x := by simp [pre]
theorem pre_nodup {o : Nat → Nat} {i : Nat} (hi : ∀ a, a < i → ∀ b, b < i → o a = o b → a = b) : (pre o i).Nodup := by
  rw [List.nodup_iff_pairwise_ne, List.pairwise_iff_getElem]
  intro a b ha hb hab q
  rw [pre_len] at ha hb
  have e1 := pre_get o ha
  have e2 := pre_get o hb
  rw [List.getElem?_eq_getElem (by rw [pre_len]; omega)] at e1 e2
  have := hi a ha b hb (by rw [← Option.some.inj e1, ← Option.some.inj e2]; exact q)
  omega
theorem list_prm {E : Nat} (hE : E < 6) {l : List Nat} (hn : l.Nodup) (hm : ∀ x, x ∈ l ↔ x < E) : ∃ k, k < fct E ∧ pre (prm E k) E = l := by
  have hp : l.Perm (List.range E) := (List.perm_ext_iff_of_nodup hn List.nodup_range).mpr (fun a => by rw [hm a, List.mem_range])
  have hl : l.length = E := by rw [hp.length_eq, List.length_range]
  have g : ∀ i, i < E → l[i]? = some (l.getD i 0) := by
    intro i hi
    rw [List.getD_eq_getElem?_getD, List.getElem?_eq_getElem (by omega)]
    rfl
  obtain ⟨k, hk, h2⟩ := prm_ex hE (o := fun i => l.getD i 0) (fun i hi => by
    have := g i hi
    exact (hm _).mp (List.mem_of_getElem? this)) (fun i hi j hj hij => by
    apply Classical.byContradiction
    intro q
    rw [List.nodup_iff_pairwise_ne, List.pairwise_iff_getElem] at hn
    have e1 := g i hi
    have e2 := g j hj
    rw [List.getElem?_eq_getElem (by omega)] at e1 e2
    have e3 : l[i]'(by omega) = l[j]'(by omega) := by rw [Option.some.inj e1, Option.some.inj e2]; exact hij
    rcases Nat.lt_or_gt_of_ne q with q | q
    · exact hn i j (by omega) (by omega) q e3
    · exact hn j i (by omega) (by omega) q e3.symm)
  refine ⟨k, hk, List.ext_getElem? (fun i => ?_)⟩
  by_cases hi : i < E
  · rw [pre_get _ hi, h2 i hi, g i hi]
  · rw [List.getElem?_eq_none (by rw [pre_len]; omega), List.getElem?_eq_none (by omega)]
theorem flt_pre {E : Nat} (hE : E < 6) {k : Nat} (hk : k < fct E) (by_ : Nat → Nat) (v : Nat) : ∃ k' i, k' < fct E ∧ i ≤ E ∧ pre (prm E k') i = flt by_ v (pre (prm E k) E) := by
  obtain ⟨_, h2, h3⟩ := prm_a E hE k hk
  have hn : (pre (prm E k) E).Nodup := pre_nodup (fun a ha b hb q => h3 a (by omega) b (by omega) q)
  have hp : (flt by_ v (pre (prm E k) E) ++ (pre (prm E k) E).filter (fun x => !decide (by_ x = v))).Perm (pre (prm E k) E) := List.filter_append_perm _ _
  have hs : ∀ x, x ∈ pre (prm E k) E ↔ x < E := by
    intro x
    constructor
    · intro q
      obtain ⟨j, hj, rfl⟩ := pre_mem.mp q
      exact h2 j hj
    · intro q
      obtain ⟨i, hi, h4⟩ := anyN_iff.mp (prm_s E hE k hk x q)
      exact pre_mem.mpr ⟨i, hi, by simpa using h4⟩
  obtain ⟨k', hk', e⟩ := list_prm hE (hp.nodup_iff.mpr hn) (fun x => by rw [hp.mem_iff]; exact hs x)
  have hl : (flt by_ v (pre (prm E k) E)).length ≤ E := by
    have := List.length_filter_le (fun e => decide (by_ e = v)) (pre (prm E k) E)
    rw [pre_len] at this
    exact this
  refine ⟨k', (flt by_ v (pre (prm E k) E)).length, hk', hl, ?_⟩
  refine List.ext_getElem? (fun i => ?_)
  by_cases hi : i < (flt by_ v (pre (prm E k) E)).length
  · rw [pre_get _ hi]
    have := congrArg (fun l => l[i]?) e
    rw [pre_get _ (by omega), List.getElem?_append_left hi] at this
    exact this
  · rw [List.getElem?_eq_none (by rw [pre_len]; omega), List.getElem?_eq_none (by omega)]
/-! ===== the least cost of one servant's errands, by sets ===== -/
def bv (P : Nat → Bool) : Nat := (P 0).toNat + 2 * (P 1).toNat + 4 * (P 2).toNat + 8 * (P 3).toNat + 16 * (P 4).toNat
def c5 (a b c d e : Bool) : Nat → Bool
  | 0 => a
  | 1 => b
  | 2 => c
  | 3 => d
  | 4 => e
  | _ => false
theorem mk_c5 : ∀ a b c d e : Bool, mk (c5 a b c d e) = nI (a.toNat + 2 * b.toNat + 4 * c.toNat + 8 * d.toNat + 16 * e.toNat) := by decide +kernel
theorem mk_bv {P : Nat → Bool} (h : ∀ x, 5 ≤ x → P x = false) : mk P = nI (bv P) := by
  rw [show mk P = mk (c5 (P 0) (P 1) (P 2) (P 3) (P 4)) from mk_ext (fun i _ => by
    match i with
    | 0 => rfl
    | 1 => rfl
    | 2 => rfl
    | 3 => rfl
    | 4 => rfl
    | n + 5 => exact h _ (by omega))]
  exact mk_c5 _ _ _ _ _
theorem bv_lt (P : Nat → Bool) : bv P < 32 := by
  have := Bool.toNat_le (P 0)
  have := Bool.toNat_le (P 1)
  have := Bool.toNat_le (P 2)
  have := Bool.toNat_le (P 3)
  have := Bool.toNat_le (P 4)
  unfold bv
  omega
theorem bv_c {P Q : Nat → Bool} (h : ∀ x, x < 5 → P x = Q x) : bv P = bv Q := by
  unfold bv
  rw [h 0 (by omega), h 1 (by omega), h 2 (by omega), h 3 (by omega), h 4 (by omega)]
theorem toNat_inj {a b : Bool} (h : a.toNat = b.toNat) : a = b := by cases a <;> cases b <;> simp_all
theorem bv_inj {P Q : Nat → Bool} (h : bv P = bv Q) : ∀ x, x < 5 → P x = Q x := by
  have a0 := Bool.toNat_le (P 0)
  have a1 := Bool.toNat_le (P 1)
  have a2 := Bool.toNat_le (P 2)
  have a3 := Bool.toNat_le (P 3)
  have a4 := Bool.toNat_le (P 4)
  have b0 := Bool.toNat_le (Q 0)
  have b1 := Bool.toNat_le (Q 1)
  have b2 := Bool.toNat_le (Q 2)
  have b3 := Bool.toNat_le (Q 3)
  have b4 := Bool.toNat_le (Q 4)
  unfold bv at h
  intro x hx
  rcases (show x = 0 ∨ x = 1 ∨ x = 2 ∨ x = 3 ∨ x = 4 by omega) with e | e | e | e | e <;> subst e <;> apply toNat_inj <;> omega
def mkp (E k i : Nat) : Nat → Bool := fun x => anyN (fun j => decide (prm E k j = x)) i
theorem mkp_mem {E k i x : Nat} : mkp E k i x = true ↔ x ∈ pre (prm E k) i := by
  unfold mkp
  rw [anyN_iff, pre_mem]
  simp
def Pv (E : Nat) (by_ : Nat → Nat) (v : Nat) : Nat → Bool := fun e => decide (e < E) && decide (by_ e = v)
def LSp (h : HS) (s : SS) (v : Nat) (rv : Nat → Nat) : Prop := (∀ k, k < fct s.2.1 → ∀ i, i ≤ s.2.1 → rv (bv (mkp s.2.1 k i)) ≤ cst h s (fun _ => v) (prm s.2.1 k) i) ∧ ∀ m, m < 32 → rv m = 1000000 ∨ ∃ k i, k < fct s.2.1 ∧ i ≤ s.2.1 ∧ bv (mkp s.2.1 k i) = m ∧ rv m = cst h s (fun _ => v) (prm s.2.1 k) i
def trm (E : Nat) (rvs : Nat → Nat → Nat) (by_ : Nat → Nat) (v : Nat) : Nat := if bv (Pv E by_ v) = 0 then 0 else rvs v (bv (Pv E by_ v))
def tot (S E : Nat) (rvs : Nat → Nat → Nat) (by_ : Nat → Nat) : Nat := sumN (trm E rvs by_) S
theorem flt_mem {by_ : Nat → Nat} {v x : Nat} {l : List Nat} : x ∈ flt by_ v l ↔ x ∈ l ∧ by_ x = v := by simp [flt]
theorem pre_all {E : Nat} (hE : E < 6) {k : Nat} (hk : k < fct E) (x : Nat) : x ∈ pre (prm E k) E ↔ x < E := by
  constructor
  · intro q
    obtain ⟨j, hj, rfl⟩ := pre_mem.mp q
    exact (prm_a E hE k hk).2.1 j hj
  · intro q
    obtain ⟨i, hi, h4⟩ := anyN_iff.mp (prm_s E hE k hk x q)
    exact pre_mem.mpr ⟨i, hi, by simpa using h4⟩
def LL (L : Nat → List Nat) : Nat → List Nat
  | 0 => []
  | n + 1 => LL L n ++ L n
theorem LL_mem {L : Nat → List Nat} {x : Nat} : ∀ {n : Nat}, x ∈ LL L n ↔ ∃ v, v < n ∧ x ∈ L v := by
  intro n
  induction n with
  | zero => simp [LL]
  | succ n ih =>
    simp only [LL, List.mem_append, ih]
    constructor
    · rintro (⟨v, hv, h⟩ | h)
      · exact ⟨v, by omega, h⟩
      · exact ⟨n, by omega, h⟩
    · rintro ⟨v, hv, h⟩
      by_cases e : v = n
      · subst e; exact Or.inr h
      · exact Or.inl ⟨v, by omega, h⟩
theorem bv_0 {P : Nat → Bool} (h : bv P = 0) : ∀ x, x < 5 → P x = false := by
  have : bv (fun _ => false) = 0 := rfl
  exact bv_inj (Q := fun _ => false) (h.trans this.symm)
theorem tot_min {h : HS} {s : SS} (P : SO s h.1) {W : Nat → Prop} {rvs : Nat → Nat → Nat} (hl : ∀ v, v < s.1 → W v → LSp h s v (rvs v)) {by_ : Nat → Nat} (hb : ∀ e, e < s.2.1 → by_ e < s.1 ∧ W (by_ e)) :
    (∃ k, k < fct s.2.1 ∧ Cc h s by_ k = tot s.1 s.2.1 rvs by_) ∧ ∀ k, k < fct s.2.1 → tot s.1 s.2.1 rvs by_ ≤ Cc h s by_ k := by
  have hE : s.2.1 < 6 := by have := P.2.1; omega
  have hsum : ∀ k, k < fct s.2.1 → Cc h s by_ k = sumN (fun v => sc h s by_ (prm s.2.1 k) v s.2.1) s.1 := fun k hk => cst_sum h s by_ (prm s.2.1 k) s.1 s.2.1 (fun j hj => (hb _ ((prm_a _ hE k hk).2.1 j hj)).1)
  have hW : ∀ v, ¬ bv (Pv s.2.1 by_ v) = 0 → W v := by
    intro v q
    apply Classical.byContradiction
    intro q2
    apply q
    have : ∀ x, x < 5 → Pv s.2.1 by_ v x = (fun _ => false) x := by
      intro x _
      cases hx : Pv s.2.1 by_ v x with
      | false => rfl
      | true =>
        simp only [Pv, Bool.and_eq_true, decide_eq_true_eq] at hx
        have := (hb x hx.1).2
        rw [hx.2] at this
        exact absurd this q2
    rw [bv_c this]; rfl
  have hfl : ∀ k v, k < fct s.2.1 → ∃ k' i, k' < fct s.2.1 ∧ i ≤ s.2.1 ∧ bv (mkp s.2.1 k' i) = bv (Pv s.2.1 by_ v) ∧ cst h s (fun _ => v) (prm s.2.1 k') i = sc h s by_ (prm s.2.1 k) v s.2.1 := by
    intro k v hk
    obtain ⟨k', i, h1, h2, h3⟩ := flt_pre hE hk by_ v
    refine ⟨k', i, h1, h2, bv_c (fun x _ => ?_), by rw [cst_const, h3, sc_lc]⟩
    apply b_of
    rw [mkp_mem, h3, flt_mem, pre_all hE hk]
    simp [Pv]
  have lower : ∀ k, k < fct s.2.1 → ∀ v, v < s.1 → trm s.2.1 rvs by_ v ≤ sc h s by_ (prm s.2.1 k) v s.2.1 := by
    intro k hk v hv
    unfold trm
    split
    · omega
    · rename_i q
      obtain ⟨k', i, h1, h2, h3, h4⟩ := hfl k v hk
      rw [← h3, ← h4]
      exact (hl v hv (hW v q)).1 k' h1 i h2
  refine ⟨?_, fun k hk => ?_⟩
  · have ch : ∀ v, ∃ l : List Nat, v < s.1 → l.Nodup ∧ (∀ x, x ∈ l ↔ x < s.2.1 ∧ by_ x = v) ∧ lc h s (s.2.2.2.1 v, 0) l = trm s.2.1 rvs by_ v := by
      intro v
      by_cases hv : v < s.1
      · by_cases q : bv (Pv s.2.1 by_ v) = 0
        · refine ⟨[], fun _ => ⟨List.nodup_nil, fun x => ⟨fun w => by simp at w, fun w => ?_⟩, ?_⟩⟩
          · have := bv_0 q x (by omega)
            simp only [Pv, Bool.and_eq_false_iff, decide_eq_false_iff_not] at this
            rcases this with t | t
            · exact absurd w.1 t
            · exact absurd w.2 t
          · unfold trm; rw [if_pos q]; rfl
        · obtain ⟨hle, hat⟩ := hl v hv (hW v q)
          have hf0 := (fct_pos _ hE).1
          obtain ⟨k', i', g1, g2, g3, g4⟩ := hfl 0 v (by omega)
          have b1 := hle k' g1 i' g2
          have b2 := cst_le (h := h) P (by_ := fun _ => v) (ord := prm s.2.1 k') i' (fun j hj => ⟨(prm_a _ hE k' g1).2.1 j (by omega), hv⟩)
          rw [g3] at b1
          rcases hat _ (bv_lt (Pv s.2.1 by_ v)) with r | ⟨k, i, r1, r2, r3, r4⟩
          · have := P.2.1
            omega
          · refine ⟨pre (prm s.2.1 k) i, fun _ => ⟨pre_nodup (fun a ha b hb' w => (prm_a _ hE k r1).2.2 a (by omega) b (by omega) w), fun x => ?_, ?_⟩⟩
            · rw [← mkp_mem]
              have lt5 : x < 5 ∨ 5 ≤ x := by omega
              rcases lt5 with lt5 | lt5
              · rw [bv_inj r3 x lt5]
                simp [Pv]
              · constructor
                · intro w
                  obtain ⟨j, hj, rfl⟩ := pre_mem.mp (mkp_mem.mp w)
                  have := (prm_a _ hE k r1).2.1 j (by omega)
                  omega
                · intro w; omega
            · unfold trm
              rw [if_neg q, r4, cst_const]
      · exact ⟨[], fun w => absurd w hv⟩
    obtain ⟨L, hL⟩ := Classical.axiomOfChoice ch
    have nd : ∀ n, n ≤ s.1 → (LL L n).Nodup := by
      intro n
      induction n with
      | zero => intro _; exact List.nodup_nil
      | succ n ih =>
        intro hn
        have h1 := hL n (by omega)
        show (LL L n ++ L n).Nodup
        rw [List.nodup_append]
        refine ⟨ih (by omega), h1.1, fun a ha b hb' hab => ?_⟩
        subst hab
        obtain ⟨v, hv, hv2⟩ := LL_mem.mp ha
        have e1 := ((hL v (by omega)).2.1 a).mp hv2
        have e2 := (h1.2.1 a).mp hb'
        omega
    have fl : ∀ n, n ≤ s.1 → ∀ v, v < s.1 → flt by_ v (LL L n) = if v < n then L v else [] := by
      intro n
      induction n with
      | zero => intro _ v _; rfl
      | succ n ih =>
        intro hn v hv
        have h1 := hL n (by omega)
        show flt by_ v (LL L n ++ L n) = _
        unfold flt
        rw [List.filter_append]
        have e1 := ih (by omega) v hv
        unfold flt at e1
        rw [e1]
        by_cases e : v = n
        · subst e
          rw [if_neg (by omega), if_pos (by omega), List.nil_append]
          rw [List.filter_eq_self]
          intro a ha
          simp [((h1.2.1 a).mp ha).2]
        · have : (L n).filter (fun e => decide (by_ e = v)) = [] := by
            rw [List.filter_eq_nil_iff]
            intro a ha
            have := ((h1.2.1 a).mp ha).2
            simp; omega
          rw [this, List.append_nil]
          simp only [show (v < n + 1) = (v < n) from by rw [eq_iff_iff]; omega]
    obtain ⟨k, hk, e⟩ := list_prm hE (nd s.1 (Nat.le_refl _)) (fun x => by
      rw [LL_mem]
      constructor
      · rintro ⟨v, hv, w⟩
        exact (((hL v hv).2.1 x).mp w).1
      · intro w
        have := hb x w
        exact ⟨by_ x, this.1, ((hL _ this.1).2.1 x).mpr ⟨w, rfl⟩⟩)
    refine ⟨k, hk, ?_⟩
    rw [hsum k hk]
    refine sumN_c (fun v hv => ?_)
    rw [sc_lc, e, fl s.1 (Nat.le_refl _) v hv, if_pos hv]
    exact (hL v hv).2.2
  · rw [hsum k hk]
    exact sumN_le (fun v hv => lower k hk v hv)
