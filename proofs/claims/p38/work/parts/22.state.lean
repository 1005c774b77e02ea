/-! What the two systems hold, in plain numbers -/
abbrev HS : Type := Nat × Int32 × Nat × (Nat → Nat → Nat) × (Nat → Nat → Nat)
def HC (o : Nat) (M : Mem) (h : HS) : Prop := M o 0 = nI h.1 ∧ M o 1 = h.2.1 ∧ M o 2 = nI h.2.2.1 ∧ (∀ a, a < 10 → M (o + 1) a = mk (fun b => decide (h.2.2.2.1 a b = 1))) ∧ (∀ a, a < 10 → M (o + 2) a = mk (fun b => decide (h.2.2.2.1 a b = 2))) ∧ ∀ g, g < h.2.2.1 → ∀ t, t < 24 → M (o + 4 + g) t = nI (h.2.2.2.2 g t)
def dkI : Nat → Int32 := fun n => match n with
  | 0 => -4
  | 1 => nI 0
  | _ => nI 1
def HM (M : Mem) (h : HS) : Prop := M 182 0 = nI h.1 ∧ M 182 1 = h.2.1 ∧ M 182 3 = nI h.2.2.1 ∧ (∀ a, a < 10 → ∀ b, b < 10 → M 183 (10 * a + b) = dkI (h.2.2.2.1 a b)) ∧ ∀ g, g < h.2.2.1 → ∀ t, t < 24 → M 184 (24 * g + t) = nI (h.2.2.2.2 g t)
def HO (h : HS) : Prop := h.1 ≤ 10 ∧ h.2.2.1 ≤ 3 ∧ (∀ a b, h.2.2.2.1 a b ≤ 2) ∧ (∀ a b, h.2.2.2.1 a b = h.2.2.2.1 b a) ∧ (∀ a, h.2.2.2.1 a a = 0) ∧ (∀ a b, h.2.2.2.1 a b ≠ 0 → a < h.1) ∧ ∀ g, g < h.2.2.1 → ∀ t, t < 24 → h.2.2.2.2 g t < h.1
theorem HC.congr {o : Nat} {M M' : Mem} {h : HS} (H : HC o M h) (hG : h.2.2.1 ≤ 3) (e : ∀ c k, o ≤ c → c < o + 7 → M' c k = M c k) : HC o M' h := by
  obtain ⟨h1, h2, h3, h4, h5, h6⟩ := H
  refine ⟨by rw [e o _ (by omega) (by omega)]; exact h1, by rw [e o _ (by omega) (by omega)]; exact h2, by rw [e o _ (by omega) (by omega)]; exact h3, ?_, ?_, ?_⟩
  · intro a ha; rw [e (o + 1) _ (by omega) (by omega)]; exact h4 a ha
  · intro a ha; rw [e (o + 2) _ (by omega) (by omega)]; exact h5 a ha
  · intro g hg t ht
    rw [e (o + 4 + g) _ (by omega) (by omega)]; exact h6 g hg t ht
theorem HM.congr {M M' : Mem} {h : HS} (H : HM M h) (e : ∀ c k, (c = 182 ∧ (k = 0 ∨ k = 1 ∨ k = 3)) ∨ c = 183 ∨ c = 184 → M' c k = M c k) : HM M' h := by
  obtain ⟨h1, h2, h3, h4, h5⟩ := H
  refine ⟨by rw [e _ _ (by omega)]; exact h1, by rw [e _ _ (by omega)]; exact h2, by rw [e _ _ (by omega)]; exact h3, fun a ha b hb => by rw [e _ _ (by omega)]; exact h4 a ha b hb, fun g hg t ht => by rw [e _ _ (by omega)]; exact h5 g hg t ht⟩
abbrev SS : Type := Nat × Nat × Nat × (Nat → Nat) × (Nat → Bool) × (Nat → Nat → Nat)
def SC (o : Nat) (M : Mem) (s : SS) : Prop := M o 0 = nI s.1 ∧ M o 1 = mk (fun i => decide (i < s.1) && s.2.2.2.2.1 i) ∧ M o 2 = nI s.2.2.1 ∧ M o 3 = nI s.2.1 ∧ (∀ i, i < s.1 → M (o + 1) i = nI (s.2.2.2.1 i)) ∧ ∀ e, e < s.2.1 → ∀ k, k < 5 → M (o + 2 + k) e = nI (s.2.2.2.2.2 e k)
def SM (M : Mem) (s : SS) : Prop := M 182 14 = nI s.1 ∧ M 182 17 = nI s.2.1 ∧ M 182 5 = nI s.2.2.1 ∧ (∀ i, i < s.1 → M 189 i = nI (s.2.2.2.1 i) ∧ M 190 i = bI (s.2.2.2.2.1 i)) ∧ ∀ e, e < s.2.1 → ∀ k, k < 5 → M 191 (5 * e + k) = nI (s.2.2.2.2.2 e k)
def SO (s : SS) (R : Nat) : Prop := s.1 ≤ 3 ∧ s.2.1 ≤ 5 ∧ (s.2.2.1 < R ∨ (s.2.2.1 = 0 ∧ s.1 = 0 ∧ s.2.1 = 0)) ∧ (∀ i, i < s.1 → s.2.2.2.1 i < R) ∧ ∀ e, e < s.2.1 → s.2.2.2.2.2 e 0 ≤ 1 ∧ s.2.2.2.2.2 e 1 < R ∧ 1 ≤ s.2.2.2.2.2 e 2 ∧ s.2.2.2.2.2 e 2 ≤ 9 ∧ s.2.2.2.2.2 e 3 ≤ s.2.2.2.2.2 e 4 ∧ s.2.2.2.2.2 e 4 ≤ 23
theorem SC.congr {o : Nat} {M M' : Mem} {s : SS} (H : SC o M s) (e : ∀ c k, o ≤ c → c < o + 7 → M' c k = M c k) : SC o M' s := by
  obtain ⟨h1, h2, h3, h4, h5, h6⟩ := H
  refine ⟨by rw [e o _ (by omega) (by omega)]; exact h1, by rw [e o _ (by omega) (by omega)]; exact h2, by rw [e o _ (by omega) (by omega)]; exact h3, by rw [e o _ (by omega) (by omega)]; exact h4, ?_, ?_⟩
  · intro i hi; rw [e (o + 1) _ (by omega) (by omega)]; exact h5 i hi
  · intro i hi k hk
    rw [e (o + 2 + k) _ (by omega) (by omega)]; exact h6 i hi k hk
theorem SM.congr {M M' : Mem} {s : SS} (H : SM M s) (e : ∀ c k, (c = 182 ∧ (k = 5 ∨ k = 14 ∨ k = 17)) ∨ (189 ≤ c ∧ c ≤ 191) → M' c k = M c k) : SM M' s := by
  obtain ⟨h1, h2, h3, h4, h5⟩ := H
  refine ⟨by rw [e _ _ (by omega)]; exact h1, by rw [e _ _ (by omega)]; exact h2, by rw [e _ _ (by omega)]; exact h3, fun i hi => by rw [e _ _ (by omega), e _ _ (by omega)]; exact h4 i hi, fun g hg t ht => by rw [e _ _ (by omega)]; exact h5 g hg t ht⟩
abbrev TS : Type := Nat × (Nat → Nat) × Nat × (Nat → Nat → Nat) × Bool × Nat × Nat × Nat
def TC (o : Nat) (M : Mem) (t : TS) : Prop := M o 0 = nI t.1 ∧ M o 1 = nI t.2.2.1 ∧ M o 2 = bI t.2.2.2.2.1 ∧ (t.2.2.2.2.1 = true → M o 3 = nI t.2.2.2.2.2.1 ∧ M o 4 = nI t.2.2.2.2.2.2.1 ∧ M o 5 = nI t.2.2.2.2.2.2.2) ∧ (∀ f, f < t.1 → M (o + 1) f = nI (t.2.1 f)) ∧ ∀ k, k < t.2.2.1 → ∀ j, j < 4 → M (o + 2 + j) k = nI (t.2.2.2.1 k j)
def TM (M : Mem) (t : TS) : Prop := M 182 28 = nI t.1 ∧ M 182 30 = nI t.2.2.1 ∧ M 182 32 = (if t.2.2.2.2.1 = true then nI t.2.2.2.2.2.1 else -4) ∧ (t.2.2.2.2.1 = true → M 182 33 = nI t.2.2.2.2.2.2.1 ∧ M 182 34 = nI t.2.2.2.2.2.2.2) ∧ (∀ f, f < t.1 → M 200 f = nI (t.2.1 f)) ∧ ∀ k, k < t.2.2.1 → ∀ j, j < 4 → M 201 (4 * k + j) = nI (t.2.2.2.1 k j)
def TO (t : TS) (R : Nat) : Prop := t.1 ≤ 5 ∧ t.2.2.1 ≤ 12 ∧ (∀ f, f < t.1 → t.2.1 f ≤ 1) ∧ (∀ k, k < t.2.2.1 → t.2.2.2.1 k 0 < t.1 ∧ t.2.2.2.1 k 1 < t.1 ∧ t.2.2.2.1 k 2 < R ∧ t.2.2.2.1 k 3 < 24) ∧ (t.2.2.2.2.1 = true → t.2.2.2.2.2.1 < R ∧ t.2.2.2.2.2.2.1 ≤ t.2.2.2.2.2.2.2 ∧ t.2.2.2.2.2.2.2 ≤ 23)
theorem TC.congr {o : Nat} {M M' : Mem} {t : TS} (H : TC o M t) (e : ∀ c k, o ≤ c → c < o + 6 → M' c k = M c k) : TC o M' t := by
  obtain ⟨h1, h2, h3, h4, h5, h6⟩ := H
  refine ⟨by rw [e o _ (by omega) (by omega)]; exact h1, by rw [e o _ (by omega) (by omega)]; exact h2, by rw [e o _ (by omega) (by omega)]; exact h3, by rw [e o _ (by omega) (by omega), e o _ (by omega) (by omega), e o _ (by omega) (by omega)]; exact h4, ?_, ?_⟩
  · intro i hi; rw [e (o + 1) _ (by omega) (by omega)]; exact h5 i hi
  · intro i hi k hk
    rw [e (o + 2 + k) _ (by omega) (by omega)]; exact h6 i hi k hk
theorem TM.congr {M M' : Mem} {t : TS} (H : TM M t) (e : ∀ c k, (c = 182 ∧ (k = 28 ∨ k = 30 ∨ k = 32 ∨ k = 33 ∨ k = 34)) ∨ c = 200 ∨ c = 201 → M' c k = M c k) : TM M' t := by
  obtain ⟨h1, h2, h3, h4, h5, h6⟩ := H
  refine ⟨by rw [e _ _ (by omega)]; exact h1, by rw [e _ _ (by omega)]; exact h2, by rw [e _ _ (by omega)]; exact h3, by rw [e _ _ (by omega), e _ _ (by omega)]; exact h4, fun i hi => by rw [e _ _ (by omega)]; exact h5 i hi, fun g hg t ht => by rw [e _ _ (by omega)]; exact h6 g hg t ht⟩
def PC (M : Mem) (n : Nat) (tp : Nat → Nat) : Prop := M 85 0 = nI n ∧ ∀ i, i < n → M 86 i = nI (tp i)
def PM (M : Mem) (n : Nat) (tp : Nat → Nat) : Prop := M 182 7 = nI n ∧ ∀ i, i < n → M 185 i = nI (tp i)
def PO (n : Nat) (tp : Nat → Nat) : Prop := n ≤ 80 ∧ ∀ i, i < n → 32 ≤ tp i ∧ tp i ≤ 126
theorem PC.congr {M M' : Mem} {n : Nat} {tp : Nat → Nat} (H : PC M n tp) (e : ∀ c k, (c = 85 ∧ k = 0) ∨ c = 86 → M' c k = M c k) : PC M' n tp := by
  obtain ⟨h1, h2⟩ := H
  exact ⟨by rw [e _ _ (by omega)]; exact h1, fun i hi => by rw [e _ _ (by omega)]; exact h2 i hi⟩
theorem PM.congr {M M' : Mem} {n : Nat} {tp : Nat → Nat} (H : PM M n tp) (e : ∀ c k, (c = 182 ∧ k = 7) ∨ c = 185 → M' c k = M c k) : PM M' n tp := by
  obtain ⟨h1, h2⟩ := H
  exact ⟨by rw [e _ _ (by omega)]; exact h1, fun i hi => by rw [e _ _ (by omega)]; exact h2 i hi⟩
abbrev WS : Type := (Nat → Int32) × (Nat → Nat) × (Nat → Nat → Int32)
def WC (M : Mem) (x : WS) : Prop := ∀ s, s < 4 → M 88 s = x.1 s ∧ M 89 s = nI (x.2.1 s) ∧ ∀ i, i < 24 → M (91 + s) i = x.2.2 s i
def WM (M : Mem) (x : WS) : Prop := ∀ s, s < 4 → M 206 s = x.1 s ∧ M 207 s = nI (x.2.1 s) ∧ ∀ i, i < 24 → M 208 (24 * s + i) = x.2.2 s i
def WO (x : WS) : Prop := ∀ s, s < 4 → (x.1 s = -1 ∨ x.1 s = nI 0 ∨ x.1 s = nI 1 ∨ x.1 s = nI 2) ∧ x.2.1 s ≤ 24
theorem WC.congr {M M' : Mem} {x : WS} (H : WC M x) (e : ∀ c k, (88 ≤ c ∧ c < 95 ∧ c ≠ 90) → M' c k = M c k) : WC M' x := by
  intro s hs
  obtain ⟨h1, h2, h3⟩ := H s hs
  exact ⟨by rw [e _ _ (by omega)]; exact h1, by rw [e _ _ (by omega)]; exact h2, fun i hi => by rw [e _ _ (by omega)]; exact h3 i hi⟩
theorem WM.congr {M M' : Mem} {x : WS} (H : WM M x) (e : ∀ c k, (206 ≤ c ∧ c ≤ 208) → M' c k = M c k) : WM M' x := by
  intro s hs
  obtain ⟨h1, h2, h3⟩ := H s hs
  exact ⟨by rw [e _ _ (by omega)]; exact h1, by rw [e _ _ (by omega)]; exact h2, fun i hi => by rw [e _ _ (by omega)]; exact h3 i hi⟩
def HI (M : Mem) (h : HS) : Prop := M 205 256 = nI h.1 ∧ M 205 257 = h.2.1 ∧ M 205 258 = nI h.2.2.1 ∧ (∀ a, a < 10 → ∀ b, b < 10 → M 205 (10 * a + b) = dkI (h.2.2.2.1 a b)) ∧ ∀ g, g < h.2.2.1 → ∀ t, t < 24 → M 205 (100 + (24 * g + t)) = nI (h.2.2.2.2 g t)
def SI (M : Mem) (s : SS) : Prop := M 205 260 = nI s.1 ∧ M 205 261 = nI s.2.1 ∧ M 205 259 = nI s.2.2.1 ∧ (∀ i, i < s.1 → M 205 (172 + i) = nI (s.2.2.2.1 i) ∧ M 205 (175 + i) = bI (s.2.2.2.2.1 i)) ∧ ∀ e, e < s.2.1 → ∀ k, k < 5 → M 205 (178 + (5 * e + k)) = nI (s.2.2.2.2.2 e k)
def TI (M : Mem) (t : TS) : Prop := M 205 262 = nI t.1 ∧ M 205 263 = nI t.2.2.1 ∧ M 205 264 = (if t.2.2.2.2.1 = true then nI t.2.2.2.2.2.1 else -4) ∧ (t.2.2.2.2.1 = true → M 205 265 = nI t.2.2.2.2.2.2.1 ∧ M 205 266 = nI t.2.2.2.2.2.2.2) ∧ (∀ f, f < t.1 → M 205 (203 + f) = nI (t.2.1 f)) ∧ ∀ k, k < t.2.2.1 → ∀ j, j < 4 → M 205 (208 + (4 * k + j)) = nI (t.2.2.2.1 k j)
theorem HI.congr {M M' : Mem} {h : HS} (H : HI M h) (e : ∀ k, M' 205 k = M 205 k) : HI M' h := by
  unfold HI at *; simp only [e]; exact H
theorem SI.congr {M M' : Mem} {s : SS} (H : SI M s) (e : ∀ k, M' 205 k = M 205 k) : SI M' s := by
  unfold SI at *; simp only [e]; exact H
theorem TI.congr {M M' : Mem} {t : TS} (H : TI M t) (e : ∀ k, M' 205 k = M 205 k) : TI M' t := by
  unfold TI at *; simp only [e]; exact H
abbrev KS : Type := Bool × HS × SS × TS
def KC (M : Mem) (x : KS) : Prop := M 0 6 = bI x.1 ∧ (x.1 = true → HC 43 M x.2.1 ∧ SC 72 M x.2.2.1 ∧ TC 79 M x.2.2.2)
def KM (M : Mem) (x : KS) : Prop := M 182 39 = bI x.1 ∧ (x.1 = true → HI M x.2.1 ∧ SI M x.2.2.1 ∧ TI M x.2.2.2)
def KO (x : KS) : Prop := x.1 = true → HO x.2.1 ∧ SO x.2.2.1 x.2.1.1 ∧ TO x.2.2.2 x.2.1.1
theorem KC.congr {M M' : Mem} {x : KS} (H : KC M x) (O : KO x) (e : ∀ c k, (c = 0 ∧ k = 6) ∨ (43 ≤ c ∧ c < 85) → M' c k = M c k) : KC M' x := by
  obtain ⟨h1, h2⟩ := H
  refine ⟨by rw [e _ _ (by omega)]; exact h1, fun hb => ?_⟩
  obtain ⟨a, b, c⟩ := h2 hb
  exact ⟨a.congr (O hb).1.2.1 (fun c k _ _ => e c k (by omega)), b.congr (fun c k _ _ => e c k (by omega)), c.congr (fun c k _ _ => e c k (by omega))⟩
theorem KM.congr {M M' : Mem} {x : KS} (H : KM M x) (e : ∀ c k, (c = 182 ∧ k = 39) ∨ c = 205 → M' c k = M c k) : KM M' x := by
  obtain ⟨h1, h2⟩ := H
  refine ⟨by rw [e _ _ (by omega)]; exact h1, fun hb => ?_⟩
  obtain ⟨a, b, c⟩ := h2 hb
  exact ⟨a.congr (fun k => e _ k (by omega)), b.congr (fun k => e _ k (by omega)), c.congr (fun k => e _ k (by omega))⟩
