/-! What the two systems hold, in plain numbers -/
/-- rooms, doors, guests, the kind of door between two rooms (0 none, 1 open, 2 back), where a guest is at a tick -/
abbrev HS : Type := Nat × Int32 × Nat × (Nat → Nat → Nat) × (Nat → Nat → Nat)
def HC (o : Nat) (M : Mem) (h : HS) : Prop := M o 0 = nI h.1 ∧ M o 1 = h.2.1 ∧ M o 2 = nI h.2.2.1 ∧ (∀ a, a < 10 → ∀ b, b < 32 → bt (M (o + 1) a) b = decide (h.2.2.2.1 a b = 1)) ∧ (∀ a, a < 10 → ∀ b, b < 32 → bt (M (o + 2) a) b = decide (h.2.2.2.1 a b = 2)) ∧ ∀ g, g < h.2.2.1 → ∀ t, t < 24 → M (o + 4 + g) t = nI (h.2.2.2.2 g t)
def dkI : Nat → Int32 := fun n => match n with
  | 0 => -4
  | 1 => nI 0
  | _ => nI 1
def HM (M : Mem) (h : HS) : Prop := M 182 0 = nI h.1 ∧ M 182 1 = h.2.1 ∧ M 182 3 = nI h.2.2.1 ∧ (∀ a, a < 10 → ∀ b, b < 10 → M 183 (10 * a + b) = dkI (h.2.2.2.1 a b)) ∧ ∀ g, g < h.2.2.1 → ∀ t, t < 24 → M 184 (24 * g + t) = nI (h.2.2.2.2 g t)
def HO (h : HS) : Prop := h.1 ≤ 10 ∧ h.2.2.1 ≤ 3 ∧ (∀ a b, h.2.2.2.1 a b ≤ 2) ∧ (∀ a b, h.2.2.2.1 a b = h.2.2.2.1 b a) ∧ (∀ a, h.2.2.2.1 a a = 0) ∧ (∀ a b, h.2.2.2.1 a b ≠ 0 → a < h.1) ∧ ∀ g, g < h.2.2.1 → ∀ t, t < 24 → h.2.2.2.2 g t < h.1
theorem HC.congr {o : Nat} {M M' : Mem} {h : HS} (H : HC o M h) (e : ∀ c, o ≤ c → c < o + 4 + h.2.2.1 → M' c = M c) : HC o M' h := by
  obtain ⟨h1, h2, h3, h4, h5, h6⟩ := H
  refine ⟨by rw [e o (by omega) (by omega)]; exact h1, by rw [e o (by omega) (by omega)]; exact h2, by rw [e o (by omega) (by omega)]; exact h3, ?_, ?_, ?_⟩
  · rw [e (o + 1) (by omega) (by omega)]; exact h4
  · rw [e (o + 2) (by omega) (by omega)]; exact h5
  · intro g hg t ht
    rw [e (o + 4 + g) (by omega) (by omega)]; exact h6 g hg t ht
theorem HM.congr {M M' : Mem} {h : HS} (H : HM M h) (e0 : M' 182 0 = M 182 0) (e1 : M' 182 1 = M 182 1) (e2 : M' 182 3 = M 182 3) (e3 : M' 183 = M 183) (e4 : M' 184 = M 184) : HM M' h := by
  unfold HM at *
  rw [e0, e1, e2, e3, e4]
  exact H
/-- servants, errands, the cellar, where each begins, who is ill, what an errand is (0 kind .. 4 due) -/
abbrev SS : Type := Nat × Nat × Nat × (Nat → Nat) × (Nat → Bool) × (Nat → Nat → Nat)
def SC (o : Nat) (M : Mem) (s : SS) : Prop := M o 0 = nI s.1 ∧ (∀ i, i < 32 → bt (M o 1) i = (decide (i < s.1) && s.2.2.2.2.1 i)) ∧ M o 2 = nI s.2.2.1 ∧ M o 3 = nI s.2.1 ∧ (∀ i, i < s.1 → M (o + 1) i = nI (s.2.2.2.1 i)) ∧ ∀ e, e < s.2.1 → ∀ k, k < 5 → M (o + 2 + k) e = nI (s.2.2.2.2.2 e k)
def SM (M : Mem) (s : SS) : Prop := M 182 14 = nI s.1 ∧ M 182 17 = nI s.2.1 ∧ M 182 5 = nI s.2.2.1 ∧ (∀ i, i < s.1 → M 189 i = nI (s.2.2.2.1 i) ∧ M 190 i = bI (s.2.2.2.2.1 i)) ∧ ∀ e, e < s.2.1 → ∀ k, k < 5 → M 191 (5 * e + k) = nI (s.2.2.2.2.2 e k)
def SO (s : SS) (R : Nat) : Prop := s.1 ≤ 3 ∧ s.2.1 ≤ 5 ∧ (s.2.2.1 < R ∨ (s.2.2.1 = 0 ∧ s.1 = 0 ∧ s.2.1 = 0)) ∧ (∀ i, i < s.1 → s.2.2.2.1 i < R) ∧ ∀ e, e < s.2.1 → s.2.2.2.2.2 e 0 ≤ 1 ∧ s.2.2.2.2.2 e 1 < R ∧ 1 ≤ s.2.2.2.2.2 e 2 ∧ s.2.2.2.2.2 e 2 ≤ 9 ∧ s.2.2.2.2.2 e 3 ≤ s.2.2.2.2.2 e 4 ∧ s.2.2.2.2.2 e 4 ≤ 23
theorem SC.congr {o : Nat} {M M' : Mem} {s : SS} (H : SC o M s) (e : ∀ c, o ≤ c → c < o + 7 → M' c = M c) : SC o M' s := by
  obtain ⟨h1, h2, h3, h4, h5, h6⟩ := H
  have e0 := e o (by omega) (by omega)
  refine ⟨by rw [e0]; exact h1, by rw [e0]; exact h2, by rw [e0]; exact h3, by rw [e0]; exact h4, ?_, ?_⟩
  · rw [e (o + 1) (by omega) (by omega)]; exact h5
  · intro i hi k hk
    rw [e (o + 2 + k) (by omega) (by omega)]; exact h6 i hi k hk
theorem SM.congr {M M' : Mem} {s : SS} (H : SM M s) (e0 : M' 182 14 = M 182 14) (e1 : M' 182 17 = M 182 17) (e2 : M' 182 5 = M 182 5) (e3 : M' 189 = M 189) (e4 : M' 190 = M 190) (e5 : M' 191 = M 191) : SM M' s := by
  unfold SM at *
  rw [e0, e1, e2, e3, e4, e5]
  exact H
/-- folk, their kinds, sayings, what each says (0 by, 1 of, 2 room, 3 tick), stolen, from where, from when, to when -/
abbrev TS : Type := Nat × (Nat → Nat) × Nat × (Nat → Nat → Nat) × Bool × Nat × Nat × Nat
def TC (o : Nat) (M : Mem) (t : TS) : Prop := M o 0 = nI t.1 ∧ M o 1 = nI t.2.2.1 ∧ M o 2 = bI t.2.2.2.2.1 ∧ (t.2.2.2.2.1 = true → M o 3 = nI t.2.2.2.2.2.1 ∧ M o 4 = nI t.2.2.2.2.2.2.1 ∧ M o 5 = nI t.2.2.2.2.2.2.2) ∧ (∀ f, f < t.1 → M (o + 1) f = nI (t.2.1 f)) ∧ ∀ k, k < t.2.2.1 → ∀ j, j < 4 → M (o + 2 + j) k = nI (t.2.2.2.1 k j)
def TM (M : Mem) (t : TS) : Prop := M 182 28 = nI t.1 ∧ M 182 30 = nI t.2.2.1 ∧ M 182 32 = (if t.2.2.2.2.1 = true then nI t.2.2.2.2.2.1 else -4) ∧ (t.2.2.2.2.1 = true → M 182 33 = nI t.2.2.2.2.2.2.1 ∧ M 182 34 = nI t.2.2.2.2.2.2.2) ∧ (∀ f, f < t.1 → M 200 f = nI (t.2.1 f)) ∧ ∀ k, k < t.2.2.1 → ∀ j, j < 4 → M 201 (4 * k + j) = nI (t.2.2.2.1 k j)
def TO (t : TS) (R : Nat) : Prop := t.1 ≤ 5 ∧ t.2.2.1 ≤ 12 ∧ (∀ f, f < t.1 → t.2.1 f ≤ 1) ∧ (∀ k, k < t.2.2.1 → t.2.2.2.1 k 0 < t.1 ∧ t.2.2.2.1 k 1 < t.1 ∧ t.2.2.2.1 k 2 < R ∧ t.2.2.2.1 k 3 < 24) ∧ (t.2.2.2.2.1 = true → t.2.2.2.2.2.1 < R ∧ t.2.2.2.2.2.2.1 ≤ t.2.2.2.2.2.2.2 ∧ t.2.2.2.2.2.2.2 ≤ 23)
theorem TC.congr {o : Nat} {M M' : Mem} {t : TS} (H : TC o M t) (e : ∀ c, o ≤ c → c < o + 6 → M' c = M c) : TC o M' t := by
  obtain ⟨h1, h2, h3, h4, h5, h6⟩ := H
  have e0 := e o (by omega) (by omega)
  refine ⟨by rw [e0]; exact h1, by rw [e0]; exact h2, by rw [e0]; exact h3, by rw [e0]; exact h4, ?_, ?_⟩
  · rw [e (o + 1) (by omega) (by omega)]; exact h5
  · intro i hi k hk
    rw [e (o + 2 + k) (by omega) (by omega)]; exact h6 i hi k hk
theorem TM.congr {M M' : Mem} {t : TS} (H : TM M t) (e0 : M' 182 28 = M 182 28) (e1 : M' 182 30 = M 182 30) (e2 : M' 182 32 = M 182 32) (e3 : M' 182 33 = M 182 33) (e4 : M' 182 34 = M 182 34) (e5 : M' 200 = M 200) (e6 : M' 201 = M 201) : TM M' t := by
  unfold TM at *
  rw [e0, e1, e2, e3, e4, e5, e6]
  exact H
/-- the tape -/
def TP (M : Mem) : Prop := ∃ n : Nat, n ≤ 80 ∧ M 85 0 = nI n ∧ M 182 7 = nI n ∧ ∀ i, i < n → ∃ b : Nat, 32 ≤ b ∧ b ≤ 126 ∧ M 86 i = nI b ∧ M 185 i = nI b
theorem TP.congr {M M' : Mem} (H : TP M) (e0 : M' 85 0 = M 85 0) (e1 : M' 182 7 = M 182 7) (e2 : M' 86 = M 86) (e3 : M' 185 = M 185) : TP M' := by
  unfold TP at *
  rw [e0, e1, e2, e3]
  exact H
/-- the sheets -/
def SH (M : Mem) : Prop := ∀ s, s < 4 → M 88 s = M 206 s ∧ (M 88 s = -1 ∨ M 88 s = nI 0 ∨ M 88 s = nI 1 ∨ M 88 s = nI 2) ∧ (∃ n : Nat, n ≤ 24 ∧ M 89 s = nI n ∧ M 207 s = nI n) ∧ ∀ i, i < 24 → M (91 + s) i = M 208 (24 * s + i)
theorem SH.congr {M M' : Mem} (H : SH M) (e : ∀ c, 88 ≤ c → c < 95 → M' c = M c) (e1 : M' 206 = M 206) (e2 : M' 207 = M 207) (e3 : M' 208 = M 208) : SH M' := by
  intro s hs
  rw [e 88 (by omega) (by omega), e 89 (by omega) (by omega), e (91 + s) (by omega) (by omega), e1, e2, e3]
  exact H s hs
/-- the image, as it lies in one row -/
def HI (M : Mem) (h : HS) : Prop := M 205 256 = nI h.1 ∧ M 205 257 = h.2.1 ∧ M 205 258 = nI h.2.2.1 ∧ (∀ a, a < 10 → ∀ b, b < 10 → M 205 (10 * a + b) = dkI (h.2.2.2.1 a b)) ∧ ∀ g, g < h.2.2.1 → ∀ t, t < 24 → M 205 (100 + (24 * g + t)) = nI (h.2.2.2.2 g t)
def SI (M : Mem) (s : SS) : Prop := M 205 260 = nI s.1 ∧ M 205 261 = nI s.2.1 ∧ M 205 259 = nI s.2.2.1 ∧ (∀ i, i < s.1 → M 205 (172 + i) = nI (s.2.2.2.1 i) ∧ M 205 (175 + i) = bI (s.2.2.2.2.1 i)) ∧ ∀ e, e < s.2.1 → ∀ k, k < 5 → M 205 (178 + (5 * e + k)) = nI (s.2.2.2.2.2 e k)
def TI (M : Mem) (t : TS) : Prop := M 205 262 = nI t.1 ∧ M 205 263 = nI t.2.2.1 ∧ M 205 264 = (if t.2.2.2.2.1 = true then nI t.2.2.2.2.2.1 else -4) ∧ (t.2.2.2.2.1 = true → M 205 265 = nI t.2.2.2.2.2.2.1 ∧ M 205 266 = nI t.2.2.2.2.2.2.2) ∧ (∀ f, f < t.1 → M 205 (203 + f) = nI (t.2.1 f)) ∧ ∀ k, k < t.2.2.1 → ∀ j, j < 4 → M 205 (208 + (4 * k + j)) = nI (t.2.2.2.1 k j)
def KP (M : Mem) : Prop := ∃ b : Bool, M 0 6 = bI b ∧ M 182 39 = bI b ∧ (b = true → ∃ (h : HS) (s : SS) (t : TS), HC 43 M h ∧ HI M h ∧ HO h ∧ SC 72 M s ∧ SI M s ∧ SO s h.1 ∧ TC 79 M t ∧ TI M t ∧ TO t h.1)
theorem KP.congr {M M' : Mem} (H : KP M) (e : ∀ c, 43 ≤ c → c < 85 → M' c = M c) (e0 : M' 0 6 = M 0 6) (e1 : M' 182 39 = M 182 39) (e2 : M' 205 = M 205) : KP M' := by
  obtain ⟨b, h1, h2, h3⟩ := H
  refine ⟨b, by rw [e0]; exact h1, by rw [e1]; exact h2, fun hb => ?_⟩
  obtain ⟨h, s, t, a1, a2, a3, a4, a5, a6, a7, a8, a9⟩ := h3 hb
  have hG : h.2.2.1 ≤ 3 := a3.2.1
  refine ⟨h, s, t, a1.congr (fun c c1 c2 => e c (by omega) (by omega)), ?_, a3, a4.congr (fun c c1 c2 => e c (by omega) (by omega)), ?_, a6, a7.congr (fun c c1 c2 => e c (by omega) (by omega)), ?_, a9⟩
  · unfold HI at *; rw [e2]; exact a2
  · unfold SI at *; rw [e2]; exact a5
  · unfold TI at *; rw [e2]; exact a8
