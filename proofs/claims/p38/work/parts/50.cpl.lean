/-! ===== both systems hold the same ===== -/
def IC (M : Mem) (h : HS) (s : SS) (t : TS) (n : Nat) (tp : Nat → Nat) (x : WS) (kx : KS) : Prop := HC 1 M h ∧ WY M h ∧ SC 30 M s ∧ TC 37 M t ∧ PC M n tp ∧ WC M x ∧ KC M kx ∧ TF M h ∧ PF M h s
def IM (M : Mem) (h : HS) (s : SS) (t : TS) (n : Nat) (tp : Nat → Nat) (x : WS) (kx : KS) : Prop := HM M h ∧ SM M s ∧ TM M t ∧ PM M n tp ∧ WM M x ∧ KM M kx ∧ LA M h
def IO (h : HS) (s : SS) (t : TS) (n : Nat) (tp : Nat → Nat) (x : WS) (kx : KS) : Prop := HO h ∧ SO s h.1 ∧ TO t h.1 ∧ PO n tp ∧ WO x ∧ KO kx
def Cpl (M : Mem) : Prop := ∃ h s t n tp x kx, IC M h s t n tp x kx ∧ IM M h s t n tp x kx ∧ IO h s t n tp x kx
section Cpl
variable {M M' : Mem} {h h' : HS} {s s' : SS} {t t' : TS} {n n' : Nat} {tp tp' : Nat → Nat} {x x' : WS} {kx kx' : KS}
theorem IC.staff (I : IC M h s t n tp x kx) (O : IO h s t n tp x kx) (u : SC 30 M' s') (f : ∀ c k, ¬ ((30 ≤ c ∧ c ≤ 36) ∨ (c = 95 ∧ k = 1) ∨ (c = 124 ∧ k = 3)) → M' c k = M c k) (e1 : M' 95 1 = nI 0) (e2 : M' 124 3 = nI 0) : IC M' h s' t n tp x kx := by
  obtain ⟨a1, a2, a3, a4, a5, a6, a7, a8, a9⟩ := I
  exact ⟨a1.congr O.1.2.1 (fun c k _ _ => f c k (by omega)), a2.congr O.1.1 (fun c k _ => f c k (by omega)), u, a4.congr (fun c k _ _ => f c k (by omega)), a5.congr (fun c k _ => f c k (by omega)), a6.congr (fun c k _ => f c k (by omega)), a7.congr O.2.2.2.2.2 (fun c k _ => f c k (by omega)), Or.inl e1, Or.inl e2⟩
theorem IC.house (I : IC M h s t n tp x kx) (O : IO h s t n tp x kx) (u : HC 1 M' h') (v : WY M' h') (f : ∀ c k, ¬ ((1 ≤ c ∧ c ≤ 7) ∨ (9 ≤ c ∧ c ≤ 18) ∨ (20 ≤ c ∧ c ≤ 29) ∨ (c = 95 ∧ k = 1) ∨ (c = 124 ∧ k = 3) ∨ c = 174) → M' c k = M c k) (e1 : M' 95 1 = nI 0) (e2 : M' 124 3 = nI 0) : IC M' h' s t n tp x kx := by
  obtain ⟨a1, a2, a3, a4, a5, a6, a7, a8, a9⟩ := I
  exact ⟨u, v, a3.congr (fun c k _ _ => f c k (by omega)), a4.congr (fun c k _ _ => f c k (by omega)), a5.congr (fun c k _ => f c k (by omega)), a6.congr (fun c k _ => f c k (by omega)), a7.congr O.2.2.2.2.2 (fun c k _ => f c k (by omega)), Or.inl e1, Or.inl e2⟩
theorem IC.talk (I : IC M h s t n tp x kx) (O : IO h s t n tp x kx) (u : TC 37 M' t') (f : ∀ c k, ¬ (37 ≤ c ∧ c ≤ 42) → M' c k = M c k) : IC M' h s t' n tp x kx := by
  obtain ⟨a1, a2, a3, a4, a5, a6, a7, a8, a9⟩ := I
  exact ⟨a1.congr O.1.2.1 (fun c k _ _ => f c k (by omega)), a2.congr O.1.1 (fun c k _ => f c k (by omega)), a3.congr (fun c k _ _ => f c k (by omega)), u, a5.congr (fun c k _ => f c k (by omega)), a6.congr (fun c k _ => f c k (by omega)), a7.congr O.2.2.2.2.2 (fun c k _ => f c k (by omega)), a8.congr (fun c k _ => f c k (by omega)), a9.congr O.2.1.1 (fun c k _ => f c k (by omega))⟩
theorem IC.tape (I : IC M h s t n tp x kx) (O : IO h s t n tp x kx) (u : PC M' n' tp') (f : ∀ c k, ¬ (c = 85 ∨ c = 86 ∨ (174 ≤ c ∧ c ≤ 181)) → M' c k = M c k) : IC M' h s t n' tp' x kx := by
  obtain ⟨a1, a2, a3, a4, a5, a6, a7, a8, a9⟩ := I
  exact ⟨a1.congr O.1.2.1 (fun c k _ _ => f c k (by omega)), a2.congr O.1.1 (fun c k _ => f c k (by omega)), a3.congr (fun c k _ _ => f c k (by omega)), a4.congr (fun c k _ _ => f c k (by omega)), u, a6.congr (fun c k _ => f c k (by omega)), a7.congr O.2.2.2.2.2 (fun c k _ => f c k (by omega)), a8.congr (fun c k _ => f c k (by omega)), a9.congr O.2.1.1 (fun c k _ => f c k (by omega))⟩
theorem IC.sheet (I : IC M h s t n tp x kx) (O : IO h s t n tp x kx) (u : WC M' x') (f : ∀ c k, ¬ (88 ≤ c ∧ c ≤ 94) → M' c k = M c k) : IC M' h s t n tp x' kx := by
  obtain ⟨a1, a2, a3, a4, a5, a6, a7, a8, a9⟩ := I
  exact ⟨a1.congr O.1.2.1 (fun c k _ _ => f c k (by omega)), a2.congr O.1.1 (fun c k _ => f c k (by omega)), a3.congr (fun c k _ _ => f c k (by omega)), a4.congr (fun c k _ _ => f c k (by omega)), a5.congr (fun c k _ => f c k (by omega)), u, a7.congr O.2.2.2.2.2 (fun c k _ => f c k (by omega)), a8.congr (fun c k _ => f c k (by omega)), a9.congr O.2.1.1 (fun c k _ => f c k (by omega))⟩
theorem IC.kept (I : IC M h s t n tp x kx) (O : IO h s t n tp x kx) (u : KC M' kx') (f : ∀ c k, ¬ ((c = 0 ∧ k = 6) ∨ (43 ≤ c ∧ c < 85)) → M' c k = M c k) : IC M' h s t n tp x kx' := by
  obtain ⟨a1, a2, a3, a4, a5, a6, a7, a8, a9⟩ := I
  exact ⟨a1.congr O.1.2.1 (fun c k _ _ => f c k (by omega)), a2.congr O.1.1 (fun c k _ => f c k (by omega)), a3.congr (fun c k _ _ => f c k (by omega)), a4.congr (fun c k _ _ => f c k (by omega)), a5.congr (fun c k _ => f c k (by omega)), a6.congr (fun c k _ => f c k (by omega)), u, a8.congr (fun c k _ => f c k (by omega)), a9.congr O.2.1.1 (fun c k _ => f c k (by omega))⟩
theorem IC.tmp (I : IC M h s t n tp x kx) (O : IO h s t n tp x kx) (f : ∀ c k, ¬ (scr c k ∨ (169 ≤ c ∧ c ≤ 181)) → M' c k = M c k) (u : TF M' h) (v : PF M' h s) : IC M' h s t n tp x kx := by
  obtain ⟨a1, a2, a3, a4, a5, a6, a7, a8, a9⟩ := I
  unfold scr at f
  exact ⟨a1.congr O.1.2.1 (fun c k _ _ => f c k (by omega)), a2.congr O.1.1 (fun c k _ => f c k (by omega)), a3.congr (fun c k _ _ => f c k (by omega)), a4.congr (fun c k _ _ => f c k (by omega)), a5.congr (fun c k _ => f c k (by omega)), a6.congr (fun c k _ => f c k (by omega)), a7.congr O.2.2.2.2.2 (fun c k _ => f c k (by omega)), u, v⟩
theorem IC.far (I : IC M h s t n tp x kx) (O : IO h s t n tp x kx) (f : ∀ c k, c < 182 → M' c k = M c k) : IC M' h s t n tp x kx := by
  obtain ⟨a1, a2, a3, a4, a5, a6, a7, a8, a9⟩ := I
  exact ⟨a1.congr O.1.2.1 (fun c k _ _ => f c k (by omega)), a2.congr O.1.1 (fun c k _ => f c k (by omega)), a3.congr (fun c k _ _ => f c k (by omega)), a4.congr (fun c k _ _ => f c k (by omega)), a5.congr (fun c k _ => f c k (by omega)), a6.congr (fun c k _ => f c k (by omega)), a7.congr O.2.2.2.2.2 (fun c k _ => f c k (by omega)), a8.congr (fun c k _ => f c k (by omega)), a9.congr O.2.1.1 (fun c k _ => f c k (by omega))⟩
theorem IM.far (I : IM M h s t n tp x kx) (f : ∀ c k, 182 ≤ c → M' c k = M c k) : IM M' h s t n tp x kx := by
  obtain ⟨a1, a2, a3, a4, a5, a6, a7⟩ := I
  exact ⟨a1.congr (fun c k _ => f c k (by omega)), a2.congr (fun c k _ => f c k (by omega)), a3.congr (fun c k _ => f c k (by omega)), a4.congr (fun c k _ => f c k (by omega)), a5.congr (fun c k _ => f c k (by omega)), a6.congr (fun c k _ => f c k (by omega)), a7.congr (fun k => f _ k (by omega)) (f _ _ (by omega))⟩
theorem IM.staff (I : IM M h s t n tp x kx) (u : SM M' s') (f : ∀ c k, ¬ ((c = 182 ∧ (k = 5 ∨ k = 14 ∨ k = 17)) ∨ (189 ≤ c ∧ c ≤ 191)) → M' c k = M c k) : IM M' h s' t n tp x kx := by
  obtain ⟨a1, a2, a3, a4, a5, a6, a7⟩ := I
  exact ⟨a1.congr (fun c k _ => f c k (by omega)), u, a3.congr (fun c k _ => f c k (by omega)), a4.congr (fun c k _ => f c k (by omega)), a5.congr (fun c k _ => f c k (by omega)), a6.congr (fun c k _ => f c k (by omega)), a7.congr (fun k => f _ k (by omega)) (f _ _ (by omega))⟩
theorem IM.talk (I : IM M h s t n tp x kx) (u : TM M' t') (f : ∀ c k, ¬ ((c = 182 ∧ (k = 28 ∨ k = 30 ∨ k = 32 ∨ k = 33 ∨ k = 34)) ∨ c = 200 ∨ c = 201) → M' c k = M c k) : IM M' h s t' n tp x kx := by
  obtain ⟨a1, a2, a3, a4, a5, a6, a7⟩ := I
  exact ⟨a1.congr (fun c k _ => f c k (by omega)), a2.congr (fun c k _ => f c k (by omega)), u, a4.congr (fun c k _ => f c k (by omega)), a5.congr (fun c k _ => f c k (by omega)), a6.congr (fun c k _ => f c k (by omega)), a7.congr (fun k => f _ k (by omega)) (f _ _ (by omega))⟩
theorem IM.tape (I : IM M h s t n tp x kx) (u : PM M' n' tp') (f : ∀ c k, ¬ ((c = 182 ∧ (k = 7 ∨ k = 8 ∨ k = 9)) ∨ c = 185 ∨ c = 186 ∨ c = 202) → M' c k = M c k) : IM M' h s t n' tp' x kx := by
  obtain ⟨a1, a2, a3, a4, a5, a6, a7⟩ := I
  exact ⟨a1.congr (fun c k _ => f c k (by omega)), a2.congr (fun c k _ => f c k (by omega)), a3.congr (fun c k _ => f c k (by omega)), u, a5.congr (fun c k _ => f c k (by omega)), a6.congr (fun c k _ => f c k (by omega)), a7.congr (fun k => f _ k (by omega)) (f _ _ (by omega))⟩
theorem IM.sheet (I : IM M h s t n tp x kx) (u : WM M' x') (f : ∀ c k, ¬ (206 ≤ c ∧ c ≤ 209) → M' c k = M c k) : IM M' h s t n tp x' kx := by
  obtain ⟨a1, a2, a3, a4, a5, a6, a7⟩ := I
  exact ⟨a1.congr (fun c k _ => f c k (by omega)), a2.congr (fun c k _ => f c k (by omega)), a3.congr (fun c k _ => f c k (by omega)), a4.congr (fun c k _ => f c k (by omega)), u, a6.congr (fun c k _ => f c k (by omega)), a7.congr (fun k => f _ k (by omega)) (f _ _ (by omega))⟩
theorem IM.house (I : IM M h s t n tp x kx) (u : HM M' h') (f : ∀ c k, ¬ ((c = 182 ∧ (k = 0 ∨ k = 1 ∨ k = 3 ∨ k = 13)) ∨ c = 183 ∨ c = 184) → M' c k = M c k) (e : M' 182 13 = nI 0) : IM M' h' s t n tp x kx := by
  obtain ⟨a1, a2, a3, a4, a5, a6, a7⟩ := I
  exact ⟨u, a2.congr (fun c k _ => f c k (by omega)), a3.congr (fun c k _ => f c k (by omega)), a4.congr (fun c k _ => f c k (by omega)), a5.congr (fun c k _ => f c k (by omega)), a6.congr (fun c k _ => f c k (by omega)), Or.inl e⟩
theorem IM.kept (I : IM M h s t n tp x kx) (u : KM M' kx') (f : ∀ c k, ¬ ((c = 182 ∧ k = 39) ∨ c = 205) → M' c k = M c k) : IM M' h s t n tp x kx' := by
  obtain ⟨a1, a2, a3, a4, a5, a6, a7⟩ := I
  exact ⟨a1.congr (fun c k _ => f c k (by omega)), a2.congr (fun c k _ => f c k (by omega)), a3.congr (fun c k _ => f c k (by omega)), a4.congr (fun c k _ => f c k (by omega)), a5.congr (fun c k _ => f c k (by omega)), u, a7.congr (fun k => f _ k (by omega)) (f _ _ (by omega))⟩
def msc (c k : Nat) : Prop := (186 ≤ c ∧ c ≤ 188) ∨ (192 ≤ c ∧ c ≤ 199) ∨ (202 ≤ c ∧ c ≤ 204) ∨ c = 209 ∨ (c = 182 ∧ (k = 8 ∨ k = 9 ∨ k = 13 ∨ k = 23))
theorem IM.tmp (I : IM M h s t n tp x kx) (f : ∀ c k, ¬ msc c k → M' c k = M c k) (u : LA M' h) : IM M' h s t n tp x kx := by
  obtain ⟨a1, a2, a3, a4, a5, a6, a7⟩ := I
  unfold msc at f
  exact ⟨a1.congr (fun c k _ => f c k (by omega)), a2.congr (fun c k _ => f c k (by omega)), a3.congr (fun c k _ => f c k (by omega)), a4.congr (fun c k _ => f c k (by omega)), a5.congr (fun c k _ => f c k (by omega)), a6.congr (fun c k _ => f c k (by omega)), u⟩
end Cpl
theorem s_doorsChanged {h : HS} (O : HO h) {M : Mem} (H : HC 1 M h) {Q : Mem → Prop}
    (K : ∀ M', (∀ c k, ¬ ((9 ≤ c ∧ c ≤ 18) ∨ (20 ≤ c ∧ c ≤ 29) ∨ (c = 95 ∧ k = 1) ∨ (c = 124 ∧ k = 3)) → M' c k = M c k) → WY M' h → M' 95 1 = nI 0 → M' 124 3 = nI 0 → Q M') : C_X9_doorsChanged M Q := by
  refine T_X9_doorsChanged (s_measure O H (fun M1 f1 w1 => T_X9_plansChanged ?_))
  refine K _ (fun c k q => ?_) (w1.congr O.1 (fun c k q => ?_)) ?_ (wr_eq _ _ _ _)
  · rw [wr, if_neg (by omega), wr, if_neg (by omega)]; exact f1 c k (by omega)
  · rw [wr, if_neg (by omega), wr, if_neg (by omega)]
  · rw [wr_nc _ _ _ _ (by omega), wr_eq]
theorem s_plansChanged {M : Mem} {Q : Mem → Prop} (K : ∀ M', (∀ c k, ¬ ((c = 95 ∧ k = 1) ∨ (c = 124 ∧ k = 3)) → M' c k = M c k) → M' 95 1 = nI 0 → M' 124 3 = nI 0 → Q M') : C_X9_plansChanged M Q := by
  refine T_X9_plansChanged (K _ (fun c k q => ?_) ?_ (wr_eq _ _ _ _))
  · rw [wr, if_neg (by omega), wr, if_neg (by omega)]
  · rw [wr_nc _ _ _ _ (by omega), wr_eq]
/-! ===== calls of the staff and the talk ===== -/
