theorem rle {x : Int32} {n : Nat} (hn : n < 1000000) {A B : Prop} (f : okN x (n + 1) = false → A) (g : okN x (n + 1) = true → B) : (x < 0 → A) ∧ (¬ x < 0 → ((x ≤ nI n → B) ∧ (¬ x ≤ nI n → A))) := by
  refine ⟨fun q => f (okN_lo q), fun q => ⟨fun q2 => g ?_, fun q2 => f ?_⟩⟩
  · simp only [okN, decide_eq_true_eq]
    rw [Int32.not_lt, Int32.le_iff_toInt_le, Int32.toInt_zero] at q
    rw [Int32.le_iff_toInt_le, nI_toInt (by omega)] at q2
    omega
  · simp only [okN, decide_eq_false_iff_not]
    rw [Int32.not_le, Int32.lt_iff_toInt_lt, nI_toInt (by omega)] at q2
    omega
theorem rlt {x : Int32} {n : Nat} (hn : n < 1000000) {A B : Prop} (f : okN x (n + 1) = false → A) (g : okN x (n + 1) = true → B) : (x < 0 → A) ∧ (¬ x < 0 → ((nI n < x → A) ∧ (¬ nI n < x → B))) := by
  have := rle hn f g
  exact ⟨this.1, fun q => ⟨fun q2 => (this.2 q).2 (Int32.not_le.mpr q2), fun q2 => (this.2 q).1 (Int32.not_lt.mp q2)⟩⟩
theorem wel_ne {s : SS} (h : ¬ mk (wel s) = 0) (hs : s.1 ≤ 3) : ∃ v, wel s v = true := by
  apply Classical.byContradiction
  intro q
  apply h
  rw [mk_eq0]
  intro i _
  cases hi : wel s i with
  | false => rfl
  | true => exact absurd ⟨i, hi⟩ q
theorem s_wellW {s : SS} {M : Mem} (H : SC 30 M s) (hs : s.1 ≤ 3) {Q : Int32 → Mem → Prop} (k : Q (mk (wel s)) M) : C_X5_well_30 M Q := s_well H hs k
theorem x_prep {M : Mem} {h : HS} {s : SS} {t : TS} {n : Nat} {tp : Nat → Nat} {x : WS} {kx : KS} (I : IC M h s t n tp x kx) (O : IO h s t n tp x kx) (hne : ∃ v, wel s v = true) {Q : Mem → Prop} (K : ∀ M', (∀ c k, 182 ≤ c → M' c k = M c k) → IC M' h s t n tp x kx → PT M' h s → Q M') : C_X3_prepare M Q := by
  refine s_prepareP O.1 O.2.1 I.1 I.2.2.1 I.2.1 I.2.2.2.2.2.2.2.1 I.2.2.2.2.2.2.2.2 hne (fun M' f z T P => ?_)
  exact K M' (fun c k hc => f c k (by unfold scr; omega)) (I.tmp O (fun c k q => f c k (fun w => q (Or.inl w))) T (Or.inr ⟨z, P⟩)) P
theorem IM.lay {M M' : Mem} {h : HS} {s : SS} {t : TS} {n : Nat} {tp : Nat → Nat} {x : WS} {kx : KS} (J : IM M h s t n tp x kx) (f : ∀ c k, ¬ mlay c k → M' c k = M c k) (L : LA M' h) : IM M' h s t n tp x kx := J.tmp (fun c k q => f c k (by unfold msc at q; unfold mlay; omega)) L
theorem mlay_lt {c k : Nat} (h : c < 182) : ¬ mlay c k := by unfold mlay; omega
