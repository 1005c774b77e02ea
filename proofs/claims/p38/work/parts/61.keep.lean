/-! ===== keeping all, taking it back ===== -/
theorem HC.move {o o' : Nat} {M M' : Mem} {h : HS} (H : HC o M h) (hG : h.2.2.1 ≤ 3) (e0 : ∀ k, k < 3 → M' o' k = M o k) (e1 : ∀ k, k < 10 → M' (o' + 1) k = M (o + 1) k) (e2 : ∀ k, k < 10 → M' (o' + 2) k = M (o + 2) k) (e3 : ∀ g, g < 3 → ∀ k, k < 24 → M' (o' + 4 + g) k = M (o + 4 + g) k) : HC o' M' h := by
  obtain ⟨h1, h2, h3, h4, h5, h6⟩ := H
  exact ⟨by rw [e0 _ (by omega)]; exact h1, by rw [e0 _ (by omega)]; exact h2, by rw [e0 _ (by omega)]; exact h3, fun a ha => by rw [e1 _ ha]; exact h4 a ha, fun a ha => by rw [e2 _ ha]; exact h5 a ha, fun g hg t ht => by rw [e3 g (by omega) t ht]; exact h6 g hg t ht⟩
theorem SC.move {o o' : Nat} {M M' : Mem} {s : SS} {R : Nat} (H : SC o M s) (O : SO s R) (e0 : ∀ k, k < 4 → M' o' k = M o k) (e1 : ∀ k, k < 3 → M' (o' + 1) k = M (o + 1) k) (e2 : ∀ q, q < 5 → ∀ k, k < 5 → M' (o' + 2 + q) k = M (o + 2 + q) k) : SC o' M' s := by
  obtain ⟨h1, h2, h3, h4, h5, h6⟩ := H
  have := O.1
  have := O.2.1
  exact ⟨by rw [e0 _ (by omega)]; exact h1, by rw [e0 _ (by omega)]; exact h2, by rw [e0 _ (by omega)]; exact h3, by rw [e0 _ (by omega)]; exact h4, fun i hi => by rw [e1 _ (by omega)]; exact h5 i hi, fun e he k hk => by rw [e2 k hk e (by omega)]; exact h6 e he k hk⟩
theorem TC.move {o o' : Nat} {M M' : Mem} {t : TS} {R : Nat} (H : TC o M t) (O : TO t R) (e0 : ∀ k, k < 6 → M' o' k = M o k) (e1 : ∀ k, k < 5 → M' (o' + 1) k = M (o + 1) k) (e2 : ∀ q, q < 4 → ∀ k, k < 12 → M' (o' + 2 + q) k = M (o + 2 + q) k) : TC o' M' t := by
  obtain ⟨h1, h2, h3, h4, h5, h6⟩ := H
  have := O.1
  have := O.2.1
  exact ⟨by rw [e0 _ (by omega)]; exact h1, by rw [e0 _ (by omega)]; exact h2, by rw [e0 _ (by omega)]; exact h3, by rw [e0 _ (by omega), e0 _ (by omega), e0 _ (by omega)]; exact h4, fun i hi => by rw [e1 _ (by omega)]; exact h5 i hi, fun e he k hk => by rw [e2 k hk e (by omega)]; exact h6 e he k hk⟩
theorem cp_ok {a n : Nat} (h : a + n ≤ 2000) {A : Prop} (m : Nat) (hm : a + n ≤ m) (k : A) : (¬ (nI a) < 0 ∧ ¬ (nI a) < 0 ∧ ¬ (nI n) < 0 ∧ ix (nI a) + ix (nI n) ≤ m ∧ ix (nI a) + ix (nI n) ≤ m) ∧ A := by
  rw [ix_n (by omega), ix_n (by omega)]
  exact ⟨⟨nI_pos (by omega), nI_pos (by omega), nI_pos (by omega), hm, hm⟩, k⟩
theorem cpf (M : Mem) {c0 c1 n c k : Nat} (h : c ≠ c1) : cpy M c0 c1 0 0 n c k = M c k := by rw [cpy_f M _ _ _ h]
theorem cpi (M : Mem) {c0 c1 n k : Nat} (h : k < n) : cpy M c0 c1 0 0 n c1 k = M c0 k := by
  rw [cpy_in M (by omega) (by omega), show 0 + (k - 0) = k by omega]
theorem s_keepHouse {h : HS} (hG : h.2.2.1 ≤ 3) {M : Mem} (H : HC 1 M h) {Q : Mem → Prop} (K : ∀ M', (∀ c j, ¬ (43 ≤ c ∧ c ≤ 49) → M' c j = M c j) → HC 43 M' h → Q M') : C_X0_become_43_1 M Q := by
  refine T_X0_become_43_1 (cp_ok (by omega) 10 (by omega) (cp_ok (by omega) 10 (by omega) (T_X0_become_43_1_56 ⟨fun w => absurd w (by decide), fun _ => ⟨by rw [vin (by omega)]; omega, cp_ok (by omega) 24 (by omega) ?_⟩⟩)))
  simp (disch := omega) only [n_add, ix_n]
  refine T_X0_become_43_1_56 ⟨fun w => absurd w (by decide), fun _ => ⟨by rw [vin (by omega)]; omega, cp_ok (by omega) 24 (by omega) ?_⟩⟩
  simp (disch := omega) only [n_add, ix_n]
  refine T_X0_become_43_1_56 ⟨fun w => absurd w (by decide), fun _ => ⟨by rw [vin (by omega)]; omega, cp_ok (by omega) 24 (by omega) ?_⟩⟩
  simp (disch := omega) only [n_add, ix_n]
  refine T_X0_become_43_1_56 ⟨fun _ => K _ (fun c j q => ?_) ?_, fun w => absurd (by decide) w⟩
  · rw [cpf _ (by omega), cpf _ (by omega), cpf _ (by omega), cpf _ (by omega), cpf _ (by omega)]; exact (by simp only [wr]; repeat rw [if_neg (by omega)])
  · refine H.move hG (fun k hk => ?_) (fun k hk => ?_) (fun k hk => ?_) (fun g hg k hk => ?_)
    · rw [cpf _ (by omega), cpf _ (by omega), cpf _ (by omega), cpf _ (by omega), cpf _ (by omega)]
      rcases (show k = 0 ∨ k = 1 ∨ k = 2 by omega) with w | w | w <;> subst w <;> simp [wr]
    · rw [cpf _ (by omega), cpf _ (by omega), cpf _ (by omega), cpf _ (by omega), cpi _ hk]; exact (by simp only [wr]; repeat rw [if_neg (by omega)])
    · rw [cpf _ (by omega), cpf _ (by omega), cpf _ (by omega), cpi _ hk, cpf _ (by omega)]; exact (by simp only [wr]; repeat rw [if_neg (by omega)])
    · rcases (show g = 0 ∨ g = 1 ∨ g = 2 by omega) with w | w | w <;> subst w
      · rw [cpf _ (by omega), cpf _ (by omega), cpi _ hk, cpf _ (by omega), cpf _ (by omega)]; exact (by simp only [wr]; repeat rw [if_neg (by omega)])
      · rw [cpf _ (by omega), cpi _ hk, cpf _ (by omega), cpf _ (by omega), cpf _ (by omega)]; exact (by simp only [wr]; repeat rw [if_neg (by omega)])
      · rw [cpi _ hk, cpf _ (by omega), cpf _ (by omega), cpf _ (by omega), cpf _ (by omega)]; exact (by simp only [wr]; repeat rw [if_neg (by omega)])
theorem s_backHouse {h : HS} (hG : h.2.2.1 ≤ 3) {M : Mem} (H : HC 43 M h) {Q : Mem → Prop} (K : ∀ M', (∀ c j, ¬ (1 ≤ c ∧ c ≤ 7) → M' c j = M c j) → HC 1 M' h → Q M') : C_X0_become_1_43 M Q := by
  refine T_X0_become_1_43 (cp_ok (by omega) 10 (by omega) (cp_ok (by omega) 10 (by omega) (T_X0_become_1_43_56 ⟨fun w => absurd w (by decide), fun _ => ⟨by rw [vin (by omega)]; omega, cp_ok (by omega) 24 (by omega) ?_⟩⟩)))
  simp (disch := omega) only [n_add, ix_n]
  refine T_X0_become_1_43_56 ⟨fun w => absurd w (by decide), fun _ => ⟨by rw [vin (by omega)]; omega, cp_ok (by omega) 24 (by omega) ?_⟩⟩
  simp (disch := omega) only [n_add, ix_n]
  refine T_X0_become_1_43_56 ⟨fun w => absurd w (by decide), fun _ => ⟨by rw [vin (by omega)]; omega, cp_ok (by omega) 24 (by omega) ?_⟩⟩
  simp (disch := omega) only [n_add, ix_n]
  refine T_X0_become_1_43_56 ⟨fun _ => K _ (fun c j q => ?_) ?_, fun w => absurd (by decide) w⟩
  · rw [cpf _ (by omega), cpf _ (by omega), cpf _ (by omega), cpf _ (by omega), cpf _ (by omega)]; exact (by simp only [wr]; repeat rw [if_neg (by omega)])
  · refine H.move hG (fun k hk => ?_) (fun k hk => ?_) (fun k hk => ?_) (fun g hg k hk => ?_)
    · rw [cpf _ (by omega), cpf _ (by omega), cpf _ (by omega), cpf _ (by omega), cpf _ (by omega)]
      rcases (show k = 0 ∨ k = 1 ∨ k = 2 by omega) with w | w | w <;> subst w <;> simp [wr]
    · rw [cpf _ (by omega), cpf _ (by omega), cpf _ (by omega), cpf _ (by omega), cpi _ hk]; exact (by simp only [wr]; repeat rw [if_neg (by omega)])
    · rw [cpf _ (by omega), cpf _ (by omega), cpf _ (by omega), cpi _ hk, cpf _ (by omega)]; exact (by simp only [wr]; repeat rw [if_neg (by omega)])
    · rcases (show g = 0 ∨ g = 1 ∨ g = 2 by omega) with w | w | w <;> subst w
      · rw [cpf _ (by omega), cpf _ (by omega), cpi _ hk, cpf _ (by omega), cpf _ (by omega)]; exact (by simp only [wr]; repeat rw [if_neg (by omega)])
      · rw [cpf _ (by omega), cpi _ hk, cpf _ (by omega), cpf _ (by omega), cpf _ (by omega)]; exact (by simp only [wr]; repeat rw [if_neg (by omega)])
      · rw [cpi _ hk, cpf _ (by omega), cpf _ (by omega), cpf _ (by omega), cpf _ (by omega)]; exact (by simp only [wr]; repeat rw [if_neg (by omega)])
theorem s_keepStaff {s : SS} {R : Nat} (O : SO s R) {M : Mem} (H : SC 30 M s) {Q : Mem → Prop} (K : ∀ M', (∀ c j, ¬ (72 ≤ c ∧ c ≤ 78) → M' c j = M c j) → SC 72 M' s → Q M') : C_X5_become_72_30 M Q := by
  refine T_X5_become_72_30 (cp_ok (by omega) 3 (by omega) (cp_ok (by omega) 5 (by omega) (cp_ok (by omega) 5 (by omega) (cp_ok (by omega) 5 (by omega) (cp_ok (by omega) 5 (by omega) (cp_ok (by omega) 5 (by omega) ?_))))))
  simp (disch := omega) only [ix_n]
  refine K _ (fun c j q => ?_) ?_
  · rw [cpf _ (by omega), cpf _ (by omega), cpf _ (by omega), cpf _ (by omega), cpf _ (by omega), cpf _ (by omega)]; exact (by simp only [wr]; repeat rw [if_neg (by omega)])
  · refine H.move O (fun k hk => ?_) (fun k hk => ?_) (fun q hq k hk => ?_)
    · rw [cpf _ (by omega), cpf _ (by omega), cpf _ (by omega), cpf _ (by omega), cpf _ (by omega), cpf _ (by omega)]
      rcases (show k = 0 ∨ k = 1 ∨ k = 2 ∨ k = 3 by omega) with w | w | w | w <;> subst w <;> simp [wr]
    · rw [cpf _ (by omega), cpf _ (by omega), cpf _ (by omega), cpf _ (by omega), cpf _ (by omega), cpi _ hk]; exact (by simp only [wr]; repeat rw [if_neg (by omega)])
    · rcases (show q = 0 ∨ q = 1 ∨ q = 2 ∨ q = 3 ∨ q = 4 by omega) with w | w | w | w | w <;> subst w
      · rw [cpf _ (by omega), cpf _ (by omega), cpf _ (by omega), cpf _ (by omega), cpi _ hk, cpf _ (by omega)]; exact (by simp only [wr]; repeat rw [if_neg (by omega)])
      · rw [cpf _ (by omega), cpf _ (by omega), cpf _ (by omega), cpi _ hk, cpf _ (by omega), cpf _ (by omega)]; exact (by simp only [wr]; repeat rw [if_neg (by omega)])
      · rw [cpf _ (by omega), cpf _ (by omega), cpi _ hk, cpf _ (by omega), cpf _ (by omega), cpf _ (by omega)]; exact (by simp only [wr]; repeat rw [if_neg (by omega)])
      · rw [cpf _ (by omega), cpi _ hk, cpf _ (by omega), cpf _ (by omega), cpf _ (by omega), cpf _ (by omega)]; exact (by simp only [wr]; repeat rw [if_neg (by omega)])
      · rw [cpi _ hk, cpf _ (by omega), cpf _ (by omega), cpf _ (by omega), cpf _ (by omega), cpf _ (by omega)]; exact (by simp only [wr]; repeat rw [if_neg (by omega)])
theorem s_backStaff {s : SS} {R : Nat} (O : SO s R) {M : Mem} (H : SC 72 M s) {Q : Mem → Prop} (K : ∀ M', (∀ c j, ¬ (30 ≤ c ∧ c ≤ 36) → M' c j = M c j) → SC 30 M' s → Q M') : C_X5_become_30_72 M Q := by
  refine T_X5_become_30_72 (cp_ok (by omega) 3 (by omega) (cp_ok (by omega) 5 (by omega) (cp_ok (by omega) 5 (by omega) (cp_ok (by omega) 5 (by omega) (cp_ok (by omega) 5 (by omega) (cp_ok (by omega) 5 (by omega) ?_))))))
  simp (disch := omega) only [ix_n]
  refine K _ (fun c j q => ?_) ?_
  · rw [cpf _ (by omega), cpf _ (by omega), cpf _ (by omega), cpf _ (by omega), cpf _ (by omega), cpf _ (by omega)]; exact (by simp only [wr]; repeat rw [if_neg (by omega)])
  · refine H.move O (fun k hk => ?_) (fun k hk => ?_) (fun q hq k hk => ?_)
    · rw [cpf _ (by omega), cpf _ (by omega), cpf _ (by omega), cpf _ (by omega), cpf _ (by omega), cpf _ (by omega)]
      rcases (show k = 0 ∨ k = 1 ∨ k = 2 ∨ k = 3 by omega) with w | w | w | w <;> subst w <;> simp [wr]
    · rw [cpf _ (by omega), cpf _ (by omega), cpf _ (by omega), cpf _ (by omega), cpf _ (by omega), cpi _ hk]; exact (by simp only [wr]; repeat rw [if_neg (by omega)])
    · rcases (show q = 0 ∨ q = 1 ∨ q = 2 ∨ q = 3 ∨ q = 4 by omega) with w | w | w | w | w <;> subst w
      · rw [cpf _ (by omega), cpf _ (by omega), cpf _ (by omega), cpf _ (by omega), cpi _ hk, cpf _ (by omega)]; exact (by simp only [wr]; repeat rw [if_neg (by omega)])
      · rw [cpf _ (by omega), cpf _ (by omega), cpf _ (by omega), cpi _ hk, cpf _ (by omega), cpf _ (by omega)]; exact (by simp only [wr]; repeat rw [if_neg (by omega)])
      · rw [cpf _ (by omega), cpf _ (by omega), cpi _ hk, cpf _ (by omega), cpf _ (by omega), cpf _ (by omega)]; exact (by simp only [wr]; repeat rw [if_neg (by omega)])
      · rw [cpf _ (by omega), cpi _ hk, cpf _ (by omega), cpf _ (by omega), cpf _ (by omega), cpf _ (by omega)]; exact (by simp only [wr]; repeat rw [if_neg (by omega)])
      · rw [cpi _ hk, cpf _ (by omega), cpf _ (by omega), cpf _ (by omega), cpf _ (by omega), cpf _ (by omega)]; exact (by simp only [wr]; repeat rw [if_neg (by omega)])
theorem s_keepTalk {t : TS} {R : Nat} (O : TO t R) {M : Mem} (H : TC 37 M t) {Q : Mem → Prop} (K : ∀ M', (∀ c j, ¬ (79 ≤ c ∧ c ≤ 84) → M' c j = M c j) → TC 79 M' t → Q M') : C_X6_become_79_37 M Q := by
  refine T_X6_become_79_37 ⟨by rw [H.2.2.1]; exact bI_01 _, (cp_ok (by omega) 5 (by omega) (cp_ok (by omega) 12 (by omega) (cp_ok (by omega) 12 (by omega) (cp_ok (by omega) 12 (by omega) (cp_ok (by omega) 12 (by omega) ?_)))))⟩
  simp (disch := omega) only [ix_n]
  refine K _ (fun c j q => ?_) ?_
  · rw [cpf _ (by omega), cpf _ (by omega), cpf _ (by omega), cpf _ (by omega), cpf _ (by omega)]; exact (by simp only [wr]; repeat rw [if_neg (by omega)])
  · refine H.move O (fun k hk => ?_) (fun k hk => ?_) (fun q hq k hk => ?_)
    · rw [cpf _ (by omega), cpf _ (by omega), cpf _ (by omega), cpf _ (by omega), cpf _ (by omega)]
      rcases (show k = 0 ∨ k = 1 ∨ k = 2 ∨ k = 3 ∨ k = 4 ∨ k = 5 by omega) with w | w | w | w | w | w <;> subst w <;> simp [wr]
    · rw [cpf _ (by omega), cpf _ (by omega), cpf _ (by omega), cpf _ (by omega), cpi _ hk]; exact (by simp only [wr]; repeat rw [if_neg (by omega)])
    · rcases (show q = 0 ∨ q = 1 ∨ q = 2 ∨ q = 3 by omega) with w | w | w | w <;> subst w
      · rw [cpf _ (by omega), cpf _ (by omega), cpf _ (by omega), cpi _ hk, cpf _ (by omega)]; exact (by simp only [wr]; repeat rw [if_neg (by omega)])
      · rw [cpf _ (by omega), cpf _ (by omega), cpi _ hk, cpf _ (by omega), cpf _ (by omega)]; exact (by simp only [wr]; repeat rw [if_neg (by omega)])
      · rw [cpf _ (by omega), cpi _ hk, cpf _ (by omega), cpf _ (by omega), cpf _ (by omega)]; exact (by simp only [wr]; repeat rw [if_neg (by omega)])
      · rw [cpi _ hk, cpf _ (by omega), cpf _ (by omega), cpf _ (by omega), cpf _ (by omega)]; exact (by simp only [wr]; repeat rw [if_neg (by omega)])
theorem s_backTalk {t : TS} {R : Nat} (O : TO t R) {M : Mem} (H : TC 79 M t) {Q : Mem → Prop} (K : ∀ M', (∀ c j, ¬ (37 ≤ c ∧ c ≤ 42) → M' c j = M c j) → TC 37 M' t → Q M') : C_X6_become_37_79 M Q := by
  refine T_X6_become_37_79 ⟨by rw [H.2.2.1]; exact bI_01 _, (cp_ok (by omega) 5 (by omega) (cp_ok (by omega) 12 (by omega) (cp_ok (by omega) 12 (by omega) (cp_ok (by omega) 12 (by omega) (cp_ok (by omega) 12 (by omega) ?_)))))⟩
  simp (disch := omega) only [ix_n]
  refine K _ (fun c j q => ?_) ?_
  · rw [cpf _ (by omega), cpf _ (by omega), cpf _ (by omega), cpf _ (by omega), cpf _ (by omega)]; exact (by simp only [wr]; repeat rw [if_neg (by omega)])
  · refine H.move O (fun k hk => ?_) (fun k hk => ?_) (fun q hq k hk => ?_)
    · rw [cpf _ (by omega), cpf _ (by omega), cpf _ (by omega), cpf _ (by omega), cpf _ (by omega)]
      rcases (show k = 0 ∨ k = 1 ∨ k = 2 ∨ k = 3 ∨ k = 4 ∨ k = 5 by omega) with w | w | w | w | w | w <;> subst w <;> simp [wr]
    · rw [cpf _ (by omega), cpf _ (by omega), cpf _ (by omega), cpf _ (by omega), cpi _ hk]; exact (by simp only [wr]; repeat rw [if_neg (by omega)])
    · rcases (show q = 0 ∨ q = 1 ∨ q = 2 ∨ q = 3 by omega) with w | w | w | w <;> subst w
      · rw [cpf _ (by omega), cpf _ (by omega), cpf _ (by omega), cpi _ hk, cpf _ (by omega)]; exact (by simp only [wr]; repeat rw [if_neg (by omega)])
      · rw [cpf _ (by omega), cpf _ (by omega), cpi _ hk, cpf _ (by omega), cpf _ (by omega)]; exact (by simp only [wr]; repeat rw [if_neg (by omega)])
      · rw [cpf _ (by omega), cpi _ hk, cpf _ (by omega), cpf _ (by omega), cpf _ (by omega)]; exact (by simp only [wr]; repeat rw [if_neg (by omega)])
      · rw [cpi _ hk, cpf _ (by omega), cpf _ (by omega), cpf _ (by omega), cpf _ (by omega)]; exact (by simp only [wr]; repeat rw [if_neg (by omega)])
