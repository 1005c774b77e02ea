/-! ===== walk ===== -/
theorem ltB_sk (n : Nat) (tp : Nat → Nat) (L p : Nat) : ltB n tp L (sk n tp p) = ltB n tp L p := by unfold ltB; rw [sk_sk _ p rfl]
theorem wkf_sk (h : HS) (n : Nat) (tp : Nat → Nat) (d p : Nat) (ah : Option Nat) (tot : Nat) (pth : Nat → Nat) : wkf h n tp d (sk n tp p) ah tot pth = wkf h n tp d p ah tot pth := by
  cases d with
  | zero => rw [wkf, wkf, sk_sk _ p rfl]
  | succ d => rw [wkf, wkf, ltB_sk, sk_sk _ p rfl]
theorem wkf_l {h : HS} {n : Nat} {tp : Nat → Nat} {f : Nat} : ∀ d p ah tot pth, p ≤ n → wkf h n tp d p ah tot pth = .inl f → f ≤ n := by
  intro d
  induction d with
  | zero =>
    intro p ah tot pth hp e
    have hb := sk_bd (n := n) (tp := tp) _ p rfl hp
    rw [wkf] at e
    cases e; exact hb.2
  | succ d ih =>
    intro p ah tot pth hp e
    have hb := sk_bd (n := n) (tp := tp) _ p rfl hp
    rw [wkf] at e
    split at e
    · cases e; exact hb.2
    rename_i q1
    have l1 := ltB_t (show ltB n tp h.1 p = true from by simpa using q1)
    have b1 := sk_bd (n := n) (tp := tp) _ (sk n tp p + 1) rfl (by omega)
    have b2 := nE_bd (n := n) (tp := tp) (p := sk n tp p + 1) (by omega)
    have b3 := sk_bd (n := n) (tp := tp) _ (nE n tp (sk n tp p + 1)).1 rfl b2.2
    split at e
    · cases e; exact hb.2
    split at e
    · cases e; exact b1.2
    split at e
    · exact ih _ _ _ _ b3.2 e
    · cases e
theorem wkf_r {h : HS} {n : Nat} {tp : Nat → Nat} {g : Nat → Nat} : ∀ d p ah tot pth, (∀ k, k < tot → pth k < h.1) → wkf h n tp d p ah tot pth = .inr g → ∀ k, g k < h.1 ∨ (k < tot ∧ g k = pth k) := by
  intro d
  induction d with
  | zero => intro p ah tot pth hp e; rw [wkf] at e; cases e
  | succ d ih =>
    intro p ah tot pth hp e
    rw [wkf] at e
    split at e
    · cases e
    rename_i q1
    have l1 := ltB_t (show ltB n tp h.1 p = true from by simpa using q1)
    have pp : ∀ k, (if tot ≤ k then tp (sk n tp p) - 97 else pth k) < h.1 := fun k => by
      split
      · omega
      · exact hp k (by omega)
    split at e
    · cases e
    split at e
    · cases e
    split at e
    · intro k
      rcases ih _ _ _ _ (fun k _ => pp k) e k with w | w
      · exact Or.inl w
      · rw [w.2]; exact Or.inl (pp k)
    · cases e
      exact fun k => Or.inl (pp k)
theorem s_readWalk {h : HS} (HO_ : HO h) {n : Nat} {tp : Nat → Nat} (O : PO n tp) {M : Mem} {Q : Int32 → Mem → Prop} (H : HC 1 M h) (P : PC M n tp) (K1 : ∀ M' f, (∀ c k, ¬ (c = 85 ∧ (k = 2 ∨ k = 3)) → c ≠ 174 → M' c k = M c k) → wkf h n tp 8 0 none 0 (fun _ => 0) = .inl f → Q (-20 - nI f) M') (K2 : ∀ M' g, (∀ c k, ¬ (c = 85 ∧ (k = 2 ∨ k = 3)) → c ≠ 174 → M' c k = M c k) → wkf h n tp 8 0 none 0 (fun _ => 0) = .inr g → (∀ k, k < 24 → M' 174 k = nI (g k)) → Q (nI 0) M') : C_X7_readWalk_1 M 174 Q := by
  refine T_X7_readWalk_1 ia_174 ?_
  have fr : ∀ c k, ¬ (c = 85 ∧ (k = 2 ∨ k = 3)) → wr M 85 2 (nI 0) c k = M c k := fun c k w => (by simp only [wr]; repeat rw [if_neg (by omega)])
  exact l_readWalk HO_ O 8 0 none 0 (fun _ => 0) _ (by omega) (by omega) (by omega) (fun a w => by cases w) (fun w => absurd w (by omega)) (H.congr HO_.2.1 (fun c k _ _ => fr c k (by omega))) (P.congr (fun c k w => fr c k (by omega))) (wr_eq _ _ _ _) (fun k hk => absurd hk (by omega)) (fun M' f w w2 => K1 M' f (fun c k v v2 => by rw [w c k v v2]; exact fr c k v) w2) (fun M' g w w2 w3 => K2 M' g (fun c k v v2 => by rw [w c k v v2]; exact fr c k v) w2 w3)
theorem flt_n0 : ∀ f, f < 81 → ¬ (-20 - nI f = 0) := by decide
