/-! ===== reading a walk ===== -/
def nE (n : Nat) (tp : Nat → Nat) (p : Nat) : Nat × Nat := dgs n tp (sk n tp p) 0
def dok (h : HS) : Option Nat → Nat → Bool
  | none, _ => true
  | some a, r => decide (h.2.2.2.1 a r = 1)
def wkf (h : HS) (n : Nat) (tp : Nat → Nat) : Nat → Nat → Option Nat → Nat → (Nat → Nat) → Nat ⊕ (Nat → Nat)
  | 0, p, _, _, _ => .inl (sk n tp p)
  | d + 1, p, ah, tot, pth =>
    if ltB n tp h.1 p = false then .inl (sk n tp p) else
    if dok h ah (tp (sk n tp p) - 97) = false then .inl (sk n tp p) else
    if nmB n tp 1 (24 - tot) (sk n tp p + 1) = false then .inl (sk n tp (sk n tp p + 1)) else
    if sk n tp (nE n tp (sk n tp p + 1)).1 < n then
      wkf h n tp d (sk n tp (nE n tp (sk n tp p + 1)).1) (some (tp (sk n tp p) - 97)) (tot + (nE n tp (sk n tp p + 1)).2) (fun k => if tot ≤ k then tp (sk n tp p) - 97 else pth k)
    else .inr (fun k => if tot ≤ k then tp (sk n tp p) - 97 else pth k)
def ahC : Option Nat → Int32
  | none => -1
  | some a => nI a
def ahM : Option Nat → Int32
  | none => -4
  | some a => nI a
theorem ltB_t {n : Nat} {tp : Nat → Nat} {L p : Nat} (h : ltB n tp L p = true) : sk n tp p < n ∧ 97 ≤ tp (sk n tp p) ∧ tp (sk n tp p) < 97 + L := of_decide_eq_true h
theorem nmB_t {n : Nat} {tp : Nat → Nat} {lo hi p : Nat} (h : nmB n tp lo hi p = true) : lo ≤ (nE n tp p).2 ∧ (nE n tp p).2 ≤ hi := by
  unfold nmB at h
  rw [Bool.and_eq_true] at h
  exact of_decide_eq_true h.2
theorem nE_bd {n : Nat} {tp : Nat → Nat} {p : Nat} (hp : p ≤ n) : p ≤ (nE n tp p).1 ∧ (nE n tp p).1 ≤ n := by
  have h1 := sk_bd (n := n) (tp := tp) _ p rfl hp
  have h2 := dgs_bd (n := n) (tp := tp) _ (sk n tp p) 0 rfl h1.2
  unfold nE
  omega
theorem l_fill19 {c a : Nat} (hc : IA c 24) {v : Int32} {Q : Mem → Prop} : ∀ d i M, 24 - i = d → a ≤ i → i ≤ 24 → (∀ M', (∀ c' k, ¬ (c' = c ∧ i ≤ k) → M' c' k = M c' k) → (∀ k, i ≤ k → k < 24 → M' c k = v) → Q M') → P_J7_fill_fda19_10 M c (nI 24) v (nI i) Q := by
  intro d
  induction d with
  | zero =>
    intro i M hd ha hi K
    refine T_J7_fill_fda19_10 hc ?_
    rw [n_le (by omega) (by omega)]
    exact ⟨fun _ => K M (fun _ _ _ => rfl) (fun k w w2 => absurd w (by omega)), fun w => absurd (by omega) w⟩
  | succ d ih =>
    intro i M hd ha hi K
    refine T_J7_fill_fda19_10 hc ?_
    rw [n_le (by omega) (by omega), vin (by omega), ix_n (by omega), n_add]
    refine ⟨fun w => absurd w (by omega), fun _ => ⟨by omega, ih (i + 1) _ (by omega) (by omega) (by omega) (fun M' f u => K M' (fun c' k w => by rw [f c' k (by omega)]; exact (by simp only [wr]; repeat rw [if_neg (by omega)])) (fun k w w2 => ?_))⟩⟩
    by_cases e : k = i
    · subst e; rw [f _ _ (by omega), wr_eq]
    · exact u k (by omega) w2
theorem s_fill19 {c a : Nat} (hc : IA c 24) (ha : a ≤ 24) {v : Int32} {M : Mem} {Q : Mem → Prop} (K : ∀ M', (∀ c' k, ¬ (c' = c ∧ a ≤ k) → M' c' k = M c' k) → (∀ k, a ≤ k → k < 24 → M' c k = v) → Q M') : C_J7_fill_fda19 M c (nI a) (nI 24) v Q := by
  refine T_J7_fill_fda19 hc (T_J7_rangeCheck_23922 ?_)
  rw [n_le (by omega) (by omega), n_le (by omega) (by omega)]
  exact ⟨fun _ => ⟨fun _ => ⟨fun _ => l_fill19 (a := a) hc _ a M rfl (by omega) ha K, fun w => absurd (by omega) w⟩, fun w => absurd ((n_ge0 (by omega)).mpr trivial) w⟩, fun w => absurd ha w⟩
theorem l_readWalk {h : HS} (HO_ : HO h) {n : Nat} {tp : Nat → Nat} (O : PO n tp) {Q : Int32 → Mem → Prop} : ∀ d p ah tot pth M, d ≤ 8 → p ≤ n → tot ≤ 24 → (∀ a, ah = some a → a < h.1) → (d = 0 → M 85 3 = nI (sk n tp p)) → HC 1 M h → PC M n tp → M 85 2 = nI p → (∀ k, k < tot → M 174 k = nI (pth k)) → (∀ M' f, (∀ c k, ¬ (c = 85 ∧ (k = 2 ∨ k = 3)) → c ≠ 174 → M' c k = M c k) → wkf h n tp d p ah tot pth = .inl f → Q (-20 - nI f) M') → (∀ M' g, (∀ c k, ¬ (c = 85 ∧ (k = 2 ∨ k = 3)) → c ≠ 174 → M' c k = M c k) → wkf h n tp d p ah tot pth = .inr g → (∀ k, k < 24 → M' 174 k = nI (g k)) → Q (nI 0) M') → P_X7_readWalk_1_13 M 174 (ahC ah) (nI tot) (nI (8 - d)) Q := by
  have hn := O.1
  have hR := HO_.1
  intro d
  induction d with
  | zero =>
    intro p ah tot pth M hd hp ht hah h3 H P e2 G K1 K2
    refine T_X7_readWalk_1_13 ia_174 ?_
    rw [n_le (by omega) (by omega)]
    refine ⟨fun _ => T_X7_fault ?_, fun w => absurd (by omega) w⟩
    rw [h3 rfl]
    exact K1 M _ (fun _ _ _ _ => rfl) rfl
  | succ d ih =>
    intro p ah tot pth M hd hp ht hah h3 H P e2 G K1 K2
    have hb := sk_bd (n := n) (tp := tp) _ p rfl hp
    refine T_X7_readWalk_1_13 ia_174 ?_
    rw [n_le (by omega) (by omega), H.1, n_sub ht]
    refine ⟨fun w => absurd w (by omega), fun _ => s_letter O hR hp P e2 (fun q1 M1 f1 g1 g2 => ?_) (fun q1 M1 f1 g2 => ⟨fun _ => T_X7_fault ?_, fun w => absurd (by decide) w⟩)⟩
    · have l1 := ltB_t q1
      have b1 := sk_bd (n := n) (tp := tp) _ (sk n tp p + 1) rfl (by omega)
      have b2 := nE_bd (n := n) (tp := tp) (p := sk n tp p + 1) (by omega)
      have b3 := sk_bd (n := n) (tp := tp) _ (nE n tp (sk n tp p + 1)).1 rfl b2.2
      have H1 : HC 1 M1 h := H.congr HO_.2.1 (fun c k _ _ => f1 c k (by omega))
      have P1 : PC M1 n tp := P.congr (fun c k w => f1 c k (by omega))
      have cont : dok h ah (tp (sk n tp p) - 97) = true → C_X7_number M1 (nI 1) (nI (24 - tot)) (fun r6 M6 => ((0 ≤ r6) → (C_J7_fill_fda19 M6 174 (nI tot) (nI 24) (nI (tp (sk n tp p) - 97)) (fun M8 => C_X7_peek M8 (fun r9 M9 => ((0 ≤ r9) → (P_X7_readWalk_1_13 M9 174 (nI (tp (sk n tp p) - 97)) ((nI tot) + r6) ((nI (8 - (d + 1))) + (nI 1)) Q)) ∧ ((¬ 0 ≤ r9) → (Q (nI 0) M9)))))) ∧ ((¬ 0 ≤ r6) → (C_X7_fault M6 (fun r8 M8 => Q r8 M8)))) := by
        intro q2
        refine s_number O (by omega) (by omega) (by omega) P1 g1 (fun q3 M2 f2 g3 g4 => ⟨fun _ => s_fill19 ia_174 ht (fun M3 f3 u3 => ?_), fun w => absurd ((n_ge0 ?_).mpr trivial) w⟩) (fun q3 M2 f2 g4 => ⟨fun w => absurd w (by decide), fun _ => T_X7_fault ?_⟩)
        · have b4 := nmB_t q3
          have g3 : M2 85 2 = nI (nE n tp (sk n tp p + 1)).1 := g3
          refine s_peek O b2.2 (P1.congr (fun c k w => by rw [f3 c k (by omega), f2 c k (by omega)])) (by rw [f3 _ _ (by omega)]; exact g3) (fun M4 f4 g5 g6 => ?_)
          have fr : ∀ c k, ¬ (c = 85 ∧ (k = 2 ∨ k = 3)) → c ≠ 174 → M4 c k = M c k := fun c k w w2 => by rw [f4 c k w, f3 c k (by omega), f2 c k w, f1 c k w]
          have pt : ∀ k, k < 24 → M4 174 k = nI (if tot ≤ k then tp (sk n tp p) - 97 else pth k) := fun k hk => by
            rw [f4 _ _ (by omega)]
            by_cases w : tot ≤ k
            · rw [if_pos w]; exact u3 k w hk
            · rw [if_neg w, f3 _ _ (by omega), f2 _ _ (by omega), f1 _ _ (by omega)]; exact G k (by omega)
          by_cases q4 : sk n tp (nE n tp (sk n tp p + 1)).1 < n
          · have tb := O.2 _ q4
            have ew : wkf h n tp (d + 1) p ah tot pth = wkf h n tp d (sk n tp (nE n tp (sk n tp p + 1)).1) (some (tp (sk n tp p) - 97)) (tot + (nE n tp (sk n tp p + 1)).2) (fun k => if tot ≤ k then tp (sk n tp p) - 97 else pth k) := by
              rw [wkf, if_neg (by rw [q1]; decide), if_neg (by rw [q2]; decide), if_neg (by rw [q3]; decide), if_pos q4]
            rw [if_pos q4]
            refine ⟨fun _ => ?_, fun w => absurd ((n_ge0 (by omega)).mpr trivial) w⟩
            rw [n_add (8 - (d + 1)) 1, show 8 - (d + 1) + 1 = 8 - d by omega]
            show P_X7_readWalk_1_13 M4 174 (ahC (some (tp (sk n tp p) - 97))) (nI tot + nI (nE n tp (sk n tp p + 1)).2) (nI (8 - d)) Q
            rw [n_add]
            refine ih _ _ _ (fun k => if tot ≤ k then tp (sk n tp p) - 97 else pth k) M4 (by omega) b3.2 (by omega) (fun a w => ?_) (fun _ => ?_) (H.congr HO_.2.1 (fun c k _ _ => fr c k (by omega) (by omega))) (P.congr (fun c k w => fr c k (by omega) (by omega))) g5 (fun k hk => pt k (by omega)) (fun M' f w w2 => K1 M' f (fun c k v v2 => by rw [w c k v v2]; exact fr c k v v2) (ew.trans w2)) (fun M' g w w2 => K2 M' g (fun c k v v2 => by rw [w c k v v2]; exact fr c k v v2) (ew.trans w2))
            · cases w; omega
            · rw [sk_sk _ _ rfl]; exact g6
          · rw [if_neg q4]
            refine ⟨fun w => absurd w (by decide), fun _ => K2 M4 _ fr ?_ pt⟩
            rw [wkf, if_neg (by rw [q1]; decide), if_neg (by rw [q2]; decide), if_neg (by rw [q3]; decide), if_neg q4]
        · have b4 := nmB_t q3
          show (nE n tp (sk n tp p + 1)).2 < 2147483648
          omega
        · rw [g4]
          refine K1 M2 _ (fun c k w _ => by rw [f2 c k w, f1 c k w]) ?_
          rw [wkf, if_neg (by rw [q1]; decide), if_neg (by rw [q2]; decide), if_pos q3]
      refine ⟨fun w => absurd w (nI_pos (by omega)), fun _ => ?_⟩
      cases ah with
      | none => exact ⟨fun _ => cont rfl, fun w => absurd (show (-1 : Int32) < 0 by decide) w⟩
      | some a =>
        have ha := hah a rfl
        refine ⟨fun w => absurd w (nI_pos (by omega)), fun _ => s_doorKind HO_ H1 (a := a) (b := tp (sk n tp p) - 97) (by omega) (by omega) ⟨fun w => cont (decide_eq_true ?_), fun w => T_X7_fault ?_⟩⟩
        · have hk := HO_.2.2.1 a (tp (sk n tp p) - 97)
          rcases (show h.2.2.2.1 a (tp (sk n tp p) - 97) = 0 ∨ h.2.2.2.1 a (tp (sk n tp p) - 97) = 1 ∨ h.2.2.2.1 a (tp (sk n tp p) - 97) = 2 by omega) with v | v | v
          · rw [v] at w; exact absurd w (by decide)
          · exact v
          · rw [v] at w; exact absurd w (by decide)
        · rw [g2]
          refine K1 M1 _ (fun c k w _ => f1 c k w) ?_
          rw [wkf, if_neg (by rw [q1]; decide), if_pos]
          refine decide_eq_false (fun v => w ?_)
          rw [v]; decide
    · rw [g2]
      refine K1 M1 _ (fun c k w _ => f1 c k w) ?_
      rw [wkf, if_pos q1]
