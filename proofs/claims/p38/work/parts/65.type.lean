/-! ===== typing ===== -/
def by_ (a : Int64) (i : Nat) : Int32 := ((a >>> ((nI 8 * nI i).toInt64 &&& 63)).toInt32) &&& nI 255
theorem byte_b (X : Int64) : 0 ≤ (X &&& 255).toInt ∧ (X &&& 255).toInt ≤ 255 := by
  have h : (X &&& 255).toBitVec.toNat ≤ 255 := by
    rw [Int64.toBitVec_and, BitVec.toNat_and]; exact Nat.and_le_right
  have e : (X &&& 255).toInt = ((X &&& 255).toBitVec.toNat : Int) := by
    show (X &&& 255).toBitVec.toInt = _
    exact BitVec.toInt_eq_toNat_of_lt (by omega)
  omega
theorem byte_e (X : Int64) : (X &&& 255).toInt32 = X.toInt32 &&& nI 255 := Int64.toInt32_and ..
theorem byte_i (X : Int64) : (X.toInt32 &&& nI 255).toInt = (X &&& 255).toInt := by
  have := byte_b X
  rw [← byte_e, Int64.toInt_toInt32]
  exact Int.bmod_eq_of_le (by omega) (by omega)
def bt8 (a : Int64) (i : Nat) : Nat := ix (by_ a i)
theorem by_n (a : Int64) (i : Nat) : by_ a i = nI (bt8 a i) ∧ bt8 a i ≤ 255 := by
  have h := byte_b (a >>> ((nI 8 * nI i).toInt64 &&& 63))
  have e : (by_ a i).toInt = _ := byte_i (a >>> ((nI 8 * nI i).toInt64 &&& 63))
  obtain ⟨y, hy, e2⟩ := nI_of (x := by_ a i) (fun w => by rw [Int32.lt_iff_toInt_lt, Int32.toInt_zero] at w; omega)
  have e3 : bt8 a i = y := by unfold bt8; rw [e2, ix_n hy]
  rw [e3]
  refine ⟨e2, ?_⟩
  rw [e2, nI_toInt hy] at e
  omega
theorem by_in (a : Int64) (i : Nat) : (decide ((32 : Int64) ≤ ((a >>> ((nI 8 * nI i).toInt64 &&& 63)) &&& (255 : Int64))) && decide (((a >>> ((nI 8 * nI i).toInt64 &&& 63)) &&& (255 : Int64)) ≤ (126 : Int64))) = (decide (32 ≤ bt8 a i) && decide (bt8 a i ≤ 126)) := by
  have e : (by_ a i).toInt = _ := byte_i (a >>> ((nI 8 * nI i).toInt64 &&& 63))
  obtain ⟨e2, e3⟩ := by_n a i
  rw [e2, nI_toInt (by omega)] at e
  apply b_of
  simp only [Bool.and_eq_true, decide_eq_true_eq, Int64.le_iff_toInt_le, ← e, show (32 : Int64).toInt = 32 from rfl, show (126 : Int64).toInt = 126 from rfl]
  omega
def ty (a : Int64) : Nat → Nat → (Nat → Nat) → (Nat → Nat)
  | 0, L, tp => up_ tp L (bt8 a 0)
  | i + 1, L, tp => ty a i (L + 1) (up_ tp L (bt8 a (i + 1)))
theorem PC_add {M : Mem} {L : Nat} {tp : Nat → Nat} (P : PC M L tp) (b : Nat) : PC (wr (wr M 86 L (nI b)) 85 0 (nI (L + 1))) (L + 1) (up_ tp L b) := by
  refine ⟨wr_eq _ _ _ _, fun i hi => ?_⟩
  rw [wr_nc _ _ _ _ (by omega)]
  by_cases e : i = L
  · subst e; rw [wr_eq, up_eq]
  · rw [wr_nk _ _ _ _ (by omega), up_ne _ _ e]; exact P.2 i (by omega)
theorem PM_add {M : Mem} {L : Nat} {tp : Nat → Nat} (P : PM M L tp) (b : Nat) : PM (wr (wr M 185 L (nI b)) 182 7 (nI (L + 1))) (L + 1) (up_ tp L b) := by
  refine ⟨wr_eq _ _ _ _, fun i hi => ?_⟩
  rw [wr_nc _ _ _ _ (by omega)]
  by_cases e : i = L
  · subst e; rw [wr_eq, up_eq]
  · rw [wr_nk _ _ _ _ (by omega), up_ne _ _ e]; exact P.2 i (by omega)
theorem PO_add {L : Nat} {tp : Nat → Nat} (P : PO L tp) (hL : L < 80) {b : Nat} (h1 : 32 ≤ b) (h2 : b ≤ 126) : PO (L + 1) (up_ tp L b) := by
  refine ⟨by omega, fun i hi => ?_⟩
  by_cases e : i = L
  · subst e; rw [up_eq]; exact ⟨h1, h2⟩
  · rw [up_ne _ _ e]; exact P.2 i (by omega)
theorem PO_ty (a : Int64) : ∀ i L tp, PO L tp → L + i + 1 ≤ 80 → (∀ k, k ≤ i → 32 ≤ bt8 a k ∧ bt8 a k ≤ 126) → PO (L + i + 1) (ty a i L tp) := by
  intro i
  induction i with
  | zero => intro L tp P h1 h2; exact PO_add P (by omega) (h2 0 (by omega)).1 (h2 0 (by omega)).2
  | succ i ih =>
    intro L tp P h1 h2
    have := ih (L + 1) _ (PO_add P (by omega) (h2 (i + 1) (by omega)).1 (h2 (i + 1) (by omega)).2) (by omega) (fun k hk => h2 k (by omega))
    rw [show L + 1 + i + 1 = L + (i + 1) + 1 by omega] at this
    exact this
theorem m1_lt : nI 0 + (-1) < 0 := by decide
theorem l_add71 (a : Int64) {Q : Int32 → Mem → Prop} : ∀ i L tp M, PC M L tp → L + i + 1 ≤ 80 → (∀ M', (∀ c k, ¬ (c = 86 ∨ (c = 85 ∧ k = 0)) → M' c k = M c k) → PC M' (L + i + 1) (ty a i L tp) → Q (nI (L + i + 1)) M') → P_X7_add_71 M a (nI i) Q := by
  intro i
  induction i with
  | zero =>
    intro L tp M P hL K
    refine T_X7_add_71 ⟨fun w => absurd w (nI_pos (by omega)), fun _ => T_X7_byteOf ?_⟩
    show vp_in (M 85 0) 80 ∧ (P_X7_add_71 (wr (wr M 86 (ix (M 85 0)) (by_ a 0)) 85 0 ((M 85 0) + (nI 1))) a (nI 0 + (-1)) Q)
    rw [P.1, (by_n a 0).1, n_add, ix_n (by omega), vin (by omega)]
    have P' := PC_add P (bt8 a 0)
    refine ⟨by omega, T_X7_add_71 ⟨fun _ => ?_, fun w => absurd m1_lt w⟩⟩
    rw [wr_eq]
    exact K _ (fun c k w => (by simp only [wr]; repeat rw [if_neg (by omega)])) P'
  | succ i ih =>
    intro L tp M P hL K
    refine T_X7_add_71 ⟨fun w => absurd w (nI_pos (by omega)), fun _ => T_X7_byteOf ?_⟩
    show vp_in (M 85 0) 80 ∧ (P_X7_add_71 (wr (wr M 86 (ix (M 85 0)) (by_ a (i + 1))) 85 0 ((M 85 0) + (nI 1))) a (nI (i + 1) + (-1)) Q)
    rw [P.1, (by_n a (i + 1)).1, n_add, ix_n (by omega), vin (by omega), n_m1 (by omega)]
    refine ⟨by omega, ih (L + 1) _ _ (PC_add P (bt8 a (i + 1))) (by omega) (fun M' f u => ?_)⟩
    rw [show L + 1 + i + 1 = L + (i + 1) + 1 by omega] at u ⊢
    exact K M' (fun c k w => by rw [f c k w]; exact (by simp only [wr]; repeat rw [if_neg (by omega)])) u
theorem l_add16 {M : Mem} (a : Int64) {m : Nat} (hm : m ≤ 8) {Q : Int32 → Mem → Prop} : ∀ d i, m - i = d → i ≤ m → ((∃ k, k < m ∧ ¬ (32 ≤ bt8 a k ∧ bt8 a k ≤ 126)) → Q (-1) M) → ((∀ k, i ≤ k → k < m → 32 ≤ bt8 a k ∧ bt8 a k ≤ 126) → ((((M 85 0) + nI m) ≤ (nI 80)) → (P_X7_add_71 M a (nI m - (nI 1)) Q)) ∧ ((¬ ((M 85 0) + nI m) ≤ (nI 80)) → (Q (-3) M))) → P_X7_add_16 M a (nI m) (nI i) Q := by
  intro d
  induction d with
  | zero =>
    intro i hd hi k1 k2
    refine T_X7_add_16 ?_
    rw [n_le (by omega) (by omega)]
    exact ⟨fun _ => k2 (fun k w w2 => absurd w (by omega)), fun w => absurd (by omega) w⟩
  | succ d ih =>
    intro i hd hi k1 k2
    refine T_X7_add_16 ?_
    rw [n_le (by omega) (by omega)]
    refine ⟨fun w => absurd w (by omega), fun _ => T_X7_byteOf ?_⟩
    show (by_ a i < nI 32 → _) ∧ (¬ by_ a i < nI 32 → (by_ a i ≤ nI 126 → _) ∧ (¬ by_ a i ≤ nI 126 → _))
    obtain ⟨e1, e2⟩ := by_n a i
    rw [e1, n_lt (by omega) (by omega), n_le (by omega) (by omega), n_add]
    refine ⟨fun w => k1 ⟨i, by omega, by omega⟩, fun w => ⟨fun w2 => ih (i + 1) (by omega) (by omega) k1 (fun u => k2 (fun k v v2 => ?_)), fun w2 => k1 ⟨i, by omega, by omega⟩⟩⟩
    by_cases e : k = i
    · subst e; omega
    · exact u k (by omega) v2
