def wkU (h : HS) (a b g u : Nat) : Bool := (decide (h.2.2.2.2 g u = a) && decide (h.2.2.2.2 g (u + 1) = b)) || (decide (h.2.2.2.2 g u = b) && decide (h.2.2.2.2 g (u + 1) = a))
def wkd (h : HS) (a b : Nat) : Bool := anyN (fun g => anyN (wkU h a b g) 23) h.2.2.1
theorem dk_ans {v : Nat} (hv : v ≤ 2) (h0 : v ≠ 0) : dkC v = dkI v := by
  rcases (show v = 1 ∨ v = 2 by omega) with q | q <;> subst q <;> rfl
/-! ===== the number of doors counts for nothing else ===== -/
def hD (h : HS) (d : Int32) : HS := (h.1, d, h.2.2)
theorem rc_D (h : HS) (d : Int32) (co : Bool) (a t : Nat) : ∀ j, rc (hD h d) co a t j = rc h co a t j := by
  intro j
  induction j with
  | zero => rfl
  | succ j ih =>
    show sp (hD h d) co (t + j) (rc (hD h d) co a t j) = sp h co (t + j) (rc h co a t j)
    rw [ih]; rfl
theorem ed_D (h : HS) (d : Int32) (co : Bool) (a t b : Nat) : ed (hD h d) co a t b = ed h co a t b := by
  unfold ed
  simp only [rc_D]
theorem tk_D (h : HS) (d : Int32) (s : SS) (e r t : Nat) : tk (hD h d) s e r t = tk h s e r t := by
  unfold tk
  simp only [ed_D]
theorem dn_D (h : HS) (d : Int32) (s : SS) (e r t : Nat) : dn (hD h d) s e r t = dn h s e r t := by
  unfold dn
  simp only [ed_D, tk_D]
theorem pos_D (h : HS) (d : Int32) (s : SS) (b o : Nat → Nat) : ∀ i v, pos (hD h d) s b o i v = pos h s b o i v := by
  intro i
  induction i with
  | zero => intro v; rfl
  | succ i ih => intro v; simp only [pos, ih, dn_D]
theorem cst_D (h : HS) (d : Int32) (s : SS) (b o : Nat → Nat) : ∀ i, cst (hD h d) s b o i = cst h s b o i := by
  intro i
  induction i with
  | zero => rfl
  | succ i ih => simp only [cst, dk_, ih, pos_D, dn_D]
theorem MV_D {h : HS} {d : Int32} {s : SS} {T : Nat → Bool} {v : Nat} (H : MV (hD h d) s T v) : MV h s T v := by
  unfold MV Cc at *
  simp only [cst_D] at H
  exact H
theorem setD_back {h : HS} (O : HO h) {a b v : Nat} (h0 : h.2.2.2.1 a b = 0) : setD (setD h.2.2.2.1 a b v) a b 0 = h.2.2.2.1 := by
  funext x y
  unfold setD
  by_cases q : (x = a ∧ y = b) ∨ (x = b ∧ y = a)
  · rw [if_pos q]
    rcases q with ⟨q1, q2⟩ | ⟨q1, q2⟩
    · rw [q1, q2, h0]
    · rw [q1, q2, O.2.2.2.1, h0]
  · rw [if_neg q, if_neg q]
