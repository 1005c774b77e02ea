/-! ===== the reference's inquiry ===== -/
def wM (w : Nat) : Int32 := if w < 12 then nI w else -4
theorem wM_eq {k w : Nat} (hk : k < 12) : (nI k = wM w) = (k = w) := by
  unfold wM
  by_cases q : w < 12
  · rw [if_pos q, n_eq (by omega) (by omega)]
  · rw [if_neg q]
    refine propext ⟨fun e => ?_, fun e => by omega⟩
    have := nI_pos (n := k) (by omega)
    rw [e] at this
    exact absurd (by decide) this
def dr (h : HS) (bk : Bool) (a b : Nat) : Bool := decide (h.2.2.2.1 a b = 1) || (bk && decide (h.2.2.2.1 a b = 2))
theorem dr_lt {h : HS} (O : HO h) {bk : Bool} {a b : Nat} (hd : dr h bk a b = true) : b < h.1 := by
  obtain ⟨_, _, _, o4, _, o6, _⟩ := O
  simp only [dr, Bool.or_eq_true, Bool.and_eq_true, decide_eq_true_eq] at hd
  exact o6 b a (by rw [o4 b a]; omega)
def exW (h : HS) (t : TS) (L : Nat → Bool) (w one : Nat) : Bool := anyN (wy h t L w one 0) h.1
theorem exW_iff {h : HS} {t : TS} {L : Nat → Bool} {w one : Nat} : exW h t L w one = true ↔ ∃ r, wy h t L w one 0 r = true := by
  unfold exW
  rw [anyN_iff]
  exact ⟨fun ⟨r, _, hr⟩ => ⟨r, hr⟩, fun ⟨r, hr⟩ => ⟨r, (fw_al (wy_fw (by omega) hr)).1, hr⟩⟩
