/-! ===== the class reads sayings ===== -/
def rowN (n : Nat) (tp : Nat → Nat) (p i : Nat) (row : Nat → Nat) : Nat → Nat := fun k =>
  if k = 4 * i then tp (sk n tp p) - 97 else if k = 4 * i + 1 then tp (sk n tp (sk n tp p + 1)) - 97 else if k = 4 * i + 2 then tp (sk n tp (sk n tp (sk n tp p + 1) + 1)) - 97 else if k = 4 * i + 3 then (nE n tp (sk n tp (sk n tp (sk n tp p + 1) + 1) + 1)).2 else row k
def syf (R F n : Nat) (tp : Nat → Nat) : Nat → Nat → Nat → (Nat → Nat) → Nat ⊕ (Nat × (Nat → Nat))
  | 0, _, _, _ => .inl 0
  | d + 1, p, i, row =>
    if ltB n tp F p = false then .inl (sk n tp p) else
    if ltB n tp F (sk n tp p + 1) = false then .inl (sk n tp (sk n tp p + 1)) else
    if ltB n tp R (sk n tp (sk n tp p + 1) + 1) = false then .inl (sk n tp (sk n tp (sk n tp p + 1) + 1)) else
    if nmB n tp 0 23 (sk n tp (sk n tp (sk n tp p + 1) + 1) + 1) = false then .inl (sk n tp (sk n tp (sk n tp (sk n tp p + 1) + 1) + 1)) else
    if sk n tp (nE n tp (sk n tp (sk n tp (sk n tp p + 1) + 1) + 1)).1 < n then
      if tp (sk n tp (nE n tp (sk n tp (sk n tp (sk n tp p + 1) + 1) + 1)).1) = 59 ∧ d ≠ 0 then
        syf R F n tp d (sk n tp (nE n tp (sk n tp (sk n tp (sk n tp p + 1) + 1) + 1)).1 + 1) (i + 1) (rowN n tp p i row)
      else .inl (sk n tp (nE n tp (sk n tp (sk n tp (sk n tp p + 1) + 1) + 1)).1)
    else .inr (i + 1, rowN n tp p i row)
