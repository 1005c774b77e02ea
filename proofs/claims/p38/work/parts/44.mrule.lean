/-! ===== the reference's THE RULE ===== -/
def own (d : Nat) : Nat := if d = 24 then 100 else d
