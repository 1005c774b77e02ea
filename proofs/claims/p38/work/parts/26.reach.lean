/-! ===== the reference's steps and ends ===== -/
theorem n_d {a d : Nat} (h : a < 2147483648 ∧ 0 < d ∧ d < 2147483648) : nI a / nI d = nI (a / d) := pk_div h.1 h.2.1 h.2.2
theorem n_r {a d : Nat} (h : a < 2147483648 ∧ 0 < d ∧ d < 2147483648) : nI a - nI a / nI d * nI d = nI (a % d) := pk_rem h.1 h.2.1 h.2.2
theorem dkI_neg (n : Nat) : (dkI n < 0) = (n = 0) := by
  rcases n with _ | _ | n
  · exact propext ⟨fun _ => rfl, fun _ => by decide⟩
  · exact propext ⟨fun q => absurd q (by decide), fun q => by cases q⟩
  · exact propext ⟨fun q => absurd (show nI 1 < 0 from q) (by decide), fun q => by cases q⟩
theorem dkI_pos (n : Nat) : (0 ≤ dkI n) = (n ≠ 0) := by
  rcases n with _ | _ | n
  · exact propext ⟨fun q => absurd q (by decide), fun q => absurd rfl q⟩
  · exact propext ⟨fun _ => by omega, fun _ => by decide⟩
  · exact propext ⟨fun _ => by omega, fun _ => show 0 ≤ nI 1 by decide⟩
theorem bI_01' (b : Bool) : b = false ∨ bI b = 1 := by cases b <;> decide
theorem pa_lt {h : HS} (O : HO h) {g t : Nat} (hg : g < h.2.2.1) (ht : t < 24) : h.2.2.2.2 g t < 10 := by
  have := O.2.2.2.2.2.2 g hg t ht
  have := O.1
  omega
theorem HM.only {M M' : Mem} {h : HS} (H : HM M h) (c0 : Nat) (hc : 185 ≤ c0) (e : ∀ c k, c ≠ c0 → M' c k = M c k) : HM M' h := H.congr (fun c k q => e c k (by omega))
