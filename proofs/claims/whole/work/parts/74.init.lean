/-! ===== both systems as the constructors leave them ===== -/
theorem Cpl_init {M : Mem} (z : ∀ c k, c ≠ 88 → c ≠ 206 → c ≠ 183 → ¬ (c = 182 ∧ k = 32) → M c k = nI 0) (z88 : ∀ k, k < 4 → M 88 k = -1) (z206 : ∀ k, k < 4 → M 206 k = -1) (z183 : ∀ k, k < 100 → M 183 k = -4) (z32 : M 182 32 = -4) : Cpl M := by
  have e0 : nI 0 = mk (fun _ => false) := mk_0
  refine ⟨(0, nI 0, 0, fun _ _ => 0, fun _ _ => 0), (0, 0, 0, fun _ => 0, fun _ => false, fun _ _ => 0), (0, fun _ => 0, 0, fun _ _ => 0, false, 0, 0, 0), 0, fun _ => 0, (fun _ => -1, fun _ => 0, fun _ _ => nI 0), (false, (0, nI 0, 0, fun _ _ => 0, fun _ _ => 0), (0, 0, 0, fun _ => 0, fun _ => false, fun _ _ => 0), (0, fun _ => 0, 0, fun _ _ => 0, false, 0, 0, 0)), ⟨?_, ?_, ?_, ?_, ?_, ?_, ?_, Or.inl (z _ _ (by omega) (by omega) (by omega) (by omega)), Or.inl (z _ _ (by omega) (by omega) (by omega) (by omega))⟩, ⟨?_, ?_, ?_, ?_, ?_, ?_, Or.inl (z _ _ (by omega) (by omega) (by omega) (by omega))⟩, ?_⟩
  · refine ⟨z _ _ (by omega) (by omega) (by omega) (by omega), z _ _ (by omega) (by omega) (by omega) (by omega), z _ _ (by omega) (by omega) (by omega) (by omega), fun a ha => ?_, fun a ha => ?_, fun g hg => absurd hg (Nat.not_lt_zero g)⟩
    · rw [z _ _ (by omega) (by omega) (by omega) (by omega), e0]; exact mk_ext (fun i _ => rfl)
    · rw [z _ _ (by omega) (by omega) (by omega) (by omega), e0]; exact mk_ext (fun i _ => rfl)
  · exact fun a ha => absurd ha (Nat.not_lt_zero a)
  · refine ⟨z _ _ (by omega) (by omega) (by omega) (by omega), ?_, z _ _ (by omega) (by omega) (by omega) (by omega), z _ _ (by omega) (by omega) (by omega) (by omega), fun i hi => absurd hi (Nat.not_lt_zero i), fun i hi => absurd hi (Nat.not_lt_zero i)⟩
    rw [z _ _ (by omega) (by omega) (by omega) (by omega), e0]
    exact mk_ext (fun i _ => by simp)
  · exact ⟨z _ _ (by omega) (by omega) (by omega) (by omega), z _ _ (by omega) (by omega) (by omega) (by omega), (z _ _ (by omega) (by omega) (by omega) (by omega)).trans bI_f.symm, fun w => absurd w (by decide), fun i hi => absurd hi (Nat.not_lt_zero i), fun i hi => absurd hi (Nat.not_lt_zero i)⟩
  · exact ⟨z _ _ (by omega) (by omega) (by omega) (by omega), fun i hi => absurd hi (Nat.not_lt_zero i)⟩
  · exact fun s hs => ⟨z88 s hs, z _ _ (by omega) (by omega) (by omega) (by omega), fun i _ => z _ _ (by omega) (by omega) (by omega) (by omega)⟩
  · exact ⟨(z _ _ (by omega) (by omega) (by omega) (by omega)).trans bI_f.symm, fun w => absurd w (by decide)⟩
  · exact ⟨z _ _ (by omega) (by omega) (by omega) (by omega), z _ _ (by omega) (by omega) (by omega) (by omega), z _ _ (by omega) (by omega) (by omega) (by omega), fun a ha b hb => z183 _ (by omega), fun g hg => absurd hg (Nat.not_lt_zero g)⟩
  · exact ⟨z _ _ (by omega) (by omega) (by omega) (by omega), z _ _ (by omega) (by omega) (by omega) (by omega), z _ _ (by omega) (by omega) (by omega) (by omega), fun i hi => absurd hi (Nat.not_lt_zero i), fun i hi => absurd hi (Nat.not_lt_zero i)⟩
  · exact ⟨z _ _ (by omega) (by omega) (by omega) (by omega), z _ _ (by omega) (by omega) (by omega) (by omega), z32, fun w => absurd w (by decide), fun i hi => absurd hi (Nat.not_lt_zero i), fun i hi => absurd hi (Nat.not_lt_zero i)⟩
  · exact ⟨z _ _ (by omega) (by omega) (by omega) (by omega), fun i hi => absurd hi (Nat.not_lt_zero i)⟩
  · exact fun s hs => ⟨z206 s hs, z _ _ (by omega) (by omega) (by omega) (by omega), fun i _ => z _ _ (by omega) (by omega) (by omega) (by omega)⟩
  · exact ⟨(z _ _ (by omega) (by omega) (by omega) (by omega)).trans bI_f.symm, fun w => absurd w (by decide)⟩
  · refine ⟨⟨Nat.zero_le _, Nat.zero_le _, fun _ _ => Nat.zero_le _, fun _ _ => rfl, fun _ => rfl, fun _ _ w => absurd rfl w, fun g hg => absurd hg (Nat.not_lt_zero g)⟩, ⟨Nat.zero_le _, Nat.zero_le _, Or.inr ⟨rfl, rfl, rfl⟩, fun i hi => absurd hi (Nat.not_lt_zero i), fun i hi => absurd hi (Nat.not_lt_zero i)⟩, ⟨Nat.zero_le _, Nat.zero_le _, fun i hi => absurd hi (Nat.not_lt_zero i), fun i hi => absurd hi (Nat.not_lt_zero i), fun w => absurd w (by decide)⟩, ⟨Nat.zero_le _, fun i hi => absurd hi (Nat.not_lt_zero i)⟩, fun s _ => ⟨Or.inl rfl, Nat.zero_le _⟩, fun w => absurd w (by decide)⟩
