/-! ===== does, trip, guest, count ===== -/
def nth_ (f o : Nat → Nat) (v : Nat) : Nat → Nat → Nat → Option Nat
  | 0, _, _ => none
  | n + 1, k, l => if f (o k) = v then (if l = 0 then some (o k) else nth_ f o v n (k + 1) (l - 1)) else nth_ f o v n (k + 1) l
def ansO (d : Int32) : Option Nat → Int32
  | none => d
  | some e => nI e
theorem nth_c {f g o o' : Nat → Nat} {v : Nat} : ∀ {n k l : Nat}, (∀ i, k ≤ i → i < k + n → o i = o' i ∧ f (o i) = g (o i)) → nth_ f o v n k l = nth_ g o' v n k l := by
  intro n
  induction n with
  | zero => intro k l _; rfl
  | succ n ih =>
    intro k l hh
    have h1 := hh k (Nat.le_refl _) (by omega)
    simp only [nth_]
    rw [h1.2, h1.1, ih (fun i a b => hh i (by omega) (by omega)), ih (fun i a b => hh i (by omega) (by omega))]
theorem nth_lt {f o : Nat → Nat} {v E : Nat} : ∀ {n k l e : Nat}, (∀ i, k ≤ i → i < k + n → o i < E) → nth_ f o v n k l = some e → e < E := by
  intro n
  induction n with
  | zero => intro k l e _ q; simp [nth_] at q
  | succ n ih =>
    intro k l e hh q
    simp only [nth_] at q
    split at q
    · split at q
      · cases q; exact hh k (Nat.le_refl _) (by omega)
      · exact ih (fun i a b => hh i (by omega) (by omega)) q
    · exact ih (fun i a b => hh i (by omega) (by omega)) q
theorem ans_cl {r : Option Nat} (hr : ∀ e, r = some e → e < 100) {A : Int32 → Prop} (k : A (ansO (-4) r)) : (0 ≤ ansO (-1) r → A (ansO (-1) r)) ∧ (¬ 0 ≤ ansO (-1) r → A (-4)) := by
  cases r with
  | none => exact ⟨fun q => absurd q (by decide), fun _ => k⟩
  | some e => exact ⟨fun _ => k, fun q => absurd (nI_pos' (by have := hr e rfl; omega)) q⟩
