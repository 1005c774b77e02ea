/-! ===== what a constructor makes: rows of ints ===== -/
theorem outer_eq (c : ClassId) (N h0 : Nat) : ∀ i : Nat, Jvm.Free.Multi.outerC c N h0 i = arrV c N (fun j => va_rf (if j < i then some (h0 + 1 + j) else none))
  | 0 => by
    show ({ cls := c, slots := Array.replicate N .null, vm := .none } : Cell) = _
    rw [arrV_new]
    exact congrArg (arrV c N) (funext fun j => by simp [va_rf])
  | i + 1 => by
    show (Jvm.Free.Multi.outerC c N h0 i).setSlot i (.ref (h0 + 1 + i)) = _
    rw [outer_eq c N h0 i, arrV_store]
    refine congrArg (arrV c N) (funext fun j => ?_)
    by_cases e : j = i
    · subst e; simp [updV, va_rf]
    · by_cases h : j < i
      · simp [updV, e, h, Nat.lt_succ_of_lt h]
      · simp [updV, e, h, show ¬ j < i + 1 by omega]
theorem nI_clp {L : Nat} (h : L ≤ 1000) : (nI L).toNatClampNeg = L := by
  show (nI L).toInt.toNat = L
  rw [nI_toInt (by omega)]; rfl
theorem pw_mna {d mc ms nc ns : Nat} {y : MD} {pc : Nat} {lv : List (Nat × Value)} {st : List Value} {Q : Option Value → Wd → Prop} {n N K index : Nat} {kd : Nat → Kd} {R : Nat → Nat → Option Nat} {M : Mem} {pc' : Nat} (hp : pc + 4 = pc') (hk : kd n = .inr (.inr N)) (hi : ∀ i, i < N → kd (n + 1 + i) = .inr (.inl K)) (hR : ∀ j, R n j = if j < N then some (n + 1 + j) else none) (hz : ∀ i, i < N → ∀ j, M (n + 1 + i) j = nI 0) (hN : N ≤ 1000) (hL : K ≤ 1000) (hcells : nc + (1 + N) ≤ mc) (hslots : ns + (N + N * K) ≤ ms) (hd : decode y.2.1 pc = .ok (.multianewarray index 2, 4)) (hcl : Cond.classLink y.1.cls index ("[" ++ (FieldType.array .int).toString) ∈ tb) (hov : Cond.arrayOver (.array .int) ∈ tb) (ha : Cond.arrayClass .int ∈ tb) (k : PW d mc ms y (nc + 1 + N) (ns + N + N * K) pc' lv (.ref n :: st) (n + 1 + N, kd, R, M) Q) : PW d mc ms y nc ns pc lv (.int (nI K) :: .int (nI N) :: st) (n, kd, R, M) Q := by
  subst hp
  intro p l e s m args below meth cd G B H locs ls C hK hP hS hB hl T hT Xs
  have hN' := nI_clp hN
  have hL' := nI_clp hL
  obtain ⟨vm₁, cA, comp, -, fA, fC, -, -, X', step⟩ := Xs.multianewarray2F C.1 C.2.2.2.2.1 (C.2.2.2.2.2.1 _ hcl) (C.2.2.2.2.2.1 _ hov) (C.2.2.2.2.2.1 _ ha) (g := F0 m pc ls (.int (nI K) :: .int (nI N) :: st.map (rv B))) rfl (by rw [C.2.1]; exact hd) rfl (nI_pos (by omega)) (nI_pos (by omega)) (by rw [hN']; omega) (by rw [hL']; show K * 4 ≤ _; omega) (by rw [hL']; omega) rfl rfl (by rw [hN']; exact hcells) (by rw [hN', hL']; exact hslots)
  rw [hN', hL'] at X' step
  have h1 : comp = G.2.1 := by
    have h2 : s.vm.findClass ("[" ++ FieldType.int.toString) = some G.2.1 := (hK.2 0 (G.2.1, .int) rfl).2
    have h3 : s.vm.findClass ("[" ++ FieldType.int.toString) = some comp := fC
    exact Option.some.inj (h3.symm.trans h2)
  have h2 : cA = G.2.2 := by
    have h2 : s.vm.findClass ("[" ++ (FieldType.array .int).toString) = some G.2.2 := (hK.2 1 (G.2.2, .array .int) rfl).2
    exact Option.some.inj (fA.symm.trans h2)
  subst h1
  subst h2
  generalize hF : Jvm.Free.Multi.fill (T.setVm vm₁) G.2.2 G.2.1 N K (defaultValue .int) N = F at X' step
  have hTh : (T.setVm vm₁).heap = H := hT
  obtain ⟨f1, f2, -, -⟩ := Jvm.Free.Multi.fill_facts (T.setVm vm₁) G.2.2 G.2.1 N K (defaultValue .int) N
  rw [hF, hTh] at f1 f2
  have hold : ∀ x : Nat, x < H.size → F.heap[x]? = H[x]? := fun x hx => by
    have := Jvm.Free.Multi.fill_old (T.setVm vm₁) G.2.2 G.2.1 N K (defaultValue .int) (a := x) (by rw [hTh]; exact hx) N
    rw [hF, hTh] at this
    exact this
  have hrow : ∀ j : Nat, j < N → F.heap[H.size + 1 + j]? = some (Jvm.Free.Multi.innerC G.2.1 K (defaultValue .int)) := fun j hj => by
    have := Jvm.Free.Multi.fill_inner (T.setVm vm₁) G.2.2 G.2.1 N K (defaultValue .int) N j hj
    rw [hF, hTh] at this
    exact this
  rw [outer_eq] at f2
  have hPk : va_P G.1 vwCl (wl G B (n, kd, R, M)) F.heap := hP.1.kept (fun k9 x hx => hold x.1 ((hP.1 k9 x hx).lt))
  have hz2 : H.size = B + n := hP.2
  have P2 : va_P G.1 vwCl (wl G B (n + 1 + N, kd, R, M)) F.heap := by
    intro k9 x hx
    have h9 : k9 < n + 1 + N := by
      have := (List.getElem?_eq_some_iff.mp hx).1
      rw [wl_len] at this
      exact this
    rw [wl_get h9] at hx
    cases hx
    by_cases w : k9 < n
    · have := hPk k9 _ (wl_get w)
      rw [wE_n (n' := n + 1 + N)] at this
      exact this
    by_cases w2 : k9 = n
    · subst w2
      rw [wE_rarr hk]
      show F.heap[B + k9]? = some (vp_cell G.2.2 (N, .inr (.inr (.inr (.inr _)))))
      rw [vp_cell_q, ← hz2, f2]
      refine congrArg (fun f => some (arrV G.2.2 N f)) (funext fun j => congrArg va_rf ?_)
      show _ = (R k9 j).map _
      rw [hR]
      by_cases w3 : j < N
      · rw [if_pos w3, if_pos w3, hz2]
        show some _ = some (B + (k9 + 1 + j))
        rw [show B + k9 + 1 + j = B + (k9 + 1 + j) by omega]
      · rw [if_neg w3, if_neg w3]; rfl
    · obtain ⟨i, rfl⟩ : ∃ i, k9 = n + 1 + i := ⟨k9 - (n + 1), by omega⟩
      rw [wE_arr (hi i (by omega))]
      show F.heap[B + (n + 1 + i)]? = some (vp_cell G.2.1 (K, .inl (M (n + 1 + i))))
      rw [vp_cell_i, show B + (n + 1 + i) = H.size + 1 + i by omega, hrow i (by omega), show (fun j => Value.int (M (n + 1 + i) j)) = fun _ => defaultValue .int from funext fun j => by rw [hz i (by omega) j]; rfl]
      exact congrArg some (arrV_new _ _ _)
  obtain ⟨t, a1, b1⟩ := k p l e s m args below meth cd G B F.heap locs ls C hK ⟨P2, by rw [f1, hz2]; show _ = B + (n + 1 + N); omega⟩ ⟨by rw [f1]; have := hS.1; omega, fun x h1 h2 => (hold x (Nat.lt_of_lt_of_le h1 hS.1)).trans (hS.2.1 x h1 h2), hS.2.2⟩ hB hl F rfl X'
  refine ⟨t, step t ?_, b1⟩
  have e : T.heap.size = B + n := by rw [← hz2, ← hT]
  rw [e]
  exact a1
