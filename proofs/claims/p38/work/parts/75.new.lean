/-! ===== what a constructor makes: an array of ints ===== -/
theorem wE_n {G : Dg} {B n n' : Nat} {kd : Nat → Kd} {R : Nat → Nat → Option Nat} {M : Mem} (c : Nat) : wE G B (n, kd, R, M) c = wE G B (n', kd, R, M) c := by
  unfold wE
  show (match kd c with | .inl ci => _ | .inr (.inl n) => _ | .inr (.inr n) => _) = (match kd c with | .inl ci => _ | .inr (.inl n) => _ | .inr (.inr n) => _)
  cases kd c with
  | inl ci => exact congrArg (fun x => Sum.inr (ci, x)) (wF_eq (fun j _ => ⟨rfl, rfl⟩))
  | inr x => cases x <;> rfl
theorem wl_succ {G : Dg} {B n : Nat} {kd : Nat → Kd} {R : Nat → Nat → Option Nat} {M : Mem} : wl G B (n + 1, kd, R, M) = wl G B (n, kd, R, M) ++ [(B + n, wE G B (n, kd, R, M) n)] := by
  unfold wl
  show List.map _ (List.range (n + 1)) = _
  rw [List.range_succ, List.map_append]
  show _ = List.map _ (List.range n) ++ _
  rw [show (fun c => (B + c, wE G B (n + 1, kd, R, M) c)) = (fun c => (B + c, wE G B (n, kd, R, M) c)) from funext fun c => by rw [wE_n c]]
  rfl
theorem pw_newa {d mc ms nc ns : Nat} {y : MD} {pc : Nat} {lv : List (Nat × Value)} {st : List Value} {Q : Option Value → Wd → Prop} {n L : Nat} {kd : Nat → Kd} {R : Nat → Nat → Option Nat} {M : Mem} {pc' : Nat} (hp : pc + 2 = pc') (hk : kd n = .inr (.inl L)) (hz : ∀ j, M n j = nI 0) (hL : L ≤ 1000) (hcells : nc + 1 ≤ mc) (hslots : ns + L ≤ ms) (hd : decode y.2.1 pc = .ok (.newarray .int, 2)) (ha : Cond.arrayClass .int ∈ tb) (k : PW d mc ms y (nc + 1) (ns + L) pc' lv (.ref n :: st) (n + 1, kd, R, M) Q) : PW d mc ms y nc ns pc lv (.int (nI L) :: st) (n, kd, R, M) Q := by
  subst hp
  intro p l e s m args below meth cd G B H locs ls C hK hP hS hB hl
  have hN : (nI L).toNatClampNeg = L := by
    show (nI L).toInt.toNat = L
    rw [nI_toInt (by omega)]; rfl
  refine va_newaK (atype := .int) C.1 C.2.1 (C.2.2.2.2.2.1 _ ha) (g := F0 m pc ls (.int (nI L) :: st.map (rv B))) rfl hd rfl (nI_pos (by omega)) hN (by show L * 4 ≤ _; omega) hcells hslots hP.2 (fun H1 cA e1 z1 o1 hAr hNm => ?_)
  have hc : cA = G.2.1 := by
    have h2 : s.vm.findClass ("[" ++ FieldType.int.toString) = some G.2.1 := (hK.2 0 (G.2.1, .int) rfl).2
    have h3 : s.vm.findClass ("[" ++ FieldType.int.toString) = some cA := hNm
    exact Option.some.inj (h3.symm.trans h2)
  subst hc
  have hk2 : ∀ (k9 : Nat) (x : Nat × va_E), (wl G B (n, kd, R, M))[k9]? = some x → H1[x.1]? = H[x.1]? := fun k9 x hx => o1 x.1 (by rw [← hP.2]; exact (hP.1 k9 x hx).lt)
  refine k p l e s m args below meth cd G B H1 locs ls C hK ⟨?_, ?_⟩ ⟨Nat.le_trans hS.1 (by rw [z1, hP.2]; omega), fun x h1 h2 => (o1 x (by rw [← hP.2]; exact Nat.lt_of_lt_of_le h1 hS.1)).trans (hS.2.1 x h1 h2), hS.2.2⟩ hB hl
  · rw [wl_succ]
    refine (hP.1.kept hk2).app (fun k9 x hx => ?_)
    have h0 : k9 < 1 := (List.getElem?_eq_some_iff.mp hx).1
    rw [show k9 = 0 by omega] at hx
    cases hx
    rw [wE_arr hk]
    show H1[B + n]? = some (vp_cell G.2.1 (L, .inl (M n)))
    rw [vp_cell_i, show (fun j => Value.int (M n j)) = fun _ => defaultValue .int from funext fun j => by rw [hz j]; rfl]
    exact e1
  · rw [z1]; rfl
