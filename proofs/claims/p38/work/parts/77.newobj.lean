/-! ===== what a constructor makes: an object ===== -/
def f0L (bs : List Bool) : List Value := bs.map fun b => if b then Value.null else .int (nI 0)
theorem wF_0 {B : Nat} {w : Wd} {c : Nat} (bs : List Bool) : ∀ k : Nat, (∀ j, w.2.2.1 c j = none ∧ w.2.2.2 c j = nI 0) → wF B w c k bs = f0L bs := by
  induction bs with
  | nil => intro k h; rfl
  | cons b bs ih =>
    intro k h
    show (if b then rf B (w.2.2.1 c k) else .int (w.2.2.2 c k)) :: wF B w c (k + 1) bs = (if b then Value.null else .int (nI 0)) :: f0L bs
    rw [ih (k + 1) h, (h k).1, (h k).2]
    cases b <;> rfl
theorem pw_new {d mc ms nc ns : Nat} {y : MD} {pc : Nat} {lv : List (Nat × Value)} {st : List Value} {Q : Option Value → Wd → Prop} {n N ci index : Nat} {Cn : String} {T : u_T} {kd : Nat → Kd} {R : Nat → Nat → Option Nat} {M : Mem} {pc' : Nat} (hp : pc + 3 = pc') (hk : kd n = .inl ci) (hc : vwCl[ci]? = some (Cn, T, N)) (hin : ∀ w ∈ u_ws Cn T N, w ∈ tb) (ty : Nat → FieldType) (hty : ∀ k, k < N → parseFieldDescriptor (T k).2.2.1 = some (ty k)) (hfs : ∀ j, j < N → defaultValue (ty j) = vp_V (f0L (cfl ci)) j) (hw : ∀ j, R n j = none ∧ M n j = nI 0) (hcells : nc + 1 ≤ mc) (hslots : ns + N ≤ ms) (hd : decode y.2.1 pc = .ok (.new index, 3)) (hcl : Cond.classLink y.1.cls index Cn ∈ tb) (hinst : Cond.instantiable Cn N ∈ tb) (hini : Cond.initialized Cn ∈ tb) (k : PW d mc ms y (nc + 1) (ns + N) pc' lv (.ref n :: st) (n + 1, kd, R, M) Q) : PW d mc ms y nc ns pc lv st (n, kd, R, M) Q := by
  subst hp
  intro p l e s m args below meth cd G B H locs ls C hK hP hS hB hl
  have hKn := hK.1 ci _ hc
  have hts := C.2.2.2.2.2.1
  refine W.newcK C.1 C.2.1 C.2.2.2.2.1 (hts _ hcl) (hts _ hinst) (hts _ hini) rfl hd hcells hslots hKn.2.1 hP.2 fun H1 kC hkC e1 z1 o1 => ?_
  have hk2 : ∀ (k9 : Nat) (x : Nat × va_E), (wl G B (n, kd, R, M))[k9]? = some x → H1[x.1]? = H[x.1]? := fun k9 x hx => o1 x.1 (by rw [← hP.2]; exact (hP.1 k9 x hx).lt)
  refine k p l e s m args below meth cd G B H1 locs ls C hK ⟨?_, ?_⟩ ⟨Nat.le_trans hS.1 (by rw [z1, hP.2]; omega), fun x h1 h2 => (o1 x (by rw [← hP.2]; exact Nat.lt_of_lt_of_le h1 hS.1)).trans (hS.2.1 x h1 h2), hS.2.2⟩ hB hl
  · rw [wl_succ]
    refine (hP.1.kept hk2).app (fun k9 x hx => ?_)
    have h0 : k9 < 1 := (List.getElem?_eq_some_iff.mp hx).1
    rw [show k9 = 0 by omega] at hx
    cases hx
    rw [wE_obj hk, wF_0 _ _ hw]
    exact ⟨_, hc, (u_born ty hts hin hKn hkC e1 hty).to hfs⟩
  · rw [z1]; rfl
