/-! ===== the constructors: a judgement that holds the words of private constructors (nest mates) beside ===== -/
def NWl : List Cond := [.methodLinkNest RX9 9 yX0_init RX9, .methodLinkNest RX9 18 yX5_init RX9, .methodLinkNest RX9 25 yX6_init RX9, .methodLinkNest RX9 41 yX7_init RX9, .methodLinkNest RX3 11 yX2_init RX9]
def NW (U : State) : Prop := (∀ w ∈ NWl, va_Nw w U) ∧ (Cond.arrayOver (.array .int)).before #[] U = true
theorem ao_vm {u U : State} (h : u.vm.Alike U.vm) (k : (Cond.arrayOver (.array .int)).before #[] u = true) : (Cond.arrayOver (.array .int)).before #[] U = true := by
  have e : (Cond.arrayOver (.array .int)).before #[] (u.setVm U.vm) = true := by rw [Cond.arrayOver_setVmC h (.array .int)]; exact k
  exact e
theorem NW.same {u U : State} (h : u.vm = U.vm) (k : NW u) : NW U := by
  refine ⟨fun w hw => ?_, ao_vm (by rw [← h]; exact Vm.Alike.refl u.vm) k.2⟩
  have := k.1 w hw
  simp only [NWl, List.mem_cons, List.not_mem_nil, or_false] at hw
  rcases hw with rfl | rfl | rfl | rfl | rfl <;> exact va_Nw.same rfl h this
theorem NW.warm {u U : State} (h : u.WarmedH U.vm) (k : NW u) : NW U := by
  refine ⟨fun w hw => ?_, ao_vm h.alike k.2⟩
  have := k.1 w hw
  simp only [NWl, List.mem_cons, List.not_mem_nil, or_false] at hw
  rcases hw with rfl | rfl | rfl | rfl | rfl <;> exact va_Nw.warmM h this
def CallN (d mc ms : Nat) (y : MD) (As : List Value) (w : Wd) (Q : Option Value → Wd → Prop) : Prop :=
  ∀ (l : Launch) (G : Dg) (B : Nat), Met l y.1 (wsM y) (rmd d mc ms) (va_Pc (As.map (rv B)) (fun U => Rp G B w U.heap ∧ KK G U ∧ NW U)) (QQ G B Q) mc ms (Fr B)
def PN (d mc ms : Nat) (y : MD) (nc ns : Nat) (pc : Nat) (lv : List (Nat × Value)) (st : List Value) (w : Wd) (Q : Option Value → Wd → Prop) : Prop :=
  ∀ (p : Program) (l : Launch) (e : Env) (s : State) (m : MethodId) (args : Array Value) (below : List Frame) (meth : Method) (c : Code) (G : Dg) (B : Nat) (H : Heap) (locs : List Loc) (ls : Array Slot),
    Cx p s m args meth c y → KK G s → NW s → Rp G B w H → va_S (Fr B) s.heap H locs → B ≤ s.heap.size → lv_has ls y.2.2.1 (lvm B lv) →
    W p l e (rmd d mc ms) s m args below meth c H locs nc ns (MQ below (QQ G B Q) args s mc ms (Fr B)) (F0 m pc ls (st.map (rv B)))
section NRows
variable {d mc ms nc ns : Nat} {y : MD} {pc : Nat} {lv : List (Nat × Value)} {st : List Value} {w : Wd} {Q : Option Value → Wd → Prop}
theorem pn_iconst {n : Int} {v : Int32} {pc' : Nat} (hp : pc + 1 = pc') (hd : decode y.2.1 pc = .ok (.iconst n, 1)) (hv : Int32.ofInt n = v) (k : PN d mc ms y nc ns pc' lv (.int v :: st) w Q) : PN d mc ms y nc ns pc lv (st) w Q := by
  subst hp
  exact fun p l e s m args below meth cd G B H locs ls C hK hQ9 hP hS hB hl => lv_iconst C.1 C.2.1 hd hv (k p l e s m args below meth cd G B H locs ls C hK hQ9 hP hS hB hl)
theorem pn_bipush {n : Int} {v : Int32} {pc' : Nat} (hp : pc + 2 = pc') (hd : decode y.2.1 pc = .ok (.bipush n, 2)) (hv : (Int8.ofInt n).toInt32 = v) (k : PN d mc ms y nc ns pc' lv (.int v :: st) w Q) : PN d mc ms y nc ns pc lv (st) w Q := by
  subst hp
  exact fun p l e s m args below meth cd G B H locs ls C hK hQ9 hP hS hB hl => lv_bipush C.1 C.2.1 hd hv (k p l e s m args below meth cd G B H locs ls C hK hQ9 hP hS hB hl)
theorem pn_sipush {n : Int} {v : Int32} {pc' : Nat} (hp : pc + 3 = pc') (hd : decode y.2.1 pc = .ok (.sipush n, 3)) (hv : (Int16.ofInt n).toInt32 = v) (k : PN d mc ms y nc ns pc' lv (.int v :: st) w Q) : PN d mc ms y nc ns pc lv (st) w Q := by
  subst hp
  exact fun p l e s m args below meth cd G B H locs ls C hK hQ9 hP hS hB hl => lv_sipush C.1 C.2.1 hd hv (k p l e s m args below meth cd G B H locs ls C hK hQ9 hP hS hB hl)
theorem pn_aload_n {q : Fin 4} {i : Nat} {x : Nat} (j : Nat) {pc' : Nat} (hp : pc + 1 = pc') (hd : decode y.2.1 pc = .ok (.aload_n q, 1)) (hi : (q : Nat) = i) (hj : lv[j]? = some (i, .ref x)) (k : PN d mc ms y nc ns pc' lv (.ref x :: st) w Q) : PN d mc ms y nc ns pc lv st w Q := by
  subst hp
  exact fun p l e s m args below meth cd G B H locs ls C hK hQ9 hP hS hB hl => lv_aload_n C.1 C.2.1 hd hi (lv_at hl j (lvm_at hj)) (k p l e s m args below meth cd G B H locs ls C hK hQ9 hP hS hB hl)
theorem pn_iload_n {q : Fin 4} {i : Nat} {x : Int32} (j : Nat) {pc' : Nat} (hp : pc + 1 = pc') (hd : decode y.2.1 pc = .ok (.iload_n q, 1)) (hi : (q : Nat) = i) (hj : lv[j]? = some (i, .int x)) (k : PN d mc ms y nc ns pc' lv (.int x :: st) w Q) : PN d mc ms y nc ns pc lv st w Q := by
  subst hp
  exact fun p l e s m args below meth cd G B H locs ls C hK hQ9 hP hS hB hl => lv_iload_n C.1 C.2.1 hd hi (lv_at hl j (lvm_at hj)) (k p l e s m args below meth cd G B H locs ls C hK hQ9 hP hS hB hl)
theorem pn_istore_n {q : Fin 4} {i : Nat} {x : Int32} {lv' : List (Nat × Value)} (ks : List Nat) {pc' : Nat} (hp : pc + 1 = pc') (hd : decode y.2.1 pc = .ok (.istore_n q, 1)) (hi : (q : Nat) = i) (hn : i < y.2.2.1) (hv : lv_pick ((i, .int x) :: lv.filter (lvF i)) ks = lv') (k : PN d mc ms y nc ns pc' lv' st w Q) : PN d mc ms y nc ns pc lv (.int x :: st) w Q := by
  subst hp
  exact fun p l e s m args below meth c G B H locs ls C hK hQ9 hP hS hB hl => lv_istore_n C.1 C.2.1 hd hi hl hn rfl (fun ls' h' => k p l e s m args below meth c G B H locs ls' C hK hQ9 hP hS hB (lvm_store hv h'))
theorem pn_iinc {i : Nat} {n : Int} {x v : Int32} {lv' : List (Nat × Value)} (j : Nat) (ks : List Nat) {pc' : Nat} (hp : pc + 3 = pc') (hd : decode y.2.1 pc = .ok (.iinc i n, 3)) (hj : lv[j]? = some (i, .int x)) (hx : x + Int32.ofInt n = v) (hn : i < y.2.2.1) (hv : lv_pick ((i, .int v) :: lv.filter (lvF i)) ks = lv') (k : PN d mc ms y nc ns pc' lv' st w Q) : PN d mc ms y nc ns pc lv st w Q := by
  subst hp
  exact fun p l e s m args below meth c G B H locs ls C hK hQ9 hP hS hB hl => lv_iinc C.1 C.2.1 hd hl (lvm_at hj) hx hn rfl (fun ls' h' => k p l e s m args below meth c G B H locs ls' C hK hQ9 hP hS hB (lvm_store (v := .int v) hv h'))
theorem pn_sub {lv' : List (Nat × Value)} (ks : List Nat) (hv : lv_pick lv ks = lv') (k : PN d mc ms y nc ns pc lv' st w Q) : PN d mc ms y nc ns pc lv st w Q :=
  fun p l e s m args below meth c G B H locs ls C hK hQ9 hP hS hB hl => k p l e s m args below meth c G B H locs ls C hK hQ9 hP hS hB (lv_sub hl ks (by rw [lvm_pick, hv]))
theorem pn_icmp_ge {x z : Int32} {off : Int} {tgt : Nat} {pc' : Nat} (hp : pc + 3 = pc') (hd : decode y.2.1 pc = .ok (.if_icmp .ge off, 3)) (ht : (pc : Int) + off = (tgt : Int)) (kt : z ≤ x → PN d mc ms y nc ns tgt lv st w Q) (kf : ¬ z ≤ x → PN d mc ms y nc ns pc' lv st w Q) : PN d mc ms y nc ns pc lv (.int z :: .int x :: st) w Q := by
  subst hp
  exact fun p l e s m args below meth cd G B H locs ls C hK hQ9 hP hS hB hl => lv_icmp_ge C.1 C.2.1 hd ht (fun h => kt h p l e s m args below meth cd G B H locs ls C hK hQ9 hP hS hB hl) (fun h => kf h p l e s m args below meth cd G B H locs ls C hK hQ9 hP hS hB hl)
theorem pn_goto {off : Int} {tgt : Nat} (hd : decode y.2.1 pc = .ok (.goto off, 3)) (ht : (pc : Int) + off = (tgt : Int)) (k : PN d mc ms y nc ns tgt lv st w Q) : PN d mc ms y nc ns pc lv st w Q :=
  fun p l e s m args below meth cd G B H locs ls C hK hQ9 hP hS hB hl => lv_goto C.1 C.2.1 hd ht (k p l e s m args below meth cd G B H locs ls C hK hQ9 hP hS hB hl)
theorem pn_dup {v : Value} {pc' : Nat} (hp : pc + 1 = pc') (hd : decode y.2.1 pc = .ok (.dup, 1)) (hv : v.category = 1) (k : PN d mc ms y nc ns pc' lv (v :: v :: st) w Q) : PN d mc ms y nc ns pc lv (v :: st) w Q := by
  subst hp
  exact fun p l e s m args below meth cd G B H locs ls C hK hQ9 hP hS hB hl => lv_dup C.1 C.2.1 hd ((cat_rv B v).trans hv) (k p l e s m args below meth cd G B H locs ls C hK hQ9 hP hS hB hl)
theorem pn_getR {idx ci k c r : Nat} {fin : Bool} {fty : FieldType} {pc' : Nat} (hp : pc + 3 = pc') (hd : decode y.2.1 pc = .ok (.getfield idx, 3)) (hF : FL y.1.cls idx ci k fin fty) (hc : c < w.1) (hk : w.2.1 c = .inl ci) (hb : (cfl ci)[k]? = some true) (hr : w.2.2.1 c k = some r) (kk : PN d mc ms y nc ns pc' lv (.ref r :: st) w Q) : PN d mc ms y nc ns pc lv (.ref c :: st) w Q := by
  subst hp
  intro p l e s m args below meth cd G B H locs ls C hK hQ9 hP hS hB hl
  obtain ⟨Cn, T, N, ty, ⟨f1, f2, -, -, f5⟩, hkN, hln, -, -⟩ := hF
  refine va_get (v := .ref (B + r)) C.1 C.2.1 C.2.2.2.2.2.1 f2 C.2.2.2.2.1 hK hP.1 c ((wl_get hc).trans (by rw [wE_obj hk])) f1 k hkN (ref := Cn) (C.2.2.2.2.2.1 _ hln) (fun x h => by rw [f5 k hkN] at h; exact h) ?_ hd (kk p l e s m args below meth cd G B H locs ls C hK hQ9 hP hS hB hl)
  rw [wF_get, hb]
  simp [hr, rf, va_rf]
theorem pn_putI {idx ci k c : Nat} {fty : FieldType} {v : Int32} {pc' : Nat} (hp : pc + 3 = pc') (hd : decode y.2.1 pc = .ok (.putfield idx, 3)) (hF : FL y.1.cls idx ci k false fty) (hc : c < w.1) (hk : w.2.1 c = .inl ci) (hb : (cfl ci)[k]? = some false) (hn : narrow fty (.int v) = .int v) (hft : fits fty (.int v) = true) (kk : PN d mc ms y nc ns pc' lv st (wPut w c k v) Q) : PN d mc ms y nc ns pc lv (.int v :: .ref c :: st) w Q := by
  subst hp
  intro p l e s m args below meth cd G B H locs ls C hK hQ9 hP hS hB hl
  obtain ⟨Cn, T, N, ty, ⟨f1, f2, f3, f4, f5⟩, hkN, hln, hfin, hty⟩ := hF
  subst hty
  have hlen : k < (cfl ci).length := (List.getElem?_eq_some_iff.mp hb).1
  have hz : H.size = B + w.1 := hP.2
  have hap := va_apart (own := y.1.cls) C.2.2.2.2.2.1 f2 ty f3 f4 hK f1
  have he : (wl G B w)[c]? = some (B + c, .inr (ci, wF B w c 0 (cfl ci))) := (wl_get hc).trans (by rw [wE_obj hk])
  obtain ⟨r, h1, cell, q1, q2, q3, q4⟩ := hP.1 c _ he
  have hr : r = (Cn, T, N) := Option.some.inj (h1.symm.trans f1)
  subst hr
  obtain ⟨hSl, hfc, kC, hkC, hkind⟩ := hK.1 ci _ f1
  obtain ⟨cf, kf, fi, f, hi, hsl⟩ := hSl k hkN
  have hlay := C.2.2.2.2.2.1 _ (f2 _ (u_in_lay hkN))
  unfold u_lay at hlay
  rw [if_neg (by rw [hfin]; decide)] at hlay
  have hst := (u_facts hfc hkC (u_lays C.2.2.2.2.2.1 f2 hkN) hi).1
  have h6 := u_store hfc hkC hkind hlay hi (f3 k hkN) hn hft
  have hi2 : s.fieldFound? Cn (T k).2.1 (T k).2.2.1 = some (cf, kf, fi, f) := by rw [f5 k hkN] at hi; exact hi
  refine W.putK C.1 C.2.1 (f := f) ⟨C.2.2.2.2.1, C.2.2.2.2.2.1 _ hln, ⟨_, _, _, hi2⟩, hst⟩ (by rw [q2]; exact h6) q1 q3 (by rw [hsl]; exact k2_hasslot (q4 k hkN)) rfl rfl hd fun H' e1 e2 e3 => ?_
  rw [hsl] at e1 ⊢
  have hset := hP.1.set wl_D he (e := .inr (ci, (wF B w c 0 (cfl ci)).set k (.int v))) ⟨_, f1, t_OB.to (V := updV (vp_V (wF B w c 0 (cfl ci))) k (.int v)) ⟨_, e1, q2, q3, t_set q4 hap hkN (.int v)⟩ (fun j _ => vp_updV_set (by rw [wF_len]; exact hlen) (.int v) j)⟩ e3
  rw [wl_set (w := w) (w' := wPut w c k v) rfl (fun c' h => wE_put_ne c' h) (by rw [wE_obj (by exact hk), wF_put hb])] at hset
  exact kk p l e s m args below meth cd G B H' _ ls C hK hQ9 ⟨hset, by rw [e2]; exact hz⟩ (hS.put e2 e3 (show B ≤ B + _ by omega)) hB hl
theorem pn_putR {idx ci k c : Nat} {fty : FieldType} {r : Nat} {pc' : Nat} (hp : pc + 3 = pc') (hd : decode y.2.1 pc = .ok (.putfield idx, 3)) (hF : FL y.1.cls idx ci k true fty) (hc : c < w.1) (hk : w.2.1 c = .inl ci) (hb : (cfl ci)[k]? = some true) (hini : y.1.name = "<init>") (hown : ∀ q : vw_C, vwCl[ci]? = some q → q.1 = y.1.cls) (hn : ∀ a, narrow fty (.ref a) = .ref a) (hft : ∀ a, fits fty (.ref a) = true) (kk : PN d mc ms y nc ns pc' lv st (wPutR w c k (some r)) Q) : PN d mc ms y nc ns pc lv (.ref r :: .ref c :: st) w Q := by
  subst hp
  intro p l e s m args below meth cd G B H locs ls C hK hQ9 hP hS hB hl
  obtain ⟨Cn, T, N, ty, ⟨f1, f2, f3, f4, f5⟩, hkN, hln, hfin, hty⟩ := hF
  subst hty
  have hlen : k < (cfl ci).length := (List.getElem?_eq_some_iff.mp hb).1
  have hz : H.size = B + w.1 := hP.2
  have hap := va_apart (own := y.1.cls) C.2.2.2.2.2.1 f2 ty f3 f4 hK f1
  have he : (wl G B w)[c]? = some (B + c, .inr (ci, wF B w c 0 (cfl ci))) := (wl_get hc).trans (by rw [wE_obj hk])
  obtain ⟨q, h1, cell, q1, q2, q3, q4⟩ := hP.1 c _ he
  have hr : q = (Cn, T, N) := Option.some.inj (h1.symm.trans f1)
  subst hr
  obtain ⟨hSl, hfc, kC, hkC, hkind⟩ := hK.1 ci _ f1
  obtain ⟨cf, kf, fi, f, hi, hsl⟩ := hSl k hkN
  have hlay := C.2.2.2.2.2.1 _ (f2 _ (u_in_lay hkN))
  unfold u_lay at hlay
  rw [if_pos hfin] at hlay
  have hst := (u_facts hfc hkC (u_lays C.2.2.2.2.2.1 f2 hkN) hi).1
  have hcf : m.cls = cf := by
    obtain ⟨_, _, c', _, _, _, -, -, hf', -, -, -, hown2, -⟩ := Cond.laysFinal_spec hlay
    have e1 : c' = cf := by have := hi.symm.trans hf'; simp at this; exact this.1.symm
    rw [f5 k hkN, show Cn = y.1.cls from hown _ f1] at hown2
    rw [← e1]; exact Option.some.inj (C.2.2.2.2.1.symm.trans hown2)
  have h6 := u_fits hfc hkC hkind (Or.inr hlay) hi (f3 k hkN) (hn (B + r)) (hft (B + r))
  have hi2 : s.fieldFound? Cn (T k).2.1 (T k).2.2.1 = some (cf, kf, fi, f) := by rw [f5 k hkN] at hi; exact hi
  refine W.putFinK C.1 C.2.1 C.2.2.2.2.1 (C.2.2.2.2.2.1 _ hln) hi2 hst hcf (C.2.2.2.2.2.2.2.trans hini) (by rw [q2]; exact h6) q1 q3 (by rw [hsl]; exact k2_hasslot (q4 k hkN)) rfl rfl hd fun H' e1 e2 e3 => ?_
  rw [hsl] at e1 ⊢
  have hset := hP.1.set wl_D he (e := .inr (ci, (wF B w c 0 (cfl ci)).set k (.ref (B + r)))) ⟨_, f1, t_OB.to (V := updV (vp_V (wF B w c 0 (cfl ci))) k (.ref (B + r))) ⟨_, e1, q2, q3, t_set q4 hap hkN (.ref (B + r))⟩ (fun j _ => vp_updV_set (by rw [wF_len]; exact hlen) (.ref (B + r)) j)⟩ e3
  rw [wl_set (w := w) (w' := wPutR w c k (some r)) rfl (fun c' h => wE_putR_ne c' h) (by rw [wE_obj (by exact hk), wF_putR hb]; rfl)] at hset
  exact kk p l e s m args below meth cd G B H' _ ls C hK hQ9 ⟨hset, by rw [e2]; exact hz⟩ (hS.put e2 e3 (show B ≤ B + _ by omega)) hB hl
theorem pn_iast {c n : Nat} {i v : Int32} {pc' : Nat} (hp : pc + 1 = pc') (hd : decode y.2.1 pc = .ok (.iastore, 1)) (hc : c < w.1) (hk : w.2.1 c = .inr (.inl n)) (hi : vp_in i n) (kk : PN d mc ms y nc ns pc' lv st (wPut w c (ix i) v) Q) : PN d mc ms y nc ns pc lv (.int v :: .int i :: .ref c :: st) w Q := by
  subst hp
  intro p l e s m args below meth cd G B H locs ls C hK hQ9 hP hS hB hl
  have hz : H.size = B + w.1 := hP.2
  have ha : (wl G B w)[c]? = some (B + c, .inl (G.2.1, n, .inl (w.2.2.2 c))) := (wl_get hc).trans (by rw [wE_arr hk])
  refine W.iast C.1 C.2.1 (hP.1 c _ ha) ((hK.2 0 _ rfl).1 n (fun j => .int (w.2.2.2 c j))) (fun q => by cases q) (by show ¬ (i < 0 ∨ (arrV _ _ _).slots.size ≤ _); rw [arrV_size]; exact hi) rfl rfl hd fun H1 e1 z oq => ?_
  have hset := hP.1.set wl_D ha (e := .inl (G.2.1, n, .inl (upd (w.2.2.2 c) (ix i) v))) (H1 := H1) (by
    show H1[B + c]? = some (vp_cell _ _)
    rw [e1, vp_cell_i, vp_cell_i, arrV_store]
    congr 2
    funext q
    by_cases hq : q = i.toNatClampNeg
    · subst hq
      simp [updV, upd]
    · simp [updV, upd, hq]) oq
  rw [wl_set (w := w) (w' := wPut w c (ix i) v) rfl (fun c' h => wE_put_ne c' h) (by
    rw [wE_arr (by exact hk)]
    refine congrArg (fun f => (Sum.inl (G.2.1, n, Sum.inl f) : va_E)) (funext fun j => ?_)
    show wr _ _ _ _ _ _ = upd _ _ _ _
    unfold wr upd
    by_cases hj : j = ix i
    · rw [if_pos ⟨rfl, hj⟩, if_pos hj]
    · rw [if_neg (fun q => hj q.2), if_neg hj])] at hset
  exact kk p l e s m args below meth cd G B H1 _ ls C hK hQ9 ⟨hset, by rw [z]; exact hz⟩ (hS.put z oq (show B ≤ B + _ by omega)) hB hl
theorem pn_vret (hd : decode y.2.1 pc = .ok (.return_, 1)) (hr : y.2.2.2 = none) (h : Q none w) : PN d mc ms y mc ms pc lv [] w Q := by
  intro p l e s m args below meth cd G B H locs ls C hK hQ9 hP hS hB hl
  exact W.vret C.1 C.2.1 (C.2.2.1.trans hr) (fun t ht hW => ⟨⟨none, w, rfl, h, by rw [ht]; exact hP, KK.moved hW.alike hK⟩, hS.F ht⟩) hS.2.2 hd (hlocks := C.2.2.2.2.2.2.1)
theorem pn_newa {d mc ms nc ns : Nat} {y : MD} {pc : Nat} {lv : List (Nat × Value)} {st : List Value} {Q : Option Value → Wd → Prop} {n L : Nat} {kd : Nat → Kd} {R : Nat → Nat → Option Nat} {M : Mem} {pc' nc' ns' n' : Nat} (hp : pc + 2 = pc') (hc1 : nc + 1 = nc') (hs1 : ns + L = ns') (hn1 : n + 1 = n') (hk : kd n = .inr (.inl L)) (hz : ∀ j, M n j = nI 0) (hL : L ≤ 4800) (hcells : nc + 1 ≤ mc) (hslots : ns + L ≤ ms) (hd : decode y.2.1 pc = .ok (.newarray .int, 2)) (ha : Cond.arrayClass .int ∈ tb) (k : PN d mc ms y nc' ns' pc' lv (.ref n :: st) (n', kd, R, M) Q) : PN d mc ms y nc ns pc lv (.int (nI L) :: st) (n, kd, R, M) Q := by
  subst hp
  subst hc1
  subst hs1
  subst hn1
  intro p l e s m args below meth cd G B H locs ls C hK hQ9 hP hS hB hl
  have hN : (nI L).toNatClampNeg = L := by
    show (nI L).toInt.toNat = L
    rw [nI_toInt (by omega)]; rfl
  refine va_newaK (atype := .int) C.1 C.2.1 (C.2.2.2.2.2.1 _ ha) (g := F0 m pc ls (.int (nI L) :: st.map (rv B))) rfl hd rfl (nI_pos (by omega)) hN (by show L * 4 ≤ _; omega) hcells hslots hP.2 (fun H1 cA e1 z1 o1 hAr hNm => ?_)
  have hc : cA = G.2.1 := by
    have h2 : s.vm.findClass ("[" ++ FieldType.int.toString) = some G.2.1 := (hK.2 0 (G.2.1, .int) rfl).2
    have h3 : s.vm.findClass ("[" ++ FieldType.int.toString) = some cA := hNm
    exact Option.some.inj (h3.symm.trans h2)
  subst hc
  have hk2 : ∀ (k9 : Nat) (x : Nat × va_E), (wl G B (n, kd, R, M))[k9]? = some x → H1[x.1]? = H[x.1]? := fun k9 x hx => o1 x.1 (by rw [← hP.2]; exact (hP.1 k9 x hx).lt)
  refine k p l e s m args below meth cd G B H1 locs ls C hK hQ9 ⟨?_, ?_⟩ ⟨Nat.le_trans hS.1 (by rw [z1, hP.2]; omega), fun x h1 h2 => (o1 x (by rw [← hP.2]; exact Nat.lt_of_lt_of_le h1 hS.1)).trans (hS.2.1 x h1 h2), hS.2.2⟩ hB hl
  · rw [wl_succ]
    refine (hP.1.kept hk2).app (fun k9 x hx => ?_)
    have h0 : k9 < 1 := (List.getElem?_eq_some_iff.mp hx).1
    rw [show k9 = 0 by omega] at hx
    cases hx
    rw [wE_arr hk]
    show H1[B + n]? = some (vp_cell G.2.1 (L, .inl (M n)))
    rw [vp_cell_i, show (fun j => Value.int (M n j)) = fun _ => defaultValue .int from funext fun j => by rw [hz j]; rfl]
    exact e1
  · rw [z1]; rfl
theorem nI_clq {L : Nat} (h : L ≤ 4800) : (nI L).toNatClampNeg = L := by
  show (nI L).toInt.toNat = L
  rw [nI_toInt (by omega)]; rfl
theorem pn_mna {d mc ms nc ns : Nat} {y : MD} {pc : Nat} {lv : List (Nat × Value)} {st : List Value} {Q : Option Value → Wd → Prop} {n N K index : Nat} {kd : Nat → Kd} {R : Nat → Nat → Option Nat} {M : Mem} {pc' nc' ns' n' : Nat} (hp : pc + 4 = pc') (hc1 : nc + 1 + N = nc') (hs1 : ns + N + N * K = ns') (hn1 : n + 1 + N = n') (hk : kd n = .inr (.inr N)) (hi : ∀ i, i < N → kd (n + 1 + i) = .inr (.inl K)) (hR : ∀ j, R n j = if j < N then some (n + 1 + j) else none) (hz : ∀ i, i < N → ∀ j, M (n + 1 + i) j = nI 0) (hN : N ≤ 4800) (hL : K ≤ 4800) (hcells : nc + (1 + N) ≤ mc) (hslots : ns + (N + N * K) ≤ ms) (hd : decode y.2.1 pc = .ok (.multianewarray index 2, 4)) (hcl : Cond.classLink y.1.cls index ("[" ++ (FieldType.array .int).toString) ∈ tb) (ha : Cond.arrayClass .int ∈ tb) (k : PN d mc ms y nc' ns' pc' lv (.ref n :: st) (n', kd, R, M) Q) : PN d mc ms y nc ns pc lv (.int (nI K) :: .int (nI N) :: st) (n, kd, R, M) Q := by
  subst hp
  subst hc1
  subst hs1
  subst hn1
  intro p l e s m args below meth cd G B H locs ls C hK hQ9 hP hS hB hl T hT Xs
  have hN' := nI_clq hN
  have hL' := nI_clq hL
  obtain ⟨vm₁, cA, comp, -, fA, fC, -, -, X', step⟩ := Xs.multianewarray2F C.1 C.2.2.2.2.1 (C.2.2.2.2.2.1 _ hcl) hQ9.2 (C.2.2.2.2.2.1 _ ha) (g := F0 m pc ls (.int (nI K) :: .int (nI N) :: st.map (rv B))) rfl (by rw [C.2.1]; exact hd) rfl (nI_pos (by omega)) (nI_pos (by omega)) (by rw [hN']; omega) (by rw [hL']; show K * 4 ≤ _; omega) (by rw [hL']; omega) rfl rfl (by rw [hN']; exact hcells) (by rw [hN', hL']; exact hslots)
  rw [hN', hL'] at X' step
  have h1 : comp = G.2.1 := by
    have h2 : s.vm.findClass ("[" ++ FieldType.int.toString) = some G.2.1 := (hK.2 0 (G.2.1, .int) rfl).2
    have h3 : s.vm.findClass ("[" ++ FieldType.int.toString) = some comp := fC
    exact Option.some.inj (h3.symm.trans h2)
  have h2 : cA = G.2.2 := by
    have h2 : s.vm.findClass ("[" ++ (FieldType.array .int).toString) = some G.2.2 := (hK.2 1 (G.2.2, .array .int) rfl).2
    exact Option.some.inj (fA.symm.trans h2)
  subst h1
  subst h2
  generalize hF : Jvm.Free.Multi.fill (T.setVm vm₁) G.2.2 G.2.1 N K (defaultValue .int) N = F at X' step
  have hTh : (T.setVm vm₁).heap = H := hT
  obtain ⟨f1, f2, -, -⟩ := Jvm.Free.Multi.fill_facts (T.setVm vm₁) G.2.2 G.2.1 N K (defaultValue .int) N
  rw [hF, hTh] at f1 f2
  have hold : ∀ x : Nat, x < H.size → F.heap[x]? = H[x]? := fun x hx => by
    have := Jvm.Free.Multi.fill_old (T.setVm vm₁) G.2.2 G.2.1 N K (defaultValue .int) (a := x) (by rw [hTh]; exact hx) N
    rw [hF, hTh] at this
    exact this
  have hrow : ∀ j : Nat, j < N → F.heap[H.size + 1 + j]? = some (Jvm.Free.Multi.innerC G.2.1 K (defaultValue .int)) := fun j hj => by
    have := Jvm.Free.Multi.fill_inner (T.setVm vm₁) G.2.2 G.2.1 N K (defaultValue .int) N j hj
    rw [hF, hTh] at this
    exact this
  rw [outer_eq] at f2
  have hPk : va_P G.1 vwCl (wl G B (n, kd, R, M)) F.heap := hP.1.kept (fun k9 x hx => hold x.1 ((hP.1 k9 x hx).lt))
  have hz2 : H.size = B + n := hP.2
  have P2 : va_P G.1 vwCl (wl G B (n + 1 + N, kd, R, M)) F.heap := by
    intro k9 x hx
    have h9 : k9 < n + 1 + N := by
      have := (List.getElem?_eq_some_iff.mp hx).1
      rw [wl_len] at this
      exact this
    rw [wl_get h9] at hx
    cases hx
    by_cases w : k9 < n
    · have := hPk k9 _ (wl_get w)
      rw [wE_n (n' := n + 1 + N)] at this
      exact this
    by_cases w2 : k9 = n
    · subst w2
      rw [wE_rarr hk]
      show F.heap[B + k9]? = some (vp_cell G.2.2 (N, .inr (.inr (.inr (.inr _)))))
      rw [vp_cell_q, ← hz2, f2]
      refine congrArg (fun f => some (arrV G.2.2 N f)) (funext fun j => congrArg va_rf ?_)
      show _ = (R k9 j).map _
      rw [hR]
      by_cases w3 : j < N
      · rw [if_pos w3, if_pos w3, hz2]
        show some _ = some (B + (k9 + 1 + j))
        rw [show B + k9 + 1 + j = B + (k9 + 1 + j) by omega]
      · rw [if_neg w3, if_neg w3]; rfl
    · obtain ⟨i, rfl⟩ : ∃ i, k9 = n + 1 + i := ⟨k9 - (n + 1), by omega⟩
      rw [wE_arr (hi i (by omega))]
      show F.heap[B + (n + 1 + i)]? = some (vp_cell G.2.1 (K, .inl (M (n + 1 + i))))
      rw [vp_cell_i, show B + (n + 1 + i) = H.size + 1 + i by omega, hrow i (by omega), show (fun j => Value.int (M (n + 1 + i) j)) = fun _ => defaultValue .int from funext fun j => by rw [hz i (by omega) j]; rfl]
      exact congrArg some (arrV_new _ _ _)
  obtain ⟨t, a1, b1⟩ := k p l e s m args below meth cd G B F.heap locs ls C hK hQ9 ⟨P2, by rw [f1, hz2]; show _ = B + (n + 1 + N); omega⟩ ⟨by rw [f1]; have := hS.1; omega, fun x h1 h2 => (hold x (Nat.lt_of_lt_of_le h1 hS.1)).trans (hS.2.1 x h1 h2), hS.2.2⟩ hB hl F rfl X'
  refine ⟨t, step t ?_, b1⟩
  have e : T.heap.size = B + n := by rw [← hz2, ← hT]
  rw [e]
  exact a1
theorem pn_new {d mc ms nc ns : Nat} {y : MD} {pc : Nat} {lv : List (Nat × Value)} {st : List Value} {Q : Option Value → Wd → Prop} {n N ci index : Nat} {Cn : String} {T : u_T} {kd : Nat → Kd} {R : Nat → Nat → Option Nat} {M : Mem} {pc' nc' ns' n' : Nat} (hp : pc + 3 = pc') (hc1 : nc + 1 = nc') (hs1 : ns + N = ns') (hn1 : n + 1 = n') (hk : kd n = .inl ci) (hc : vwCl[ci]? = some (Cn, T, N)) (hin : ∀ w ∈ u_ws Cn T N, w ∈ tb) (ty : Nat → FieldType) (hty : ∀ k, k < N → parseFieldDescriptor (T k).2.2.1 = some (ty k)) (hfs : ∀ j, j < N → defaultValue (ty j) = vp_V (f0L (cfl ci)) j) (hw : ∀ j, R n j = none ∧ M n j = nI 0) (hcells : nc + 1 ≤ mc) (hslots : ns + N ≤ ms) (hd : decode y.2.1 pc = .ok (.new index, 3)) (hcl : Cond.classLink y.1.cls index Cn ∈ tb) (hinst : Cond.instantiable Cn N ∈ tb) (hini : Cond.initialized Cn ∈ tb) (k : PN d mc ms y nc' ns' pc' lv (.ref n :: st) (n', kd, R, M) Q) : PN d mc ms y nc ns pc lv st (n, kd, R, M) Q := by
  subst hp
  subst hc1
  subst hs1
  subst hn1
  intro p l e s m args below meth cd G B H locs ls C hK hQ9 hP hS hB hl
  have hKn := hK.1 ci _ hc
  have hts := C.2.2.2.2.2.1
  refine W.newcK C.1 C.2.1 C.2.2.2.2.1 (hts _ hcl) (hts _ hinst) (hts _ hini) rfl hd hcells hslots hKn.2.1 hP.2 fun H1 kC hkC e1 z1 o1 => ?_
  have hk2 : ∀ (k9 : Nat) (x : Nat × va_E), (wl G B (n, kd, R, M))[k9]? = some x → H1[x.1]? = H[x.1]? := fun k9 x hx => o1 x.1 (by rw [← hP.2]; exact (hP.1 k9 x hx).lt)
  refine k p l e s m args below meth cd G B H1 locs ls C hK hQ9 ⟨?_, ?_⟩ ⟨Nat.le_trans hS.1 (by rw [z1, hP.2]; omega), fun x h1 h2 => (o1 x (by rw [← hP.2]; exact Nat.lt_of_lt_of_le h1 hS.1)).trans (hS.2.1 x h1 h2), hS.2.2⟩ hB hl
  · rw [wl_succ]
    refine (hP.1.kept hk2).app (fun k9 x hx => ?_)
    have h0 : k9 < 1 := (List.getElem?_eq_some_iff.mp hx).1
    rw [show k9 = 0 by omega] at hx
    cases hx
    rw [wE_obj hk, wF_0 _ _ hw]
    exact ⟨_, hc, (u_born ty hts hin hKn hkC e1 hty).to hfs⟩
  · rw [z1]; rfl
theorem pn_blind {G : Dg} {B : Nat} {w : Wd} {av : List Value} : FrameBlind (va_Pc av (fun U => Rp G B w U.heap ∧ KK G U ∧ NW U)) := fun a U g mk q => ⟨q.1, q.2.1, KK.moved (u := U) (U := U.calling g mk a) (Vm.Alike.refl U.vm) q.2.2.1, NW.same (u := U) (U := U.calling g mk a) rfl q.2.2.2⟩
end NRows
theorem CallN_of {d mc ms : Nat} {y : MD} {As : List Value} {w : Wd} {Q : Option Value → Wd → Prop} (hpl : plainName y.1.cls = true) (hlen : (lg_sl As).length ≤ y.2.2.1) (k : PN d mc ms y 0 0 0 (lv_args 0 As) [] w Q) : CallN d mc ms y As w Q := by
  intro l G B
  refine Met.ofW (cc := y.2.1) (maxL := y.2.2.1) (ret := y.2.2.2) hpl rfl ?_
  intro p e s m args below meth c s₁ Bd hml hv
  obtain ⟨rfl, hP, hK, hN⟩ := hv
  have hts := atoms_spec (ws := wsM y) Bd.pre
  have hown : s.vm.findClass y.1.cls = some m.cls := findClass_of_methodNamed Bd.named
  have hin : meth.name = y.1.name := (name_of_methodNamed Bd.named Bd.method).1
  have sl : lg_sl (As.map (rv B)) = (lg_sl As).map (fun z => match z with | .val v => .val (rv B v) | z => z) := by
    clear hlen k hP hN hts hml Bd
    induction As with
    | nil => rfl
    | cons v vs ih =>
      simp only [lg_sl, List.map_cons, List.flatMap_cons, List.map_append] at ih ⊢
      rw [ih, cat_rv]
      by_cases h : v.category = 2
      · rw [if_pos h, if_pos h]; rfl
      · rw [if_neg h, if_neg h]; rfl
  have ar : ∀ (i : Nat) (vs : List Value), lv_args i (vs.map (rv B)) = lvm B (lv_args i vs) := by
    intro i vs
    induction vs generalizing i with
    | nil => rfl
    | cons v vs ih =>
      simp only [lv_args, List.map_cons, cat_rv]
      rw [ih]
      rfl
  have hl := lv_entry (As.map (rv B)) (n := y.2.2.1) (by rw [sl, List.length_map]; exact hlen)
  rw [ar] at hl
  rw [lg_entry_eq]
  exact k p l e s m _ below meth c G B s.heap [] _ ⟨Bd.exec, Bd.bytes, Bd.returns, hml, hown, fun w hw => hts w (List.mem_cons_of_mem _ hw), Bd.notSynchronized, hin⟩ hK hN hP va_S.rf (by rw [hP.2]; omega) hl
theorem CallN.mono {d mc ms : Nat} {y : MD} {As : List Value} {w : Wd} {Q Q' : Option Value → Wd → Prop} (h : CallN d mc ms y As w Q) (hq : ∀ v w', Q v w' → Q' v w') : CallN d mc ms y As w Q' := by
  intro l G B p e a1 a2 a3 s m args below a4 a5 a6 a7
  obtain ⟨k, o, h1, h2, h3, ⟨⟨v, w', e1, e2, e3⟩, hF⟩, h5⟩ := h l G B p e a1 a2 a3 s m args below a4 a5 a6 a7
  exact ⟨k, o, h1, h2, h3, ⟨⟨v, w', e1, hq _ _ e2, e3⟩, hF⟩, h5⟩
section NCalls
variable {d mc ms nc ns : Nat} {y : MD} {pc : Nat} {lv : List (Nat × Value)} {st : List Value} {w : Wd} {Q : Option Value → Wd → Prop}
theorem pn_after {p : Program} {l : Launch} {e : Env} {s : State} {m : MethodId} {args : Array Value} {below : List Frame} {meth : Method} {c : Code} {G : Dg} {B : Nat} {H : Heap} {locs : List Loc} {ls : Array Slot} {mc2 ms2 : Nat} {rest : List Value} {st0 : List Value} {a : Array Value}
    (C : Cx p s m args meth c y) (hK : KK G s) (hN : NW s) (hS : va_S (Fr B) s.heap H locs) (hB : B ≤ s.heap.size) (hl : lv_has ls y.2.2.1 (lvm B lv))
    (hr : va_Run p l e (rmd d mc ms) s m args below meth c H locs nc ns mc2 ms2 (F0 m pc ls st0) (rest.map (rv B)) (QQ G B (fun v w' => PN d mc ms y (nc + mc2) (ns + ms2) (pc + 3) lv (v.toList ++ rest) w' Q) a) (Fr B)) :
    W p l e (rmd d mc ms) s m args below meth c H locs nc ns (MQ below (QQ G B Q) args s mc ms (Fr B)) (F0 m pc ls st0) := by
  intro T hT X
  obtain ⟨v, st₀, t, T', L, h0, X', hL, e1, e2, ⟨⟨v', w', hv, hq, hRp, hKt⟩, hF⟩, stp⟩ := hr T hT X
  have hv : v = v'.map (rv B) := by cases hv; rfl
  subst hv
  have hS' : va_S (Fr B) s.heap T'.heap (locs ++ L) := ⟨Nat.le_trans hS.1 (by rw [e1]; have := hF.1; rw [h0] at this; exact this), fun q h1 h2 => by
      rw [e1, hF.2 q (by rw [h0]; exact Nat.lt_of_lt_of_le h1 hS.1) h2, h0]; exact hS.2.1 q h1 h2, fun q hq => by
      rcases List.mem_append.mp hq with h | h
      · exact hS.2.2 q h
      · exact hL q h⟩
  obtain ⟨t2, a1, b1⟩ := hq p l e s m args below meth c G B T'.heap (locs ++ L) ls C hK hN (by rw [e1]; exact hRp) hS' hB hl T' rfl X'
  refine ⟨t2, stp t2 ?_, b1⟩
  have e9 : (v'.toList ++ rest).map (rv B) = (v'.map (rv B)).toList ++ rest.map (rv B) := by cases v' <;> simp
  rw [e9] at a1
  exact a1
/-- a method that is run by invokespecial -/
def CI (y2 : MD) : Prop := Cond.instanceMethod y2.1 ∈ tb ∧ Cond.initialized y2.1.cls ∈ tb ∧ Cond.code y2.1 y2.2.1 y2.2.2.1 y2.2.2.2 ∈ tb ∧ (y2.1.cls ≠ "java/lang/invoke/MethodHandle" ∧ y2.1.cls ≠ "java/lang/invoke/VarHandle") ∧ y2.2.2.1 ≤ 18 ∧ y2.1.name = "<init>" ∧ y2.2.2.2 = none
theorem oi_in : Cond.instanceMethod Lib.objectInit ∈ tb := tb_in 52 (by decide +kernel) rfl
theorem oi_code : Cond.code Lib.objectInit ⟨#[0xb1]⟩ 1 none ∈ tb := tb_in 53 (by decide +kernel) rfl
theorem pn_objInit {idx c : Nat} {pc' : Nat} (hp : pc + 3 = pc') (hd : decode y.2.1 pc = .ok (.invokespecial idx, 3)) (hlink : Cond.methodLink y.1.cls idx Lib.objectInit ∈ tb) (hdep : 1 ≤ d) (hcat : (st.map fun v => v.category).sum ≤ 8) (k : PN d mc ms y nc ns pc' lv st w Q) : PN d mc ms y nc ns pc lv (.ref c :: st) w Q := by
  subst hp
  intro p l e s m args below meth cd G B H locs ls C hK hN hP hS hB hl
  have hts := C.2.2.2.2.2.1
  refine W.objInit C.1 C.2.1 C.2.2.2.2.1 (hts _ hlink) (hts _ oi_in) (hts _ oi_code) rfl (by rw [C.2.2.2.1]; exact hl.1) rfl hd hdep ?_ (k p l e s m args below meth cd G B H locs ls C hK hN hP hS hB hl)
  rw [map_cat]
  show 2 * 0 + _ + 12 ≤ 37 * d
  omega
theorem pn_callI {d2 mc2 ms2 idx : Nat} {y2 : MD} {As rest : List Value} {c : Nat} (n : Nat) {pc' nc' ns' : Nat} (hp : pc + 3 = pc') (hc1 : nc + mc2 = nc') (hs1 : ns + ms2 = ns') (hd : decode y.2.1 pc = .ok (.invokespecial idx, 3)) (hci : CI y2) (hlink : Cond.methodLink y.1.cls idx y2.1 ∈ tb) (hlen : (parseMethodDescriptor y2.1.desc).map (fun d => d.parameters.length) = some n) (hAs : As.length = n)
    (hst : st = As.reverse ++ .ref c :: rest) (hdep : d2 + 1 ≤ d) (hcat : (rest.map fun v => v.category).sum ≤ 8) (hmc : nc' ≤ mc) (hms : ns' ≤ ms)
    (k : CallN d2 mc2 ms2 y2 (.ref c :: As) w (fun v w' => v = none ∧ PN d mc ms y nc' ns' pc' lv rest w' Q)) : PN d mc ms y nc ns pc lv st w Q := by
  subst hp
  subst hc1
  subst hs1
  have k : CallN d2 mc2 ms2 y2 (.ref c :: As) w (fun v w' => PN d mc ms y (nc + mc2) (ns + ms2) (pc + 3) lv (v.toList ++ rest) w' Q) := k.mono (fun v w' q => by obtain ⟨rfl, q⟩ := q; exact q)
  intro p l e s m args below meth cd G B H locs ls C hK hN hP hS hB hl
  subst hst
  obtain ⟨i1, i3, i4, i5, i6, i7, i8⟩ := hci
  refine pn_after (mc2 := mc2) (ms2 := ms2) (rest := rest) C hK hN hS hB hl (a := (Value.ref (B + c) :: As.map (rv B)).toArray) ?_
  have ht := C.2.2.2.2.2.1
  have hR : (rmd d2 mc2 ms2).frames + 1 ≤ (rmd d mc ms).frames ∧ 8 + (y2.2.2.1 + 11) + (rmd d2 mc2 ms2).locals ≤ (rmd d mc ms).locals := by
    refine ⟨hdep, ?_⟩
    show 8 + (y2.2.2.1 + 11) + 37 * d2 ≤ 37 * d
    omega
  refine va_runI (Ts := tb) (own := y.1.cls) (n := n) (ws := wsM y2) (b := B + c) (bytes := y2.2.1) (maxL := y2.2.2.1) (rm := rmd d2 mc2 ms2) (As := As.map (rv B)) ⟨C.1, C.2.1, C.2.2.2.1, C.2.2.2.2.1, ht⟩ (k l G B) ⟨by rw [← i8]; exact callB_of n ht (wsM_good i4) rfl rfl rfl (ht _ i3) (ht _ hlink) ⟨i5.1, i5.2, hlen⟩ hR, i7, ht _ i1⟩
    ⟨pn_blind, fun U hU hW => ⟨rfl, by rw [hU]; exact hP, KK.moved hW.alike hK, NW.warm hW hN⟩⟩ rfl (by rw [List.length_map]; exact hAs) hl.1 ?_ ?_ hd ⟨hmc, hms⟩
  · simp [rv]
  · show 2 * 0 + _ ≤ 8
    rw [map_cat]
    omega
theorem pn_callIN {d2 mc2 ms2 idx : Nat} {host : String} {y2 : MD} {As rest : List Value} {c : Nat} (n : Nat) {pc' nc' ns' : Nat} (hp : pc + 3 = pc') (hc1 : nc + mc2 = nc') (hs1 : ns + ms2 = ns') (hd : decode y.2.1 pc = .ok (.invokespecial idx, 3)) (hci : CI y2) (hlink : Cond.methodLinkNest y.1.cls idx y2.1 host ∈ NWl) (hlen : (parseMethodDescriptor y2.1.desc).map (fun d => d.parameters.length) = some n) (hAs : As.length = n)
    (hst : st = As.reverse ++ .ref c :: rest) (hdep : d2 + 1 ≤ d) (hcat : (rest.map fun v => v.category).sum ≤ 8) (hmc : nc' ≤ mc) (hms : ns' ≤ ms)
    (k : CallN d2 mc2 ms2 y2 (.ref c :: As) w (fun v w' => v = none ∧ PN d mc ms y nc' ns' pc' lv rest w' Q)) : PN d mc ms y nc ns pc lv st w Q := by
  subst hp
  subst hc1
  subst hs1
  have k : CallN d2 mc2 ms2 y2 (.ref c :: As) w (fun v w' => PN d mc ms y (nc + mc2) (ns + ms2) (pc + 3) lv (v.toList ++ rest) w' Q) := k.mono (fun v w' q => by obtain ⟨rfl, q⟩ := q; exact q)
  intro p l e s m args below meth cd G B H locs ls C hK hN hP hS hB hl
  subst hst
  obtain ⟨i1, i3, i4, i5, i6, i7, i8⟩ := hci
  refine pn_after (mc2 := mc2) (ms2 := ms2) (rest := rest) C hK hN hS hB hl (a := (Value.ref (B + c) :: As.map (rv B)).toArray) ?_
  have ht := C.2.2.2.2.2.1
  have hR : (rmd d2 mc2 ms2).frames + 1 ≤ (rmd d mc ms).frames ∧ 8 + (y2.2.2.1 + 11) + (rmd d2 mc2 ms2).locals ≤ (rmd d mc ms).locals := by
    refine ⟨hdep, ?_⟩
    show 8 + (y2.2.2.1 + 11) + 37 * d2 ≤ 37 * d
    omega
  refine va_runIN (Ts := tb) (own := y.1.cls) (n := n) (ws := wsM y2) (b := B + c) (bytes := y2.2.1) (maxL := y2.2.2.1) (rm := rmd d2 mc2 ms2) (As := As.map (rv B)) ⟨C.1, C.2.1, C.2.2.2.1, C.2.2.2.2.1, ht⟩ (k l G B) ⟨by rw [← i8]; exact va_cnB n ht (wsM_good i4) rfl rfl rfl (hN.1 _ hlink) (ht _ i3) ⟨i5.1, i5.2, hlen⟩ hR, i7, ht _ i1⟩
    ⟨pn_blind, fun U hU hW => ⟨rfl, by rw [hU]; exact hP, KK.moved hW.alike hK, NW.warm hW hN⟩⟩ rfl (by rw [List.length_map]; exact hAs) hl.1 ?_ ?_ hd ⟨hmc, hms⟩
  · simp [rv]
  · show 2 * 0 + _ ≤ 8
    rw [map_cat]
    omega
theorem pn_callS {d2 idx : Nat} {y2 : MD} {As rest : List Value} (n : Nat) {pc' : Nat} (hp : pc + 3 = pc') (hd : decode y.2.1 pc = .ok (.invokestatic idx, 3)) (hcv : CS y2) (hlink : Cond.methodLink y.1.cls idx y2.1 ∈ tb) (hlen : (parseMethodDescriptor y2.1.desc).map (fun d => d.parameters.length) = some n) (hAs : As.length = n)
    (hst : st = As.reverse ++ rest) (hdep : d2 + 1 ≤ d) (hcat : (rest.map fun v => v.category).sum ≤ 8) (hmc : nc ≤ mc) (hms : ns ≤ ms)
    (k : Call d2 0 0 y2 As w (fun v w' => v = none ∧ PN d mc ms y nc ns pc' lv rest w' Q)) : PN d mc ms y nc ns pc lv st w Q := by
  subst hp
  have k : Call d2 0 0 y2 As w (fun v w' => PN d mc ms y (nc + 0) (ns + 0) (pc + 3) lv (v.toList ++ rest) w' Q) := k.mono (fun v w' q => by obtain ⟨rfl, q⟩ := q; exact q)
  intro p l e s m args below meth cd G B H locs ls C hK hN hP hS hB hl
  subst hst
  obtain ⟨i1, i3, i4, i5, i6⟩ := hcv
  refine pn_after (mc2 := 0) (ms2 := 0) (rest := rest) C hK hN hS hB hl (a := (As.map (rv B)).toArray) ?_
  have ht := C.2.2.2.2.2.1
  have hR : (rmd d2 0 0).frames + 1 ≤ (rmd d mc ms).frames ∧ 8 + (y2.2.2.1 + 11) + (rmd d2 0 0).locals ≤ (rmd d mc ms).locals := by
    refine ⟨hdep, ?_⟩
    show 8 + (y2.2.2.1 + 11) + 37 * d2 ≤ 37 * d
    omega
  refine va_runS (Ts := tb) (own := y.1.cls) (n := n) (ws := wsM y2) (bytes := y2.2.1) (maxL := y2.2.2.1) (ret := y2.2.2.2) (rm := rmd d2 0 0) (As := As.map (rv B)) ⟨C.1, C.2.1, C.2.2.2.1, C.2.2.2.2.1, ht⟩ (k l G B) ⟨callB_of n ht (wsM_good i4) rfl rfl rfl (ht _ i3) (ht _ hlink) ⟨i5.1, i5.2, hlen⟩ hR, ht _ i1⟩
    ⟨pc_blind, fun U hU hW => ⟨rfl, by rw [hU]; exact hP, KK.moved hW.alike hK⟩⟩ rfl (by rw [List.length_map]; exact hAs) hl.1 ?_ ?_ hd ⟨hmc, hms⟩
  · simp
  · show 2 * 0 + _ ≤ 8
    rw [map_cat]
    omega
end NCalls
