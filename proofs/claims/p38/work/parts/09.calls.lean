section Calls9
variable {d mc ms nc ns : Nat} {y : MD} {pc : Nat} {lv : List (Nat × Value)} {st : List Value} {w : Wd} {Q : Option Value → Wd → Prop}
theorem pc_blind {G : Dg} {B : Nat} {w : Wd} {av : List Value} : FrameBlind (va_Pc av (fun U => Rp G B w U.heap ∧ KK G U)) := fun a U g mk q => ⟨q.1, q.2.1, KK.moved (u := U) (U := U.calling g mk a) (Vm.Alike.refl U.vm) q.2.2⟩
/-- a method out of its walk from the entry -/
theorem Call_of {d mc ms : Nat} {y : MD} {As : List Value} {w : Wd} {Q : Option Value → Wd → Prop} (hpl : plainName y.1.cls = true) (hlen : (lg_sl As).length ≤ y.2.2.1) (k : PW d mc ms y 0 0 0 (lv_args 0 As) [] w Q) : Call d mc ms y As w Q := by
  intro l G B
  refine Met.ofW (cc := y.2.1) (maxL := y.2.2.1) (ret := y.2.2.2) hpl rfl ?_
  intro p e s m args below meth c s₁ Bd hml hv
  obtain ⟨rfl, hP, hK⟩ := hv
  have hts := atoms_spec (ws := wsM y) Bd.pre
  have hown : s.vm.findClass y.1.cls = some m.cls := findClass_of_methodNamed Bd.named
  have hin : meth.name = y.1.name := (name_of_methodNamed Bd.named Bd.method).1
  have sl : lg_sl (As.map (rv B)) = (lg_sl As).map (fun z => match z with | .val v => .val (rv B v) | z => z) := by
    clear hlen k hP hts hml Bd
    induction As with
    | nil => rfl
    | cons v vs ih =>
      simp only [lg_sl, List.map_cons, List.flatMap_cons, List.map_append] at ih ⊢
      rw [ih, cat_rv]
      by_cases h : v.category = 2
      · rw [if_pos h, if_pos h]; rfl
      · rw [if_neg h, if_neg h]; rfl
  have ar : ∀ (i : Nat) (vs : List Value), lv_args i (vs.map (rv B)) = lvm B (lv_args i vs) := by
    intro i vs
    induction vs generalizing i with
    | nil => rfl
    | cons v vs ih =>
      simp only [lv_args, List.map_cons, cat_rv]
      rw [ih]
      rfl
  have hl := lv_entry (As.map (rv B)) (n := y.2.2.1) (by rw [sl, List.length_map]; exact hlen)
  rw [ar] at hl
  rw [lg_entry_eq]
  exact k p l e s m _ below meth c G B s.heap [] _ ⟨Bd.exec, Bd.bytes, Bd.returns, hml, hown, fun w hw => hts w (List.mem_cons_of_mem _ hw), Bd.notSynchronized, hin⟩ hK hP va_S.rf (by rw [hP.2]; omega) hl
theorem Call.mono {d mc ms : Nat} {y : MD} {As : List Value} {w : Wd} {Q Q' : Option Value → Wd → Prop} (h : Call d mc ms y As w Q) (hq : ∀ v w', Q v w' → Q' v w') : Call d mc ms y As w Q' := by
  intro l G B p e a1 a2 a3 s m args below a4 a5 a6 a7
  obtain ⟨k, o, h1, h2, h3, ⟨⟨v, w', e1, e2, e3⟩, hF⟩, h5⟩ := h l G B p e a1 a2 a3 s m args below a4 a5 a6 a7
  exact ⟨k, o, h1, h2, h3, ⟨⟨v, w', e1, hq _ _ e2, e3⟩, hF⟩, h5⟩
theorem pw_after {p : Program} {l : Launch} {e : Env} {s : State} {m : MethodId} {args : Array Value} {below : List Frame} {meth : Method} {c : Code} {G : Dg} {B : Nat} {H : Heap} {locs : List Loc} {ls : Array Slot} {mc2 ms2 : Nat} {rest : List Value} {st0 : List Value} {a : Array Value}
    (C : Cx p s m args meth c y) (hK : KK G s) (hS : va_S (Fr B) s.heap H locs) (hB : B ≤ s.heap.size) (hl : lv_has ls y.2.2.1 (lvm B lv))
    (hr : va_Run p l e (rmd d mc ms) s m args below meth c H locs nc ns mc2 ms2 (F0 m pc ls st0) (rest.map (rv B)) (QQ G B (fun v w' => PW d mc ms y (nc + mc2) (ns + ms2) (pc + 3) lv (v.toList ++ rest) w' Q) a) (Fr B)) :
    W p l e (rmd d mc ms) s m args below meth c H locs nc ns (MQ below (QQ G B Q) args s mc ms (Fr B)) (F0 m pc ls st0) := by
  intro T hT X
  obtain ⟨v, st₀, t, T', L, h0, X', hL, e1, e2, ⟨⟨v', w', hv, hq, hRp, hKt⟩, hF⟩, stp⟩ := hr T hT X
  have hv : v = v'.map (rv B) := by cases hv; rfl
  subst hv
  have hS' : va_S (Fr B) s.heap T'.heap (locs ++ L) := ⟨Nat.le_trans hS.1 (by rw [e1]; have := hF.1; rw [h0] at this; exact this), fun q h1 h2 => by
      rw [e1, hF.2 q (by rw [h0]; exact Nat.lt_of_lt_of_le h1 hS.1) h2, h0]; exact hS.2.1 q h1 h2, fun q hq => by
      rcases List.mem_append.mp hq with h | h
      · exact hS.2.2 q h
      · exact hL q h⟩
  obtain ⟨t2, a1, b1⟩ := hq p l e s m args below meth c G B T'.heap (locs ++ L) ls C hK (by rw [e1]; exact hRp) hS' hB hl T' rfl X'
  refine ⟨t2, stp t2 ?_, b1⟩
  have e9 : (v'.toList ++ rest).map (rv B) = (v'.map (rv B)).toList ++ rest.map (rv B) := by cases v' <;> simp
  rw [e9] at a1
  exact a1
theorem wsM_good {y2 : MD} (h : Cond.code y2.1 y2.2.1 y2.2.2.1 y2.2.2.2 ∈ tb) : GoodIn tb (wsM y2) := fun w hw => by
  rcases List.mem_cons.mp hw with e | h2
  · rw [e]; exact tb_good _ h
  · exact tb_good _ h2
theorem map_cat (B : Nat) (rest : List Value) : (rest.map (rv B)).map (fun v => v.category) = rest.map (fun v => v.category) := by
  rw [List.map_map]
  exact List.map_congr_left fun v _ => cat_rv B v
theorem pw_callV {d2 mc2 ms2 idx ci : Nat} {y2 : MD} {As rest : List Value} {c : Nat} {cT : vw_C} (n : Nat) {pc' : Nat} (hp : pc + 3 = pc') (hd : decode y.2.1 pc = .ok (.invokevirtual idx, 3)) (hcv : CV y2) (hlink : Cond.methodLink y.1.cls idx y2.1 ∈ tb) (hlen : (parseMethodDescriptor y2.1.desc).map (fun d => d.parameters.length) = some n) (hAs : As.length = n)
    (hst : st = As.reverse ++ .ref c :: rest) (hdep : d2 + 1 ≤ d) (hcat : (rest.map fun v => v.category).sum ≤ 8) (hc : c < w.1) (hk : w.2.1 c = .inl ci) (hci : vwCl[ci]? = some cT) (hcls : cT.1 = y2.1.cls) (hmc : nc + mc2 ≤ mc) (hms : ns + ms2 ≤ ms)
    (k : Call d2 mc2 ms2 y2 (.ref c :: As) w (fun v w' => PW d mc ms y (nc + mc2) (ns + ms2) pc' lv (v.toList ++ rest) w' Q)) : PW d mc ms y nc ns pc lv st w Q := by
  subst hp
  intro p l e s m args below meth cd G B H locs ls C hK hP hS hB hl
  subst hst
  obtain ⟨i1, i2, i3, i4, i5, i6⟩ := hcv
  refine pw_after (mc2 := mc2) (ms2 := ms2) (rest := rest) C hK hS hB hl (a := (Value.ref (B + c) :: As.map (rv B)).toArray) ?_
  have ht := C.2.2.2.2.2.1
  have hR : (rmd d2 mc2 ms2).frames + 1 ≤ (rmd d mc ms).frames ∧ 8 + (y2.2.2.1 + 11) + (rmd d2 mc2 ms2).locals ≤ (rmd d mc ms).locals := by
    refine ⟨hdep, ?_⟩
    show 8 + (y2.2.2.1 + 11) + 37 * d2 ≤ 37 * d
    omega
  refine va_runV (Ts := tb) (own := y.1.cls) (C := y2.1.cls) (n := n) (ws := wsM y2) (b := B + c) (bytes := y2.2.1) (maxL := y2.2.2.1) (ret := y2.2.2.2) (rm := rmd d2 mc2 ms2) (As := As.map (rv B)) ⟨C.1, C.2.1, C.2.2.2.1, C.2.2.2.2.1, ht⟩ (k l G B) ⟨callB_of n ht (wsM_good i4) rfl rfl rfl (ht _ i3) (ht _ hlink) ⟨i5.1, i5.2, hlen⟩ hR, ht _ i1, ht _ i2⟩
    ⟨pc_blind, ?_, fun U hU hW => ⟨rfl, by rw [hU]; exact hP, KK.moved hW.alike hK⟩⟩ rfl (by rw [List.length_map]; exact hAs) hl.1 ?_ ?_ hd ⟨hmc, hms⟩
  · have := va_recv hK hP.1 hci ((wl_get hc).trans (by rw [wE_obj hk]))
    rw [hcls] at this
    exact this
  · simp [rv]
  · show 2 * 0 + _ ≤ 8
    rw [map_cat]
    omega
theorem pw_callS {d2 mc2 ms2 idx : Nat} {y2 : MD} {As rest : List Value} (n : Nat) {pc' : Nat} (hp : pc + 3 = pc') (hd : decode y.2.1 pc = .ok (.invokestatic idx, 3)) (hcv : CS y2) (hlink : Cond.methodLink y.1.cls idx y2.1 ∈ tb) (hlen : (parseMethodDescriptor y2.1.desc).map (fun d => d.parameters.length) = some n) (hAs : As.length = n)
    (hst : st = As.reverse ++ rest) (hdep : d2 + 1 ≤ d) (hcat : (rest.map fun v => v.category).sum ≤ 8) (hmc : nc + mc2 ≤ mc) (hms : ns + ms2 ≤ ms)
    (k : Call d2 mc2 ms2 y2 As w (fun v w' => PW d mc ms y (nc + mc2) (ns + ms2) pc' lv (v.toList ++ rest) w' Q)) : PW d mc ms y nc ns pc lv st w Q := by
  subst hp
  intro p l e s m args below meth cd G B H locs ls C hK hP hS hB hl
  subst hst
  obtain ⟨i1, i3, i4, i5, i6⟩ := hcv
  refine pw_after (mc2 := mc2) (ms2 := ms2) (rest := rest) C hK hS hB hl (a := (As.map (rv B)).toArray) ?_
  have ht := C.2.2.2.2.2.1
  have hR : (rmd d2 mc2 ms2).frames + 1 ≤ (rmd d mc ms).frames ∧ 8 + (y2.2.2.1 + 11) + (rmd d2 mc2 ms2).locals ≤ (rmd d mc ms).locals := by
    refine ⟨hdep, ?_⟩
    show 8 + (y2.2.2.1 + 11) + 37 * d2 ≤ 37 * d
    omega
  refine va_runS (Ts := tb) (own := y.1.cls) (n := n) (ws := wsM y2) (bytes := y2.2.1) (maxL := y2.2.2.1) (ret := y2.2.2.2) (rm := rmd d2 mc2 ms2) (As := As.map (rv B)) ⟨C.1, C.2.1, C.2.2.2.1, C.2.2.2.2.1, ht⟩ (k l G B) ⟨callB_of n ht (wsM_good i4) rfl rfl rfl (ht _ i3) (ht _ hlink) ⟨i5.1, i5.2, hlen⟩ hR, ht _ i1⟩
    ⟨pc_blind, fun U hU hW => ⟨rfl, by rw [hU]; exact hP, KK.moved hW.alike hK⟩⟩ rfl (by rw [List.length_map]; exact hAs) hl.1 ?_ ?_ hd ⟨hmc, hms⟩
  · simp
  · show 2 * 0 + _ ≤ 8
    rw [map_cat]
    omega
/-- System.arraycopy of ints, where the method makes nothing -/
def wCpy (w : Wd) (c0 c1 sp dp n : Nat) : Wd := (w.1, w.2.1, w.2.2.1, fun c k => if c = c1 ∧ dp ≤ k ∧ k < dp + n then w.2.2.2 c0 (sp + (k - dp)) else w.2.2.2 c k)
theorem pw_copy {idx c0 c1 n0 n1 : Nat} {sp dp n : Int32} {rest : List Value} {pc' : Nat} (hp : pc + 3 = pc') (hd : decode y.2.1 pc = .ok (.invokestatic idx, 3)) (hlink : Cond.methodLink y.1.cls idx arraycopyName ∈ tb) (hnat : Cond.native arraycopyName ∈ tb) (hstat : Cond.static arraycopyName ∈ tb) (hini : Cond.initialized "java/lang/System" ∈ tb)
    (h0 : c0 < w.1) (h1 : c1 < w.1) (k0 : w.2.1 c0 = .inr (.inl n0)) (k1 : w.2.1 c1 = .inr (.inl n1)) (g1 : ¬ sp < 0) (g2 : ¬ dp < 0) (g3 : ¬ n < 0) (g4 : ix sp + ix n ≤ n0) (g5 : ix dp + ix n ≤ n1) (hdep : 1 ≤ d) (hcat : (rest.map fun v => v.category).sum ≤ 8)
    (kk : PW d mc ms y 0 ns pc' lv rest (wCpy w c0 c1 (ix sp) (ix dp) (ix n)) Q) : PW d mc ms y 0 ns pc lv (.int n :: .int dp :: .ref c1 :: .int sp :: .ref c0 :: rest) w Q := by
  subst hp
  intro p l e s m args below meth cd G B H locs ls C hK hP hS hB hl
  have ht := C.2.2.2.2.2.1
  intro T hT X
  have hs1 : H.size = s.heap.size := by
    have h1 := X.same.2.1
    have h2 := X.same.2.2.1
    simp only [State.setVm] at h1 h2
    rw [hT] at h1 h2
    omega
  refine va_copyi (ws := wl G B w) (A := Fr B) (ty := .int) C.1 C.2.1 (C.2.2.2.1.trans hl.1.symm) C.2.2.2.2.1 (ht _ hlink) (ht _ hnat) (ht _ hstat) (ht _ hini) hK hP.1 wl_D hS c0 c1 0 0 ((wl_get h0).trans (by rw [wE_arr k0])) ((wl_get h1).trans (by rw [wE_arr k1])) rfl rfl rfl g1 g2 g3 g4 g5 (fun i _ => rfl) hdep ?_ hd (fun H1 locs1 hP1 _ hS1 => ?_) T hT X
  · rw [map_cat]
    show _ + (nativeFrameWords "java/lang/System" "arraycopy" 5 + 11) ≤ 37 * d
    have : nativeFrameWords "java/lang/System" "arraycopy" 5 ≤ 18 := by decide
    omega
  · intro T1 hT1 X1
    have hs2 : H1.size = s.heap.size := by
      have h1 := X1.same.2.1
      have h2 := X1.same.2.2.1
      simp only [State.setVm] at h1 h2
      rw [hT1] at h1 h2
      omega
    have hP2 : va_P G.1 vwCl (wl G B (wCpy w c0 c1 (ix sp) (ix dp) (ix n))) H1 := by
      have hcell : ∀ c', c' ≠ c1 → (wCpy w c0 c1 (ix sp) (ix dp) (ix n)).2.2.2 c' = w.2.2.2 c' := fun c' h => funext fun j => by simp [wCpy, h]
      have e2 : ∀ c', c' ≠ c1 → wE G B (wCpy w c0 c1 (ix sp) (ix dp) (ix n)) c' = wE G B w c' := by
        intro c' h
        have e := hcell c' h
        unfold wE
        show (match w.2.1 c' with | .inl ci => _ | .inr (.inl n) => _ | .inr (.inr n) => _) = _
        cases w.2.1 c' with
        | inl ci => exact congrArg (fun x => Sum.inr (ci, x)) (wF_eq (fun j _ => ⟨rfl, congrFun e _⟩))
        | inr x =>
          cases x with
          | inl n => show (Sum.inl _ : va_E) = Sum.inl _; rw [e]
          | inr n => rfl
      rw [wl_set (w := w) (w' := wCpy w c0 c1 (ix sp) (ix dp) (ix n)) rfl e2 (by
        rw [wE_arr (n := n1) (by exact k1)]
        refine congrArg (fun f => (Sum.inl (G.2.1, n1, Sum.inl f) : va_E)) (funext fun j => ?_)
        show (if c1 = c1 ∧ _ then _ else _) = va_cpy _ _ _ _ _ _
        unfold va_cpy
        simp)] at hP1
      exact hP1
    exact kk p l e s m args below meth cd G B H1 locs1 ls C hK ⟨hP2, by rw [hs2, ← hs1]; exact hP.2⟩ hS1 hB hl T1 hT1 X1
abbrev jmax (x z : Int32) : Int32 := if x < z then z else x
abbrev jmin (x z : Int32) : Int32 := if z < x then z else x
theorem pw_max {idx : Nat} {x z : Int32} {pc' : Nat} (hp : pc + 3 = pc') (hd : decode y.2.1 pc = .ok (.invokestatic idx, 3)) (hlink : Cond.methodLink y.1.cls idx Lib.Math.max.name ∈ tb) (h1 : Cond.static Lib.Math.max.name ∈ tb) (h2 : Cond.initialized "java/lang/Math" ∈ tb) (h3 : Cond.code Lib.Math.max.name Lib.Math.max.code 2 (some .int) ∈ tb) (hdep : 1 ≤ d) (hcat : (st.map fun v => v.category).sum ≤ 8) (hnc : nc ≤ mc) (hns : ns ≤ ms)
    (k : PW d mc ms y nc ns pc' lv (.int (jmax x z) :: st) w Q) : PW d mc ms y nc ns pc lv (.int z :: .int x :: st) w Q := by
  subst hp
  intro p l e s m args below meth cd G B H locs ls C hK hP hS hB hl
  have ht := C.2.2.2.2.2.1
  refine va_mmax C.1 C.2.1 (C.2.2.2.1.trans hl.1.symm) C.2.2.2.2.1 (ht _ hlink) (ht _ h1) (ht _ h2) (ht _ h3) hdep ?_ hnc hns hd (k p l e s m args below meth cd G B H locs ls C hK hP hS hB hl)
  rw [map_cat]
  show _ + 13 ≤ 37 * d
  omega
theorem pw_min {idx : Nat} {x z : Int32} {pc' : Nat} (hp : pc + 3 = pc') (hd : decode y.2.1 pc = .ok (.invokestatic idx, 3)) (hlink : Cond.methodLink y.1.cls idx Lib.Math.min.name ∈ tb) (h1 : Cond.static Lib.Math.min.name ∈ tb) (h2 : Cond.initialized "java/lang/Math" ∈ tb) (h3 : Cond.code Lib.Math.min.name Lib.Math.min.code 2 (some .int) ∈ tb) (hdep : 1 ≤ d) (hcat : (st.map fun v => v.category).sum ≤ 8) (hnc : nc ≤ mc) (hns : ns ≤ ms)
    (k : PW d mc ms y nc ns pc' lv (.int (jmin x z) :: st) w Q) : PW d mc ms y nc ns pc lv (.int z :: .int x :: st) w Q := by
  subst hp
  intro p l e s m args below meth cd G B H locs ls C hK hP hS hB hl
  have ht := C.2.2.2.2.2.1
  refine va_mmin C.1 C.2.1 (C.2.2.2.1.trans hl.1.symm) C.2.2.2.2.1 (ht _ hlink) (ht _ h1) (ht _ h2) (ht _ h3) hdep ?_ hnc hns hd (k p l e s m args below meth cd G B H locs ls C hK hP hS hB hl)
  rw [map_cat]
  show _ + 13 ≤ 37 * d
  omega
end Calls9
