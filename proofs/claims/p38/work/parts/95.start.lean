/-! ===== the law from its entry ===== -/
def R_law : String := "BackStairsLaw"
def lw_P (b : Addr) (xs : List Int32) (args : Array Value) (s : State) : Prop := args = #[.ref b] ∧ s.IntsAt b xs ∧ xs.length ≤ 260 ∧ (Jvm.Cond.and given_1 narrow_1).before args s = true
def lw_Q (_ : Array Value) (s : State) (o : Outcome) (t : State) : Prop := o = .returned (some (.int 1)) ∧ Framed s o t [] 600000 7302250
def lw_Z (below : List Frame) (a : Array Value) (s : State) : State → Prop := fun t => ∃ o, t.status = .running ∧ Ended t below o ∧ lw_Q a s o t
theorem lw_ret {p : Program} {l : Launch} {e : Env} {s : State} {m : MethodId} {below : List Frame} {meth : Method} {c : Code} {b : Nat} (hx : p.tables.exec = Jvm.exec) (hb : c.code = code) (hr : meth.sig.returnType = ret) (hlocks : meth.locks = false) {pc : Nat} {H : Heap} {ls : Array Slot} (hdg : decode code pc = .ok (.ireturn, 1)) : W p l e room_1 s m #[Value.ref b] below meth c H [] 600000 7302250 (lw_Z below #[Value.ref b] s) (F0 m pc ls [.int 1]) := by
  intro T hT X
  obtain ⟨fs, hret, hrun, hended, hW, hframe⟩ := X.leave (v := some (.int 1)) (hlocks := hlocks) (fun h => by rw [hr] at h; cases h)
  have hmeth' : T.vm.method? m = some meth := X.method'
  refine ⟨T.setFrames fs, ?_, .returned (some (.int 1)), hrun, hended, rfl, ⟨_, rfl⟩, hW, hframe⟩
  jvm_step X.here [X.here.top, hx, hb, hdg, hmeth', hr, ret, narrow_b1]
  (try refine ⟨rfl, ?_⟩); (try refine ⟨rfl, ?_⟩)
  first | (intro acts; rw [hret _ acts rfl rfl rfl]) | rw [hret _ _ rfl rfl rfl]
  exact Steps.refl _
def lw_At (p : Program) (s : State) (m : MethodId) (meth : Method) (c : Code) (b L : Nat) (xs : Nat → Int32) : Prop :=
  p.tables.exec = Jvm.exec ∧ c.code = code ∧ meth.sig.returnType = ret ∧ c.maxLocals = 19 ∧ s.vm.findClass R_law = some m.cls ∧ (∀ w ∈ lw_tbl, w.before #[Value.ref b] s = true) ∧ va_X b L xs s s.heap ∧ b < s.heap.size ∧ meth.locks = false ∧ (Jvm.Cond.and given_1 narrow_1).before #[Value.ref b] s = true ∧ meth.name = yL_law.name

def psF : List (Nat × Nat × Nat) := (0, 13, 175) :: (0, 12, 174) :: (0, 11, 167) :: (167, 1, 37) :: (167, 0, 1) :: (167, 2, 168) :: (0, 10, 124) :: (124, 2, 95) :: (124, 1, 30) :: (124, 0, 1) :: (124, 10, 166) :: (124, 9, 165) :: (124, 8, 164) :: (124, 7, 160) :: (124, 6, 135) :: (124, 5, 130) :: (130, 4, 134) :: (130, 3, 133) :: (130, 2, 132) :: (130, 1, 131) :: (124, 4, 125) :: (125, 4, 129) :: (125, 3, 128) :: (125, 2, 127) :: (125, 1, 126) :: (0, 9, 95) :: (95, 0, 1) :: (95, 5, 123) :: (95, 4, 122) :: (95, 3, 97) :: (95, 2, 96) :: (0, 8, 87) :: (87, 2, 90) :: (87, 1, 89) :: (87, 0, 88) :: (0, 7, 85) :: (85, 1, 86) :: (0, 5, 79) :: (79, 10, 84) :: (79, 9, 83) :: (79, 8, 82) :: (79, 7, 81) :: (79, 6, 80) :: (0, 4, 72) :: (72, 9, 78) :: (72, 8, 77) :: (72, 7, 76) :: (72, 6, 75) :: (72, 5, 74) :: (72, 4, 73) :: (0, 3, 43) :: (43, 7, 61) :: (43, 6, 50) :: (43, 5, 46) :: (43, 4, 45) :: (43, 3, 44) :: (0, 2, 37) :: (37, 10, 42) :: (37, 9, 41) :: (37, 8, 40) :: (37, 7, 39) :: (37, 6, 38) :: (0, 1, 30) :: (30, 9, 36) :: (30, 8, 35) :: (30, 7, 34) :: (30, 6, 33) :: (30, 5, 32) :: (30, 4, 31) :: (0, 0, 1) :: (1, 7, 19) :: (1, 6, 8) :: (1, 5, 4) :: (1, 4, 3) :: (1, 3, 2) :: []
def obL : List Nat := [0, 1, 30, 37, 43, 72, 79, 85, 87, 95, 124, 125, 130, 167]
theorem psF_lt : ∀ q ∈ psF, q.1 < 186 ∧ q.2.1 < 50 := by decide +kernel
theorem obL_in : ∀ c, c < 186 → (kd0 c).isLeft = true → c ∈ obL := by decide +kernel
theorem obL_eq : ∀ c ∈ obL, ∀ k, k < 50 → (psF.find? (fun q => q.1 == c && q.2.1 == k)).map (fun q => q.2.2) = (ob0 c).getD k none := by decide +kernel
theorem obL_len : ∀ c ∈ obL, (ob0 c).length ≤ 50 := by decide +kernel
theorem ob0_big {c : Nat} (h : 186 ≤ c) : ob0 c = [] := by
  unfold ob0
  split <;> first | rfl | (exfalso; omega)
theorem psF_none {c k : Nat} (h : 186 ≤ c ∨ 50 ≤ k) : psF.find? (fun q => q.1 == c && q.2.1 == k) = none := by
  rw [List.find?_eq_none]
  intro q hq
  have := psF_lt q hq
  simp only [Bool.and_eq_true, beq_iff_eq, not_and]
  intro e e2
  omega
theorem RPS_fin : RPS psF = RM0 := by
  funext c k
  unfold RPS RM0
  cases hk : kd0 c with
  | inr x => cases x <;> rfl
  | inl ci =>
    show (psF.find? _).map _ = (ob0 c).getD k none
    rcases Nat.lt_or_ge c 186 with hc | hc
    · have hin := obL_in c hc (by rw [hk]; rfl)
      rcases Nat.lt_or_ge k 50 with h5 | h5
      · exact obL_eq c hin k h5
      · rw [psF_none (Or.inr h5), List.getD_eq_getElem?_getD, List.getElem?_eq_none (Nat.le_trans (obL_len c hin) h5)]
        rfl
    · rw [psF_none (Or.inl hc), ob0_big hc]
      rfl
theorem ao_spec {args : Array Value} {s : State} (h : (Cond.arrayOver (.array .int)).before args s = true) :
    ∃ comp c k, s.vm.classes[c]? = some k ∧ k.kind = .array comp (.array .int) ∧ s.vm.findClass ("[" ++ (FieldType.array .int).toString) = some c := by
  simp only [Cond.before, Cond.holds, Cond.value, beq_iff_eq] at h
  cases hc : s.vm.findClass (FieldType.array .int).toString with
  | none => simp [hc] at h
  | some comp =>
    simp only [hc, Option.bind_some, Option.bind_eq_some_iff, Option.map_eq_some_iff] at h
    obtain ⟨c, hi, k, hk, hb⟩ := h
    obtain ⟨hlt, hp, -⟩ := Array.findIdx?_eq_some_iff_getElem.mp hi
    have hkk : s.vm.classes[c] = k := (Array.getElem?_eq_some_iff.mp hk).2
    rw [hkk] at hp
    cases hkind : k.kind with
    | array component ty =>
      rw [hkind] at hb hp
      simp at hb hp
      exact ⟨comp, c, k, hk, by rw [hkind, hp, hb.1], hb.2⟩
    | _ => rw [hkind] at hb; simp at hb
theorem kk_start {s : State} {args : Array Value} (hts : ∀ w ∈ lw_tbl, w.before args s = true) : ∃ G, KK G s := by
  have ht := tb_of hts
  obtain ⟨c0, i0, h0⟩ := u_known ht cf_0.2.1 (ht _ is_X0)
  obtain ⟨c1, i1, h1⟩ := u_known ht cf_1.2.1 (ht _ is_X1)
  obtain ⟨c2, i2, h2⟩ := u_known ht cf_2.2.1 (ht _ is_X2)
  obtain ⟨c3, i3, h3⟩ := u_known ht cf_3.2.1 (ht _ is_X3)
  obtain ⟨c4, i4, h4⟩ := u_known ht cf_4.2.1 (ht _ is_X4)
  obtain ⟨c5, i5, h5⟩ := u_known ht cf_5.2.1 (ht _ is_X5)
  obtain ⟨c6, i6, h6⟩ := u_known ht cf_6.2.1 (ht _ is_X6)
  obtain ⟨c7, i7, h7⟩ := u_known ht cf_7.2.1 (ht _ is_X7)
  obtain ⟨c8, i8, h8⟩ := u_known ht cf_8.2.1 (ht _ is_X8)
  obtain ⟨c9, i9, h9⟩ := u_known ht cf_9.2.1 (ht _ is_X9)
  have key : ∀ k : Nat, ∃ (cC : ClassId) (iS : Nat → Nat), ∀ q : vw_C, vwCl[k]? = some q → u_Kn s q.1 q.2.1 q.2.2 cC iS := by
    intro k
    match k with
    | 0 => exact ⟨c0, i0, fun q hq => by cases hq; exact h0⟩
    | 1 => exact ⟨c1, i1, fun q hq => by cases hq; exact h1⟩
    | 2 => exact ⟨c2, i2, fun q hq => by cases hq; exact h2⟩
    | 3 => exact ⟨c3, i3, fun q hq => by cases hq; exact h3⟩
    | 4 => exact ⟨c4, i4, fun q hq => by cases hq; exact h4⟩
    | 5 => exact ⟨c5, i5, fun q hq => by cases hq; exact h5⟩
    | 6 => exact ⟨c6, i6, fun q hq => by cases hq; exact h6⟩
    | 7 => exact ⟨c7, i7, fun q hq => by cases hq; exact h7⟩
    | 8 => exact ⟨c8, i8, fun q hq => by cases hq; exact h8⟩
    | 9 => exact ⟨c9, i9, fun q hq => by cases hq; exact h9⟩
    | k + 10 => exact ⟨c0, i0, fun q hq => by simp [vwCl] at hq⟩
  obtain ⟨a1, k1, p1, n1, q1, r1⟩ := Cond.arrayClass_spec (ht _ aw_c)
  obtain ⟨p2, a2, k2, q2, r2, n2⟩ := ao_spec (hts (Cond.arrayOver (.array .int)) (List.mem_of_getElem? (i := 61) (by decide +kernel)))
  refine ⟨((fun k => (key k).choose, fun k => (key k).choose_spec.choose), a1, a2), fun k q hq => (key k).choose_spec.choose_spec q hq, fun k q hq => ?_⟩
  match k, hq with
  | 0, hq => cases hq; exact ⟨fun N z => ⟨(fun k h => by cases h), k1, q1, p1, r1⟩, n1⟩
  | 1, hq => cases hq; exact ⟨fun N z => ⟨(fun k h => by cases h), k2, q2, p2, r2⟩, n2⟩
  | k + 2, hq => simp at hq
theorem nw_start {args : Array Value} {s : State} (hts : ∀ w ∈ lw_tbl, w.before args s = true) : NW s := by
  refine ⟨fun w hw => ?_, hts (Cond.arrayOver (.array .int)) (List.mem_of_getElem? (i := 61) (by decide +kernel))⟩
  simp only [NWl, List.mem_cons, List.not_mem_nil, or_false] at hw
  rcases hw with rfl | rfl | rfl | rfl | rfl
  · exact va_Nw.of rfl (hts _ (List.mem_of_getElem? (i := 56) (by decide +kernel)))
  · exact va_Nw.of rfl (hts _ (List.mem_of_getElem? (i := 103) (by decide +kernel)))
  · exact va_Nw.of rfl (hts _ (List.mem_of_getElem? (i := 153) (by decide +kernel)))
  · exact va_Nw.of rfl (hts _ (List.mem_of_getElem? (i := 210) (by decide +kernel)))
  · exact va_Nw.of rfl (hts _ (List.mem_of_getElem? (i := 282) (by decide +kernel)))
def NX (X : HX) : Prop := NW X.2.2.2.2.1
section SRows5
variable {y : MD} {d mc ms : Nat} {X : HX} {L : Nat} {xs : Nat → Int32} {nc ns pc : Nat} {lv : List (Nat × Value)} {st : List Value} {w : Wd}
theorem SW_eq {n n' : Nat} {kd : Nat → Kd} {R R' : Nat → Nat → Option Nat} {M : Mem} (h : R = R') (hn : n = n') (k : SW y X nc ns pc lv st (n', kd, R', M)) : SW y X nc ns pc lv st (n, kd, R, M) := by
  subst h; subst hn; exact k
theorem lr_new {n N ci index : Nat} {Cn : String} {T9 : u_T} {kd : Nat → Kd} {R9 : Nat → Nat → Option Nat} {M : Mem} {pc' nc' ns' n' : Nat} (C : LC y d mc ms X L xs) (hp : pc + 3 = pc') (hc1 : nc + 1 = nc') (hs1 : ns + N = ns') (hn1 : n + 1 = n') (hk : kd n = .inl ci) (hc : vwCl[ci]? = some (Cn, T9, N)) (hin : ∀ w ∈ u_ws Cn T9 N, w ∈ tb) (ty : Nat → FieldType) (hty : ∀ k, k < N → parseFieldDescriptor (T9 k).2.2.1 = some (ty k)) (hfs : ∀ j, j < N → defaultValue (ty j) = vp_V (f0L (cfl ci)) j) (hw : ∀ j, R9 n j = none ∧ M n j = nI 0) (hcells : nc + 1 ≤ mc) (hslots : ns + N ≤ ms) (hd : decode y.2.1 pc = .ok (.new index, 3)) (hcl : Cond.classLink y.1.cls index Cn ∈ tb) (hinst : Cond.instantiable Cn N ∈ tb) (hini : Cond.initialized Cn ∈ tb) (k : SW y X nc' ns' pc' lv (.ref (BX X + n) :: st) (n', kd, R9, M)) : SW y X nc ns pc lv st (n, kd, R9, M) := by
  subst hp
  subst hc1
  subst hs1
  subst hn1
  obtain ⟨p, l, e, R, s, m, args, below, meth, c, b, G, B, Z⟩ := X
  obtain ⟨⟨C, hK, hX⟩, hbB, hBs, r1, r2, r3, r4, hL⟩ := C
  intro H locs ls hP hS hl
  have hKn := hK.1 ci _ hc
  have ht := C.2.2.2.2.2.1
  refine W.newcK C.1 C.2.1 C.2.2.2.2.1 (ht _ hcl) (ht _ hinst) (ht _ hini) rfl hd (Nat.le_trans hcells r3) (Nat.le_trans hslots r4) hKn.2.1 hP.2 fun H1 kC hkC e1 z1 o1 => ?_
  have hk2 : ∀ (k9 : Nat) (x : Nat × va_E), (wl G B (n, kd, R9, M))[k9]? = some x → H1[x.1]? = H[x.1]? := fun k9 x hx => o1 x.1 (by rw [← hP.2]; exact (hP.1 k9 x hx).lt)
  refine k H1 locs ls ⟨?_, ?_⟩ ⟨Nat.le_trans hS.1 (by rw [z1, hP.2]; exact Nat.le_succ _), fun x h1 h2 => (o1 x (by rw [← hP.2]; exact Nat.lt_of_lt_of_le h1 hS.1)).trans (hS.2.1 x h1 h2), hS.2.2⟩ hl
  · rw [wl_succ]
    refine (hP.1.kept hk2).app (fun k9 x hx => ?_)
    have h0 : k9 < 1 := (List.getElem?_eq_some_iff.mp hx).1
    rw [show k9 = 0 by omega] at hx
    cases hx
    rw [wE_obj hk, wF_0 _ _ hw]
    exact ⟨_, hc, (u_born ty ht hin hKn hkC e1 hty).to hfs⟩
  · rw [z1]; rfl
theorem lr_callI {d2 mc2 ms2 idx : Nat} {y2 : MD} {rest : List Value} {c0 : Nat} {pc' nc' ns' : Nat} (C : LC y d mc ms X L xs) (hN : NX X) (hp : pc + 3 = pc') (hc1 : nc + mc2 = nc') (hs1 : ns + ms2 = ns') (hd : decode y.2.1 pc = .ok (.invokespecial idx, 3)) (hci : CI y2) (hlink : Cond.methodLink y.1.cls idx y2.1 ∈ tb) (hlen : (parseMethodDescriptor y2.1.desc).map (fun d => d.parameters.length) = some 0) (hdep : d2 + 1 ≤ d) (hcat : (rest.map fun v => v.category).sum ≤ 8) (hmc : nc' ≤ mc) (hms : ns' ≤ ms)
    (k : CallN d2 mc2 ms2 y2 [.ref c0] w (fun v w' => v = none ∧ SW y X nc' ns' pc' lv rest w')) : SW y X nc ns pc lv (.ref (BX X + c0) :: rest) w := by
  subst hp
  subst hc1
  subst hs1
  obtain ⟨p, l, e, R, s, m, args, below, meth, c, b, G, B, Z⟩ := X
  obtain ⟨⟨C, hK, hX⟩, hbB, hBs, r1, r2, r3, r4, hL⟩ := C
  intro H locs ls hP hS hl T hT Xs
  have hN : NW s := hN
  obtain ⟨i1, i3, i4, i5, i6, i7, i8⟩ := hci
  have ht := C.2.2.2.2.2.1
  have hR : (rmd d2 mc2 ms2).frames + 1 ≤ R.frames ∧ 8 + (y2.2.2.1 + 11) + (rmd d2 mc2 ms2).locals ≤ R.locals := by
    refine ⟨show d2 + 1 ≤ R.frames by omega, ?_⟩
    show 8 + (y2.2.2.1 + 11) + 37 * d2 ≤ R.locals
    omega
  have hr1 : va_Run p l e R s m args below meth c H locs nc ns mc2 ms2 (F0 m pc ls (.ref (B + c0) :: rest)) rest (QQ G B (fun v w' => v = none ∧ SW y (p, l, e, R, s, m, args, below, meth, c, b, G, B, Z) (nc + mc2) (ns + ms2) (pc + 3) lv rest w') #[Value.ref (B + c0)]) (Fr B) :=
    va_runI (Ts := tb) (own := y.1.cls) (n := 0) (ws := wsM y2) (b := B + c0) (bytes := y2.2.1) (maxL := y2.2.2.1) (rm := rmd d2 mc2 ms2) (As := []) ⟨C.1, C.2.1, C.2.2.2.1, C.2.2.2.2.1, ht⟩ (k l G B) ⟨by rw [← i8]; exact callB_of 0 ht (wsM_good i4) rfl rfl rfl (ht _ i3) (ht _ hlink) ⟨i5.1, i5.2, hlen⟩ hR, i7, ht _ i1⟩
    ⟨pn_blind, fun U hU hW => ⟨rfl, by rw [hU]; exact hP, KK.moved hW.alike hK, NW.warm hW hN⟩⟩ rfl rfl hl.1 rfl (by show 2 * 0 + _ ≤ 8; omega) hd ⟨Nat.le_trans hmc r3, Nat.le_trans hms r4⟩
  obtain ⟨v, st₀, t, T', L9, h0, X', hL9, e1, e2, ⟨⟨v', w', hv, hq, hRp, hKt⟩, hF⟩, stp⟩ := hr1 T hT Xs
  have hv : v = v'.map (rv B) := by cases hv; rfl
  subst hv
  obtain ⟨rfl, hq⟩ := hq
  have hS' : va_S (Fr B) s.heap T'.heap (locs ++ L9) := ⟨Nat.le_trans hS.1 (by rw [e1]; have := hF.1; rw [h0] at this; exact this), fun q h1 h2 => by
      rw [e1, hF.2 q (by rw [h0]; exact Nat.lt_of_lt_of_le h1 hS.1) h2, h0]; exact hS.2.1 q h1 h2, fun q hq => by
      rcases List.mem_append.mp hq with h | h
      · exact hS.2.2 q h
      · exact hL9 q h⟩
  obtain ⟨t2, a1, b1⟩ := hq T'.heap (locs ++ L9) ls (by rw [e1]; exact hRp) hS' hl T' rfl X'
  exact ⟨t2, stp t2 a1, b1⟩
end SRows5
theorem law_run {X : HX} {L : Nat} {xs : Nat → Int32} {Q : Int32 → Mem → Prop} (C : LC mdL_law 9 600000 7302250 X L xs) (hN : NX X) (R : RT mdL_law X 186 2099 Q) (hQ : ∀ M, Q (nI 1) M) : SW mdL_law X 0 0 0 [(0, .ref (bX X))] [] (0, kd0, RPS [], fun _ _ => nI 0) := by
  refine lr_new (N := 14) (ci := 9) (n := 0) (pc' := 3) (nc' := 1) (ns' := 14) (n' := 1) C rfl rfl rfl rfl rfl cf_9.1 cf_9.2.1 _ cf_9.2.2.1 nw_9 (fun j => ⟨RPS_none (ci := 9) rfl rfl j, rfl⟩) (Nat.le_of_ble_eq_true rfl) (Nat.le_of_ble_eq_true rfl) dL_law_0 cl_L_16 is_X9 in_X9 ?_
  refine lr_dup (pc' := 4) C rfl dL_law_3 rfl ?_
  refine lr_callI (d2 := 3) (mc2 := 181) (ms2 := 2003) (pc' := 7) (nc' := 182) (ns' := 2017) (rest := [.ref (BX X + 0)]) (c0 := 0) C hN rfl rfl rfl dL_law_4 ci_X9_init ml_L_50 (by decide +kernel) (by decide) (Nat.le_of_ble_eq_true rfl) (Nat.le_of_ble_eq_true rfl) (Nat.le_of_ble_eq_true rfl) (CallN.mono (n_X9_init_0 (fun _ _ _ => rfl)) ?_)
  rintro v w ⟨rfl, M1, f1, f2, rfl⟩
  refine ⟨rfl, ?_⟩
  refine lr_astore_n (pc' := 8) (lv' := [(0, .ref (bX X)), (1, .ref (BX X + 0))]) [1, 0] C rfl dL_law_7 rfl (by decide) rfl ?_
  have g0 : 182 = 182 + gx M1 := by
    have : gx M1 = 0 := by unfold gx; rw [f2 _ _ (by omega), ix_n (by omega)]
    omega
  refine SW_eq RPS_fin g0 ?_
  exact law_main C R hQ (fun c k hc => f2 c k hc) f1
theorem whole_start {p : Program} {e : Env} {s : State} {m : MethodId} {below : List Frame} {meth : Method} {c : Code} (l : Launch) (hflags : l.flags = flags0) {b L : Nat} {xs : Nat → Int32} (hL : L ≤ 260) (C0 : lw_At p s m meth c b L xs) : W p l e room_1 s m #[Value.ref b] below meth c s.heap [] 0 0 (lw_Z below #[Value.ref b] s) (entryFrame m ([Value.ref b] : List Value).toArray 19) := by
  obtain ⟨hx, hb, hr, hml, hown, hts, hX, hbl, hlk, hgv, hnm⟩ := C0
  obtain ⟨G, hK⟩ := kk_start hts
  have CC : Cx p s m #[Value.ref b] meth c mdL_law := ⟨hx, hb, hr, hml, hown, tb_of hts, hlk, hnm⟩
  have LX0 : LC mdL_law 9 600000 7302250 (p, l, e, room_1, s, m, #[Value.ref b], below, meth, c, b, G, s.heap.size, lw_Z below #[Value.ref b] s) L xs := ⟨⟨CC, hK, hX⟩, hbl, Nat.le_refl _, Nat.le_of_ble_eq_true rfl, Nat.le_of_ble_eq_true rfl, Nat.le_refl _, Nat.le_refl _, hL⟩
  have RT0 : RT mdL_law (p, l, e, room_1, s, m, #[Value.ref b], below, meth, c, b, G, s.heap.size, lw_Z below #[Value.ref b] s) 186 2099 (fun r _ => r = nI 1) := by
    intro pc lv r M hd hr1
    subst hr1
    exact fun H locs ls hP hS hl => va_forget (fun q hq => hS.2.2 q hq) (W.widen (k := 600000) (n := 7302250) (Nat.le_of_ble_eq_true rfl) (Nat.le_of_ble_eq_true rfl) (lw_ret hx hb hr hlk hd))
  have hl := lv_entry ([.ref b]) (n := 19) (Nat.le_of_ble_eq_true rfl)
  rw [lg_entry_eq]
  generalize (lg_sl ([.ref b]) ++ List.replicate (19 - (lg_sl ([.ref b])).length) Slot.unset).toArray = ls at hl ⊢
  exact law_run LX0 (nw_start hts) RT0 (fun _ => rfl) s.heap [] ls ⟨fun k q h => by simp [wl] at h, rfl⟩ va_S.rf hl
