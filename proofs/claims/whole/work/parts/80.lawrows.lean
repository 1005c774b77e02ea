/-! THE CLAIM OUT OF ONE WALK OF THE LAW'S BODY. Your part is whole_start (and what it stands on); all else here is the same for every law, but numbers. -/
def R_law : String := "BackStairsLaw"
def lw_P (b : Addr) (xs : List Int32) (args : Array Value) (s : State) : Prop := args = #[.ref b] ∧ s.IntsAt b xs ∧ xs.length ≤ 3072 ∧ (Jvm.Cond.and given_1 narrow_1).before args s = true
def lw_Q (_ : Array Value) (s : State) (o : Outcome) (t : State) : Prop := o = .returned (some (.int 1)) ∧ Framed s o t [] 600000 7302250
def lw_Z (below : List Frame) (a : Array Value) (s : State) : State → Prop := fun t => ∃ o, t.status = .running ∧ Ended t below o ∧ lw_Q a s o t
/-- the law's own end, with 1 on the stack, nothing written that was there before, its room as the claim has it -/
theorem lw_ret {p : Program} {l : Launch} {e : Env} {s : State} {m : MethodId} {below : List Frame} {meth : Method} {c : Code} {b : Nat} (hx : p.tables.exec = Jvm.exec) (hb : c.code = code) (hr : meth.sig.returnType = ret) (hlocks : meth.locks = false) {pc : Nat} {H : Heap} {ls : Array Slot} (hdg : decode code pc = .ok (.ireturn, 1)) : W p l e room_1 s m #[Value.ref b] below meth c H [] 600000 7302250 (lw_Z below #[Value.ref b] s) (F0 m pc ls [.int 1]) := by
  intro T hT X
  obtain ⟨fs, hret, hrun, hended, hW, hframe⟩ := X.leave (v := some (.int 1)) (hlocks := hlocks) (fun h => by rw [hr] at h; cases h)
  have hmeth' : T.vm.method? m = some meth := X.method'
  refine ⟨T.setFrames fs, ?_, .returned (some (.int 1)), hrun, hended, rfl, ⟨_, rfl⟩, hW, hframe⟩
  jvm_step X.here [X.here.top, hx, hb, hdg, hmeth', hr, ret, narrow_b1]
  (try refine ⟨rfl, ?_⟩); (try refine ⟨rfl, ?_⟩)
  first | (intro acts; rw [hret _ acts rfl rfl rfl]) | rw [hret _ _ rfl rfl rfl]
  exact Steps.refl _
/-- what holds at the law's entry: the machine, the code, the tables' words (any of lw_tbl by 'hts w (by decide +kernel)'), the script of L ints xs at the cell b, what the Statement gives of the start (any of its parts by flat_of_before) -/
def lw_At (p : Program) (s : State) (m : MethodId) (meth : Method) (c : Code) (b L : Nat) (xs : Nat → Int32) : Prop :=
  p.tables.exec = Jvm.exec ∧ c.code = code ∧ meth.sig.returnType = ret ∧ c.maxLocals = 4 ∧ s.vm.findClass R_law = some m.cls ∧ (∀ w ∈ lw_tbl, w.before #[Value.ref b] s = true) ∧ va_X b L xs s s.heap ∧ b < s.heap.size ∧ meth.locks = false ∧ (Jvm.Cond.and given_1 narrow_1).before #[Value.ref b] s = true
/-! ===== the law's own activation ===== -/
abbrev LX : Type := Program × Launch × Env × State × MethodId × List Frame × Method × Code × Nat × Dg
abbrev sX (X : LX) : State := X.2.2.2.1
abbrev bX (X : LX) : Nat := X.2.2.2.2.2.2.2.2.1
abbrev BX (X : LX) : Nat := X.2.2.2.1.heap.size
def LW (X : LX) (nc ns pc : Nat) (lv : List (Nat × Value)) (st : List Value) (w : Wd) : Prop := match X with
  | (p, l, e, s, m, below, meth, c, b, G) => ∀ (H : Heap) (locs : List Loc) (ls : Array Slot), Rp G s.heap.size w H → va_S (Fr s.heap.size) s.heap H locs → lv_has ls 4 lv → W p l e room_1 s m #[Value.ref b] below meth c H locs nc ns (lw_Z below #[Value.ref b] s) (F0 m pc ls st)
def LC (X : LX) (L : Nat) (xs : Nat → Int32) : Prop := match X with
  | (p, _, _, s, m, _, meth, c, b, G) => lw_At p s m meth c b L xs ∧ KK G s ∧ NW s
section LRows
variable {X : LX} {L : Nat} {xs : Nat → Int32} {nc ns pc : Nat} {lv : List (Nat × Value)} {st : List Value} {w : Wd}
theorem lr_iconst {n : Int} {v : Int32} {pc' : Nat} (C : LC X L xs) (hp : pc + 1 = pc') (hd : decode code pc = .ok (.iconst n, 1)) (hv : Int32.ofInt n = v) (k : LW X nc ns pc' lv (.int v :: st) w) : LW X nc ns pc lv (st) w := by
  subst hp
  obtain ⟨p, l, e, s, m, below, meth, c, b, G⟩ := X
  obtain ⟨⟨hx, hb, hr, hml, hown, hts, hX, hbl, hlk, hgv⟩, hK, hN⟩ := C
  exact fun H locs ls hP hS hl => lv_iconst hx hb hd hv (k H locs ls hP hS hl)
theorem lr_bipush {n : Int} {v : Int32} {pc' : Nat} (C : LC X L xs) (hp : pc + 2 = pc') (hd : decode code pc = .ok (.bipush n, 2)) (hv : (Int8.ofInt n).toInt32 = v) (k : LW X nc ns pc' lv (.int v :: st) w) : LW X nc ns pc lv (st) w := by
  subst hp
  obtain ⟨p, l, e, s, m, below, meth, c, b, G⟩ := X
  obtain ⟨⟨hx, hb, hr, hml, hown, hts, hX, hbl, hlk, hgv⟩, hK, hN⟩ := C
  exact fun H locs ls hP hS hl => lv_bipush hx hb hd hv (k H locs ls hP hS hl)
theorem lr_iload_n {q : Fin 4} {i : Nat} {x : Int32} (j : Nat) {pc' : Nat} (C : LC X L xs) (hp : pc + 1 = pc') (hd : decode code pc = .ok (.iload_n q, 1)) (hi : (q : Nat) = i) (hj : lv[j]? = some (i, .int x)) (k : LW X nc ns pc' lv (.int x :: st) w) : LW X nc ns pc lv (st) w := by
  subst hp
  obtain ⟨p, l, e, s, m, below, meth, c, b, G⟩ := X
  obtain ⟨⟨hx, hb, hr, hml, hown, hts, hX, hbl, hlk, hgv⟩, hK, hN⟩ := C
  exact fun H locs ls hP hS hl => lv_iload_n hx hb hd hi (lv_at hl j hj) (k H locs ls hP hS hl)
theorem lr_aload_n {q : Fin 4} {i x : Nat} (j : Nat) {pc' : Nat} (C : LC X L xs) (hp : pc + 1 = pc') (hd : decode code pc = .ok (.aload_n q, 1)) (hi : (q : Nat) = i) (hj : lv[j]? = some (i, .ref x)) (k : LW X nc ns pc' lv (.ref x :: st) w) : LW X nc ns pc lv (st) w := by
  subst hp
  obtain ⟨p, l, e, s, m, below, meth, c, b, G⟩ := X
  obtain ⟨⟨hx, hb, hr, hml, hown, hts, hX, hbl, hlk, hgv⟩, hK, hN⟩ := C
  exact fun H locs ls hP hS hl => lv_aload_n hx hb hd hi (lv_at hl j hj) (k H locs ls hP hS hl)
theorem lr_istore_n {q : Fin 4} {i : Nat} {x : Int32} {lv' : List (Nat × Value)} (ks : List Nat) {pc' : Nat} (C : LC X L xs) (hp : pc + 1 = pc') (hd : decode code pc = .ok (.istore_n q, 1)) (hi : (q : Nat) = i) (hn : i < 4) (hv : lv_pick ((i, .int x) :: lv.filter (fun q => !(q.1 == i) && !(q.1 + 1 == i && q.2.category == 2))) ks = lv') (k : LW X nc ns pc' lv' (st) w) : LW X nc ns pc lv (.int x :: st) w := by
  subst hp
  obtain ⟨p, l, e, s, m, below, meth, c, b, G⟩ := X
  obtain ⟨⟨hx, hb, hr, hml, hown, hts, hX, hbl, hlk, hgv⟩, hK, hN⟩ := C
  exact fun H locs ls hP hS hl => lv_istore_n hx hb hd hi hl hn rfl (fun ls' h' => k H locs ls' hP hS (lv_sub h' ks hv))
theorem lr_astore_n {q : Fin 4} {i : Nat} {x : Nat} {lv' : List (Nat × Value)} (ks : List Nat) {pc' : Nat} (C : LC X L xs) (hp : pc + 1 = pc') (hd : decode code pc = .ok (.astore_n q, 1)) (hi : (q : Nat) = i) (hn : i < 4) (hv : lv_pick ((i, .ref x) :: lv.filter (fun q => !(q.1 == i) && !(q.1 + 1 == i && q.2.category == 2))) ks = lv') (k : LW X nc ns pc' lv' (st) w) : LW X nc ns pc lv (.ref x :: st) w := by
  subst hp
  obtain ⟨p, l, e, s, m, below, meth, c, b, G⟩ := X
  obtain ⟨⟨hx, hb, hr, hml, hown, hts, hX, hbl, hlk, hgv⟩, hK, hN⟩ := C
  exact fun H locs ls hP hS hl => lv_astore_n hx hb hd hi hl hn rfl (fun ls' h' => k H locs ls' hP hS (lv_sub h' ks hv))
theorem lr_iinc {i : Nat} {n : Int} {x v : Int32} {lv' : List (Nat × Value)} (j : Nat) (ks : List Nat) {pc' : Nat} (C : LC X L xs) (hp : pc + 3 = pc') (hd : decode code pc = .ok (.iinc i n, 3)) (hj : lv[j]? = some (i, .int x)) (hx2 : x + Int32.ofInt n = v) (hn : i < 4) (hv : lv_pick ((i, .int v) :: lv.filter (fun q => !(q.1 == i) && !(q.1 + 1 == i && q.2.category == 2))) ks = lv') (k : LW X nc ns pc' lv' (st) w) : LW X nc ns pc lv (st) w := by
  subst hp
  obtain ⟨p, l, e, s, m, below, meth, c, b, G⟩ := X
  obtain ⟨⟨hx, hb, hr, hml, hown, hts, hX, hbl, hlk, hgv⟩, hK, hN⟩ := C
  exact fun H locs ls hP hS hl => lv_iinc hx hb hd hl hj hx2 hn rfl (fun ls' h' => k H locs ls' hP hS (lv_sub h' ks hv))
theorem lr_isub {x z : Int32} {pc' : Nat} (C : LC X L xs) (hp : pc + 1 = pc') (hd : decode code pc = .ok (.isub, 1)) (k : LW X nc ns pc' lv (.int (x - z) :: st) w) : LW X nc ns pc lv (.int z :: .int x :: st) w := by
  subst hp
  obtain ⟨p, l, e, s, m, below, meth, c, b, G⟩ := X
  obtain ⟨⟨hx, hb, hr, hml, hown, hts, hX, hbl, hlk, hgv⟩, hK, hN⟩ := C
  exact fun H locs ls hP hS hl => lv_isub hx hb hd (k H locs ls hP hS hl)
theorem lr_iadd {x z : Int32} {pc' : Nat} (C : LC X L xs) (hp : pc + 1 = pc') (hd : decode code pc = .ok (.iadd, 1)) (k : LW X nc ns pc' lv (.int (x + z) :: st) w) : LW X nc ns pc lv (.int z :: .int x :: st) w := by
  subst hp
  obtain ⟨p, l, e, s, m, below, meth, c, b, G⟩ := X
  obtain ⟨⟨hx, hb, hr, hml, hown, hts, hX, hbl, hlk, hgv⟩, hK, hN⟩ := C
  exact fun H locs ls hP hS hl => lv_iadd hx hb hd (k H locs ls hP hS hl)
theorem lr_iand {x z : Int32} {pc' : Nat} (C : LC X L xs) (hp : pc + 1 = pc') (hd : decode code pc = .ok (.iand, 1)) (k : LW X nc ns pc' lv (.int (x &&& z) :: st) w) : LW X nc ns pc lv (.int z :: .int x :: st) w := by
  subst hp
  obtain ⟨p, l, e, s, m, below, meth, c, b, G⟩ := X
  obtain ⟨⟨hx, hb, hr, hml, hown, hts, hX, hbl, hlk, hgv⟩, hK, hN⟩ := C
  exact fun H locs ls hP hS hl => lv_iand hx hb hd (k H locs ls hP hS hl)
theorem lr_land {x z : Int64} {pc' : Nat} (C : LC X L xs) (hp : pc + 1 = pc') (hd : decode code pc = .ok (.land, 1)) (k : LW X nc ns pc' lv (.long (x &&& z) :: st) w) : LW X nc ns pc lv (.long z :: .long x :: st) w := by
  subst hp
  obtain ⟨p, l, e, s, m, below, meth, c, b, G⟩ := X
  obtain ⟨⟨hx, hb, hr, hml, hown, hts, hX, hbl, hlk, hgv⟩, hK, hN⟩ := C
  exact fun H locs ls hP hS hl => lv_land hx hb hd (k H locs ls hP hS hl)
theorem lr_lor {x z : Int64} {pc' : Nat} (C : LC X L xs) (hp : pc + 1 = pc') (hd : decode code pc = .ok (.lor, 1)) (k : LW X nc ns pc' lv (.long (x ||| z) :: st) w) : LW X nc ns pc lv (.long z :: .long x :: st) w := by
  subst hp
  obtain ⟨p, l, e, s, m, below, meth, c, b, G⟩ := X
  obtain ⟨⟨hx, hb, hr, hml, hown, hts, hX, hbl, hlk, hgv⟩, hK, hN⟩ := C
  exact fun H locs ls hP hS hl => lv_lor hx hb hd (k H locs ls hP hS hl)
theorem lr_i2l {x : Int32} {v : Int64} {pc' : Nat} (C : LC X L xs) (hp : pc + 1 = pc') (hd : decode code pc = .ok (.i2l, 1)) (hv : x.toInt64 = v) (k : LW X nc ns pc' lv (.long v :: st) w) : LW X nc ns pc lv (.int x :: st) w := by
  subst hp
  obtain ⟨p, l, e, s, m, below, meth, c, b, G⟩ := X
  obtain ⟨⟨hx, hb, hr, hml, hown, hts, hX, hbl, hlk, hgv⟩, hK, hN⟩ := C
  exact fun H locs ls hP hS hl => lv_i2l hx hb hd hv (k H locs ls hP hS hl)
theorem lr_lshl {x v : Int64} {z : Int32} {pc' : Nat} (C : LC X L xs) (hp : pc + 1 = pc') (hd : decode code pc = .ok (.lshl, 1)) (hv : x <<< (z.toInt64 &&& 63) = v) (k : LW X nc ns pc' lv (.long v :: st) w) : LW X nc ns pc lv (.int z :: .long x :: st) w := by
  subst hp
  obtain ⟨p, l, e, s, m, below, meth, c, b, G⟩ := X
  obtain ⟨⟨hx, hb, hr, hml, hown, hts, hX, hbl, hlk, hgv⟩, hK, hN⟩ := C
  exact fun H locs ls hP hS hl => lv_lshl hx hb hd hv (k H locs ls hP hS hl)
theorem lr_ldc2 {index : Nat} {v : Int64} {pc' : Nat} (C : LC X L xs) (hp : pc + 3 = pc') (hd : decode code pc = .ok (.ldc2_w index, 3)) (hc : Cond.constantLong RL index v ∈ tb) (k : LW X nc ns pc' lv (.long v :: st) w) : LW X nc ns pc lv (st) w := by
  subst hp
  obtain ⟨p, l, e, s, m, below, meth, c, b, G⟩ := X
  obtain ⟨⟨hx, hb, hr, hml, hown, hts, hX, hbl, hlk, hgv⟩, hK, hN⟩ := C
  exact fun H locs ls hP hS hl => lv_ldc2 hx hb (show s.vm.findClass RL = some m.cls from hown) (tb_of hts _ hc) hd (k H locs ls hP hS hl)
theorem lr_dup {v : Value} {pc' : Nat} (C : LC X L xs) (hp : pc + 1 = pc') (hd : decode code pc = .ok (.dup, 1)) (hv : v.category = 1) (k : LW X nc ns pc' lv (v :: v :: st) w) : LW X nc ns pc lv (v :: st) w := by
  subst hp
  obtain ⟨p, l, e, s, m, below, meth, c, b, G⟩ := X
  obtain ⟨⟨hx, hb, hr, hml, hown, hts, hX, hbl, hlk, hgv⟩, hK, hN⟩ := C
  exact fun H locs ls hP hS hl => lv_dup hx hb hd hv (k H locs ls hP hS hl)
theorem lr_slen {pc' : Nat} (C : LC X L xs) (hp : pc + 1 = pc') (hd : decode code pc = .ok (.arraylength, 1)) (k : LW X nc ns pc' lv (.int (nI L) :: st) w) : LW X nc ns pc lv (.ref (bX X) :: st) w := by
  subst hp
  obtain ⟨p, l, e, s, m, below, meth, c, b, G⟩ := X
  obtain ⟨⟨hx, hb, hr, hml, hown, hts, hX, hbl, hlk, hgv⟩, hK, hN⟩ := C
  exact fun H locs ls hP hS hl => va_slen hx hb hX hbl (Nat.not_le.mpr hbl) hS hd (k H locs ls hP hS hl)
theorem lr_sld {i : Int32} {pc' : Nat} (C : LC X L xs) (hp : pc + 1 = pc') (hd : decode code pc = .ok (.iaload, 1)) (hi : vp_in i L) (k : LW X nc ns pc' lv (.int (xs (ix i)) :: st) w) : LW X nc ns pc lv (.int i :: .ref (bX X) :: st) w := by
  subst hp
  obtain ⟨p, l, e, s, m, below, meth, c, b, G⟩ := X
  obtain ⟨⟨hx, hb, hr, hml, hown, hts, hX, hbl, hlk, hgv⟩, hK, hN⟩ := C
  exact fun H locs ls hP hS hl => va_sld hx hb hX hbl (Nat.not_le.mpr hbl) hS hi hd (k H locs ls hP hS hl)
theorem lr_icmp_gt {x z : Int32} {off : Int} {tgt : Nat} {pc' : Nat} (C : LC X L xs) (hp : pc + 3 = pc') (hd : decode code pc = .ok (.if_icmp .gt off, 3)) (ht : (pc : Int) + off = (tgt : Int)) (kt : z < x → LW X nc ns tgt lv st w) (kf : ¬ z < x → LW X nc ns pc' lv st w) : LW X nc ns pc lv (.int z :: .int x :: st) w := by
  subst hp
  obtain ⟨p, l, e, s, m, below, meth, c, b, G⟩ := X
  obtain ⟨⟨hx, hb, hr, hml, hown, hts, hX, hbl, hlk, hgv⟩, hK, hN⟩ := C
  exact fun H locs ls hP hS hl => lv_icmp_gt hx hb hd ht (fun h => kt h H locs ls hP hS hl) (fun h => kf h H locs ls hP hS hl)
theorem lr_icmp_eq {x z : Int32} {off : Int} {tgt : Nat} {pc' : Nat} (C : LC X L xs) (hp : pc + 3 = pc') (hd : decode code pc = .ok (.if_icmp .eq off, 3)) (ht : (pc : Int) + off = (tgt : Int)) (kt : x = z → LW X nc ns tgt lv st w) (kf : ¬ x = z → LW X nc ns pc' lv st w) : LW X nc ns pc lv (.int z :: .int x :: st) w := by
  subst hp
  obtain ⟨p, l, e, s, m, below, meth, c, b, G⟩ := X
  obtain ⟨⟨hx, hb, hr, hml, hown, hts, hX, hbl, hlk, hgv⟩, hK, hN⟩ := C
  exact fun H locs ls hP hS hl => lv_icmp_eq hx hb hd ht (fun h => kt h H locs ls hP hS hl) (fun h => kf h H locs ls hP hS hl)
theorem lr_if_eq {x : Int32} {off : Int} {tgt : Nat} {pc' : Nat} (C : LC X L xs) (hp : pc + 3 = pc') (hd : decode code pc = .ok (.ifCond .eq off, 3)) (ht : (pc : Int) + off = (tgt : Int)) (kt : x = 0 → LW X nc ns tgt lv st w) (kf : ¬ x = 0 → LW X nc ns pc' lv st w) : LW X nc ns pc lv (.int x :: st) w := by
  subst hp
  obtain ⟨p, l, e, s, m, below, meth, c, b, G⟩ := X
  obtain ⟨⟨hx, hb, hr, hml, hown, hts, hX, hbl, hlk, hgv⟩, hK, hN⟩ := C
  exact fun H locs ls hP hS hl => lv_if_eq hx hb hd ht (fun h => kt h H locs ls hP hS hl) (fun h => kf h H locs ls hP hS hl)
theorem lr_goto {off : Int} {tgt : Nat} (C : LC X L xs) (hd : decode code pc = .ok (.goto off, 3)) (ht : (pc : Int) + off = (tgt : Int)) (k : LW X nc ns tgt lv st w) : LW X nc ns pc lv (st) w := by
  obtain ⟨p, l, e, s, m, below, meth, c, b, G⟩ := X
  obtain ⟨⟨hx, hb, hr, hml, hown, hts, hX, hbl, hlk, hgv⟩, hK, hN⟩ := C
  exact fun H locs ls hP hS hl => lv_goto hx hb hd ht (k H locs ls hP hS hl)
theorem lr_tableOut {dflt lo hi : Int} {offs : Array Int} {len : Nat} {x : Int32} {tgt : Nat} (C : LC X L xs) (hd : decode code pc = .ok (.tableswitch dflt lo hi offs, len)) (h : x.toInt < lo ∨ hi < x.toInt) (ht : (pc : Int) + dflt = (tgt : Int)) (k : LW X nc ns tgt lv st w) : LW X nc ns pc lv (.int x :: st) w := by
  obtain ⟨p, l, e, s, m, below, meth, c, b, G⟩ := X
  obtain ⟨⟨hx, hb, hr, hml, hown, hts, hX, hbl, hlk, hgv⟩, hK, hN⟩ := C
  exact fun H locs ls hP hS hl => lv_tableOut hx hb hd h ht (k H locs ls hP hS hl)
theorem lr_tableIn {dflt lo hi : Int} {offs : Array Int} {len : Nat} {x : Int32} {off : Int} {tgt : Nat} (C : LC X L xs) (hd : decode code pc = .ok (.tableswitch dflt lo hi offs, len)) (h1 : ¬ x.toInt < lo) (h2 : ¬ hi < x.toInt) (ho : offs[(x.toInt - lo).toNat]? = some off) (ht : (pc : Int) + off = (tgt : Int)) (k : LW X nc ns tgt lv st w) : LW X nc ns pc lv (.int x :: st) w := by
  obtain ⟨p, l, e, s, m, below, meth, c, b, G⟩ := X
  obtain ⟨⟨hx, hb, hr, hml, hown, hts, hX, hbl, hlk, hgv⟩, hK, hN⟩ := C
  exact fun H locs ls hP hS hl => lv_tableIn hx hb hd h1 h2 ho ht (k H locs ls hP hS hl)
theorem lr_sub {lv' : List (Nat × Value)} (ks : List Nat) (C : LC X L xs) (hv : lv_pick lv ks = lv') (k : LW X nc ns pc lv' st w) : LW X nc ns pc lv (st) w := by
  obtain ⟨p, l, e, s, m, below, meth, c, b, G⟩ := X
  obtain ⟨⟨hx, hb, hr, hml, hown, hts, hX, hbl, hlk, hgv⟩, hK, hN⟩ := C
  exact fun H locs ls hP hS hl => k H locs ls hP hS (lv_sub hl ks hv)
theorem lr_ret (C : LC X L xs) (hd : decode code pc = .ok (.ireturn, 1)) (h1 : nc ≤ 600000) (h2 : ns ≤ 7302250) : LW X nc ns pc lv ([.int 1]) w := by
  obtain ⟨p, l, e, s, m, below, meth, c, b, G⟩ := X
  obtain ⟨⟨hx, hb, hr, hml, hown, hts, hX, hbl, hlk, hgv⟩, hK, hN⟩ := C
  exact fun H locs ls hP hS hl => va_forget (fun q hq => hS.2.2 q hq) (W.widen (k := 600000) (n := 7302250) h1 h2 (lw_ret hx hb hr hlk hd))
theorem lr_new {n N ci index : Nat} {Cn : String} {T : u_T} {kd : Nat → Kd} {R : Nat → Nat → Option Nat} {M : Mem} {pc' nc' ns' n' : Nat} (C : LC X L xs) (hp : pc + 3 = pc') (hc1 : nc + 1 = nc') (hs1 : ns + N = ns') (hn1 : n + 1 = n') (hk : kd n = .inl ci) (hc : vwCl[ci]? = some (Cn, T, N)) (hin : ∀ w ∈ u_ws Cn T N, w ∈ tb) (ty : Nat → FieldType) (hty : ∀ k, k < N → parseFieldDescriptor (T k).2.2.1 = some (ty k)) (hfs : ∀ j, j < N → defaultValue (ty j) = vp_V (f0L (cfl ci)) j) (hw : ∀ j, R n j = none ∧ M n j = nI 0) (hcells : nc + 1 ≤ 600000) (hslots : ns + N ≤ 7302250) (hd : decode code pc = .ok (.new index, 3)) (hcl : Cond.classLink RL index Cn ∈ tb) (hinst : Cond.instantiable Cn N ∈ tb) (hini : Cond.initialized Cn ∈ tb) (k : LW X nc' ns' pc' lv (.ref (BX X + n) :: st) (n', kd, R, M)) : LW X nc ns pc lv st (n, kd, R, M) := by
  subst hp
  subst hc1
  subst hs1
  subst hn1
  obtain ⟨p, l, e, s, m, below, meth, c, b, G⟩ := X
  obtain ⟨⟨hx, hb, hr, hml, hown, hts, hX, hbl, hlk, hgv⟩, hK, hN⟩ := C
  intro H locs ls hP hS hl
  have hKn := hK.1 ci _ hc
  have ht := tb_of hts
  refine W.newcK hx hb (show s.vm.findClass RL = some m.cls from hown) (ht _ hcl) (ht _ hinst) (ht _ hini) rfl hd hcells hslots hKn.2.1 hP.2 fun H1 kC hkC e1 z1 o1 => ?_
  have hk2 : ∀ (k9 : Nat) (x : Nat × va_E), (wl G s.heap.size (n, kd, R, M))[k9]? = some x → H1[x.1]? = H[x.1]? := fun k9 x hx => o1 x.1 (by rw [← hP.2]; exact (hP.1 k9 x hx).lt)
  refine k H1 locs ls ⟨?_, ?_⟩ ⟨Nat.le_trans hS.1 (by rw [z1, hP.2]; show s.heap.size + n ≤ s.heap.size + n + 1; omega), fun x h1 h2 => (o1 x (by rw [← hP.2]; exact Nat.lt_of_lt_of_le h1 hS.1)).trans (hS.2.1 x h1 h2), hS.2.2⟩ hl
  · rw [wl_succ]
    refine (hP.1.kept hk2).app (fun k9 x hx => ?_)
    have h0 : k9 < 1 := (List.getElem?_eq_some_iff.mp hx).1
    rw [show k9 = 0 by omega] at hx
    cases hx
    rw [wE_obj hk, wF_0 _ _ hw]
    exact ⟨_, hc, (u_born ty ht hin hKn hkC e1 hty).to hfs⟩
  · rw [z1]; rfl
theorem lr_callI {d2 mc2 ms2 idx : Nat} {y2 : MD} {rest : List Value} {c0 : Nat} {pc' nc' ns' : Nat} (C : LC X L xs) (hp : pc + 3 = pc') (hc1 : nc + mc2 = nc') (hs1 : ns + ms2 = ns') (hd : decode code pc = .ok (.invokespecial idx, 3)) (hci : CI y2) (hlink : Cond.methodLink RL idx y2.1 ∈ tb) (hlen : (parseMethodDescriptor y2.1.desc).map (fun d => d.parameters.length) = some 0) (hdep : d2 ≤ 7) (hcat : (rest.map fun v => v.category).sum ≤ 8) (hmc : nc' ≤ 600000) (hms : ns' ≤ 7302250)
    (k : CallN d2 mc2 ms2 y2 [.ref c0] w (fun v w' => v = none ∧ LW X nc' ns' pc' lv rest w')) : LW X nc ns pc lv (.ref (BX X + c0) :: rest) w := by
  subst hp
  subst hc1
  subst hs1
  obtain ⟨p, l, e, s, m, below, meth, c, b, G⟩ := X
  obtain ⟨⟨hx, hb, hr, hml, hown, hts, hX, hbl, hlk, hgv⟩, hK, hN⟩ := C
  intro H locs ls hP hS hl T hT Xs
  obtain ⟨i1, i3, i4, i5, i6, i7, i8⟩ := hci
  have ht := tb_of hts
  have hR : (rmd d2 mc2 ms2).frames + 1 ≤ room_1.frames ∧ 8 + (y2.2.2.1 + 11) + (rmd d2 mc2 ms2).locals ≤ room_1.locals := by
    refine ⟨show d2 + 1 ≤ 10 by omega, ?_⟩
    show 8 + (y2.2.2.1 + 11) + 37 * d2 ≤ 374
    omega
  have hr1 : va_Run p l e room_1 s m #[Value.ref b] below meth c H locs nc ns mc2 ms2 (F0 m pc ls (.ref (s.heap.size + c0) :: rest)) rest (QQ G s.heap.size (fun v w' => v = none ∧ LW (p, l, e, s, m, below, meth, c, b, G) (nc + mc2) (ns + ms2) (pc + 3) lv rest w') #[Value.ref (s.heap.size + c0)]) (Fr s.heap.size) :=
    va_runI (Ts := tb) (own := RL) (n := 0) (ws := wsM y2) (b := s.heap.size + c0) (bytes := y2.2.1) (maxL := y2.2.2.1) (rm := rmd d2 mc2 ms2) (As := []) ⟨hx, hb, hml, hown, ht⟩ (k l G s.heap.size) ⟨by rw [← i8]; exact callB_of 0 ht (wsM_good i4) rfl rfl rfl (ht _ i3) (ht _ hlink) ⟨i5.1, i5.2, hlen⟩ hR, i7, ht _ i1⟩
    ⟨pn_blind, fun U hU hW => ⟨rfl, by rw [hU]; exact hP, KK.moved hW.alike hK, NW.warm hW hN⟩⟩ rfl rfl hl.1 rfl (by show 2 * 0 + _ ≤ 8; omega) hd ⟨hmc, hms⟩
  obtain ⟨v, st₀, t, T', L9, h0, X', hL, e1, e2, ⟨⟨v', w', hv, hq, hRp, hKt⟩, hF⟩, stp⟩ := hr1 T hT Xs
  have hv : v = v'.map (rv s.heap.size) := by cases hv; rfl
  subst hv
  obtain ⟨rfl, hq⟩ := hq
  have hS' : va_S (Fr s.heap.size) s.heap T'.heap (locs ++ L9) := ⟨Nat.le_trans hS.1 (by rw [e1]; have := hF.1; rw [h0] at this; exact this), fun q h1 h2 => by
      rw [e1, hF.2 q (by rw [h0]; exact Nat.lt_of_lt_of_le h1 hS.1) h2, h0]; exact hS.2.1 q h1 h2, fun q hq => by
      rcases List.mem_append.mp hq with h | h
      · exact hS.2.2 q h
      · exact hL q h⟩
  obtain ⟨t2, a1, b1⟩ := hq T'.heap (locs ++ L9) ls (by rw [e1]; exact hRp) hS' hl T' rfl X'
  exact ⟨t2, stp t2 a1, b1⟩
theorem lr_callV {d2 idx ci : Nat} {y2 : MD} {As rest : List Value} {c0 : Nat} {cT : vw_C} {M : Mem} (n : Nat) {pc' : Nat} (C : LC X L xs) (hp : pc + 3 = pc') (hd : decode code pc = .ok (.invokevirtual idx, 3)) (hcv : CV y2) (hlink : Cond.methodLink RL idx y2.1 ∈ tb) (hlen : (parseMethodDescriptor y2.1.desc).map (fun d => d.parameters.length) = some n) (hAs : As.length = n)
    (hst : st = (As.map (rv (BX X))).reverse ++ .ref (BX X + c0) :: rest) (hdep : d2 ≤ 7) (hcat : (rest.map fun v => v.category).sum ≤ 8) (ho : OB c0 ci) (hci : vwCl[ci]? = some cT) (hcls : cT.1 = y2.1.cls) (hnc : nc ≤ 600000) (hns : ns ≤ 7302250) (k : CA d2 y2 (.ref c0 :: As) M (qI (fun r M' => LW X nc ns pc' lv (.int r :: rest) (w0 M')))) : LW X nc ns pc lv st (w0 M) := by
  subst hp
  subst hst
  obtain ⟨p, l, e, s, m, below, meth, c, b, G⟩ := X
  obtain ⟨⟨hx, hb, hr, hml, hown, hts, hX, hbl, hlk, hgv⟩, hK, hN⟩ := C
  intro H locs ls hP hS hl T hT Xs
  obtain ⟨i1, i2, i3, i4, i5, i6⟩ := hcv
  have ht := tb_of hts
  have hR : (rmd d2 0 0).frames + 1 ≤ room_1.frames ∧ 8 + (y2.2.2.1 + 11) + (rmd d2 0 0).locals ≤ room_1.locals := by
    refine ⟨show d2 + 1 ≤ 10 by omega, ?_⟩
    show 8 + (y2.2.2.1 + 11) + 37 * d2 ≤ 374
    omega
  have hr1 : va_Run p l e room_1 s m #[Value.ref b] below meth c H locs nc ns 0 0 (F0 m pc ls ((As.map (rv s.heap.size)).reverse ++ .ref (s.heap.size + c0) :: rest)) rest (QQ G s.heap.size (fun v w => ∃ M', w = w0 M' ∧ qI (fun r M' => LW (p, l, e, s, m, below, meth, c, b, G) nc ns (pc + 3) lv (.int r :: rest) (w0 M')) v M') (Value.ref (s.heap.size + c0) :: As.map (rv s.heap.size)).toArray) (Fr s.heap.size) := by
    refine va_runV (Ts := tb) (own := RL) (C := y2.1.cls) (n := n) (ws := wsM y2) (b := s.heap.size + c0) (bytes := y2.2.1) (maxL := y2.2.2.1) (ret := y2.2.2.2) (rm := rmd d2 0 0) (As := As.map (rv s.heap.size)) ⟨hx, hb, hml, hown, ht⟩ (k l G s.heap.size) ⟨callB_of n ht (wsM_good i4) rfl rfl rfl (ht _ i3) (ht _ hlink) ⟨i5.1, i5.2, hlen⟩ hR, ht _ i1, ht _ i2⟩
      ⟨pc_blind, ?_, fun U hU hW => ⟨rfl, by rw [hU]; exact hP, KK.moved hW.alike hK⟩⟩ rfl (by rw [List.length_map]; exact hAs) hl.1 rfl ?_ hd ⟨hnc, hns⟩
    · have := va_recv hK hP.1 hci ((wl_get (w := w0 M) ho.1).trans (by rw [wE_obj ho.2]))
      rw [hcls] at this
      exact this
    · show 2 * 0 + _ ≤ 8
      omega
  obtain ⟨v, st₀, t, T', L9, h0, X', hL, e1, e2, ⟨⟨v', w', hv, hq, hRp, hKt⟩, hF⟩, stp⟩ := hr1 T hT Xs
  have hv : v = v'.map (rv s.heap.size) := by cases hv; rfl
  subst hv
  obtain ⟨M', rfl, r, rfl, hq⟩ := hq
  have hS' : va_S (Fr s.heap.size) s.heap T'.heap (locs ++ L9) := ⟨Nat.le_trans hS.1 (by rw [e1]; have := hF.1; rw [h0] at this; exact this), fun q h1 h2 => by
      rw [e1, hF.2 q (by rw [h0]; exact Nat.lt_of_lt_of_le h1 hS.1) h2, h0]; exact hS.2.1 q h1 h2, fun q hq => by
      rcases List.mem_append.mp hq with h | h
      · exact hS.2.2 q h
      · exact hL q h⟩
  obtain ⟨t2, a1, b1⟩ := hq T'.heap (locs ++ L9) ls (by rw [e1]; exact hRp) hS' hl T' rfl X'
  exact ⟨t2, stp t2 a1, b1⟩
end LRows
