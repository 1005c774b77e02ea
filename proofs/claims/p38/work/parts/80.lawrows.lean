/-! ===== the law's own methods: their activations, the script below the world ===== -/
abbrev mdL_law : MD := (yL_law, cL_law, 19, (some .boolean))
abbrev HX : Type := Program × Launch × Env × Room × State × MethodId × Array Value × List Frame × Method × Code × Nat × Dg × Nat × (State → Prop)
abbrev bX (X : HX) : Nat := X.2.2.2.2.2.2.2.2.2.2.1
abbrev BX (X : HX) : Nat := X.2.2.2.2.2.2.2.2.2.2.2.2.1
def SW (y : MD) (X : HX) (nc ns pc : Nat) (lv : List (Nat × Value)) (st : List Value) (w : Wd) : Prop := match X with
  | (p, l, e, R, s, m, args, below, meth, c, _, G, B, Z) => ∀ (H : Heap) (locs : List Loc) (ls : Array Slot), Rp G B w H → va_S (Fr B) s.heap H locs → lv_has ls y.2.2.1 lv → W p l e R s m args below meth c H locs nc ns Z (F0 m pc ls st)
def LC (y : MD) (d mc ms : Nat) (X : HX) (L : Nat) (xs : Nat → Int32) : Prop := match X with
  | (p, _, _, R, s, m, args, _, meth, c, b, G, B, _) => (Cx p s m args meth c y ∧ KK G s ∧ va_X b L xs s s.heap) ∧ b < B ∧ B ≤ s.heap.size ∧ d ≤ R.frames ∧ 37 * d ≤ R.locals ∧ mc ≤ R.cells ∧ ms ≤ R.slots ∧ L ≤ 260
/-- what a return is worth -/
def RT (y : MD) (X : HX) (nc ns : Nat) (Q : Int32 → Mem → Prop) : Prop := ∀ (pc : Nat) (lv : List (Nat × Value)) (r : Int32) (M : Mem), decode y.2.1 pc = .ok (.ireturn, 1) → Q r M → SW y X nc ns pc lv [.int r] (w0 M)
section LRows
variable {y : MD} {d mc ms : Nat} {X : HX} {L : Nat} {xs : Nat → Int32} {nc ns pc : Nat} {lv : List (Nat × Value)} {st : List Value} {w : Wd}
theorem lr_iconst {n : Int} {v : Int32} {pc' : Nat} (C : LC y d mc ms X L xs) (hp : pc + 1 = pc') (hd : decode y.2.1 pc = .ok (.iconst n, 1)) (hv : Int32.ofInt n = v) (k : SW y X nc ns pc' lv (.int v :: st) w) : SW y X nc ns pc lv (st) w := by
  subst hp
  obtain ⟨p, l, e, R, s, m, args, below, meth, c, b, G, B, Z⟩ := X
  obtain ⟨⟨C, hK, hX⟩, hbB, hBs, r1, r2, r3, r4, hL⟩ := C
  exact fun H locs ls hP hS hl => lv_iconst C.1 C.2.1 hd hv (k H locs ls hP hS hl)
theorem lr_bipush {n : Int} {v : Int32} {pc' : Nat} (C : LC y d mc ms X L xs) (hp : pc + 2 = pc') (hd : decode y.2.1 pc = .ok (.bipush n, 2)) (hv : (Int8.ofInt n).toInt32 = v) (k : SW y X nc ns pc' lv (.int v :: st) w) : SW y X nc ns pc lv (st) w := by
  subst hp
  obtain ⟨p, l, e, R, s, m, args, below, meth, c, b, G, B, Z⟩ := X
  obtain ⟨⟨C, hK, hX⟩, hbB, hBs, r1, r2, r3, r4, hL⟩ := C
  exact fun H locs ls hP hS hl => lv_bipush C.1 C.2.1 hd hv (k H locs ls hP hS hl)
theorem lr_sipush {n : Int} {v : Int32} {pc' : Nat} (C : LC y d mc ms X L xs) (hp : pc + 3 = pc') (hd : decode y.2.1 pc = .ok (.sipush n, 3)) (hv : (Int16.ofInt n).toInt32 = v) (k : SW y X nc ns pc' lv (.int v :: st) w) : SW y X nc ns pc lv (st) w := by
  subst hp
  obtain ⟨p, l, e, R, s, m, args, below, meth, c, b, G, B, Z⟩ := X
  obtain ⟨⟨C, hK, hX⟩, hbB, hBs, r1, r2, r3, r4, hL⟩ := C
  exact fun H locs ls hP hS hl => lv_sipush C.1 C.2.1 hd hv (k H locs ls hP hS hl)
theorem lr_iload_n {q : Fin 4} {i : Nat} {x : Int32} (j : Nat) {pc' : Nat} (C : LC y d mc ms X L xs) (hp : pc + 1 = pc') (hd : decode y.2.1 pc = .ok (.iload_n q, 1)) (hi : (q : Nat) = i) (hj : lv[j]? = some (i, .int x)) (k : SW y X nc ns pc' lv (.int x :: st) w) : SW y X nc ns pc lv (st) w := by
  subst hp
  obtain ⟨p, l, e, R, s, m, args, below, meth, c, b, G, B, Z⟩ := X
  obtain ⟨⟨C, hK, hX⟩, hbB, hBs, r1, r2, r3, r4, hL⟩ := C
  exact fun H locs ls hP hS hl => lv_iload_n C.1 C.2.1 hd hi (lv_at hl j hj) (k H locs ls hP hS hl)
theorem lr_iload {i : Nat} {x : Int32} (j : Nat) {pc' : Nat} (C : LC y d mc ms X L xs) (hp : pc + 2 = pc') (hd : decode y.2.1 pc = .ok (.iload i, 2)) (hj : lv[j]? = some (i, .int x)) (k : SW y X nc ns pc' lv (.int x :: st) w) : SW y X nc ns pc lv (st) w := by
  subst hp
  obtain ⟨p, l, e, R, s, m, args, below, meth, c, b, G, B, Z⟩ := X
  obtain ⟨⟨C, hK, hX⟩, hbB, hBs, r1, r2, r3, r4, hL⟩ := C
  exact fun H locs ls hP hS hl => lv_iload C.1 C.2.1 hd (lv_at hl j hj) (k H locs ls hP hS hl)
theorem lr_aload_n {q : Fin 4} {i : Nat} {x : Nat} (j : Nat) {pc' : Nat} (C : LC y d mc ms X L xs) (hp : pc + 1 = pc') (hd : decode y.2.1 pc = .ok (.aload_n q, 1)) (hi : (q : Nat) = i) (hj : lv[j]? = some (i, .ref x)) (k : SW y X nc ns pc' lv (.ref x :: st) w) : SW y X nc ns pc lv (st) w := by
  subst hp
  obtain ⟨p, l, e, R, s, m, args, below, meth, c, b, G, B, Z⟩ := X
  obtain ⟨⟨C, hK, hX⟩, hbB, hBs, r1, r2, r3, r4, hL⟩ := C
  exact fun H locs ls hP hS hl => lv_aload_n C.1 C.2.1 hd hi (lv_at hl j hj) (k H locs ls hP hS hl)
theorem lr_aload {i : Nat} {x : Nat} (j : Nat) {pc' : Nat} (C : LC y d mc ms X L xs) (hp : pc + 2 = pc') (hd : decode y.2.1 pc = .ok (.aload i, 2)) (hj : lv[j]? = some (i, .ref x)) (k : SW y X nc ns pc' lv (.ref x :: st) w) : SW y X nc ns pc lv (st) w := by
  subst hp
  obtain ⟨p, l, e, R, s, m, args, below, meth, c, b, G, B, Z⟩ := X
  obtain ⟨⟨C, hK, hX⟩, hbB, hBs, r1, r2, r3, r4, hL⟩ := C
  exact fun H locs ls hP hS hl => lv_aload C.1 C.2.1 hd (lv_at hl j hj) (k H locs ls hP hS hl)
theorem lr_istore_n {q : Fin 4} {i : Nat} {x : Int32} {lv' : List (Nat × Value)} (ks : List Nat) {pc' : Nat} (C : LC y d mc ms X L xs) (hp : pc + 1 = pc') (hd : decode y.2.1 pc = .ok (.istore_n q, 1)) (hi : (q : Nat) = i) (hn : i < y.2.2.1) (hv : lv_pick ((i, .int x) :: lv.filter (fun q => !(q.1 == i) && !(q.1 + 1 == i && q.2.category == 2))) ks = lv') (k : SW y X nc ns pc' lv' st w) : SW y X nc ns pc lv (.int x :: st) w := by
  subst hp
  obtain ⟨p, l, e, R, s, m, args, below, meth, c, b, G, B, Z⟩ := X
  obtain ⟨⟨C, hK, hX⟩, hbB, hBs, r1, r2, r3, r4, hL⟩ := C
  exact fun H locs ls hP hS hl => lv_istore_n C.1 C.2.1 hd hi hl hn rfl (fun ls' h' => k H locs ls' hP hS (lv_sub h' ks hv))
theorem lr_istore {i : Nat} {x : Int32} {lv' : List (Nat × Value)} (ks : List Nat) {pc' : Nat} (C : LC y d mc ms X L xs) (hp : pc + 2 = pc') (hd : decode y.2.1 pc = .ok (.istore i, 2)) (hn : i < y.2.2.1) (hv : lv_pick ((i, .int x) :: lv.filter (fun q => !(q.1 == i) && !(q.1 + 1 == i && q.2.category == 2))) ks = lv') (k : SW y X nc ns pc' lv' st w) : SW y X nc ns pc lv (.int x :: st) w := by
  subst hp
  obtain ⟨p, l, e, R, s, m, args, below, meth, c, b, G, B, Z⟩ := X
  obtain ⟨⟨C, hK, hX⟩, hbB, hBs, r1, r2, r3, r4, hL⟩ := C
  exact fun H locs ls hP hS hl => lv_istore C.1 C.2.1 hd hl hn rfl (fun ls' h' => k H locs ls' hP hS (lv_sub h' ks hv))
theorem lr_astore_n {q : Fin 4} {i : Nat} {x : Nat} {lv' : List (Nat × Value)} (ks : List Nat) {pc' : Nat} (C : LC y d mc ms X L xs) (hp : pc + 1 = pc') (hd : decode y.2.1 pc = .ok (.astore_n q, 1)) (hi : (q : Nat) = i) (hn : i < y.2.2.1) (hv : lv_pick ((i, .ref x) :: lv.filter (fun q => !(q.1 == i) && !(q.1 + 1 == i && q.2.category == 2))) ks = lv') (k : SW y X nc ns pc' lv' st w) : SW y X nc ns pc lv (.ref x :: st) w := by
  subst hp
  obtain ⟨p, l, e, R, s, m, args, below, meth, c, b, G, B, Z⟩ := X
  obtain ⟨⟨C, hK, hX⟩, hbB, hBs, r1, r2, r3, r4, hL⟩ := C
  exact fun H locs ls hP hS hl => lv_astore_n C.1 C.2.1 hd hi hl hn rfl (fun ls' h' => k H locs ls' hP hS (lv_sub h' ks hv))
theorem lr_astore {i : Nat} {x : Nat} {lv' : List (Nat × Value)} (ks : List Nat) {pc' : Nat} (C : LC y d mc ms X L xs) (hp : pc + 2 = pc') (hd : decode y.2.1 pc = .ok (.astore i, 2)) (hn : i < y.2.2.1) (hv : lv_pick ((i, .ref x) :: lv.filter (fun q => !(q.1 == i) && !(q.1 + 1 == i && q.2.category == 2))) ks = lv') (k : SW y X nc ns pc' lv' st w) : SW y X nc ns pc lv (.ref x :: st) w := by
  subst hp
  obtain ⟨p, l, e, R, s, m, args, below, meth, c, b, G, B, Z⟩ := X
  obtain ⟨⟨C, hK, hX⟩, hbB, hBs, r1, r2, r3, r4, hL⟩ := C
  exact fun H locs ls hP hS hl => lv_astore C.1 C.2.1 hd hl hn rfl (fun ls' h' => k H locs ls' hP hS (lv_sub h' ks hv))
theorem lr_iinc {i : Nat} {n : Int} {x v : Int32} {lv' : List (Nat × Value)} (j : Nat) (ks : List Nat) {pc' : Nat} (C : LC y d mc ms X L xs) (hp : pc + 3 = pc') (hd : decode y.2.1 pc = .ok (.iinc i n, 3)) (hj : lv[j]? = some (i, .int x)) (hx2 : x + Int32.ofInt n = v) (hn : i < y.2.2.1) (hv : lv_pick ((i, .int v) :: lv.filter (fun q => !(q.1 == i) && !(q.1 + 1 == i && q.2.category == 2))) ks = lv') (k : SW y X nc ns pc' lv' st w) : SW y X nc ns pc lv st w := by
  subst hp
  obtain ⟨p, l, e, R, s, m, args, below, meth, c, b, G, B, Z⟩ := X
  obtain ⟨⟨C, hK, hX⟩, hbB, hBs, r1, r2, r3, r4, hL⟩ := C
  exact fun H locs ls hP hS hl => lv_iinc C.1 C.2.1 hd hl hj hx2 hn rfl (fun ls' h' => k H locs ls' hP hS (lv_sub h' ks hv))
theorem lr_sub {lv' : List (Nat × Value)} (ks : List Nat) (hv : lv_pick lv ks = lv') (k : SW y X nc ns pc lv' st w) : SW y X nc ns pc lv st w := by
  obtain ⟨p, l, e, R, s, m, args, below, meth, c, b, G, B, Z⟩ := X
  exact fun H locs ls hP hS hl => k H locs ls hP hS (lv_sub hl ks hv)
theorem lr_iadd {x z : Int32} {pc' : Nat} (C : LC y d mc ms X L xs) (hp : pc + 1 = pc') (hd : decode y.2.1 pc = .ok (.iadd, 1)) (k : SW y X nc ns pc' lv (.int (x + z) :: st) w) : SW y X nc ns pc lv (.int z :: .int x :: st) w := by
  subst hp
  obtain ⟨p, l, e, R, s, m, args, below, meth, c, b, G, B, Z⟩ := X
  obtain ⟨⟨C, hK, hX⟩, hbB, hBs, r1, r2, r3, r4, hL⟩ := C
  exact fun H locs ls hP hS hl => lv_iadd C.1 C.2.1 hd (k H locs ls hP hS hl)
theorem lr_isub {x z : Int32} {pc' : Nat} (C : LC y d mc ms X L xs) (hp : pc + 1 = pc') (hd : decode y.2.1 pc = .ok (.isub, 1)) (k : SW y X nc ns pc' lv (.int (x - z) :: st) w) : SW y X nc ns pc lv (.int z :: .int x :: st) w := by
  subst hp
  obtain ⟨p, l, e, R, s, m, args, below, meth, c, b, G, B, Z⟩ := X
  obtain ⟨⟨C, hK, hX⟩, hbB, hBs, r1, r2, r3, r4, hL⟩ := C
  exact fun H locs ls hP hS hl => lv_isub C.1 C.2.1 hd (k H locs ls hP hS hl)
theorem lr_imul {x z : Int32} {pc' : Nat} (C : LC y d mc ms X L xs) (hp : pc + 1 = pc') (hd : decode y.2.1 pc = .ok (.imul, 1)) (k : SW y X nc ns pc' lv (.int (x * z) :: st) w) : SW y X nc ns pc lv (.int z :: .int x :: st) w := by
  subst hp
  obtain ⟨p, l, e, R, s, m, args, below, meth, c, b, G, B, Z⟩ := X
  obtain ⟨⟨C, hK, hX⟩, hbB, hBs, r1, r2, r3, r4, hL⟩ := C
  exact fun H locs ls hP hS hl => lv_imul C.1 C.2.1 hd (k H locs ls hP hS hl)
theorem lr_iand {x z : Int32} {pc' : Nat} (C : LC y d mc ms X L xs) (hp : pc + 1 = pc') (hd : decode y.2.1 pc = .ok (.iand, 1)) (k : SW y X nc ns pc' lv (.int (x &&& z) :: st) w) : SW y X nc ns pc lv (.int z :: .int x :: st) w := by
  subst hp
  obtain ⟨p, l, e, R, s, m, args, below, meth, c, b, G, B, Z⟩ := X
  obtain ⟨⟨C, hK, hX⟩, hbB, hBs, r1, r2, r3, r4, hL⟩ := C
  exact fun H locs ls hP hS hl => lv_iand C.1 C.2.1 hd (k H locs ls hP hS hl)
theorem lr_ior {x z : Int32} {pc' : Nat} (C : LC y d mc ms X L xs) (hp : pc + 1 = pc') (hd : decode y.2.1 pc = .ok (.ior, 1)) (k : SW y X nc ns pc' lv (.int (x ||| z) :: st) w) : SW y X nc ns pc lv (.int z :: .int x :: st) w := by
  subst hp
  obtain ⟨p, l, e, R, s, m, args, below, meth, c, b, G, B, Z⟩ := X
  obtain ⟨⟨C, hK, hX⟩, hbB, hBs, r1, r2, r3, r4, hL⟩ := C
  exact fun H locs ls hP hS hl => lv_ior C.1 C.2.1 hd (k H locs ls hP hS hl)
theorem lr_ixor {x z : Int32} {pc' : Nat} (C : LC y d mc ms X L xs) (hp : pc + 1 = pc') (hd : decode y.2.1 pc = .ok (.ixor, 1)) (k : SW y X nc ns pc' lv (.int (x ^^^ z) :: st) w) : SW y X nc ns pc lv (.int z :: .int x :: st) w := by
  subst hp
  obtain ⟨p, l, e, R, s, m, args, below, meth, c, b, G, B, Z⟩ := X
  obtain ⟨⟨C, hK, hX⟩, hbB, hBs, r1, r2, r3, r4, hL⟩ := C
  exact fun H locs ls hP hS hl => lv_ixor C.1 C.2.1 hd (k H locs ls hP hS hl)
theorem lr_ishl {x z : Int32} {pc' : Nat} (C : LC y d mc ms X L xs) (hp : pc + 1 = pc') (hd : decode y.2.1 pc = .ok (.ishl, 1)) (k : SW y X nc ns pc' lv (.int (x <<< (z &&& 31)) :: st) w) : SW y X nc ns pc lv (.int z :: .int x :: st) w := by
  subst hp
  obtain ⟨p, l, e, R, s, m, args, below, meth, c, b, G, B, Z⟩ := X
  obtain ⟨⟨C, hK, hX⟩, hbB, hBs, r1, r2, r3, r4, hL⟩ := C
  exact fun H locs ls hP hS hl => lv_ishl C.1 C.2.1 hd (k H locs ls hP hS hl)
theorem lr_ishr {x z : Int32} {pc' : Nat} (C : LC y d mc ms X L xs) (hp : pc + 1 = pc') (hd : decode y.2.1 pc = .ok (.ishr, 1)) (k : SW y X nc ns pc' lv (.int (x >>> (z &&& 31)) :: st) w) : SW y X nc ns pc lv (.int z :: .int x :: st) w := by
  subst hp
  obtain ⟨p, l, e, R, s, m, args, below, meth, c, b, G, B, Z⟩ := X
  obtain ⟨⟨C, hK, hX⟩, hbB, hBs, r1, r2, r3, r4, hL⟩ := C
  exact fun H locs ls hP hS hl => lv_ishr C.1 C.2.1 hd (k H locs ls hP hS hl)
theorem lr_irem {x z : Int32} {pc' : Nat} (C : LC y d mc ms X L xs) (hp : pc + 1 = pc') (hd : decode y.2.1 pc = .ok (.irem, 1)) (hz : ¬ z = 0) (k : SW y X nc ns pc' lv (.int (x - x / z * z) :: st) w) : SW y X nc ns pc lv (.int z :: .int x :: st) w := by
  subst hp
  obtain ⟨p, l, e, R, s, m, args, below, meth, c, b, G, B, Z⟩ := X
  obtain ⟨⟨C, hK, hX⟩, hbB, hBs, r1, r2, r3, r4, hL⟩ := C
  exact fun H locs ls hP hS hl => lv_irem C.1 C.2.1 hd hz (k H locs ls hP hS hl)
theorem lr_ladd {x z : Int64} {pc' : Nat} (C : LC y d mc ms X L xs) (hp : pc + 1 = pc') (hd : decode y.2.1 pc = .ok (.ladd, 1)) (k : SW y X nc ns pc' lv (.long (x + z) :: st) w) : SW y X nc ns pc lv (.long z :: .long x :: st) w := by
  subst hp
  obtain ⟨p, l, e, R, s, m, args, below, meth, c, b, G, B, Z⟩ := X
  obtain ⟨⟨C, hK, hX⟩, hbB, hBs, r1, r2, r3, r4, hL⟩ := C
  exact fun H locs ls hP hS hl => lv_ladd C.1 C.2.1 hd (k H locs ls hP hS hl)
theorem lr_i2l {x : Int32} {v : Int64} {pc' : Nat} (C : LC y d mc ms X L xs) (hp : pc + 1 = pc') (hd : decode y.2.1 pc = .ok (.i2l, 1)) (hv : x.toInt64 = v) (k : SW y X nc ns pc' lv (.long v :: st) w) : SW y X nc ns pc lv (.int x :: st) w := by
  subst hp
  obtain ⟨p, l, e, R, s, m, args, below, meth, c, b, G, B, Z⟩ := X
  obtain ⟨⟨C, hK, hX⟩, hbB, hBs, r1, r2, r3, r4, hL⟩ := C
  exact fun H locs ls hP hS hl => lv_i2l C.1 C.2.1 hd hv (k H locs ls hP hS hl)
theorem lr_dup {v : Value} {pc' : Nat} (C : LC y d mc ms X L xs) (hp : pc + 1 = pc') (hd : decode y.2.1 pc = .ok (.dup, 1)) (hv : v.category = 1) (k : SW y X nc ns pc' lv (v :: v :: st) w) : SW y X nc ns pc lv (v :: st) w := by
  subst hp
  obtain ⟨p, l, e, R, s, m, args, below, meth, c, b, G, B, Z⟩ := X
  obtain ⟨⟨C, hK, hX⟩, hbB, hBs, r1, r2, r3, r4, hL⟩ := C
  exact fun H locs ls hP hS hl => lv_dup C.1 C.2.1 hd hv (k H locs ls hP hS hl)
theorem lr_if_eq {x : Int32} {off : Int} {tgt : Nat} {pc' : Nat} (C : LC y d mc ms X L xs) (hp : pc + 3 = pc') (hd : decode y.2.1 pc = .ok (.ifCond .eq off, 3)) (ht : (pc : Int) + off = (tgt : Int)) (kt : x = 0 → SW y X nc ns tgt lv st w) (kf : ¬ x = 0 → SW y X nc ns pc' lv st w) : SW y X nc ns pc lv (.int x :: st) w := by
  subst hp
  obtain ⟨p, l, e, R, s, m, args, below, meth, c, b, G, B, Z⟩ := X
  obtain ⟨⟨C, hK, hX⟩, hbB, hBs, r1, r2, r3, r4, hL⟩ := C
  exact fun H locs ls hP hS hl => lv_if_eq C.1 C.2.1 hd ht (fun h => kt h H locs ls hP hS hl) (fun h => kf h H locs ls hP hS hl)
theorem lr_icmp_eq {x z : Int32} {off : Int} {tgt : Nat} {pc' : Nat} (C : LC y d mc ms X L xs) (hp : pc + 3 = pc') (hd : decode y.2.1 pc = .ok (.if_icmp .eq off, 3)) (ht : (pc : Int) + off = (tgt : Int)) (kt : x = z → SW y X nc ns tgt lv st w) (kf : ¬ x = z → SW y X nc ns pc' lv st w) : SW y X nc ns pc lv (.int z :: .int x :: st) w := by
  subst hp
  obtain ⟨p, l, e, R, s, m, args, below, meth, c, b, G, B, Z⟩ := X
  obtain ⟨⟨C, hK, hX⟩, hbB, hBs, r1, r2, r3, r4, hL⟩ := C
  exact fun H locs ls hP hS hl => lv_icmp_eq C.1 C.2.1 hd ht (fun h => kt h H locs ls hP hS hl) (fun h => kf h H locs ls hP hS hl)
theorem lr_if_ne {x : Int32} {off : Int} {tgt : Nat} {pc' : Nat} (C : LC y d mc ms X L xs) (hp : pc + 3 = pc') (hd : decode y.2.1 pc = .ok (.ifCond .ne off, 3)) (ht : (pc : Int) + off = (tgt : Int)) (kt : ¬ x = 0 → SW y X nc ns tgt lv st w) (kf : x = 0 → SW y X nc ns pc' lv st w) : SW y X nc ns pc lv (.int x :: st) w := by
  subst hp
  obtain ⟨p, l, e, R, s, m, args, below, meth, c, b, G, B, Z⟩ := X
  obtain ⟨⟨C, hK, hX⟩, hbB, hBs, r1, r2, r3, r4, hL⟩ := C
  exact fun H locs ls hP hS hl => lv_if_ne C.1 C.2.1 hd ht (fun h => kt h H locs ls hP hS hl) (fun h => kf h H locs ls hP hS hl)
theorem lr_icmp_ne {x z : Int32} {off : Int} {tgt : Nat} {pc' : Nat} (C : LC y d mc ms X L xs) (hp : pc + 3 = pc') (hd : decode y.2.1 pc = .ok (.if_icmp .ne off, 3)) (ht : (pc : Int) + off = (tgt : Int)) (kt : ¬ x = z → SW y X nc ns tgt lv st w) (kf : x = z → SW y X nc ns pc' lv st w) : SW y X nc ns pc lv (.int z :: .int x :: st) w := by
  subst hp
  obtain ⟨p, l, e, R, s, m, args, below, meth, c, b, G, B, Z⟩ := X
  obtain ⟨⟨C, hK, hX⟩, hbB, hBs, r1, r2, r3, r4, hL⟩ := C
  exact fun H locs ls hP hS hl => lv_icmp_ne C.1 C.2.1 hd ht (fun h => kt h H locs ls hP hS hl) (fun h => kf h H locs ls hP hS hl)
theorem lr_if_lt {x : Int32} {off : Int} {tgt : Nat} {pc' : Nat} (C : LC y d mc ms X L xs) (hp : pc + 3 = pc') (hd : decode y.2.1 pc = .ok (.ifCond .lt off, 3)) (ht : (pc : Int) + off = (tgt : Int)) (kt : x < 0 → SW y X nc ns tgt lv st w) (kf : ¬ x < 0 → SW y X nc ns pc' lv st w) : SW y X nc ns pc lv (.int x :: st) w := by
  subst hp
  obtain ⟨p, l, e, R, s, m, args, below, meth, c, b, G, B, Z⟩ := X
  obtain ⟨⟨C, hK, hX⟩, hbB, hBs, r1, r2, r3, r4, hL⟩ := C
  exact fun H locs ls hP hS hl => lv_if_lt C.1 C.2.1 hd ht (fun h => kt h H locs ls hP hS hl) (fun h => kf h H locs ls hP hS hl)
theorem lr_icmp_lt {x z : Int32} {off : Int} {tgt : Nat} {pc' : Nat} (C : LC y d mc ms X L xs) (hp : pc + 3 = pc') (hd : decode y.2.1 pc = .ok (.if_icmp .lt off, 3)) (ht : (pc : Int) + off = (tgt : Int)) (kt : x < z → SW y X nc ns tgt lv st w) (kf : ¬ x < z → SW y X nc ns pc' lv st w) : SW y X nc ns pc lv (.int z :: .int x :: st) w := by
  subst hp
  obtain ⟨p, l, e, R, s, m, args, below, meth, c, b, G, B, Z⟩ := X
  obtain ⟨⟨C, hK, hX⟩, hbB, hBs, r1, r2, r3, r4, hL⟩ := C
  exact fun H locs ls hP hS hl => lv_icmp_lt C.1 C.2.1 hd ht (fun h => kt h H locs ls hP hS hl) (fun h => kf h H locs ls hP hS hl)
theorem lr_if_ge {x : Int32} {off : Int} {tgt : Nat} {pc' : Nat} (C : LC y d mc ms X L xs) (hp : pc + 3 = pc') (hd : decode y.2.1 pc = .ok (.ifCond .ge off, 3)) (ht : (pc : Int) + off = (tgt : Int)) (kt : 0 ≤ x → SW y X nc ns tgt lv st w) (kf : ¬ 0 ≤ x → SW y X nc ns pc' lv st w) : SW y X nc ns pc lv (.int x :: st) w := by
  subst hp
  obtain ⟨p, l, e, R, s, m, args, below, meth, c, b, G, B, Z⟩ := X
  obtain ⟨⟨C, hK, hX⟩, hbB, hBs, r1, r2, r3, r4, hL⟩ := C
  exact fun H locs ls hP hS hl => lv_if_ge C.1 C.2.1 hd ht (fun h => kt h H locs ls hP hS hl) (fun h => kf h H locs ls hP hS hl)
theorem lr_icmp_ge {x z : Int32} {off : Int} {tgt : Nat} {pc' : Nat} (C : LC y d mc ms X L xs) (hp : pc + 3 = pc') (hd : decode y.2.1 pc = .ok (.if_icmp .ge off, 3)) (ht : (pc : Int) + off = (tgt : Int)) (kt : z ≤ x → SW y X nc ns tgt lv st w) (kf : ¬ z ≤ x → SW y X nc ns pc' lv st w) : SW y X nc ns pc lv (.int z :: .int x :: st) w := by
  subst hp
  obtain ⟨p, l, e, R, s, m, args, below, meth, c, b, G, B, Z⟩ := X
  obtain ⟨⟨C, hK, hX⟩, hbB, hBs, r1, r2, r3, r4, hL⟩ := C
  exact fun H locs ls hP hS hl => lv_icmp_ge C.1 C.2.1 hd ht (fun h => kt h H locs ls hP hS hl) (fun h => kf h H locs ls hP hS hl)
theorem lr_if_gt {x : Int32} {off : Int} {tgt : Nat} {pc' : Nat} (C : LC y d mc ms X L xs) (hp : pc + 3 = pc') (hd : decode y.2.1 pc = .ok (.ifCond .gt off, 3)) (ht : (pc : Int) + off = (tgt : Int)) (kt : 0 < x → SW y X nc ns tgt lv st w) (kf : ¬ 0 < x → SW y X nc ns pc' lv st w) : SW y X nc ns pc lv (.int x :: st) w := by
  subst hp
  obtain ⟨p, l, e, R, s, m, args, below, meth, c, b, G, B, Z⟩ := X
  obtain ⟨⟨C, hK, hX⟩, hbB, hBs, r1, r2, r3, r4, hL⟩ := C
  exact fun H locs ls hP hS hl => lv_if_gt C.1 C.2.1 hd ht (fun h => kt h H locs ls hP hS hl) (fun h => kf h H locs ls hP hS hl)
theorem lr_icmp_gt {x z : Int32} {off : Int} {tgt : Nat} {pc' : Nat} (C : LC y d mc ms X L xs) (hp : pc + 3 = pc') (hd : decode y.2.1 pc = .ok (.if_icmp .gt off, 3)) (ht : (pc : Int) + off = (tgt : Int)) (kt : z < x → SW y X nc ns tgt lv st w) (kf : ¬ z < x → SW y X nc ns pc' lv st w) : SW y X nc ns pc lv (.int z :: .int x :: st) w := by
  subst hp
  obtain ⟨p, l, e, R, s, m, args, below, meth, c, b, G, B, Z⟩ := X
  obtain ⟨⟨C, hK, hX⟩, hbB, hBs, r1, r2, r3, r4, hL⟩ := C
  exact fun H locs ls hP hS hl => lv_icmp_gt C.1 C.2.1 hd ht (fun h => kt h H locs ls hP hS hl) (fun h => kf h H locs ls hP hS hl)
theorem lr_if_le {x : Int32} {off : Int} {tgt : Nat} {pc' : Nat} (C : LC y d mc ms X L xs) (hp : pc + 3 = pc') (hd : decode y.2.1 pc = .ok (.ifCond .le off, 3)) (ht : (pc : Int) + off = (tgt : Int)) (kt : x ≤ 0 → SW y X nc ns tgt lv st w) (kf : ¬ x ≤ 0 → SW y X nc ns pc' lv st w) : SW y X nc ns pc lv (.int x :: st) w := by
  subst hp
  obtain ⟨p, l, e, R, s, m, args, below, meth, c, b, G, B, Z⟩ := X
  obtain ⟨⟨C, hK, hX⟩, hbB, hBs, r1, r2, r3, r4, hL⟩ := C
  exact fun H locs ls hP hS hl => lv_if_le C.1 C.2.1 hd ht (fun h => kt h H locs ls hP hS hl) (fun h => kf h H locs ls hP hS hl)
theorem lr_icmp_le {x z : Int32} {off : Int} {tgt : Nat} {pc' : Nat} (C : LC y d mc ms X L xs) (hp : pc + 3 = pc') (hd : decode y.2.1 pc = .ok (.if_icmp .le off, 3)) (ht : (pc : Int) + off = (tgt : Int)) (kt : x ≤ z → SW y X nc ns tgt lv st w) (kf : ¬ x ≤ z → SW y X nc ns pc' lv st w) : SW y X nc ns pc lv (.int z :: .int x :: st) w := by
  subst hp
  obtain ⟨p, l, e, R, s, m, args, below, meth, c, b, G, B, Z⟩ := X
  obtain ⟨⟨C, hK, hX⟩, hbB, hBs, r1, r2, r3, r4, hL⟩ := C
  exact fun H locs ls hP hS hl => lv_icmp_le C.1 C.2.1 hd ht (fun h => kt h H locs ls hP hS hl) (fun h => kf h H locs ls hP hS hl)
theorem lr_goto {off : Int} {tgt : Nat} (C : LC y d mc ms X L xs) (hd : decode y.2.1 pc = .ok (.goto off, 3)) (ht : (pc : Int) + off = (tgt : Int)) (k : SW y X nc ns tgt lv st w) : SW y X nc ns pc lv st w := by
  obtain ⟨p, l, e, R, s, m, args, below, meth, c, b, G, B, Z⟩ := X
  obtain ⟨⟨C, hK, hX⟩, hbB, hBs, r1, r2, r3, r4, hL⟩ := C
  exact fun H locs ls hP hS hl => lv_goto C.1 C.2.1 hd ht (k H locs ls hP hS hl)
theorem lr_ldc {index : Nat} {v : Int32} {pc' : Nat} (C : LC y d mc ms X L xs) (hp : pc + 2 = pc') (hd : decode y.2.1 pc = .ok (.ldc index, 2)) (hc : Cond.constant y.1.cls index v ∈ tb) (k : SW y X nc ns pc' lv (.int v :: st) w) : SW y X nc ns pc lv st w := by
  subst hp
  obtain ⟨p, l, e, R, s, m, args, below, meth, c, b, G, B, Z⟩ := X
  obtain ⟨⟨C, hK, hX⟩, hbB, hBs, r1, r2, r3, r4, hL⟩ := C
  exact fun H locs ls hP hS hl => lv_ldc C.1 C.2.1 C.2.2.2.2.1 (C.2.2.2.2.2.1 _ hc) hd (k H locs ls hP hS hl)
theorem lr_ldc2 {index : Nat} {v : Int64} {pc' : Nat} (C : LC y d mc ms X L xs) (hp : pc + 3 = pc') (hd : decode y.2.1 pc = .ok (.ldc2_w index, 3)) (hc : Cond.constantLong y.1.cls index v ∈ tb) (k : SW y X nc ns pc' lv (.long v :: st) w) : SW y X nc ns pc lv st w := by
  subst hp
  obtain ⟨p, l, e, R, s, m, args, below, meth, c, b, G, B, Z⟩ := X
  obtain ⟨⟨C, hK, hX⟩, hbB, hBs, r1, r2, r3, r4, hL⟩ := C
  exact fun H locs ls hP hS hl => lv_ldc2 C.1 C.2.1 C.2.2.2.2.1 (C.2.2.2.2.2.1 _ hc) hd (k H locs ls hP hS hl)
theorem lr_slen {pc' : Nat} (C : LC y d mc ms X L xs) (hp : pc + 1 = pc') (hd : decode y.2.1 pc = .ok (.arraylength, 1)) (k : SW y X nc ns pc' lv (.int (nI L) :: st) w) : SW y X nc ns pc lv (.ref (bX X) :: st) w := by
  subst hp
  obtain ⟨p, l, e, R, s, m, args, below, meth, c, b, G, B, Z⟩ := X
  obtain ⟨⟨C, hK, hX⟩, hbB, hBs, r1, r2, r3, r4, hL⟩ := C
  exact fun H locs ls hP hS hl => va_slen C.1 C.2.1 hX (Nat.lt_of_lt_of_le hbB hBs) (Nat.not_le.mpr hbB) hS hd (k H locs ls hP hS hl)
theorem lr_sld {i : Int32} {pc' : Nat} (C : LC y d mc ms X L xs) (hp : pc + 1 = pc') (hd : decode y.2.1 pc = .ok (.iaload, 1)) (hi : vp_in i L) (k : SW y X nc ns pc' lv (.int (xs (ix i)) :: st) w) : SW y X nc ns pc lv (.int i :: .ref (bX X) :: st) w := by
  subst hp
  obtain ⟨p, l, e, R, s, m, args, below, meth, c, b, G, B, Z⟩ := X
  obtain ⟨⟨C, hK, hX⟩, hbB, hBs, r1, r2, r3, r4, hL⟩ := C
  exact fun H locs ls hP hS hl => va_sld C.1 C.2.1 hX (Nat.lt_of_lt_of_le hbB hBs) (Nat.not_le.mpr hbB) hS hi hd (k H locs ls hP hS hl)
theorem lr_iald {cc n : Nat} {i v : Int32} {M : Mem} {pc' : Nat} (C : LC y d mc ms X L xs) (hp : pc + 1 = pc') (hd : decode y.2.1 pc = .ok (.iaload, 1)) (hc : cc < 182 + gx M) (hk : kd0 cc = .inr (.inl n)) (hi : vp_in i n) (hv : M cc (ix i) = v) (k : SW y X nc ns pc' lv (.int v :: st) (w0 M)) : SW y X nc ns pc lv (.int i :: .ref (BX X + cc) :: st) (w0 M) := by
  subst hp
  subst hv
  obtain ⟨p, l, e, R, s, m, args, below, meth, c, b, G, B, Z⟩ := X
  obtain ⟨⟨C, hK, hX⟩, hbB, hBs, r1, r2, r3, r4, hL⟩ := C
  exact fun H locs ls hP hS hl => va_iald C.1 C.2.1 hK hP.1 cc 0 ((wl_get (w := w0 M) hc).trans (by rw [wE_arr hk])) rfl hi hd (k H locs ls hP hS hl)
theorem lr_iast {cc n : Nat} {i v : Int32} {M : Mem} {pc' : Nat} (C : LC y d mc ms X L xs) (hp : pc + 1 = pc') (hd : decode y.2.1 pc = .ok (.iastore, 1)) (hc : cc < 182 + gx M) (hc9 : cc < 999) (hk : kd0 cc = .inr (.inl n)) (hi : vp_in i n) (k : SW y X nc ns pc' lv st (w0 (wr M cc (ix i) v))) : SW y X nc ns pc lv (.int v :: .int i :: .ref (BX X + cc) :: st) (w0 M) := by
  subst hp
  obtain ⟨p, l, e, R, s, m, args, below, meth, c, b, G, B, Z⟩ := X
  obtain ⟨⟨C, hK, hX⟩, hbB, hBs, r1, r2, r3, r4, hL⟩ := C
  intro H locs ls hP hS hl
  have hz : H.size = B + (w0 M).1 := hP.2
  have ha : (wl G B (w0 M))[cc]? = some (B + cc, .inl (G.2.1, n, .inl (M cc))) := (wl_get (w := w0 M) hc).trans (by rw [wE_arr hk])
  have ew : w0 (wr M cc (ix i) v) = wPut (w0 M) cc (ix i) v := by
    show (182 + gx (wr M cc (ix i) v), kd0, RM0, wr M cc (ix i) v) = (182 + gx M, kd0, RM0, wr M cc (ix i) v)
    rw [gx_wr hc9]
  refine W.iast C.1 C.2.1 (hP.1 cc _ ha) ((hK.2 0 _ rfl).1 n (fun j => .int (M cc j))) (fun q => by cases q) (by show ¬ (i < 0 ∨ (arrV _ _ _).slots.size ≤ _); rw [arrV_size]; exact hi) rfl rfl hd fun H1 e1 z oq => ?_
  have hset := hP.1.set wl_D ha (e := .inl (G.2.1, n, .inl (upd (M cc) (ix i) v))) (H1 := H1) (by
    show H1[B + cc]? = some (vp_cell _ _)
    rw [e1, vp_cell_i, vp_cell_i, arrV_store]
    congr 2
    funext q
    by_cases hq : q = i.toNatClampNeg
    · subst hq
      simp [updV, upd]
    · simp [updV, upd, hq]) oq
  rw [wl_set (w := w0 M) (w' := wPut (w0 M) cc (ix i) v) rfl (fun c' h => wE_put_ne c' h) (by
    rw [wE_arr (by exact hk)]
    refine congrArg (fun f => (Sum.inl (G.2.1, n, Sum.inl f) : va_E)) (funext fun j => ?_)
    show wr _ _ _ _ _ _ = upd _ _ _ _
    unfold wr upd
    by_cases hj : j = ix i
    · rw [if_pos ⟨rfl, hj⟩, if_pos hj]
    · rw [if_neg (fun q => hj q.2), if_neg hj]), ← ew] at hset
  exact k H1 _ ls ⟨hset, by rw [z, ew]; exact hz⟩ (hS.put z oq (show B ≤ B + _ by omega)) hl
theorem lr_newa {n N : Nat} {M : Mem} {pc' nc' ns' : Nat} (C : LC y d mc ms X L xs) (hp : pc + 2 = pc') (hc1 : nc + 1 = nc') (hs1 : ns + N = ns') (hg : gx M = n) (hk : kd0 (182 + n) = .inr (.inl N)) (hz : ∀ j, M (182 + n) j = nI 0) (hN : N ≤ 1000) (hn9 : n < 100) (hcells : nc + 1 ≤ mc) (hslots : ns + N ≤ ms) (hd : decode y.2.1 pc = .ok (.newarray .int, 2)) (ha : Cond.arrayClass .int ∈ tb) (k : SW y X nc' ns' pc' lv (.ref (BX X + (182 + n)) :: st) (w0 (wr M 999 0 (nI (n + 1))))) : SW y X nc ns pc lv (.int (nI N) :: st) (w0 M) := by
  subst hp
  subst hc1
  subst hs1
  subst hg
  obtain ⟨p, l, e, R, s, m, args, below, meth, c, b, G, B, Z⟩ := X
  obtain ⟨⟨C, hK, hX⟩, hbB, hBs, r1, r2, r3, r4, hL⟩ := C
  intro H locs ls hP hS hl
  have hNN : (nI N).toNatClampNeg = N := by
    show (nI N).toInt.toNat = N
    rw [nI_toInt (by omega)]; rfl
  have ew : w0 (wr M 999 0 (nI (gx M + 1))) = (182 + gx M + 1, kd0, RM0, wr M 999 0 (nI (gx M + 1))) := by
    show (182 + gx (wr M 999 0 (nI (gx M + 1))), kd0, RM0, wr M 999 0 (nI (gx M + 1))) = _
    have : gx (wr M 999 0 (nI (gx M + 1))) = gx M + 1 := by
      show ix (wr M 999 0 (nI (gx M + 1)) 999 0) = _
      rw [wr_eq, ix_n (by omega)]
    rw [this]
    rfl
  refine va_newaK (atype := .int) C.1 C.2.1 (C.2.2.2.2.2.1 _ ha) (g := F0 m pc ls (.int (nI N) :: st)) rfl hd rfl (nI_pos (by omega)) hNN (by show N * 4 ≤ _; omega) (Nat.le_trans hcells r3) (Nat.le_trans hslots r4) hP.2 (fun H1 cA e1 z1 o1 hAr hNm => ?_)
  have hc : cA = G.2.1 := by
    have h2 : s.vm.findClass ("[" ++ FieldType.int.toString) = some G.2.1 := (hK.2 0 (G.2.1, .int) rfl).2
    have h3 : s.vm.findClass ("[" ++ FieldType.int.toString) = some cA := hNm
    exact Option.some.inj (h3.symm.trans h2)
  subst hc
  have hk2 : ∀ (k9 : Nat) (x : Nat × va_E), (wl G B (w0 M))[k9]? = some x → H1[x.1]? = H[x.1]? := fun k9 x hx => o1 x.1 (by rw [← hP.2]; exact (hP.1 k9 x hx).lt)
  have hwl : wl G B (182 + gx M, kd0, RM0, wr M 999 0 (nI (gx M + 1))) = wl G B (w0 M) := by
    unfold wl
    refine List.map_congr_left (fun c hc => ?_)
    have hc9 : c < 182 + gx M := List.mem_range.mp hc
    have e : wr M 999 0 (nI (gx M + 1)) c = M c := funext fun j => wr_nc _ _ _ _ (by omega)
    show (B + c, wE G B (182 + gx M, kd0, RM0, wr M 999 0 (nI (gx M + 1))) c) = (B + c, wE G B (182 + gx M, kd0, RM0, M) c)
    unfold wE
    show (B + c, (match kd0 c with | .inl ci => _ | .inr (.inl n) => _ | .inr (.inr n) => _)) = (B + c, (match kd0 c with | .inl ci => _ | .inr (.inl n) => _ | .inr (.inr n) => _))
    cases kd0 c with
    | inl ci => exact congrArg (fun x => (B + c, Sum.inr (ci, x))) (wF_eq (fun j _ => ⟨rfl, congrFun e _⟩))
    | inr x =>
      cases x with
      | inl n => show (B + c, (Sum.inl (G.2.1, n, Sum.inl (wr M 999 0 (nI (gx M + 1)) c)) : va_E)) = (B + c, Sum.inl (G.2.1, n, Sum.inl (M c))); rw [e]
      | inr n => rfl
  refine k H1 locs ls ⟨?_, ?_⟩ ⟨Nat.le_trans hS.1 (by rw [z1, hP.2]; exact Nat.le_succ _), fun x h1 h2 => (o1 x (by rw [← hP.2]; exact Nat.lt_of_lt_of_le h1 hS.1)).trans (hS.2.1 x h1 h2), hS.2.2⟩ hl
  · rw [ew, wl_succ, hwl]
    refine (hP.1.kept hk2).app (fun k9 x hx => ?_)
    have h0 : k9 < 1 := (List.getElem?_eq_some_iff.mp hx).1
    rw [show k9 = 0 by omega] at hx
    cases hx
    rw [wE_arr hk]
    show H1[B + (182 + gx M)]? = some (vp_cell G.2.1 (N, .inl (wr M 999 0 (nI (gx M + 1)) (182 + gx M))))
    rw [vp_cell_i, show (fun j => Value.int (wr M 999 0 (nI (gx M + 1)) (182 + gx M) j)) = fun _ => defaultValue .int from funext fun j => by rw [wr_nc _ _ _ _ (by omega), hz j]; rfl]
    exact e1
  · rw [z1, ew]; rfl
theorem lr_callV {d2 idx ci : Nat} {y2 : MD} {As rest : List Value} {c0 : Nat} {cT : vw_C} {M : Mem} (n : Nat) {pc' : Nat} (C : LC y d mc ms X L xs) (hp : pc + 3 = pc') (hd : decode y.2.1 pc = .ok (.invokevirtual idx, 3)) (hcv : CV y2) (hlink : Cond.methodLink y.1.cls idx y2.1 ∈ tb) (hlen : (parseMethodDescriptor y2.1.desc).map (fun d => d.parameters.length) = some n) (hAs : As.length = n)
    (hst : st = (As.map (rv (BX X))).reverse ++ .ref (BX X + c0) :: rest) (hdep : d2 + 1 ≤ d) (hcat : (rest.map fun v => v.category).sum ≤ 8) (ho : OB c0 ci) (hci : vwCl[ci]? = some cT) (hcls : cT.1 = y2.1.cls) (hnc : nc ≤ mc) (hns : ns ≤ ms) (k : CA d2 y2 (.ref c0 :: As) M (qI (fun r M' => SW y X nc ns pc' lv (.int r :: rest) (w0 M')))) : SW y X nc ns pc lv st (w0 M) := by
  subst hp
  subst hst
  obtain ⟨p, l, e, R, s, m, args, below, meth, c, b, G, B, Z⟩ := X
  obtain ⟨⟨C, hK, hX⟩, hbB, hBs, r1, r2, r3, r4, hL⟩ := C
  intro H locs ls hP hS hl T hT Xs
  obtain ⟨i1, i2, i3, i4, i5, i6⟩ := hcv
  have ht := C.2.2.2.2.2.1
  have hR : (rmd d2 0 0).frames + 1 ≤ R.frames ∧ 8 + (y2.2.2.1 + 11) + (rmd d2 0 0).locals ≤ R.locals := by
    refine ⟨show d2 + 1 ≤ R.frames by omega, ?_⟩
    show 8 + (y2.2.2.1 + 11) + 37 * d2 ≤ R.locals
    omega
  have hr1 : va_Run p l e R s m args below meth c H locs nc ns 0 0 (F0 m pc ls ((As.map (rv B)).reverse ++ .ref (B + c0) :: rest)) rest (QQ G B (fun v w => ∃ M', w = w0 M' ∧ qI (fun r M' => SW y (p, l, e, R, s, m, args, below, meth, c, b, G, B, Z) nc ns (pc + 3) lv (.int r :: rest) (w0 M')) v M') (Value.ref (B + c0) :: As.map (rv B)).toArray) (Fr B) := by
    refine va_runV (Ts := tb) (own := y.1.cls) (C := y2.1.cls) (n := n) (ws := wsM y2) (b := B + c0) (bytes := y2.2.1) (maxL := y2.2.2.1) (ret := y2.2.2.2) (rm := rmd d2 0 0) (As := As.map (rv B)) ⟨C.1, C.2.1, C.2.2.2.1, C.2.2.2.2.1, ht⟩ (k l G B) ⟨callB_of n ht (wsM_good i4) rfl rfl rfl (ht _ i3) (ht _ hlink) ⟨i5.1, i5.2, hlen⟩ hR, ht _ i1, ht _ i2⟩
      ⟨pc_blind, ?_, fun U hU hW => ⟨rfl, by rw [hU]; exact hP, KK.moved hW.alike hK⟩⟩ rfl (by rw [List.length_map]; exact hAs) hl.1 rfl ?_ hd ⟨Nat.le_trans hnc r3, Nat.le_trans hns r4⟩
    · have := va_recv hK hP.1 hci ((wl_get (w := w0 M) (w_lt ho.1)).trans (by rw [wE_obj ho.2]))
      rw [hcls] at this
      exact this
    · show 2 * 0 + _ ≤ 8
      omega
  obtain ⟨v, st₀, t, T', L9, h0, X', hL, e1, e2, ⟨⟨v', w', hv, hq, hRp, hKt⟩, hF⟩, stp⟩ := hr1 T hT Xs
  have hv : v = v'.map (rv B) := by cases hv; rfl
  subst hv
  obtain ⟨M', rfl, r, rfl, hq⟩ := hq
  have hS' : va_S (Fr B) s.heap T'.heap (locs ++ L9) := ⟨Nat.le_trans hS.1 (by rw [e1]; have := hF.1; rw [h0] at this; exact this), fun q h1 h2 => by
      rw [e1, hF.2 q (by rw [h0]; exact Nat.lt_of_lt_of_le h1 hS.1) h2, h0]; exact hS.2.1 q h1 h2, fun q hq => by
      rcases List.mem_append.mp hq with h | h
      · exact hS.2.2 q h
      · exact hL q h⟩
  obtain ⟨t2, a1, b1⟩ := hq T'.heap (locs ++ L9) ls (by rw [e1]; exact hRp) hS' hl T' rfl X'
  exact ⟨t2, stp t2 a1, b1⟩
/-- a method of the law, by contract: the script lies below the world, and stays -/
def HLc (d : Nat) (y : MD) (L : Nat) (xs : Nat → Int32) (As : Nat → Nat → List Value) (M : Mem) (Q : Int32 → Mem → Prop) : Prop :=
  ∀ (l : Launch) (G : Dg) (B b : Nat), b < B → Met l y.1 (wsM y) (rmd d 0 0) (va_Pc (As B b) (fun U => (Rp G B (w0 M) U.heap ∧ KK G U) ∧ va_X b L xs U U.heap)) (QQ G B (fun v w => ∃ M', w = w0 M' ∧ qI Q v M')) 0 0 (Fr B)
theorem hc_blind {G : Dg} {B b : Nat} {w : Wd} {av : List Value} : FrameBlind (va_Pc av (fun U => (Rp G B w U.heap ∧ KK G U) ∧ va_X b L xs U U.heap)) := fun a U g mk q => ⟨q.1, ⟨q.2.1.1, KK.moved (u := U) (U := U.calling g mk a) (Vm.Alike.refl U.vm) q.2.1.2⟩, va_X.moved (u := U) (U := U.calling g mk a) (Vm.Alike.refl U.vm) q.2.2⟩
theorem HLc.mono {As : Nat → Nat → List Value} {M : Mem} {Q Q' : Int32 → Mem → Prop} (h : HLc d y L xs As M Q) (hq : ∀ r M', Q r M' → Q' r M') : HLc d y L xs As M Q' := by
  intro l G B b hb p e a1 a2 a3 s m args below a4 a5 a6 a7
  obtain ⟨k, o, h1, h2, h3, ⟨⟨v, w', e1, ⟨M', e4, r, e5, e6⟩, e3⟩, hF⟩, h5⟩ := h l G B b hb p e a1 a2 a3 s m args below a4 a5 a6 a7
  exact ⟨k, o, h1, h2, h3, ⟨⟨v, w', e1, ⟨M', e4, r, e5, hq _ _ e6⟩, e3⟩, hF⟩, h5⟩
theorem lr_callS {d2 idx : Nat} {y2 : MD} {As : Nat → Nat → List Value} {rest : List Value} {M : Mem} (n : Nat) {pc' : Nat} (C : LC y d mc ms X L xs) (hp : pc + 3 = pc') (hd : decode y.2.1 pc = .ok (.invokestatic idx, 3)) (hcv : CS y2) (hlink : Cond.methodLink y.1.cls idx y2.1 ∈ tb) (hlen : (parseMethodDescriptor y2.1.desc).map (fun d => d.parameters.length) = some n) (hAs : ∀ B b, (As B b).length = n)
    (hst : st = (As (BX X) (bX X)).reverse ++ rest) (hdep : d2 + 1 ≤ d) (hcat : (rest.map fun v => v.category).sum ≤ 8) (hnc : nc ≤ mc) (hns : ns ≤ ms) (k : HLc d2 y2 L xs As M (fun r M' => SW y X nc ns pc' lv (.int r :: rest) (w0 M'))) : SW y X nc ns pc lv st (w0 M) := by
  subst hp
  subst hst
  obtain ⟨p, l, e, R, s, m, args, below, meth, c, b, G, B, Z⟩ := X
  obtain ⟨⟨C, hK, hX⟩, hbB, hBs, r1, r2, r3, r4, hL⟩ := C
  intro H locs ls hP hS hl T hT Xs
  obtain ⟨i1, i3, i4, i5, i6⟩ := hcv
  have ht := C.2.2.2.2.2.1
  have hR : (rmd d2 0 0).frames + 1 ≤ R.frames ∧ 8 + (y2.2.2.1 + 11) + (rmd d2 0 0).locals ≤ R.locals := by
    refine ⟨show d2 + 1 ≤ R.frames by omega, ?_⟩
    show 8 + (y2.2.2.1 + 11) + 37 * d2 ≤ R.locals
    omega
  have hXH : va_X b L xs s H := va_X.kept hX (hS.2.1 b (Nat.lt_of_lt_of_le hbB hBs) (Nat.not_le.mpr hbB))
  have hr1 : va_Run p l e R s m args below meth c H locs nc ns 0 0 (F0 m pc ls ((As B b).reverse ++ rest)) rest (QQ G B (fun v w => ∃ M', w = w0 M' ∧ qI (fun r M' => SW y (p, l, e, R, s, m, args, below, meth, c, b, G, B, Z) nc ns (pc + 3) lv (.int r :: rest) (w0 M')) v M') (As B b).toArray) (Fr B) := by
    refine va_runS (Ts := tb) (own := y.1.cls) (n := n) (ws := wsM y2) (bytes := y2.2.1) (maxL := y2.2.2.1) (ret := y2.2.2.2) (rm := rmd d2 0 0) (As := As B b) ⟨C.1, C.2.1, C.2.2.2.1, C.2.2.2.2.1, ht⟩ (k l G B b hbB) ⟨callB_of n ht (wsM_good i4) rfl rfl rfl (ht _ i3) (ht _ hlink) ⟨i5.1, i5.2, hlen⟩ hR, ht _ i1⟩
      ⟨hc_blind, fun U hU hW => ⟨rfl, ⟨by rw [hU]; exact hP, KK.moved hW.alike hK⟩, by rw [hU]; exact va_X.moved hW.alike hXH⟩⟩ rfl (hAs B b) hl.1 rfl ?_ hd ⟨Nat.le_trans hnc r3, Nat.le_trans hns r4⟩
    show 2 * 0 + _ ≤ 8
    omega
  obtain ⟨v, st₀, t, T', L9, h0, X', hL, e1, e2, ⟨⟨v', w', hv, hq, hRp, hKt⟩, hF⟩, stp⟩ := hr1 T hT Xs
  have hv : v = v'.map (rv B) := by cases hv; rfl
  subst hv
  obtain ⟨M', rfl, r, rfl, hq⟩ := hq
  have hS' : va_S (Fr B) s.heap T'.heap (locs ++ L9) := ⟨Nat.le_trans hS.1 (by rw [e1]; have := hF.1; rw [h0] at this; exact this), fun q h1 h2 => by
      rw [e1, hF.2 q (by rw [h0]; exact Nat.lt_of_lt_of_le h1 hS.1) h2, h0]; exact hS.2.1 q h1 h2, fun q hq => by
      rcases List.mem_append.mp hq with h | h
      · exact hS.2.2 q h
      · exact hL q h⟩
  obtain ⟨t2, a1, b1⟩ := hq T'.heap (locs ++ L9) ls (by rw [e1]; exact hRp) hS' hl T' rfl X'
  exact ⟨t2, stp t2 a1, b1⟩
theorem LC_L (C : LC y d mc ms X L xs) : L ≤ 260 := by
  obtain ⟨p, l, e, R, s, m, args, below, meth, c, b, G, B, Z⟩ := X
  obtain ⟨⟨C, hK, hX⟩, hbB, hBs, r1, r2, r3, r4, hL⟩ := C
  exact hL
theorem HLc_of {As : Nat → Nat → List Value} {M : Mem} {Q : Int32 → Mem → Prop} (hpl : plainName y.1.cls = true) (hlen : ∀ B b, (lg_sl (As B b)).length ≤ y.2.2.1) (hr : y.2.2.2 = some .int) (hL : L ≤ 260) (k : ∀ X, LC y d 0 0 X L xs → RT y X 0 0 Q → SW y X 0 0 0 (lv_args 0 (As (BX X) (bX X))) [] (w0 M)) : HLc d y L xs As M Q := by
  intro l G B b hbB
  refine Met.ofW (cc := y.2.1) (maxL := y.2.2.1) (ret := y.2.2.2) hpl rfl ?_
  intro p e s m args below meth c s₁ Bd hml hv
  obtain ⟨rfl, ⟨hP, hK⟩, hX⟩ := hv
  have hts := atoms_spec (ws := wsM y) Bd.pre
  have hown : s.vm.findClass y.1.cls = some m.cls := findClass_of_methodNamed Bd.named
  have hin : meth.name = y.1.name := (name_of_methodNamed Bd.named Bd.method).1
  have hl := lv_entry (As B b) (n := y.2.2.1) (hlen B b)
  rw [lg_entry_eq]
  have hBs : B ≤ s.heap.size := by rw [hP.2]; omega
  have CC : Cx p s m (As B b).toArray meth c y := ⟨Bd.exec, Bd.bytes, Bd.returns, hml, hown, fun w hw => hts w (List.mem_cons_of_mem _ hw), Bd.notSynchronized, hin⟩
  exact k (p, l, e, rmd d 0 0, s, m, (As B b).toArray, below, meth, c, b, G, B, MQ below (QQ G B (fun v w => ∃ M', w = w0 M' ∧ qI Q v M')) (As B b).toArray s 0 0 (Fr B)) ⟨⟨CC, hK, hX⟩, hbB, hBs, Nat.le_refl _, Nat.le_refl _, Nat.le_refl _, Nat.le_refl _, hL⟩
    (fun pc lv r M hd hQ H locs ls hP hS hl => W.iret CC.1 CC.2.1 (CC.2.2.1.trans hr) (fun t ht hW => ⟨⟨some (.int r), w0 M, rfl, ⟨M, rfl, r, rfl, hQ⟩, by rw [ht]; exact hP, KK.moved hW.alike hK⟩, hS.F ht⟩) hS.2.2 hd (hlocks := CC.2.2.2.2.2.2.1)) s.heap [] _ hP va_S.rf hl
end LRows
