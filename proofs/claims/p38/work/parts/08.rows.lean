theorem cat_rv (B : Nat) (v : Value) : (rv B v).category = v.category := by cases v <;> rfl
def lvF (i : Nat) : Nat × Value → Bool := fun q => !(q.1 == i) && !(q.1 + 1 == i && q.2.category == 2)
theorem lvm_F (B i : Nat) (lv : List (Nat × Value)) : (lvm B lv).filter (lvF i) = lvm B (lv.filter (lvF i)) := by
  induction lv with
  | nil => rfl
  | cons q lv ih =>
    have e : lvF i (q.1, rv B q.2) = lvF i q := by simp [lvF, cat_rv]
    show ((q.1, rv B q.2) :: lvm B lv).filter (lvF i) = _
    rw [List.filter_cons, List.filter_cons, e, ih]
    cases lvF i q <;> rfl
theorem lvm_pick (B : Nat) (lv : List (Nat × Value)) (ks : List Nat) : lv_pick (lvm B lv) ks = lvm B (lv_pick lv ks) := by
  unfold lv_pick lvm
  induction ks with
  | nil => rfl
  | cons k ks ih =>
    rw [List.filterMap_cons, List.filterMap_cons, List.getElem?_map]
    cases lv[k]? with
    | none => simpa using ih
    | some q => simpa using ih
theorem lvm_at {B : Nat} {lv : List (Nat × Value)} {k i : Nat} {v : Value} (h : lv[k]? = some (i, v)) : (lvm B lv)[k]? = some (i, rv B v) := by
  unfold lvm
  rw [List.getElem?_map, h]
  rfl
theorem lvm_store {B : Nat} {nL : Nat} {lv lv' : List (Nat × Value)} {i : Nat} {v : Value} {ks : List Nat} {ls : Array Slot} (hl : lv_pick ((i, v) :: lv.filter (lvF i)) ks = lv') (h : lv_has ls nL ((i, rv B v) :: (lvm B lv).filter (lvF i))) : lv_has ls nL (lvm B lv') := by
  refine lv_sub h ks ?_
  rw [lvm_F, ← hl]
  exact lvm_pick B ((i, v) :: lv.filter (lvF i)) ks
section Rows
variable {d mc ms nc ns : Nat} {y : MD} {pc : Nat} {lv : List (Nat × Value)} {st : List Value} {w : Wd} {Q : Option Value → Wd → Prop}
theorem pw_iconst {n : Int} {v : Int32} {pc' : Nat} (hp : pc + 1 = pc') (hd : decode y.2.1 pc = .ok (.iconst n, 1)) (hv : Int32.ofInt n = v) (k : PW d mc ms y nc ns pc' lv (.int v :: st) w Q) : PW d mc ms y nc ns pc lv (st) w Q := by
  subst hp
  exact fun p l e s m args below meth cd G B H locs ls C hK hP hS hB hl => lv_iconst C.1 C.2.1 hd hv (k p l e s m args below meth cd G B H locs ls C hK hP hS hB hl)
theorem pw_bipush {n : Int} {v : Int32} {pc' : Nat} (hp : pc + 2 = pc') (hd : decode y.2.1 pc = .ok (.bipush n, 2)) (hv : (Int8.ofInt n).toInt32 = v) (k : PW d mc ms y nc ns pc' lv (.int v :: st) w Q) : PW d mc ms y nc ns pc lv (st) w Q := by
  subst hp
  exact fun p l e s m args below meth cd G B H locs ls C hK hP hS hB hl => lv_bipush C.1 C.2.1 hd hv (k p l e s m args below meth cd G B H locs ls C hK hP hS hB hl)
theorem pw_sipush {n : Int} {v : Int32} {pc' : Nat} (hp : pc + 3 = pc') (hd : decode y.2.1 pc = .ok (.sipush n, 3)) (hv : (Int16.ofInt n).toInt32 = v) (k : PW d mc ms y nc ns pc' lv (.int v :: st) w Q) : PW d mc ms y nc ns pc lv (st) w Q := by
  subst hp
  exact fun p l e s m args below meth cd G B H locs ls C hK hP hS hB hl => lv_sipush C.1 C.2.1 hd hv (k p l e s m args below meth cd G B H locs ls C hK hP hS hB hl)
theorem pw_lconst {n : Fin 2} {v : Int64} {pc' : Nat} (hp : pc + 1 = pc') (hd : decode y.2.1 pc = .ok (.lconst n, 1)) (hv : Int64.ofNat (n : Nat) = v) (k : PW d mc ms y nc ns pc' lv (.long v :: st) w Q) : PW d mc ms y nc ns pc lv (st) w Q := by
  subst hp
  exact fun p l e s m args below meth cd G B H locs ls C hK hP hS hB hl => lv_lconst C.1 C.2.1 hd hv (k p l e s m args below meth cd G B H locs ls C hK hP hS hB hl)
theorem pw_iload_n {q : Fin 4} {i : Nat} {x : Int32} (j : Nat) {pc' : Nat} (hp : pc + 1 = pc') (hd : decode y.2.1 pc = .ok (.iload_n q, 1)) (hi : (q : Nat) = i) (hj : lv[j]? = some (i, .int x)) (k : PW d mc ms y nc ns pc' lv (.int x :: st) w Q) : PW d mc ms y nc ns pc lv st w Q := by
  subst hp
  exact fun p l e s m args below meth cd G B H locs ls C hK hP hS hB hl => lv_iload_n C.1 C.2.1 hd hi (lv_at hl j (lvm_at hj)) (k p l e s m args below meth cd G B H locs ls C hK hP hS hB hl)
theorem pw_iload {i : Nat} {x : Int32} (j : Nat) {pc' : Nat} (hp : pc + 2 = pc') (hd : decode y.2.1 pc = .ok (.iload i, 2)) (hj : lv[j]? = some (i, .int x)) (k : PW d mc ms y nc ns pc' lv (.int x :: st) w Q) : PW d mc ms y nc ns pc lv st w Q := by
  subst hp
  exact fun p l e s m args below meth cd G B H locs ls C hK hP hS hB hl => lv_iload C.1 C.2.1 hd (lv_at hl j (lvm_at hj)) (k p l e s m args below meth cd G B H locs ls C hK hP hS hB hl)
theorem pw_lload_n {q : Fin 4} {i : Nat} {x : Int64} (j : Nat) {pc' : Nat} (hp : pc + 1 = pc') (hd : decode y.2.1 pc = .ok (.lload_n q, 1)) (hi : (q : Nat) = i) (hj : lv[j]? = some (i, .long x)) (k : PW d mc ms y nc ns pc' lv (.long x :: st) w Q) : PW d mc ms y nc ns pc lv st w Q := by
  subst hp
  exact fun p l e s m args below meth cd G B H locs ls C hK hP hS hB hl => lv_lload_n C.1 C.2.1 hd hi (lv_at hl j (lvm_at hj)) (k p l e s m args below meth cd G B H locs ls C hK hP hS hB hl)
theorem pw_lload {i : Nat} {x : Int64} (j : Nat) {pc' : Nat} (hp : pc + 2 = pc') (hd : decode y.2.1 pc = .ok (.lload i, 2)) (hj : lv[j]? = some (i, .long x)) (k : PW d mc ms y nc ns pc' lv (.long x :: st) w Q) : PW d mc ms y nc ns pc lv st w Q := by
  subst hp
  exact fun p l e s m args below meth cd G B H locs ls C hK hP hS hB hl => lv_lload C.1 C.2.1 hd (lv_at hl j (lvm_at hj)) (k p l e s m args below meth cd G B H locs ls C hK hP hS hB hl)
theorem pw_aload_n {q : Fin 4} {i : Nat} {x : Nat} (j : Nat) {pc' : Nat} (hp : pc + 1 = pc') (hd : decode y.2.1 pc = .ok (.aload_n q, 1)) (hi : (q : Nat) = i) (hj : lv[j]? = some (i, .ref x)) (k : PW d mc ms y nc ns pc' lv (.ref x :: st) w Q) : PW d mc ms y nc ns pc lv st w Q := by
  subst hp
  exact fun p l e s m args below meth cd G B H locs ls C hK hP hS hB hl => lv_aload_n C.1 C.2.1 hd hi (lv_at hl j (lvm_at hj)) (k p l e s m args below meth cd G B H locs ls C hK hP hS hB hl)
theorem pw_aload {i : Nat} {x : Nat} (j : Nat) {pc' : Nat} (hp : pc + 2 = pc') (hd : decode y.2.1 pc = .ok (.aload i, 2)) (hj : lv[j]? = some (i, .ref x)) (k : PW d mc ms y nc ns pc' lv (.ref x :: st) w Q) : PW d mc ms y nc ns pc lv st w Q := by
  subst hp
  exact fun p l e s m args below meth cd G B H locs ls C hK hP hS hB hl => lv_aload C.1 C.2.1 hd (lv_at hl j (lvm_at hj)) (k p l e s m args below meth cd G B H locs ls C hK hP hS hB hl)
theorem pw_istore_n {q : Fin 4} {i : Nat} {x : Int32} {lv' : List (Nat × Value)} (ks : List Nat) {pc' : Nat} (hp : pc + 1 = pc') (hd : decode y.2.1 pc = .ok (.istore_n q, 1)) (hi : (q : Nat) = i) (hn : i < y.2.2.1) (hv : lv_pick ((i, .int x) :: lv.filter (lvF i)) ks = lv') (k : PW d mc ms y nc ns pc' lv' st w Q) : PW d mc ms y nc ns pc lv (.int x :: st) w Q := by
  subst hp
  exact fun p l e s m args below meth c G B H locs ls C hK hP hS hB hl => lv_istore_n C.1 C.2.1 hd hi hl hn rfl (fun ls' h' => k p l e s m args below meth c G B H locs ls' C hK hP hS hB (lvm_store hv h'))
theorem pw_istore {i : Nat} {x : Int32} {lv' : List (Nat × Value)} (ks : List Nat) {pc' : Nat} (hp : pc + 2 = pc') (hd : decode y.2.1 pc = .ok (.istore i, 2)) (hn : i < y.2.2.1) (hv : lv_pick ((i, .int x) :: lv.filter (lvF i)) ks = lv') (k : PW d mc ms y nc ns pc' lv' st w Q) : PW d mc ms y nc ns pc lv (.int x :: st) w Q := by
  subst hp
  exact fun p l e s m args below meth c G B H locs ls C hK hP hS hB hl => lv_istore C.1 C.2.1 hd hl hn rfl (fun ls' h' => k p l e s m args below meth c G B H locs ls' C hK hP hS hB (lvm_store hv h'))
theorem pw_astore_n {q : Fin 4} {i : Nat} {x : Nat} {lv' : List (Nat × Value)} (ks : List Nat) {pc' : Nat} (hp : pc + 1 = pc') (hd : decode y.2.1 pc = .ok (.astore_n q, 1)) (hi : (q : Nat) = i) (hn : i < y.2.2.1) (hv : lv_pick ((i, .ref x) :: lv.filter (lvF i)) ks = lv') (k : PW d mc ms y nc ns pc' lv' st w Q) : PW d mc ms y nc ns pc lv (.ref x :: st) w Q := by
  subst hp
  exact fun p l e s m args below meth c G B H locs ls C hK hP hS hB hl => lv_astore_n C.1 C.2.1 hd hi hl hn rfl (fun ls' h' => k p l e s m args below meth c G B H locs ls' C hK hP hS hB (lvm_store hv h'))
theorem pw_astore {i : Nat} {x : Nat} {lv' : List (Nat × Value)} (ks : List Nat) {pc' : Nat} (hp : pc + 2 = pc') (hd : decode y.2.1 pc = .ok (.astore i, 2)) (hn : i < y.2.2.1) (hv : lv_pick ((i, .ref x) :: lv.filter (lvF i)) ks = lv') (k : PW d mc ms y nc ns pc' lv' st w Q) : PW d mc ms y nc ns pc lv (.ref x :: st) w Q := by
  subst hp
  exact fun p l e s m args below meth c G B H locs ls C hK hP hS hB hl => lv_astore C.1 C.2.1 hd hl hn rfl (fun ls' h' => k p l e s m args below meth c G B H locs ls' C hK hP hS hB (lvm_store hv h'))
theorem pw_iinc {i : Nat} {n : Int} {x v : Int32} {lv' : List (Nat × Value)} (j : Nat) (ks : List Nat) {pc' : Nat} (hp : pc + 3 = pc') (hd : decode y.2.1 pc = .ok (.iinc i n, 3)) (hj : lv[j]? = some (i, .int x)) (hx : x + Int32.ofInt n = v) (hn : i < y.2.2.1) (hv : lv_pick ((i, .int v) :: lv.filter (lvF i)) ks = lv') (k : PW d mc ms y nc ns pc' lv' st w Q) : PW d mc ms y nc ns pc lv st w Q := by
  subst hp
  exact fun p l e s m args below meth c G B H locs ls C hK hP hS hB hl => lv_iinc C.1 C.2.1 hd hl (lvm_at hj) hx hn rfl (fun ls' h' => k p l e s m args below meth c G B H locs ls' C hK hP hS hB (lvm_store (v := .int v) hv h'))
theorem pw_sub {lv' : List (Nat × Value)} (ks : List Nat) (hv : lv_pick lv ks = lv') (k : PW d mc ms y nc ns pc lv' st w Q) : PW d mc ms y nc ns pc lv st w Q :=
  fun p l e s m args below meth c G B H locs ls C hK hP hS hB hl => k p l e s m args below meth c G B H locs ls C hK hP hS hB (lv_sub hl ks (by rw [lvm_pick, hv]))
theorem pw_iadd {x z : Int32} {pc' : Nat} (hp : pc + 1 = pc') (hd : decode y.2.1 pc = .ok (.iadd, 1)) (k : PW d mc ms y nc ns pc' lv (.int (x + z) :: st) w Q) : PW d mc ms y nc ns pc lv (.int z :: .int x :: st) w Q := by
  subst hp
  exact fun p l e s m args below meth cd G B H locs ls C hK hP hS hB hl => lv_iadd C.1 C.2.1 hd (k p l e s m args below meth cd G B H locs ls C hK hP hS hB hl)
theorem pw_isub {x z : Int32} {pc' : Nat} (hp : pc + 1 = pc') (hd : decode y.2.1 pc = .ok (.isub, 1)) (k : PW d mc ms y nc ns pc' lv (.int (x - z) :: st) w Q) : PW d mc ms y nc ns pc lv (.int z :: .int x :: st) w Q := by
  subst hp
  exact fun p l e s m args below meth cd G B H locs ls C hK hP hS hB hl => lv_isub C.1 C.2.1 hd (k p l e s m args below meth cd G B H locs ls C hK hP hS hB hl)
theorem pw_imul {x z : Int32} {pc' : Nat} (hp : pc + 1 = pc') (hd : decode y.2.1 pc = .ok (.imul, 1)) (k : PW d mc ms y nc ns pc' lv (.int (x * z) :: st) w Q) : PW d mc ms y nc ns pc lv (.int z :: .int x :: st) w Q := by
  subst hp
  exact fun p l e s m args below meth cd G B H locs ls C hK hP hS hB hl => lv_imul C.1 C.2.1 hd (k p l e s m args below meth cd G B H locs ls C hK hP hS hB hl)
theorem pw_iand {x z : Int32} {pc' : Nat} (hp : pc + 1 = pc') (hd : decode y.2.1 pc = .ok (.iand, 1)) (k : PW d mc ms y nc ns pc' lv (.int (x &&& z) :: st) w Q) : PW d mc ms y nc ns pc lv (.int z :: .int x :: st) w Q := by
  subst hp
  exact fun p l e s m args below meth cd G B H locs ls C hK hP hS hB hl => lv_iand C.1 C.2.1 hd (k p l e s m args below meth cd G B H locs ls C hK hP hS hB hl)
theorem pw_ior {x z : Int32} {pc' : Nat} (hp : pc + 1 = pc') (hd : decode y.2.1 pc = .ok (.ior, 1)) (k : PW d mc ms y nc ns pc' lv (.int (x ||| z) :: st) w Q) : PW d mc ms y nc ns pc lv (.int z :: .int x :: st) w Q := by
  subst hp
  exact fun p l e s m args below meth cd G B H locs ls C hK hP hS hB hl => lv_ior C.1 C.2.1 hd (k p l e s m args below meth cd G B H locs ls C hK hP hS hB hl)
theorem pw_ixor {x z : Int32} {pc' : Nat} (hp : pc + 1 = pc') (hd : decode y.2.1 pc = .ok (.ixor, 1)) (k : PW d mc ms y nc ns pc' lv (.int (x ^^^ z) :: st) w Q) : PW d mc ms y nc ns pc lv (.int z :: .int x :: st) w Q := by
  subst hp
  exact fun p l e s m args below meth cd G B H locs ls C hK hP hS hB hl => lv_ixor C.1 C.2.1 hd (k p l e s m args below meth cd G B H locs ls C hK hP hS hB hl)
theorem pw_ishl {x z : Int32} {pc' : Nat} (hp : pc + 1 = pc') (hd : decode y.2.1 pc = .ok (.ishl, 1)) (k : PW d mc ms y nc ns pc' lv (.int (x <<< (z &&& 31)) :: st) w Q) : PW d mc ms y nc ns pc lv (.int z :: .int x :: st) w Q := by
  subst hp
  exact fun p l e s m args below meth cd G B H locs ls C hK hP hS hB hl => lv_ishl C.1 C.2.1 hd (k p l e s m args below meth cd G B H locs ls C hK hP hS hB hl)
theorem pw_ishr {x z : Int32} {pc' : Nat} (hp : pc + 1 = pc') (hd : decode y.2.1 pc = .ok (.ishr, 1)) (k : PW d mc ms y nc ns pc' lv (.int (x >>> (z &&& 31)) :: st) w Q) : PW d mc ms y nc ns pc lv (.int z :: .int x :: st) w Q := by
  subst hp
  exact fun p l e s m args below meth cd G B H locs ls C hK hP hS hB hl => lv_ishr C.1 C.2.1 hd (k p l e s m args below meth cd G B H locs ls C hK hP hS hB hl)
theorem pw_idiv {x z : Int32} {pc' : Nat} (hp : pc + 1 = pc') (hd : decode y.2.1 pc = .ok (.idiv, 1)) (hz : ¬ z = 0) (k : PW d mc ms y nc ns pc' lv (.int (x / z) :: st) w Q) : PW d mc ms y nc ns pc lv (.int z :: .int x :: st) w Q := by
  subst hp
  exact fun p l e s m args below meth cd G B H locs ls C hK hP hS hB hl => lv_idiv C.1 C.2.1 hd hz (k p l e s m args below meth cd G B H locs ls C hK hP hS hB hl)
theorem pw_irem {x z : Int32} {pc' : Nat} (hp : pc + 1 = pc') (hd : decode y.2.1 pc = .ok (.irem, 1)) (hz : ¬ z = 0) (k : PW d mc ms y nc ns pc' lv (.int (x - x / z * z) :: st) w Q) : PW d mc ms y nc ns pc lv (.int z :: .int x :: st) w Q := by
  subst hp
  exact fun p l e s m args below meth cd G B H locs ls C hK hP hS hB hl => lv_irem C.1 C.2.1 hd hz (k p l e s m args below meth cd G B H locs ls C hK hP hS hB hl)
theorem pw_iushr {x z v : Int32} {pc' : Nat} (hp : pc + 1 = pc') (hd : decode y.2.1 pc = .ok (.iushr, 1)) (hv : (x.toUInt32 >>> (z.toUInt32 &&& Int32.toUInt32 31)).toInt32 = v) (k : PW d mc ms y nc ns pc' lv (.int v :: st) w Q) : PW d mc ms y nc ns pc lv (.int z :: .int x :: st) w Q := by
  subst hp
  exact fun p l e s m args below meth cd G B H locs ls C hK hP hS hB hl => lv_iushr C.1 C.2.1 hd hv (k p l e s m args below meth cd G B H locs ls C hK hP hS hB hl)
theorem pw_ladd {x z : Int64} {pc' : Nat} (hp : pc + 1 = pc') (hd : decode y.2.1 pc = .ok (.ladd, 1)) (k : PW d mc ms y nc ns pc' lv (.long (x + z) :: st) w Q) : PW d mc ms y nc ns pc lv (.long z :: .long x :: st) w Q := by
  subst hp
  exact fun p l e s m args below meth cd G B H locs ls C hK hP hS hB hl => lv_ladd C.1 C.2.1 hd (k p l e s m args below meth cd G B H locs ls C hK hP hS hB hl)
theorem pw_land {x z : Int64} {pc' : Nat} (hp : pc + 1 = pc') (hd : decode y.2.1 pc = .ok (.land, 1)) (k : PW d mc ms y nc ns pc' lv (.long (x &&& z) :: st) w Q) : PW d mc ms y nc ns pc lv (.long z :: .long x :: st) w Q := by
  subst hp
  exact fun p l e s m args below meth cd G B H locs ls C hK hP hS hB hl => lv_land C.1 C.2.1 hd (k p l e s m args below meth cd G B H locs ls C hK hP hS hB hl)
theorem pw_lor {x z : Int64} {pc' : Nat} (hp : pc + 1 = pc') (hd : decode y.2.1 pc = .ok (.lor, 1)) (k : PW d mc ms y nc ns pc' lv (.long (x ||| z) :: st) w Q) : PW d mc ms y nc ns pc lv (.long z :: .long x :: st) w Q := by
  subst hp
  exact fun p l e s m args below meth cd G B H locs ls C hK hP hS hB hl => lv_lor C.1 C.2.1 hd (k p l e s m args below meth cd G B H locs ls C hK hP hS hB hl)
theorem pw_lshl {x v : Int64} {z : Int32} {pc' : Nat} (hp : pc + 1 = pc') (hd : decode y.2.1 pc = .ok (.lshl, 1)) (hv : x <<< (z.toInt64 &&& 63) = v) (k : PW d mc ms y nc ns pc' lv (.long v :: st) w Q) : PW d mc ms y nc ns pc lv (.int z :: .long x :: st) w Q := by
  subst hp
  exact fun p l e s m args below meth cd G B H locs ls C hK hP hS hB hl => lv_lshl C.1 C.2.1 hd hv (k p l e s m args below meth cd G B H locs ls C hK hP hS hB hl)
theorem pw_lshr {x v : Int64} {z : Int32} {pc' : Nat} (hp : pc + 1 = pc') (hd : decode y.2.1 pc = .ok (.lshr, 1)) (hv : x >>> (z.toInt64 &&& 63) = v) (k : PW d mc ms y nc ns pc' lv (.long v :: st) w Q) : PW d mc ms y nc ns pc lv (.int z :: .long x :: st) w Q := by
  subst hp
  exact fun p l e s m args below meth cd G B H locs ls C hK hP hS hB hl => lv_lshr C.1 C.2.1 hd hv (k p l e s m args below meth cd G B H locs ls C hK hP hS hB hl)
theorem pw_lcmp {x z : Int64} {pc' : Nat} (hp : pc + 1 = pc') (hd : decode y.2.1 pc = .ok (.lcmp, 1)) (k : PW d mc ms y nc ns pc' lv (.int (lg_cmp x z) :: st) w Q) : PW d mc ms y nc ns pc lv (.long z :: .long x :: st) w Q := by
  subst hp
  exact fun p l e s m args below meth cd G B H locs ls C hK hP hS hB hl => W.lcmp C.1 C.2.1 hd (k p l e s m args below meth cd G B H locs ls C hK hP hS hB hl)
theorem pw_i2l {x : Int32} {v : Int64} {pc' : Nat} (hp : pc + 1 = pc') (hd : decode y.2.1 pc = .ok (.i2l, 1)) (hv : x.toInt64 = v) (k : PW d mc ms y nc ns pc' lv (.long v :: st) w Q) : PW d mc ms y nc ns pc lv (.int x :: st) w Q := by
  subst hp
  exact fun p l e s m args below meth cd G B H locs ls C hK hP hS hB hl => lv_i2l C.1 C.2.1 hd hv (k p l e s m args below meth cd G B H locs ls C hK hP hS hB hl)
theorem pw_l2i {x : Int64} {v : Int32} {pc' : Nat} (hp : pc + 1 = pc') (hd : decode y.2.1 pc = .ok (.l2i, 1)) (hv : x.toInt32 = v) (k : PW d mc ms y nc ns pc' lv (.int v :: st) w Q) : PW d mc ms y nc ns pc lv (.long x :: st) w Q := by
  subst hp
  exact fun p l e s m args below meth cd G B H locs ls C hK hP hS hB hl => lv_l2i C.1 C.2.1 hd hv (k p l e s m args below meth cd G B H locs ls C hK hP hS hB hl)
theorem pw_i2b {x v : Int32} {pc' : Nat} (hp : pc + 1 = pc') (hd : decode y.2.1 pc = .ok (.i2b, 1)) (hv : x.toInt8.toInt32 = v) (k : PW d mc ms y nc ns pc' lv (.int v :: st) w Q) : PW d mc ms y nc ns pc lv (.int x :: st) w Q := by
  subst hp
  exact fun p l e s m args below meth cd G B H locs ls C hK hP hS hB hl => lv_i2b C.1 C.2.1 hd hv (k p l e s m args below meth cd G B H locs ls C hK hP hS hB hl)
theorem pw_i2s {x v : Int32} {pc' : Nat} (hp : pc + 1 = pc') (hd : decode y.2.1 pc = .ok (.i2s, 1)) (hv : x.toInt16.toInt32 = v) (k : PW d mc ms y nc ns pc' lv (.int v :: st) w Q) : PW d mc ms y nc ns pc lv (.int x :: st) w Q := by
  subst hp
  exact fun p l e s m args below meth cd G B H locs ls C hK hP hS hB hl => lv_i2s C.1 C.2.1 hd hv (k p l e s m args below meth cd G B H locs ls C hK hP hS hB hl)
theorem pw_dup {v : Value} {pc' : Nat} (hp : pc + 1 = pc') (hd : decode y.2.1 pc = .ok (.dup, 1)) (hv : v.category = 1) (k : PW d mc ms y nc ns pc' lv (v :: v :: st) w Q) : PW d mc ms y nc ns pc lv (v :: st) w Q := by
  subst hp
  exact fun p l e s m args below meth cd G B H locs ls C hK hP hS hB hl => lv_dup C.1 C.2.1 hd ((cat_rv B v).trans hv) (k p l e s m args below meth cd G B H locs ls C hK hP hS hB hl)
theorem pw_pop {v : Value} {pc' : Nat} (hp : pc + 1 = pc') (hd : decode y.2.1 pc = .ok (.pop, 1)) (hv : v.category = 1) (k : PW d mc ms y nc ns pc' lv st w Q) : PW d mc ms y nc ns pc lv (v :: st) w Q := by
  subst hp
  exact fun p l e s m args below meth cd G B H locs ls C hK hP hS hB hl => lv_pop C.1 C.2.1 hd ((cat_rv B v).trans hv) (k p l e s m args below meth cd G B H locs ls C hK hP hS hB hl)
theorem pw_dup2 {v u : Value} {pc' : Nat} (hp : pc + 1 = pc') (hd : decode y.2.1 pc = .ok (.dup2, 1)) (hv : v.category = 1) (hu : u.category = 1) (k : PW d mc ms y nc ns pc' lv (v :: u :: v :: u :: st) w Q) : PW d mc ms y nc ns pc lv (v :: u :: st) w Q := by
  subst hp
  exact fun p l e s m args below meth cd G B H locs ls C hK hP hS hB hl => lv_dup2_11 C.1 C.2.1 hd ((cat_rv B v).trans hv) ((cat_rv B u).trans hu) (k p l e s m args below meth cd G B H locs ls C hK hP hS hB hl)
theorem pw_if_eq {x : Int32} {off : Int} {tgt : Nat} {pc' : Nat} (hp : pc + 3 = pc') (hd : decode y.2.1 pc = .ok (.ifCond .eq off, 3)) (ht : (pc : Int) + off = (tgt : Int)) (kt : x = 0 → PW d mc ms y nc ns tgt lv st w Q) (kf : ¬ x = 0 → PW d mc ms y nc ns pc' lv st w Q) : PW d mc ms y nc ns pc lv (.int x :: st) w Q := by
  subst hp
  exact fun p l e s m args below meth cd G B H locs ls C hK hP hS hB hl => lv_if_eq C.1 C.2.1 hd ht (fun h => kt h p l e s m args below meth cd G B H locs ls C hK hP hS hB hl) (fun h => kf h p l e s m args below meth cd G B H locs ls C hK hP hS hB hl)
theorem pw_icmp_eq {x z : Int32} {off : Int} {tgt : Nat} {pc' : Nat} (hp : pc + 3 = pc') (hd : decode y.2.1 pc = .ok (.if_icmp .eq off, 3)) (ht : (pc : Int) + off = (tgt : Int)) (kt : x = z → PW d mc ms y nc ns tgt lv st w Q) (kf : ¬ x = z → PW d mc ms y nc ns pc' lv st w Q) : PW d mc ms y nc ns pc lv (.int z :: .int x :: st) w Q := by
  subst hp
  exact fun p l e s m args below meth cd G B H locs ls C hK hP hS hB hl => lv_icmp_eq C.1 C.2.1 hd ht (fun h => kt h p l e s m args below meth cd G B H locs ls C hK hP hS hB hl) (fun h => kf h p l e s m args below meth cd G B H locs ls C hK hP hS hB hl)
theorem pw_if_ne {x : Int32} {off : Int} {tgt : Nat} {pc' : Nat} (hp : pc + 3 = pc') (hd : decode y.2.1 pc = .ok (.ifCond .ne off, 3)) (ht : (pc : Int) + off = (tgt : Int)) (kt : ¬ x = 0 → PW d mc ms y nc ns tgt lv st w Q) (kf : x = 0 → PW d mc ms y nc ns pc' lv st w Q) : PW d mc ms y nc ns pc lv (.int x :: st) w Q := by
  subst hp
  exact fun p l e s m args below meth cd G B H locs ls C hK hP hS hB hl => lv_if_ne C.1 C.2.1 hd ht (fun h => kt h p l e s m args below meth cd G B H locs ls C hK hP hS hB hl) (fun h => kf h p l e s m args below meth cd G B H locs ls C hK hP hS hB hl)
theorem pw_icmp_ne {x z : Int32} {off : Int} {tgt : Nat} {pc' : Nat} (hp : pc + 3 = pc') (hd : decode y.2.1 pc = .ok (.if_icmp .ne off, 3)) (ht : (pc : Int) + off = (tgt : Int)) (kt : ¬ x = z → PW d mc ms y nc ns tgt lv st w Q) (kf : x = z → PW d mc ms y nc ns pc' lv st w Q) : PW d mc ms y nc ns pc lv (.int z :: .int x :: st) w Q := by
  subst hp
  exact fun p l e s m args below meth cd G B H locs ls C hK hP hS hB hl => lv_icmp_ne C.1 C.2.1 hd ht (fun h => kt h p l e s m args below meth cd G B H locs ls C hK hP hS hB hl) (fun h => kf h p l e s m args below meth cd G B H locs ls C hK hP hS hB hl)
theorem pw_if_lt {x : Int32} {off : Int} {tgt : Nat} {pc' : Nat} (hp : pc + 3 = pc') (hd : decode y.2.1 pc = .ok (.ifCond .lt off, 3)) (ht : (pc : Int) + off = (tgt : Int)) (kt : x < 0 → PW d mc ms y nc ns tgt lv st w Q) (kf : ¬ x < 0 → PW d mc ms y nc ns pc' lv st w Q) : PW d mc ms y nc ns pc lv (.int x :: st) w Q := by
  subst hp
  exact fun p l e s m args below meth cd G B H locs ls C hK hP hS hB hl => lv_if_lt C.1 C.2.1 hd ht (fun h => kt h p l e s m args below meth cd G B H locs ls C hK hP hS hB hl) (fun h => kf h p l e s m args below meth cd G B H locs ls C hK hP hS hB hl)
theorem pw_icmp_lt {x z : Int32} {off : Int} {tgt : Nat} {pc' : Nat} (hp : pc + 3 = pc') (hd : decode y.2.1 pc = .ok (.if_icmp .lt off, 3)) (ht : (pc : Int) + off = (tgt : Int)) (kt : x < z → PW d mc ms y nc ns tgt lv st w Q) (kf : ¬ x < z → PW d mc ms y nc ns pc' lv st w Q) : PW d mc ms y nc ns pc lv (.int z :: .int x :: st) w Q := by
  subst hp
  exact fun p l e s m args below meth cd G B H locs ls C hK hP hS hB hl => lv_icmp_lt C.1 C.2.1 hd ht (fun h => kt h p l e s m args below meth cd G B H locs ls C hK hP hS hB hl) (fun h => kf h p l e s m args below meth cd G B H locs ls C hK hP hS hB hl)
theorem pw_if_ge {x : Int32} {off : Int} {tgt : Nat} {pc' : Nat} (hp : pc + 3 = pc') (hd : decode y.2.1 pc = .ok (.ifCond .ge off, 3)) (ht : (pc : Int) + off = (tgt : Int)) (kt : 0 ≤ x → PW d mc ms y nc ns tgt lv st w Q) (kf : ¬ 0 ≤ x → PW d mc ms y nc ns pc' lv st w Q) : PW d mc ms y nc ns pc lv (.int x :: st) w Q := by
  subst hp
  exact fun p l e s m args below meth cd G B H locs ls C hK hP hS hB hl => lv_if_ge C.1 C.2.1 hd ht (fun h => kt h p l e s m args below meth cd G B H locs ls C hK hP hS hB hl) (fun h => kf h p l e s m args below meth cd G B H locs ls C hK hP hS hB hl)
theorem pw_icmp_ge {x z : Int32} {off : Int} {tgt : Nat} {pc' : Nat} (hp : pc + 3 = pc') (hd : decode y.2.1 pc = .ok (.if_icmp .ge off, 3)) (ht : (pc : Int) + off = (tgt : Int)) (kt : z ≤ x → PW d mc ms y nc ns tgt lv st w Q) (kf : ¬ z ≤ x → PW d mc ms y nc ns pc' lv st w Q) : PW d mc ms y nc ns pc lv (.int z :: .int x :: st) w Q := by
  subst hp
  exact fun p l e s m args below meth cd G B H locs ls C hK hP hS hB hl => lv_icmp_ge C.1 C.2.1 hd ht (fun h => kt h p l e s m args below meth cd G B H locs ls C hK hP hS hB hl) (fun h => kf h p l e s m args below meth cd G B H locs ls C hK hP hS hB hl)
theorem pw_if_gt {x : Int32} {off : Int} {tgt : Nat} {pc' : Nat} (hp : pc + 3 = pc') (hd : decode y.2.1 pc = .ok (.ifCond .gt off, 3)) (ht : (pc : Int) + off = (tgt : Int)) (kt : 0 < x → PW d mc ms y nc ns tgt lv st w Q) (kf : ¬ 0 < x → PW d mc ms y nc ns pc' lv st w Q) : PW d mc ms y nc ns pc lv (.int x :: st) w Q := by
  subst hp
  exact fun p l e s m args below meth cd G B H locs ls C hK hP hS hB hl => lv_if_gt C.1 C.2.1 hd ht (fun h => kt h p l e s m args below meth cd G B H locs ls C hK hP hS hB hl) (fun h => kf h p l e s m args below meth cd G B H locs ls C hK hP hS hB hl)
theorem pw_icmp_gt {x z : Int32} {off : Int} {tgt : Nat} {pc' : Nat} (hp : pc + 3 = pc') (hd : decode y.2.1 pc = .ok (.if_icmp .gt off, 3)) (ht : (pc : Int) + off = (tgt : Int)) (kt : z < x → PW d mc ms y nc ns tgt lv st w Q) (kf : ¬ z < x → PW d mc ms y nc ns pc' lv st w Q) : PW d mc ms y nc ns pc lv (.int z :: .int x :: st) w Q := by
  subst hp
  exact fun p l e s m args below meth cd G B H locs ls C hK hP hS hB hl => lv_icmp_gt C.1 C.2.1 hd ht (fun h => kt h p l e s m args below meth cd G B H locs ls C hK hP hS hB hl) (fun h => kf h p l e s m args below meth cd G B H locs ls C hK hP hS hB hl)
theorem pw_if_le {x : Int32} {off : Int} {tgt : Nat} {pc' : Nat} (hp : pc + 3 = pc') (hd : decode y.2.1 pc = .ok (.ifCond .le off, 3)) (ht : (pc : Int) + off = (tgt : Int)) (kt : x ≤ 0 → PW d mc ms y nc ns tgt lv st w Q) (kf : ¬ x ≤ 0 → PW d mc ms y nc ns pc' lv st w Q) : PW d mc ms y nc ns pc lv (.int x :: st) w Q := by
  subst hp
  exact fun p l e s m args below meth cd G B H locs ls C hK hP hS hB hl => lv_if_le C.1 C.2.1 hd ht (fun h => kt h p l e s m args below meth cd G B H locs ls C hK hP hS hB hl) (fun h => kf h p l e s m args below meth cd G B H locs ls C hK hP hS hB hl)
theorem pw_icmp_le {x z : Int32} {off : Int} {tgt : Nat} {pc' : Nat} (hp : pc + 3 = pc') (hd : decode y.2.1 pc = .ok (.if_icmp .le off, 3)) (ht : (pc : Int) + off = (tgt : Int)) (kt : x ≤ z → PW d mc ms y nc ns tgt lv st w Q) (kf : ¬ x ≤ z → PW d mc ms y nc ns pc' lv st w Q) : PW d mc ms y nc ns pc lv (.int z :: .int x :: st) w Q := by
  subst hp
  exact fun p l e s m args below meth cd G B H locs ls C hK hP hS hB hl => lv_icmp_le C.1 C.2.1 hd ht (fun h => kt h p l e s m args below meth cd G B H locs ls C hK hP hS hB hl) (fun h => kf h p l e s m args below meth cd G B H locs ls C hK hP hS hB hl)
theorem pw_goto {off : Int} {tgt : Nat} (hd : decode y.2.1 pc = .ok (.goto off, 3)) (ht : (pc : Int) + off = (tgt : Int)) (k : PW d mc ms y nc ns tgt lv st w Q) : PW d mc ms y nc ns pc lv st w Q :=
  fun p l e s m args below meth cd G B H locs ls C hK hP hS hB hl => lv_goto C.1 C.2.1 hd ht (k p l e s m args below meth cd G B H locs ls C hK hP hS hB hl)
theorem pw_tableOut {dflt lo hi : Int} {offs : Array Int} {len : Nat} {x : Int32} {tgt : Nat} (hd : decode y.2.1 pc = .ok (.tableswitch dflt lo hi offs, len)) (h : x.toInt < lo ∨ hi < x.toInt) (ht : (pc : Int) + dflt = (tgt : Int)) (k : PW d mc ms y nc ns tgt lv st w Q) : PW d mc ms y nc ns pc lv (.int x :: st) w Q :=
  fun p l e s m args below meth cd G B H locs ls C hK hP hS hB hl => lv_tableOut C.1 C.2.1 hd h ht (k p l e s m args below meth cd G B H locs ls C hK hP hS hB hl)
theorem pw_tableIn {dflt lo hi : Int} {offs : Array Int} {len : Nat} {x : Int32} {off : Int} {tgt : Nat} (hd : decode y.2.1 pc = .ok (.tableswitch dflt lo hi offs, len)) (h1 : ¬ x.toInt < lo) (h2 : ¬ hi < x.toInt) (ho : offs[(x.toInt - lo).toNat]? = some off) (ht : (pc : Int) + off = (tgt : Int)) (k : PW d mc ms y nc ns tgt lv st w Q) : PW d mc ms y nc ns pc lv (.int x :: st) w Q :=
  fun p l e s m args below meth cd G B H locs ls C hK hP hS hB hl => lv_tableIn C.1 C.2.1 hd h1 h2 ho ht (k p l e s m args below meth cd G B H locs ls C hK hP hS hB hl)
theorem pw_lookup {dflt : Int} {ps : Array (Int × Int)} {len : Nat} {x : Int32} {off : Int} {tgt : Nat} (hd : decode y.2.1 pc = .ok (.lookupswitch dflt ps, len)) (hp : (ps.toList.zip (ps.toList.drop 1)).all (fun (a, next) => a.1 < next.1) = true) (ho : Op.lookupswitch.offset ps.toList dflt x.toInt = off) (ht : (pc : Int) + off = (tgt : Int)) (k : PW d mc ms y nc ns tgt lv st w Q) : PW d mc ms y nc ns pc lv (.int x :: st) w Q :=
  fun p l e s m args below meth cd G B H locs ls C hK hP hS hB hl => lv_lookup C.1 C.2.1 hd hp ho ht (k p l e s m args below meth cd G B H locs ls C hK hP hS hB hl)
theorem pw_ldc {index : Nat} {v : Int32} {pc' : Nat} (hp : pc + 2 = pc') (hd : decode y.2.1 pc = .ok (.ldc index, 2)) (hc : Cond.constant y.1.cls index v ∈ tb) (k : PW d mc ms y nc ns pc' lv (.int v :: st) w Q) : PW d mc ms y nc ns pc lv st w Q := by
  subst hp
  exact fun p l e s m args below meth cd G B H locs ls C hK hP hS hB hl => lv_ldc C.1 C.2.1 C.2.2.2.2.1 (C.2.2.2.2.2.1 _ hc) hd (k p l e s m args below meth cd G B H locs ls C hK hP hS hB hl)
theorem pw_ldcw {index : Nat} {v : Int32} {pc' : Nat} (hp : pc + 3 = pc') (hd : decode y.2.1 pc = .ok (.ldc_w index, 3)) (hc : Cond.constant y.1.cls index v ∈ tb) (k : PW d mc ms y nc ns pc' lv (.int v :: st) w Q) : PW d mc ms y nc ns pc lv st w Q := by
  subst hp
  exact fun p l e s m args below meth cd G B H locs ls C hK hP hS hB hl => lv_ldcw C.1 C.2.1 C.2.2.2.2.1 (C.2.2.2.2.2.1 _ hc) hd (k p l e s m args below meth cd G B H locs ls C hK hP hS hB hl)
theorem pw_ldc2 {index : Nat} {v : Int64} {pc' : Nat} (hp : pc + 3 = pc') (hd : decode y.2.1 pc = .ok (.ldc2_w index, 3)) (hc : Cond.constantLong y.1.cls index v ∈ tb) (k : PW d mc ms y nc ns pc' lv (.long v :: st) w Q) : PW d mc ms y nc ns pc lv st w Q := by
  subst hp
  exact fun p l e s m args below meth cd G B H locs ls C hK hP hS hB hl => lv_ldc2 C.1 C.2.1 C.2.2.2.2.1 (C.2.2.2.2.2.1 _ hc) hd (k p l e s m args below meth cd G B H locs ls C hK hP hS hB hl)
theorem pw_getI {idx ci k c : Nat} {fin : Bool} {fty : FieldType} {pc' : Nat} (hp : pc + 3 = pc') (hd : decode y.2.1 pc = .ok (.getfield idx, 3)) (hF : FL y.1.cls idx ci k fin fty) (hc : c < w.1) (hk : w.2.1 c = .inl ci) (hb : (cfl ci)[k]? = some false) (kk : PW d mc ms y nc ns pc' lv (.int (w.2.2.2 c k) :: st) w Q) : PW d mc ms y nc ns pc lv (.ref c :: st) w Q := by
  subst hp
  intro p l e s m args below meth cd G B H locs ls C hK hP hS hB hl
  obtain ⟨Cn, T, N, ty, ⟨f1, f2, -, -, f5⟩, hkN, hln, -, -⟩ := hF
  refine va_get (v := .int (w.2.2.2 c k)) C.1 C.2.1 C.2.2.2.2.2.1 f2 C.2.2.2.2.1 hK hP.1 c ((wl_get hc).trans (by rw [wE_obj hk])) f1 k hkN (ref := Cn) (C.2.2.2.2.2.1 _ hln) (fun x h => by rw [f5 k hkN] at h; exact h) ?_ hd (kk p l e s m args below meth cd G B H locs ls C hK hP hS hB hl)
  rw [wF_get, hb]
  simp
theorem pw_getR {idx ci k c r : Nat} {fin : Bool} {fty : FieldType} {pc' : Nat} (hp : pc + 3 = pc') (hd : decode y.2.1 pc = .ok (.getfield idx, 3)) (hF : FL y.1.cls idx ci k fin fty) (hc : c < w.1) (hk : w.2.1 c = .inl ci) (hb : (cfl ci)[k]? = some true) (hr : w.2.2.1 c k = some r) (kk : PW d mc ms y nc ns pc' lv (.ref r :: st) w Q) : PW d mc ms y nc ns pc lv (.ref c :: st) w Q := by
  subst hp
  intro p l e s m args below meth cd G B H locs ls C hK hP hS hB hl
  obtain ⟨Cn, T, N, ty, ⟨f1, f2, -, -, f5⟩, hkN, hln, -, -⟩ := hF
  refine va_get (v := .ref (B + r)) C.1 C.2.1 C.2.2.2.2.2.1 f2 C.2.2.2.2.1 hK hP.1 c ((wl_get hc).trans (by rw [wE_obj hk])) f1 k hkN (ref := Cn) (C.2.2.2.2.2.1 _ hln) (fun x h => by rw [f5 k hkN] at h; exact h) ?_ hd (kk p l e s m args below meth cd G B H locs ls C hK hP hS hB hl)
  rw [wF_get, hb]
  simp [hr, rf, va_rf]
theorem pw_putI {idx ci k c : Nat} {fty : FieldType} {v : Int32} {pc' : Nat} (hp : pc + 3 = pc') (hd : decode y.2.1 pc = .ok (.putfield idx, 3)) (hF : FL y.1.cls idx ci k false fty) (hc : c < w.1) (hk : w.2.1 c = .inl ci) (hb : (cfl ci)[k]? = some false) (hn : narrow fty (.int v) = .int v) (hft : fits fty (.int v) = true) (kk : PW d mc ms y nc ns pc' lv st (wPut w c k v) Q) : PW d mc ms y nc ns pc lv (.int v :: .ref c :: st) w Q := by
  subst hp
  intro p l e s m args below meth cd G B H locs ls C hK hP hS hB hl
  obtain ⟨Cn, T, N, ty, ⟨f1, f2, f3, f4, f5⟩, hkN, hln, hfin, hty⟩ := hF
  subst hty
  have hlen : k < (cfl ci).length := (List.getElem?_eq_some_iff.mp hb).1
  have hz : H.size = B + w.1 := hP.2
  have hap := va_apart (own := y.1.cls) C.2.2.2.2.2.1 f2 ty f3 f4 hK f1
  have he : (wl G B w)[c]? = some (B + c, .inr (ci, wF B w c 0 (cfl ci))) := (wl_get hc).trans (by rw [wE_obj hk])
  obtain ⟨r, h1, cell, q1, q2, q3, q4⟩ := hP.1 c _ he
  have hr : r = (Cn, T, N) := Option.some.inj (h1.symm.trans f1)
  subst hr
  obtain ⟨hSl, hfc, kC, hkC, hkind⟩ := hK.1 ci _ f1
  obtain ⟨cf, kf, fi, f, hi, hsl⟩ := hSl k hkN
  have hlay := C.2.2.2.2.2.1 _ (f2 _ (u_in_lay hkN))
  unfold u_lay at hlay
  rw [if_neg (by rw [hfin]; decide)] at hlay
  have hst := (u_facts hfc hkC (u_lays C.2.2.2.2.2.1 f2 hkN) hi).1
  have h6 := u_store hfc hkC hkind hlay hi (f3 k hkN) hn hft
  have hi2 : s.fieldFound? Cn (T k).2.1 (T k).2.2.1 = some (cf, kf, fi, f) := by rw [f5 k hkN] at hi; exact hi
  refine W.putK C.1 C.2.1 (f := f) ⟨C.2.2.2.2.1, C.2.2.2.2.2.1 _ hln, ⟨_, _, _, hi2⟩, hst⟩ (by rw [q2]; exact h6) q1 q3 (by rw [hsl]; exact k2_hasslot (q4 k hkN)) rfl rfl hd fun H' e1 e2 e3 => ?_
  rw [hsl] at e1 ⊢
  have hset := hP.1.set wl_D he (e := .inr (ci, (wF B w c 0 (cfl ci)).set k (.int v))) ⟨_, f1, t_OB.to (V := updV (vp_V (wF B w c 0 (cfl ci))) k (.int v)) ⟨_, e1, q2, q3, t_set q4 hap hkN (.int v)⟩ (fun j _ => vp_updV_set (by rw [wF_len]; exact hlen) (.int v) j)⟩ e3
  rw [wl_set (w := w) (w' := wPut w c k v) rfl (fun c' h => wE_put_ne c' h) (by rw [wE_obj (by exact hk), wF_put hb])] at hset
  exact kk p l e s m args below meth cd G B H' _ ls C hK ⟨hset, by rw [e2]; exact hz⟩ (hS.put e2 e3 (show B ≤ B + _ by omega)) hB hl
theorem pw_putR {idx ci k c : Nat} {fty : FieldType} {r : Nat} {pc' : Nat} (hp : pc + 3 = pc') (hd : decode y.2.1 pc = .ok (.putfield idx, 3)) (hF : FL y.1.cls idx ci k true fty) (hc : c < w.1) (hk : w.2.1 c = .inl ci) (hb : (cfl ci)[k]? = some true) (hini : y.1.name = "<init>") (hown : ∀ q : vw_C, vwCl[ci]? = some q → q.1 = y.1.cls) (hn : ∀ a, narrow fty (.ref a) = .ref a) (hft : ∀ a, fits fty (.ref a) = true) (kk : PW d mc ms y nc ns pc' lv st (wPutR w c k (some r)) Q) : PW d mc ms y nc ns pc lv (.ref r :: .ref c :: st) w Q := by
  subst hp
  intro p l e s m args below meth cd G B H locs ls C hK hP hS hB hl
  obtain ⟨Cn, T, N, ty, ⟨f1, f2, f3, f4, f5⟩, hkN, hln, hfin, hty⟩ := hF
  subst hty
  have hlen : k < (cfl ci).length := (List.getElem?_eq_some_iff.mp hb).1
  have hz : H.size = B + w.1 := hP.2
  have hap := va_apart (own := y.1.cls) C.2.2.2.2.2.1 f2 ty f3 f4 hK f1
  have he : (wl G B w)[c]? = some (B + c, .inr (ci, wF B w c 0 (cfl ci))) := (wl_get hc).trans (by rw [wE_obj hk])
  obtain ⟨q, h1, cell, q1, q2, q3, q4⟩ := hP.1 c _ he
  have hr : q = (Cn, T, N) := Option.some.inj (h1.symm.trans f1)
  subst hr
  obtain ⟨hSl, hfc, kC, hkC, hkind⟩ := hK.1 ci _ f1
  obtain ⟨cf, kf, fi, f, hi, hsl⟩ := hSl k hkN
  have hlay := C.2.2.2.2.2.1 _ (f2 _ (u_in_lay hkN))
  unfold u_lay at hlay
  rw [if_pos hfin] at hlay
  have hst := (u_facts hfc hkC (u_lays C.2.2.2.2.2.1 f2 hkN) hi).1
  have hcf : m.cls = cf := by
    obtain ⟨_, _, c', _, _, _, -, -, hf', -, -, -, hown2, -⟩ := Cond.laysFinal_spec hlay
    have e1 : c' = cf := by have := hi.symm.trans hf'; simp at this; exact this.1.symm
    rw [f5 k hkN, show Cn = y.1.cls from hown _ f1] at hown2
    rw [← e1]; exact Option.some.inj (C.2.2.2.2.1.symm.trans hown2)
  have h6 := u_fits hfc hkC hkind (Or.inr hlay) hi (f3 k hkN) (hn (B + r)) (hft (B + r))
  have hi2 : s.fieldFound? Cn (T k).2.1 (T k).2.2.1 = some (cf, kf, fi, f) := by rw [f5 k hkN] at hi; exact hi
  refine W.putFinK C.1 C.2.1 C.2.2.2.2.1 (C.2.2.2.2.2.1 _ hln) hi2 hst hcf (C.2.2.2.2.2.2.2.trans hini) (by rw [q2]; exact h6) q1 q3 (by rw [hsl]; exact k2_hasslot (q4 k hkN)) rfl rfl hd fun H' e1 e2 e3 => ?_
  rw [hsl] at e1 ⊢
  have hset := hP.1.set wl_D he (e := .inr (ci, (wF B w c 0 (cfl ci)).set k (.ref (B + r)))) ⟨_, f1, t_OB.to (V := updV (vp_V (wF B w c 0 (cfl ci))) k (.ref (B + r))) ⟨_, e1, q2, q3, t_set q4 hap hkN (.ref (B + r))⟩ (fun j _ => vp_updV_set (by rw [wF_len]; exact hlen) (.ref (B + r)) j)⟩ e3
  rw [wl_set (w := w) (w' := wPutR w c k (some r)) rfl (fun c' h => wE_putR_ne c' h) (by rw [wE_obj (by exact hk), wF_putR hb]; rfl)] at hset
  exact kk p l e s m args below meth cd G B H' _ ls C hK ⟨hset, by rw [e2]; exact hz⟩ (hS.put e2 e3 (show B ≤ B + _ by omega)) hB hl
/-! arrays -/
abbrev ix (i : Int32) : Nat := i.toNatClampNeg
theorem pw_iald {c n : Nat} {i : Int32} {pc' : Nat} (hp : pc + 1 = pc') (hd : decode y.2.1 pc = .ok (.iaload, 1)) (hc : c < w.1) (hk : w.2.1 c = .inr (.inl n)) (hi : vp_in i n) (kk : PW d mc ms y nc ns pc' lv (.int (w.2.2.2 c (ix i)) :: st) w Q) : PW d mc ms y nc ns pc lv (.int i :: .ref c :: st) w Q := by
  subst hp
  intro p l e s m args below meth cd G B H locs ls C hK hP hS hB hl
  exact va_iald C.1 C.2.1 hK hP.1 c 0 ((wl_get hc).trans (by rw [wE_arr hk])) rfl hi hd (kk p l e s m args below meth cd G B H locs ls C hK hP hS hB hl)
theorem pw_aald {c n r : Nat} {i : Int32} {pc' : Nat} (hp : pc + 1 = pc') (hd : decode y.2.1 pc = .ok (.aaload, 1)) (hc : c < w.1) (hk : w.2.1 c = .inr (.inr n)) (hi : vp_in i n) (hr : w.2.2.1 c (ix i) = some r) (kk : PW d mc ms y nc ns pc' lv (.ref r :: st) w Q) : PW d mc ms y nc ns pc lv (.int i :: .ref c :: st) w Q := by
  subst hp
  intro p l e s m args below meth cd G B H locs ls C hK hP hS hB hl
  have hlt : i.toNatClampNeg < n := Nat.not_le.mp fun q => hi (Or.inr q)
  have hcell := hP.1 c _ ((wl_get hc).trans (by rw [wE_rarr hk]))
  refine W.aald (v := .ref (B + r)) (ty := .array .int) C.1 C.2.1 hcell ((hK.2 1 _ rfl).1 n (fun j => va_rf ((w.2.2.1 c j).map fun q => B + q))) rfl (fun q => by cases q) (by show ¬ (i < 0 ∨ (arrV _ _ _).slots.size ≤ _); rw [arrV_size]; exact hi) (by show (arrV _ _ _).slots[_]? = _; rw [arrV_read _ _ hlt]; show some (va_rf ((w.2.2.1 c (ix i)).map fun q => B + q)) = _; rw [hr]; rfl) rfl rfl hd (kk p l e s m args below meth cd G B H locs ls C hK hP hS hB hl)
theorem pw_iast {c n : Nat} {i v : Int32} {pc' : Nat} (hp : pc + 1 = pc') (hd : decode y.2.1 pc = .ok (.iastore, 1)) (hc : c < w.1) (hk : w.2.1 c = .inr (.inl n)) (hi : vp_in i n) (kk : PW d mc ms y nc ns pc' lv st (wPut w c (ix i) v) Q) : PW d mc ms y nc ns pc lv (.int v :: .int i :: .ref c :: st) w Q := by
  subst hp
  intro p l e s m args below meth cd G B H locs ls C hK hP hS hB hl
  have hz : H.size = B + w.1 := hP.2
  have ha : (wl G B w)[c]? = some (B + c, .inl (G.2.1, n, .inl (w.2.2.2 c))) := (wl_get hc).trans (by rw [wE_arr hk])
  refine W.iast C.1 C.2.1 (hP.1 c _ ha) ((hK.2 0 _ rfl).1 n (fun j => .int (w.2.2.2 c j))) (fun q => by cases q) (by show ¬ (i < 0 ∨ (arrV _ _ _).slots.size ≤ _); rw [arrV_size]; exact hi) rfl rfl hd fun H1 e1 z oq => ?_
  have hset := hP.1.set wl_D ha (e := .inl (G.2.1, n, .inl (upd (w.2.2.2 c) (ix i) v))) (H1 := H1) (by
    show H1[B + c]? = some (vp_cell _ _)
    rw [e1, vp_cell_i, vp_cell_i, arrV_store]
    congr 2
    funext q
    by_cases hq : q = i.toNatClampNeg
    · subst hq
      simp [updV, upd]
    · simp [updV, upd, hq]) oq
  rw [wl_set (w := w) (w' := wPut w c (ix i) v) rfl (fun c' h => wE_put_ne c' h) (by
    rw [wE_arr (by exact hk)]
    refine congrArg (fun f => (Sum.inl (G.2.1, n, Sum.inl f) : va_E)) (funext fun j => ?_)
    show wr _ _ _ _ _ _ = upd _ _ _ _
    unfold wr upd
    by_cases hj : j = ix i
    · rw [if_pos ⟨rfl, hj⟩, if_pos hj]
    · rw [if_neg (fun q => hj q.2), if_neg hj])] at hset
  exact kk p l e s m args below meth cd G B H1 _ ls C hK ⟨hset, by rw [z]; exact hz⟩ (hS.put z oq (show B ≤ B + _ by omega)) hB hl
theorem pw_alenI {c n : Nat} {v : Int32} {pc' : Nat} (hp : pc + 1 = pc') (hd : decode y.2.1 pc = .ok (.arraylength, 1)) (hc : c < w.1) (hk : w.2.1 c = .inr (.inl n)) (hv : Int32.ofNat n = v) (kk : PW d mc ms y nc ns pc' lv (.int v :: st) w Q) : PW d mc ms y nc ns pc lv (.ref c :: st) w Q := by
  subst hp
  intro p l e s m args below meth cd G B H locs ls C hK hP hS hB hl
  exact va_alen C.1 C.2.1 hK hP.1 c 0 ((wl_get hc).trans (by rw [wE_arr hk])) rfl hv hd (kk p l e s m args below meth cd G B H locs ls C hK hP hS hB hl)
/-! ends -/
theorem pw_iret {r : Int32} (hd : decode y.2.1 pc = .ok (.ireturn, 1)) (hr : y.2.2.2 = some .int) (h : Q (some (.int r)) w) : PW d mc ms y mc ms pc lv [.int r] w Q := by
  intro p l e s m args below meth cd G B H locs ls C hK hP hS hB hl
  exact W.iret C.1 C.2.1 (C.2.2.1.trans hr) (fun t ht hW => ⟨⟨some (.int r), w, rfl, h, by rw [ht]; exact hP, KK.moved hW.alike hK⟩, hS.F ht⟩) hS.2.2 hd (hlocks := C.2.2.2.2.2.2.1)
theorem pw_zret {r : Int32} (hd : decode y.2.1 pc = .ok (.ireturn, 1)) (hr : y.2.2.2 = some .boolean) (hn : narrow .boolean (.int r) = .int r) (h : Q (some (.int r)) w) : PW d mc ms y mc ms pc lv [.int r] w Q := by
  intro p l e s m args below meth cd G B H locs ls C hK hP hS hB hl
  exact W.zret C.1 C.2.1 (C.2.2.1.trans hr) hn (fun t ht hW => ⟨⟨some (.int r), w, rfl, h, by rw [ht]; exact hP, KK.moved hW.alike hK⟩, hS.F ht⟩) hS.2.2 hd (hlocks := C.2.2.2.2.2.2.1)
theorem pw_vret (hd : decode y.2.1 pc = .ok (.return_, 1)) (hr : y.2.2.2 = none) (h : Q none w) : PW d mc ms y mc ms pc lv [] w Q := by
  intro p l e s m args below meth cd G B H locs ls C hK hP hS hB hl
  exact W.vret C.1 C.2.1 (C.2.2.1.trans hr) (fun t ht hW => ⟨⟨none, w, rfl, h, by rw [ht]; exact hP, KK.moved hW.alike hK⟩, hS.F ht⟩) hS.2.2 hd (hlocks := C.2.2.2.2.2.2.1)
theorem pw_aret {r : Nat} {rt : FieldType} (hd : decode y.2.1 pc = .ok (.areturn, 1)) (hr : y.2.2.2 = some rt) (hrt : (∃ n, rt = .object n) ∨ ∃ t, rt = .array t) (h : Q (some (.ref r)) w) : PW d mc ms y mc ms pc lv [.ref r] w Q := by
  intro p l e s m args below meth cd G B H locs ls C hK hP hS hB hl
  exact W.aret (v := .ref (B + r)) C.1 C.2.1 (C.2.2.1.trans hr) hrt (Or.inr ⟨_, rfl⟩) (fun t ht hW => ⟨⟨some (.ref r), w, rfl, h, by rw [ht]; exact hP, KK.moved hW.alike hK⟩, hS.F ht⟩) hS.2.2 hd (hlocks := C.2.2.2.2.2.2.1)
theorem pw_widen {a b : Nat} (h1 : nc ≤ a) (h2 : ns ≤ b) (k : PW d mc ms y a b pc lv st w Q) : PW d mc ms y nc ns pc lv st w Q :=
  fun p l e s m args below meth cd G B H locs ls C hK hP hS hB hl => W.widen h1 h2 (k p l e s m args below meth cd G B H locs ls C hK hP hS hB hl)
end Rows
