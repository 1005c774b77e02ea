/-! A method: its name, its bytes, its locals, what it answers. A world: how many cells, the kind of each, the references, the numbers. -/
abbrev Kd : Type := Nat ⊕ Nat ⊕ Nat
abbrev Mem : Type := Nat → Nat → Int32
abbrev Wd : Type := Nat × (Nat → Kd) × (Nat → Nat → Option Nat) × Mem
abbrev Dg : Type := va_G × ClassId × ClassId
/-- by class: which fields are references -/
def cfl : Nat → List Bool := fun k => match k with
  | 0 => [false, false, false, true, true, true, true, true]
  | 1 => [true, true, true]
  | 2 => [false, true, true, true, true]
  | 3 => [true, true, true, false, true, true, true, true, true, true, true, false]
  | 4 => [true, true, true]
  | 5 => [false, false, false, false, true, true, true, true, true, true]
  | 6 => [false, false, false, false, false, false, true, true, true, true, true]
  | 7 => [false, true, false, false]
  | 8 => [true, false, true, true, true, true]
  | 9 => [true, true, true, true, true, true, false, true, true, true, true, true, true, true]
  | _ => []
def rf (B : Nat) (r : Option Nat) : Value := va_rf (r.map fun c => B + c)
def rv (B : Nat) : Value → Value
  | .ref c => .ref (B + c)
  | v => v
def wF (B : Nat) (w : Wd) (c : Nat) : Nat → List Bool → List Value
  | _, [] => []
  | k, b :: bs => (if b then rf B (w.2.2.1 c k) else .int (w.2.2.2 c k)) :: wF B w c (k + 1) bs
def wE (G : Dg) (B : Nat) (w : Wd) (c : Nat) : va_E := match w.2.1 c with
  | .inl ci => .inr (ci, wF B w c 0 (cfl ci))
  | .inr (.inl n) => .inl (G.2.1, n, .inl (w.2.2.2 c))
  | .inr (.inr n) => .inl (G.2.2, n, .inr (.inr (.inr (.inr (fun j => (w.2.2.1 c j).map fun q => B + q)))))
def wl (G : Dg) (B : Nat) (w : Wd) : va_W := (List.range w.1).map fun c => (B + c, wE G B w c)
def Fr (B : Nat) : Nat → Prop := fun q => B ≤ q
def Rp (G : Dg) (B : Nat) (w : Wd) (H : Heap) : Prop := va_P G.1 vwCl (wl G B w) H ∧ H.size = B + w.1
def KK (G : Dg) (U : State) : Prop := va_K G.1 vwCl [(G.2.1, .int), (G.2.2, .array .int)] U
theorem KK.moved {G : Dg} {u U : State} (h : u.vm.Alike U.vm) (k : KK G u) : KK G U := va_K.moved h k
theorem wl_get {G : Dg} {B : Nat} {w : Wd} {c : Nat} (h : c < w.1) : (wl G B w)[c]? = some (B + c, wE G B w c) := by
  unfold wl
  rw [List.getElem?_map, List.getElem?_range h]
  rfl
theorem wl_len {G : Dg} {B : Nat} {w : Wd} : (wl G B w).length = w.1 := by simp [wl]
theorem wl_D {G : Dg} {B : Nat} {w : Wd} : va_D (Fr B) (wl G B w) := by
  have key : ∀ (i : Nat) (p : Nat × va_E), (wl G B w)[i]? = some p → p.1 = B + i := by
    intro i p h
    have hi : i < w.1 := by
      have := (List.getElem?_eq_some_iff.mp h).1
      rwa [wl_len] at this
    rw [wl_get hi] at h
    cases h
    rfl
  refine ⟨fun i j p q hi hj hpq => ?_, fun k q hk => ?_⟩
  · have h1 := key i p hi
    have h2 := key j q hj
    omega
  · have h1 := key k q hk
    show B ≤ q.1
    omega
theorem wl_set {G : Dg} {B : Nat} {w w' : Wd} {c : Nat} {e : va_E} (h1 : w'.1 = w.1) (h2 : ∀ c', c' ≠ c → wE G B w' c' = wE G B w c') (h3 : wE G B w' c = e) : (wl G B w).set c (B + c, e) = wl G B w' := by
  apply List.ext_getElem?
  intro i
  rw [List.getElem?_set]
  by_cases hi : i < w.1
  · rw [wl_get (show i < w'.1 by omega), wl_len]
    by_cases hc : c = i
    · subst hc
      rw [if_pos rfl, if_pos hi, h3]
    · rw [if_neg hc, wl_get hi, h2 i (fun q => hc q.symm)]
  · have e1 : (wl G B w')[i]? = none := by simp [wl]; omega
    have e2 : (wl G B w)[i]? = none := by simp [wl]; omega
    rw [e1, wl_len, e2]
    by_cases hc : c = i
    · rw [if_pos hc, if_neg (by omega)]
    · rw [if_neg hc]
theorem wF_get {B : Nat} {w : Wd} {c : Nat} (bs : List Bool) : ∀ (k j : Nat), (wF B w c k bs)[j]? = bs[j]?.map fun b => if b then rf B (w.2.2.1 c (k + j)) else .int (w.2.2.2 c (k + j)) := by
  induction bs with
  | nil => intro k j; simp [wF]
  | cons b bs ih =>
    intro k j
    cases j with
    | zero => simp [wF]
    | succ j =>
      simp only [wF, List.getElem?_cons_succ]
      rw [ih (k + 1) j]
      rw [show k + 1 + j = k + (j + 1) by omega]
theorem wF_len {B : Nat} {w : Wd} {c : Nat} (bs : List Bool) : ∀ k : Nat, (wF B w c k bs).length = bs.length := by
  induction bs with
  | nil => intro k; rfl
  | cons b bs ih => intro k; simp [wF, ih]
theorem wF_eq {B : Nat} {w w' : Wd} {c : Nat} {bs : List Bool} {k : Nat} (h : ∀ j, j < bs.length → w'.2.2.1 c (k + j) = w.2.2.1 c (k + j) ∧ w'.2.2.2 c (k + j) = w.2.2.2 c (k + j)) : wF B w' c k bs = wF B w c k bs := by
  apply List.ext_getElem?
  intro i
  rw [wF_get, wF_get]
  cases hb : bs[i]? with
  | none => rfl
  | some b =>
    obtain ⟨h1, h2⟩ := h i (List.getElem?_eq_some_iff.mp hb).1
    rw [h1, h2]
def wr (M : Mem) (c k : Nat) (v : Int32) : Mem := fun c' k' => if c' = c ∧ k' = k then v else M c' k'
def wrR (R : Nat → Nat → Option Nat) (c k : Nat) (v : Option Nat) : Nat → Nat → Option Nat := fun c' k' => if c' = c ∧ k' = k then v else R c' k'
theorem wr_eq (M : Mem) (c k : Nat) (v : Int32) : wr M c k v c k = v := by simp [wr]
theorem wr_nc (M : Mem) {c c' : Nat} (k k' : Nat) (v : Int32) (h : c' ≠ c) : wr M c k v c' k' = M c' k' := by simp [wr, h]
theorem wr_nk (M : Mem) (c c' : Nat) {k k' : Nat} (v : Int32) (h : k' ≠ k) : wr M c k v c' k' = M c' k' := by simp [wr, h]
abbrev wPut (w : Wd) (c k : Nat) (v : Int32) : Wd := (w.1, w.2.1, w.2.2.1, wr w.2.2.2 c k v)
abbrev wPutR (w : Wd) (c k : Nat) (v : Option Nat) : Wd := (w.1, w.2.1, wrR w.2.2.1 c k v, w.2.2.2)
theorem wE_put_ne {G : Dg} {B : Nat} {w : Wd} {c k : Nat} {v : Int32} (c' : Nat) (h : c' ≠ c) : wE G B (wPut w c k v) c' = wE G B w c' := by
  have e : (wPut w c k v).2.2.2 c' = w.2.2.2 c' := funext fun j => wr_nc _ _ _ _ h
  unfold wE
  show (match w.2.1 c' with | .inl ci => _ | .inr (.inl n) => _ | .inr (.inr n) => _) = _
  cases w.2.1 c' with
  | inl ci => exact congrArg (fun x => Sum.inr (ci, x)) (wF_eq (fun j _ => ⟨rfl, congrFun e _⟩))
  | inr x =>
    cases x with
    | inl n => show (Sum.inl _ : va_E) = Sum.inl _; rw [e]
    | inr n => rfl
theorem wE_putR_ne {G : Dg} {B : Nat} {w : Wd} {c k : Nat} {v : Option Nat} (c' : Nat) (h : c' ≠ c) : wE G B (wPutR w c k v) c' = wE G B w c' := by
  have e : (wPutR w c k v).2.2.1 c' = w.2.2.1 c' := funext fun j => by simp [wrR, h]
  unfold wE
  show (match w.2.1 c' with | .inl ci => _ | .inr (.inl n) => _ | .inr (.inr n) => _) = _
  cases w.2.1 c' with
  | inl ci => exact congrArg (fun x => Sum.inr (ci, x)) (wF_eq (fun j _ => ⟨congrFun e _, rfl⟩))
  | inr x =>
    cases x with
    | inl n => rfl
    | inr n => show (Sum.inl _ : va_E) = Sum.inl _; rw [e]
theorem wE_obj {G : Dg} {B : Nat} {w : Wd} {c ci : Nat} (h : w.2.1 c = .inl ci) : wE G B w c = .inr (ci, wF B w c 0 (cfl ci)) := by unfold wE; rw [h]
theorem wE_arr {G : Dg} {B : Nat} {w : Wd} {c n : Nat} (h : w.2.1 c = .inr (.inl n)) : wE G B w c = .inl (G.2.1, n, .inl (w.2.2.2 c)) := by unfold wE; rw [h]
theorem wE_rarr {G : Dg} {B : Nat} {w : Wd} {c n : Nat} (h : w.2.1 c = .inr (.inr n)) : wE G B w c = .inl (G.2.2, n, .inr (.inr (.inr (.inr (fun j => (w.2.2.1 c j).map fun q => B + q))))) := by unfold wE; rw [h]
theorem wF_put {B : Nat} {w : Wd} {c k : Nat} {v : Int32} {bs : List Bool} (hb : bs[k]? = some false) : wF B (wPut w c k v) c 0 bs = (wF B w c 0 bs).set k (.int v) := by
  apply List.ext_getElem?
  intro i
  rw [List.getElem?_set, wF_get, wF_get, wF_len]
  by_cases h : k = i
  · subst h
    rw [if_pos rfl, if_pos (List.getElem?_eq_some_iff.mp hb).1, hb]
    simp [wr]
  · rw [if_neg h]
    cases bs[i]? with
    | none => rfl
    | some b =>
      have h' : ¬ i = k := fun q => h q.symm
      simp [wr, h']
theorem wF_putR {B : Nat} {w : Wd} {c k : Nat} {v : Option Nat} {bs : List Bool} (hb : bs[k]? = some true) : wF B (wPutR w c k v) c 0 bs = (wF B w c 0 bs).set k (rf B v) := by
  apply List.ext_getElem?
  intro i
  rw [List.getElem?_set, wF_get, wF_get, wF_len]
  by_cases h : k = i
  · subst h
    rw [if_pos rfl, if_pos (List.getElem?_eq_some_iff.mp hb).1, hb]
    simp [wrR]
  · rw [if_neg h]
    cases bs[i]? with
    | none => rfl
    | some b =>
      have h' : ¬ i = k := fun q => h q.symm
      simp [wrR, h']
/-! The judgements -/
def rmd (d mc ms : Nat) : Room := { frames := d, cells := mc, slots := ms, locals := 37 * d }
def QQ (G : Dg) (B : Nat) (Q : Option Value → Wd → Prop) : Array Value → State → Outcome → State → Prop := fun _ st o t => (∃ (v : Option Value) (w : Wd), o = .returned (v.map (rv B)) ∧ Q v w ∧ Rp G B w t.heap ∧ KK G t) ∧ va_F (Fr B) st t
abbrev wsM (y : MD) : List Cond := Cond.code y.1 y.2.1 y.2.2.1 y.2.2.2 :: tb
def Call (d mc ms : Nat) (y : MD) (As : List Value) (w : Wd) (Q : Option Value → Wd → Prop) : Prop :=
  ∀ (l : Launch) (G : Dg) (B : Nat), Met l y.1 (wsM y) (rmd d mc ms) (va_Pc (As.map (rv B)) (fun U => Rp G B w U.heap ∧ KK G U)) (QQ G B Q) mc ms (Fr B)
def Cx (p : Program) (s : State) (m : MethodId) (args : Array Value) (meth : Method) (c : Code) (y : MD) : Prop :=
  p.tables.exec = Jvm.exec ∧ c.code = y.2.1 ∧ meth.sig.returnType = y.2.2.2 ∧ c.maxLocals = y.2.2.1 ∧ s.vm.findClass y.1.cls = some m.cls ∧ (∀ w ∈ tb, w.before args s = true) ∧ meth.locks = false ∧ meth.name = y.1.name
def lvm (B : Nat) (lv : List (Nat × Value)) : List (Nat × Value) := lv.map fun q => (q.1, rv B q.2)
def PW (d mc ms : Nat) (y : MD) (nc ns : Nat) (pc : Nat) (lv : List (Nat × Value)) (st : List Value) (w : Wd) (Q : Option Value → Wd → Prop) : Prop :=
  ∀ (p : Program) (l : Launch) (e : Env) (s : State) (m : MethodId) (args : Array Value) (below : List Frame) (meth : Method) (c : Code) (G : Dg) (B : Nat) (H : Heap) (locs : List Loc) (ls : Array Slot),
    Cx p s m args meth c y → KK G s → Rp G B w H → va_S (Fr B) s.heap H locs → B ≤ s.heap.size → lv_has ls y.2.2.1 (lvm B lv) →
    W p l e (rmd d mc ms) s m args below meth c H locs nc ns (MQ below (QQ G B Q) args s mc ms (Fr B)) (F0 m pc ls (st.map (rv B)))
