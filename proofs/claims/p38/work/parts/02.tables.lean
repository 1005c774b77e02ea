/-! The words that every method takes: those of the tables that stay -/
def tb : List Cond := lw_tbl.filter goodWord
theorem tb_good : GoodIn tb tb := fun _ h => ⟨h, good_of_word (List.mem_filter.mp h).2⟩
theorem tb_in {w : Cond} (i : Nat) (h : lw_tbl[i]? = some w) (hg : goodWord w = true) : w ∈ tb := List.mem_filter.mpr ⟨List.mem_of_getElem? h, hg⟩
theorem tb_of {args : Array Value} {s : State} (h : ∀ w ∈ lw_tbl, w.before args s = true) : ∀ w ∈ tb, w.before args s = true := fun w hw => h w (List.mem_filter.mp hw).1
abbrev MD : Type := MethodName × ByteArray × Nat × Option FieldType
/-- what the tables say of a class's fields -/
def CF (ci : Nat) (C : String) (T : u_T) (N : Nat) (ty : Nat → FieldType) : Prop := vwCl[ci]? = some (C, T, N) ∧ (∀ w ∈ u_ws C T N, w ∈ tb) ∧ (∀ k, k < N → parseFieldDescriptor (T k).2.2.1 = some (ty k)) ∧ (∀ a, a < N → ∀ b, b < N → a ≠ b → (T a).2.1 ≠ (T b).2.1) ∧ (∀ k, k < N → (T k).1 = C)
def FL (own : String) (idx ci k : Nat) (fin : Bool) (fty : FieldType) : Prop := ∃ (C : String) (T : u_T) (N : Nat) (ty : Nat → FieldType), CF ci C T N ty ∧ k < N ∧ Cond.fieldLink own idx C (T k).2.1 (T k).2.2.1 ∈ tb ∧ (T k).2.2.2 = fin ∧ ty k = fty
/-- a method that may be called: what the tables say of it -/
def CV (y2 : MD) : Prop := Cond.instanceMethod y2.1 ∈ tb ∧ Cond.selects y2.1.cls y2.1 y2.1 ∈ tb ∧ Cond.initialized y2.1.cls ∈ tb ∧ Cond.code y2.1 y2.2.1 y2.2.2.1 y2.2.2.2 ∈ tb ∧ (y2.1.cls ≠ "java/lang/invoke/MethodHandle" ∧ y2.1.cls ≠ "java/lang/invoke/VarHandle") ∧ y2.2.2.1 ≤ 18
def CS (y2 : MD) : Prop := Cond.static y2.1 ∈ tb ∧ Cond.initialized y2.1.cls ∈ tb ∧ Cond.code y2.1 y2.2.1 y2.2.2.1 y2.2.2.2 ∈ tb ∧ (y2.1.cls ≠ "java/lang/invoke/MethodHandle" ∧ y2.1.cls ≠ "java/lang/invoke/VarHandle") ∧ y2.2.2.1 ≤ 18
