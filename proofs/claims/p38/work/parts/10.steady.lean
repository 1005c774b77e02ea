/-! the cells in the order in which the constructors make them -/
def kd0L : List Kd := [.inl 9, .inl 0, .inr (.inl 10), .inr (.inl 10), .inr (.inr 3), .inr (.inl 24), .inr (.inl 24), .inr (.inl 24), .inr (.inr 10), .inr (.inl 10), .inr (.inl 10), .inr (.inl 10), .inr (.inl 10), .inr (.inl 10), .inr (.inl 10), .inr (.inl 10), .inr (.inl 10), .inr (.inl 10), .inr (.inl 10), .inr (.inr 10), .inr (.inl 10), .inr (.inl 10), .inr (.inl 10), .inr (.inl 10), .inr (.inl 10), .inr (.inl 10), .inr (.inl 10), .inr (.inl 10), .inr (.inl 10), .inr (.inl 10), .inl 5, .inr (.inl 3), .inr (.inl 5), .inr (.inl 5), .inr (.inl 5), .inr (.inl 5), .inr (.inl 5), .inl 6, .inr (.inl 5), .inr (.inl 12), .inr (.inl 12), .inr (.inl 12), .inr (.inl 12), .inl 0, .inr (.inl 10), .inr (.inl 10), .inr (.inr 3), .inr (.inl 24), .inr (.inl 24), .inr (.inl 24), .inr (.inr 10), .inr (.inl 10), .inr (.inl 10), .inr (.inl 10), .inr (.inl 10), .inr (.inl 10), .inr (.inl 10), .inr (.inl 10), .inr (.inl 10), .inr (.inl 10), .inr (.inl 10), .inr (.inr 10), .inr (.inl 10), .inr (.inl 10), .inr (.inl 10), .inr (.inl 10), .inr (.inl 10), .inr (.inl 10), .inr (.inl 10), .inr (.inl 10), .inr (.inl 10), .inr (.inl 10), .inl 5, .inr (.inl 3), .inr (.inl 5), .inr (.inl 5), .inr (.inl 5), .inr (.inl 5), .inr (.inl 5), .inl 6, .inr (.inl 5), .inr (.inl 12), .inr (.inl 12), .inr (.inl 12), .inr (.inl 12), .inl 7, .inr (.inl 80), .inl 4, .inr (.inl 4), .inr (.inl 4), .inr (.inr 4), .inr (.inl 24), .inr (.inl 24), .inr (.inl 24), .inr (.inl 24), .inl 8, .inr (.inl 24), .inr (.inr 24), .inr (.inl 10), .inr (.inl 10), .inr (.inl 10), .inr (.inl 10), .inr (.inl 10), .inr (.inl 10), .inr (.inl 10), .inr (.inl 10), .inr (.inl 10), .inr (.inl 10), .inr (.inl 10), .inr (.inl 10), .inr (.inl 10), .inr (.inl 10), .inr (.inl 10), .inr (.inl 10), .inr (.inl 10), .inr (.inl 10), .inr (.inl 10), .inr (.inl 10), .inr (.inl 10), .inr (.inl 10), .inr (.inl 10), .inr (.inl 10), .inr (.inl 24), .inr (.inl 24), .inl 3, .inl 2, .inr (.inl 5), .inr (.inl 5), .inr (.inl 5), .inr (.inl 5), .inl 2, .inr (.inl 5), .inr (.inl 5), .inr (.inl 5), .inr (.inl 5), .inr (.inr 24), .inr (.inl 10), .inr (.inl 10), .inr (.inl 10), .inr (.inl 10), .inr (.inl 10), .inr (.inl 10), .inr (.inl 10), .inr (.inl 10), .inr (.inl 10), .inr (.inl 10), .inr (.inl 10), .inr (.inl 10), .inr (.inl 10), .inr (.inl 10), .inr (.inl 10), .inr (.inl 10), .inr (.inl 10), .inr (.inl 10), .inr (.inl 10), .inr (.inl 10), .inr (.inl 10), .inr (.inl 10), .inr (.inl 10), .inr (.inl 10), .inr (.inr 3), .inr (.inl 32), .inr (.inl 32), .inr (.inl 32), .inr (.inl 3), .inr (.inl 3), .inr (.inl 3), .inl 1, .inr (.inr 5), .inr (.inl 24), .inr (.inl 24), .inr (.inl 24), .inr (.inl 24), .inr (.inl 24), .inr (.inl 24), .inr (.inr 6), .inr (.inl 4), .inr (.inl 4), .inr (.inl 4), .inr (.inl 4), .inr (.inl 4), .inr (.inl 4), .inr (.inl 48), .inr (.inl 24), .inr (.inl 5), .inr (.inl 5)]
def kd0 (c : Nat) : Kd := kd0L.getD c (.inl 99)
def ob0 : Nat → List (Option Nat) := fun c => match c with
  | 0 => [some 1, some 30, some 37, some 43, some 72, some 79, none, some 85, some 87, some 95, some 124, some 167, some 174, some 175]
  | 1 => [none, none, none, some 2, some 3, some 4, some 8, some 19]
  | 30 => [none, none, none, none, some 31, some 32, some 33, some 34, some 35, some 36]
  | 37 => [none, none, none, none, none, none, some 38, some 39, some 40, some 41, some 42]
  | 43 => [none, none, none, some 44, some 45, some 46, some 50, some 61]
  | 72 => [none, none, none, none, some 73, some 74, some 75, some 76, some 77, some 78]
  | 79 => [none, none, none, none, none, none, some 80, some 81, some 82, some 83, some 84]
  | 85 => [none, some 86, none, none]
  | 87 => [some 88, some 89, some 90]
  | 95 => [some 1, none, some 96, some 97, some 122, some 123]
  | 124 => [some 1, some 30, some 95, none, some 125, some 130, some 135, some 160, some 164, some 165, some 166, none]
  | 125 => [none, some 126, some 127, some 128, some 129]
  | 130 => [none, some 131, some 132, some 133, some 134]
  | 167 => [some 1, some 37, some 168]
  | _ => []
def RM0 (c k : Nat) : Option Nat := match kd0 c with
  | .inl _ => (ob0 c).getD k none
  | .inr (.inl _) => none
  | .inr (.inr n) => if k < n then some (c + 1 + k) else none
/-- how many rows the law has made: a number kept beside the cells -/
def gx (M : Mem) : Nat := ix (M 999 0)
abbrev w0 (M : Mem) : Wd := (182 + gx M, kd0, RM0, M)
def IA (c n : Nat) : Prop := c < 182 ∧ kd0 c = .inr (.inl n)
def RA (c n len : Nat) : Prop := (c < 182 ∧ kd0 c = .inr (.inr n)) ∧ ∀ j, j < n → RM0 c j = some (c + 1 + j) ∧ IA (c + 1 + j) len
def OB (c ci : Nat) : Prop := c < 182 ∧ kd0 c = .inl ci
theorem w_lt {c : Nat} {M : Mem} (h : c < 182) : c < (w0 M).1 := Nat.lt_of_lt_of_le h (Nat.le_add_right _ _)
theorem gx_wr {M : Mem} {c k : Nat} {v : Int32} (h : c < 999) : gx (wr M c k v) = gx M := by unfold gx; rw [wr_nc _ _ _ _ (by omega)]
theorem w_put {M : Mem} {c k : Nat} {v : Int32} (h : c < 182) : w0 (wr M c k v) = wPut (w0 M) c k v := by
  show (182 + gx (wr M c k v), kd0, RM0, wr M c k v) = (182 + gx M, kd0, RM0, wr M c k v)
  rw [gx_wr (by omega)]
theorem PW_eq {d mc ms nc ns : Nat} {y : MD} {pc : Nat} {lv : List (Nat × Value)} {st : List Value} {w w' : Wd} {Q : Option Value → Wd → Prop} (h : w = w') (k : PW d mc ms y nc ns pc lv st w Q) : PW d mc ms y nc ns pc lv st w' Q := h ▸ k
theorem RA.row {c n len : Nat} (h : RA c n len) {i : Int32} (hi : vp_in i n) : IA (c + 1 + ix i) len := (h.2 _ (Nat.not_le.mp fun q => hi (Or.inr q))).2
theorem ob_0 : OB 0 9 := ⟨by decide, rfl⟩
theorem ob_1 : OB 1 0 := ⟨by decide, rfl⟩
theorem ia_2 : IA 2 10 := ⟨by decide, rfl⟩
theorem ia_3 : IA 3 10 := ⟨by decide, rfl⟩
theorem ra_4 : RA 4 3 24 := by unfold RA IA; exact ⟨⟨by decide, rfl⟩, by decide +kernel⟩
theorem ra_8 : RA 8 10 10 := by unfold RA IA; exact ⟨⟨by decide, rfl⟩, by decide +kernel⟩
theorem ra_19 : RA 19 10 10 := by unfold RA IA; exact ⟨⟨by decide, rfl⟩, by decide +kernel⟩
theorem ob_30 : OB 30 5 := ⟨by decide, rfl⟩
theorem ia_31 : IA 31 3 := ⟨by decide, rfl⟩
theorem ia_32 : IA 32 5 := ⟨by decide, rfl⟩
theorem ia_33 : IA 33 5 := ⟨by decide, rfl⟩
theorem ia_34 : IA 34 5 := ⟨by decide, rfl⟩
theorem ia_35 : IA 35 5 := ⟨by decide, rfl⟩
theorem ia_36 : IA 36 5 := ⟨by decide, rfl⟩
theorem ob_37 : OB 37 6 := ⟨by decide, rfl⟩
theorem ia_38 : IA 38 5 := ⟨by decide, rfl⟩
theorem ia_39 : IA 39 12 := ⟨by decide, rfl⟩
theorem ia_40 : IA 40 12 := ⟨by decide, rfl⟩
theorem ia_41 : IA 41 12 := ⟨by decide, rfl⟩
theorem ia_42 : IA 42 12 := ⟨by decide, rfl⟩
theorem ob_43 : OB 43 0 := ⟨by decide, rfl⟩
theorem ia_44 : IA 44 10 := ⟨by decide, rfl⟩
theorem ia_45 : IA 45 10 := ⟨by decide, rfl⟩
theorem ra_46 : RA 46 3 24 := by unfold RA IA; exact ⟨⟨by decide, rfl⟩, by decide +kernel⟩
theorem ra_50 : RA 50 10 10 := by unfold RA IA; exact ⟨⟨by decide, rfl⟩, by decide +kernel⟩
theorem ra_61 : RA 61 10 10 := by unfold RA IA; exact ⟨⟨by decide, rfl⟩, by decide +kernel⟩
theorem ob_72 : OB 72 5 := ⟨by decide, rfl⟩
theorem ia_73 : IA 73 3 := ⟨by decide, rfl⟩
theorem ia_74 : IA 74 5 := ⟨by decide, rfl⟩
theorem ia_75 : IA 75 5 := ⟨by decide, rfl⟩
theorem ia_76 : IA 76 5 := ⟨by decide, rfl⟩
theorem ia_77 : IA 77 5 := ⟨by decide, rfl⟩
theorem ia_78 : IA 78 5 := ⟨by decide, rfl⟩
theorem ob_79 : OB 79 6 := ⟨by decide, rfl⟩
theorem ia_80 : IA 80 5 := ⟨by decide, rfl⟩
theorem ia_81 : IA 81 12 := ⟨by decide, rfl⟩
theorem ia_82 : IA 82 12 := ⟨by decide, rfl⟩
theorem ia_83 : IA 83 12 := ⟨by decide, rfl⟩
theorem ia_84 : IA 84 12 := ⟨by decide, rfl⟩
theorem ob_85 : OB 85 7 := ⟨by decide, rfl⟩
theorem ia_86 : IA 86 80 := ⟨by decide, rfl⟩
theorem ob_87 : OB 87 4 := ⟨by decide, rfl⟩
theorem ia_88 : IA 88 4 := ⟨by decide, rfl⟩
theorem ia_89 : IA 89 4 := ⟨by decide, rfl⟩
theorem ra_90 : RA 90 4 24 := by unfold RA IA; exact ⟨⟨by decide, rfl⟩, by decide +kernel⟩
theorem ob_95 : OB 95 8 := ⟨by decide, rfl⟩
theorem ia_96 : IA 96 24 := ⟨by decide, rfl⟩
theorem ra_97 : RA 97 24 10 := by unfold RA IA; exact ⟨⟨by decide, rfl⟩, by decide +kernel⟩
theorem ia_122 : IA 122 24 := ⟨by decide, rfl⟩
theorem ia_123 : IA 123 24 := ⟨by decide, rfl⟩
theorem ob_124 : OB 124 3 := ⟨by decide, rfl⟩
theorem ob_125 : OB 125 2 := ⟨by decide, rfl⟩
theorem ia_126 : IA 126 5 := ⟨by decide, rfl⟩
theorem ia_127 : IA 127 5 := ⟨by decide, rfl⟩
theorem ia_128 : IA 128 5 := ⟨by decide, rfl⟩
theorem ia_129 : IA 129 5 := ⟨by decide, rfl⟩
theorem ob_130 : OB 130 2 := ⟨by decide, rfl⟩
theorem ia_131 : IA 131 5 := ⟨by decide, rfl⟩
theorem ia_132 : IA 132 5 := ⟨by decide, rfl⟩
theorem ia_133 : IA 133 5 := ⟨by decide, rfl⟩
theorem ia_134 : IA 134 5 := ⟨by decide, rfl⟩
theorem ra_135 : RA 135 24 10 := by unfold RA IA; exact ⟨⟨by decide, rfl⟩, by decide +kernel⟩
theorem ra_160 : RA 160 3 32 := by unfold RA IA; exact ⟨⟨by decide, rfl⟩, by decide +kernel⟩
theorem ia_164 : IA 164 3 := ⟨by decide, rfl⟩
theorem ia_165 : IA 165 3 := ⟨by decide, rfl⟩
theorem ia_166 : IA 166 3 := ⟨by decide, rfl⟩
theorem ob_167 : OB 167 1 := ⟨by decide, rfl⟩
theorem ra_168 : RA 168 5 24 := by unfold RA IA; exact ⟨⟨by decide, rfl⟩, by decide +kernel⟩
theorem ia_174 : IA 174 24 := ⟨by decide, rfl⟩
theorem ra_175 : RA 175 6 4 := by unfold RA IA; exact ⟨⟨by decide, rfl⟩, by decide +kernel⟩
abbrev PS (d : Nat) (y : MD) (pc : Nat) (lv : List (Nat × Value)) (st : List Value) (M : Mem) (Q : Option Value → Mem → Prop) : Prop := PW d 0 0 y 0 0 pc lv st (w0 M) (fun v w => ∃ M', w = w0 M' ∧ Q v M')
abbrev CA (d : Nat) (y : MD) (As : List Value) (M : Mem) (Q : Option Value → Mem → Prop) : Prop := Call d 0 0 y As (w0 M) (fun v w => ∃ M', w = w0 M' ∧ Q v M')
def qI (Q : Int32 → Mem → Prop) : Option Value → Mem → Prop := fun v M => ∃ r, v = some (.int r) ∧ Q r M
def qV (Q : Mem → Prop) : Option Value → Mem → Prop := fun v M => v = none ∧ Q M
def qR (Q : Nat → Mem → Prop) : Option Value → Mem → Prop := fun v M => ∃ c, v = some (.ref c) ∧ Q c M
section SRows
variable {d : Nat} {y : MD} {pc : Nat} {lv : List (Nat × Value)} {st : List Value} {M : Mem} {Q : Option Value → Mem → Prop}
theorem CA.mono {As : List Value} {Q' : Option Value → Mem → Prop} (h : CA d y As M Q) (hq : ∀ v M', Q v M' → Q' v M') : CA d y As M Q' := Call.mono h (fun v w ⟨M', e, q⟩ => ⟨M', e, hq v M' q⟩)
theorem CA.monoI {As : List Value} {Q Q' : Int32 → Mem → Prop} (h : CA d y As M (qI Q)) (hq : ∀ r M', Q r M' → Q' r M') : CA d y As M (qI Q') := h.mono (fun v M' ⟨r, e, q⟩ => ⟨r, e, hq r M' q⟩)
theorem CA.monoV {As : List Value} {Q Q' : Mem → Prop} (h : CA d y As M (qV Q)) (hq : ∀ M', Q M' → Q' M') : CA d y As M (qV Q') := h.mono (fun v M' ⟨e, q⟩ => ⟨e, hq M' q⟩)
theorem CA.monoR {As : List Value} {Q Q' : Nat → Mem → Prop} (h : CA d y As M (qR Q)) (hq : ∀ r M', Q r M' → Q' r M') : CA d y As M (qR Q') := h.mono (fun v M' ⟨r, e, q⟩ => ⟨r, e, hq r M' q⟩)
theorem ps_getI {idx ci k c : Nat} {fin : Bool} {fty : FieldType} {v : Int32} {pc' : Nat} (hp : pc + 3 = pc') (hd : decode y.2.1 pc = .ok (.getfield idx, 3)) (hF : FL y.1.cls idx ci k fin fty) (ho : OB c ci) (hb : (cfl ci)[k]? = some false) (hv : M c k = v) (kk : PS d y pc' lv (.int v :: st) M Q) : PS d y pc lv (.ref c :: st) M Q := by
  subst hp
  subst hv
  exact pw_getI rfl hd hF (w_lt ho.1) ho.2 hb kk
theorem ps_getR {idx ci k c r : Nat} {fin : Bool} {fty : FieldType} {pc' : Nat} (hp : pc + 3 = pc') (hd : decode y.2.1 pc = .ok (.getfield idx, 3)) (hF : FL y.1.cls idx ci k fin fty) (ho : OB c ci) (hb : (cfl ci)[k]? = some true) (hr : RM0 c k = some r) (kk : PS d y pc' lv (.ref r :: st) M Q) : PS d y pc lv (.ref c :: st) M Q := by
  subst hp
  exact pw_getR rfl hd hF (w_lt ho.1) ho.2 hb hr kk
theorem ps_putI {idx ci k c : Nat} {v : Int32} {pc' : Nat} (hp : pc + 3 = pc') (hd : decode y.2.1 pc = .ok (.putfield idx, 3)) (hF : FL y.1.cls idx ci k false .int) (ho : OB c ci) (hb : (cfl ci)[k]? = some false) (kk : PS d y pc' lv st (wr M c k v) Q) : PS d y pc lv (.int v :: .ref c :: st) M Q := by
  subst hp
  exact pw_putI rfl hd hF (w_lt ho.1) ho.2 hb rfl rfl (PW_eq (w_put ho.1) kk)
theorem nb01 {v : Int32} (h : v = 0 ∨ v = 1) : narrow .boolean (.int v) = .int v ∧ fits .boolean (.int v) = true := by rcases h with rfl | rfl <;> exact ⟨rfl, rfl⟩
theorem ps_putZ {idx ci k c : Nat} {v : Int32} {pc' : Nat} (hp : pc + 3 = pc') (hd : decode y.2.1 pc = .ok (.putfield idx, 3)) (hF : FL y.1.cls idx ci k false .boolean) (ho : OB c ci) (hb : (cfl ci)[k]? = some false) (hv : v = 0 ∨ v = 1) (kk : PS d y pc' lv st (wr M c k v) Q) : PS d y pc lv (.int v :: .ref c :: st) M Q := by
  subst hp
  exact pw_putI rfl hd hF (w_lt ho.1) ho.2 hb (nb01 hv).1 (nb01 hv).2 (PW_eq (w_put ho.1) kk)
theorem ps_iald {c n : Nat} {i v : Int32} {pc' : Nat} (hp : pc + 1 = pc') (hd : decode y.2.1 pc = .ok (.iaload, 1)) (hc : IA c n) (hi : vp_in i n) (hv : M c (ix i) = v) (kk : PS d y pc' lv (.int v :: st) M Q) : PS d y pc lv (.int i :: .ref c :: st) M Q := by
  subst hp
  subst hv
  exact pw_iald rfl hd (w_lt hc.1) hc.2 hi kk
theorem ps_aald {c n len : Nat} {i : Int32} {pc' : Nat} (hp : pc + 1 = pc') (hd : decode y.2.1 pc = .ok (.aaload, 1)) (hc : RA c n len) (hi : vp_in i n) (kk : PS d y pc' lv (.ref (c + 1 + ix i) :: st) M Q) : PS d y pc lv (.int i :: .ref c :: st) M Q := by
  subst hp
  exact pw_aald rfl hd (w_lt hc.1.1) hc.1.2 hi (hc.2 _ (Nat.not_le.mp fun q => hi (Or.inr q))).1 kk
theorem ps_iast {c n : Nat} {i v : Int32} {pc' : Nat} (hp : pc + 1 = pc') (hd : decode y.2.1 pc = .ok (.iastore, 1)) (hc : IA c n) (hi : vp_in i n) (kk : PS d y pc' lv st (wr M c (ix i) v) Q) : PS d y pc lv (.int v :: .int i :: .ref c :: st) M Q := by
  subst hp
  exact pw_iast rfl hd (w_lt hc.1) hc.2 hi (PW_eq (w_put hc.1) kk)
theorem ps_alen {c n : Nat} {pc' : Nat} (hp : pc + 1 = pc') (hd : decode y.2.1 pc = .ok (.arraylength, 1)) (hc : IA c n) (kk : PS d y pc' lv (.int (nI n) :: st) M Q) : PS d y pc lv (.ref c :: st) M Q := by
  subst hp
  exact pw_alenI rfl hd (w_lt hc.1) hc.2 rfl kk
def cpy (M : Mem) (c0 c1 sp dp n : Nat) : Mem := fun c k => if c = c1 ∧ dp ≤ k ∧ k < dp + n then M c0 (sp + (k - dp)) else M c k
theorem w_cpy {M : Mem} {c0 c1 sp dp n : Nat} (h : c1 < 182) : w0 (cpy M c0 c1 sp dp n) = wCpy (w0 M) c0 c1 sp dp n := by
  show (182 + gx (cpy M c0 c1 sp dp n), kd0, RM0, cpy M c0 c1 sp dp n) = (182 + gx M, kd0, RM0, cpy M c0 c1 sp dp n)
  have : gx (cpy M c0 c1 sp dp n) = gx M := by unfold gx cpy; rw [if_neg (by omega)]
  rw [this]
theorem ps_copy {idx c0 c1 n0 n1 : Nat} {sp dp n : Int32} {rest : List Value} {pc' : Nat} (hp : pc + 3 = pc') (hd : decode y.2.1 pc = .ok (.invokestatic idx, 3)) (hlink : Cond.methodLink y.1.cls idx arraycopyName ∈ tb) (h0 : IA c0 n0) (h1 : IA c1 n1) (g : ¬ sp < 0 ∧ ¬ dp < 0 ∧ ¬ n < 0 ∧ ix sp + ix n ≤ n0 ∧ ix dp + ix n ≤ n1) (hdep : 1 ≤ d) (hcat : (rest.map fun v => v.category).sum ≤ 8)
    (kk : PS d y pc' lv rest (cpy M c0 c1 (ix sp) (ix dp) (ix n)) Q) : PS d y pc lv (.int n :: .int dp :: .ref c1 :: .int sp :: .ref c0 :: rest) M Q := by
  subst hp
  exact pw_copy rfl hd hlink ac_nat ac_stat ac_ini (w_lt h0.1) (w_lt h1.1) h0.2 h1.2 g.1 g.2.1 g.2.2.1 g.2.2.2.1 g.2.2.2.2 hdep hcat (PW_eq (w_cpy h1.1) kk)
theorem ps_iret {r : Int32} {Q : Int32 → Mem → Prop} (hd : decode y.2.1 pc = .ok (.ireturn, 1)) (hr : y.2.2.2 = some .int) (h : Q r M) : PS d y pc lv [.int r] M (qI Q) := pw_iret hd hr ⟨M, rfl, r, rfl, h⟩
theorem ps_zret {r : Int32} {Q : Int32 → Mem → Prop} (hd : decode y.2.1 pc = .ok (.ireturn, 1)) (hr : y.2.2.2 = some .boolean) (hv : r = 0 ∨ r = 1) (h : Q r M) : PS d y pc lv [.int r] M (qI Q) := pw_zret hd hr (nb01 hv).1 ⟨M, rfl, r, rfl, h⟩
theorem ps_vret {Q : Mem → Prop} (hd : decode y.2.1 pc = .ok (.return_, 1)) (hr : y.2.2.2 = none) (h : Q M) : PS d y pc lv [] M (qV Q) := pw_vret hd hr ⟨M, rfl, rfl, h⟩
theorem ps_aret {r : Nat} {rt : FieldType} {Q : Nat → Mem → Prop} (hd : decode y.2.1 pc = .ok (.areturn, 1)) (hr : y.2.2.2 = some rt) (hrt : (∃ n, rt = .object n) ∨ ∃ t, rt = .array t) (h : Q r M) : PS d y pc lv [.ref r] M (qR Q) := pw_aret hd hr hrt ⟨M, rfl, r, rfl, h⟩
theorem ps_callVI {d2 idx ci : Nat} {y2 : MD} {As rest : List Value} {c : Nat} {cT : vw_C} (n : Nat) {pc' : Nat} (hp : pc + 3 = pc') (hd : decode y.2.1 pc = .ok (.invokevirtual idx, 3)) (hcv : CV y2) (hlink : Cond.methodLink y.1.cls idx y2.1 ∈ tb) (hlen : (parseMethodDescriptor y2.1.desc).map (fun d => d.parameters.length) = some n) (hAs : As.length = n)
    (hst : st = As.reverse ++ .ref c :: rest) (hdep : d2 + 1 ≤ d) (hcat : (rest.map fun v => v.category).sum ≤ 8) (ho : OB c ci) (hci : vwCl[ci]? = some cT) (hcls : cT.1 = y2.1.cls) (k : CA d2 y2 (.ref c :: As) M (qI (fun r M' => PS d y pc' lv (.int r :: rest) M' Q))) : PS d y pc lv st M Q := by
  subst hp
  refine pw_callV (d2 := d2) n rfl hd hcv hlink hlen hAs hst hdep hcat (w_lt ho.1) ho.2 hci hcls (Nat.le_refl 0) (Nat.le_refl 0) (Call.mono k ?_)
  rintro v w ⟨M', rfl, r, rfl, q⟩
  exact q
theorem ps_callSI {d2 idx : Nat} {y2 : MD} {As rest : List Value} (n : Nat) {pc' : Nat} (hp : pc + 3 = pc') (hd : decode y.2.1 pc = .ok (.invokestatic idx, 3)) (hcv : CS y2) (hlink : Cond.methodLink y.1.cls idx y2.1 ∈ tb) (hlen : (parseMethodDescriptor y2.1.desc).map (fun d => d.parameters.length) = some n) (hAs : As.length = n)
    (hst : st = As.reverse ++ rest) (hdep : d2 + 1 ≤ d) (hcat : (rest.map fun v => v.category).sum ≤ 8) (k : CA d2 y2 As M (qI (fun r M' => PS d y pc' lv (.int r :: rest) M' Q))) : PS d y pc lv st M Q := by
  subst hp
  refine pw_callS (d2 := d2) n rfl hd hcv hlink hlen hAs hst hdep hcat (Nat.le_refl 0) (Nat.le_refl 0) (Call.mono k ?_)
  rintro v w ⟨M', rfl, r, rfl, q⟩
  exact q
theorem ps_callVV {d2 idx ci : Nat} {y2 : MD} {As rest : List Value} {c : Nat} {cT : vw_C} (n : Nat) {pc' : Nat} (hp : pc + 3 = pc') (hd : decode y.2.1 pc = .ok (.invokevirtual idx, 3)) (hcv : CV y2) (hlink : Cond.methodLink y.1.cls idx y2.1 ∈ tb) (hlen : (parseMethodDescriptor y2.1.desc).map (fun d => d.parameters.length) = some n) (hAs : As.length = n)
    (hst : st = As.reverse ++ .ref c :: rest) (hdep : d2 + 1 ≤ d) (hcat : (rest.map fun v => v.category).sum ≤ 8) (ho : OB c ci) (hci : vwCl[ci]? = some cT) (hcls : cT.1 = y2.1.cls) (k : CA d2 y2 (.ref c :: As) M (qV (fun M' => PS d y pc' lv (rest) M' Q))) : PS d y pc lv st M Q := by
  subst hp
  refine pw_callV (d2 := d2) n rfl hd hcv hlink hlen hAs hst hdep hcat (w_lt ho.1) ho.2 hci hcls (Nat.le_refl 0) (Nat.le_refl 0) (Call.mono k ?_)
  rintro v w ⟨M', rfl, rfl, q⟩
  exact q
theorem ps_callSV {d2 idx : Nat} {y2 : MD} {As rest : List Value} (n : Nat) {pc' : Nat} (hp : pc + 3 = pc') (hd : decode y.2.1 pc = .ok (.invokestatic idx, 3)) (hcv : CS y2) (hlink : Cond.methodLink y.1.cls idx y2.1 ∈ tb) (hlen : (parseMethodDescriptor y2.1.desc).map (fun d => d.parameters.length) = some n) (hAs : As.length = n)
    (hst : st = As.reverse ++ rest) (hdep : d2 + 1 ≤ d) (hcat : (rest.map fun v => v.category).sum ≤ 8) (k : CA d2 y2 As M (qV (fun M' => PS d y pc' lv (rest) M' Q))) : PS d y pc lv st M Q := by
  subst hp
  refine pw_callS (d2 := d2) n rfl hd hcv hlink hlen hAs hst hdep hcat (Nat.le_refl 0) (Nat.le_refl 0) (Call.mono k ?_)
  rintro v w ⟨M', rfl, rfl, q⟩
  exact q
theorem ps_callVR {d2 idx ci : Nat} {y2 : MD} {As rest : List Value} {c : Nat} {cT : vw_C} (n : Nat) {pc' : Nat} (hp : pc + 3 = pc') (hd : decode y.2.1 pc = .ok (.invokevirtual idx, 3)) (hcv : CV y2) (hlink : Cond.methodLink y.1.cls idx y2.1 ∈ tb) (hlen : (parseMethodDescriptor y2.1.desc).map (fun d => d.parameters.length) = some n) (hAs : As.length = n)
    (hst : st = As.reverse ++ .ref c :: rest) (hdep : d2 + 1 ≤ d) (hcat : (rest.map fun v => v.category).sum ≤ 8) (ho : OB c ci) (hci : vwCl[ci]? = some cT) (hcls : cT.1 = y2.1.cls) (k : CA d2 y2 (.ref c :: As) M (qR (fun r M' => PS d y pc' lv (.ref r :: rest) M' Q))) : PS d y pc lv st M Q := by
  subst hp
  refine pw_callV (d2 := d2) n rfl hd hcv hlink hlen hAs hst hdep hcat (w_lt ho.1) ho.2 hci hcls (Nat.le_refl 0) (Nat.le_refl 0) (Call.mono k ?_)
  rintro v w ⟨M', rfl, r, rfl, q⟩
  exact q
theorem ps_callSR {d2 idx : Nat} {y2 : MD} {As rest : List Value} (n : Nat) {pc' : Nat} (hp : pc + 3 = pc') (hd : decode y.2.1 pc = .ok (.invokestatic idx, 3)) (hcv : CS y2) (hlink : Cond.methodLink y.1.cls idx y2.1 ∈ tb) (hlen : (parseMethodDescriptor y2.1.desc).map (fun d => d.parameters.length) = some n) (hAs : As.length = n)
    (hst : st = As.reverse ++ rest) (hdep : d2 + 1 ≤ d) (hcat : (rest.map fun v => v.category).sum ≤ 8) (k : CA d2 y2 As M (qR (fun r M' => PS d y pc' lv (.ref r :: rest) M' Q))) : PS d y pc lv st M Q := by
  subst hp
  refine pw_callS (d2 := d2) n rfl hd hcv hlink hlen hAs hst hdep hcat (Nat.le_refl 0) (Nat.le_refl 0) (Call.mono k ?_)
  rintro v w ⟨M', rfl, r, rfl, q⟩
  exact q
end SRows
theorem CA_of {d : Nat} {y : MD} {As : List Value} {M : Mem} {Q : Option Value → Mem → Prop} (hpl : plainName y.1.cls = true) (hlen : (lg_sl As).length ≤ y.2.2.1) (k : PS d y 0 (lv_args 0 As) [] M Q) : CA d y As M Q := Call_of hpl hlen k
theorem mx_max1 : Cond.static Lib.Math.max.name ∈ tb := tb_in 518 (by decide +kernel) rfl
theorem mx_max3 : Cond.code Lib.Math.max.name Lib.Math.max.code 2 (some .int) ∈ tb := tb_in 519 (by decide +kernel) rfl
theorem mx_min1 : Cond.static Lib.Math.min.name ∈ tb := tb_in 521 (by decide +kernel) rfl
theorem mx_min3 : Cond.code Lib.Math.min.name Lib.Math.min.code 2 (some .int) ∈ tb := tb_in 522 (by decide +kernel) rfl
theorem mx_ini : Cond.initialized "java/lang/Math" ∈ tb := tb_in 43 (by decide +kernel) rfl
theorem ml_X3_108 : Cond.methodLink RX3 108 yJ9_max_7cf53 ∈ tb := tb_in 517 (by decide +kernel) rfl
theorem ml_X3_122 : Cond.methodLink RX3 122 yJ9_min_7cf53 ∈ tb := tb_in 520 (by decide +kernel) rfl
theorem ml_X5_40 : Cond.methodLink RX5 40 yJ9_max_7cf53 ∈ tb := tb_in 531 (by decide +kernel) rfl
theorem ml_X7_58 : Cond.methodLink RX7 58 yJ9_max_7cf53 ∈ tb := tb_in 773 (by decide +kernel) rfl
theorem ml_X7_63 : Cond.methodLink RX7 63 yJ9_min_7cf53 ∈ tb := tb_in 774 (by decide +kernel) rfl
