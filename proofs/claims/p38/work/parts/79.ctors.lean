/-! ===== the constructors' walks ===== -/
/-- the references as the puts so far have left them -/
def RPS (ps : List (Nat × Nat × Nat)) (c k : Nat) : Option Nat := match kd0 c with
  | .inl _ => (ps.find? (fun q => q.1 == c && q.2.1 == k)).map (fun q => q.2.2)
  | .inr (.inl _) => none
  | .inr (.inr n) => if k < n then some (c + 1 + k) else none
theorem RPS_obj {ps : List (Nat × Nat × Nat)} {c ci : Nat} (h : kd0 c = .inl ci) (k : Nat) : RPS ps c k = (ps.find? (fun q => q.1 == c && q.2.1 == k)).map (fun q => q.2.2) := by unfold RPS; rw [h]
theorem RPS_put {ps : List (Nat × Nat × Nat)} {c k r ci : Nat} (h : kd0 c = .inl ci) : wrR (RPS ps) c k (some r) = RPS ((c, k, r) :: ps) := by
  funext c' k'
  unfold wrR
  by_cases e : c' = c
  · subst e
    rw [RPS_obj h, RPS_obj h, List.find?_cons]
    by_cases e2 : k' = k
    · subst e2
      simp
    · have e3 : ¬ k = k' := fun q => e2 q.symm
      have e4 : (k == k') = false := by simpa using e3
      simp [e2, e4]
  · rw [if_neg (fun q => e q.1)]
    unfold RPS
    have e3 : ¬ c = c' := fun q => e q.symm
    cases kd0 c' with
    | inl ci => simp [e3]
    | inr x => cases x <;> rfl
theorem RPS_none {ps : List (Nat × Nat × Nat)} {c ci : Nat} (h : kd0 c = .inl ci) (hn : ps.all (fun q => !(q.1 == c)) = true) : ∀ k, RPS ps c k = none := by
  intro k
  rw [RPS_obj h]
  have : ps.find? (fun q => q.1 == c && q.2.1 == k) = none := by
    rw [List.find?_eq_none]
    intro q hq
    have := List.all_eq_true.mp hn q hq
    simp at this ⊢
    exact fun e => absurd e this
  rw [this]
  rfl
theorem RPS_rows {ps : List (Nat × Nat × Nat)} {c n : Nat} (h : kd0 c = .inr (.inr n)) : ∀ j, RPS ps c j = if j < n then some (c + 1 + j) else none := by
  intro j; unfold RPS; rw [h]
section Ctor
variable {d mc ms nc ns : Nat} {y : MD} {pc : Nat} {lv : List (Nat × Value)} {st : List Value} {n : Nat} {ps : List (Nat × Nat × Nat)} {M : Mem} {Q : Option Value → Wd → Prop}
theorem pn_putL {idx ci k c : Nat} {fty : FieldType} {r : Nat} {pc' : Nat} (hp : pc + 3 = pc') (hd : decode y.2.1 pc = .ok (.putfield idx, 3)) (hF : FL y.1.cls idx ci k true fty) (hc : c < n) (hk : kd0 c = .inl ci) (hb : (cfl ci)[k]? = some true) (hini : y.1.name = "<init>") (hown : ∀ q : vw_C, vwCl[ci]? = some q → q.1 = y.1.cls) (hn : ∀ a, narrow fty (.ref a) = .ref a) (hft : ∀ a, fits fty (.ref a) = true) (kk : PN d mc ms y nc ns pc' lv st (n, kd0, RPS ((c, k, r) :: ps), M) Q) : PN d mc ms y nc ns pc lv (.ref r :: .ref c :: st) (n, kd0, RPS ps, M) Q := by
  refine pn_putR (w := (n, kd0, RPS ps, M)) hp hd hF hc hk hb hini hown hn hft ?_
  rw [← RPS_put hk] at kk
  exact kk
theorem pn_getL {idx ci k c r : Nat} {fin : Bool} {fty : FieldType} {pc' : Nat} (hp : pc + 3 = pc') (hd : decode y.2.1 pc = .ok (.getfield idx, 3)) (hF : FL y.1.cls idx ci k fin fty) (hc : c < n) (hk : kd0 c = .inl ci) (hb : (cfl ci)[k]? = some true) (hr : RPS ps c k = some r) (kk : PN d mc ms y nc ns pc' lv (.ref r :: st) (n, kd0, RPS ps, M) Q) : PN d mc ms y nc ns pc lv (.ref c :: st) (n, kd0, RPS ps, M) Q :=
  pn_getR (w := (n, kd0, RPS ps, M)) hp hd hF hc hk hb hr kk
theorem pn_putIL {idx ci k c : Nat} {fty : FieldType} {v : Int32} {pc' : Nat} (hp : pc + 3 = pc') (hd : decode y.2.1 pc = .ok (.putfield idx, 3)) (hF : FL y.1.cls idx ci k false fty) (hc : c < n) (hk : kd0 c = .inl ci) (hb : (cfl ci)[k]? = some false) (hn : narrow fty (.int v) = .int v) (hft : fits fty (.int v) = true) (kk : PN d mc ms y nc ns pc' lv st (n, kd0, RPS ps, wr M c k v) Q) : PN d mc ms y nc ns pc lv (.int v :: .ref c :: st) (n, kd0, RPS ps, M) Q :=
  pn_putI (w := (n, kd0, RPS ps, M)) hp hd hF hc hk hb hn hft kk
end Ctor
theorem pf_fill {c n : Nat} {w : Wd} (hc : c < w.1) (hk : w.2.1 c = .inr (.inl n)) (hn : n < 2147483648) {v : Int32} {Q : Option Value → Wd → Prop} (k : ∀ M', (∀ j, j < n → M' c j = v) → (∀ c' j, c' ≠ c → M' c' j = w.2.2.2 c' j) → Q none (w.1, w.2.1, w.2.2.1, M')) : Call 0 0 0 mdJ7_fill_53178 [.ref c, .int v] w Q := by
  have key : ∀ m i (M1 : Mem), i + m = n → (∀ j, j < i → M1 c j = v) → (∀ c' j, c' ≠ c → M1 c' j = w.2.2.2 c' j) → PW 0 0 0 mdJ7_fill_53178 0 0 5 [(0, .ref c), (1, .int v), (2, .int (nI i)), (3, .int (nI n))] [] (w.1, w.2.1, w.2.2.1, M1) Q := by
    intro m
    induction m with
    | zero =>
      intro i M1 hi h1 h2
      refine pw_iload_n (pc' := 6) 2 rfl dJ7_fill_53178_5 rfl rfl ?_
      refine pw_iload_n (pc' := 7) 3 rfl dJ7_fill_53178_6 rfl rfl ?_
      refine pw_icmp_ge (pc' := 10) (tgt := 20) rfl dJ7_fill_53178_7 (by decide) (fun q => ?_) (fun q => absurd ((n_le (by omega) (by omega)).mpr (by omega)) q)
      exact pw_vret dJ7_fill_53178_20 rfl (k M1 (fun j hj => h1 j (by omega)) h2)
    | succ m ih =>
      intro i M1 hi h1 h2
      refine pw_iload_n (pc' := 6) 2 rfl dJ7_fill_53178_5 rfl rfl ?_
      refine pw_iload_n (pc' := 7) 3 rfl dJ7_fill_53178_6 rfl rfl ?_
      refine pw_icmp_ge (pc' := 10) (tgt := 20) rfl dJ7_fill_53178_7 (by decide) (fun q => absurd ((n_le (by omega) (by omega)).mp q) (by omega)) (fun q => ?_)
      refine pw_aload_n (pc' := 11) 0 rfl dJ7_fill_53178_10 rfl rfl ?_
      refine pw_iload_n (pc' := 12) 2 rfl dJ7_fill_53178_11 rfl rfl ?_
      refine pw_iload_n (pc' := 13) 1 rfl dJ7_fill_53178_12 rfl rfl ?_
      refine pw_iast (pc' := 14) (w := (w.1, w.2.1, w.2.2.1, M1)) rfl dJ7_fill_53178_13 hc hk ((vin (by omega)).mpr (by omega)) ?_
      refine pw_iinc (pc' := 17) (v := nI (i + 1)) (lv' := [(0, .ref c), (1, .int v), (2, .int (nI (i + 1))), (3, .int (nI n))]) 2 [1, 2, 0, 3] rfl dJ7_fill_53178_14 rfl (nI_1 i) (by decide) rfl ?_
      refine pw_goto (tgt := 5) dJ7_fill_53178_17 (by decide) ?_
      rw [show wPut (w.1, w.2.1, w.2.2.1, M1) c (ix (nI i)) v = (w.1, w.2.1, w.2.2.1, wr M1 c i v) from by rw [ix_n (by omega)]]
      refine ih (i + 1) _ (by omega) (fun j hj => ?_) (fun c' j hc' => ?_)
      · by_cases e : j = i
        · subst e; exact wr_eq _ _ _ _
        · rw [wr_nk _ _ _ _ e]; exact h1 j (by omega)
      · rw [wr_nc _ _ _ _ hc']; exact h2 c' j hc'
  refine Call_of (by decide +kernel) (Nat.le_of_ble_eq_true rfl) ?_
  refine pw_iconst (pc' := 1) (v := nI 0) rfl dJ7_fill_53178_0 (by decide) ?_
  refine pw_istore_n (pc' := 2) (lv' := [(0, .ref c), (1, .int v), (2, .int (nI 0))]) [1, 2, 0] rfl dJ7_fill_53178_1 rfl (by decide) rfl ?_
  refine pw_aload_n (pc' := 3) 0 rfl dJ7_fill_53178_2 rfl rfl ?_
  refine pw_alenI (pc' := 4) (v := nI n) rfl dJ7_fill_53178_3 hc hk rfl ?_
  refine pw_istore_n (pc' := 5) (lv' := [(0, .ref c), (1, .int v), (2, .int (nI 0)), (3, .int (nI n))]) [1, 2, 3, 0] rfl dJ7_fill_53178_4 rfl (by decide) rfl ?_
  exact key n 0 w.2.2.2 (by omega) (fun j hj => by omega) (fun _ _ _ => rfl)
theorem ci_X0_init : CI mdX0_init := ⟨tb_in 57 (by decide +kernel) rfl, tb_in 33 (by decide +kernel) rfl, tb_in 58 (by decide +kernel) rfl, ⟨by decide +kernel, by decide +kernel⟩, by decide, rfl, rfl⟩
theorem nw_0 : ∀ j, j < 8 → defaultValue (tyX0 j) = vp_V (f0L (cfl 0)) j := by
  intro j hj
  match j, hj with
  | 0, _ => rfl
  | 1, _ => rfl
  | 2, _ => rfl
  | 3, _ => rfl
  | 4, _ => rfl
  | 5, _ => rfl
  | 6, _ => rfl
  | 7, _ => rfl
  | j + 8, h => exact absurd h (by omega)
theorem ci_X1_init : CI mdX1_init := ⟨tb_in 349 (by decide +kernel) rfl, tb_in 42 (by decide +kernel) rfl, tb_in 350 (by decide +kernel) rfl, ⟨by decide +kernel, by decide +kernel⟩, by decide, rfl, rfl⟩
theorem nw_1 : ∀ j, j < 3 → defaultValue (tyX1 j) = vp_V (f0L (cfl 1)) j := by
  intro j hj
  match j, hj with
  | 0, _ => rfl
  | 1, _ => rfl
  | 2, _ => rfl
  | j + 3, h => exact absurd h (by omega)
theorem ci_X2_init : CI mdX2_init := ⟨tb_in 283 (by decide +kernel) rfl, tb_in 41 (by decide +kernel) rfl, tb_in 284 (by decide +kernel) rfl, ⟨by decide +kernel, by decide +kernel⟩, by decide, rfl, rfl⟩
theorem nw_2 : ∀ j, j < 5 → defaultValue (tyX2 j) = vp_V (f0L (cfl 2)) j := by
  intro j hj
  match j, hj with
  | 0, _ => rfl
  | 1, _ => rfl
  | 2, _ => rfl
  | 3, _ => rfl
  | 4, _ => rfl
  | j + 5, h => exact absurd h (by omega)
theorem ci_X3_init : CI mdX3_init := ⟨tb_in 277 (by decide +kernel) rfl, tb_in 40 (by decide +kernel) rfl, tb_in 278 (by decide +kernel) rfl, ⟨by decide +kernel, by decide +kernel⟩, by decide, rfl, rfl⟩
theorem nw_3 : ∀ j, j < 12 → defaultValue (tyX3 j) = vp_V (f0L (cfl 3)) j := by
  intro j hj
  match j, hj with
  | 0, _ => rfl
  | 1, _ => rfl
  | 2, _ => rfl
  | 3, _ => rfl
  | 4, _ => rfl
  | 5, _ => rfl
  | 6, _ => rfl
  | 7, _ => rfl
  | 8, _ => rfl
  | 9, _ => rfl
  | 10, _ => rfl
  | 11, _ => rfl
  | j + 12, h => exact absurd h (by omega)
theorem ci_X4_init : CI mdX4_init := ⟨tb_in 230 (by decide +kernel) rfl, tb_in 37 (by decide +kernel) rfl, tb_in 231 (by decide +kernel) rfl, ⟨by decide +kernel, by decide +kernel⟩, by decide, rfl, rfl⟩
theorem nw_4 : ∀ j, j < 3 → defaultValue (tyX4 j) = vp_V (f0L (cfl 4)) j := by
  intro j hj
  match j, hj with
  | 0, _ => rfl
  | 1, _ => rfl
  | 2, _ => rfl
  | j + 3, h => exact absurd h (by omega)
theorem ci_X5_init : CI mdX5_init := ⟨tb_in 104 (by decide +kernel) rfl, tb_in 34 (by decide +kernel) rfl, tb_in 105 (by decide +kernel) rfl, ⟨by decide +kernel, by decide +kernel⟩, by decide, rfl, rfl⟩
theorem nw_5 : ∀ j, j < 10 → defaultValue (tyX5 j) = vp_V (f0L (cfl 5)) j := by
  intro j hj
  match j, hj with
  | 0, _ => rfl
  | 1, _ => rfl
  | 2, _ => rfl
  | 3, _ => rfl
  | 4, _ => rfl
  | 5, _ => rfl
  | 6, _ => rfl
  | 7, _ => rfl
  | 8, _ => rfl
  | 9, _ => rfl
  | j + 10, h => exact absurd h (by omega)
theorem ci_X6_init : CI mdX6_init := ⟨tb_in 154 (by decide +kernel) rfl, tb_in 35 (by decide +kernel) rfl, tb_in 155 (by decide +kernel) rfl, ⟨by decide +kernel, by decide +kernel⟩, by decide, rfl, rfl⟩
theorem nw_6 : ∀ j, j < 11 → defaultValue (tyX6 j) = vp_V (f0L (cfl 6)) j := by
  intro j hj
  match j, hj with
  | 0, _ => rfl
  | 1, _ => rfl
  | 2, _ => rfl
  | 3, _ => rfl
  | 4, _ => rfl
  | 5, _ => rfl
  | 6, _ => rfl
  | 7, _ => rfl
  | 8, _ => rfl
  | 9, _ => rfl
  | 10, _ => rfl
  | j + 11, h => exact absurd h (by omega)
theorem ci_X7_init : CI mdX7_init := ⟨tb_in 211 (by decide +kernel) rfl, tb_in 36 (by decide +kernel) rfl, tb_in 212 (by decide +kernel) rfl, ⟨by decide +kernel, by decide +kernel⟩, by decide, rfl, rfl⟩
theorem nw_7 : ∀ j, j < 4 → defaultValue (tyX7 j) = vp_V (f0L (cfl 7)) j := by
  intro j hj
  match j, hj with
  | 0, _ => rfl
  | 1, _ => rfl
  | 2, _ => rfl
  | 3, _ => rfl
  | j + 4, h => exact absurd h (by omega)
theorem ci_X8_init : CI mdX8_init := ⟨tb_in 250 (by decide +kernel) rfl, tb_in 39 (by decide +kernel) rfl, tb_in 251 (by decide +kernel) rfl, ⟨by decide +kernel, by decide +kernel⟩, by decide, rfl, rfl⟩
theorem nw_8 : ∀ j, j < 6 → defaultValue (tyX8 j) = vp_V (f0L (cfl 8)) j := by
  intro j hj
  match j, hj with
  | 0, _ => rfl
  | 1, _ => rfl
  | 2, _ => rfl
  | 3, _ => rfl
  | 4, _ => rfl
  | 5, _ => rfl
  | j + 6, h => exact absurd h (by omega)
theorem ci_X9_init : CI mdX9_init := ⟨tb_in 49 (by decide +kernel) rfl, tb_in 32 (by decide +kernel) rfl, tb_in 50 (by decide +kernel) rfl, ⟨by decide +kernel, by decide +kernel⟩, by decide, rfl, rfl⟩
theorem nw_9 : ∀ j, j < 14 → defaultValue (tyX9 j) = vp_V (f0L (cfl 9)) j := by
  intro j hj
  match j, hj with
  | 0, _ => rfl
  | 1, _ => rfl
  | 2, _ => rfl
  | 3, _ => rfl
  | 4, _ => rfl
  | 5, _ => rfl
  | 6, _ => rfl
  | 7, _ => rfl
  | 8, _ => rfl
  | 9, _ => rfl
  | 10, _ => rfl
  | 11, _ => rfl
  | 12, _ => rfl
  | 13, _ => rfl
  | j + 14, h => exact absurd h (by omega)
theorem aw_c : Cond.arrayClass .int ∈ tb := tb_in 100 (by decide +kernel) rfl
theorem cl_L_16 : Cond.classLink RL 16 RX9 ∈ tb := tb_in 46 (by decide +kernel) rfl
theorem is_X9 : Cond.instantiable RX9 14 ∈ tb := tb_in 47 (by decide +kernel) rfl
theorem cl_X9_7 : Cond.classLink RX9 7 RX0 ∈ tb := tb_in 54 (by decide +kernel) rfl
theorem is_X0 : Cond.instantiable RX0 8 ∈ tb := tb_in 55 (by decide +kernel) rfl
theorem cl_X0_18 : Cond.classLink RX0 18 ("[" ++ (FieldType.array .int).toString) ∈ tb := tb_in 60 (by decide +kernel) rfl
theorem cl_X9_16 : Cond.classLink RX9 16 RX5 ∈ tb := tb_in 101 (by decide +kernel) rfl
theorem is_X5 : Cond.instantiable RX5 10 ∈ tb := tb_in 102 (by decide +kernel) rfl
theorem cl_X9_23 : Cond.classLink RX9 23 RX6 ∈ tb := tb_in 151 (by decide +kernel) rfl
theorem is_X6 : Cond.instantiable RX6 11 ∈ tb := tb_in 152 (by decide +kernel) rfl
theorem cl_X9_39 : Cond.classLink RX9 39 RX7 ∈ tb := tb_in 208 (by decide +kernel) rfl
theorem is_X7 : Cond.instantiable RX7 4 ∈ tb := tb_in 209 (by decide +kernel) rfl
theorem cl_X9_46 : Cond.classLink RX9 46 RX4 ∈ tb := tb_in 227 (by decide +kernel) rfl
theorem is_X4 : Cond.instantiable RX4 3 ∈ tb := tb_in 228 (by decide +kernel) rfl
theorem cl_X4_16 : Cond.classLink RX4 16 ("[" ++ (FieldType.array .int).toString) ∈ tb := tb_in 233 (by decide +kernel) rfl
theorem cl_X9_53 : Cond.classLink RX9 53 RX8 ∈ tb := tb_in 247 (by decide +kernel) rfl
theorem is_X8 : Cond.instantiable RX8 6 ∈ tb := tb_in 248 (by decide +kernel) rfl
theorem cl_X8_15 : Cond.classLink RX8 15 ("[" ++ (FieldType.array .int).toString) ∈ tb := tb_in 253 (by decide +kernel) rfl
theorem cl_X9_62 : Cond.classLink RX9 62 RX3 ∈ tb := tb_in 274 (by decide +kernel) rfl
theorem is_X3 : Cond.instantiable RX3 12 ∈ tb := tb_in 275 (by decide +kernel) rfl
theorem cl_X3_9 : Cond.classLink RX3 9 RX2 ∈ tb := tb_in 280 (by decide +kernel) rfl
theorem is_X2 : Cond.instantiable RX2 5 ∈ tb := tb_in 281 (by decide +kernel) rfl
theorem cl_X3_21 : Cond.classLink RX3 21 ("[" ++ (FieldType.array .int).toString) ∈ tb := tb_in 307 (by decide +kernel) rfl
theorem cl_X9_71 : Cond.classLink RX9 71 RX1 ∈ tb := tb_in 346 (by decide +kernel) rfl
theorem is_X1 : Cond.instantiable RX1 3 ∈ tb := tb_in 347 (by decide +kernel) rfl
theorem cl_X1_9 : Cond.classLink RX1 9 ("[" ++ (FieldType.array .int).toString) ∈ tb := tb_in 352 (by decide +kernel) rfl
theorem cl_X9_84 : Cond.classLink RX9 84 ("[" ++ (FieldType.array .int).toString) ∈ tb := tb_in 363 (by decide +kernel) rfl
theorem in_X0 : Cond.initialized RX0 ∈ tb := tb_in 33 (by decide +kernel) rfl
theorem in_X1 : Cond.initialized RX1 ∈ tb := tb_in 42 (by decide +kernel) rfl
theorem in_X2 : Cond.initialized RX2 ∈ tb := tb_in 41 (by decide +kernel) rfl
theorem in_X3 : Cond.initialized RX3 ∈ tb := tb_in 40 (by decide +kernel) rfl
theorem in_X4 : Cond.initialized RX4 ∈ tb := tb_in 37 (by decide +kernel) rfl
theorem in_X5 : Cond.initialized RX5 ∈ tb := tb_in 34 (by decide +kernel) rfl
theorem in_X6 : Cond.initialized RX6 ∈ tb := tb_in 35 (by decide +kernel) rfl
theorem in_X7 : Cond.initialized RX7 ∈ tb := tb_in 36 (by decide +kernel) rfl
theorem in_X8 : Cond.initialized RX8 ∈ tb := tb_in 39 (by decide +kernel) rfl
theorem in_X9 : Cond.initialized RX9 ∈ tb := tb_in 32 (by decide +kernel) rfl
theorem n_X0_init_1 {ps : List (Nat × Nat × Nat)} {M : Mem} (hz : ∀ c k, 2 ≤ c → M c k = nI 0) : CallN 1 28 315 mdX0_init [.ref 1] (2, kd0, RPS (ps), M) (fun v w => v = none ∧ w = (30, kd0, RPS ((1, 7, 19) :: (1, 6, 8) :: (1, 5, 4) :: (1, 4, 3) :: (1, 3, 2) :: ps), M)) := by
  refine CallN_of (by decide +kernel) (Nat.le_of_ble_eq_true rfl) ?_
  refine pn_aload_n (pc' := 1) 0 rfl dX0_init_0 rfl rfl ?_
  refine pn_objInit (pc' := 4) rfl dX0_init_1 ml_X0_3 (by decide) (by decide) ?_
  refine pn_aload_n (pc' := 5) 0 rfl dX0_init_4 rfl rfl ?_
  refine pn_bipush (pc' := 7) (v := nI 10) rfl dX0_init_5 (by decide) ?_
  refine pn_newa (L := 10) (pc' := 9) (nc' := 1) (ns' := 10) (n' := 3) rfl rfl rfl rfl rfl (fun j => hz _ _ (by omega)) (by omega) (Nat.le_of_ble_eq_true rfl) (Nat.le_of_ble_eq_true rfl) dX0_init_7 aw_c ?_
  refine pn_putL (pc' := 12) rfl dX0_init_9 fl_X0_9 (by decide) rfl rfl rfl (fun q h => by cases h; rfl) (fun _ => rfl) (fun _ => rfl) ?_
  refine pn_aload_n (pc' := 13) 0 rfl dX0_init_12 rfl rfl ?_
  refine pn_bipush (pc' := 15) (v := nI 10) rfl dX0_init_13 (by decide) ?_
  refine pn_newa (L := 10) (pc' := 17) (nc' := 2) (ns' := 20) (n' := 4) rfl rfl rfl rfl rfl (fun j => hz _ _ (by omega)) (by omega) (Nat.le_of_ble_eq_true rfl) (Nat.le_of_ble_eq_true rfl) dX0_init_15 aw_c ?_
  refine pn_putL (pc' := 20) rfl dX0_init_17 fl_X0_15 (by decide) rfl rfl rfl (fun q h => by cases h; rfl) (fun _ => rfl) (fun _ => rfl) ?_
  refine pn_aload_n (pc' := 21) 0 rfl dX0_init_20 rfl rfl ?_
  refine pn_iconst (pc' := 22) (v := nI 3) rfl dX0_init_21 (by decide) ?_
  refine pn_bipush (pc' := 24) (v := nI 24) rfl dX0_init_22 (by decide) ?_
  refine pn_mna (N := 3) (K := 24) (pc' := 28) (nc' := 6) (ns' := 95) (n' := 8) rfl rfl rfl rfl rfl (by decide +kernel) (RPS_rows rfl) (fun i _ j => hz _ _ (by omega)) (by omega) (by omega) (Nat.le_of_ble_eq_true rfl) (Nat.le_of_ble_eq_true rfl) dX0_init_24 cl_X0_18 aw_c ?_
  refine pn_putL (pc' := 31) rfl dX0_init_28 fl_X0_20 (by decide) rfl rfl rfl (fun q h => by cases h; rfl) (fun _ => rfl) (fun _ => rfl) ?_
  refine pn_aload_n (pc' := 32) 0 rfl dX0_init_31 rfl rfl ?_
  refine pn_bipush (pc' := 34) (v := nI 10) rfl dX0_init_32 (by decide) ?_
  refine pn_bipush (pc' := 36) (v := nI 10) rfl dX0_init_34 (by decide) ?_
  refine pn_mna (N := 10) (K := 10) (pc' := 40) (nc' := 17) (ns' := 205) (n' := 19) rfl rfl rfl rfl rfl (by decide +kernel) (RPS_rows rfl) (fun i _ j => hz _ _ (by omega)) (by omega) (by omega) (Nat.le_of_ble_eq_true rfl) (Nat.le_of_ble_eq_true rfl) dX0_init_36 cl_X0_18 aw_c ?_
  refine pn_putL (pc' := 43) rfl dX0_init_40 fl_X0_23 (by decide) rfl rfl rfl (fun q h => by cases h; rfl) (fun _ => rfl) (fun _ => rfl) ?_
  refine pn_aload_n (pc' := 44) 0 rfl dX0_init_43 rfl rfl ?_
  refine pn_bipush (pc' := 46) (v := nI 10) rfl dX0_init_44 (by decide) ?_
  refine pn_bipush (pc' := 48) (v := nI 10) rfl dX0_init_46 (by decide) ?_
  refine pn_mna (N := 10) (K := 10) (pc' := 52) (nc' := 28) (ns' := 315) (n' := 30) rfl rfl rfl rfl rfl (by decide +kernel) (RPS_rows rfl) (fun i _ j => hz _ _ (by omega)) (by omega) (by omega) (Nat.le_of_ble_eq_true rfl) (Nat.le_of_ble_eq_true rfl) dX0_init_48 cl_X0_18 aw_c ?_
  refine pn_putL (pc' := 55) rfl dX0_init_52 fl_X0_26 (by decide) rfl rfl rfl (fun q h => by cases h; rfl) (fun _ => rfl) (fun _ => rfl) ?_
  exact pn_vret dX0_init_55 rfl ⟨rfl, rfl⟩
theorem n_X5_init_30 {ps : List (Nat × Nat × Nat)} {M : Mem} (hz : ∀ c k, 31 ≤ c → M c k = nI 0) : CallN 1 6 28 mdX5_init [.ref 30] (31, kd0, RPS (ps), M) (fun v w => v = none ∧ w = (37, kd0, RPS ((30, 9, 36) :: (30, 8, 35) :: (30, 7, 34) :: (30, 6, 33) :: (30, 5, 32) :: (30, 4, 31) :: ps), M)) := by
  refine CallN_of (by decide +kernel) (Nat.le_of_ble_eq_true rfl) ?_
  refine pn_aload_n (pc' := 1) 0 rfl dX5_init_0 rfl rfl ?_
  refine pn_objInit (pc' := 4) rfl dX5_init_1 ml_X5_3 (by decide) (by decide) ?_
  refine pn_aload_n (pc' := 5) 0 rfl dX5_init_4 rfl rfl ?_
  refine pn_iconst (pc' := 6) (v := nI 3) rfl dX5_init_5 (by decide) ?_
  refine pn_newa (L := 3) (pc' := 8) (nc' := 1) (ns' := 3) (n' := 32) rfl rfl rfl rfl rfl (fun j => hz _ _ (by omega)) (by omega) (Nat.le_of_ble_eq_true rfl) (Nat.le_of_ble_eq_true rfl) dX5_init_6 aw_c ?_
  refine pn_putL (pc' := 11) rfl dX5_init_8 fl_X5_9 (by decide) rfl rfl rfl (fun q h => by cases h; rfl) (fun _ => rfl) (fun _ => rfl) ?_
  refine pn_aload_n (pc' := 12) 0 rfl dX5_init_11 rfl rfl ?_
  refine pn_iconst (pc' := 13) (v := nI 5) rfl dX5_init_12 (by decide) ?_
  refine pn_newa (L := 5) (pc' := 15) (nc' := 2) (ns' := 8) (n' := 33) rfl rfl rfl rfl rfl (fun j => hz _ _ (by omega)) (by omega) (Nat.le_of_ble_eq_true rfl) (Nat.le_of_ble_eq_true rfl) dX5_init_13 aw_c ?_
  refine pn_putL (pc' := 18) rfl dX5_init_15 fl_X5_15 (by decide) rfl rfl rfl (fun q h => by cases h; rfl) (fun _ => rfl) (fun _ => rfl) ?_
  refine pn_aload_n (pc' := 19) 0 rfl dX5_init_18 rfl rfl ?_
  refine pn_iconst (pc' := 20) (v := nI 5) rfl dX5_init_19 (by decide) ?_
  refine pn_newa (L := 5) (pc' := 22) (nc' := 3) (ns' := 13) (n' := 34) rfl rfl rfl rfl rfl (fun j => hz _ _ (by omega)) (by omega) (Nat.le_of_ble_eq_true rfl) (Nat.le_of_ble_eq_true rfl) dX5_init_20 aw_c ?_
  refine pn_putL (pc' := 25) rfl dX5_init_22 fl_X5_18 (by decide) rfl rfl rfl (fun q h => by cases h; rfl) (fun _ => rfl) (fun _ => rfl) ?_
  refine pn_aload_n (pc' := 26) 0 rfl dX5_init_25 rfl rfl ?_
  refine pn_iconst (pc' := 27) (v := nI 5) rfl dX5_init_26 (by decide) ?_
  refine pn_newa (L := 5) (pc' := 29) (nc' := 4) (ns' := 18) (n' := 35) rfl rfl rfl rfl rfl (fun j => hz _ _ (by omega)) (by omega) (Nat.le_of_ble_eq_true rfl) (Nat.le_of_ble_eq_true rfl) dX5_init_27 aw_c ?_
  refine pn_putL (pc' := 32) rfl dX5_init_29 fl_X5_21 (by decide) rfl rfl rfl (fun q h => by cases h; rfl) (fun _ => rfl) (fun _ => rfl) ?_
  refine pn_aload_n (pc' := 33) 0 rfl dX5_init_32 rfl rfl ?_
  refine pn_iconst (pc' := 34) (v := nI 5) rfl dX5_init_33 (by decide) ?_
  refine pn_newa (L := 5) (pc' := 36) (nc' := 5) (ns' := 23) (n' := 36) rfl rfl rfl rfl rfl (fun j => hz _ _ (by omega)) (by omega) (Nat.le_of_ble_eq_true rfl) (Nat.le_of_ble_eq_true rfl) dX5_init_34 aw_c ?_
  refine pn_putL (pc' := 39) rfl dX5_init_36 fl_X5_24 (by decide) rfl rfl rfl (fun q h => by cases h; rfl) (fun _ => rfl) (fun _ => rfl) ?_
  refine pn_aload_n (pc' := 40) 0 rfl dX5_init_39 rfl rfl ?_
  refine pn_iconst (pc' := 41) (v := nI 5) rfl dX5_init_40 (by decide) ?_
  refine pn_newa (L := 5) (pc' := 43) (nc' := 6) (ns' := 28) (n' := 37) rfl rfl rfl rfl rfl (fun j => hz _ _ (by omega)) (by omega) (Nat.le_of_ble_eq_true rfl) (Nat.le_of_ble_eq_true rfl) dX5_init_41 aw_c ?_
  refine pn_putL (pc' := 46) rfl dX5_init_43 fl_X5_27 (by decide) rfl rfl rfl (fun q h => by cases h; rfl) (fun _ => rfl) (fun _ => rfl) ?_
  exact pn_vret dX5_init_46 rfl ⟨rfl, rfl⟩
theorem n_X6_init_37 {ps : List (Nat × Nat × Nat)} {M : Mem} (hz : ∀ c k, 38 ≤ c → M c k = nI 0) : CallN 1 5 53 mdX6_init [.ref 37] (38, kd0, RPS (ps), M) (fun v w => v = none ∧ w = (43, kd0, RPS ((37, 10, 42) :: (37, 9, 41) :: (37, 8, 40) :: (37, 7, 39) :: (37, 6, 38) :: ps), M)) := by
  refine CallN_of (by decide +kernel) (Nat.le_of_ble_eq_true rfl) ?_
  refine pn_aload_n (pc' := 1) 0 rfl dX6_init_0 rfl rfl ?_
  refine pn_objInit (pc' := 4) rfl dX6_init_1 ml_X6_3 (by decide) (by decide) ?_
  refine pn_aload_n (pc' := 5) 0 rfl dX6_init_4 rfl rfl ?_
  refine pn_iconst (pc' := 6) (v := nI 5) rfl dX6_init_5 (by decide) ?_
  refine pn_newa (L := 5) (pc' := 8) (nc' := 1) (ns' := 5) (n' := 39) rfl rfl rfl rfl rfl (fun j => hz _ _ (by omega)) (by omega) (Nat.le_of_ble_eq_true rfl) (Nat.le_of_ble_eq_true rfl) dX6_init_6 aw_c ?_
  refine pn_putL (pc' := 11) rfl dX6_init_8 fl_X6_9 (by decide) rfl rfl rfl (fun q h => by cases h; rfl) (fun _ => rfl) (fun _ => rfl) ?_
  refine pn_aload_n (pc' := 12) 0 rfl dX6_init_11 rfl rfl ?_
  refine pn_bipush (pc' := 14) (v := nI 12) rfl dX6_init_12 (by decide) ?_
  refine pn_newa (L := 12) (pc' := 16) (nc' := 2) (ns' := 17) (n' := 40) rfl rfl rfl rfl rfl (fun j => hz _ _ (by omega)) (by omega) (Nat.le_of_ble_eq_true rfl) (Nat.le_of_ble_eq_true rfl) dX6_init_14 aw_c ?_
  refine pn_putL (pc' := 19) rfl dX6_init_16 fl_X6_15 (by decide) rfl rfl rfl (fun q h => by cases h; rfl) (fun _ => rfl) (fun _ => rfl) ?_
  refine pn_aload_n (pc' := 20) 0 rfl dX6_init_19 rfl rfl ?_
  refine pn_bipush (pc' := 22) (v := nI 12) rfl dX6_init_20 (by decide) ?_
  refine pn_newa (L := 12) (pc' := 24) (nc' := 3) (ns' := 29) (n' := 41) rfl rfl rfl rfl rfl (fun j => hz _ _ (by omega)) (by omega) (Nat.le_of_ble_eq_true rfl) (Nat.le_of_ble_eq_true rfl) dX6_init_22 aw_c ?_
  refine pn_putL (pc' := 27) rfl dX6_init_24 fl_X6_18 (by decide) rfl rfl rfl (fun q h => by cases h; rfl) (fun _ => rfl) (fun _ => rfl) ?_
  refine pn_aload_n (pc' := 28) 0 rfl dX6_init_27 rfl rfl ?_
  refine pn_bipush (pc' := 30) (v := nI 12) rfl dX6_init_28 (by decide) ?_
  refine pn_newa (L := 12) (pc' := 32) (nc' := 4) (ns' := 41) (n' := 42) rfl rfl rfl rfl rfl (fun j => hz _ _ (by omega)) (by omega) (Nat.le_of_ble_eq_true rfl) (Nat.le_of_ble_eq_true rfl) dX6_init_30 aw_c ?_
  refine pn_putL (pc' := 35) rfl dX6_init_32 fl_X6_21 (by decide) rfl rfl rfl (fun q h => by cases h; rfl) (fun _ => rfl) (fun _ => rfl) ?_
  refine pn_aload_n (pc' := 36) 0 rfl dX6_init_35 rfl rfl ?_
  refine pn_bipush (pc' := 38) (v := nI 12) rfl dX6_init_36 (by decide) ?_
  refine pn_newa (L := 12) (pc' := 40) (nc' := 5) (ns' := 53) (n' := 43) rfl rfl rfl rfl rfl (fun j => hz _ _ (by omega)) (by omega) (Nat.le_of_ble_eq_true rfl) (Nat.le_of_ble_eq_true rfl) dX6_init_38 aw_c ?_
  refine pn_putL (pc' := 43) rfl dX6_init_40 fl_X6_24 (by decide) rfl rfl rfl (fun q h => by cases h; rfl) (fun _ => rfl) (fun _ => rfl) ?_
  exact pn_vret dX6_init_43 rfl ⟨rfl, rfl⟩
theorem n_X0_init_43 {ps : List (Nat × Nat × Nat)} {M : Mem} (hz : ∀ c k, 44 ≤ c → M c k = nI 0) : CallN 1 28 315 mdX0_init [.ref 43] (44, kd0, RPS (ps), M) (fun v w => v = none ∧ w = (72, kd0, RPS ((43, 7, 61) :: (43, 6, 50) :: (43, 5, 46) :: (43, 4, 45) :: (43, 3, 44) :: ps), M)) := by
  refine CallN_of (by decide +kernel) (Nat.le_of_ble_eq_true rfl) ?_
  refine pn_aload_n (pc' := 1) 0 rfl dX0_init_0 rfl rfl ?_
  refine pn_objInit (pc' := 4) rfl dX0_init_1 ml_X0_3 (by decide) (by decide) ?_
  refine pn_aload_n (pc' := 5) 0 rfl dX0_init_4 rfl rfl ?_
  refine pn_bipush (pc' := 7) (v := nI 10) rfl dX0_init_5 (by decide) ?_
  refine pn_newa (L := 10) (pc' := 9) (nc' := 1) (ns' := 10) (n' := 45) rfl rfl rfl rfl rfl (fun j => hz _ _ (by omega)) (by omega) (Nat.le_of_ble_eq_true rfl) (Nat.le_of_ble_eq_true rfl) dX0_init_7 aw_c ?_
  refine pn_putL (pc' := 12) rfl dX0_init_9 fl_X0_9 (by decide) rfl rfl rfl (fun q h => by cases h; rfl) (fun _ => rfl) (fun _ => rfl) ?_
  refine pn_aload_n (pc' := 13) 0 rfl dX0_init_12 rfl rfl ?_
  refine pn_bipush (pc' := 15) (v := nI 10) rfl dX0_init_13 (by decide) ?_
  refine pn_newa (L := 10) (pc' := 17) (nc' := 2) (ns' := 20) (n' := 46) rfl rfl rfl rfl rfl (fun j => hz _ _ (by omega)) (by omega) (Nat.le_of_ble_eq_true rfl) (Nat.le_of_ble_eq_true rfl) dX0_init_15 aw_c ?_
  refine pn_putL (pc' := 20) rfl dX0_init_17 fl_X0_15 (by decide) rfl rfl rfl (fun q h => by cases h; rfl) (fun _ => rfl) (fun _ => rfl) ?_
  refine pn_aload_n (pc' := 21) 0 rfl dX0_init_20 rfl rfl ?_
  refine pn_iconst (pc' := 22) (v := nI 3) rfl dX0_init_21 (by decide) ?_
  refine pn_bipush (pc' := 24) (v := nI 24) rfl dX0_init_22 (by decide) ?_
  refine pn_mna (N := 3) (K := 24) (pc' := 28) (nc' := 6) (ns' := 95) (n' := 50) rfl rfl rfl rfl rfl (by decide +kernel) (RPS_rows rfl) (fun i _ j => hz _ _ (by omega)) (by omega) (by omega) (Nat.le_of_ble_eq_true rfl) (Nat.le_of_ble_eq_true rfl) dX0_init_24 cl_X0_18 aw_c ?_
  refine pn_putL (pc' := 31) rfl dX0_init_28 fl_X0_20 (by decide) rfl rfl rfl (fun q h => by cases h; rfl) (fun _ => rfl) (fun _ => rfl) ?_
  refine pn_aload_n (pc' := 32) 0 rfl dX0_init_31 rfl rfl ?_
  refine pn_bipush (pc' := 34) (v := nI 10) rfl dX0_init_32 (by decide) ?_
  refine pn_bipush (pc' := 36) (v := nI 10) rfl dX0_init_34 (by decide) ?_
  refine pn_mna (N := 10) (K := 10) (pc' := 40) (nc' := 17) (ns' := 205) (n' := 61) rfl rfl rfl rfl rfl (by decide +kernel) (RPS_rows rfl) (fun i _ j => hz _ _ (by omega)) (by omega) (by omega) (Nat.le_of_ble_eq_true rfl) (Nat.le_of_ble_eq_true rfl) dX0_init_36 cl_X0_18 aw_c ?_
  refine pn_putL (pc' := 43) rfl dX0_init_40 fl_X0_23 (by decide) rfl rfl rfl (fun q h => by cases h; rfl) (fun _ => rfl) (fun _ => rfl) ?_
  refine pn_aload_n (pc' := 44) 0 rfl dX0_init_43 rfl rfl ?_
  refine pn_bipush (pc' := 46) (v := nI 10) rfl dX0_init_44 (by decide) ?_
  refine pn_bipush (pc' := 48) (v := nI 10) rfl dX0_init_46 (by decide) ?_
  refine pn_mna (N := 10) (K := 10) (pc' := 52) (nc' := 28) (ns' := 315) (n' := 72) rfl rfl rfl rfl rfl (by decide +kernel) (RPS_rows rfl) (fun i _ j => hz _ _ (by omega)) (by omega) (by omega) (Nat.le_of_ble_eq_true rfl) (Nat.le_of_ble_eq_true rfl) dX0_init_48 cl_X0_18 aw_c ?_
  refine pn_putL (pc' := 55) rfl dX0_init_52 fl_X0_26 (by decide) rfl rfl rfl (fun q h => by cases h; rfl) (fun _ => rfl) (fun _ => rfl) ?_
  exact pn_vret dX0_init_55 rfl ⟨rfl, rfl⟩
theorem n_X5_init_72 {ps : List (Nat × Nat × Nat)} {M : Mem} (hz : ∀ c k, 73 ≤ c → M c k = nI 0) : CallN 1 6 28 mdX5_init [.ref 72] (73, kd0, RPS (ps), M) (fun v w => v = none ∧ w = (79, kd0, RPS ((72, 9, 78) :: (72, 8, 77) :: (72, 7, 76) :: (72, 6, 75) :: (72, 5, 74) :: (72, 4, 73) :: ps), M)) := by
  refine CallN_of (by decide +kernel) (Nat.le_of_ble_eq_true rfl) ?_
  refine pn_aload_n (pc' := 1) 0 rfl dX5_init_0 rfl rfl ?_
  refine pn_objInit (pc' := 4) rfl dX5_init_1 ml_X5_3 (by decide) (by decide) ?_
  refine pn_aload_n (pc' := 5) 0 rfl dX5_init_4 rfl rfl ?_
  refine pn_iconst (pc' := 6) (v := nI 3) rfl dX5_init_5 (by decide) ?_
  refine pn_newa (L := 3) (pc' := 8) (nc' := 1) (ns' := 3) (n' := 74) rfl rfl rfl rfl rfl (fun j => hz _ _ (by omega)) (by omega) (Nat.le_of_ble_eq_true rfl) (Nat.le_of_ble_eq_true rfl) dX5_init_6 aw_c ?_
  refine pn_putL (pc' := 11) rfl dX5_init_8 fl_X5_9 (by decide) rfl rfl rfl (fun q h => by cases h; rfl) (fun _ => rfl) (fun _ => rfl) ?_
  refine pn_aload_n (pc' := 12) 0 rfl dX5_init_11 rfl rfl ?_
  refine pn_iconst (pc' := 13) (v := nI 5) rfl dX5_init_12 (by decide) ?_
  refine pn_newa (L := 5) (pc' := 15) (nc' := 2) (ns' := 8) (n' := 75) rfl rfl rfl rfl rfl (fun j => hz _ _ (by omega)) (by omega) (Nat.le_of_ble_eq_true rfl) (Nat.le_of_ble_eq_true rfl) dX5_init_13 aw_c ?_
  refine pn_putL (pc' := 18) rfl dX5_init_15 fl_X5_15 (by decide) rfl rfl rfl (fun q h => by cases h; rfl) (fun _ => rfl) (fun _ => rfl) ?_
  refine pn_aload_n (pc' := 19) 0 rfl dX5_init_18 rfl rfl ?_
  refine pn_iconst (pc' := 20) (v := nI 5) rfl dX5_init_19 (by decide) ?_
  refine pn_newa (L := 5) (pc' := 22) (nc' := 3) (ns' := 13) (n' := 76) rfl rfl rfl rfl rfl (fun j => hz _ _ (by omega)) (by omega) (Nat.le_of_ble_eq_true rfl) (Nat.le_of_ble_eq_true rfl) dX5_init_20 aw_c ?_
  refine pn_putL (pc' := 25) rfl dX5_init_22 fl_X5_18 (by decide) rfl rfl rfl (fun q h => by cases h; rfl) (fun _ => rfl) (fun _ => rfl) ?_
  refine pn_aload_n (pc' := 26) 0 rfl dX5_init_25 rfl rfl ?_
  refine pn_iconst (pc' := 27) (v := nI 5) rfl dX5_init_26 (by decide) ?_
  refine pn_newa (L := 5) (pc' := 29) (nc' := 4) (ns' := 18) (n' := 77) rfl rfl rfl rfl rfl (fun j => hz _ _ (by omega)) (by omega) (Nat.le_of_ble_eq_true rfl) (Nat.le_of_ble_eq_true rfl) dX5_init_27 aw_c ?_
  refine pn_putL (pc' := 32) rfl dX5_init_29 fl_X5_21 (by decide) rfl rfl rfl (fun q h => by cases h; rfl) (fun _ => rfl) (fun _ => rfl) ?_
  refine pn_aload_n (pc' := 33) 0 rfl dX5_init_32 rfl rfl ?_
  refine pn_iconst (pc' := 34) (v := nI 5) rfl dX5_init_33 (by decide) ?_
  refine pn_newa (L := 5) (pc' := 36) (nc' := 5) (ns' := 23) (n' := 78) rfl rfl rfl rfl rfl (fun j => hz _ _ (by omega)) (by omega) (Nat.le_of_ble_eq_true rfl) (Nat.le_of_ble_eq_true rfl) dX5_init_34 aw_c ?_
  refine pn_putL (pc' := 39) rfl dX5_init_36 fl_X5_24 (by decide) rfl rfl rfl (fun q h => by cases h; rfl) (fun _ => rfl) (fun _ => rfl) ?_
  refine pn_aload_n (pc' := 40) 0 rfl dX5_init_39 rfl rfl ?_
  refine pn_iconst (pc' := 41) (v := nI 5) rfl dX5_init_40 (by decide) ?_
  refine pn_newa (L := 5) (pc' := 43) (nc' := 6) (ns' := 28) (n' := 79) rfl rfl rfl rfl rfl (fun j => hz _ _ (by omega)) (by omega) (Nat.le_of_ble_eq_true rfl) (Nat.le_of_ble_eq_true rfl) dX5_init_41 aw_c ?_
  refine pn_putL (pc' := 46) rfl dX5_init_43 fl_X5_27 (by decide) rfl rfl rfl (fun q h => by cases h; rfl) (fun _ => rfl) (fun _ => rfl) ?_
  exact pn_vret dX5_init_46 rfl ⟨rfl, rfl⟩
theorem n_X6_init_79 {ps : List (Nat × Nat × Nat)} {M : Mem} (hz : ∀ c k, 80 ≤ c → M c k = nI 0) : CallN 1 5 53 mdX6_init [.ref 79] (80, kd0, RPS (ps), M) (fun v w => v = none ∧ w = (85, kd0, RPS ((79, 10, 84) :: (79, 9, 83) :: (79, 8, 82) :: (79, 7, 81) :: (79, 6, 80) :: ps), M)) := by
  refine CallN_of (by decide +kernel) (Nat.le_of_ble_eq_true rfl) ?_
  refine pn_aload_n (pc' := 1) 0 rfl dX6_init_0 rfl rfl ?_
  refine pn_objInit (pc' := 4) rfl dX6_init_1 ml_X6_3 (by decide) (by decide) ?_
  refine pn_aload_n (pc' := 5) 0 rfl dX6_init_4 rfl rfl ?_
  refine pn_iconst (pc' := 6) (v := nI 5) rfl dX6_init_5 (by decide) ?_
  refine pn_newa (L := 5) (pc' := 8) (nc' := 1) (ns' := 5) (n' := 81) rfl rfl rfl rfl rfl (fun j => hz _ _ (by omega)) (by omega) (Nat.le_of_ble_eq_true rfl) (Nat.le_of_ble_eq_true rfl) dX6_init_6 aw_c ?_
  refine pn_putL (pc' := 11) rfl dX6_init_8 fl_X6_9 (by decide) rfl rfl rfl (fun q h => by cases h; rfl) (fun _ => rfl) (fun _ => rfl) ?_
  refine pn_aload_n (pc' := 12) 0 rfl dX6_init_11 rfl rfl ?_
  refine pn_bipush (pc' := 14) (v := nI 12) rfl dX6_init_12 (by decide) ?_
  refine pn_newa (L := 12) (pc' := 16) (nc' := 2) (ns' := 17) (n' := 82) rfl rfl rfl rfl rfl (fun j => hz _ _ (by omega)) (by omega) (Nat.le_of_ble_eq_true rfl) (Nat.le_of_ble_eq_true rfl) dX6_init_14 aw_c ?_
  refine pn_putL (pc' := 19) rfl dX6_init_16 fl_X6_15 (by decide) rfl rfl rfl (fun q h => by cases h; rfl) (fun _ => rfl) (fun _ => rfl) ?_
  refine pn_aload_n (pc' := 20) 0 rfl dX6_init_19 rfl rfl ?_
  refine pn_bipush (pc' := 22) (v := nI 12) rfl dX6_init_20 (by decide) ?_
  refine pn_newa (L := 12) (pc' := 24) (nc' := 3) (ns' := 29) (n' := 83) rfl rfl rfl rfl rfl (fun j => hz _ _ (by omega)) (by omega) (Nat.le_of_ble_eq_true rfl) (Nat.le_of_ble_eq_true rfl) dX6_init_22 aw_c ?_
  refine pn_putL (pc' := 27) rfl dX6_init_24 fl_X6_18 (by decide) rfl rfl rfl (fun q h => by cases h; rfl) (fun _ => rfl) (fun _ => rfl) ?_
  refine pn_aload_n (pc' := 28) 0 rfl dX6_init_27 rfl rfl ?_
  refine pn_bipush (pc' := 30) (v := nI 12) rfl dX6_init_28 (by decide) ?_
  refine pn_newa (L := 12) (pc' := 32) (nc' := 4) (ns' := 41) (n' := 84) rfl rfl rfl rfl rfl (fun j => hz _ _ (by omega)) (by omega) (Nat.le_of_ble_eq_true rfl) (Nat.le_of_ble_eq_true rfl) dX6_init_30 aw_c ?_
  refine pn_putL (pc' := 35) rfl dX6_init_32 fl_X6_21 (by decide) rfl rfl rfl (fun q h => by cases h; rfl) (fun _ => rfl) (fun _ => rfl) ?_
  refine pn_aload_n (pc' := 36) 0 rfl dX6_init_35 rfl rfl ?_
  refine pn_bipush (pc' := 38) (v := nI 12) rfl dX6_init_36 (by decide) ?_
  refine pn_newa (L := 12) (pc' := 40) (nc' := 5) (ns' := 53) (n' := 85) rfl rfl rfl rfl rfl (fun j => hz _ _ (by omega)) (by omega) (Nat.le_of_ble_eq_true rfl) (Nat.le_of_ble_eq_true rfl) dX6_init_38 aw_c ?_
  refine pn_putL (pc' := 43) rfl dX6_init_40 fl_X6_24 (by decide) rfl rfl rfl (fun q h => by cases h; rfl) (fun _ => rfl) (fun _ => rfl) ?_
  exact pn_vret dX6_init_43 rfl ⟨rfl, rfl⟩
theorem n_X7_init_85 {ps : List (Nat × Nat × Nat)} {M : Mem} (hz : ∀ c k, 86 ≤ c → M c k = nI 0) : CallN 1 1 80 mdX7_init [.ref 85] (86, kd0, RPS (ps), M) (fun v w => v = none ∧ w = (87, kd0, RPS ((85, 1, 86) :: ps), M)) := by
  refine CallN_of (by decide +kernel) (Nat.le_of_ble_eq_true rfl) ?_
  refine pn_aload_n (pc' := 1) 0 rfl dX7_init_0 rfl rfl ?_
  refine pn_objInit (pc' := 4) rfl dX7_init_1 ml_X7_3 (by decide) (by decide) ?_
  refine pn_aload_n (pc' := 5) 0 rfl dX7_init_4 rfl rfl ?_
  refine pn_bipush (pc' := 7) (v := nI 80) rfl dX7_init_5 (by decide) ?_
  refine pn_newa (L := 80) (pc' := 9) (nc' := 1) (ns' := 80) (n' := 87) rfl rfl rfl rfl rfl (fun j => hz _ _ (by omega)) (by omega) (Nat.le_of_ble_eq_true rfl) (Nat.le_of_ble_eq_true rfl) dX7_init_7 aw_c ?_
  refine pn_putL (pc' := 12) rfl dX7_init_9 fl_X7_11 (by decide) rfl rfl rfl (fun q h => by cases h; rfl) (fun _ => rfl) (fun _ => rfl) ?_
  exact pn_vret dX7_init_12 rfl ⟨rfl, rfl⟩
theorem n_X4_init_87 {ps : List (Nat × Nat × Nat)} {M : Mem} (hz : ∀ c k, 88 ≤ c → M c k = nI 0) : CallN 1 7 108 mdX4_init [.ref 87] (88, kd0, RPS (ps), M) (fun v w => v = none ∧ ∃ M1 : Mem, (∀ j, j < 4 → M1 88 j = -1) ∧ (∀ c k, c ≠ 88 → M1 c k = M c k) ∧ w = (95, kd0, RPS ((87, 2, 90) :: (87, 1, 89) :: (87, 0, 88) :: ps), M1)) := by
  refine CallN_of (by decide +kernel) (Nat.le_of_ble_eq_true rfl) ?_
  refine pn_aload_n (pc' := 1) 0 rfl dX4_init_0 rfl rfl ?_
  refine pn_objInit (pc' := 4) rfl dX4_init_1 ml_X4_1 (by decide) (by decide) ?_
  refine pn_aload_n (pc' := 5) 0 rfl dX4_init_4 rfl rfl ?_
  refine pn_iconst (pc' := 6) (v := nI 4) rfl dX4_init_5 (by decide) ?_
  refine pn_newa (L := 4) (pc' := 8) (nc' := 1) (ns' := 4) (n' := 89) rfl rfl rfl rfl rfl (fun j => hz _ _ (by omega)) (by omega) (Nat.le_of_ble_eq_true rfl) (Nat.le_of_ble_eq_true rfl) dX4_init_6 aw_c ?_
  refine pn_putL (pc' := 11) rfl dX4_init_8 fl_X4_9 (by decide) rfl rfl rfl (fun q h => by cases h; rfl) (fun _ => rfl) (fun _ => rfl) ?_
  refine pn_aload_n (pc' := 12) 0 rfl dX4_init_11 rfl rfl ?_
  refine pn_iconst (pc' := 13) (v := nI 4) rfl dX4_init_12 (by decide) ?_
  refine pn_newa (L := 4) (pc' := 15) (nc' := 2) (ns' := 8) (n' := 90) rfl rfl rfl rfl rfl (fun j => hz _ _ (by omega)) (by omega) (Nat.le_of_ble_eq_true rfl) (Nat.le_of_ble_eq_true rfl) dX4_init_13 aw_c ?_
  refine pn_putL (pc' := 18) rfl dX4_init_15 fl_X4_13 (by decide) rfl rfl rfl (fun q h => by cases h; rfl) (fun _ => rfl) (fun _ => rfl) ?_
  refine pn_aload_n (pc' := 19) 0 rfl dX4_init_18 rfl rfl ?_
  refine pn_iconst (pc' := 20) (v := nI 4) rfl dX4_init_19 (by decide) ?_
  refine pn_bipush (pc' := 22) (v := nI 24) rfl dX4_init_20 (by decide) ?_
  refine pn_mna (N := 4) (K := 24) (pc' := 26) (nc' := 7) (ns' := 108) (n' := 95) rfl rfl rfl rfl rfl (by decide +kernel) (RPS_rows rfl) (fun i _ j => hz _ _ (by omega)) (by omega) (by omega) (Nat.le_of_ble_eq_true rfl) (Nat.le_of_ble_eq_true rfl) dX4_init_22 cl_X4_16 aw_c ?_
  refine pn_putL (pc' := 29) rfl dX4_init_26 fl_X4_18 (by decide) rfl rfl rfl (fun q h => by cases h; rfl) (fun _ => rfl) (fun _ => rfl) ?_
  refine pn_aload_n (pc' := 30) 0 rfl dX4_init_29 rfl rfl ?_
  refine pn_getL (pc' := 33) (r := 88) rfl dX4_init_30 fl_X4_9 (by decide) rfl rfl rfl ?_
  refine pn_iconst (pc' := 34) (v := (-1)) rfl dX4_init_33 (by decide) ?_
  refine pn_callS (d2 := 0) (pc' := 37) (As := [.ref 88, .int (-1)]) (rest := []) 2 rfl dX4_init_34 cs_J7_fill_53178 ml_X4_21 (by decide) rfl rfl (by decide) (Nat.le_of_ble_eq_true rfl) (Nat.le_of_ble_eq_true rfl) (Nat.le_of_ble_eq_true rfl) (pf_fill (n := 4) (w := (95, kd0, RPS ((87, 2, 90) :: (87, 1, 89) :: (87, 0, 88) :: ps), M)) (show 88 < 95 by decide) rfl (by omega) (fun M1 hf1 hf2 => ⟨rfl, ?_⟩))
  exact pn_vret dX4_init_37 rfl ⟨rfl, M1, hf1, hf2, rfl⟩
theorem n_X8_init_95 {ps : List (Nat × Nat × Nat)} {M : Mem} (hz : ∀ c k, 96 ≤ c → M c k = nI 0) : CallN 1 28 336 mdX8_init [.ref 95, .ref 1] (96, kd0, RPS (ps), M) (fun v w => v = none ∧ w = (124, kd0, RPS ((95, 0, 1) :: (95, 5, 123) :: (95, 4, 122) :: (95, 3, 97) :: (95, 2, 96) :: ps), M)) := by
  refine CallN_of (by decide +kernel) (Nat.le_of_ble_eq_true rfl) ?_
  refine pn_aload_n (pc' := 1) 0 rfl dX8_init_0 rfl rfl ?_
  refine pn_objInit (pc' := 4) rfl dX8_init_1 ml_X8_3 (by decide) (by decide) ?_
  refine pn_aload_n (pc' := 5) 0 rfl dX8_init_4 rfl rfl ?_
  refine pn_bipush (pc' := 7) (v := nI 24) rfl dX8_init_5 (by decide) ?_
  refine pn_newa (L := 24) (pc' := 9) (nc' := 1) (ns' := 24) (n' := 97) rfl rfl rfl rfl rfl (fun j => hz _ _ (by omega)) (by omega) (Nat.le_of_ble_eq_true rfl) (Nat.le_of_ble_eq_true rfl) dX8_init_7 aw_c ?_
  refine pn_putL (pc' := 12) rfl dX8_init_9 fl_X8_9 (by decide) rfl rfl rfl (fun q h => by cases h; rfl) (fun _ => rfl) (fun _ => rfl) ?_
  refine pn_aload_n (pc' := 13) 0 rfl dX8_init_12 rfl rfl ?_
  refine pn_bipush (pc' := 15) (v := nI 24) rfl dX8_init_13 (by decide) ?_
  refine pn_bipush (pc' := 17) (v := nI 10) rfl dX8_init_15 (by decide) ?_
  refine pn_mna (N := 24) (K := 10) (pc' := 21) (nc' := 26) (ns' := 288) (n' := 122) rfl rfl rfl rfl rfl (by decide +kernel) (RPS_rows rfl) (fun i _ j => hz _ _ (by omega)) (by omega) (by omega) (Nat.le_of_ble_eq_true rfl) (Nat.le_of_ble_eq_true rfl) dX8_init_17 cl_X8_15 aw_c ?_
  refine pn_putL (pc' := 24) rfl dX8_init_21 fl_X8_17 (by decide) rfl rfl rfl (fun q h => by cases h; rfl) (fun _ => rfl) (fun _ => rfl) ?_
  refine pn_aload_n (pc' := 25) 0 rfl dX8_init_24 rfl rfl ?_
  refine pn_bipush (pc' := 27) (v := nI 24) rfl dX8_init_25 (by decide) ?_
  refine pn_newa (L := 24) (pc' := 29) (nc' := 27) (ns' := 312) (n' := 123) rfl rfl rfl rfl rfl (fun j => hz _ _ (by omega)) (by omega) (Nat.le_of_ble_eq_true rfl) (Nat.le_of_ble_eq_true rfl) dX8_init_27 aw_c ?_
  refine pn_putL (pc' := 32) rfl dX8_init_29 fl_X8_20 (by decide) rfl rfl rfl (fun q h => by cases h; rfl) (fun _ => rfl) (fun _ => rfl) ?_
  refine pn_aload_n (pc' := 33) 0 rfl dX8_init_32 rfl rfl ?_
  refine pn_bipush (pc' := 35) (v := nI 24) rfl dX8_init_33 (by decide) ?_
  refine pn_newa (L := 24) (pc' := 37) (nc' := 28) (ns' := 336) (n' := 124) rfl rfl rfl rfl rfl (fun j => hz _ _ (by omega)) (by omega) (Nat.le_of_ble_eq_true rfl) (Nat.le_of_ble_eq_true rfl) dX8_init_35 aw_c ?_
  refine pn_putL (pc' := 40) rfl dX8_init_37 fl_X8_23 (by decide) rfl rfl rfl (fun q h => by cases h; rfl) (fun _ => rfl) (fun _ => rfl) ?_
  refine pn_aload_n (pc' := 41) 0 rfl dX8_init_40 rfl rfl ?_
  refine pn_aload_n (pc' := 42) 1 rfl dX8_init_41 rfl rfl ?_
  refine pn_putL (pc' := 45) rfl dX8_init_42 fl_X8_26 (by decide) rfl rfl rfl (fun q h => by cases h; rfl) (fun _ => rfl) (fun _ => rfl) ?_
  exact pn_vret dX8_init_45 rfl ⟨rfl, rfl⟩
theorem n_X2_init_125 {ps : List (Nat × Nat × Nat)} {M : Mem} (hz : ∀ c k, 126 ≤ c → M c k = nI 0) : CallN 1 4 20 mdX2_init [.ref 125] (126, kd0, RPS (ps), M) (fun v w => v = none ∧ w = (130, kd0, RPS ((125, 4, 129) :: (125, 3, 128) :: (125, 2, 127) :: (125, 1, 126) :: ps), M)) := by
  refine CallN_of (by decide +kernel) (Nat.le_of_ble_eq_true rfl) ?_
  refine pn_aload_n (pc' := 1) 0 rfl dX2_init_0 rfl rfl ?_
  refine pn_objInit (pc' := 4) rfl dX2_init_1 ml_X2_3 (by decide) (by decide) ?_
  refine pn_aload_n (pc' := 5) 0 rfl dX2_init_4 rfl rfl ?_
  refine pn_iconst (pc' := 6) (v := nI 5) rfl dX2_init_5 (by decide) ?_
  refine pn_newa (L := 5) (pc' := 8) (nc' := 1) (ns' := 5) (n' := 127) rfl rfl rfl rfl rfl (fun j => hz _ _ (by omega)) (by omega) (Nat.le_of_ble_eq_true rfl) (Nat.le_of_ble_eq_true rfl) dX2_init_6 aw_c ?_
  refine pn_putL (pc' := 11) rfl dX2_init_8 fl_X2_9 (by decide) rfl rfl rfl (fun q h => by cases h; rfl) (fun _ => rfl) (fun _ => rfl) ?_
  refine pn_aload_n (pc' := 12) 0 rfl dX2_init_11 rfl rfl ?_
  refine pn_iconst (pc' := 13) (v := nI 5) rfl dX2_init_12 (by decide) ?_
  refine pn_newa (L := 5) (pc' := 15) (nc' := 2) (ns' := 10) (n' := 128) rfl rfl rfl rfl rfl (fun j => hz _ _ (by omega)) (by omega) (Nat.le_of_ble_eq_true rfl) (Nat.le_of_ble_eq_true rfl) dX2_init_13 aw_c ?_
  refine pn_putL (pc' := 18) rfl dX2_init_15 fl_X2_15 (by decide) rfl rfl rfl (fun q h => by cases h; rfl) (fun _ => rfl) (fun _ => rfl) ?_
  refine pn_aload_n (pc' := 19) 0 rfl dX2_init_18 rfl rfl ?_
  refine pn_iconst (pc' := 20) (v := nI 5) rfl dX2_init_19 (by decide) ?_
  refine pn_newa (L := 5) (pc' := 22) (nc' := 3) (ns' := 15) (n' := 129) rfl rfl rfl rfl rfl (fun j => hz _ _ (by omega)) (by omega) (Nat.le_of_ble_eq_true rfl) (Nat.le_of_ble_eq_true rfl) dX2_init_20 aw_c ?_
  refine pn_putL (pc' := 25) rfl dX2_init_22 fl_X2_18 (by decide) rfl rfl rfl (fun q h => by cases h; rfl) (fun _ => rfl) (fun _ => rfl) ?_
  refine pn_aload_n (pc' := 26) 0 rfl dX2_init_25 rfl rfl ?_
  refine pn_iconst (pc' := 27) (v := nI 5) rfl dX2_init_26 (by decide) ?_
  refine pn_newa (L := 5) (pc' := 29) (nc' := 4) (ns' := 20) (n' := 130) rfl rfl rfl rfl rfl (fun j => hz _ _ (by omega)) (by omega) (Nat.le_of_ble_eq_true rfl) (Nat.le_of_ble_eq_true rfl) dX2_init_27 aw_c ?_
  refine pn_putL (pc' := 32) rfl dX2_init_29 fl_X2_21 (by decide) rfl rfl rfl (fun q h => by cases h; rfl) (fun _ => rfl) (fun _ => rfl) ?_
  exact pn_vret dX2_init_32 rfl ⟨rfl, rfl⟩
theorem n_X2_init_130 {ps : List (Nat × Nat × Nat)} {M : Mem} (hz : ∀ c k, 131 ≤ c → M c k = nI 0) : CallN 1 4 20 mdX2_init [.ref 130] (131, kd0, RPS (ps), M) (fun v w => v = none ∧ w = (135, kd0, RPS ((130, 4, 134) :: (130, 3, 133) :: (130, 2, 132) :: (130, 1, 131) :: ps), M)) := by
  refine CallN_of (by decide +kernel) (Nat.le_of_ble_eq_true rfl) ?_
  refine pn_aload_n (pc' := 1) 0 rfl dX2_init_0 rfl rfl ?_
  refine pn_objInit (pc' := 4) rfl dX2_init_1 ml_X2_3 (by decide) (by decide) ?_
  refine pn_aload_n (pc' := 5) 0 rfl dX2_init_4 rfl rfl ?_
  refine pn_iconst (pc' := 6) (v := nI 5) rfl dX2_init_5 (by decide) ?_
  refine pn_newa (L := 5) (pc' := 8) (nc' := 1) (ns' := 5) (n' := 132) rfl rfl rfl rfl rfl (fun j => hz _ _ (by omega)) (by omega) (Nat.le_of_ble_eq_true rfl) (Nat.le_of_ble_eq_true rfl) dX2_init_6 aw_c ?_
  refine pn_putL (pc' := 11) rfl dX2_init_8 fl_X2_9 (by decide) rfl rfl rfl (fun q h => by cases h; rfl) (fun _ => rfl) (fun _ => rfl) ?_
  refine pn_aload_n (pc' := 12) 0 rfl dX2_init_11 rfl rfl ?_
  refine pn_iconst (pc' := 13) (v := nI 5) rfl dX2_init_12 (by decide) ?_
  refine pn_newa (L := 5) (pc' := 15) (nc' := 2) (ns' := 10) (n' := 133) rfl rfl rfl rfl rfl (fun j => hz _ _ (by omega)) (by omega) (Nat.le_of_ble_eq_true rfl) (Nat.le_of_ble_eq_true rfl) dX2_init_13 aw_c ?_
  refine pn_putL (pc' := 18) rfl dX2_init_15 fl_X2_15 (by decide) rfl rfl rfl (fun q h => by cases h; rfl) (fun _ => rfl) (fun _ => rfl) ?_
  refine pn_aload_n (pc' := 19) 0 rfl dX2_init_18 rfl rfl ?_
  refine pn_iconst (pc' := 20) (v := nI 5) rfl dX2_init_19 (by decide) ?_
  refine pn_newa (L := 5) (pc' := 22) (nc' := 3) (ns' := 15) (n' := 134) rfl rfl rfl rfl rfl (fun j => hz _ _ (by omega)) (by omega) (Nat.le_of_ble_eq_true rfl) (Nat.le_of_ble_eq_true rfl) dX2_init_20 aw_c ?_
  refine pn_putL (pc' := 25) rfl dX2_init_22 fl_X2_18 (by decide) rfl rfl rfl (fun q h => by cases h; rfl) (fun _ => rfl) (fun _ => rfl) ?_
  refine pn_aload_n (pc' := 26) 0 rfl dX2_init_25 rfl rfl ?_
  refine pn_iconst (pc' := 27) (v := nI 5) rfl dX2_init_26 (by decide) ?_
  refine pn_newa (L := 5) (pc' := 29) (nc' := 4) (ns' := 20) (n' := 135) rfl rfl rfl rfl rfl (fun j => hz _ _ (by omega)) (by omega) (Nat.le_of_ble_eq_true rfl) (Nat.le_of_ble_eq_true rfl) dX2_init_27 aw_c ?_
  refine pn_putL (pc' := 32) rfl dX2_init_29 fl_X2_21 (by decide) rfl rfl rfl (fun q h => by cases h; rfl) (fun _ => rfl) (fun _ => rfl) ?_
  exact pn_vret dX2_init_32 rfl ⟨rfl, rfl⟩
theorem n_X3_init_124 {M : Mem} (hz : ∀ c k, 125 ≤ c → M c k = nI 0) : CallN 2 42 422 mdX3_init [.ref 124, .ref 1, .ref 30, .ref 95] (125, kd0, RPS ((0, 9, 95) :: (95, 0, 1) :: (95, 5, 123) :: (95, 4, 122) :: (95, 3, 97) :: (95, 2, 96) :: (0, 8, 87) :: (87, 2, 90) :: (87, 1, 89) :: (87, 0, 88) :: (0, 7, 85) :: (85, 1, 86) :: (0, 5, 79) :: (79, 10, 84) :: (79, 9, 83) :: (79, 8, 82) :: (79, 7, 81) :: (79, 6, 80) :: (0, 4, 72) :: (72, 9, 78) :: (72, 8, 77) :: (72, 7, 76) :: (72, 6, 75) :: (72, 5, 74) :: (72, 4, 73) :: (0, 3, 43) :: (43, 7, 61) :: (43, 6, 50) :: (43, 5, 46) :: (43, 4, 45) :: (43, 3, 44) :: (0, 2, 37) :: (37, 10, 42) :: (37, 9, 41) :: (37, 8, 40) :: (37, 7, 39) :: (37, 6, 38) :: (0, 1, 30) :: (30, 9, 36) :: (30, 8, 35) :: (30, 7, 34) :: (30, 6, 33) :: (30, 5, 32) :: (30, 4, 31) :: (0, 0, 1) :: (1, 7, 19) :: (1, 6, 8) :: (1, 5, 4) :: (1, 4, 3) :: (1, 3, 2) :: ([] : List (Nat × Nat × Nat))), M) (fun v w => v = none ∧ w = (167, kd0, RPS ((124, 2, 95) :: (124, 1, 30) :: (124, 0, 1) :: (124, 10, 166) :: (124, 9, 165) :: (124, 8, 164) :: (124, 7, 160) :: (124, 6, 135) :: (124, 5, 130) :: (130, 4, 134) :: (130, 3, 133) :: (130, 2, 132) :: (130, 1, 131) :: (124, 4, 125) :: (125, 4, 129) :: (125, 3, 128) :: (125, 2, 127) :: (125, 1, 126) :: (0, 9, 95) :: (95, 0, 1) :: (95, 5, 123) :: (95, 4, 122) :: (95, 3, 97) :: (95, 2, 96) :: (0, 8, 87) :: (87, 2, 90) :: (87, 1, 89) :: (87, 0, 88) :: (0, 7, 85) :: (85, 1, 86) :: (0, 5, 79) :: (79, 10, 84) :: (79, 9, 83) :: (79, 8, 82) :: (79, 7, 81) :: (79, 6, 80) :: (0, 4, 72) :: (72, 9, 78) :: (72, 8, 77) :: (72, 7, 76) :: (72, 6, 75) :: (72, 5, 74) :: (72, 4, 73) :: (0, 3, 43) :: (43, 7, 61) :: (43, 6, 50) :: (43, 5, 46) :: (43, 4, 45) :: (43, 3, 44) :: (0, 2, 37) :: (37, 10, 42) :: (37, 9, 41) :: (37, 8, 40) :: (37, 7, 39) :: (37, 6, 38) :: (0, 1, 30) :: (30, 9, 36) :: (30, 8, 35) :: (30, 7, 34) :: (30, 6, 33) :: (30, 5, 32) :: (30, 4, 31) :: (0, 0, 1) :: (1, 7, 19) :: (1, 6, 8) :: (1, 5, 4) :: (1, 4, 3) :: (1, 3, 2) :: ([] : List (Nat × Nat × Nat))), M)) := by
  refine CallN_of (by decide +kernel) (Nat.le_of_ble_eq_true rfl) ?_
  refine pn_aload_n (pc' := 1) 0 rfl dX3_init_0 rfl rfl ?_
  refine pn_objInit (pc' := 4) rfl dX3_init_1 ml_X3_3 (by decide) (by decide) ?_
  refine pn_aload_n (pc' := 5) 0 rfl dX3_init_4 rfl rfl ?_
  refine pn_new (N := 5) (ci := 2) (pc' := 8) (nc' := 1) (ns' := 5) (n' := 126) rfl rfl rfl rfl rfl cf_2.1 cf_2.2.1 _ cf_2.2.2.1 nw_2 (fun j => ⟨RPS_none (ci := 2) rfl (by decide +kernel) j, hz _ _ (by omega)⟩) (Nat.le_of_ble_eq_true rfl) (Nat.le_of_ble_eq_true rfl) dX3_init_5 cl_X3_9 is_X2 in_X2 ?_
  refine pn_dup (pc' := 9) rfl dX3_init_8 rfl ?_
  refine pn_callIN (host := RX9) (d2 := 1) (mc2 := 4) (ms2 := 20) (c := 125) (pc' := 12) (nc' := 5) (ns' := 25) (As := []) (rest := [.ref 125, .ref 124]) 0 rfl rfl rfl dX3_init_9 ci_X2_init (List.mem_of_getElem? (i := 4) rfl) (by decide) rfl rfl (by decide) (Nat.le_of_ble_eq_true rfl) (Nat.le_of_ble_eq_true rfl) (Nat.le_of_ble_eq_true rfl) (CallN.mono (n_X2_init_125 (fun c k h => hz c k (by omega))) ?_)
  rintro v w ⟨rfl, rfl⟩
  refine ⟨rfl, ?_⟩
  refine pn_putL (pc' := 15) rfl dX3_init_12 fl_X3_12 (by decide) rfl rfl rfl (fun q h => by cases h; rfl) (fun _ => rfl) (fun _ => rfl) ?_
  refine pn_aload_n (pc' := 16) 0 rfl dX3_init_15 rfl rfl ?_
  refine pn_new (N := 5) (ci := 2) (pc' := 19) (nc' := 6) (ns' := 30) (n' := 131) rfl rfl rfl rfl rfl cf_2.1 cf_2.2.1 _ cf_2.2.2.1 nw_2 (fun j => ⟨RPS_none (ci := 2) rfl (by decide +kernel) j, hz _ _ (by omega)⟩) (Nat.le_of_ble_eq_true rfl) (Nat.le_of_ble_eq_true rfl) dX3_init_16 cl_X3_9 is_X2 in_X2 ?_
  refine pn_dup (pc' := 20) rfl dX3_init_19 rfl ?_
  refine pn_callIN (host := RX9) (d2 := 1) (mc2 := 4) (ms2 := 20) (c := 130) (pc' := 23) (nc' := 10) (ns' := 50) (As := []) (rest := [.ref 130, .ref 124]) 0 rfl rfl rfl dX3_init_20 ci_X2_init (List.mem_of_getElem? (i := 4) rfl) (by decide) rfl rfl (by decide) (Nat.le_of_ble_eq_true rfl) (Nat.le_of_ble_eq_true rfl) (Nat.le_of_ble_eq_true rfl) (CallN.mono (n_X2_init_130 (fun c k h => hz c k (by omega))) ?_)
  rintro v w ⟨rfl, rfl⟩
  refine ⟨rfl, ?_⟩
  refine pn_putL (pc' := 26) rfl dX3_init_23 fl_X3_18 (by decide) rfl rfl rfl (fun q h => by cases h; rfl) (fun _ => rfl) (fun _ => rfl) ?_
  refine pn_aload_n (pc' := 27) 0 rfl dX3_init_26 rfl rfl ?_
  refine pn_bipush (pc' := 29) (v := nI 24) rfl dX3_init_27 (by decide) ?_
  refine pn_bipush (pc' := 31) (v := nI 10) rfl dX3_init_29 (by decide) ?_
  refine pn_mna (N := 24) (K := 10) (pc' := 35) (nc' := 35) (ns' := 314) (n' := 160) rfl rfl rfl rfl rfl (by decide +kernel) (RPS_rows rfl) (fun i _ j => hz _ _ (by omega)) (by omega) (by omega) (Nat.le_of_ble_eq_true rfl) (Nat.le_of_ble_eq_true rfl) dX3_init_31 cl_X3_21 aw_c ?_
  refine pn_putL (pc' := 38) rfl dX3_init_35 fl_X3_23 (by decide) rfl rfl rfl (fun q h => by cases h; rfl) (fun _ => rfl) (fun _ => rfl) ?_
  refine pn_aload_n (pc' := 39) 0 rfl dX3_init_38 rfl rfl ?_
  refine pn_iconst (pc' := 40) (v := nI 3) rfl dX3_init_39 (by decide) ?_
  refine pn_bipush (pc' := 42) (v := nI 32) rfl dX3_init_40 (by decide) ?_
  refine pn_mna (N := 3) (K := 32) (pc' := 46) (nc' := 39) (ns' := 413) (n' := 164) rfl rfl rfl rfl rfl (by decide +kernel) (RPS_rows rfl) (fun i _ j => hz _ _ (by omega)) (by omega) (by omega) (Nat.le_of_ble_eq_true rfl) (Nat.le_of_ble_eq_true rfl) dX3_init_42 cl_X3_21 aw_c ?_
  refine pn_putL (pc' := 49) rfl dX3_init_46 fl_X3_26 (by decide) rfl rfl rfl (fun q h => by cases h; rfl) (fun _ => rfl) (fun _ => rfl) ?_
  refine pn_aload_n (pc' := 50) 0 rfl dX3_init_49 rfl rfl ?_
  refine pn_iconst (pc' := 51) (v := nI 3) rfl dX3_init_50 (by decide) ?_
  refine pn_newa (L := 3) (pc' := 53) (nc' := 40) (ns' := 416) (n' := 165) rfl rfl rfl rfl rfl (fun j => hz _ _ (by omega)) (by omega) (Nat.le_of_ble_eq_true rfl) (Nat.le_of_ble_eq_true rfl) dX3_init_51 aw_c ?_
  refine pn_putL (pc' := 56) rfl dX3_init_53 fl_X3_29 (by decide) rfl rfl rfl (fun q h => by cases h; rfl) (fun _ => rfl) (fun _ => rfl) ?_
  refine pn_aload_n (pc' := 57) 0 rfl dX3_init_56 rfl rfl ?_
  refine pn_iconst (pc' := 58) (v := nI 3) rfl dX3_init_57 (by decide) ?_
  refine pn_newa (L := 3) (pc' := 60) (nc' := 41) (ns' := 419) (n' := 166) rfl rfl rfl rfl rfl (fun j => hz _ _ (by omega)) (by omega) (Nat.le_of_ble_eq_true rfl) (Nat.le_of_ble_eq_true rfl) dX3_init_58 aw_c ?_
  refine pn_putL (pc' := 63) rfl dX3_init_60 fl_X3_33 (by decide) rfl rfl rfl (fun q h => by cases h; rfl) (fun _ => rfl) (fun _ => rfl) ?_
  refine pn_aload_n (pc' := 64) 0 rfl dX3_init_63 rfl rfl ?_
  refine pn_iconst (pc' := 65) (v := nI 3) rfl dX3_init_64 (by decide) ?_
  refine pn_newa (L := 3) (pc' := 67) (nc' := 42) (ns' := 422) (n' := 167) rfl rfl rfl rfl rfl (fun j => hz _ _ (by omega)) (by omega) (Nat.le_of_ble_eq_true rfl) (Nat.le_of_ble_eq_true rfl) dX3_init_65 aw_c ?_
  refine pn_putL (pc' := 70) rfl dX3_init_67 fl_X3_36 (by decide) rfl rfl rfl (fun q h => by cases h; rfl) (fun _ => rfl) (fun _ => rfl) ?_
  refine pn_aload_n (pc' := 71) 0 rfl dX3_init_70 rfl rfl ?_
  refine pn_aload_n (pc' := 72) 1 rfl dX3_init_71 rfl rfl ?_
  refine pn_putL (pc' := 75) rfl dX3_init_72 fl_X3_39 (by decide) rfl rfl rfl (fun q h => by cases h; rfl) (fun _ => rfl) (fun _ => rfl) ?_
  refine pn_aload_n (pc' := 76) 0 rfl dX3_init_75 rfl rfl ?_
  refine pn_aload_n (pc' := 77) 2 rfl dX3_init_76 rfl rfl ?_
  refine pn_putL (pc' := 80) rfl dX3_init_77 fl_X3_43 (by decide) rfl rfl rfl (fun q h => by cases h; rfl) (fun _ => rfl) (fun _ => rfl) ?_
  refine pn_aload_n (pc' := 81) 0 rfl dX3_init_80 rfl rfl ?_
  refine pn_aload_n (pc' := 82) 3 rfl dX3_init_81 rfl rfl ?_
  refine pn_putL (pc' := 85) rfl dX3_init_82 fl_X3_47 (by decide) rfl rfl rfl (fun q h => by cases h; rfl) (fun _ => rfl) (fun _ => rfl) ?_
  exact pn_vret dX3_init_85 rfl ⟨rfl, rfl⟩
theorem n_X1_init_167 {ps : List (Nat × Nat × Nat)} {M : Mem} (hz : ∀ c k, 168 ≤ c → M c k = nI 0) : CallN 1 6 125 mdX1_init [.ref 167, .ref 1, .ref 37] (168, kd0, RPS (ps), M) (fun v w => v = none ∧ w = (174, kd0, RPS ((167, 1, 37) :: (167, 0, 1) :: (167, 2, 168) :: ps), M)) := by
  refine CallN_of (by decide +kernel) (Nat.le_of_ble_eq_true rfl) ?_
  refine pn_aload_n (pc' := 1) 0 rfl dX1_init_0 rfl rfl ?_
  refine pn_objInit (pc' := 4) rfl dX1_init_1 ml_X1_3 (by decide) (by decide) ?_
  refine pn_aload_n (pc' := 5) 0 rfl dX1_init_4 rfl rfl ?_
  refine pn_iconst (pc' := 6) (v := nI 5) rfl dX1_init_5 (by decide) ?_
  refine pn_bipush (pc' := 8) (v := nI 24) rfl dX1_init_6 (by decide) ?_
  refine pn_mna (N := 5) (K := 24) (pc' := 12) (nc' := 6) (ns' := 125) (n' := 174) rfl rfl rfl rfl rfl (by decide +kernel) (RPS_rows rfl) (fun i _ j => hz _ _ (by omega)) (by omega) (by omega) (Nat.le_of_ble_eq_true rfl) (Nat.le_of_ble_eq_true rfl) dX1_init_8 cl_X1_9 aw_c ?_
  refine pn_putL (pc' := 15) rfl dX1_init_12 fl_X1_11 (by decide) rfl rfl rfl (fun q h => by cases h; rfl) (fun _ => rfl) (fun _ => rfl) ?_
  refine pn_aload_n (pc' := 16) 0 rfl dX1_init_15 rfl rfl ?_
  refine pn_aload_n (pc' := 17) 1 rfl dX1_init_16 rfl rfl ?_
  refine pn_putL (pc' := 20) rfl dX1_init_17 fl_X1_16 (by decide) rfl rfl rfl (fun q h => by cases h; rfl) (fun _ => rfl) (fun _ => rfl) ?_
  refine pn_aload_n (pc' := 21) 0 rfl dX1_init_20 rfl rfl ?_
  refine pn_aload_n (pc' := 22) 2 rfl dX1_init_21 rfl rfl ?_
  refine pn_putL (pc' := 25) rfl dX1_init_22 fl_X1_20 (by decide) rfl rfl rfl (fun q h => by cases h; rfl) (fun _ => rfl) (fun _ => rfl) ?_
  exact pn_vret dX1_init_25 rfl ⟨rfl, rfl⟩
theorem n_X9_init_0 {M : Mem} (hz : ∀ c k, 1 ≤ c → M c k = nI 0) : CallN 3 181 2003 mdX9_init [.ref 0] (1, kd0, RPS (([] : List (Nat × Nat × Nat))), M) (fun v w => v = none ∧ ∃ M1 : Mem, (∀ j, j < 4 → M1 88 j = -1) ∧ (∀ c k, c ≠ 88 → M1 c k = M c k) ∧ w = (182, kd0, RPS ((0, 13, 175) :: (0, 12, 174) :: (0, 11, 167) :: (167, 1, 37) :: (167, 0, 1) :: (167, 2, 168) :: (0, 10, 124) :: (124, 2, 95) :: (124, 1, 30) :: (124, 0, 1) :: (124, 10, 166) :: (124, 9, 165) :: (124, 8, 164) :: (124, 7, 160) :: (124, 6, 135) :: (124, 5, 130) :: (130, 4, 134) :: (130, 3, 133) :: (130, 2, 132) :: (130, 1, 131) :: (124, 4, 125) :: (125, 4, 129) :: (125, 3, 128) :: (125, 2, 127) :: (125, 1, 126) :: (0, 9, 95) :: (95, 0, 1) :: (95, 5, 123) :: (95, 4, 122) :: (95, 3, 97) :: (95, 2, 96) :: (0, 8, 87) :: (87, 2, 90) :: (87, 1, 89) :: (87, 0, 88) :: (0, 7, 85) :: (85, 1, 86) :: (0, 5, 79) :: (79, 10, 84) :: (79, 9, 83) :: (79, 8, 82) :: (79, 7, 81) :: (79, 6, 80) :: (0, 4, 72) :: (72, 9, 78) :: (72, 8, 77) :: (72, 7, 76) :: (72, 6, 75) :: (72, 5, 74) :: (72, 4, 73) :: (0, 3, 43) :: (43, 7, 61) :: (43, 6, 50) :: (43, 5, 46) :: (43, 4, 45) :: (43, 3, 44) :: (0, 2, 37) :: (37, 10, 42) :: (37, 9, 41) :: (37, 8, 40) :: (37, 7, 39) :: (37, 6, 38) :: (0, 1, 30) :: (30, 9, 36) :: (30, 8, 35) :: (30, 7, 34) :: (30, 6, 33) :: (30, 5, 32) :: (30, 4, 31) :: (0, 0, 1) :: (1, 7, 19) :: (1, 6, 8) :: (1, 5, 4) :: (1, 4, 3) :: (1, 3, 2) :: ([] : List (Nat × Nat × Nat))), M1)) := by
  refine CallN_of (by decide +kernel) (Nat.le_of_ble_eq_true rfl) ?_
  refine pn_aload_n (pc' := 1) 0 rfl dX9_init_0 rfl rfl ?_
  refine pn_objInit (pc' := 4) rfl dX9_init_1 ml_X9_1 (by decide) (by decide) ?_
  refine pn_aload_n (pc' := 5) 0 rfl dX9_init_4 rfl rfl ?_
  refine pn_new (N := 8) (ci := 0) (pc' := 8) (nc' := 1) (ns' := 8) (n' := 2) rfl rfl rfl rfl rfl cf_0.1 cf_0.2.1 _ cf_0.2.2.1 nw_0 (fun j => ⟨RPS_none (ci := 0) rfl (by decide +kernel) j, hz _ _ (by omega)⟩) (Nat.le_of_ble_eq_true rfl) (Nat.le_of_ble_eq_true rfl) dX9_init_5 cl_X9_7 is_X0 in_X0 ?_
  refine pn_dup (pc' := 9) rfl dX9_init_8 rfl ?_
  refine pn_callIN (host := RX9) (d2 := 1) (mc2 := 28) (ms2 := 315) (c := 1) (pc' := 12) (nc' := 29) (ns' := 323) (As := []) (rest := [.ref 1, .ref 0]) 0 rfl rfl rfl dX9_init_9 ci_X0_init (List.mem_of_getElem? (i := 0) rfl) (by decide) rfl rfl (by decide) (Nat.le_of_ble_eq_true rfl) (Nat.le_of_ble_eq_true rfl) (Nat.le_of_ble_eq_true rfl) (CallN.mono (n_X0_init_1 (fun c k h => hz c k (by omega))) ?_)
  rintro v w ⟨rfl, rfl⟩
  refine ⟨rfl, ?_⟩
  refine pn_putL (pc' := 15) rfl dX9_init_12 fl_X9_10 (by decide) rfl rfl rfl (fun q h => by cases h; rfl) (fun _ => rfl) (fun _ => rfl) ?_
  refine pn_aload_n (pc' := 16) 0 rfl dX9_init_15 rfl rfl ?_
  refine pn_new (N := 10) (ci := 5) (pc' := 19) (nc' := 30) (ns' := 333) (n' := 31) rfl rfl rfl rfl rfl cf_5.1 cf_5.2.1 _ cf_5.2.2.1 nw_5 (fun j => ⟨RPS_none (ci := 5) rfl (by decide +kernel) j, hz _ _ (by omega)⟩) (Nat.le_of_ble_eq_true rfl) (Nat.le_of_ble_eq_true rfl) dX9_init_16 cl_X9_16 is_X5 in_X5 ?_
  refine pn_dup (pc' := 20) rfl dX9_init_19 rfl ?_
  refine pn_callIN (host := RX9) (d2 := 1) (mc2 := 6) (ms2 := 28) (c := 30) (pc' := 23) (nc' := 36) (ns' := 361) (As := []) (rest := [.ref 30, .ref 0]) 0 rfl rfl rfl dX9_init_20 ci_X5_init (List.mem_of_getElem? (i := 1) rfl) (by decide) rfl rfl (by decide) (Nat.le_of_ble_eq_true rfl) (Nat.le_of_ble_eq_true rfl) (Nat.le_of_ble_eq_true rfl) (CallN.mono (n_X5_init_30 (fun c k h => hz c k (by omega))) ?_)
  rintro v w ⟨rfl, rfl⟩
  refine ⟨rfl, ?_⟩
  refine pn_putL (pc' := 26) rfl dX9_init_23 fl_X9_19 (by decide) rfl rfl rfl (fun q h => by cases h; rfl) (fun _ => rfl) (fun _ => rfl) ?_
  refine pn_aload_n (pc' := 27) 0 rfl dX9_init_26 rfl rfl ?_
  refine pn_new (N := 11) (ci := 6) (pc' := 30) (nc' := 37) (ns' := 372) (n' := 38) rfl rfl rfl rfl rfl cf_6.1 cf_6.2.1 _ cf_6.2.2.1 nw_6 (fun j => ⟨RPS_none (ci := 6) rfl (by decide +kernel) j, hz _ _ (by omega)⟩) (Nat.le_of_ble_eq_true rfl) (Nat.le_of_ble_eq_true rfl) dX9_init_27 cl_X9_23 is_X6 in_X6 ?_
  refine pn_dup (pc' := 31) rfl dX9_init_30 rfl ?_
  refine pn_callIN (host := RX9) (d2 := 1) (mc2 := 5) (ms2 := 53) (c := 37) (pc' := 34) (nc' := 42) (ns' := 425) (As := []) (rest := [.ref 37, .ref 0]) 0 rfl rfl rfl dX9_init_31 ci_X6_init (List.mem_of_getElem? (i := 2) rfl) (by decide) rfl rfl (by decide) (Nat.le_of_ble_eq_true rfl) (Nat.le_of_ble_eq_true rfl) (Nat.le_of_ble_eq_true rfl) (CallN.mono (n_X6_init_37 (fun c k h => hz c k (by omega))) ?_)
  rintro v w ⟨rfl, rfl⟩
  refine ⟨rfl, ?_⟩
  refine pn_putL (pc' := 37) rfl dX9_init_34 fl_X9_26 (by decide) rfl rfl rfl (fun q h => by cases h; rfl) (fun _ => rfl) (fun _ => rfl) ?_
  refine pn_aload_n (pc' := 38) 0 rfl dX9_init_37 rfl rfl ?_
  refine pn_new (N := 8) (ci := 0) (pc' := 41) (nc' := 43) (ns' := 433) (n' := 44) rfl rfl rfl rfl rfl cf_0.1 cf_0.2.1 _ cf_0.2.2.1 nw_0 (fun j => ⟨RPS_none (ci := 0) rfl (by decide +kernel) j, hz _ _ (by omega)⟩) (Nat.le_of_ble_eq_true rfl) (Nat.le_of_ble_eq_true rfl) dX9_init_38 cl_X9_7 is_X0 in_X0 ?_
  refine pn_dup (pc' := 42) rfl dX9_init_41 rfl ?_
  refine pn_callIN (host := RX9) (d2 := 1) (mc2 := 28) (ms2 := 315) (c := 43) (pc' := 45) (nc' := 71) (ns' := 748) (As := []) (rest := [.ref 43, .ref 0]) 0 rfl rfl rfl dX9_init_42 ci_X0_init (List.mem_of_getElem? (i := 0) rfl) (by decide) rfl rfl (by decide) (Nat.le_of_ble_eq_true rfl) (Nat.le_of_ble_eq_true rfl) (Nat.le_of_ble_eq_true rfl) (CallN.mono (n_X0_init_43 (fun c k h => hz c k (by omega))) ?_)
  rintro v w ⟨rfl, rfl⟩
  refine ⟨rfl, ?_⟩
  refine pn_putL (pc' := 48) rfl dX9_init_45 fl_X9_30 (by decide) rfl rfl rfl (fun q h => by cases h; rfl) (fun _ => rfl) (fun _ => rfl) ?_
  refine pn_aload_n (pc' := 49) 0 rfl dX9_init_48 rfl rfl ?_
  refine pn_new (N := 10) (ci := 5) (pc' := 52) (nc' := 72) (ns' := 758) (n' := 73) rfl rfl rfl rfl rfl cf_5.1 cf_5.2.1 _ cf_5.2.2.1 nw_5 (fun j => ⟨RPS_none (ci := 5) rfl (by decide +kernel) j, hz _ _ (by omega)⟩) (Nat.le_of_ble_eq_true rfl) (Nat.le_of_ble_eq_true rfl) dX9_init_49 cl_X9_16 is_X5 in_X5 ?_
  refine pn_dup (pc' := 53) rfl dX9_init_52 rfl ?_
  refine pn_callIN (host := RX9) (d2 := 1) (mc2 := 6) (ms2 := 28) (c := 72) (pc' := 56) (nc' := 78) (ns' := 786) (As := []) (rest := [.ref 72, .ref 0]) 0 rfl rfl rfl dX9_init_53 ci_X5_init (List.mem_of_getElem? (i := 1) rfl) (by decide) rfl rfl (by decide) (Nat.le_of_ble_eq_true rfl) (Nat.le_of_ble_eq_true rfl) (Nat.le_of_ble_eq_true rfl) (CallN.mono (n_X5_init_72 (fun c k h => hz c k (by omega))) ?_)
  rintro v w ⟨rfl, rfl⟩
  refine ⟨rfl, ?_⟩
  refine pn_putL (pc' := 59) rfl dX9_init_56 fl_X9_33 (by decide) rfl rfl rfl (fun q h => by cases h; rfl) (fun _ => rfl) (fun _ => rfl) ?_
  refine pn_aload_n (pc' := 60) 0 rfl dX9_init_59 rfl rfl ?_
  refine pn_new (N := 11) (ci := 6) (pc' := 63) (nc' := 79) (ns' := 797) (n' := 80) rfl rfl rfl rfl rfl cf_6.1 cf_6.2.1 _ cf_6.2.2.1 nw_6 (fun j => ⟨RPS_none (ci := 6) rfl (by decide +kernel) j, hz _ _ (by omega)⟩) (Nat.le_of_ble_eq_true rfl) (Nat.le_of_ble_eq_true rfl) dX9_init_60 cl_X9_23 is_X6 in_X6 ?_
  refine pn_dup (pc' := 64) rfl dX9_init_63 rfl ?_
  refine pn_callIN (host := RX9) (d2 := 1) (mc2 := 5) (ms2 := 53) (c := 79) (pc' := 67) (nc' := 84) (ns' := 850) (As := []) (rest := [.ref 79, .ref 0]) 0 rfl rfl rfl dX9_init_64 ci_X6_init (List.mem_of_getElem? (i := 2) rfl) (by decide) rfl rfl (by decide) (Nat.le_of_ble_eq_true rfl) (Nat.le_of_ble_eq_true rfl) (Nat.le_of_ble_eq_true rfl) (CallN.mono (n_X6_init_79 (fun c k h => hz c k (by omega))) ?_)
  rintro v w ⟨rfl, rfl⟩
  refine ⟨rfl, ?_⟩
  refine pn_putL (pc' := 70) rfl dX9_init_67 fl_X9_36 (by decide) rfl rfl rfl (fun q h => by cases h; rfl) (fun _ => rfl) (fun _ => rfl) ?_
  refine pn_aload_n (pc' := 71) 0 rfl dX9_init_70 rfl rfl ?_
  refine pn_new (N := 4) (ci := 7) (pc' := 74) (nc' := 85) (ns' := 854) (n' := 86) rfl rfl rfl rfl rfl cf_7.1 cf_7.2.1 _ cf_7.2.2.1 nw_7 (fun j => ⟨RPS_none (ci := 7) rfl (by decide +kernel) j, hz _ _ (by omega)⟩) (Nat.le_of_ble_eq_true rfl) (Nat.le_of_ble_eq_true rfl) dX9_init_71 cl_X9_39 is_X7 in_X7 ?_
  refine pn_dup (pc' := 75) rfl dX9_init_74 rfl ?_
  refine pn_callIN (host := RX9) (d2 := 1) (mc2 := 1) (ms2 := 80) (c := 85) (pc' := 78) (nc' := 86) (ns' := 934) (As := []) (rest := [.ref 85, .ref 0]) 0 rfl rfl rfl dX9_init_75 ci_X7_init (List.mem_of_getElem? (i := 3) rfl) (by decide) rfl rfl (by decide) (Nat.le_of_ble_eq_true rfl) (Nat.le_of_ble_eq_true rfl) (Nat.le_of_ble_eq_true rfl) (CallN.mono (n_X7_init_85 (fun c k h => hz c k (by omega))) ?_)
  rintro v w ⟨rfl, rfl⟩
  refine ⟨rfl, ?_⟩
  refine pn_putL (pc' := 81) rfl dX9_init_78 fl_X9_42 (by decide) rfl rfl rfl (fun q h => by cases h; rfl) (fun _ => rfl) (fun _ => rfl) ?_
  refine pn_aload_n (pc' := 82) 0 rfl dX9_init_81 rfl rfl ?_
  refine pn_new (N := 3) (ci := 4) (pc' := 85) (nc' := 87) (ns' := 937) (n' := 88) rfl rfl rfl rfl rfl cf_4.1 cf_4.2.1 _ cf_4.2.2.1 nw_4 (fun j => ⟨RPS_none (ci := 4) rfl (by decide +kernel) j, hz _ _ (by omega)⟩) (Nat.le_of_ble_eq_true rfl) (Nat.le_of_ble_eq_true rfl) dX9_init_82 cl_X9_46 is_X4 in_X4 ?_
  refine pn_dup (pc' := 86) rfl dX9_init_85 rfl ?_
  refine pn_callI (d2 := 1) (mc2 := 7) (ms2 := 108) (c := 87) (pc' := 89) (nc' := 94) (ns' := 1045) (As := []) (rest := [.ref 87, .ref 0]) 0 rfl rfl rfl dX9_init_86 ci_X4_init ml_X9_48 (by decide) rfl rfl (by decide) (Nat.le_of_ble_eq_true rfl) (Nat.le_of_ble_eq_true rfl) (Nat.le_of_ble_eq_true rfl) (CallN.mono (n_X4_init_87 (fun c k h => hz c k (by omega))) ?_)
  rintro v w ⟨rfl, M1, hf1, hf2, rfl⟩
  refine ⟨rfl, ?_⟩
  have hy : ∀ c k, 95 ≤ c → M1 c k = nI 0 := fun c k h => (hf2 c k (by omega)).trans (hz c k (by omega))
  refine pn_putL (pc' := 92) rfl dX9_init_89 fl_X9_49 (by decide) rfl rfl rfl (fun q h => by cases h; rfl) (fun _ => rfl) (fun _ => rfl) ?_
  refine pn_aload_n (pc' := 93) 0 rfl dX9_init_92 rfl rfl ?_
  refine pn_new (N := 6) (ci := 8) (pc' := 96) (nc' := 95) (ns' := 1051) (n' := 96) rfl rfl rfl rfl rfl cf_8.1 cf_8.2.1 _ cf_8.2.2.1 nw_8 (fun j => ⟨RPS_none (ci := 8) rfl (by decide +kernel) j, hy _ _ (by omega)⟩) (Nat.le_of_ble_eq_true rfl) (Nat.le_of_ble_eq_true rfl) dX9_init_93 cl_X9_53 is_X8 in_X8 ?_
  refine pn_dup (pc' := 97) rfl dX9_init_96 rfl ?_
  refine pn_aload_n (pc' := 98) 0 rfl dX9_init_97 rfl rfl ?_
  refine pn_getL (pc' := 101) (r := 1) rfl dX9_init_98 fl_X9_10 (by decide) rfl rfl rfl ?_
  refine pn_callI (d2 := 1) (mc2 := 28) (ms2 := 336) (c := 95) (pc' := 104) (nc' := 123) (ns' := 1387) (As := [.ref 1]) (rest := [.ref 95, .ref 0]) 1 rfl rfl rfl dX9_init_101 ci_X8_init ml_X9_55 (by decide) rfl rfl (by decide) (Nat.le_of_ble_eq_true rfl) (Nat.le_of_ble_eq_true rfl) (Nat.le_of_ble_eq_true rfl) (CallN.mono (n_X8_init_95 (fun c k h => hy c k (by omega))) ?_)
  rintro v w ⟨rfl, rfl⟩
  refine ⟨rfl, ?_⟩
  refine pn_putL (pc' := 107) rfl dX9_init_104 fl_X9_58 (by decide) rfl rfl rfl (fun q h => by cases h; rfl) (fun _ => rfl) (fun _ => rfl) ?_
  refine pn_aload_n (pc' := 108) 0 rfl dX9_init_107 rfl rfl ?_
  refine pn_new (N := 12) (ci := 3) (pc' := 111) (nc' := 124) (ns' := 1399) (n' := 125) rfl rfl rfl rfl rfl cf_3.1 cf_3.2.1 _ cf_3.2.2.1 nw_3 (fun j => ⟨RPS_none (ci := 3) rfl (by decide +kernel) j, hy _ _ (by omega)⟩) (Nat.le_of_ble_eq_true rfl) (Nat.le_of_ble_eq_true rfl) dX9_init_108 cl_X9_62 is_X3 in_X3 ?_
  refine pn_dup (pc' := 112) rfl dX9_init_111 rfl ?_
  refine pn_aload_n (pc' := 113) 0 rfl dX9_init_112 rfl rfl ?_
  refine pn_getL (pc' := 116) (r := 1) rfl dX9_init_113 fl_X9_10 (by decide) rfl rfl rfl ?_
  refine pn_aload_n (pc' := 117) 0 rfl dX9_init_116 rfl rfl ?_
  refine pn_getL (pc' := 120) (r := 30) rfl dX9_init_117 fl_X9_19 (by decide) rfl rfl rfl ?_
  refine pn_aload_n (pc' := 121) 0 rfl dX9_init_120 rfl rfl ?_
  refine pn_getL (pc' := 124) (r := 95) rfl dX9_init_121 fl_X9_58 (by decide) rfl rfl rfl ?_
  refine pn_callI (d2 := 2) (mc2 := 42) (ms2 := 422) (c := 124) (pc' := 127) (nc' := 166) (ns' := 1821) (As := [.ref 1, .ref 30, .ref 95]) (rest := [.ref 124, .ref 0]) 3 rfl rfl rfl dX9_init_124 ci_X3_init ml_X9_64 (by decide) rfl rfl (by decide) (Nat.le_of_ble_eq_true rfl) (Nat.le_of_ble_eq_true rfl) (Nat.le_of_ble_eq_true rfl) (CallN.mono (n_X3_init_124 (fun c k h => hy c k (by omega))) ?_)
  rintro v w ⟨rfl, rfl⟩
  refine ⟨rfl, ?_⟩
  refine pn_putL (pc' := 130) rfl dX9_init_127 fl_X9_67 (by decide) rfl rfl rfl (fun q h => by cases h; rfl) (fun _ => rfl) (fun _ => rfl) ?_
  refine pn_aload_n (pc' := 131) 0 rfl dX9_init_130 rfl rfl ?_
  refine pn_new (N := 3) (ci := 1) (pc' := 134) (nc' := 167) (ns' := 1824) (n' := 168) rfl rfl rfl rfl rfl cf_1.1 cf_1.2.1 _ cf_1.2.2.1 nw_1 (fun j => ⟨RPS_none (ci := 1) rfl (by decide +kernel) j, hy _ _ (by omega)⟩) (Nat.le_of_ble_eq_true rfl) (Nat.le_of_ble_eq_true rfl) dX9_init_131 cl_X9_71 is_X1 in_X1 ?_
  refine pn_dup (pc' := 135) rfl dX9_init_134 rfl ?_
  refine pn_aload_n (pc' := 136) 0 rfl dX9_init_135 rfl rfl ?_
  refine pn_getL (pc' := 139) (r := 1) rfl dX9_init_136 fl_X9_10 (by decide) rfl rfl rfl ?_
  refine pn_aload_n (pc' := 140) 0 rfl dX9_init_139 rfl rfl ?_
  refine pn_getL (pc' := 143) (r := 37) rfl dX9_init_140 fl_X9_26 (by decide) rfl rfl rfl ?_
  refine pn_callI (d2 := 1) (mc2 := 6) (ms2 := 125) (c := 167) (pc' := 146) (nc' := 173) (ns' := 1949) (As := [.ref 1, .ref 37]) (rest := [.ref 167, .ref 0]) 2 rfl rfl rfl dX9_init_143 ci_X1_init ml_X9_73 (by decide) rfl rfl (by decide) (Nat.le_of_ble_eq_true rfl) (Nat.le_of_ble_eq_true rfl) (Nat.le_of_ble_eq_true rfl) (CallN.mono (n_X1_init_167 (fun c k h => hy c k (by omega))) ?_)
  rintro v w ⟨rfl, rfl⟩
  refine ⟨rfl, ?_⟩
  refine pn_putL (pc' := 149) rfl dX9_init_146 fl_X9_76 (by decide) rfl rfl rfl (fun q h => by cases h; rfl) (fun _ => rfl) (fun _ => rfl) ?_
  refine pn_aload_n (pc' := 150) 0 rfl dX9_init_149 rfl rfl ?_
  refine pn_bipush (pc' := 152) (v := nI 24) rfl dX9_init_150 (by decide) ?_
  refine pn_newa (L := 24) (pc' := 154) (nc' := 174) (ns' := 1973) (n' := 175) rfl rfl rfl rfl rfl (fun j => hy _ _ (by omega)) (by omega) (Nat.le_of_ble_eq_true rfl) (Nat.le_of_ble_eq_true rfl) dX9_init_152 aw_c ?_
  refine pn_putL (pc' := 157) rfl dX9_init_154 fl_X9_80 (by decide) rfl rfl rfl (fun q h => by cases h; rfl) (fun _ => rfl) (fun _ => rfl) ?_
  refine pn_aload_n (pc' := 158) 0 rfl dX9_init_157 rfl rfl ?_
  refine pn_bipush (pc' := 160) (v := nI 6) rfl dX9_init_158 (by decide) ?_
  refine pn_iconst (pc' := 161) (v := nI 4) rfl dX9_init_160 (by decide) ?_
  refine pn_mna (N := 6) (K := 4) (pc' := 165) (nc' := 181) (ns' := 2003) (n' := 182) rfl rfl rfl rfl rfl (by decide +kernel) (RPS_rows rfl) (fun i _ j => hy _ _ (by omega)) (by omega) (by omega) (Nat.le_of_ble_eq_true rfl) (Nat.le_of_ble_eq_true rfl) dX9_init_161 cl_X9_84 aw_c ?_
  refine pn_putL (pc' := 168) rfl dX9_init_165 fl_X9_86 (by decide) rfl rfl rfl (fun q h => by cases h; rfl) (fun _ => rfl) (fun _ => rfl) ?_
  exact pn_vret dX9_init_168 rfl ⟨rfl, M1, hf1, hf2, rfl⟩
