/-! ===== the law from its entry ===== -/
def psF : List (Nat × Nat × Nat) := (182, 43, 209) :: (182, 42, 208) :: (182, 41, 207) :: (182, 40, 206) :: (182, 38, 205) :: (182, 37, 204) :: (182, 36, 203) :: (182, 35, 202) :: (182, 31, 201) :: (182, 29, 200) :: (182, 27, 199) :: (182, 26, 198) :: (182, 25, 197) :: (182, 24, 196) :: (182, 22, 195) :: (182, 21, 194) :: (182, 20, 193) :: (182, 19, 192) :: (182, 18, 191) :: (182, 16, 190) :: (182, 15, 189) :: (182, 12, 188) :: (182, 11, 187) :: (182, 10, 186) :: (182, 6, 185) :: (182, 4, 184) :: (182, 2, 183) :: (0, 13, 175) :: (0, 12, 174) :: (0, 11, 167) :: (167, 1, 37) :: (167, 0, 1) :: (167, 2, 168) :: (0, 10, 124) :: (124, 2, 95) :: (124, 1, 30) :: (124, 0, 1) :: (124, 10, 166) :: (124, 9, 165) :: (124, 8, 164) :: (124, 7, 160) :: (124, 6, 135) :: (124, 5, 130) :: (130, 4, 134) :: (130, 3, 133) :: (130, 2, 132) :: (130, 1, 131) :: (124, 4, 125) :: (125, 4, 129) :: (125, 3, 128) :: (125, 2, 127) :: (125, 1, 126) :: (0, 9, 95) :: (95, 0, 1) :: (95, 5, 123) :: (95, 4, 122) :: (95, 3, 97) :: (95, 2, 96) :: (0, 8, 87) :: (87, 2, 90) :: (87, 1, 89) :: (87, 0, 88) :: (0, 7, 85) :: (85, 1, 86) :: (0, 5, 79) :: (79, 10, 84) :: (79, 9, 83) :: (79, 8, 82) :: (79, 7, 81) :: (79, 6, 80) :: (0, 4, 72) :: (72, 9, 78) :: (72, 8, 77) :: (72, 7, 76) :: (72, 6, 75) :: (72, 5, 74) :: (72, 4, 73) :: (0, 3, 43) :: (43, 7, 61) :: (43, 6, 50) :: (43, 5, 46) :: (43, 4, 45) :: (43, 3, 44) :: (0, 2, 37) :: (37, 10, 42) :: (37, 9, 41) :: (37, 8, 40) :: (37, 7, 39) :: (37, 6, 38) :: (0, 1, 30) :: (30, 9, 36) :: (30, 8, 35) :: (30, 7, 34) :: (30, 6, 33) :: (30, 5, 32) :: (30, 4, 31) :: (0, 0, 1) :: (1, 7, 19) :: (1, 6, 8) :: (1, 5, 4) :: (1, 4, 3) :: (1, 3, 2) :: []
def obL : List Nat := [0, 1, 30, 37, 43, 72, 79, 85, 87, 95, 124, 125, 130, 167, 182]
theorem psF_lt : ∀ q ∈ psF, q.1 < 210 ∧ q.2.1 < 50 := by decide +kernel
theorem obL_in : ∀ c, c < 210 → (kd0 c).isLeft = true → c ∈ obL := by decide +kernel
theorem obL_eq : ∀ c ∈ obL, ∀ k, k < 50 → (psF.find? (fun q => q.1 == c && q.2.1 == k)).map (fun q => q.2.2) = (ob0 c).getD k none := by decide +kernel
theorem obL_len : ∀ c ∈ obL, (ob0 c).length ≤ 50 := by decide +kernel
theorem ob0_big {c : Nat} (h : 210 ≤ c) : ob0 c = [] := by
  unfold ob0
  split <;> first | rfl | (exfalso; omega)
theorem psF_none {c k : Nat} (h : 210 ≤ c ∨ 50 ≤ k) : psF.find? (fun q => q.1 == c && q.2.1 == k) = none := by
  rw [List.find?_eq_none]
  intro q hq
  have := psF_lt q hq
  simp only [Bool.and_eq_true, beq_iff_eq, not_and]
  intro e e2
  omega
theorem RPS_fin : RPS psF = RM0 := by
  funext c k
  unfold RPS RM0
  cases hk : kd0 c with
  | inr x => cases x <;> rfl
  | inl ci =>
    show (psF.find? _).map _ = (ob0 c).getD k none
    rcases Nat.lt_or_ge c 210 with hc | hc
    · have hin := obL_in c hc (by rw [hk]; rfl)
      rcases Nat.lt_or_ge k 50 with h5 | h5
      · exact obL_eq c hin k h5
      · rw [psF_none (Or.inr h5), List.getD_eq_getElem?_getD, List.getElem?_eq_none (Nat.le_trans (obL_len c hin) h5)]
        rfl
    · rw [psF_none (Or.inl hc), ob0_big hc]
      rfl
theorem ao_spec {args : Array Value} {s : State} (h : (Cond.arrayOver (.array .int)).before args s = true) :
    ∃ comp c k, s.vm.classes[c]? = some k ∧ k.kind = .array comp (.array .int) ∧ s.vm.findClass ("[" ++ (FieldType.array .int).toString) = some c := by
  simp only [Cond.before, Cond.holds, Cond.value, beq_iff_eq] at h
  cases hc : s.vm.findClass (FieldType.array .int).toString with
  | none => simp [hc] at h
  | some comp =>
    simp only [hc, Option.bind_some, Option.bind_eq_some_iff, Option.map_eq_some_iff] at h
    obtain ⟨c, hi, k, hk, hb⟩ := h
    obtain ⟨hlt, hp, -⟩ := Array.findIdx?_eq_some_iff_getElem.mp hi
    have hkk : s.vm.classes[c] = k := (Array.getElem?_eq_some_iff.mp hk).2
    rw [hkk] at hp
    cases hkind : k.kind with
    | array component ty =>
      rw [hkind] at hb hp
      simp at hb hp
      exact ⟨comp, c, k, hk, by rw [hkind, hp, hb.1], hb.2⟩
    | _ => rw [hkind] at hb; simp at hb
theorem kk_start {s : State} {args : Array Value} (hts : ∀ w ∈ lw_tbl, w.before args s = true) : ∃ G, KK G s := by
  have ht := tb_of hts
  obtain ⟨c0, i0, h0⟩ := u_known ht cf_0.2.1 (ht _ is_X0)
  obtain ⟨c1, i1, h1⟩ := u_known ht cf_1.2.1 (ht _ is_X1)
  obtain ⟨c2, i2, h2⟩ := u_known ht cf_2.2.1 (ht _ is_X2)
  obtain ⟨c3, i3, h3⟩ := u_known ht cf_3.2.1 (ht _ is_X3)
  obtain ⟨c4, i4, h4⟩ := u_known ht cf_4.2.1 (ht _ is_X4)
  obtain ⟨c5, i5, h5⟩ := u_known ht cf_5.2.1 (ht _ is_X5)
  obtain ⟨c6, i6, h6⟩ := u_known ht cf_6.2.1 (ht _ is_X6)
  obtain ⟨c7, i7, h7⟩ := u_known ht cf_7.2.1 (ht _ is_X7)
  obtain ⟨c8, i8, h8⟩ := u_known ht cf_8.2.1 (ht _ is_X8)
  obtain ⟨c9, i9, h9⟩ := u_known ht cf_9.2.1 (ht _ is_X9)
  obtain ⟨c10, i10, h10⟩ := u_known ht cf_10.2.1 (ht _ is_X10)
  have key : ∀ k : Nat, ∃ (cC : ClassId) (iS : Nat → Nat), ∀ q : vw_C, vwCl[k]? = some q → u_Kn s q.1 q.2.1 q.2.2 cC iS := by
    intro k
    match k with
    | 0 => exact ⟨c0, i0, fun q hq => by cases hq; exact h0⟩
    | 1 => exact ⟨c1, i1, fun q hq => by cases hq; exact h1⟩
    | 2 => exact ⟨c2, i2, fun q hq => by cases hq; exact h2⟩
    | 3 => exact ⟨c3, i3, fun q hq => by cases hq; exact h3⟩
    | 4 => exact ⟨c4, i4, fun q hq => by cases hq; exact h4⟩
    | 5 => exact ⟨c5, i5, fun q hq => by cases hq; exact h5⟩
    | 6 => exact ⟨c6, i6, fun q hq => by cases hq; exact h6⟩
    | 7 => exact ⟨c7, i7, fun q hq => by cases hq; exact h7⟩
    | 8 => exact ⟨c8, i8, fun q hq => by cases hq; exact h8⟩
    | 9 => exact ⟨c9, i9, fun q hq => by cases hq; exact h9⟩
    | 10 => exact ⟨c10, i10, fun q hq => by cases hq; exact h10⟩
    | k + 11 => exact ⟨c0, i0, fun q hq => by simp [vwCl] at hq⟩
  obtain ⟨a1, k1, p1, n1, q1, r1⟩ := Cond.arrayClass_spec (ht _ aw_c)
  obtain ⟨p2, a2, k2, q2, r2, n2⟩ := ao_spec (hts (Cond.arrayOver (.array .int)) (List.mem_of_getElem? (i := 93) (by decide +kernel)))
  refine ⟨((fun k => (key k).choose, fun k => (key k).choose_spec.choose), a1, a2), fun k q hq => (key k).choose_spec.choose_spec q hq, fun k q hq => ?_⟩
  match k, hq with
  | 0, hq => cases hq; exact ⟨fun N z => ⟨(fun k h => by cases h), k1, q1, p1, r1⟩, n1⟩
  | 1, hq => cases hq; exact ⟨fun N z => ⟨(fun k h => by cases h), k2, q2, p2, r2⟩, n2⟩
  | k + 2, hq => simp at hq
theorem LW_eq {X : LX} {nc ns pc n : Nat} {lv : List (Nat × Value)} {st : List Value} {kd : Nat → Kd} {R R' : Nat → Nat → Option Nat} {M : Mem} (h : R = R') (k : LW X nc ns pc lv st (n, kd, R', M)) : LW X nc ns pc lv st (n, kd, R, M) := by
  subst h; exact k
theorem sw_out35 {x : Int32} (h : ¬ ∃ k, k < 35 ∧ x = nI k) : x.toInt < 0 ∨ 34 < x.toInt := by
  rcases Int.lt_or_le x.toInt 0 with q | q
  · exact Or.inl q
  rcases Int.lt_or_le 34 x.toInt with q2 | q2
  · exact Or.inr q2
  refine absurd ⟨x.toInt.toNat, by omega, ?_⟩ h
  apply Int32.toInt_inj.mp
  rw [nI_toInt (by omega)]
  omega
theorem end_at {L n : Nat} (hL : L ≤ 3072) (hn : n ≤ L) (h : ¬ nI L - nI 6 < nI n) : n + 6 ≤ L := by
  rcases Nat.lt_or_ge L (n + 6) with q | q
  · refine absurd (Int32.lt_iff_toInt_lt.mpr ?_) h
    have e1 : (nI L).toInt = (L : Int) := nI_toInt (by omega)
    have e2 : (nI 6).toInt = ((6 : Nat) : Int) := nI_toInt (by omega)
    have e3 : (nI n).toInt = (n : Int) := nI_toInt (by omega)
    rw [Jvm.Kit.i32_sub (by rw [e1, e2]; omega) (by rw [e1, e2]; omega), e1, e2, e3]
    omega
  · exact q
theorem law_loop {X : LX} {L : Nat} {xs : Nat → Int32} (C : LC X L xs) (hL : L ≤ 3072) : ∀ (m n : Nat) (M : Mem), L < n + m → n ≤ L → Cpl M → LW X 210 7897 18 [(0, .ref (bX X)), (1, .ref (BX X + 0)), (2, .ref (BX X + 182)), (3, .int (nI n))] [] (w0 M) := by
  intro m
  induction m with
  | zero => intro n M h1 h2; exact absurd h1 (by omega)
  | succ m ih =>
    intro n M h1 h2 hC
    refine lr_iload_n (pc' := 19) 3 C rfl dL_18 rfl rfl ?_
    refine lr_aload_n (pc' := 20) 0 C rfl dL_19 rfl rfl ?_
    refine lr_slen (pc' := 21) C rfl dL_20 ?_
    refine lr_bipush (pc' := 23) (v := nI 6) C rfl dL_21 (by decide) ?_
    refine lr_isub (pc' := 24) C rfl dL_23 ?_
    refine lr_icmp_gt (pc' := 27) (tgt := 1341) C rfl dL_24 (by decide) (fun _ => ?_) (fun q => ?_)
    · refine lr_iconst (pc' := 1342) (v := 1) C rfl dL_1341 (by decide) ?_
      exact lr_ret C dL_1342 (Nat.le_of_ble_eq_true rfl) (Nat.le_of_ble_eq_true rfl)
    · have h6 := end_at hL h2 q
      have hi : ∀ j, j < 6 → vp_in (nI n + nI j) L := fun j hj => by rw [n_add]; exact (vin (by omega)).mpr (by omega)
      have K : ∀ M2, Cpl M2 → LW X 210 7897 1335 [(0, .ref (bX X)), (1, .ref (BX X + 0)), (2, .ref (BX X + 182)), (3, .int (nI n))] [] (w0 M2) := fun M2 hC2 => by
        refine lr_iinc (pc' := 1338) (v := nI (n + 6)) (lv' := [(0, .ref (bX X)), (1, .ref (BX X + 0)), (2, .ref (BX X + 182)), (3, .int (nI (n + 6)))]) 3 [1, 2, 3, 0] C rfl dL_1335 rfl ?_ (by decide) rfl ?_
        · show nI n + nI 6 = nI (n + 6)
          exact n_add n 6
        · refine lr_goto (tgt := 18) C dL_1338 (by decide) ?_
          exact ih (n + 6) M2 (by omega) (by omega) hC2
      refine lr_aload_n (pc' := 28) 0 C rfl dL_27 rfl rfl ?_
      refine lr_iload_n (pc' := 29) 3 C rfl dL_28 rfl rfl ?_
      refine lr_sld (pc' := 30) C rfl dL_29 ((vin (by omega)).mpr (by omega)) ?_
      refine lr_bipush (pc' := 32) (v := nI 63) C rfl dL_30 (by decide) ?_
      refine lr_iand (pc' := 33) C rfl dL_32 ?_
      by_cases h : ∃ k, k < 35 ∧ xs (ix (nI n)) &&& nI 63 = nI k
      · obtain ⟨k, hk, e⟩ := h
        rw [e]
        match k, hk with
        | 0, _ => exact lr_tableIn (tgt := 188) C dL_33 (by decide) (by decide) rfl (by decide) (a_0 C hi hC K)
        | 1, _ => exact lr_tableIn (tgt := 201) C dL_33 (by decide) (by decide) rfl (by decide) (a_1 C hi hC K)
        | 2, _ => exact lr_tableIn (tgt := 244) C dL_33 (by decide) (by decide) rfl (by decide) (a_2 C hi hC K)
        | 3, _ => exact lr_tableIn (tgt := 277) C dL_33 (by decide) (by decide) rfl (by decide) (a_3 C hi hC K)
        | 4, _ => exact lr_tableIn (tgt := 340) C dL_33 (by decide) (by decide) rfl (by decide) (a_4 C hi hC K)
        | 5, _ => exact lr_tableIn (tgt := 353) C dL_33 (by decide) (by decide) rfl (by decide) (a_5 C hi hC K)
        | 6, _ => exact lr_tableIn (tgt := 386) C dL_33 (by decide) (by decide) rfl (by decide) (a_6 C hi hC K)
        | 7, _ => exact lr_tableIn (tgt := 465) C dL_33 (by decide) (by decide) rfl (by decide) (a_7 C hi hC K)
        | 8, _ => exact lr_tableIn (tgt := 488) C dL_33 (by decide) (by decide) rfl (by decide) (a_8 C hi hC K)
        | 9, _ => exact lr_tableIn (tgt := 537) C dL_33 (by decide) (by decide) rfl (by decide) (a_9 C hi hC K)
        | 10, _ => exact lr_tableIn (tgt := 560) C dL_33 (by decide) (by decide) rfl (by decide) (a_10 C hi hC K)
        | 11, _ => exact lr_tableIn (tgt := 623) C dL_33 (by decide) (by decide) rfl (by decide) (a_11 C hi hC K)
        | 12, _ => exact lr_tableIn (tgt := 656) C dL_33 (by decide) (by decide) rfl (by decide) (a_12 C hi hC K)
        | 13, _ => exact lr_tableIn (tgt := 679) C dL_33 (by decide) (by decide) rfl (by decide) (a_13 C hi hC K)
        | 14, _ => exact lr_tableIn (tgt := 702) C dL_33 (by decide) (by decide) rfl (by decide) (a_14 C hi hC K)
        | 15, _ => exact lr_tableIn (tgt := 745) C dL_33 (by decide) (by decide) rfl (by decide) (a_15 C hi hC K)
        | 16, _ => exact lr_tableIn (tgt := 758) C dL_33 (by decide) (by decide) rfl (by decide) (a_16 C hi hC K)
        | 17, _ => exact lr_tableIn (tgt := 781) C dL_33 (by decide) (by decide) rfl (by decide) (a_17 C hi hC K)
        | 18, _ => exact lr_tableIn (tgt := 814) C dL_33 (by decide) (by decide) rfl (by decide) (a_18 C hi hC K)
        | 19, _ => exact lr_tableIn (tgt := 837) C dL_33 (by decide) (by decide) rfl (by decide) (a_19 C hi hC K)
        | 20, _ => exact lr_tableIn (tgt := 890) C dL_33 (by decide) (by decide) rfl (by decide) (a_20 C hi hC K)
        | 21, _ => exact lr_tableIn (tgt := 903) C dL_33 (by decide) (by decide) rfl (by decide) (a_21 C hi hC K)
        | 22, _ => exact lr_tableIn (tgt := 926) C dL_33 (by decide) (by decide) rfl (by decide) (a_22 C hi hC K)
        | 23, _ => exact lr_tableIn (tgt := 939) C dL_33 (by decide) (by decide) rfl (by decide) (a_23 C hi hC K)
        | 24, _ => exact lr_tableIn (tgt := 972) C dL_33 (by decide) (by decide) rfl (by decide) (a_24 C hi hC K)
        | 25, _ => exact lr_tableIn (tgt := 1015) C dL_33 (by decide) (by decide) rfl (by decide) (a_25 C hi hC K)
        | 26, _ => exact lr_tableIn (tgt := 1028) C dL_33 (by decide) (by decide) rfl (by decide) (a_26 C hi hC K)
        | 27, _ => exact lr_tableIn (tgt := 1051) C dL_33 (by decide) (by decide) rfl (by decide) (a_27 C hi hC K)
        | 28, _ => exact lr_tableIn (tgt := 1074) C dL_33 (by decide) (by decide) rfl (by decide) (a_28 C hi hC K)
        | 29, _ => exact lr_tableIn (tgt := 1087) C dL_33 (by decide) (by decide) rfl (by decide) (a_29 C hi hC K)
        | 30, _ => exact lr_tableIn (tgt := 1100) C dL_33 (by decide) (by decide) rfl (by decide) (a_30 C hi hC K)
        | 31, _ => exact lr_tableIn (tgt := 1153) C dL_33 (by decide) (by decide) rfl (by decide) (a_31 C hi hC K)
        | 32, _ => exact lr_tableIn (tgt := 1196) C dL_33 (by decide) (by decide) rfl (by decide) (a_32 C hi hC K)
        | 33, _ => exact lr_tableIn (tgt := 1219) C dL_33 (by decide) (by decide) rfl (by decide) (a_33 C hi hC K)
        | 34, _ => exact lr_tableIn (tgt := 1272) C dL_33 (by decide) (by decide) rfl (by decide) (a_34 C hi hC K)
        | k + 35, hk => exact absurd hk (by omega)
      · exact lr_tableOut (tgt := 1335) C dL_33 (sw_out35 h) (by decide) (K M hC)
theorem law_run {X : LX} {L : Nat} {xs : Nat → Int32} (C : LC X L xs) (hL : L ≤ 3072) : LW X 0 0 0 [(0, .ref (bX X))] [] (0, kd0, RPS [], fun _ _ => nI 0) := by
  refine lr_new (N := 14) (ci := 9) (n := 0) (pc' := 3) (nc' := 1) (ns' := 14) (n' := 1) C rfl rfl rfl rfl rfl cf_9.1 cf_9.2.1 _ cf_9.2.2.1 nw_9 (fun j => ⟨RPS_none (ci := 9) rfl rfl j, rfl⟩) (Nat.le_of_ble_eq_true rfl) (Nat.le_of_ble_eq_true rfl) dL_0 cl_L_7 is_X9 in_X9 ?_
  refine lr_dup (pc' := 4) C rfl dL_3 rfl ?_
  refine lr_callI (d2 := 3) (mc2 := 181) (ms2 := 2003) (pc' := 7) (nc' := 182) (ns' := 2017) (rest := [.ref (BX X + 0)]) (c0 := 0) C rfl rfl rfl dL_4 ci_X9_init ml_L_9 (by decide +kernel) (by decide) (Nat.le_of_ble_eq_true rfl) (Nat.le_of_ble_eq_true rfl) (Nat.le_of_ble_eq_true rfl) (CallN.mono (n_X9_init_0 (fun _ _ _ => rfl)) ?_)
  rintro v w ⟨rfl, M1, f1, f2, rfl⟩
  refine ⟨rfl, ?_⟩
  refine lr_astore_n (pc' := 8) (lv' := [(0, .ref (bX X)), (1, .ref (BX X + 0))]) [1, 0] C rfl dL_7 rfl (by decide) rfl ?_
  refine lr_new (N := 44) (ci := 10) (n := 182) (pc' := 11) (nc' := 183) (ns' := 2061) (n' := 183) C rfl rfl rfl rfl rfl cf_10.1 cf_10.2.1 _ cf_10.2.2.1 nw_10 (fun j => ⟨RPS_none (ci := 10) rfl (by decide +kernel) j, f2 _ _ (by omega)⟩) (Nat.le_of_ble_eq_true rfl) (Nat.le_of_ble_eq_true rfl) dL_8 cl_L_10 is_X10 in_X10 ?_
  refine lr_dup (pc' := 12) C rfl dL_11 rfl ?_
  refine lr_callI (d2 := 1) (mc2 := 27) (ms2 := 5836) (pc' := 15) (nc' := 210) (ns' := 7897) (rest := [.ref (BX X + 182)]) (c0 := 182) C rfl rfl rfl dL_12 ci_X10_init ml_L_12 (by decide +kernel) (by decide) (Nat.le_of_ble_eq_true rfl) (Nat.le_of_ble_eq_true rfl) (Nat.le_of_ble_eq_true rfl) (CallN.mono (n_X10_init_182 (fun c k h => f2 c k (by omega))) ?_)
  rintro v w ⟨rfl, M2, ⟨g1, g2, g3, g4⟩, rfl⟩
  refine ⟨rfl, ?_⟩
  refine lr_astore_n (pc' := 16) (lv' := [(0, .ref (bX X)), (1, .ref (BX X + 0)), (2, .ref (BX X + 182))]) [1, 2, 0] C rfl dL_15 rfl (by decide) rfl ?_
  refine lr_iconst (pc' := 17) (v := nI 0) C rfl dL_16 (by decide) ?_
  refine lr_istore_n (pc' := 18) (lv' := [(0, .ref (bX X)), (1, .ref (BX X + 0)), (2, .ref (BX X + 182)), (3, .int (nI 0))]) [1, 2, 3, 0] C rfl dL_17 rfl (by decide) rfl ?_
  refine LW_eq RPS_fin ?_
  exact law_loop C hL (L + 1) 0 M2 (by omega) (Nat.zero_le _) (Cpl_init (fun c k h1 h2 h3 h4 => (g4 c k h2 h3 h4).trans (f2 c k h1)) (fun k hk => (g4 88 k (by omega) (by omega) (by omega)).trans (f1 k hk)) g2 g3 g1)
theorem nw_start {args : Array Value} {s : State} (hts : ∀ w ∈ lw_tbl, w.before args s = true) : NW s := by
  refine ⟨fun w hw => ?_, hts (Cond.arrayOver (.array .int)) (List.mem_of_getElem? (i := 93) (by decide +kernel))⟩
  simp only [NWl, List.mem_cons, List.not_mem_nil, or_false] at hw
  rcases hw with rfl | rfl | rfl | rfl | rfl
  · exact va_Nw.of rfl (hts _ (List.mem_of_getElem? (i := 88) (by decide +kernel)))
  · exact va_Nw.of rfl (hts _ (List.mem_of_getElem? (i := 135) (by decide +kernel)))
  · exact va_Nw.of rfl (hts _ (List.mem_of_getElem? (i := 186) (by decide +kernel)))
  · exact va_Nw.of rfl (hts _ (List.mem_of_getElem? (i := 243) (by decide +kernel)))
  · exact va_Nw.of rfl (hts _ (List.mem_of_getElem? (i := 318) (by decide +kernel)))
theorem whole_start {p : Program} {e : Env} {s : State} {m : MethodId} {below : List Frame} {meth : Method} {c : Code} (l : Launch) (hflags : l.flags = flags0) {b L : Nat} {xs : Nat → Int32} (hL : L ≤ 3072) (C0 : lw_At p s m meth c b L xs) : W p l e room_1 s m #[Value.ref b] below meth c s.heap [] 0 0 (lw_Z below #[Value.ref b] s) (entryFrame m ([Value.ref b] : List Value).toArray 4) := by
  obtain ⟨G, hK⟩ := kk_start C0.2.2.2.2.2.1
  have LX0 : LC (p, l, e, s, m, below, meth, c, b, G) L xs := ⟨C0, hK, nw_start C0.2.2.2.2.2.1⟩
  have hl := lv_entry ([.ref b]) (n := 4) (Nat.le_of_ble_eq_true rfl)
  rw [lg_entry_eq]
  generalize (lg_sl ([.ref b]) ++ List.replicate (4 - (lg_sl ([.ref b])).length) Slot.unset).toArray = ls at hl ⊢
  exact law_run LX0 hL s.heap [] ls ⟨fun k q h => by simp [wl] at h, rfl⟩ va_S.rf hl
