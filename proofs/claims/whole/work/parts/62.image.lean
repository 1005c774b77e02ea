/-! ===== image and restore ===== -/
theorem b_image {M : Mem} (C : Cpl M) : C_X9_image M (fun r M1 => C_X10_image M1 (fun r' M2 => r = r' ∧ Cpl M2)) := by
  obtain ⟨h, s, t, n, tp, x, kx, I, J, O⟩ := C
  have hG := O.1.2.1
  have hS := O.2.1.1
  have hE := O.2.1.2.1
  have hF := O.2.2.1.1
  have hY := O.2.2.1.2.1
  refine T_X9_image (s_keepHouse hG I.1 (fun M1 f1 k1 => s_keepStaff O.2.1 (I.2.2.1.congr (fun c k _ _ => f1 c k (by omega))) (fun M2 f2 k2 => s_keepTalk O.2.2.1 (I.2.2.2.1.congr (fun c k _ _ => by rw [f2 c k (by omega), f1 c k (by omega)])) (fun M3 f3 k3 => ?_))))
  have I1 : IC (wr M3 0 6 (nI 1)) h s t n tp x (true, h, s, t) := by
    refine I.kept O ⟨(wr_eq _ _ _ _).trans bI_t.symm, fun _ => ⟨k1.congr hG (fun c k _ _ => by rw [wr_nc _ _ _ _ (by omega), f3 c k (by omega), f2 c k (by omega)]), k2.congr (fun c k _ _ => by rw [wr_nc _ _ _ _ (by omega), f3 c k (by omega)]), k3.congr (fun c k _ _ => by rw [wr_nc _ _ _ _ (by omega)])⟩⟩ (fun c k q => ?_)
    rw [wr, if_neg (by omega), f3 c k (by omega), f2 c k (by omega), f1 c k (by omega)]
  have J1 : IM (wr M3 0 6 (nI 1)) h s t n tp x kx := J.far (fun c k hc => by rw [wr_nc _ _ _ _ (by omega), f3 c k (by omega), f2 c k (by omega), f1 c k (by omega)])
  have O' : IO h s t n tp x (true, h, s, t) := ⟨O.1, O.2.1, O.2.2.1, O.2.2.2.1, O.2.2.2.2.1, fun _ => ⟨O.1, O.2.1, O.2.2.1⟩⟩
  generalize wr M3 0 6 (nI 1) = N at I1 J1
  refine T_X10_image (s_saves (a := 0) ia_183 (by omega) (by omega) (fun N1 g1 u1 => s_saves (a := 100) ia_184 (by omega) (by omega) (fun N2 g2 u2 => s_saves (a := 172) ia_189 (by omega) (by omega) (fun N3 g3 u3 => s_saves (a := 175) ia_190 (by omega) (by omega) (fun N4 g4 u4 => s_saves (a := 178) ia_191 (by omega) (by omega) (fun N5 g5 u5 => s_saves (a := 203) ia_200 (by omega) (by omega) (fun N6 g6 u6 => s_saves (a := 208) ia_201 (by omega) (by omega) (fun N7 g7 u7 => ?_))))))))
  have fr : ∀ c k, c ≠ 205 → N7 c k = N c k := fun c k w => by rw [g7 _ _ (by omega), g6 _ _ (by omega), g5 _ _ (by omega), g4 _ _ (by omega), g3 _ _ (by omega), g2 _ _ (by omega), g1 _ _ (by omega)]
  have a1 : ∀ k, k < 100 → N7 205 k = N 183 k := fun k w => by
    rw [g7 _ _ (by omega), g6 _ _ (by omega), g5 _ _ (by omega), g4 _ _ (by omega), g3 _ _ (by omega), g2 _ _ (by omega), ← u1 k w, Nat.zero_add]
  have a2 : ∀ k, k < 72 → N7 205 (100 + k) = N 184 k := fun k w => by
    rw [g7 _ _ (by omega), g6 _ _ (by omega), g5 _ _ (by omega), g4 _ _ (by omega), g3 _ _ (by omega), u2 k w, g1 _ _ (by omega)]
  have a3 : ∀ k, k < 3 → N7 205 (172 + k) = N 189 k := fun k w => by
    rw [g7 _ _ (by omega), g6 _ _ (by omega), g5 _ _ (by omega), g4 _ _ (by omega), u3 k w, g2 _ _ (by omega), g1 _ _ (by omega)]
  have a4 : ∀ k, k < 3 → N7 205 (175 + k) = N 190 k := fun k w => by
    rw [g7 _ _ (by omega), g6 _ _ (by omega), g5 _ _ (by omega), u4 k w, g3 _ _ (by omega), g2 _ _ (by omega), g1 _ _ (by omega)]
  have a5 : ∀ k, k < 25 → N7 205 (178 + k) = N 191 k := fun k w => by
    rw [g7 _ _ (by omega), g6 _ _ (by omega), u5 k w, g4 _ _ (by omega), g3 _ _ (by omega), g2 _ _ (by omega), g1 _ _ (by omega)]
  have a6 : ∀ k, k < 5 → N7 205 (203 + k) = N 200 k := fun k w => by
    rw [g7 _ _ (by omega), u6 k w, g5 _ _ (by omega), g4 _ _ (by omega), g3 _ _ (by omega), g2 _ _ (by omega), g1 _ _ (by omega)]
  have a7 : ∀ k, k < 48 → N7 205 (208 + k) = N 201 k := fun k w => by
    rw [u7 k w, g6 _ _ (by omega), g5 _ _ (by omega), g4 _ _ (by omega), g3 _ _ (by omega), g2 _ _ (by omega), g1 _ _ (by omega)]
  show vp_in (nI 256) 320 ∧ _
  simp (disch := omega) only [n_add, vin, ix_n]
  refine ⟨by decide, by decide, by decide, by decide, by decide, by decide, by decide, by decide, by decide, by decide, by decide, ?_⟩
  rw [fr 182 0 (by omega), fr 182 1 (by omega), fr 182 3 (by omega), fr 182 5 (by omega), fr 182 14 (by omega), fr 182 17 (by omega), fr 182 28 (by omega), fr 182 30 (by omega), fr 182 32 (by omega), fr 182 33 (by omega), fr 182 34 (by omega)]
  have lo : ∀ k (A : Mem), k < 256 → ∀ v0 v1 v2 v3 v4 v5 v6 v7 v8 v9 v10 v11, wr (wr (wr (wr (wr (wr (wr (wr (wr (wr (wr (wr A 205 256 v0) 205 257 v1) 205 258 v2) 205 259 v3) 205 260 v4) 205 261 v5) 205 262 v6) 205 263 v7) 205 264 v8) 205 265 v9) 205 266 v10) 182 39 v11 205 k = A 205 k := fun k A hk v0 v1 v2 v3 v4 v5 v6 v7 v8 v9 v10 v11 => (by simp only [wr]; repeat rw [if_neg (by omega)])
  have J0 := J1
  obtain ⟨⟨b1, b2, b3, b4, b5⟩, ⟨c1, c2, c3, c4, c5⟩, ⟨d1, d2, d3, d4, d5, d6⟩, -⟩ := J1
  refine ⟨trivial, h, s, t, n, tp, x, (true, h, s, t), I1.far O' (fun c k w => by rw [← fr c k (by omega)]; exact (by simp only [wr]; repeat rw [if_neg (by omega)])), ?_, O'⟩
  refine J0.kept ⟨(wr_eq _ _ _ _).trans bI_t.symm, fun _ => ⟨⟨?_, ?_, ?_, fun a ha b hb => ?_, fun g hg k hk => ?_⟩, ⟨?_, ?_, ?_, fun i hi => ⟨?_, ?_⟩, fun e he k hk => ?_⟩, ⟨?_, ?_, ?_, fun w => ⟨?_, ?_⟩, fun f hf => ?_, fun e he k hk => ?_⟩⟩⟩ (fun c k w => by rw [← fr c k (by omega)]; exact (by simp only [wr]; repeat rw [if_neg (by omega)]))
  · simp [wr]; exact b1
  · simp [wr]; exact b2
  · simp [wr]; exact b3
  · rw [lo _ _ (by omega), a1 _ (by omega)]; exact b4 a ha b hb
  · have w' : g < h.2.2.1 := hg
    rw [lo _ _ (by omega), a2 _ (by omega)]; exact b5 g hg k hk
  · simp [wr]; exact c1
  · simp [wr]; exact c2
  · simp [wr]; exact c3
  · have w' : i < s.1 := hi
    rw [lo _ _ (by omega), a3 _ (by omega)]; exact (c4 i hi).1
  · have w' : i < s.1 := hi
    rw [lo _ _ (by omega), a4 _ (by omega)]; exact (c4 i hi).2
  · have w' : e < s.2.1 := he
    rw [lo _ _ (by omega), a5 _ (by omega)]; exact c5 e he k hk
  · simp [wr]; exact d1
  · simp [wr]; exact d2
  · simp [wr]; exact d3
  · simp [wr]; exact (d4 w).1
  · simp [wr]; exact (d4 w).2
  · have w' : f < t.1 := hf
    rw [lo _ _ (by omega), a6 _ (by omega)]; exact d5 f hf
  · have w' : e < t.2.2.1 := he
    rw [lo _ _ (by omega), a7 _ (by omega)]; exact d6 e he k hk
theorem b_restore {M : Mem} (C : Cpl M) : C_X9_restore M (fun r M1 => C_X10_restore M1 (fun r' M2 => r = r' ∧ Cpl M2)) := by
  obtain ⟨h, s, t, n, tp, x, kx, I, J, O⟩ := C
  have same : Cpl M := ⟨h, s, t, n, tp, x, kx, I, J, O⟩
  obtain ⟨i1, i2, i3, i4, i5, i6, i7, i8, i9⟩ := I
  obtain ⟨j1, j2, j3, j4, j5, j6, j7⟩ := J
  have e0 : M 0 6 = bI kx.1 := i7.1
  refine T_X9_restore ?_
  rw [e0]
  refine br' (fun q => ?_) (fun q => ?_)
  · refine T_X10_restore ?_
    rw [j6.1, q]
    exact ⟨fun w => absurd rfl w, fun _ => ⟨rfl, same⟩⟩
  · obtain ⟨o1, o2, o3⟩ := O.2.2.2.2.2 q
    obtain ⟨k1, k2, k3⟩ := i7.2 q
    refine s_backHouse o1.2.1 k1 (fun M1 f1 h1 => s_backStaff o2 (k2.congr (fun c k _ _ => f1 c k (by omega))) (fun M2 f2 h2 => s_backTalk o3 (k3.congr (fun c k _ _ => by rw [f2 c k (by omega), f1 c k (by omega)])) (fun M3 f3 h3 => ?_)))
    have H3 : HC 1 M3 kx.2.1 := h1.congr o1.2.1 (fun c k _ _ => by rw [f3 c k (by omega), f2 c k (by omega)])
    refine s_doorsChanged o1 H3 (fun N f4 wy z1 z2 => ?_)
    have O' : IO kx.2.1 kx.2.2.1 kx.2.2.2 n tp x kx := ⟨o1, o2, o3, O.2.2.2⟩
    have all : ∀ c k, 43 ≤ c → ¬ (c = 95 ∧ k = 1) → ¬ (c = 124 ∧ k = 3) → N c k = M c k := fun c k w w1 w2 => by rw [f4 c k (by omega), f3 c k (by omega), f2 c k (by omega), f1 c k (by omega)]
    have I1 : IC N kx.2.1 kx.2.2.1 kx.2.2.2 n tp x kx := by
      refine ⟨H3.congr o1.2.1 (fun c k _ _ => f4 c k (by omega)), wy, h2.congr (fun c k _ _ => ?_), h3.congr (fun c k _ _ => f4 c k (by omega)), i5.congr (fun c k _ => all c k (by omega) (by omega) (by omega)), i6.congr (fun c k _ => all c k (by omega) (by omega) (by omega)), i7.congr O.2.2.2.2.2 (fun c k w => ?_), Or.inl z1, Or.inl z2⟩
      · rw [f4 c k (by omega), f3 c k (by omega)]
      · rw [f4 c k (by omega), f3 c k (by omega), f2 c k (by omega), f1 c k (by omega)]
    have F : ∀ c k, 182 ≤ c → N c k = M c k := fun c k w => all c k (by omega) (by omega) (by omega)
    have Ja : PM N n tp := j4.congr (fun c k w => F c k (by omega))
    have Jb : WM N x := j5.congr (fun c k w => F c k (by omega))
    have Jc : KM N kx := j6.congr (fun c k w => F c k (by omega))
    obtain ⟨⟨b1, b2, b3, b4, b5⟩, ⟨c1, c2, c3, c4, c5⟩, ⟨d1, d2, d3, d4, d5, d6⟩⟩ := Jc.2 q
    have hG := o1.2.1
    have hS := o2.1
    have hE := o2.2.1
    have hF := o3.1
    have hY := o3.2.1
    refine T_X10_restore ?_
    rw [Jc.1, q]
    refine ⟨fun _ => ?_, fun w => absurd w (by decide)⟩
    refine s_gives (a := 0) ia_183 (by omega) (by omega) (fun N1 g1 u1 => s_gives (a := 100) ia_184 (by omega) (by omega) (fun N2 g2 u2 => s_gives (a := 172) ia_189 (by omega) (by omega) (fun N3 g3 u3 => s_gives (a := 175) ia_190 (by omega) (by omega) (fun N4 g4 u4 => s_gives (a := 178) ia_191 (by omega) (by omega) (fun N5 g5 u5 => s_gives (a := 203) ia_200 (by omega) (by omega) (fun N6 g6 u6 => s_gives (a := 208) ia_201 (by omega) (by omega) (fun N7 g7 u7 => ?_)))))))
    have fr : ∀ c k, c ≠ 183 → c ≠ 184 → c ≠ 189 → c ≠ 190 → c ≠ 191 → c ≠ 200 → c ≠ 201 → N7 c k = N c k := fun c k w1 w2 w3 w4 w5 w6 w7 => by rw [g7 _ _ w7, g6 _ _ w6, g5 _ _ w5, g4 _ _ w4, g3 _ _ w3, g2 _ _ w2, g1 _ _ w1]
    have fk : ∀ k, N7 205 k = N 205 k := fun k => fr 205 k (by omega) (by omega) (by omega) (by omega) (by omega) (by omega) (by omega)
    have a1 : ∀ k, k < 100 → N7 183 k = N 205 k := fun k w => by
      rw [g7 _ _ (by omega), g6 _ _ (by omega), g5 _ _ (by omega), g4 _ _ (by omega), g3 _ _ (by omega), g2 _ _ (by omega), u1 k w, Nat.zero_add]
    have a2 : ∀ k, k < 72 → N7 184 k = N 205 (100 + k) := fun k w => by
      rw [g7 _ _ (by omega), g6 _ _ (by omega), g5 _ _ (by omega), g4 _ _ (by omega), g3 _ _ (by omega), u2 k w, g1 _ _ (by omega)]
    have a3 : ∀ k, k < 3 → N7 189 k = N 205 (172 + k) := fun k w => by
      rw [g7 _ _ (by omega), g6 _ _ (by omega), g5 _ _ (by omega), g4 _ _ (by omega), u3 k w, g2 _ _ (by omega), g1 _ _ (by omega)]
    have a4 : ∀ k, k < 3 → N7 190 k = N 205 (175 + k) := fun k w => by
      rw [g7 _ _ (by omega), g6 _ _ (by omega), g5 _ _ (by omega), u4 k w, g3 _ _ (by omega), g2 _ _ (by omega), g1 _ _ (by omega)]
    have a5 : ∀ k, k < 25 → N7 191 k = N 205 (178 + k) := fun k w => by
      rw [g7 _ _ (by omega), g6 _ _ (by omega), u5 k w, g4 _ _ (by omega), g3 _ _ (by omega), g2 _ _ (by omega), g1 _ _ (by omega)]
    have a6 : ∀ k, k < 5 → N7 200 k = N 205 (203 + k) := fun k w => by
      rw [g7 _ _ (by omega), u6 k w, g5 _ _ (by omega), g4 _ _ (by omega), g3 _ _ (by omega), g2 _ _ (by omega), g1 _ _ (by omega)]
    have a7 : ∀ k, k < 48 → N7 201 k = N 205 (208 + k) := fun k w => by
      rw [u7 k w, g6 _ _ (by omega), g5 _ _ (by omega), g4 _ _ (by omega), g3 _ _ (by omega), g2 _ _ (by omega), g1 _ _ (by omega)]
    show vp_in (nI 256) 320 ∧ _
    simp (disch := omega) only [n_add, vin, ix_n]
    refine ⟨by decide, by decide, by decide, by decide, by decide, by decide, by decide, by decide, by decide, by decide, by decide, trivial, kx.2.1, kx.2.2.1, kx.2.2.2, n, tp, x, kx, I1.far O' (fun c k w => ?_), ?_, O'⟩
    · rw [← fr c k (by omega) (by omega) (by omega) (by omega) (by omega) (by omega) (by omega)]; exact (by simp only [wr]; repeat rw [if_neg (by omega)])
    · simp only [fk]
      refine ⟨⟨?_, ?_, ?_, fun a ha b hb => ?_, fun g hg k hk => ?_⟩, ⟨?_, ?_, ?_, fun i hi => ⟨?_, ?_⟩, fun e he k hk => ?_⟩, ⟨?_, ?_, ?_, fun w => ⟨?_, ?_⟩, fun f hf => ?_, fun e he k hk => ?_⟩, Ja.congr (fun c k w => ?_), Jb.congr (fun c k w => ?_), Jc.congr (fun c k w => ?_), Or.inl (wr_eq _ _ _ _)⟩
      · simp [wr]; exact b1
      · simp [wr]; exact b2
      · simp [wr]; exact b3
      · exact Eq.trans (b := N7 183 (10 * a + b)) (by simp only [wr]; repeat rw [if_neg (by omega)]) ((a1 _ (by omega)).trans (b4 a ha b hb))
      · exact Eq.trans (b := N7 184 (24 * g + k)) (by simp only [wr]; repeat rw [if_neg (by omega)]) ((a2 _ (by omega)).trans (b5 g hg k hk))
      · simp [wr]; exact c1
      · simp [wr]; exact c2
      · simp [wr]; exact c3
      · exact Eq.trans (b := N7 189 i) (by simp only [wr]; repeat rw [if_neg (by omega)]) ((a3 _ (by omega)).trans (c4 i hi).1)
      · exact Eq.trans (b := N7 190 i) (by simp only [wr]; repeat rw [if_neg (by omega)]) ((a4 _ (by omega)).trans (c4 i hi).2)
      · exact Eq.trans (b := N7 191 (5 * e + k)) (by simp only [wr]; repeat rw [if_neg (by omega)]) ((a5 _ (by omega)).trans (c5 e he k hk))
      · simp [wr]; exact d1
      · simp [wr]; exact d2
      · simp [wr]; exact d3
      · simp [wr]; exact (d4 w).1
      · simp [wr]; exact (d4 w).2
      · exact Eq.trans (b := N7 200 f) (by simp only [wr]; repeat rw [if_neg (by omega)]) ((a6 _ (by omega)).trans (d5 f hf))
      · exact Eq.trans (b := N7 201 (4 * e + k)) (by simp only [wr]; repeat rw [if_neg (by omega)]) ((a7 _ (by omega)).trans (d6 e he k hk))
      · rw [← fr c k (by omega) (by omega) (by omega) (by omega) (by omega) (by omega) (by omega)]; exact (by simp only [wr]; repeat rw [if_neg (by omega)])
      · rw [← fr c k (by omega) (by omega) (by omega) (by omega) (by omega) (by omega) (by omega)]; exact (by simp only [wr]; repeat rw [if_neg (by omega)])
      · rw [← fr c k (by omega) (by omega) (by omega) (by omega) (by omega) (by omega) (by omega)]; exact (by simp only [wr]; repeat rw [if_neg (by omega)])
