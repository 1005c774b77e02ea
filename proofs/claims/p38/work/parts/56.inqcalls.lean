/-! ===== calls of the inquiry ===== -/
theorem IC.inq {M M' : Mem} {h : HS} {s : SS} {t : TS} {n : Nat} {tp : Nat → Nat} {x : WS} {kx : KS} (I : IC M h s t n tp x kx) (O : IO h s t n tp x kx) (f : frI M' M) : IC M' h s t n tp x kx := I.tmp O (fun c k w => f c k (by omega)) (I.2.2.2.2.2.2.2.1.congr (fun c k w => f c k (by omega))) (I.2.2.2.2.2.2.2.2.congr O.2.1.1 (fun c k w => f c k (by omega)))
theorem IM.inq {M M' : Mem} {h : HS} {s : SS} {t : TS} {n : Nat} {tp : Nat → Nat} {x : WS} {kx : KS} (J : IM M h s t n tp x kx) (f : ∀ c k, c ≠ 203 → c ≠ 204 → M' c k = M c k) : IM M' h s t n tp x kx := J.tmp (fun c k w => f c k (by unfold msc at w; omega) (by unfold msc at w; omega)) (J.2.2.2.2.2.2.congr (fun k => f _ k (by omega) (by omega)) (f _ _ (by omega) (by omega)))
theorem wI_99 : wI 99 = -1 := rfl
theorem wM_99 : wM 99 = -4 := rfl
theorem sh_bit {b : Bool} {k : Nat} (hk : k < 32) : bI b <<< (nI k &&& 31) = mk (fun i => b && decide (i = k)) := by
  cases b
  · rw [bI_f]
    apply b_ext
    intro i hi
    rw [b_shl k hk _ hi, mk_b _ hi, b_nI0]
    simp
  · rw [bI_t, mk_one hk]
    exact mk_ext (fun i _ => by simp)
