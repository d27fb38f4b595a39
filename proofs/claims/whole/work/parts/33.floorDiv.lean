abbrev yMfd : MethodName := ⟨"java/lang/Math", "floorDiv", "(II)I"⟩
abbrev cMfd : ByteArray := prog_9_method_47_code
theorem dMfd_0 : decode cMfd 0 = .ok (.iload_n 0, 1) := by decide +kernel
theorem dMfd_1 : decode cMfd 1 = .ok (.iload_n 1, 1) := by decide +kernel
theorem dMfd_2 : decode cMfd 2 = .ok (.idiv, 1) := by decide +kernel
theorem dMfd_3 : decode cMfd 3 = .ok (.istore_n 2, 1) := by decide +kernel
theorem dMfd_4 : decode cMfd 4 = .ok (.iload_n 0, 1) := by decide +kernel
theorem dMfd_5 : decode cMfd 5 = .ok (.iload_n 1, 1) := by decide +kernel
theorem dMfd_6 : decode cMfd 6 = .ok (.ixor, 1) := by decide +kernel
theorem dMfd_7 : decode cMfd 7 = .ok (.ifCond .ge 14, 3) := by decide +kernel
theorem dMfd_10 : decode cMfd 10 = .ok (.iload_n 2, 1) := by decide +kernel
theorem dMfd_11 : decode cMfd 11 = .ok (.iload_n 1, 1) := by decide +kernel
theorem dMfd_12 : decode cMfd 12 = .ok (.imul, 1) := by decide +kernel
theorem dMfd_13 : decode cMfd 13 = .ok (.iload_n 0, 1) := by decide +kernel
theorem dMfd_14 : decode cMfd 14 = .ok (.if_icmp .eq 7, 3) := by decide +kernel
theorem dMfd_17 : decode cMfd 17 = .ok (.iload_n 2, 1) := by decide +kernel
theorem dMfd_18 : decode cMfd 18 = .ok (.iconst 1, 1) := by decide +kernel
theorem dMfd_19 : decode cMfd 19 = .ok (.isub, 1) := by decide +kernel
theorem dMfd_20 : decode cMfd 20 = .ok (.ireturn, 1) := by decide +kernel
theorem dMfd_21 : decode cMfd 21 = .ok (.iload_n 2, 1) := by decide +kernel
theorem dMfd_22 : decode cMfd 22 = .ok (.ireturn, 1) := by decide +kernel
theorem xor_ge {x y : Int} (hx : r32 x) (hy : 0 ≤ y ∧ y ≤ 2147483647) : 0 ≤ (iI x ^^^ iI y) ↔ 0 ≤ x := by
  have h1 : (iI x).toInt = x := iI_toInt hx
  have h2 : (iI y).toInt = y := iI_toInt ⟨by omega, hy.2⟩
  have k1 : (iI x).toBitVec.msb = decide ((iI x).toInt < 0) := BitVec.msb_eq_toInt
  have k2 : (iI y).toBitVec.msb = decide ((iI y).toInt < 0) := BitVec.msb_eq_toInt
  have k3 : (iI x ^^^ iI y).toBitVec.msb = decide ((iI x ^^^ iI y).toInt < 0) := BitVec.msb_eq_toInt
  rw [Int32.toBitVec_xor, BitVec.msb_xor, k1, k2, h1, h2, decide_eq_false (show ¬ y < 0 by omega), Bool.xor_false] at k3
  have k4 : (x < 0) ↔ (iI x ^^^ iI y).toInt < 0 := decide_eq_decide.mp k3
  have e0 : (0 : Int32).toInt = 0 := rfl
  rw [Int32.le_iff_toInt_le, e0]
  omega
theorem fd_lem {x y : Int} (hy : 1 ≤ y) : x / y = if 0 ≤ x then x.tdiv y else if x.tdiv y * y = x then x.tdiv y else x.tdiv y - 1 := by
  have e := Int.tdiv_eq_ediv (a := x) (b := y)
  have es : y.sign = 1 := Int.sign_eq_one_of_pos (by omega)
  by_cases h : 0 ≤ x
  · rw [if_pos h, e, if_pos (Or.inl h)]; omega
  · rw [if_neg h]
    by_cases d : y ∣ x
    · have e2 : x.tdiv y = x / y := by rw [e, if_pos (Or.inr d)]; omega
      rw [e2, if_pos (Int.ediv_mul_cancel d)]
    · have e2 : x.tdiv y = x / y + 1 := by rw [e, if_neg (fun q => q.elim h d), es]
      have ne : ¬ x.tdiv y * y = x := fun q => d ⟨x.tdiv y, by rw [Int.mul_comm]; exact q.symm⟩
      rw [if_neg ne, e2]; omega
theorem fd_in {x y : Int} (hx : -1000000 ≤ x ∧ x ≤ 1000000) (hy : 1 ≤ y) : (-1000000 ≤ x.tdiv y ∧ x.tdiv y ≤ 1000000) ∧ (-1000000 ≤ x.tdiv y * y ∧ x.tdiv y * y ≤ 1000000) := by
  have h1 := Int.natAbs_tdiv_le_natAbs x y
  have h2 := Int.tdiv_mul_add_tmod x y
  by_cases h : 0 ≤ x
  · have h3 := Int.tmod_nonneg y h
    have h4 := Int.tdiv_nonneg h (show 0 ≤ y by omega)
    have := Int.mul_nonneg h4 (show 0 ≤ y by omega)
    omega
  · have h3 : x.tmod y ≤ 0 := by
      have e : x.tmod y = -((-x).tmod y) := by rw [Int.neg_tmod]; omega
      have := Int.tmod_nonneg (a := -x) y (by omega)
      omega
    have e4 : x.tdiv y = -((-x).tdiv y) := by rw [Int.neg_tdiv]; omega
    have h4 := Int.tdiv_nonneg (a := -x) (b := y) (by omega) (show 0 ≤ y by omega)
    have h5 := Int.mul_nonneg h4 (show 0 ≤ y by omega)
    have e5 : x.tdiv y * y = -((-x).tdiv y * y) := by rw [e4, Int.neg_mul]
    omega
set_option maxHeartbeats 4000000 in
set_option maxRecDepth 100000 in
/-- Math.floorDiv by a number above 0 -/
theorem kMfd (l : Launch) (x y : Int) (hX : -1000000 ≤ x ∧ x ≤ 1000000) (hY : 1 ≤ y ∧ y ≤ 1000000) : Met l yMfd (.code yMfd cMfd 3 (some .int) :: wsA) ({ frames := 0, cells := 0, slots := 0, locals := 0 }) (fun a9 _ => a9 = ([.int (iI x), .int (iI y)] : List Value).toArray) (vp_Si (fun r => r = iI (x / y))) 0 0 (fun _ => False) := by
  refine va_MetF (cc := cMfd) (maxL := 3) (ret := (some .int)) (by decide +kernel) rfl ?_
  intro p e s m args below meth c s₁ B hml hv
  subst hv
  have hx := B.exec
  have hb := B.bytes
  have hr := B.returns
  have hl := lv_entry ([.int (iI x), .int (iI y)]) (n := 3) (Nat.le_of_ble_eq_true rfl)
  have ht9 := fd_in hX hY.1
  have hf9 := fd_lem (x := x) hY.1
  rw [lg_entry_eq]
  generalize (lg_sl ([.int (iI x), .int (iI y)]) ++ List.replicate (3 - (lg_sl ([.int (iI x), .int (iI y)])).length) Slot.unset).toArray = ls at hl ⊢
  have hl : lv_has ls 3 [(0, .int (iI x)), (1, .int (iI y))] := hl
  refine lv_iload_n hx hb dMfd_0 rfl (lv_at hl 0 rfl) ?_
  refine lv_iload_n hx hb dMfd_1 rfl (lv_at hl 1 rfl) ?_
  refine ix_idiv hx hb dMfd_2 (by omega) (by omega) (by omega) (by omega) ?_
  refine lv_istore_n (lv' := [(2, .int (iI (x.tdiv y))), (0, .int (iI x)), (1, .int (iI y))]) hx hb dMfd_3 rfl hl (by decide) rfl (fun ls hl => ?_)
  refine lv_iload_n hx hb dMfd_4 rfl (lv_at hl 1 rfl) ?_
  refine lv_iload_n hx hb dMfd_5 rfl (lv_at hl 2 rfl) ?_
  refine lv_ixor hx hb dMfd_6 ?_
  have hxg := xor_ge (x := x) (y := y) (by omega) (by omega)
  refine lv_if_ge (tgt := 21) hx hb dMfd_7 (by decide) (fun c1 => ?_) (fun c1 => ?_)
  · have c2 : 0 ≤ x := hxg.mp c1
    refine lv_iload_n hx hb dMfd_21 rfl (lv_at hl 0 rfl) ?_
    exact W.iret (v := iI (x.tdiv y)) hx hb hr (fun t ht _ => ⟨_, rfl, congrArg iI (by rw [hf9, if_pos c2]), ht⟩) (fun q h => nomatch h) dMfd_22
  · have c2 : ¬ 0 ≤ x := fun q => c1 (hxg.mpr q)
    refine lv_iload_n hx hb dMfd_10 rfl (lv_at hl 0 rfl) ?_
    refine lv_iload_n hx hb dMfd_11 rfl (lv_at hl 2 rfl) ?_
    refine ix_imul hx hb dMfd_12 ?_
    refine lv_iload_n hx hb dMfd_13 rfl (lv_at hl 1 rfl) ?_
    refine ix_icmp_eq (tgt := 21) hx hb dMfd_14 (by decide) (by omega) (by omega) (fun c3 => ?_) (fun c3 => ?_)
    · refine lv_iload_n hx hb dMfd_21 rfl (lv_at hl 0 rfl) ?_
      exact W.iret (v := iI (x.tdiv y)) hx hb hr (fun t ht _ => ⟨_, rfl, congrArg iI (by rw [hf9, if_neg c2, if_pos c3]), ht⟩) (fun q h => nomatch h) dMfd_22
    · refine lv_iload_n hx hb dMfd_17 rfl (lv_at hl 0 rfl) ?_
      refine ix_iconst (n := 1) hx hb dMfd_18 ?_
      refine ix_isub hx hb dMfd_19 ?_
      exact W.iret (v := iI (x.tdiv y - 1)) hx hb hr (fun t ht _ => ⟨_, rfl, congrArg iI (by rw [hf9, if_neg c2, if_neg c3]), ht⟩) (fun q h => nomatch h) dMfd_20
