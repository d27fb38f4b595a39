set_option maxHeartbeats 4000000 in
set_option maxRecDepth 100000 in
theorem kX0_isLinear (l : Launch) (dC : Nat → ClassId) (dI : Nat → Nat → Nat) (q : Nat) (F : Int → Int) (hF : ∀ j, -1002000 ≤ F j ∧ F j ≤ 1002000) : Met l yX0_isLinear (.code yX0_isLinear cX0_isLinear 1 (some .boolean) :: wsA) ({ frames := 0, cells := 0, slots := 0, locals := 0 }) (va_Pc [.ref q] (fun U => va_P (dC, dI) vwCl [(q, .inr (0, [.int (iI (F 0)), .int (iI (F 1)), .int (iI (F 2)), .int (iI (F 3)), .int (iI (F 4)), .int (iI (F 5))]))] U.heap ∧ va_K (dC, dI) vwCl [] U)) (vp_Si (fun r => r = iI (f_lin F))) 0 0 (fun _ => False) := by
  refine Met.ofW (cc := cX0_isLinear) (maxL := 1) (ret := (some .boolean)) (by decide) rfl ?_
  intro p e s m args below meth c s₁ B hml hv
  obtain ⟨rfl, hP, hK⟩ := hv
  have hx := B.exec
  have hb := B.bytes
  have hr := B.returns
  have hts := atoms_spec (ws := .code yX0_isLinear cX0_isLinear 1 (some .boolean) :: wsA) B.pre
  have hw : ∀ w ∈ wsA, w.before _ s = true := fun w h => hts w (List.mem_cons_of_mem _ h)
  have hown : s.vm.findClass RX0 = some m.cls := findClass_of_methodNamed B.named
  have hlocks := B.notSynchronized
  have hl := lv_entry ([.ref q]) (n := 1) (Nat.le_of_ble_eq_true rfl)
  rw [lg_entry_eq]
  generalize (lg_sl ([.ref q]) ++ List.replicate (1 - (lg_sl ([.ref q])).length) Slot.unset).toArray = ls at hl ⊢
  have hl : lv_has ls 1 [(0, .ref q)] := hl
  refine lv_aload_n hx hb dX0_isLinear_0 rfl (lv_at hl 0 rfl) ?_
  refine va_get (D := (dC, dI)) (ci := 0) (v := .int (iI (F 1))) (C := RX0) (T := TX0) (N := 6) hx hb hw inX0 hown hK hP 0 rfl rfl 1 (by decide) (hw _ mA_29) (fun _ h9 => h9) rfl dX0_isLinear_1 ?_
  refine ix_if_ne (tgt := 11) hx hb dX0_isLinear_4 (by decide) ⟨by have := (hF 1).1; omega, by have := (hF 1).2; omega⟩ (fun c1 => ?_) (fun c1 => ?_)
  · refine ix_iconst (n := 0) hx hb dX0_isLinear_11 ?_
    exact W.zret (v := iI 0) hx hb hr (by decide) (fun t ht _ => ⟨_, rfl, congrArg iI (by unfold f_lin; grind), ht⟩) (fun q h => nomatch h) dX0_isLinear_12
  · refine ix_iconst (n := 1) hx hb dX0_isLinear_7 ?_
    refine lv_goto (tgt := 12) hx hb dX0_isLinear_8 (by decide) ?_
    exact W.zret (v := iI 1) hx hb hr (by decide) (fun t ht _ => ⟨_, rfl, congrArg iI (by unfold f_lin; grind), ht⟩) (fun q h => nomatch h) dX0_isLinear_12
set_option maxHeartbeats 4000000 in
set_option maxRecDepth 100000 in
theorem kX0_isReal (l : Launch) (dC : Nat → ClassId) (dI : Nat → Nat → Nat) (q : Nat) (F : Int → Int) (hF : ∀ j, -1002000 ≤ F j ∧ F j ≤ 1002000) : Met l yX0_isReal (.code yX0_isReal cX0_isReal 1 (some .boolean) :: wsA) ({ frames := 0, cells := 0, slots := 0, locals := 0 }) (va_Pc [.ref q] (fun U => va_P (dC, dI) vwCl [(q, .inr (0, [.int (iI (F 0)), .int (iI (F 1)), .int (iI (F 2)), .int (iI (F 3)), .int (iI (F 4)), .int (iI (F 5))]))] U.heap ∧ va_K (dC, dI) vwCl [] U)) (vp_Si (fun r => r = iI (f_real F))) 0 0 (fun _ => False) := by
  refine Met.ofW (cc := cX0_isReal) (maxL := 1) (ret := (some .boolean)) (by decide) rfl ?_
  intro p e s m args below meth c s₁ B hml hv
  obtain ⟨rfl, hP, hK⟩ := hv
  have hx := B.exec
  have hb := B.bytes
  have hr := B.returns
  have hts := atoms_spec (ws := .code yX0_isReal cX0_isReal 1 (some .boolean) :: wsA) B.pre
  have hw : ∀ w ∈ wsA, w.before _ s = true := fun w h => hts w (List.mem_cons_of_mem _ h)
  have hown : s.vm.findClass RX0 = some m.cls := findClass_of_methodNamed B.named
  have hlocks := B.notSynchronized
  have hl := lv_entry ([.ref q]) (n := 1) (Nat.le_of_ble_eq_true rfl)
  rw [lg_entry_eq]
  generalize (lg_sl ([.ref q]) ++ List.replicate (1 - (lg_sl ([.ref q])).length) Slot.unset).toArray = ls at hl ⊢
  have hl : lv_has ls 1 [(0, .ref q)] := hl
  refine lv_aload_n hx hb dX0_isReal_0 rfl (lv_at hl 0 rfl) ?_
  refine va_get (D := (dC, dI)) (ci := 0) (v := .int (iI (F 5))) (C := RX0) (T := TX0) (N := 6) hx hb hw inX0 hown hK hP 0 rfl rfl 5 (by decide) (hw _ mA_37) (fun _ h9 => h9) rfl dX0_isReal_1 ?_
  refine ix_if_lt (tgt := 11) hx hb dX0_isReal_4 (by decide) ⟨by have := (hF 5).1; omega, by have := (hF 5).2; omega⟩ (fun c1 => ?_) (fun c1 => ?_)
  · refine ix_iconst (n := 0) hx hb dX0_isReal_11 ?_
    exact W.zret (v := iI 0) hx hb hr (by decide) (fun t ht _ => ⟨_, rfl, congrArg iI (by unfold f_real; grind), ht⟩) (fun q h => nomatch h) dX0_isReal_12
  · refine ix_iconst (n := 1) hx hb dX0_isReal_7 ?_
    refine lv_goto (tgt := 12) hx hb dX0_isReal_8 (by decide) ?_
    exact W.zret (v := iI 1) hx hb hr (by decide) (fun t ht _ => ⟨_, rfl, congrArg iI (by unfold f_real; grind), ht⟩) (fun q h => nomatch h) dX0_isReal_12
set_option maxHeartbeats 4000000 in
set_option maxRecDepth 100000 in
theorem kX0_middle (l : Launch) (dC : Nat → ClassId) (dI : Nat → Nat → Nat) (q : Nat) (F : Int → Int) (hF : ∀ j, -1002000 ≤ F j ∧ F j ≤ 1002000) : Met l yX0_middle (.code yX0_middle cX0_middle 1 (some .int) :: wsA) ({ frames := 0, cells := 0, slots := 0, locals := 0 }) (va_Pc [.ref q] (fun U => va_P (dC, dI) vwCl [(q, .inr (0, [.int (iI (F 0)), .int (iI (F 1)), .int (iI (F 2)), .int (iI (F 3)), .int (iI (F 4)), .int (iI (F 5))]))] U.heap ∧ va_K (dC, dI) vwCl [] U)) (vp_Si (fun r => r = iI (f_mid F))) 0 0 (fun _ => False) := by
  refine Met.ofW (cc := cX0_middle) (maxL := 1) (ret := (some .int)) (by decide) rfl ?_
  intro p e s m args below meth c s₁ B hml hv
  obtain ⟨rfl, hP, hK⟩ := hv
  have hx := B.exec
  have hb := B.bytes
  have hr := B.returns
  have hts := atoms_spec (ws := .code yX0_middle cX0_middle 1 (some .int) :: wsA) B.pre
  have hw : ∀ w ∈ wsA, w.before _ s = true := fun w h => hts w (List.mem_cons_of_mem _ h)
  have hown : s.vm.findClass RX0 = some m.cls := findClass_of_methodNamed B.named
  have hlocks := B.notSynchronized
  have hl := lv_entry ([.ref q]) (n := 1) (Nat.le_of_ble_eq_true rfl)
  rw [lg_entry_eq]
  generalize (lg_sl ([.ref q]) ++ List.replicate (1 - (lg_sl ([.ref q])).length) Slot.unset).toArray = ls at hl ⊢
  have hl : lv_has ls 1 [(0, .ref q)] := hl
  refine lv_aload_n hx hb dX0_middle_0 rfl (lv_at hl 0 rfl) ?_
  refine va_get (D := (dC, dI)) (ci := 0) (v := .int (iI (F 1))) (C := RX0) (T := TX0) (N := 6) hx hb hw inX0 hown hK hP 0 rfl rfl 1 (by decide) (hw _ mA_29) (fun _ h9 => h9) rfl dX0_middle_1 ?_
  refine ix_if_ne (tgt := 15) hx hb dX0_middle_4 (by decide) ⟨by have := (hF 1).1; omega, by have := (hF 1).2; omega⟩ (fun c1 => ?_) (fun c1 => ?_)
  · refine lv_aload_n hx hb dX0_middle_15 rfl (lv_at hl 0 rfl) ?_
    refine va_get (D := (dC, dI)) (ci := 0) (v := .int (iI (F 2))) (C := RX0) (T := TX0) (N := 6) hx hb hw inX0 hown hK hP 0 rfl rfl 2 (by decide) (hw _ mA_31) (fun _ h9 => h9) rfl dX0_middle_16 ?_
    refine ix_ineg hx hb dX0_middle_19 ?_
    exact W.iret (v := iI (-(F 2))) hx hb hr (fun t ht _ => ⟨_, rfl, congrArg iI (by unfold f_mid; grind), ht⟩) (fun q h => nomatch h) dX0_middle_20
  · refine lv_aload_n hx hb dX0_middle_7 rfl (lv_at hl 0 rfl) ?_
    refine va_get (D := (dC, dI)) (ci := 0) (v := .int (iI (F 3))) (C := RX0) (T := TX0) (N := 6) hx hb hw inX0 hown hK hP 0 rfl rfl 3 (by decide) (hw _ mA_33) (fun _ h9 => h9) rfl dX0_middle_8 ?_
    refine ix_ineg hx hb dX0_middle_11 ?_
    refine lv_goto (tgt := 20) hx hb dX0_middle_12 (by decide) ?_
    exact W.iret (v := iI (-(F 3))) hx hb hr (fun t ht _ => ⟨_, rfl, congrArg iI (by unfold f_mid; grind), ht⟩) (fun q h => nomatch h) dX0_middle_20
set_option maxHeartbeats 4000000 in
set_option maxRecDepth 100000 in
theorem kX0_below (l : Launch) (dC : Nat → ClassId) (dI : Nat → Nat → Nat) (q : Nat) (F : Int → Int) (hF : ∀ j, -1002000 ≤ F j ∧ F j ≤ 1002000) : Met l yX0_below (.code yX0_below cX0_below 1 (some .int) :: wsA) ({ frames := 0, cells := 0, slots := 0, locals := 0 }) (va_Pc [.ref q] (fun U => va_P (dC, dI) vwCl [(q, .inr (0, [.int (iI (F 0)), .int (iI (F 1)), .int (iI (F 2)), .int (iI (F 3)), .int (iI (F 4)), .int (iI (F 5))]))] U.heap ∧ va_K (dC, dI) vwCl [] U)) (vp_Si (fun r => r = iI (f_below F))) 0 0 (fun _ => False) := by
  refine Met.ofW (cc := cX0_below) (maxL := 1) (ret := (some .int)) (by decide) rfl ?_
  intro p e s m args below meth c s₁ B hml hv
  obtain ⟨rfl, hP, hK⟩ := hv
  have hx := B.exec
  have hb := B.bytes
  have hr := B.returns
  have hts := atoms_spec (ws := .code yX0_below cX0_below 1 (some .int) :: wsA) B.pre
  have hw : ∀ w ∈ wsA, w.before _ s = true := fun w h => hts w (List.mem_cons_of_mem _ h)
  have hown : s.vm.findClass RX0 = some m.cls := findClass_of_methodNamed B.named
  have hlocks := B.notSynchronized
  have hl := lv_entry ([.ref q]) (n := 1) (Nat.le_of_ble_eq_true rfl)
  rw [lg_entry_eq]
  generalize (lg_sl ([.ref q]) ++ List.replicate (1 - (lg_sl ([.ref q])).length) Slot.unset).toArray = ls at hl ⊢
  have hl : lv_has ls 1 [(0, .ref q)] := hl
  refine lv_aload_n hx hb dX0_below_0 rfl (lv_at hl 0 rfl) ?_
  refine va_get (D := (dC, dI)) (ci := 0) (v := .int (iI (F 1))) (C := RX0) (T := TX0) (N := 6) hx hb hw inX0 hown hK hP 0 rfl rfl 1 (by decide) (hw _ mA_29) (fun _ h9 => h9) rfl dX0_below_1 ?_
  refine ix_if_ne (tgt := 14) hx hb dX0_below_4 (by decide) ⟨by have := (hF 1).1; omega, by have := (hF 1).2; omega⟩ (fun c1 => ?_) (fun c1 => ?_)
  · refine ix_iconst (n := 2) hx hb dX0_below_14 ?_
    refine lv_aload_n hx hb dX0_below_15 rfl (lv_at hl 0 rfl) ?_
    refine va_get (D := (dC, dI)) (ci := 0) (v := .int (iI (F 1))) (C := RX0) (T := TX0) (N := 6) hx hb hw inX0 hown hK hP 0 rfl rfl 1 (by decide) (hw _ mA_29) (fun _ h9 => h9) rfl dX0_below_16 ?_
    refine ix_imul hx hb dX0_below_19 ?_
    exact W.iret (v := iI (2 * (F 1))) hx hb hr (fun t ht _ => ⟨_, rfl, congrArg iI (by unfold f_below; grind), ht⟩) (fun q h => nomatch h) dX0_below_20
  · refine lv_aload_n hx hb dX0_below_7 rfl (lv_at hl 0 rfl) ?_
    refine va_get (D := (dC, dI)) (ci := 0) (v := .int (iI (F 2))) (C := RX0) (T := TX0) (N := 6) hx hb hw inX0 hown hK hP 0 rfl rfl 2 (by decide) (hw _ mA_31) (fun _ h9 => h9) rfl dX0_below_8 ?_
    refine lv_goto (tgt := 20) hx hb dX0_below_11 (by decide) ?_
    exact W.iret (v := iI (F 2)) hx hb hr (fun t ht _ => ⟨_, rfl, congrArg iI (by unfold f_below; grind), ht⟩) (fun q h => nomatch h) dX0_below_20
set_option maxHeartbeats 4000000 in
set_option maxRecDepth 100000 in
theorem kX0_under (l : Launch) (dC : Nat → ClassId) (dI : Nat → Nat → Nat) (q : Nat) (F : Int → Int) (hF : ∀ j, -1002000 ≤ F j ∧ F j ≤ 1002000) : Met l yX0_under (.code yX0_under cX0_under 1 (some .int) :: wsA) ({ frames := 0, cells := 0, slots := 0, locals := 0 }) (va_Pc [.ref q] (fun U => va_P (dC, dI) vwCl [(q, .inr (0, [.int (iI (F 0)), .int (iI (F 1)), .int (iI (F 2)), .int (iI (F 3)), .int (iI (F 4)), .int (iI (F 5))]))] U.heap ∧ va_K (dC, dI) vwCl [] U)) (vp_Si (fun r => r = iI (f_under F))) 0 0 (fun _ => False) := by
  refine Met.ofW (cc := cX0_under) (maxL := 1) (ret := (some .int)) (by decide) rfl ?_
  intro p e s m args below meth c s₁ B hml hv
  obtain ⟨rfl, hP, hK⟩ := hv
  have hx := B.exec
  have hb := B.bytes
  have hr := B.returns
  have hts := atoms_spec (ws := .code yX0_under cX0_under 1 (some .int) :: wsA) B.pre
  have hw : ∀ w ∈ wsA, w.before _ s = true := fun w h => hts w (List.mem_cons_of_mem _ h)
  have hown : s.vm.findClass RX0 = some m.cls := findClass_of_methodNamed B.named
  have hlocks := B.notSynchronized
  have hl := lv_entry ([.ref q]) (n := 1) (Nat.le_of_ble_eq_true rfl)
  rw [lg_entry_eq]
  generalize (lg_sl ([.ref q]) ++ List.replicate (1 - (lg_sl ([.ref q])).length) Slot.unset).toArray = ls at hl ⊢
  have hl : lv_has ls 1 [(0, .ref q)] := hl
  refine lv_aload_n hx hb dX0_under_0 rfl (lv_at hl 0 rfl) ?_
  refine va_get (D := (dC, dI)) (ci := 0) (v := .int (iI (F 4))) (C := RX0) (T := TX0) (N := 6) hx hb hw inX0 hown hK hP 0 rfl rfl 4 (by decide) (hw _ mA_35) (fun _ h9 => h9) rfl dX0_under_1 ?_
  refine lv_aload_n hx hb dX0_under_4 rfl (lv_at hl 0 rfl) ?_
  refine va_get (D := (dC, dI)) (ci := 0) (v := .int (iI (F 4))) (C := RX0) (T := TX0) (N := 6) hx hb hw inX0 hown hK hP 0 rfl rfl 4 (by decide) (hw _ mA_35) (fun _ h9 => h9) rfl dX0_under_5 ?_
  refine ix_imul hx hb dX0_under_8 ?_
  refine lv_aload_n hx hb dX0_under_9 rfl (lv_at hl 0 rfl) ?_
  refine va_get (D := (dC, dI)) (ci := 0) (v := .int (iI (F 5))) (C := RX0) (T := TX0) (N := 6) hx hb hw inX0 hown hK hP 0 rfl rfl 5 (by decide) (hw _ mA_37) (fun _ h9 => h9) rfl dX0_under_10 ?_
  refine ix_imul hx hb dX0_under_13 ?_
  exact W.iret (v := iI (((F 4) * (F 4)) * (F 5))) hx hb hr (fun t ht _ => ⟨_, rfl, congrArg iI (by unfold f_under; grind), ht⟩) (fun q h => nomatch h) dX0_under_14
set_option maxHeartbeats 4000000 in
set_option maxRecDepth 100000 in
theorem kX1_degreeOf (l : Launch) (dC : Nat → ClassId) (dI : Nat → Nat → Nat) (q : Nat) (cI : ClassId) (N : Int → Int) (hN : ∀ j, r32 (N j)) : Met l yX1_degreeOf (.code yX1_degreeOf cX1_degreeOf 2 (some .int) :: wsA) ({ frames := 0, cells := 0, slots := 0, locals := 0 }) (va_Pc [.ref q] (fun U => va_P (dC, dI) vwCl [(q, .inl (cI, 5, .inl (aI N)))] U.heap ∧ va_K (dC, dI) vwCl [(cI, .int)] U)) (vp_Si (fun r => r = iI (f_deg N))) 0 0 (fun _ => False) := by
  refine Met.ofW (cc := cX1_degreeOf) (maxL := 2) (ret := (some .int)) (by decide) rfl ?_
  intro p e s m args below meth c s₁ B hml hv
  obtain ⟨rfl, hP, hK⟩ := hv
  have hx := B.exec
  have hb := B.bytes
  have hr := B.returns
  have hts := atoms_spec (ws := .code yX1_degreeOf cX1_degreeOf 2 (some .int) :: wsA) B.pre
  have hw : ∀ w ∈ wsA, w.before _ s = true := fun w h => hts w (List.mem_cons_of_mem _ h)
  have hown : s.vm.findClass RX1 = some m.cls := findClass_of_methodNamed B.named
  have hlocks := B.notSynchronized
  have hl := lv_entry ([.ref q]) (n := 2) (Nat.le_of_ble_eq_true rfl)
  rw [lg_entry_eq]
  generalize (lg_sl ([.ref q]) ++ List.replicate (2 - (lg_sl ([.ref q])).length) Slot.unset).toArray = ls at hl ⊢
  have hl : lv_has ls 2 [(0, .ref q)] := hl
  refine lv_aload_n hx hb dX1_degreeOf_0 rfl (lv_at hl 0 rfl) ?_
  refine va_alen (v := iI 5) hx hb hK hP 0 0 rfl rfl rfl dX1_degreeOf_1 ?_
  refine ix_iconst (n := 1) hx hb dX1_degreeOf_2 ?_
  refine ix_isub hx hb dX1_degreeOf_3 ?_
  refine ix_z (y := 4) rfl ?_
  refine lv_istore_n (lv' := [(1, .int (iI 4)), (0, .ref q)]) hx hb dX1_degreeOf_4 rfl hl (by decide) rfl (fun ls hl => ?_)
  refine lv_iload_n hx hb dX1_degreeOf_5 rfl (lv_at hl 0 rfl) ?_
  refine ix_if_lt (tgt := 21) hx hb dX1_degreeOf_6 (by decide) (by decide) (fun c1 => absurd c1 (by decide)) (fun _ => ?_)
  refine lv_aload_n hx hb dX1_degreeOf_9 rfl (lv_at hl 1 rfl) ?_
  refine lv_iload_n hx hb dX1_degreeOf_10 rfl (lv_at hl 0 rfl) ?_
  refine ix_iald (k := 4) hx hb hK hP 0 0 rfl rfl (by decide) (by decide) (by decide) dX1_degreeOf_11 ?_
  refine ix_if_ne (tgt := 21) hx hb dX1_degreeOf_12 (by decide) (hN 4) (fun c2 => ?_) (fun c2 => ?_)
  · refine lv_iload_n hx hb dX1_degreeOf_21 rfl (lv_at hl 0 rfl) ?_
    exact W.iret (v := iI 4) hx hb hr (fun t ht _ => ⟨_, rfl, congrArg iI (by unfold f_deg; grind), ht⟩) (fun q h => nomatch h) dX1_degreeOf_22
  · refine ix_iinc (k := 0) (lv2 := [(1, .int (iI 3)), (0, .ref q)]) hx hb dX1_degreeOf_15 hl rfl (by decide) rfl (fun ls hl => ?_)
    refine lv_goto (tgt := 5) hx hb dX1_degreeOf_18 (by decide) ?_
    refine lv_iload_n hx hb dX1_degreeOf_5 rfl (lv_at hl 0 rfl) ?_
    refine ix_if_lt (tgt := 21) hx hb dX1_degreeOf_6 (by decide) (by decide) (fun c3 => absurd c3 (by decide)) (fun _ => ?_)
    refine lv_aload_n hx hb dX1_degreeOf_9 rfl (lv_at hl 1 rfl) ?_
    refine lv_iload_n hx hb dX1_degreeOf_10 rfl (lv_at hl 0 rfl) ?_
    refine ix_iald (k := 3) hx hb hK hP 0 0 rfl rfl (by decide) (by decide) (by decide) dX1_degreeOf_11 ?_
    refine ix_if_ne (tgt := 21) hx hb dX1_degreeOf_12 (by decide) (hN 3) (fun c4 => ?_) (fun c4 => ?_)
    · refine lv_iload_n hx hb dX1_degreeOf_21 rfl (lv_at hl 0 rfl) ?_
      exact W.iret (v := iI 3) hx hb hr (fun t ht _ => ⟨_, rfl, congrArg iI (by unfold f_deg; grind), ht⟩) (fun q h => nomatch h) dX1_degreeOf_22
    · refine ix_iinc (k := 0) (lv2 := [(1, .int (iI 2)), (0, .ref q)]) hx hb dX1_degreeOf_15 hl rfl (by decide) rfl (fun ls hl => ?_)
      refine lv_goto (tgt := 5) hx hb dX1_degreeOf_18 (by decide) ?_
      refine lv_iload_n hx hb dX1_degreeOf_5 rfl (lv_at hl 0 rfl) ?_
      refine ix_if_lt (tgt := 21) hx hb dX1_degreeOf_6 (by decide) (by decide) (fun c5 => absurd c5 (by decide)) (fun _ => ?_)
      refine lv_aload_n hx hb dX1_degreeOf_9 rfl (lv_at hl 1 rfl) ?_
      refine lv_iload_n hx hb dX1_degreeOf_10 rfl (lv_at hl 0 rfl) ?_
      refine ix_iald (k := 2) hx hb hK hP 0 0 rfl rfl (by decide) (by decide) (by decide) dX1_degreeOf_11 ?_
      refine ix_if_ne (tgt := 21) hx hb dX1_degreeOf_12 (by decide) (hN 2) (fun c6 => ?_) (fun c6 => ?_)
      · refine lv_iload_n hx hb dX1_degreeOf_21 rfl (lv_at hl 0 rfl) ?_
        exact W.iret (v := iI 2) hx hb hr (fun t ht _ => ⟨_, rfl, congrArg iI (by unfold f_deg; grind), ht⟩) (fun q h => nomatch h) dX1_degreeOf_22
      · refine ix_iinc (k := 0) (lv2 := [(1, .int (iI 1)), (0, .ref q)]) hx hb dX1_degreeOf_15 hl rfl (by decide) rfl (fun ls hl => ?_)
        refine lv_goto (tgt := 5) hx hb dX1_degreeOf_18 (by decide) ?_
        refine lv_iload_n hx hb dX1_degreeOf_5 rfl (lv_at hl 0 rfl) ?_
        refine ix_if_lt (tgt := 21) hx hb dX1_degreeOf_6 (by decide) (by decide) (fun c7 => absurd c7 (by decide)) (fun _ => ?_)
        refine lv_aload_n hx hb dX1_degreeOf_9 rfl (lv_at hl 1 rfl) ?_
        refine lv_iload_n hx hb dX1_degreeOf_10 rfl (lv_at hl 0 rfl) ?_
        refine ix_iald (k := 1) hx hb hK hP 0 0 rfl rfl (by decide) (by decide) (by decide) dX1_degreeOf_11 ?_
        refine ix_if_ne (tgt := 21) hx hb dX1_degreeOf_12 (by decide) (hN 1) (fun c8 => ?_) (fun c8 => ?_)
        · refine lv_iload_n hx hb dX1_degreeOf_21 rfl (lv_at hl 0 rfl) ?_
          exact W.iret (v := iI 1) hx hb hr (fun t ht _ => ⟨_, rfl, congrArg iI (by unfold f_deg; grind), ht⟩) (fun q h => nomatch h) dX1_degreeOf_22
        · refine ix_iinc (k := 0) (lv2 := [(1, .int (iI 0)), (0, .ref q)]) hx hb dX1_degreeOf_15 hl rfl (by decide) rfl (fun ls hl => ?_)
          refine lv_goto (tgt := 5) hx hb dX1_degreeOf_18 (by decide) ?_
          refine lv_iload_n hx hb dX1_degreeOf_5 rfl (lv_at hl 0 rfl) ?_
          refine ix_if_lt (tgt := 21) hx hb dX1_degreeOf_6 (by decide) (by decide) (fun c9 => absurd c9 (by decide)) (fun _ => ?_)
          refine lv_aload_n hx hb dX1_degreeOf_9 rfl (lv_at hl 1 rfl) ?_
          refine lv_iload_n hx hb dX1_degreeOf_10 rfl (lv_at hl 0 rfl) ?_
          refine ix_iald (k := 0) hx hb hK hP 0 0 rfl rfl (by decide) (by decide) (by decide) dX1_degreeOf_11 ?_
          refine ix_if_ne (tgt := 21) hx hb dX1_degreeOf_12 (by decide) (hN 0) (fun c10 => ?_) (fun c10 => ?_)
          · refine lv_iload_n hx hb dX1_degreeOf_21 rfl (lv_at hl 0 rfl) ?_
            exact W.iret (v := iI 0) hx hb hr (fun t ht _ => ⟨_, rfl, congrArg iI (by unfold f_deg; grind), ht⟩) (fun q h => nomatch h) dX1_degreeOf_22
          · refine ix_iinc (k := 0) (lv2 := [(1, .int (iI (-1))), (0, .ref q)]) hx hb dX1_degreeOf_15 hl rfl (by decide) rfl (fun ls hl => ?_)
            refine lv_goto (tgt := 5) hx hb dX1_degreeOf_18 (by decide) ?_
            refine lv_iload_n hx hb dX1_degreeOf_5 rfl (lv_at hl 0 rfl) ?_
            refine ix_if_lt (tgt := 21) hx hb dX1_degreeOf_6 (by decide) (by decide) (fun _ => ?_) (fun c11 => absurd c11 (by decide))
            refine lv_iload_n hx hb dX1_degreeOf_21 rfl (lv_at hl 0 rfl) ?_
            exact W.iret (v := iI (-1)) hx hb hr (fun t ht _ => ⟨_, rfl, congrArg iI (by unfold f_deg; grind), ht⟩) (fun q h => nomatch h) dX1_degreeOf_22
theorem lin_r (F : Int → Int) : r32 (f_lin F) := by unfold f_lin; grind
set_option maxHeartbeats 4000000 in
set_option maxRecDepth 100000 in
theorem kX0_standsBefore (l : Launch) (dC : Nat → ClassId) (dI : Nat → Nat → Nat) (q q2 : Nat) (F G : Int → Int) (hF : ∀ j, -1002000 ≤ F j ∧ F j ≤ 1002000) (hG : ∀ j, -1002000 ≤ G j ∧ G j ≤ 1002000) (hm1 : r32 (f_mid F * f_below G)) (hm2 : r32 (f_mid G * f_below F)) : Met l yX0_standsBefore (.code yX0_standsBefore cX0_standsBefore 2 (some .boolean) :: wsA) ({ frames := 1, cells := 0, slots := 0, locals := 40 }) (va_Pc [.ref q, .ref q2] (fun U => va_P (dC, dI) vwCl [(q, .inr (0, [.int (iI (F 0)), .int (iI (F 1)), .int (iI (F 2)), .int (iI (F 3)), .int (iI (F 4)), .int (iI (F 5))])), (q2, .inr (0, [.int (iI (G 0)), .int (iI (G 1)), .int (iI (G 2)), .int (iI (G 3)), .int (iI (G 4)), .int (iI (G 5))]))] U.heap ∧ va_K (dC, dI) vwCl [] U)) (vp_Si (fun r => r = iI (f_before F G))) 0 0 (fun _ => False) := by
  refine Met.ofW (cc := cX0_standsBefore) (maxL := 2) (ret := (some .boolean)) (by decide) rfl ?_
  intro p e s m args below meth c s₁ B hml hv
  obtain ⟨rfl, hP, hK⟩ := hv
  have hx := B.exec
  have hb := B.bytes
  have hr := B.returns
  have hts := atoms_spec (ws := .code yX0_standsBefore cX0_standsBefore 2 (some .boolean) :: wsA) B.pre
  have hw : ∀ w ∈ wsA, w.before _ s = true := fun w h => hts w (List.mem_cons_of_mem _ h)
  have hown : s.vm.findClass RX0 = some m.cls := findClass_of_methodNamed B.named
  have hlocks := B.notSynchronized
  have hl := lv_entry ([.ref q, .ref q2]) (n := 2) (Nat.le_of_ble_eq_true rfl)
  rw [lg_entry_eq]
  generalize (lg_sl ([.ref q, .ref q2]) ++ List.replicate (2 - (lg_sl ([.ref q, .ref q2])).length) Slot.unset).toArray = ls at hl ⊢
  have hl : lv_has ls 2 [(0, .ref q), (1, .ref q2)] := hl
  refine lv_aload_n hx hb dX0_standsBefore_0 rfl (lv_at hl 0 rfl) ?_
  have hPc := hP.sub (ws' := [(q, .inr (0, [.int (iI (F 0)), .int (iI (F 1)), .int (iI (F 2)), .int (iI (F 3)), .int (iI (F 4)), .int (iI (F 5))]))]) [0] rfl
  have hKc := hK.sub (tys' := []) [] rfl
  refine vp_callSi (W.runV (As := []) (rest := []) ⟨hx, hb, hml, hown, hw⟩ (kX0_isLinear l dC dI q F hF) (cwV 0 hw (gV mA_272 mA_274 mP_11 mA_2 mA_275) rfl rfl rfl (by decide +kernel) ⟨Nat.le_of_ble_eq_true rfl, Nat.le_of_ble_eq_true rfl⟩) ⟨fun a U g mk q => by obtain ⟨q0, qP, qK⟩ := q; exact ⟨q0, qP, va_K.moved (u := U) (U := U.calling g mk a) (Vm.Alike.refl U.vm) qK⟩, va_recv hKc hPc (ci := 0) (q0 := 0) rfl rfl, fun U hU hW => ⟨rfl, by rw [hU]; exact hPc, va_K.moved hW.alike hKc⟩⟩ rfl rfl hl.1 rfl (lv_room (Nat.le_of_ble_eq_true rfl)) dX0_standsBefore_1 ⟨Nat.le_of_ble_eq_true rfl, Nat.le_of_ble_eq_true rfl⟩) (fun r1 h2 => ?_)
  subst h2
  refine lv_aload_n hx hb dX0_standsBefore_4 rfl (lv_at hl 1 rfl) ?_
  have hPc := hP.sub (ws' := [(q2, .inr (0, [.int (iI (G 0)), .int (iI (G 1)), .int (iI (G 2)), .int (iI (G 3)), .int (iI (G 4)), .int (iI (G 5))]))]) [1] rfl
  have hKc := hK.sub (tys' := []) [] rfl
  refine vp_callSi (W.runV (As := []) (rest := [.int (iI (f_lin F))]) ⟨hx, hb, hml, hown, hw⟩ (kX0_isLinear l dC dI q2 G hG) (cwV 0 hw (gV mA_272 mA_274 mP_11 mA_2 mA_275) rfl rfl rfl (by decide +kernel) ⟨Nat.le_of_ble_eq_true rfl, Nat.le_of_ble_eq_true rfl⟩) ⟨fun a U g mk q => by obtain ⟨q0, qP, qK⟩ := q; exact ⟨q0, qP, va_K.moved (u := U) (U := U.calling g mk a) (Vm.Alike.refl U.vm) qK⟩, va_recv hKc hPc (ci := 0) (q0 := 0) rfl rfl, fun U hU hW => ⟨rfl, by rw [hU]; exact hPc, va_K.moved hW.alike hKc⟩⟩ rfl rfl hl.1 rfl (lv_room (Nat.le_of_ble_eq_true rfl)) dX0_standsBefore_5 ⟨Nat.le_of_ble_eq_true rfl, Nat.le_of_ble_eq_true rfl⟩) (fun r3 h4 => ?_)
  subst h4
  refine ix_icmp_eq (tgt := 16) hx hb dX0_standsBefore_8 (by decide) (lin_r _) (lin_r _) (fun c5 => ?_) (fun c5 => ?_)
  · refine lv_aload_n hx hb dX0_standsBefore_16 rfl (lv_at hl 0 rfl) ?_
    have hPc := hP.sub (ws' := [(q, .inr (0, [.int (iI (F 0)), .int (iI (F 1)), .int (iI (F 2)), .int (iI (F 3)), .int (iI (F 4)), .int (iI (F 5))]))]) [0] rfl
    have hKc := hK.sub (tys' := []) [] rfl
    refine vp_callSi (W.runV (As := []) (rest := []) ⟨hx, hb, hml, hown, hw⟩ (kX0_isLinear l dC dI q F hF) (cwV 0 hw (gV mA_272 mA_274 mP_11 mA_2 mA_275) rfl rfl rfl (by decide +kernel) ⟨Nat.le_of_ble_eq_true rfl, Nat.le_of_ble_eq_true rfl⟩) ⟨fun a U g mk q => by obtain ⟨q0, qP, qK⟩ := q; exact ⟨q0, qP, va_K.moved (u := U) (U := U.calling g mk a) (Vm.Alike.refl U.vm) qK⟩, va_recv hKc hPc (ci := 0) (q0 := 0) rfl rfl, fun U hU hW => ⟨rfl, by rw [hU]; exact hPc, va_K.moved hW.alike hKc⟩⟩ rfl rfl hl.1 rfl (lv_room (Nat.le_of_ble_eq_true rfl)) dX0_standsBefore_17 ⟨Nat.le_of_ble_eq_true rfl, Nat.le_of_ble_eq_true rfl⟩) (fun r6 h7 => ?_)
    subst h7
    refine ix_if_eq (tgt := 50) hx hb dX0_standsBefore_20 (by decide) (lin_r _) (fun c8 => ?_) (fun c8 => ?_)
    · refine lv_aload_n hx hb dX0_standsBefore_50 rfl (lv_at hl 0 rfl) ?_
      refine va_get (D := (dC, dI)) (ci := 0) (v := .int (iI (F 1))) (C := RX0) (T := TX0) (N := 6) hx hb hw inX0 hown hK hP 0 rfl rfl 1 (by decide) (hw _ mA_29) (fun _ h9 => h9) rfl dX0_standsBefore_51 ?_
      refine lv_aload_n hx hb dX0_standsBefore_54 rfl (lv_at hl 1 rfl) ?_
      refine va_get (D := (dC, dI)) (ci := 0) (v := .int (iI (G 1))) (C := RX0) (T := TX0) (N := 6) hx hb hw inX0 hown hK hP 1 rfl rfl 1 (by decide) (hw _ mA_29) (fun _ h9 => h9) rfl dX0_standsBefore_55 ?_
      refine ix_icmp_eq (tgt := 78) hx hb dX0_standsBefore_58 (by decide) ⟨by have := (hF 1).1; omega, by have := (hF 1).2; omega⟩ ⟨by have := (hG 1).1; omega, by have := (hG 1).2; omega⟩ (fun c9 => ?_) (fun c9 => ?_)
      · refine lv_aload_n hx hb dX0_standsBefore_78 rfl (lv_at hl 0 rfl) ?_
        refine va_get (D := (dC, dI)) (ci := 0) (v := .int (iI (F 2))) (C := RX0) (T := TX0) (N := 6) hx hb hw inX0 hown hK hP 0 rfl rfl 2 (by decide) (hw _ mA_31) (fun _ h9 => h9) rfl dX0_standsBefore_79 ?_
        refine lv_aload_n hx hb dX0_standsBefore_82 rfl (lv_at hl 1 rfl) ?_
        refine va_get (D := (dC, dI)) (ci := 0) (v := .int (iI (G 2))) (C := RX0) (T := TX0) (N := 6) hx hb hw inX0 hown hK hP 1 rfl rfl 2 (by decide) (hw _ mA_31) (fun _ h9 => h9) rfl dX0_standsBefore_83 ?_
        refine ix_icmp_eq (tgt := 108) hx hb dX0_standsBefore_86 (by decide) ⟨by have := (hF 2).1; omega, by have := (hF 2).2; omega⟩ ⟨by have := (hG 2).1; omega, by have := (hG 2).2; omega⟩ (fun c10 => ?_) (fun c10 => ?_)
        · refine lv_aload_n hx hb dX0_standsBefore_108 rfl (lv_at hl 0 rfl) ?_
          refine va_get (D := (dC, dI)) (ci := 0) (v := .int (iI (F 3))) (C := RX0) (T := TX0) (N := 6) hx hb hw inX0 hown hK hP 0 rfl rfl 3 (by decide) (hw _ mA_33) (fun _ h9 => h9) rfl dX0_standsBefore_109 ?_
          refine lv_aload_n hx hb dX0_standsBefore_112 rfl (lv_at hl 1 rfl) ?_
          refine va_get (D := (dC, dI)) (ci := 0) (v := .int (iI (G 3))) (C := RX0) (T := TX0) (N := 6) hx hb hw inX0 hown hK hP 1 rfl rfl 3 (by decide) (hw _ mA_33) (fun _ h9 => h9) rfl dX0_standsBefore_113 ?_
          refine ix_icmp_ge (tgt := 123) hx hb dX0_standsBefore_116 (by decide) ⟨by have := (hF 3).1; omega, by have := (hF 3).2; omega⟩ ⟨by have := (hG 3).1; omega, by have := (hG 3).2; omega⟩ (fun c11 => ?_) (fun c11 => ?_)
          · refine ix_iconst (n := 0) hx hb dX0_standsBefore_123 ?_
            exact W.zret (v := iI 0) hx hb hr (by decide) (fun t ht _ => ⟨_, rfl, congrArg iI (by unfold f_before; grind), ht⟩) (fun q h => nomatch h) dX0_standsBefore_124
          · refine ix_iconst (n := 1) hx hb dX0_standsBefore_119 ?_
            refine lv_goto (tgt := 124) hx hb dX0_standsBefore_120 (by decide) ?_
            exact W.zret (v := iI 1) hx hb hr (by decide) (fun t ht _ => ⟨_, rfl, congrArg iI (by unfold f_before; grind), ht⟩) (fun q h => nomatch h) dX0_standsBefore_124
        · refine lv_aload_n hx hb dX0_standsBefore_89 rfl (lv_at hl 0 rfl) ?_
          refine va_get (D := (dC, dI)) (ci := 0) (v := .int (iI (F 2))) (C := RX0) (T := TX0) (N := 6) hx hb hw inX0 hown hK hP 0 rfl rfl 2 (by decide) (hw _ mA_31) (fun _ h9 => h9) rfl dX0_standsBefore_90 ?_
          refine lv_aload_n hx hb dX0_standsBefore_93 rfl (lv_at hl 1 rfl) ?_
          refine va_get (D := (dC, dI)) (ci := 0) (v := .int (iI (G 2))) (C := RX0) (T := TX0) (N := 6) hx hb hw inX0 hown hK hP 1 rfl rfl 2 (by decide) (hw _ mA_31) (fun _ h9 => h9) rfl dX0_standsBefore_94 ?_
          refine ix_icmp_ge (tgt := 104) hx hb dX0_standsBefore_97 (by decide) ⟨by have := (hF 2).1; omega, by have := (hF 2).2; omega⟩ ⟨by have := (hG 2).1; omega, by have := (hG 2).2; omega⟩ (fun c12 => ?_) (fun c12 => ?_)
          · refine ix_iconst (n := 0) hx hb dX0_standsBefore_104 ?_
            refine lv_goto (tgt := 124) hx hb dX0_standsBefore_105 (by decide) ?_
            exact W.zret (v := iI 0) hx hb hr (by decide) (fun t ht _ => ⟨_, rfl, congrArg iI (by unfold f_before; grind), ht⟩) (fun q h => nomatch h) dX0_standsBefore_124
          · refine ix_iconst (n := 1) hx hb dX0_standsBefore_100 ?_
            refine lv_goto (tgt := 124) hx hb dX0_standsBefore_101 (by decide) ?_
            exact W.zret (v := iI 1) hx hb hr (by decide) (fun t ht _ => ⟨_, rfl, congrArg iI (by unfold f_before; grind), ht⟩) (fun q h => nomatch h) dX0_standsBefore_124
      · refine lv_aload_n hx hb dX0_standsBefore_61 rfl (lv_at hl 0 rfl) ?_
        refine va_get (D := (dC, dI)) (ci := 0) (v := .int (iI (F 1))) (C := RX0) (T := TX0) (N := 6) hx hb hw inX0 hown hK hP 0 rfl rfl 1 (by decide) (hw _ mA_29) (fun _ h9 => h9) rfl dX0_standsBefore_62 ?_
        refine lv_aload_n hx hb dX0_standsBefore_65 rfl (lv_at hl 1 rfl) ?_
        refine va_get (D := (dC, dI)) (ci := 0) (v := .int (iI (G 1))) (C := RX0) (T := TX0) (N := 6) hx hb hw inX0 hown hK hP 1 rfl rfl 1 (by decide) (hw _ mA_29) (fun _ h9 => h9) rfl dX0_standsBefore_66 ?_
        refine ix_icmp_ge (tgt := 76) hx hb dX0_standsBefore_69 (by decide) ⟨by have := (hF 1).1; omega, by have := (hF 1).2; omega⟩ ⟨by have := (hG 1).1; omega, by have := (hG 1).2; omega⟩ (fun c13 => ?_) (fun c13 => ?_)
        · refine ix_iconst (n := 0) hx hb dX0_standsBefore_76 ?_
          exact W.zret (v := iI 0) hx hb hr (by decide) (fun t ht _ => ⟨_, rfl, congrArg iI (by unfold f_before; grind), ht⟩) (fun q h => nomatch h) dX0_standsBefore_77
        · refine ix_iconst (n := 1) hx hb dX0_standsBefore_72 ?_
          refine lv_goto (tgt := 77) hx hb dX0_standsBefore_73 (by decide) ?_
          exact W.zret (v := iI 1) hx hb hr (by decide) (fun t ht _ => ⟨_, rfl, congrArg iI (by unfold f_before; grind), ht⟩) (fun q h => nomatch h) dX0_standsBefore_77
    · refine lv_aload_n hx hb dX0_standsBefore_23 rfl (lv_at hl 0 rfl) ?_
      have hPc := hP.sub (ws' := [(q, .inr (0, [.int (iI (F 0)), .int (iI (F 1)), .int (iI (F 2)), .int (iI (F 3)), .int (iI (F 4)), .int (iI (F 5))]))]) [0] rfl
      have hKc := hK.sub (tys' := []) [] rfl
      refine vp_callSi (W.runV (As := []) (rest := []) ⟨hx, hb, hml, hown, hw⟩ (kX0_middle l dC dI q F hF) (cwV 0 hw (gV mA_276 mA_278 mP_12 mA_2 mA_279) rfl rfl rfl (by decide +kernel) ⟨Nat.le_of_ble_eq_true rfl, Nat.le_of_ble_eq_true rfl⟩) ⟨fun a U g mk q => by obtain ⟨q0, qP, qK⟩ := q; exact ⟨q0, qP, va_K.moved (u := U) (U := U.calling g mk a) (Vm.Alike.refl U.vm) qK⟩, va_recv hKc hPc (ci := 0) (q0 := 0) rfl rfl, fun U hU hW => ⟨rfl, by rw [hU]; exact hPc, va_K.moved hW.alike hKc⟩⟩ rfl rfl hl.1 rfl (lv_room (Nat.le_of_ble_eq_true rfl)) dX0_standsBefore_24 ⟨Nat.le_of_ble_eq_true rfl, Nat.le_of_ble_eq_true rfl⟩) (fun r14 h15 => ?_)
      subst h15
      refine lv_aload_n hx hb dX0_standsBefore_27 rfl (lv_at hl 1 rfl) ?_
      have hPc := hP.sub (ws' := [(q2, .inr (0, [.int (iI (G 0)), .int (iI (G 1)), .int (iI (G 2)), .int (iI (G 3)), .int (iI (G 4)), .int (iI (G 5))]))]) [1] rfl
      have hKc := hK.sub (tys' := []) [] rfl
      refine vp_callSi (W.runV (As := []) (rest := [.int (iI (f_mid F))]) ⟨hx, hb, hml, hown, hw⟩ (kX0_below l dC dI q2 G hG) (cwV 0 hw (gV mA_280 mA_282 mP_13 mA_2 mA_283) rfl rfl rfl (by decide +kernel) ⟨Nat.le_of_ble_eq_true rfl, Nat.le_of_ble_eq_true rfl⟩) ⟨fun a U g mk q => by obtain ⟨q0, qP, qK⟩ := q; exact ⟨q0, qP, va_K.moved (u := U) (U := U.calling g mk a) (Vm.Alike.refl U.vm) qK⟩, va_recv hKc hPc (ci := 0) (q0 := 0) rfl rfl, fun U hU hW => ⟨rfl, by rw [hU]; exact hPc, va_K.moved hW.alike hKc⟩⟩ rfl rfl hl.1 rfl (lv_room (Nat.le_of_ble_eq_true rfl)) dX0_standsBefore_28 ⟨Nat.le_of_ble_eq_true rfl, Nat.le_of_ble_eq_true rfl⟩) (fun r16 h17 => ?_)
      subst h17
      refine ix_imul hx hb dX0_standsBefore_31 ?_
      refine lv_aload_n hx hb dX0_standsBefore_32 rfl (lv_at hl 1 rfl) ?_
      have hPc := hP.sub (ws' := [(q2, .inr (0, [.int (iI (G 0)), .int (iI (G 1)), .int (iI (G 2)), .int (iI (G 3)), .int (iI (G 4)), .int (iI (G 5))]))]) [1] rfl
      have hKc := hK.sub (tys' := []) [] rfl
      refine vp_callSi (W.runV (As := []) (rest := [.int (iI ((f_mid F) * (f_below G)))]) ⟨hx, hb, hml, hown, hw⟩ (kX0_middle l dC dI q2 G hG) (cwV 0 hw (gV mA_276 mA_278 mP_12 mA_2 mA_279) rfl rfl rfl (by decide +kernel) ⟨Nat.le_of_ble_eq_true rfl, Nat.le_of_ble_eq_true rfl⟩) ⟨fun a U g mk q => by obtain ⟨q0, qP, qK⟩ := q; exact ⟨q0, qP, va_K.moved (u := U) (U := U.calling g mk a) (Vm.Alike.refl U.vm) qK⟩, va_recv hKc hPc (ci := 0) (q0 := 0) rfl rfl, fun U hU hW => ⟨rfl, by rw [hU]; exact hPc, va_K.moved hW.alike hKc⟩⟩ rfl rfl hl.1 rfl (lv_room (Nat.le_of_ble_eq_true rfl)) dX0_standsBefore_33 ⟨Nat.le_of_ble_eq_true rfl, Nat.le_of_ble_eq_true rfl⟩) (fun r18 h19 => ?_)
      subst h19
      refine lv_aload_n hx hb dX0_standsBefore_36 rfl (lv_at hl 0 rfl) ?_
      have hPc := hP.sub (ws' := [(q, .inr (0, [.int (iI (F 0)), .int (iI (F 1)), .int (iI (F 2)), .int (iI (F 3)), .int (iI (F 4)), .int (iI (F 5))]))]) [0] rfl
      have hKc := hK.sub (tys' := []) [] rfl
      refine vp_callSi (W.runV (As := []) (rest := [.int (iI (f_mid G)), .int (iI ((f_mid F) * (f_below G)))]) ⟨hx, hb, hml, hown, hw⟩ (kX0_below l dC dI q F hF) (cwV 0 hw (gV mA_280 mA_282 mP_13 mA_2 mA_283) rfl rfl rfl (by decide +kernel) ⟨Nat.le_of_ble_eq_true rfl, Nat.le_of_ble_eq_true rfl⟩) ⟨fun a U g mk q => by obtain ⟨q0, qP, qK⟩ := q; exact ⟨q0, qP, va_K.moved (u := U) (U := U.calling g mk a) (Vm.Alike.refl U.vm) qK⟩, va_recv hKc hPc (ci := 0) (q0 := 0) rfl rfl, fun U hU hW => ⟨rfl, by rw [hU]; exact hPc, va_K.moved hW.alike hKc⟩⟩ rfl rfl hl.1 rfl (lv_room (Nat.le_of_ble_eq_true rfl)) dX0_standsBefore_37 ⟨Nat.le_of_ble_eq_true rfl, Nat.le_of_ble_eq_true rfl⟩) (fun r20 h21 => ?_)
      subst h21
      refine ix_imul hx hb dX0_standsBefore_40 ?_
      refine ix_icmp_ge (tgt := 48) hx hb dX0_standsBefore_41 (by decide) (by assumption) (by assumption) (fun c22 => ?_) (fun c22 => ?_)
      · refine ix_iconst (n := 0) hx hb dX0_standsBefore_48 ?_
        exact W.zret (v := iI 0) hx hb hr (by decide) (fun t ht _ => ⟨_, rfl, congrArg iI (by unfold f_before; grind), ht⟩) (fun q h => nomatch h) dX0_standsBefore_49
      · refine ix_iconst (n := 1) hx hb dX0_standsBefore_44 ?_
        refine lv_goto (tgt := 49) hx hb dX0_standsBefore_45 (by decide) ?_
        exact W.zret (v := iI 1) hx hb hr (by decide) (fun t ht _ => ⟨_, rfl, congrArg iI (by unfold f_before; grind), ht⟩) (fun q h => nomatch h) dX0_standsBefore_49
  · refine lv_aload_n hx hb dX0_standsBefore_11 rfl (lv_at hl 0 rfl) ?_
    have hPc := hP.sub (ws' := [(q, .inr (0, [.int (iI (F 0)), .int (iI (F 1)), .int (iI (F 2)), .int (iI (F 3)), .int (iI (F 4)), .int (iI (F 5))]))]) [0] rfl
    have hKc := hK.sub (tys' := []) [] rfl
    refine vp_callSi (W.runV (As := []) (rest := []) ⟨hx, hb, hml, hown, hw⟩ (kX0_isLinear l dC dI q F hF) (cwV 0 hw (gV mA_272 mA_274 mP_11 mA_2 mA_275) rfl rfl rfl (by decide +kernel) ⟨Nat.le_of_ble_eq_true rfl, Nat.le_of_ble_eq_true rfl⟩) ⟨fun a U g mk q => by obtain ⟨q0, qP, qK⟩ := q; exact ⟨q0, qP, va_K.moved (u := U) (U := U.calling g mk a) (Vm.Alike.refl U.vm) qK⟩, va_recv hKc hPc (ci := 0) (q0 := 0) rfl rfl, fun U hU hW => ⟨rfl, by rw [hU]; exact hPc, va_K.moved hW.alike hKc⟩⟩ rfl rfl hl.1 rfl (lv_room (Nat.le_of_ble_eq_true rfl)) dX0_standsBefore_12 ⟨Nat.le_of_ble_eq_true rfl, Nat.le_of_ble_eq_true rfl⟩) (fun r23 h24 => ?_)
    subst h24
    exact W.zret (v := iI (f_lin F)) hx hb hr (nz_b (by unfold f_lin; grind)) (fun t ht _ => ⟨_, rfl, congrArg iI (by unfold f_before; grind), ht⟩) (fun q h => nomatch h) dX0_standsBefore_15
