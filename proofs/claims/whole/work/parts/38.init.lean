set_option maxHeartbeats 4000000 in
set_option maxRecDepth 100000 in
/-- a new Factor -/
theorem kX0_init (l : Launch) (q : Nat) : Met l yX0_init (.code yX0_init cX0_init 1 none :: wsA) ({ frames := 1, cells := 0, slots := 0, locals := 40 }) (fun a9 _ => a9 = ([.ref q] : List Value).toArray) (va_Qv (fun _ : Unit => True) (fun _ _ => True) (fun _ => False)) 0 0 (fun _ => False) := by
  refine Met.ofW (cc := cX0_init) (maxL := 1) (ret := none) (by decide) rfl ?_
  intro p e s m args below meth c s₁ B hml hv
  subst hv
  have hx := B.exec
  have hb := B.bytes
  have hr := B.returns
  have hts := atoms_spec (ws := .code yX0_init cX0_init 1 none :: wsA) B.pre
  have hw : ∀ w ∈ wsA, w.before _ s = true := fun w h => hts w (List.mem_cons_of_mem _ h)
  have hown : s.vm.findClass RX0 = some m.cls := findClass_of_methodNamed B.named
  have hlocks := B.notSynchronized
  have hl := lv_entry ([.ref q]) (n := 1) (Nat.le_of_ble_eq_true rfl)
  rw [lg_entry_eq]
  generalize (lg_sl ([.ref q]) ++ List.replicate (1 - (lg_sl ([.ref q])).length) Slot.unset).toArray = ls at hl ⊢
  have hl : lv_has ls 1 [(0, .ref q)] := hl
  refine lv_aload_n hx hb dX0_init_0 rfl (lv_at hl 0 rfl) ?_
  refine W.objInit hx hb hown (hw _ mA_26) (hw _ mA_18) (hw _ mA_19) rfl (by rw [hml]; exact hl.1) rfl dX0_init_1 (Nat.le_of_ble_eq_true rfl) (Nat.le_of_ble_eq_true rfl) ?_
  refine W.eq (g2 := F0 m 4 ls []) rfl ?_
  exact W.vret hx hb hr (fun t ht _ => ⟨⟨(), rfl, trivial, trivial⟩, vF0 (by rw [ht]; exact Nat.le_refl _) (fun q _ => by rw [ht])⟩) (fun z hz => nomatch hz) dX0_init_4
set_option maxHeartbeats 4000000 in
set_option maxRecDepth 100000 in
/-- a new object -/
theorem kX1_init (l : Launch) (dC : Nat → ClassId) (dI : Nat → Nat → Nat) (sz : Nat) (h : Nat) : Met l yX1_init (.code yX1_init cX1_init 2 none :: wsA) ({ frames := 2, cells := 8, slots := 43, locals := 60 }) (va_Pc [.ref h] (fun U => U.heap.size = sz ∧ va_P (dC, dI) vwCl [(h, .inr (1, [.null, .null, .null, .null, .int (iI 0), .int (iI 0), .int (iI 0)]))] U.heap ∧ va_K (dC, dI) vwCl [] U ∧ va_D (fun _ => True) [(h, .inr (1, [.null, .null, .null, .null, .int (iI 0), .int (iI 0), .int (iI 0)]))] ∧ nb U)) (va_Qv (fun _ => True) (fun (u : Nat × Nat × Nat × Nat × (Nat × Nat × Nat × Nat) × ClassId × ClassId) t9 => va_P (dC, dI) vwCl (cwu h u.1 u.2.1 u.2.2.1 u.2.2.2.1 u.2.2.2.2.2.1 u.2.2.2.2.2.2 (fun _ => 0) ((fun _ => 0), (fun _ => 0), 0, 0, 0, u.2.2.2.2.1, fun _ _ => 0)) t9.heap ∧ va_K (dC, dI) vwCl [(u.2.2.2.2.2.1, .int), (u.2.2.2.2.2.2, .object RX0)] t9 ∧ va_D (va_A [(h, .inr (1, [.null, .null, .null, .null, .int (iI 0), .int (iI 0), .int (iI 0)]))] sz) (cwu h u.1 u.2.1 u.2.2.1 u.2.2.2.1 u.2.2.2.2.2.1 u.2.2.2.2.2.2 (fun _ => 0) ((fun _ => 0), (fun _ => 0), 0, 0, 0, u.2.2.2.2.1, fun _ _ => 0))) (va_A [(h, .inr (1, [.null, .null, .null, .null, .int (iI 0), .int (iI 0), .int (iI 0)]))] sz)) 8 43 (va_A [(h, .inr (1, [.null, .null, .null, .null, .int (iI 0), .int (iI 0), .int (iI 0)]))] sz) := by
  refine Met.ofW (cc := cX1_init) (maxL := 2) (ret := none) (by decide) rfl ?_
  intro p e s m args below meth c s₁ B hml hv
  obtain ⟨rfl, hsz, hP, hK, hD0, hnb⟩ := hv
  have hx := B.exec
  have hb := B.bytes
  have hr := B.returns
  have hts := atoms_spec (ws := .code yX1_init cX1_init 2 none :: wsA) B.pre
  have hw : ∀ w ∈ wsA, w.before _ s = true := fun w h => hts w (List.mem_cons_of_mem _ h)
  have hown : s.vm.findClass RX1 = some m.cls := findClass_of_methodNamed B.named
  have hlocks := B.notSynchronized
  have hin : meth.name = "<init>" := (name_of_methodNamed B.named B.method).1
  subst hsz
  have hD := hD0.self (sz := s.heap.size)
  generalize hAe : va_A [(h, .inr (1, [.null, .null, .null, .null, .int (iI 0), .int (iI 0), .int (iI 0)]))] s.heap.size = A at hD ⊢
  have hA : ∀ q : Nat, s.heap.size ≤ q → A q := fun q h => by rw [← hAe]; exact Or.inr h
  have hS : va_S A s.heap s.heap [] := va_S.rf
  have hP : va_P (dC, dI) vwCl [(h, .inr (1, [.null, .null, .null, .null, .int (iI 0), .int (iI 0), .int (iI 0)]))] s.heap := hP
  have hl := lv_entry ([.ref h]) (n := 2) (Nat.le_of_ble_eq_true rfl)
  rw [lg_entry_eq]
  generalize (lg_sl ([.ref h]) ++ List.replicate (2 - (lg_sl ([.ref h])).length) Slot.unset).toArray = ls at hl ⊢
  have hl : lv_has ls 2 [(0, .ref h)] := hl
  refine lv_aload_n hx hb dX1_init_0 rfl (lv_at hl 0 rfl) ?_
  refine W.objInit hx hb hown (hw _ mA_17) (hw _ mA_18) (hw _ mA_19) rfl (by rw [hml]; exact hl.1) rfl dX1_init_1 (Nat.le_of_ble_eq_true rfl) (Nat.le_of_ble_eq_true rfl) ?_
  refine W.eq (g2 := F0 m 4 ls []) rfl ?_
  refine lv_aload_n hx hb dX1_init_4 rfl (lv_at hl 0 rfl) ?_
  refine ix_iconst (n := 5) hx hb dX1_init_5 ?_
  refine va_newa (atype := .int) (N' := 5) (ty := .int) (a0 := (5, .inl (aI (fun _ => 0)))) hx hb (hw _ mA_52) rfl hK hP hD hS hA (fun _ => rfl) (by decide) (by decide) (by decide) (Nat.le_of_ble_eq_true rfl) (Nat.le_of_ble_eq_true rfl) dX1_init_6 (fun n cI H hK hP hD hS => ?_)
  have hK := hK.sub (tys' := [(cI, .int)]) [0] rfl
  have hP : va_P (dC, dI) vwCl [(h, .inr (1, [.null, .null, .null, .null, .int (iI 0), .int (iI 0), .int (iI 0)])), (n, .inl (cI, 5, .inl (aI (fun _ => 0))))] H := hP
  have hD : va_D A [(h, .inr (1, [.null, .null, .null, .null, .int (iI 0), .int (iI 0), .int (iI 0)])), (n, .inl (cI, 5, .inl (aI (fun _ => 0))))] := hD
  refine va_putF (D := (dC, dI)) (ci := 1) (v := .ref n) (ty := .array .int) (C := RX1) (T := TX1) (N := 7) hx hb hw inX1 tyX1 tyX1_ok nmX1 hown hK hP hD hS 0 rfl rfl 0 (by decide) (hw _ mA_53) (fun _ h9 => h9) rfl hin rfl (by decide +kernel) rfl rfl (Nat.le_of_ble_eq_true rfl) dX1_init_8 (fun H locs hP hD hS => ?_)
  have hP : va_P (dC, dI) vwCl [(h, .inr (1, [.ref n, .null, .null, .null, .int (iI 0), .int (iI 0), .int (iI 0)])), (n, .inl (cI, 5, .inl (aI (fun _ => 0))))] H := hP
  have hD : va_D A [(h, .inr (1, [.ref n, .null, .null, .null, .int (iI 0), .int (iI 0), .int (iI 0)])), (n, .inl (cI, 5, .inl (aI (fun _ => 0))))] := hD
  refine lv_aload_n hx hb dX1_init_11 rfl (lv_at hl 0 rfl) ?_
  refine ix_iconst (n := 5) hx hb dX1_init_12 ?_
  refine va_newa (atype := .int) (N' := 5) (ty := .int) (a0 := (5, .inl (aI (fun _ => 0)))) hx hb (hw _ mA_52) rfl hK hP hD hS hA (fun _ => rfl) (by decide) (by decide) (by decide) (Nat.le_of_ble_eq_true rfl) (Nat.le_of_ble_eq_true rfl) dX1_init_13 (fun r cc1 H hK hP hD hS => ?_)
  have ec : cI = cc1 := Option.some.inj ((hK.2 0 _ rfl).2.symm.trans (hK.2 1 _ rfl).2)
  subst ec
  have hK := hK.sub (tys' := [(cI, .int)]) [0] rfl
  have hP : va_P (dC, dI) vwCl [(h, .inr (1, [.ref n, .null, .null, .null, .int (iI 0), .int (iI 0), .int (iI 0)])), (n, .inl (cI, 5, .inl (aI (fun _ => 0)))), (r, .inl (cI, 5, .inl (aI (fun _ => 0))))] H := hP
  have hD : va_D A [(h, .inr (1, [.ref n, .null, .null, .null, .int (iI 0), .int (iI 0), .int (iI 0)])), (n, .inl (cI, 5, .inl (aI (fun _ => 0)))), (r, .inl (cI, 5, .inl (aI (fun _ => 0))))] := hD
  refine va_putF (D := (dC, dI)) (ci := 1) (v := .ref r) (ty := .array .int) (C := RX1) (T := TX1) (N := 7) hx hb hw inX1 tyX1 tyX1_ok nmX1 hown hK hP hD hS 0 rfl rfl 1 (by decide) (hw _ mA_54) (fun _ h9 => h9) rfl hin rfl (by decide +kernel) rfl rfl (Nat.le_of_ble_eq_true rfl) dX1_init_15 (fun H locs hP hD hS => ?_)
  have hP : va_P (dC, dI) vwCl [(h, .inr (1, [.ref n, .ref r, .null, .null, .int (iI 0), .int (iI 0), .int (iI 0)])), (n, .inl (cI, 5, .inl (aI (fun _ => 0)))), (r, .inl (cI, 5, .inl (aI (fun _ => 0))))] H := hP
  have hD : va_D A [(h, .inr (1, [.ref n, .ref r, .null, .null, .int (iI 0), .int (iI 0), .int (iI 0)])), (n, .inl (cI, 5, .inl (aI (fun _ => 0)))), (r, .inl (cI, 5, .inl (aI (fun _ => 0))))] := hD
  refine lv_aload_n hx hb dX1_init_18 rfl (lv_at hl 0 rfl) ?_
  refine ix_iconst (n := 5) hx hb dX1_init_19 ?_
  refine va_newa (atype := .int) (N' := 5) (ty := .int) (a0 := (5, .inl (aI (fun _ => 0)))) hx hb (hw _ mA_52) rfl hK hP hD hS hA (fun _ => rfl) (by decide) (by decide) (by decide) (Nat.le_of_ble_eq_true rfl) (Nat.le_of_ble_eq_true rfl) dX1_init_20 (fun d cc2 H hK hP hD hS => ?_)
  have ec : cI = cc2 := Option.some.inj ((hK.2 0 _ rfl).2.symm.trans (hK.2 1 _ rfl).2)
  subst ec
  have hK := hK.sub (tys' := [(cI, .int)]) [0] rfl
  have hP : va_P (dC, dI) vwCl [(h, .inr (1, [.ref n, .ref r, .null, .null, .int (iI 0), .int (iI 0), .int (iI 0)])), (n, .inl (cI, 5, .inl (aI (fun _ => 0)))), (r, .inl (cI, 5, .inl (aI (fun _ => 0)))), (d, .inl (cI, 5, .inl (aI (fun _ => 0))))] H := hP
  have hD : va_D A [(h, .inr (1, [.ref n, .ref r, .null, .null, .int (iI 0), .int (iI 0), .int (iI 0)])), (n, .inl (cI, 5, .inl (aI (fun _ => 0)))), (r, .inl (cI, 5, .inl (aI (fun _ => 0)))), (d, .inl (cI, 5, .inl (aI (fun _ => 0))))] := hD
  refine va_putF (D := (dC, dI)) (ci := 1) (v := .ref d) (ty := .array .int) (C := RX1) (T := TX1) (N := 7) hx hb hw inX1 tyX1 tyX1_ok nmX1 hown hK hP hD hS 0 rfl rfl 2 (by decide) (hw _ mA_55) (fun _ h9 => h9) rfl hin rfl (by decide +kernel) rfl rfl (Nat.le_of_ble_eq_true rfl) dX1_init_22 (fun H locs hP hD hS => ?_)
  have hP : va_P (dC, dI) vwCl [(h, .inr (1, [.ref n, .ref r, .ref d, .null, .int (iI 0), .int (iI 0), .int (iI 0)])), (n, .inl (cI, 5, .inl (aI (fun _ => 0)))), (r, .inl (cI, 5, .inl (aI (fun _ => 0)))), (d, .inl (cI, 5, .inl (aI (fun _ => 0))))] H := hP
  have hD : va_D A [(h, .inr (1, [.ref n, .ref r, .ref d, .null, .int (iI 0), .int (iI 0), .int (iI 0)])), (n, .inl (cI, 5, .inl (aI (fun _ => 0)))), (r, .inl (cI, 5, .inl (aI (fun _ => 0)))), (d, .inl (cI, 5, .inl (aI (fun _ => 0))))] := hD
  refine lv_aload_n hx hb dX1_init_25 rfl (lv_at hl 0 rfl) ?_
  refine ix_iconst (n := 4) hx hb dX1_init_26 ?_
  refine va_newq (N' := 4) (C := RX0) hx hb hown (hw _ mA_20) hnb.2.1 hK hP hD hS hA (by decide) (by decide) (by decide) (Nat.le_of_ble_eq_true rfl) (Nat.le_of_ble_eq_true rfl) dX1_init_27 (fun f cF H hK hP hD hS => ?_)
  have hK := hK.sub (tys' := [(cI, .int), (cF, .object RX0)]) [0, 1] rfl
  have hP : va_P (dC, dI) vwCl [(h, .inr (1, [.ref n, .ref r, .ref d, .null, .int (iI 0), .int (iI 0), .int (iI 0)])), (n, .inl (cI, 5, .inl (aI (fun _ => 0)))), (r, .inl (cI, 5, .inl (aI (fun _ => 0)))), (d, .inl (cI, 5, .inl (aI (fun _ => 0)))), (f, .inl (cF, 4, .inr (.inr (.inr (.inr (fun _ => none))))))] H := hP
  have hD : va_D A [(h, .inr (1, [.ref n, .ref r, .ref d, .null, .int (iI 0), .int (iI 0), .int (iI 0)])), (n, .inl (cI, 5, .inl (aI (fun _ => 0)))), (r, .inl (cI, 5, .inl (aI (fun _ => 0)))), (d, .inl (cI, 5, .inl (aI (fun _ => 0)))), (f, .inl (cF, 4, .inr (.inr (.inr (.inr (fun _ => none))))))] := hD
  refine va_putF (D := (dC, dI)) (ci := 1) (v := .ref f) (ty := .array (.object "RadicalAnswers$Factor")) (C := RX1) (T := TX1) (N := 7) hx hb hw inX1 tyX1 tyX1_ok nmX1 hown hK hP hD hS 0 rfl rfl 3 (by decide) (hw _ mA_56) (fun _ h9 => h9) rfl hin rfl (by decide +kernel) rfl rfl (Nat.le_of_ble_eq_true rfl) dX1_init_30 (fun H locs hP hD hS => ?_)
  have hP : va_P (dC, dI) vwCl [(h, .inr (1, [.ref n, .ref r, .ref d, .ref f, .int (iI 0), .int (iI 0), .int (iI 0)])), (n, .inl (cI, 5, .inl (aI (fun _ => 0)))), (r, .inl (cI, 5, .inl (aI (fun _ => 0)))), (d, .inl (cI, 5, .inl (aI (fun _ => 0)))), (f, .inl (cF, 4, .inr (.inr (.inr (.inr (fun _ => none))))))] H := hP
  have hD : va_D A [(h, .inr (1, [.ref n, .ref r, .ref d, .ref f, .int (iI 0), .int (iI 0), .int (iI 0)])), (n, .inl (cI, 5, .inl (aI (fun _ => 0)))), (r, .inl (cI, 5, .inl (aI (fun _ => 0)))), (d, .inl (cI, 5, .inl (aI (fun _ => 0)))), (f, .inl (cF, 4, .inr (.inr (.inr (.inr (fun _ => none))))))] := hD
  refine ix_iconst (n := 0) hx hb dX1_init_33 ?_
  refine lv_istore_n (lv' := [(1, .int (iI 0)), (0, .ref h)]) hx hb dX1_init_34 rfl hl (by decide) rfl (fun ls hl => ?_)
  refine lv_iload_n hx hb dX1_init_35 rfl (lv_at hl 0 rfl) ?_
  refine lv_aload_n hx hb dX1_init_36 rfl (lv_at hl 1 rfl) ?_
  refine va_get (D := (dC, dI)) (ci := 1) (v := .ref f) (C := RX1) (T := TX1) (N := 7) hx hb hw inX1 hown hK hP 0 rfl rfl 3 (by decide) (hw _ mA_56) (fun _ h9 => h9) rfl dX1_init_37 ?_
  refine va_alen (v := iI 4) hx hb hK hP 4 1 rfl rfl rfl dX1_init_40 ?_
  refine ix_icmp_ge (tgt := 63) hx hb dX1_init_41 (by decide) (by decide) (by decide) (fun c3 => absurd c3 (by decide)) (fun _ => ?_)
  refine lv_aload_n hx hb dX1_init_44 rfl (lv_at hl 1 rfl) ?_
  refine va_get (D := (dC, dI)) (ci := 1) (v := .ref f) (C := RX1) (T := TX1) (N := 7) hx hb hw inX1 hown hK hP 0 rfl rfl 3 (by decide) (hw _ mA_56) (fun _ h9 => h9) rfl dX1_init_45 ?_
  refine lv_iload_n hx hb dX1_init_48 rfl (lv_at hl 0 rfl) ?_
  refine va_new (ci := 0) (fs := fl (fun _ => 0)) (C := RX0) (T := TX0) (N := 6) hx hb hw inX0 tyX0 tyX0_ok hown (hw _ mA_20) (hw _ mA_22) (hw _ mA_2) hK hP hD hS hA rfl (fun j hj => by rcases (show j = 0 ∨ j = 1 ∨ j = 2 ∨ j = 3 ∨ j = 4 ∨ j = 5 by omega) with rfl | rfl | rfl | rfl | rfl | rfl <;> rfl) (Nat.le_of_ble_eq_true rfl) (Nat.le_of_ble_eq_true rfl) dX1_init_49 (fun y0 H hP hD hS => ?_)
  have hP : va_P (dC, dI) vwCl [(h, .inr (1, [.ref n, .ref r, .ref d, .ref f, .int (iI 0), .int (iI 0), .int (iI 0)])), (n, .inl (cI, 5, .inl (aI (fun _ => 0)))), (r, .inl (cI, 5, .inl (aI (fun _ => 0)))), (d, .inl (cI, 5, .inl (aI (fun _ => 0)))), (f, .inl (cF, 4, .inr (.inr (.inr (.inr (fun _ => none)))))), (y0, .inr (0, (fl (fun _ => 0))))] H := hP
  have hD : va_D A [(h, .inr (1, [.ref n, .ref r, .ref d, .ref f, .int (iI 0), .int (iI 0), .int (iI 0)])), (n, .inl (cI, 5, .inl (aI (fun _ => 0)))), (r, .inl (cI, 5, .inl (aI (fun _ => 0)))), (d, .inl (cI, 5, .inl (aI (fun _ => 0)))), (f, .inl (cF, 4, .inr (.inr (.inr (.inr (fun _ => none)))))), (y0, .inr (0, (fl (fun _ => 0))))] := hD
  refine lv_dup hx hb dX1_init_52 rfl ?_
  refine va_callv (va_runIN (As := []) (rest := [.ref y0, .int (iI 0), .ref f]) ⟨hx, hb, hml, hown, hw⟩ (kX0_init l y0) ⟨va_cnB 0 hw (wsA_sub mA_25) rfl rfl rfl (hnb.1 _ mN_23) (hw _ mA_2) (by decide +kernel) ⟨Nat.le_of_ble_eq_true rfl, Nat.le_of_ble_eq_true rfl⟩, rfl, hw _ mA_24⟩ preEq rfl rfl hl.1 rfl (lv_room (Nat.le_of_ble_eq_true rfl)) dX1_init_53 ⟨Nat.le_of_ble_eq_true rfl, Nat.le_of_ble_eq_true rfl⟩) hS (fun q _ h => h.elim) (fun q h => h.elim) (fun u9 t9 H1 locs ht hvm hq9 hB9 hz1 hk1 hS => ?_)
  have hP := pkeep hP (fun q z => hk1 q z (fun f => f))
  generalize H1 = H at hP hS ⊢
  refine ix_aast hx hb hK hP hD hS 4 1 5 0 rfl rfl rfl rfl 0 ck0 (vp_in_iI (by decide) (by decide) (by decide)) rfl dX1_init_56 (fun H locs hP hD hS => ?_)
  have hP : va_P (dC, dI) vwCl [(h, .inr (1, [.ref n, .ref r, .ref d, .ref f, .int (iI 0), .int (iI 0), .int (iI 0)])), (n, .inl (cI, 5, .inl (aI (fun _ => 0)))), (r, .inl (cI, 5, .inl (aI (fun _ => 0)))), (d, .inl (cI, 5, .inl (aI (fun _ => 0)))), (f, .inl (cF, 4, .inr (.inr (.inr (.inr (va_up (fun _ => none) 0 (some y0))))))), (y0, .inr (0, (fl (fun _ => 0))))] H := hP
  have hD : va_D A [(h, .inr (1, [.ref n, .ref r, .ref d, .ref f, .int (iI 0), .int (iI 0), .int (iI 0)])), (n, .inl (cI, 5, .inl (aI (fun _ => 0)))), (r, .inl (cI, 5, .inl (aI (fun _ => 0)))), (d, .inl (cI, 5, .inl (aI (fun _ => 0)))), (f, .inl (cF, 4, .inr (.inr (.inr (.inr (va_up (fun _ => none) 0 (some y0))))))), (y0, .inr (0, (fl (fun _ => 0))))] := hD
  refine ix_iinc (k := 0) (lv2 := [(1, .int (iI 1)), (0, .ref h)]) hx hb dX1_init_57 hl rfl (by decide) rfl (fun ls hl => ?_)
  refine lv_goto (tgt := 35) hx hb dX1_init_60 (by decide) ?_
  refine lv_iload_n hx hb dX1_init_35 rfl (lv_at hl 0 rfl) ?_
  refine lv_aload_n hx hb dX1_init_36 rfl (lv_at hl 1 rfl) ?_
  refine va_get (D := (dC, dI)) (ci := 1) (v := .ref f) (C := RX1) (T := TX1) (N := 7) hx hb hw inX1 hown hK hP 0 rfl rfl 3 (by decide) (hw _ mA_56) (fun _ h9 => h9) rfl dX1_init_37 ?_
  refine va_alen (v := iI 4) hx hb hK hP 4 1 rfl rfl rfl dX1_init_40 ?_
  refine ix_icmp_ge (tgt := 63) hx hb dX1_init_41 (by decide) (by decide) (by decide) (fun c4 => absurd c4 (by decide)) (fun _ => ?_)
  refine lv_aload_n hx hb dX1_init_44 rfl (lv_at hl 1 rfl) ?_
  refine va_get (D := (dC, dI)) (ci := 1) (v := .ref f) (C := RX1) (T := TX1) (N := 7) hx hb hw inX1 hown hK hP 0 rfl rfl 3 (by decide) (hw _ mA_56) (fun _ h9 => h9) rfl dX1_init_45 ?_
  refine lv_iload_n hx hb dX1_init_48 rfl (lv_at hl 0 rfl) ?_
  refine va_new (ci := 0) (fs := fl (fun _ => 0)) (C := RX0) (T := TX0) (N := 6) hx hb hw inX0 tyX0 tyX0_ok hown (hw _ mA_20) (hw _ mA_22) (hw _ mA_2) hK hP hD hS hA rfl (fun j hj => by rcases (show j = 0 ∨ j = 1 ∨ j = 2 ∨ j = 3 ∨ j = 4 ∨ j = 5 by omega) with rfl | rfl | rfl | rfl | rfl | rfl <;> rfl) (Nat.le_of_ble_eq_true rfl) (Nat.le_of_ble_eq_true rfl) dX1_init_49 (fun y1 H hP hD hS => ?_)
  have hP : va_P (dC, dI) vwCl [(h, .inr (1, [.ref n, .ref r, .ref d, .ref f, .int (iI 0), .int (iI 0), .int (iI 0)])), (n, .inl (cI, 5, .inl (aI (fun _ => 0)))), (r, .inl (cI, 5, .inl (aI (fun _ => 0)))), (d, .inl (cI, 5, .inl (aI (fun _ => 0)))), (f, .inl (cF, 4, .inr (.inr (.inr (.inr (va_up (fun _ => none) 0 (some y0))))))), (y0, .inr (0, (fl (fun _ => 0)))), (y1, .inr (0, (fl (fun _ => 0))))] H := hP
  have hD : va_D A [(h, .inr (1, [.ref n, .ref r, .ref d, .ref f, .int (iI 0), .int (iI 0), .int (iI 0)])), (n, .inl (cI, 5, .inl (aI (fun _ => 0)))), (r, .inl (cI, 5, .inl (aI (fun _ => 0)))), (d, .inl (cI, 5, .inl (aI (fun _ => 0)))), (f, .inl (cF, 4, .inr (.inr (.inr (.inr (va_up (fun _ => none) 0 (some y0))))))), (y0, .inr (0, (fl (fun _ => 0)))), (y1, .inr (0, (fl (fun _ => 0))))] := hD
  refine lv_dup hx hb dX1_init_52 rfl ?_
  refine va_callv (va_runIN (As := []) (rest := [.ref y1, .int (iI 1), .ref f]) ⟨hx, hb, hml, hown, hw⟩ (kX0_init l y1) ⟨va_cnB 0 hw (wsA_sub mA_25) rfl rfl rfl (hnb.1 _ mN_23) (hw _ mA_2) (by decide +kernel) ⟨Nat.le_of_ble_eq_true rfl, Nat.le_of_ble_eq_true rfl⟩, rfl, hw _ mA_24⟩ preEq rfl rfl hl.1 rfl (lv_room (Nat.le_of_ble_eq_true rfl)) dX1_init_53 ⟨Nat.le_of_ble_eq_true rfl, Nat.le_of_ble_eq_true rfl⟩) hS (fun q _ h => h.elim) (fun q h => h.elim) (fun u9 t9 H1 locs ht hvm hq9 hB9 hz1 hk1 hS => ?_)
  have hP := pkeep hP (fun q z => hk1 q z (fun f => f))
  generalize H1 = H at hP hS ⊢
  refine ix_aast hx hb hK hP hD hS 4 1 6 0 rfl rfl rfl rfl 1 ck1 (vp_in_iI (by decide) (by decide) (by decide)) rfl dX1_init_56 (fun H locs hP hD hS => ?_)
  have hP : va_P (dC, dI) vwCl [(h, .inr (1, [.ref n, .ref r, .ref d, .ref f, .int (iI 0), .int (iI 0), .int (iI 0)])), (n, .inl (cI, 5, .inl (aI (fun _ => 0)))), (r, .inl (cI, 5, .inl (aI (fun _ => 0)))), (d, .inl (cI, 5, .inl (aI (fun _ => 0)))), (f, .inl (cF, 4, .inr (.inr (.inr (.inr (va_up (va_up (fun _ => none) 0 (some y0)) 1 (some y1))))))), (y0, .inr (0, (fl (fun _ => 0)))), (y1, .inr (0, (fl (fun _ => 0))))] H := hP
  have hD : va_D A [(h, .inr (1, [.ref n, .ref r, .ref d, .ref f, .int (iI 0), .int (iI 0), .int (iI 0)])), (n, .inl (cI, 5, .inl (aI (fun _ => 0)))), (r, .inl (cI, 5, .inl (aI (fun _ => 0)))), (d, .inl (cI, 5, .inl (aI (fun _ => 0)))), (f, .inl (cF, 4, .inr (.inr (.inr (.inr (va_up (va_up (fun _ => none) 0 (some y0)) 1 (some y1))))))), (y0, .inr (0, (fl (fun _ => 0)))), (y1, .inr (0, (fl (fun _ => 0))))] := hD
  refine ix_iinc (k := 0) (lv2 := [(1, .int (iI 2)), (0, .ref h)]) hx hb dX1_init_57 hl rfl (by decide) rfl (fun ls hl => ?_)
  refine lv_goto (tgt := 35) hx hb dX1_init_60 (by decide) ?_
  refine lv_iload_n hx hb dX1_init_35 rfl (lv_at hl 0 rfl) ?_
  refine lv_aload_n hx hb dX1_init_36 rfl (lv_at hl 1 rfl) ?_
  refine va_get (D := (dC, dI)) (ci := 1) (v := .ref f) (C := RX1) (T := TX1) (N := 7) hx hb hw inX1 hown hK hP 0 rfl rfl 3 (by decide) (hw _ mA_56) (fun _ h9 => h9) rfl dX1_init_37 ?_
  refine va_alen (v := iI 4) hx hb hK hP 4 1 rfl rfl rfl dX1_init_40 ?_
  refine ix_icmp_ge (tgt := 63) hx hb dX1_init_41 (by decide) (by decide) (by decide) (fun c5 => absurd c5 (by decide)) (fun _ => ?_)
  refine lv_aload_n hx hb dX1_init_44 rfl (lv_at hl 1 rfl) ?_
  refine va_get (D := (dC, dI)) (ci := 1) (v := .ref f) (C := RX1) (T := TX1) (N := 7) hx hb hw inX1 hown hK hP 0 rfl rfl 3 (by decide) (hw _ mA_56) (fun _ h9 => h9) rfl dX1_init_45 ?_
  refine lv_iload_n hx hb dX1_init_48 rfl (lv_at hl 0 rfl) ?_
  refine va_new (ci := 0) (fs := fl (fun _ => 0)) (C := RX0) (T := TX0) (N := 6) hx hb hw inX0 tyX0 tyX0_ok hown (hw _ mA_20) (hw _ mA_22) (hw _ mA_2) hK hP hD hS hA rfl (fun j hj => by rcases (show j = 0 ∨ j = 1 ∨ j = 2 ∨ j = 3 ∨ j = 4 ∨ j = 5 by omega) with rfl | rfl | rfl | rfl | rfl | rfl <;> rfl) (Nat.le_of_ble_eq_true rfl) (Nat.le_of_ble_eq_true rfl) dX1_init_49 (fun y2 H hP hD hS => ?_)
  have hP : va_P (dC, dI) vwCl [(h, .inr (1, [.ref n, .ref r, .ref d, .ref f, .int (iI 0), .int (iI 0), .int (iI 0)])), (n, .inl (cI, 5, .inl (aI (fun _ => 0)))), (r, .inl (cI, 5, .inl (aI (fun _ => 0)))), (d, .inl (cI, 5, .inl (aI (fun _ => 0)))), (f, .inl (cF, 4, .inr (.inr (.inr (.inr (va_up (va_up (fun _ => none) 0 (some y0)) 1 (some y1))))))), (y0, .inr (0, (fl (fun _ => 0)))), (y1, .inr (0, (fl (fun _ => 0)))), (y2, .inr (0, (fl (fun _ => 0))))] H := hP
  have hD : va_D A [(h, .inr (1, [.ref n, .ref r, .ref d, .ref f, .int (iI 0), .int (iI 0), .int (iI 0)])), (n, .inl (cI, 5, .inl (aI (fun _ => 0)))), (r, .inl (cI, 5, .inl (aI (fun _ => 0)))), (d, .inl (cI, 5, .inl (aI (fun _ => 0)))), (f, .inl (cF, 4, .inr (.inr (.inr (.inr (va_up (va_up (fun _ => none) 0 (some y0)) 1 (some y1))))))), (y0, .inr (0, (fl (fun _ => 0)))), (y1, .inr (0, (fl (fun _ => 0)))), (y2, .inr (0, (fl (fun _ => 0))))] := hD
  refine lv_dup hx hb dX1_init_52 rfl ?_
  refine va_callv (va_runIN (As := []) (rest := [.ref y2, .int (iI 2), .ref f]) ⟨hx, hb, hml, hown, hw⟩ (kX0_init l y2) ⟨va_cnB 0 hw (wsA_sub mA_25) rfl rfl rfl (hnb.1 _ mN_23) (hw _ mA_2) (by decide +kernel) ⟨Nat.le_of_ble_eq_true rfl, Nat.le_of_ble_eq_true rfl⟩, rfl, hw _ mA_24⟩ preEq rfl rfl hl.1 rfl (lv_room (Nat.le_of_ble_eq_true rfl)) dX1_init_53 ⟨Nat.le_of_ble_eq_true rfl, Nat.le_of_ble_eq_true rfl⟩) hS (fun q _ h => h.elim) (fun q h => h.elim) (fun u9 t9 H1 locs ht hvm hq9 hB9 hz1 hk1 hS => ?_)
  have hP := pkeep hP (fun q z => hk1 q z (fun f => f))
  generalize H1 = H at hP hS ⊢
  refine ix_aast hx hb hK hP hD hS 4 1 7 0 rfl rfl rfl rfl 2 ck2 (vp_in_iI (by decide) (by decide) (by decide)) rfl dX1_init_56 (fun H locs hP hD hS => ?_)
  have hP : va_P (dC, dI) vwCl [(h, .inr (1, [.ref n, .ref r, .ref d, .ref f, .int (iI 0), .int (iI 0), .int (iI 0)])), (n, .inl (cI, 5, .inl (aI (fun _ => 0)))), (r, .inl (cI, 5, .inl (aI (fun _ => 0)))), (d, .inl (cI, 5, .inl (aI (fun _ => 0)))), (f, .inl (cF, 4, .inr (.inr (.inr (.inr (va_up (va_up (va_up (fun _ => none) 0 (some y0)) 1 (some y1)) 2 (some y2))))))), (y0, .inr (0, (fl (fun _ => 0)))), (y1, .inr (0, (fl (fun _ => 0)))), (y2, .inr (0, (fl (fun _ => 0))))] H := hP
  have hD : va_D A [(h, .inr (1, [.ref n, .ref r, .ref d, .ref f, .int (iI 0), .int (iI 0), .int (iI 0)])), (n, .inl (cI, 5, .inl (aI (fun _ => 0)))), (r, .inl (cI, 5, .inl (aI (fun _ => 0)))), (d, .inl (cI, 5, .inl (aI (fun _ => 0)))), (f, .inl (cF, 4, .inr (.inr (.inr (.inr (va_up (va_up (va_up (fun _ => none) 0 (some y0)) 1 (some y1)) 2 (some y2))))))), (y0, .inr (0, (fl (fun _ => 0)))), (y1, .inr (0, (fl (fun _ => 0)))), (y2, .inr (0, (fl (fun _ => 0))))] := hD
  refine ix_iinc (k := 0) (lv2 := [(1, .int (iI 3)), (0, .ref h)]) hx hb dX1_init_57 hl rfl (by decide) rfl (fun ls hl => ?_)
  refine lv_goto (tgt := 35) hx hb dX1_init_60 (by decide) ?_
  refine lv_iload_n hx hb dX1_init_35 rfl (lv_at hl 0 rfl) ?_
  refine lv_aload_n hx hb dX1_init_36 rfl (lv_at hl 1 rfl) ?_
  refine va_get (D := (dC, dI)) (ci := 1) (v := .ref f) (C := RX1) (T := TX1) (N := 7) hx hb hw inX1 hown hK hP 0 rfl rfl 3 (by decide) (hw _ mA_56) (fun _ h9 => h9) rfl dX1_init_37 ?_
  refine va_alen (v := iI 4) hx hb hK hP 4 1 rfl rfl rfl dX1_init_40 ?_
  refine ix_icmp_ge (tgt := 63) hx hb dX1_init_41 (by decide) (by decide) (by decide) (fun c6 => absurd c6 (by decide)) (fun _ => ?_)
  refine lv_aload_n hx hb dX1_init_44 rfl (lv_at hl 1 rfl) ?_
  refine va_get (D := (dC, dI)) (ci := 1) (v := .ref f) (C := RX1) (T := TX1) (N := 7) hx hb hw inX1 hown hK hP 0 rfl rfl 3 (by decide) (hw _ mA_56) (fun _ h9 => h9) rfl dX1_init_45 ?_
  refine lv_iload_n hx hb dX1_init_48 rfl (lv_at hl 0 rfl) ?_
  refine va_new (ci := 0) (fs := fl (fun _ => 0)) (C := RX0) (T := TX0) (N := 6) hx hb hw inX0 tyX0 tyX0_ok hown (hw _ mA_20) (hw _ mA_22) (hw _ mA_2) hK hP hD hS hA rfl (fun j hj => by rcases (show j = 0 ∨ j = 1 ∨ j = 2 ∨ j = 3 ∨ j = 4 ∨ j = 5 by omega) with rfl | rfl | rfl | rfl | rfl | rfl <;> rfl) (Nat.le_of_ble_eq_true rfl) (Nat.le_of_ble_eq_true rfl) dX1_init_49 (fun y3 H hP hD hS => ?_)
  have hP : va_P (dC, dI) vwCl [(h, .inr (1, [.ref n, .ref r, .ref d, .ref f, .int (iI 0), .int (iI 0), .int (iI 0)])), (n, .inl (cI, 5, .inl (aI (fun _ => 0)))), (r, .inl (cI, 5, .inl (aI (fun _ => 0)))), (d, .inl (cI, 5, .inl (aI (fun _ => 0)))), (f, .inl (cF, 4, .inr (.inr (.inr (.inr (va_up (va_up (va_up (fun _ => none) 0 (some y0)) 1 (some y1)) 2 (some y2))))))), (y0, .inr (0, (fl (fun _ => 0)))), (y1, .inr (0, (fl (fun _ => 0)))), (y2, .inr (0, (fl (fun _ => 0)))), (y3, .inr (0, (fl (fun _ => 0))))] H := hP
  have hD : va_D A [(h, .inr (1, [.ref n, .ref r, .ref d, .ref f, .int (iI 0), .int (iI 0), .int (iI 0)])), (n, .inl (cI, 5, .inl (aI (fun _ => 0)))), (r, .inl (cI, 5, .inl (aI (fun _ => 0)))), (d, .inl (cI, 5, .inl (aI (fun _ => 0)))), (f, .inl (cF, 4, .inr (.inr (.inr (.inr (va_up (va_up (va_up (fun _ => none) 0 (some y0)) 1 (some y1)) 2 (some y2))))))), (y0, .inr (0, (fl (fun _ => 0)))), (y1, .inr (0, (fl (fun _ => 0)))), (y2, .inr (0, (fl (fun _ => 0)))), (y3, .inr (0, (fl (fun _ => 0))))] := hD
  refine lv_dup hx hb dX1_init_52 rfl ?_
  refine va_callv (va_runIN (As := []) (rest := [.ref y3, .int (iI 3), .ref f]) ⟨hx, hb, hml, hown, hw⟩ (kX0_init l y3) ⟨va_cnB 0 hw (wsA_sub mA_25) rfl rfl rfl (hnb.1 _ mN_23) (hw _ mA_2) (by decide +kernel) ⟨Nat.le_of_ble_eq_true rfl, Nat.le_of_ble_eq_true rfl⟩, rfl, hw _ mA_24⟩ preEq rfl rfl hl.1 rfl (lv_room (Nat.le_of_ble_eq_true rfl)) dX1_init_53 ⟨Nat.le_of_ble_eq_true rfl, Nat.le_of_ble_eq_true rfl⟩) hS (fun q _ h => h.elim) (fun q h => h.elim) (fun u9 t9 H1 locs ht hvm hq9 hB9 hz1 hk1 hS => ?_)
  have hP := pkeep hP (fun q z => hk1 q z (fun f => f))
  generalize H1 = H at hP hS ⊢
  refine ix_aast hx hb hK hP hD hS 4 1 8 0 rfl rfl rfl rfl 3 ck3 (vp_in_iI (by decide) (by decide) (by decide)) rfl dX1_init_56 (fun H locs hP hD hS => ?_)
  have hP : va_P (dC, dI) vwCl [(h, .inr (1, [.ref n, .ref r, .ref d, .ref f, .int (iI 0), .int (iI 0), .int (iI 0)])), (n, .inl (cI, 5, .inl (aI (fun _ => 0)))), (r, .inl (cI, 5, .inl (aI (fun _ => 0)))), (d, .inl (cI, 5, .inl (aI (fun _ => 0)))), (f, .inl (cF, 4, .inr (.inr (.inr (.inr (va_up (va_up (va_up (va_up (fun _ => none) 0 (some y0)) 1 (some y1)) 2 (some y2)) 3 (some y3))))))), (y0, .inr (0, (fl (fun _ => 0)))), (y1, .inr (0, (fl (fun _ => 0)))), (y2, .inr (0, (fl (fun _ => 0)))), (y3, .inr (0, (fl (fun _ => 0))))] H := hP
  have hD : va_D A [(h, .inr (1, [.ref n, .ref r, .ref d, .ref f, .int (iI 0), .int (iI 0), .int (iI 0)])), (n, .inl (cI, 5, .inl (aI (fun _ => 0)))), (r, .inl (cI, 5, .inl (aI (fun _ => 0)))), (d, .inl (cI, 5, .inl (aI (fun _ => 0)))), (f, .inl (cF, 4, .inr (.inr (.inr (.inr (va_up (va_up (va_up (va_up (fun _ => none) 0 (some y0)) 1 (some y1)) 2 (some y2)) 3 (some y3))))))), (y0, .inr (0, (fl (fun _ => 0)))), (y1, .inr (0, (fl (fun _ => 0)))), (y2, .inr (0, (fl (fun _ => 0)))), (y3, .inr (0, (fl (fun _ => 0))))] := hD
  refine ix_iinc (k := 0) (lv2 := [(1, .int (iI 4)), (0, .ref h)]) hx hb dX1_init_57 hl rfl (by decide) rfl (fun ls hl => ?_)
  refine lv_goto (tgt := 35) hx hb dX1_init_60 (by decide) ?_
  refine lv_iload_n hx hb dX1_init_35 rfl (lv_at hl 0 rfl) ?_
  refine lv_aload_n hx hb dX1_init_36 rfl (lv_at hl 1 rfl) ?_
  refine va_get (D := (dC, dI)) (ci := 1) (v := .ref f) (C := RX1) (T := TX1) (N := 7) hx hb hw inX1 hown hK hP 0 rfl rfl 3 (by decide) (hw _ mA_56) (fun _ h9 => h9) rfl dX1_init_37 ?_
  refine va_alen (v := iI 4) hx hb hK hP 4 1 rfl rfl rfl dX1_init_40 ?_
  refine ix_icmp_ge (tgt := 63) hx hb dX1_init_41 (by decide) (by decide) (by decide) (fun _ => ?_) (fun c7 => absurd c7 (by decide))
  have e9 : (va_up (va_up (va_up (va_up (fun _ => none) 0 (some y0)) 1 (some y1)) 2 (some y2)) 3 (some y3)) = q4 y0 y1 y2 y3 := by funext j; unfold va_up q4; grind
  rw [e9] at hP hD
  have hP9 := hP.sub (ws' := (cwu h n r d f cI cF (fun _ => 0) ((fun _ => 0), (fun _ => 0), 0, 0, 0, (y0, y1, y2, y3), fun _ _ => 0))) [0, 1, 2, 3, 4, 5, 6, 7, 8] rfl
  have hD9 := hD.sub (ws' := (cwu h n r d f cI cF (fun _ => 0) ((fun _ => 0), (fun _ => 0), 0, 0, 0, (y0, y1, y2, y3), fun _ _ => 0))) [0, 1, 2, 3, 4, 5, 6, 7, 8] (by decide) rfl
  exact W.vret hx hb hr (fun t ht hW => ⟨⟨(n, r, d, f, (y0, y1, y2, y3), cI, cF), rfl, trivial, by rw [ht]; exact hP9, va_K.moved hW.alike hK, hD9⟩, hS.F ht⟩) hS.2.2 dX1_init_63
