set_option maxHeartbeats 4000000 in
set_option maxRecDepth 100000 in
/-- the splitting, by the reference -/
theorem kX2_find (l : Launch) (dC : Nat → ClassId) (dI : Nat → Nat → Nat) (sz : Nat) (x n r d ya yb yc yo : Nat) (cI cJ : ClassId) (cd cn fc : Int) (X N R D As Bs Cs Os : Int → Int) (hN : ∀ j, -20 ≤ N j ∧ N j ≤ 20) (h5 : n5 N) (hdeg : 0 ≤ f_deg N) (hR5 : n5 R) (hD5 : n5 D) : Met l yX2_find (.code yX2_find cX2_find 7 none :: wsA) ({ frames := 3, cells := 0, slots := 0, locals := 120 }) (va_Pc [.ref x] (fun U => U.heap.size = sz ∧ va_P (dC, dI) vwCl [(x, .inr (2, [.int (iI cd), .ref n, .ref r, .ref d, .int (iI cn), .int (iI fc), .ref ya, .ref yb, .ref yc, .ref yo, .long (lI (X 0)), .long (lI (X 1)), .long (lI (X 2)), .long (lI (X 3)), .long (lI (X 4)), .long (lI (X 5)), .long (lI (X 6))])), (n, .inl (cI, 5, .inl (aI N))), (r, .inl (cJ, 5, .inr (.inl (aL R)))), (d, .inl (cJ, 5, .inr (.inl (aL D)))), (ya, .inl (cI, 5, .inl (aI As))), (yb, .inl (cI, 5, .inl (aI Bs))), (yc, .inl (cI, 5, .inl (aI Cs))), (yo, .inl (cI, 5, .inl (aI Os)))] U.heap ∧ va_K (dC, dI) vwCl [(cI, .int), (cJ, .long)] U ∧ va_D (fun _ => True) [(x, .inr (2, [.int (iI cd), .ref n, .ref r, .ref d, .int (iI cn), .int (iI fc), .ref ya, .ref yb, .ref yc, .ref yo, .long (lI (X 0)), .long (lI (X 1)), .long (lI (X 2)), .long (lI (X 3)), .long (lI (X 4)), .long (lI (X 5)), .long (lI (X 6))])), (n, .inl (cI, 5, .inl (aI N))), (r, .inl (cJ, 5, .inr (.inl (aL R)))), (d, .inl (cJ, 5, .inr (.inl (aL D)))), (ya, .inl (cI, 5, .inl (aI As))), (yb, .inl (cI, 5, .inl (aI Bs))), (yc, .inl (cI, 5, .inl (aI Cs))), (yo, .inl (cI, 5, .inl (aI Os)))] ∧ nb U)) (va_Qv (fun u => RF N u) (fun (u : FS) t9 => va_P (dC, dI) vwCl [(x, .inr (2, [.int (iI cd), .ref n, .ref r, .ref d, .int (iI (f_cont N)), .int (iI u.2.2.1), .ref ya, .ref yb, .ref yc, .ref yo, .long (lI (X 0)), .long (lI (X 1)), .long (lI (X 2)), .long (lI (X 3)), .long (lI (X 4)), .long (lI (X 5)), .long (lI (X 6))])), (n, .inl (cI, 5, .inl (aI N))), (r, .inl (cJ, 5, .inr (.inl (aL u.1)))), (d, .inl (cJ, 5, .inr (.inl (aL u.2.1)))), (ya, .inl (cI, 5, .inl (aI u.2.2.2.1))), (yb, .inl (cI, 5, .inl (aI u.2.2.2.2.1))), (yc, .inl (cI, 5, .inl (aI u.2.2.2.2.2.1))), (yo, .inl (cI, 5, .inl (aI u.2.2.2.2.2.2)))] t9.heap ∧ va_K (dC, dI) vwCl [(cI, .int), (cJ, .long)] t9 ∧ va_D (va_A [(x, .inr (2, [.int (iI cd), .ref n, .ref r, .ref d, .int (iI cn), .int (iI fc), .ref ya, .ref yb, .ref yc, .ref yo, .long (lI (X 0)), .long (lI (X 1)), .long (lI (X 2)), .long (lI (X 3)), .long (lI (X 4)), .long (lI (X 5)), .long (lI (X 6))])), (n, .inl (cI, 5, .inl (aI N))), (r, .inl (cJ, 5, .inr (.inl (aL R)))), (d, .inl (cJ, 5, .inr (.inl (aL D)))), (ya, .inl (cI, 5, .inl (aI As))), (yb, .inl (cI, 5, .inl (aI Bs))), (yc, .inl (cI, 5, .inl (aI Cs))), (yo, .inl (cI, 5, .inl (aI Os)))] sz) [(x, .inr (2, [.int (iI cd), .ref n, .ref r, .ref d, .int (iI (f_cont N)), .int (iI u.2.2.1), .ref ya, .ref yb, .ref yc, .ref yo, .long (lI (X 0)), .long (lI (X 1)), .long (lI (X 2)), .long (lI (X 3)), .long (lI (X 4)), .long (lI (X 5)), .long (lI (X 6))])), (n, .inl (cI, 5, .inl (aI N))), (r, .inl (cJ, 5, .inr (.inl (aL u.1)))), (d, .inl (cJ, 5, .inr (.inl (aL u.2.1)))), (ya, .inl (cI, 5, .inl (aI u.2.2.2.1))), (yb, .inl (cI, 5, .inl (aI u.2.2.2.2.1))), (yc, .inl (cI, 5, .inl (aI u.2.2.2.2.2.1))), (yo, .inl (cI, 5, .inl (aI u.2.2.2.2.2.2)))]) (va_A [(x, .inr (2, [.int (iI cd), .ref n, .ref r, .ref d, .int (iI cn), .int (iI fc), .ref ya, .ref yb, .ref yc, .ref yo, .long (lI (X 0)), .long (lI (X 1)), .long (lI (X 2)), .long (lI (X 3)), .long (lI (X 4)), .long (lI (X 5)), .long (lI (X 6))])), (n, .inl (cI, 5, .inl (aI N))), (r, .inl (cJ, 5, .inr (.inl (aL R)))), (d, .inl (cJ, 5, .inr (.inl (aL D)))), (ya, .inl (cI, 5, .inl (aI As))), (yb, .inl (cI, 5, .inl (aI Bs))), (yc, .inl (cI, 5, .inl (aI Cs))), (yo, .inl (cI, 5, .inl (aI Os)))] sz)) 0 0 (va_A [(x, .inr (2, [.int (iI cd), .ref n, .ref r, .ref d, .int (iI cn), .int (iI fc), .ref ya, .ref yb, .ref yc, .ref yo, .long (lI (X 0)), .long (lI (X 1)), .long (lI (X 2)), .long (lI (X 3)), .long (lI (X 4)), .long (lI (X 5)), .long (lI (X 6))])), (n, .inl (cI, 5, .inl (aI N))), (r, .inl (cJ, 5, .inr (.inl (aL R)))), (d, .inl (cJ, 5, .inr (.inl (aL D)))), (ya, .inl (cI, 5, .inl (aI As))), (yb, .inl (cI, 5, .inl (aI Bs))), (yc, .inl (cI, 5, .inl (aI Cs))), (yo, .inl (cI, 5, .inl (aI Os)))] sz) := by
  refine Met.ofW (cc := cX2_find) (maxL := 7) (ret := none) (by decide) rfl ?_
  intro p e s m args below meth c s₁ B hml hv
  obtain ⟨rfl, hsz, hP, hK, hD0, hnb⟩ := hv
  have hx := B.exec
  have hb := B.bytes
  have hr := B.returns
  have hts := atoms_spec (ws := .code yX2_find cX2_find 7 none :: wsA) B.pre
  have hw : ∀ w ∈ wsA, w.before _ s = true := fun w h => hts w (List.mem_cons_of_mem _ h)
  have hown : s.vm.findClass RX2 = some m.cls := findClass_of_methodNamed B.named
  have hlocks := B.notSynchronized
  subst hsz
  have hD := hD0.self (sz := s.heap.size)
  generalize hAe : va_A [(x, .inr (2, [.int (iI cd), .ref n, .ref r, .ref d, .int (iI cn), .int (iI fc), .ref ya, .ref yb, .ref yc, .ref yo, .long (lI (X 0)), .long (lI (X 1)), .long (lI (X 2)), .long (lI (X 3)), .long (lI (X 4)), .long (lI (X 5)), .long (lI (X 6))])), (n, .inl (cI, 5, .inl (aI N))), (r, .inl (cJ, 5, .inr (.inl (aL R)))), (d, .inl (cJ, 5, .inr (.inl (aL D)))), (ya, .inl (cI, 5, .inl (aI As))), (yb, .inl (cI, 5, .inl (aI Bs))), (yc, .inl (cI, 5, .inl (aI Cs))), (yo, .inl (cI, 5, .inl (aI Os)))] s.heap.size = A at hD ⊢
  have hA : ∀ q : Nat, s.heap.size ≤ q → A q := fun q h => by rw [← hAe]; exact Or.inr h
  have hS : va_S A s.heap s.heap [] := va_S.rf
  have hP : va_P (dC, dI) vwCl [(x, .inr (2, [.int (iI cd), .ref n, .ref r, .ref d, .int (iI cn), .int (iI fc), .ref ya, .ref yb, .ref yc, .ref yo, .long (lI (X 0)), .long (lI (X 1)), .long (lI (X 2)), .long (lI (X 3)), .long (lI (X 4)), .long (lI (X 5)), .long (lI (X 6))])), (n, .inl (cI, 5, .inl (aI N))), (r, .inl (cJ, 5, .inr (.inl (aL R)))), (d, .inl (cJ, 5, .inr (.inl (aL D)))), (ya, .inl (cI, 5, .inl (aI As))), (yb, .inl (cI, 5, .inl (aI Bs))), (yc, .inl (cI, 5, .inl (aI Cs))), (yo, .inl (cI, 5, .inl (aI Os)))] s.heap := hP
  have hl := lv_entry ([.ref x]) (n := 7) (Nat.le_of_ble_eq_true rfl)
  rw [lg_entry_eq]
  generalize (lg_sl ([.ref x]) ++ List.replicate (7 - (lg_sl ([.ref x])).length) Slot.unset).toArray = ls at hl ⊢
  have hl : lv_has ls 7 [(0, .ref x)] := hl
  refine lv_aload_n hx hb dX2_find_0 rfl (lv_at hl 0 rfl) ?_
  refine ix_iconst (n := 0) hx hb dX2_find_1 ?_
  refine va_put (D := (dC, dI)) (ci := 2) (v := .int (iI 0)) (ty := .int) (C := RX2) (T := TX2) (N := 17) hx hb hw inX2 tyX2 tyX2_ok nmX2 hown hK hP hD hS 0 rfl rfl 5 (by decide) (hw _ mA_386) (fun _ h9 => h9) rfl (by decide +kernel) rfl rfl (Nat.le_of_ble_eq_true rfl) dX2_find_2 (fun H locs hP hD hS => ?_)
  have hP : va_P (dC, dI) vwCl [(x, .inr (2, [.int (iI cd), .ref n, .ref r, .ref d, .int (iI cn), .int (iI 0), .ref ya, .ref yb, .ref yc, .ref yo, .long (lI (X 0)), .long (lI (X 1)), .long (lI (X 2)), .long (lI (X 3)), .long (lI (X 4)), .long (lI (X 5)), .long (lI (X 6))])), (n, .inl (cI, 5, .inl (aI N))), (r, .inl (cJ, 5, .inr (.inl (aL R)))), (d, .inl (cJ, 5, .inr (.inl (aL D)))), (ya, .inl (cI, 5, .inl (aI As))), (yb, .inl (cI, 5, .inl (aI Bs))), (yc, .inl (cI, 5, .inl (aI Cs))), (yo, .inl (cI, 5, .inl (aI Os)))] H := hP
  have hD : va_D A [(x, .inr (2, [.int (iI cd), .ref n, .ref r, .ref d, .int (iI cn), .int (iI 0), .ref ya, .ref yb, .ref yc, .ref yo, .long (lI (X 0)), .long (lI (X 1)), .long (lI (X 2)), .long (lI (X 3)), .long (lI (X 4)), .long (lI (X 5)), .long (lI (X 6))])), (n, .inl (cI, 5, .inl (aI N))), (r, .inl (cJ, 5, .inr (.inl (aL R)))), (d, .inl (cJ, 5, .inr (.inl (aL D)))), (ya, .inl (cI, 5, .inl (aI As))), (yb, .inl (cI, 5, .inl (aI Bs))), (yc, .inl (cI, 5, .inl (aI Cs))), (yo, .inl (cI, 5, .inl (aI Os)))] := hD
  refine lv_aload_n hx hb dX2_find_5 rfl (lv_at hl 0 rfl) ?_
  have hPc := hP.sub (ws' := [(x, .inr (2, [.int (iI cd), .ref n, .ref r, .ref d, .int (iI cn), .int (iI 0), .ref ya, .ref yb, .ref yc, .ref yo, .long (lI (X 0)), .long (lI (X 1)), .long (lI (X 2)), .long (lI (X 3)), .long (lI (X 4)), .long (lI (X 5)), .long (lI (X 6))])), (n, .inl (cI, 5, .inl (aI N)))]) [0, 1] rfl
  have hKc := hK.sub (tys' := [(cI, .int)]) [0] rfl
  refine vp_callSi (W.runV (As := []) (rest := []) ⟨hx, hb, hml, hown, hw⟩ (kX2_degree l dC dI x n r d ya yb yc yo cI cJ cd cn 0 X N hN) (cwV 0 hw (gV mA_462 mA_464 mP_18 mA_3 mA_465) rfl rfl rfl (by decide +kernel) ⟨Nat.le_of_ble_eq_true rfl, Nat.le_of_ble_eq_true rfl⟩) ⟨fun a U g mk q => by obtain ⟨q0, qP, qK⟩ := q; exact ⟨q0, qP, va_K.moved (u := U) (U := U.calling g mk a) (Vm.Alike.refl U.vm) qK⟩, va_recv hKc hPc (ci := 2) (q0 := 0) rfl rfl, fun U hU hW => ⟨rfl, by rw [hU]; exact hPc, va_K.moved hW.alike hKc⟩⟩ rfl rfl hl.1 rfl (lv_room (Nat.le_of_ble_eq_true rfl)) dX2_find_6 ⟨Nat.le_of_ble_eq_true rfl, Nat.le_of_ble_eq_true rfl⟩) (fun r1 h2 => ?_)
  subst h2
  have hdc := deg_c N
  have c0 := hN 0
  have c1 := hN 1
  have c2 := hN 2
  have c3 := hN 3
  have c4 := hN 4
  have cr := cont_r hN h5 hdeg
  have hg0 : 0 ≤ (0 : Int) ∧ (0 : Int) ≤ 20 := by decide
  refine lv_istore_n (lv' := [(1, .int (iI (f_deg N))), (0, .ref x)]) hx hb dX2_find_9 rfl hl (by decide) rfl (fun ls hl => ?_)
  refine ix_lconst0 hx hb dX2_find_10 ?_
  refine lv_lstore_n (lv' := [(2, .long (lI 0)), (1, .int (iI (f_deg N))), (0, .ref x)]) hx hb dX2_find_11 rfl hl (by decide) rfl (fun ls hl => ?_)
  refine ix_iconst (n := 0) hx hb dX2_find_12 ?_
  refine lv_istore (lv' := [(4, .int (iI 0)), (2, .long (lI 0)), (1, .int (iI (f_deg N))), (0, .ref x)]) hx hb dX2_find_13 hl (by decide) rfl (fun ls hl => ?_)
  refine lv_iload hx hb dX2_find_15 (lv_at hl 0 rfl) ?_
  refine ix_iconst (n := 5) hx hb dX2_find_17 ?_
  refine ix_icmp_ge (tgt := 40) hx hb dX2_find_18 (by decide) (by decide) (by decide) (fun c3 => absurd c3 (by decide)) (fun _ => ?_)
  refine lv_lload_n hx hb dX2_find_21 rfl (lv_at hl 1 rfl) ?_
  refine lv_aload_n hx hb dX2_find_22 rfl (lv_at hl 3 rfl) ?_
  refine va_get (D := (dC, dI)) (ci := 2) (v := .ref n) (C := RX2) (T := TX2) (N := 17) hx hb hw inX2 hown hK hP 0 rfl rfl 1 (by decide) (hw _ mA_382) (fun _ h9 => h9) rfl dX2_find_23 ?_
  refine lv_iload hx hb dX2_find_26 (lv_at hl 0 rfl) ?_
  refine ix_iald (k := 0) hx hb hK hP 1 0 rfl rfl (by decide) (by decide) (by decide) dX2_find_28 ?_
  refine ix_i2l hx hb dX2_find_29 (by omega) ?_
  refine vp_callSl (W.runS (As := [.long (lI 0), .long (lI (N 0))]) (rest := []) ⟨hx, hb, hml, hown, hw⟩ (kX2_divisor l 0 (N 0) ⟨by omega, by omega⟩ ⟨by omega, by omega⟩) (cwS 2 hw (gS mA_482 mA_483 mA_3 mA_484) rfl rfl rfl (by decide +kernel) ⟨Nat.le_of_ble_eq_true rfl, Nat.le_of_ble_eq_true rfl⟩) preEq rfl rfl hl.1 rfl (lv_room (Nat.le_of_ble_eq_true rfl)) dX2_find_30 ⟨Nat.le_of_ble_eq_true rfl, Nat.le_of_ble_eq_true rfl⟩) (fun r4 h5 => ?_)
  subst h5
  have hg1 := gcd_le20 (g := 0) (x := N 0) hg0 c0
  refine lv_lstore_n (lv' := [(2, .long (lI (f_gcd 0 (N 0)))), (4, .int (iI 0)), (1, .int (iI (f_deg N))), (0, .ref x)]) hx hb dX2_find_33 rfl hl (by decide) rfl (fun ls hl => ?_)
  refine ix_iinc (k := 1) (lv2 := [(4, .int (iI 1)), (2, .long (lI (f_gcd 0 (N 0)))), (1, .int (iI (f_deg N))), (0, .ref x)]) hx hb dX2_find_34 hl rfl (by decide) rfl (fun ls hl => ?_)
  refine lv_goto (tgt := 15) hx hb dX2_find_37 (by decide) ?_
  refine lv_iload hx hb dX2_find_15 (lv_at hl 0 rfl) ?_
  refine ix_iconst (n := 5) hx hb dX2_find_17 ?_
  refine ix_icmp_ge (tgt := 40) hx hb dX2_find_18 (by decide) (by decide) (by decide) (fun c6 => absurd c6 (by decide)) (fun _ => ?_)
  refine lv_lload_n hx hb dX2_find_21 rfl (lv_at hl 1 rfl) ?_
  refine lv_aload_n hx hb dX2_find_22 rfl (lv_at hl 3 rfl) ?_
  refine va_get (D := (dC, dI)) (ci := 2) (v := .ref n) (C := RX2) (T := TX2) (N := 17) hx hb hw inX2 hown hK hP 0 rfl rfl 1 (by decide) (hw _ mA_382) (fun _ h9 => h9) rfl dX2_find_23 ?_
  refine lv_iload hx hb dX2_find_26 (lv_at hl 0 rfl) ?_
  refine ix_iald (k := 1) hx hb hK hP 1 0 rfl rfl (by decide) (by decide) (by decide) dX2_find_28 ?_
  refine ix_i2l hx hb dX2_find_29 (by omega) ?_
  refine vp_callSl (W.runS (As := [.long (lI (f_gcd 0 (N 0))), .long (lI (N 1))]) (rest := []) ⟨hx, hb, hml, hown, hw⟩ (kX2_divisor l (f_gcd 0 (N 0)) (N 1) ⟨by omega, by omega⟩ ⟨by omega, by omega⟩) (cwS 2 hw (gS mA_482 mA_483 mA_3 mA_484) rfl rfl rfl (by decide +kernel) ⟨Nat.le_of_ble_eq_true rfl, Nat.le_of_ble_eq_true rfl⟩) preEq rfl rfl hl.1 rfl (lv_room (Nat.le_of_ble_eq_true rfl)) dX2_find_30 ⟨Nat.le_of_ble_eq_true rfl, Nat.le_of_ble_eq_true rfl⟩) (fun r7 h8 => ?_)
  subst h8
  have hg2 := gcd_le20 (g := f_gcd 0 (N 0)) (x := N 1) hg1 c1
  refine lv_lstore_n (lv' := [(2, .long (lI (f_gcd (f_gcd 0 (N 0)) (N 1)))), (4, .int (iI 1)), (1, .int (iI (f_deg N))), (0, .ref x)]) hx hb dX2_find_33 rfl hl (by decide) rfl (fun ls hl => ?_)
  refine ix_iinc (k := 1) (lv2 := [(4, .int (iI 2)), (2, .long (lI (f_gcd (f_gcd 0 (N 0)) (N 1)))), (1, .int (iI (f_deg N))), (0, .ref x)]) hx hb dX2_find_34 hl rfl (by decide) rfl (fun ls hl => ?_)
  refine lv_goto (tgt := 15) hx hb dX2_find_37 (by decide) ?_
  refine lv_iload hx hb dX2_find_15 (lv_at hl 0 rfl) ?_
  refine ix_iconst (n := 5) hx hb dX2_find_17 ?_
  refine ix_icmp_ge (tgt := 40) hx hb dX2_find_18 (by decide) (by decide) (by decide) (fun c9 => absurd c9 (by decide)) (fun _ => ?_)
  refine lv_lload_n hx hb dX2_find_21 rfl (lv_at hl 1 rfl) ?_
  refine lv_aload_n hx hb dX2_find_22 rfl (lv_at hl 3 rfl) ?_
  refine va_get (D := (dC, dI)) (ci := 2) (v := .ref n) (C := RX2) (T := TX2) (N := 17) hx hb hw inX2 hown hK hP 0 rfl rfl 1 (by decide) (hw _ mA_382) (fun _ h9 => h9) rfl dX2_find_23 ?_
  refine lv_iload hx hb dX2_find_26 (lv_at hl 0 rfl) ?_
  refine ix_iald (k := 2) hx hb hK hP 1 0 rfl rfl (by decide) (by decide) (by decide) dX2_find_28 ?_
  refine ix_i2l hx hb dX2_find_29 (by omega) ?_
  refine vp_callSl (W.runS (As := [.long (lI (f_gcd (f_gcd 0 (N 0)) (N 1))), .long (lI (N 2))]) (rest := []) ⟨hx, hb, hml, hown, hw⟩ (kX2_divisor l (f_gcd (f_gcd 0 (N 0)) (N 1)) (N 2) ⟨by omega, by omega⟩ ⟨by omega, by omega⟩) (cwS 2 hw (gS mA_482 mA_483 mA_3 mA_484) rfl rfl rfl (by decide +kernel) ⟨Nat.le_of_ble_eq_true rfl, Nat.le_of_ble_eq_true rfl⟩) preEq rfl rfl hl.1 rfl (lv_room (Nat.le_of_ble_eq_true rfl)) dX2_find_30 ⟨Nat.le_of_ble_eq_true rfl, Nat.le_of_ble_eq_true rfl⟩) (fun r10 h11 => ?_)
  subst h11
  have hg3 := gcd_le20 (g := f_gcd (f_gcd 0 (N 0)) (N 1)) (x := N 2) hg2 c2
  refine lv_lstore_n (lv' := [(2, .long (lI (f_gcd (f_gcd (f_gcd 0 (N 0)) (N 1)) (N 2)))), (4, .int (iI 2)), (1, .int (iI (f_deg N))), (0, .ref x)]) hx hb dX2_find_33 rfl hl (by decide) rfl (fun ls hl => ?_)
  refine ix_iinc (k := 1) (lv2 := [(4, .int (iI 3)), (2, .long (lI (f_gcd (f_gcd (f_gcd 0 (N 0)) (N 1)) (N 2)))), (1, .int (iI (f_deg N))), (0, .ref x)]) hx hb dX2_find_34 hl rfl (by decide) rfl (fun ls hl => ?_)
  refine lv_goto (tgt := 15) hx hb dX2_find_37 (by decide) ?_
  refine lv_iload hx hb dX2_find_15 (lv_at hl 0 rfl) ?_
  refine ix_iconst (n := 5) hx hb dX2_find_17 ?_
  refine ix_icmp_ge (tgt := 40) hx hb dX2_find_18 (by decide) (by decide) (by decide) (fun c12 => absurd c12 (by decide)) (fun _ => ?_)
  refine lv_lload_n hx hb dX2_find_21 rfl (lv_at hl 1 rfl) ?_
  refine lv_aload_n hx hb dX2_find_22 rfl (lv_at hl 3 rfl) ?_
  refine va_get (D := (dC, dI)) (ci := 2) (v := .ref n) (C := RX2) (T := TX2) (N := 17) hx hb hw inX2 hown hK hP 0 rfl rfl 1 (by decide) (hw _ mA_382) (fun _ h9 => h9) rfl dX2_find_23 ?_
  refine lv_iload hx hb dX2_find_26 (lv_at hl 0 rfl) ?_
  refine ix_iald (k := 3) hx hb hK hP 1 0 rfl rfl (by decide) (by decide) (by decide) dX2_find_28 ?_
  refine ix_i2l hx hb dX2_find_29 (by omega) ?_
  refine vp_callSl (W.runS (As := [.long (lI (f_gcd (f_gcd (f_gcd 0 (N 0)) (N 1)) (N 2))), .long (lI (N 3))]) (rest := []) ⟨hx, hb, hml, hown, hw⟩ (kX2_divisor l (f_gcd (f_gcd (f_gcd 0 (N 0)) (N 1)) (N 2)) (N 3) ⟨by omega, by omega⟩ ⟨by omega, by omega⟩) (cwS 2 hw (gS mA_482 mA_483 mA_3 mA_484) rfl rfl rfl (by decide +kernel) ⟨Nat.le_of_ble_eq_true rfl, Nat.le_of_ble_eq_true rfl⟩) preEq rfl rfl hl.1 rfl (lv_room (Nat.le_of_ble_eq_true rfl)) dX2_find_30 ⟨Nat.le_of_ble_eq_true rfl, Nat.le_of_ble_eq_true rfl⟩) (fun r13 h14 => ?_)
  subst h14
  have hg4 := gcd_le20 (g := f_gcd (f_gcd (f_gcd 0 (N 0)) (N 1)) (N 2)) (x := N 3) hg3 c3
  refine lv_lstore_n (lv' := [(2, .long (lI (f_gcd (f_gcd (f_gcd (f_gcd 0 (N 0)) (N 1)) (N 2)) (N 3)))), (4, .int (iI 3)), (1, .int (iI (f_deg N))), (0, .ref x)]) hx hb dX2_find_33 rfl hl (by decide) rfl (fun ls hl => ?_)
  refine ix_iinc (k := 1) (lv2 := [(4, .int (iI 4)), (2, .long (lI (f_gcd (f_gcd (f_gcd (f_gcd 0 (N 0)) (N 1)) (N 2)) (N 3)))), (1, .int (iI (f_deg N))), (0, .ref x)]) hx hb dX2_find_34 hl rfl (by decide) rfl (fun ls hl => ?_)
  refine lv_goto (tgt := 15) hx hb dX2_find_37 (by decide) ?_
  refine lv_iload hx hb dX2_find_15 (lv_at hl 0 rfl) ?_
  refine ix_iconst (n := 5) hx hb dX2_find_17 ?_
  refine ix_icmp_ge (tgt := 40) hx hb dX2_find_18 (by decide) (by decide) (by decide) (fun c15 => absurd c15 (by decide)) (fun _ => ?_)
  refine lv_lload_n hx hb dX2_find_21 rfl (lv_at hl 1 rfl) ?_
  refine lv_aload_n hx hb dX2_find_22 rfl (lv_at hl 3 rfl) ?_
  refine va_get (D := (dC, dI)) (ci := 2) (v := .ref n) (C := RX2) (T := TX2) (N := 17) hx hb hw inX2 hown hK hP 0 rfl rfl 1 (by decide) (hw _ mA_382) (fun _ h9 => h9) rfl dX2_find_23 ?_
  refine lv_iload hx hb dX2_find_26 (lv_at hl 0 rfl) ?_
  refine ix_iald (k := 4) hx hb hK hP 1 0 rfl rfl (by decide) (by decide) (by decide) dX2_find_28 ?_
  refine ix_i2l hx hb dX2_find_29 (by omega) ?_
  refine vp_callSl (W.runS (As := [.long (lI (f_gcd (f_gcd (f_gcd (f_gcd 0 (N 0)) (N 1)) (N 2)) (N 3))), .long (lI (N 4))]) (rest := []) ⟨hx, hb, hml, hown, hw⟩ (kX2_divisor l (f_gcd (f_gcd (f_gcd (f_gcd 0 (N 0)) (N 1)) (N 2)) (N 3)) (N 4) ⟨by omega, by omega⟩ ⟨by omega, by omega⟩) (cwS 2 hw (gS mA_482 mA_483 mA_3 mA_484) rfl rfl rfl (by decide +kernel) ⟨Nat.le_of_ble_eq_true rfl, Nat.le_of_ble_eq_true rfl⟩) preEq rfl rfl hl.1 rfl (lv_room (Nat.le_of_ble_eq_true rfl)) dX2_find_30 ⟨Nat.le_of_ble_eq_true rfl, Nat.le_of_ble_eq_true rfl⟩) (fun r16 h17 => ?_)
  subst h17
  have hg5 := gcd_le20 (g := f_gcd (f_gcd (f_gcd (f_gcd 0 (N 0)) (N 1)) (N 2)) (N 3)) (x := N 4) hg4 c4
  refine lv_lstore_n (lv' := [(2, .long (lI (f_gcd (f_gcd (f_gcd (f_gcd (f_gcd 0 (N 0)) (N 1)) (N 2)) (N 3)) (N 4)))), (4, .int (iI 4)), (1, .int (iI (f_deg N))), (0, .ref x)]) hx hb dX2_find_33 rfl hl (by decide) rfl (fun ls hl => ?_)
  refine ix_iinc (k := 1) (lv2 := [(4, .int (iI 5)), (2, .long (lI (f_gcd (f_gcd (f_gcd (f_gcd (f_gcd 0 (N 0)) (N 1)) (N 2)) (N 3)) (N 4)))), (1, .int (iI (f_deg N))), (0, .ref x)]) hx hb dX2_find_34 hl rfl (by decide) rfl (fun ls hl => ?_)
  refine lv_goto (tgt := 15) hx hb dX2_find_37 (by decide) ?_
  refine lv_iload hx hb dX2_find_15 (lv_at hl 0 rfl) ?_
  refine ix_iconst (n := 5) hx hb dX2_find_17 ?_
  refine ix_icmp_ge (tgt := 40) hx hb dX2_find_18 (by decide) (by decide) (by decide) (fun _ => ?_) (fun c18 => absurd c18 (by decide))
  refine lv_aload_n hx hb dX2_find_40 rfl (lv_at hl 3 rfl) ?_
  refine lv_aload_n hx hb dX2_find_41 rfl (lv_at hl 3 rfl) ?_
  refine va_get (D := (dC, dI)) (ci := 2) (v := .ref n) (C := RX2) (T := TX2) (N := 17) hx hb hw inX2 hown hK hP 0 rfl rfl 1 (by decide) (hw _ mA_382) (fun _ h9 => h9) rfl dX2_find_42 ?_
  refine lv_iload_n hx hb dX2_find_45 rfl (lv_at hl 2 rfl) ?_
  refine ix_iald (k := f_deg N) hx hb hK hP 1 0 rfl rfl (by omega) (by omega) (by decide) dX2_find_46 ?_
  refine ix_if_ge (tgt := 55) hx hb dX2_find_47 (by decide) (by have := hN (f_deg N); omega) (fun c19 => ?_) (fun c19 => ?_)
  · refine lv_lload_n hx hb dX2_find_55 rfl (lv_at hl 1 rfl) ?_
    refine ix_zl (y := f_cont N) (by unfold f_cont G5; grind) ?_
    refine ix_l2i hx hb dX2_find_56 ?_
    refine va_put (D := (dC, dI)) (ci := 2) (v := .int (iI (f_cont N))) (ty := .int) (C := RX2) (T := TX2) (N := 17) hx hb hw inX2 tyX2 tyX2_ok nmX2 hown hK hP hD hS 0 rfl rfl 4 (by decide) (hw _ mA_385) (fun _ h9 => h9) rfl (by decide +kernel) rfl rfl (Nat.le_of_ble_eq_true rfl) dX2_find_57 (fun H locs hP hD hS => ?_)
    have hP : va_P (dC, dI) vwCl [(x, .inr (2, [.int (iI cd), .ref n, .ref r, .ref d, .int (iI (f_cont N)), .int (iI 0), .ref ya, .ref yb, .ref yc, .ref yo, .long (lI (X 0)), .long (lI (X 1)), .long (lI (X 2)), .long (lI (X 3)), .long (lI (X 4)), .long (lI (X 5)), .long (lI (X 6))])), (n, .inl (cI, 5, .inl (aI N))), (r, .inl (cJ, 5, .inr (.inl (aL R)))), (d, .inl (cJ, 5, .inr (.inl (aL D)))), (ya, .inl (cI, 5, .inl (aI As))), (yb, .inl (cI, 5, .inl (aI Bs))), (yc, .inl (cI, 5, .inl (aI Cs))), (yo, .inl (cI, 5, .inl (aI Os)))] H := hP
    have hD : va_D A [(x, .inr (2, [.int (iI cd), .ref n, .ref r, .ref d, .int (iI (f_cont N)), .int (iI 0), .ref ya, .ref yb, .ref yc, .ref yo, .long (lI (X 0)), .long (lI (X 1)), .long (lI (X 2)), .long (lI (X 3)), .long (lI (X 4)), .long (lI (X 5)), .long (lI (X 6))])), (n, .inl (cI, 5, .inl (aI N))), (r, .inl (cJ, 5, .inr (.inl (aL R)))), (d, .inl (cJ, 5, .inr (.inl (aL D)))), (ya, .inl (cI, 5, .inl (aI As))), (yb, .inl (cI, 5, .inl (aI Bs))), (yc, .inl (cI, 5, .inl (aI Cs))), (yo, .inl (cI, 5, .inl (aI Os)))] := hD
    refine ix_iconst (n := 0) hx hb dX2_find_60 ?_
    refine lv_istore (lv' := [(4, .int (iI 0)), (2, .long (lI (f_gcd (f_gcd (f_gcd (f_gcd (f_gcd 0 (N 0)) (N 1)) (N 2)) (N 3)) (N 4)))), (1, .int (iI (f_deg N))), (0, .ref x)]) hx hb dX2_find_61 hl (by decide) rfl (fun ls hl => ?_)
    refine lv_iload hx hb dX2_find_63 (lv_at hl 0 rfl) ?_
    refine ix_iconst (n := 5) hx hb dX2_find_65 ?_
    refine ix_icmp_ge (tgt := 95) hx hb dX2_find_66 (by decide) (by decide) (by decide) (fun c20 => absurd c20 (by decide)) (fun _ => ?_)
    refine lv_aload_n hx hb dX2_find_69 rfl (lv_at hl 3 rfl) ?_
    refine va_get (D := (dC, dI)) (ci := 2) (v := .ref r) (C := RX2) (T := TX2) (N := 17) hx hb hw inX2 hown hK hP 0 rfl rfl 2 (by decide) (hw _ mA_383) (fun _ h9 => h9) rfl dX2_find_70 ?_
    refine lv_iload hx hb dX2_find_73 (lv_at hl 0 rfl) ?_
    refine lv_aload_n hx hb dX2_find_75 rfl (lv_at hl 3 rfl) ?_
    refine va_get (D := (dC, dI)) (ci := 2) (v := .ref n) (C := RX2) (T := TX2) (N := 17) hx hb hw inX2 hown hK hP 0 rfl rfl 1 (by decide) (hw _ mA_382) (fun _ h9 => h9) rfl dX2_find_76 ?_
    refine lv_iload hx hb dX2_find_79 (lv_at hl 0 rfl) ?_
    refine ix_iald (k := 0) hx hb hK hP 1 0 rfl rfl (by decide) (by decide) (by decide) dX2_find_81 ?_
    refine lv_aload_n hx hb dX2_find_82 rfl (lv_at hl 3 rfl) ?_
    refine va_get (D := (dC, dI)) (ci := 2) (v := .int (iI (f_cont N))) (C := RX2) (T := TX2) (N := 17) hx hb hw inX2 hown hK hP 0 rfl rfl 4 (by decide) (hw _ mA_385) (fun _ h9 => h9) rfl dX2_find_83 ?_
    refine ix_idiv hx hb dX2_find_86 (by omega) (by omega) (by omega) cr.1 ?_
    refine ix_i2l hx hb dX2_find_87 (by have := rest_20 hN h5 hdeg 0; unfold f_rest at this; omega) ?_
    refine ix_last (k := 0) (x := Int.tdiv (N 0) (f_cont N)) hx hb hK hP hD hS 2 1 rfl rfl (by decide) (by decide) (by decide) dX2_find_88 (fun H locs hP hD hS => ?_)
    have hP : va_P (dC, dI) vwCl [(x, .inr (2, [.int (iI cd), .ref n, .ref r, .ref d, .int (iI (f_cont N)), .int (iI 0), .ref ya, .ref yb, .ref yc, .ref yo, .long (lI (X 0)), .long (lI (X 1)), .long (lI (X 2)), .long (lI (X 3)), .long (lI (X 4)), .long (lI (X 5)), .long (lI (X 6))])), (n, .inl (cI, 5, .inl (aI N))), (r, .inl (cJ, 5, .inr (.inl (aL (iu R 0 (Int.tdiv (N 0) (f_cont N))))))), (d, .inl (cJ, 5, .inr (.inl (aL D)))), (ya, .inl (cI, 5, .inl (aI As))), (yb, .inl (cI, 5, .inl (aI Bs))), (yc, .inl (cI, 5, .inl (aI Cs))), (yo, .inl (cI, 5, .inl (aI Os)))] H := hP
    have hD : va_D A [(x, .inr (2, [.int (iI cd), .ref n, .ref r, .ref d, .int (iI (f_cont N)), .int (iI 0), .ref ya, .ref yb, .ref yc, .ref yo, .long (lI (X 0)), .long (lI (X 1)), .long (lI (X 2)), .long (lI (X 3)), .long (lI (X 4)), .long (lI (X 5)), .long (lI (X 6))])), (n, .inl (cI, 5, .inl (aI N))), (r, .inl (cJ, 5, .inr (.inl (aL (iu R 0 (Int.tdiv (N 0) (f_cont N))))))), (d, .inl (cJ, 5, .inr (.inl (aL D)))), (ya, .inl (cI, 5, .inl (aI As))), (yb, .inl (cI, 5, .inl (aI Bs))), (yc, .inl (cI, 5, .inl (aI Cs))), (yo, .inl (cI, 5, .inl (aI Os)))] := hD
    refine ix_iinc (k := 0) (lv2 := [(4, .int (iI 1)), (2, .long (lI (f_gcd (f_gcd (f_gcd (f_gcd (f_gcd 0 (N 0)) (N 1)) (N 2)) (N 3)) (N 4)))), (1, .int (iI (f_deg N))), (0, .ref x)]) hx hb dX2_find_89 hl rfl (by decide) rfl (fun ls hl => ?_)
    refine lv_goto (tgt := 63) hx hb dX2_find_92 (by decide) ?_
    refine lv_iload hx hb dX2_find_63 (lv_at hl 0 rfl) ?_
    refine ix_iconst (n := 5) hx hb dX2_find_65 ?_
    refine ix_icmp_ge (tgt := 95) hx hb dX2_find_66 (by decide) (by decide) (by decide) (fun c21 => absurd c21 (by decide)) (fun _ => ?_)
    refine lv_aload_n hx hb dX2_find_69 rfl (lv_at hl 3 rfl) ?_
    refine va_get (D := (dC, dI)) (ci := 2) (v := .ref r) (C := RX2) (T := TX2) (N := 17) hx hb hw inX2 hown hK hP 0 rfl rfl 2 (by decide) (hw _ mA_383) (fun _ h9 => h9) rfl dX2_find_70 ?_
    refine lv_iload hx hb dX2_find_73 (lv_at hl 0 rfl) ?_
    refine lv_aload_n hx hb dX2_find_75 rfl (lv_at hl 3 rfl) ?_
    refine va_get (D := (dC, dI)) (ci := 2) (v := .ref n) (C := RX2) (T := TX2) (N := 17) hx hb hw inX2 hown hK hP 0 rfl rfl 1 (by decide) (hw _ mA_382) (fun _ h9 => h9) rfl dX2_find_76 ?_
    refine lv_iload hx hb dX2_find_79 (lv_at hl 0 rfl) ?_
    refine ix_iald (k := 1) hx hb hK hP 1 0 rfl rfl (by decide) (by decide) (by decide) dX2_find_81 ?_
    refine lv_aload_n hx hb dX2_find_82 rfl (lv_at hl 3 rfl) ?_
    refine va_get (D := (dC, dI)) (ci := 2) (v := .int (iI (f_cont N))) (C := RX2) (T := TX2) (N := 17) hx hb hw inX2 hown hK hP 0 rfl rfl 4 (by decide) (hw _ mA_385) (fun _ h9 => h9) rfl dX2_find_83 ?_
    refine ix_idiv hx hb dX2_find_86 (by omega) (by omega) (by omega) cr.1 ?_
    refine ix_i2l hx hb dX2_find_87 (by have := rest_20 hN h5 hdeg 1; unfold f_rest at this; omega) ?_
    refine ix_last (k := 1) (x := Int.tdiv (N 1) (f_cont N)) hx hb hK hP hD hS 2 1 rfl rfl (by decide) (by decide) (by decide) dX2_find_88 (fun H locs hP hD hS => ?_)
    have hP : va_P (dC, dI) vwCl [(x, .inr (2, [.int (iI cd), .ref n, .ref r, .ref d, .int (iI (f_cont N)), .int (iI 0), .ref ya, .ref yb, .ref yc, .ref yo, .long (lI (X 0)), .long (lI (X 1)), .long (lI (X 2)), .long (lI (X 3)), .long (lI (X 4)), .long (lI (X 5)), .long (lI (X 6))])), (n, .inl (cI, 5, .inl (aI N))), (r, .inl (cJ, 5, .inr (.inl (aL (iu (iu R 0 (Int.tdiv (N 0) (f_cont N))) 1 (Int.tdiv (N 1) (f_cont N))))))), (d, .inl (cJ, 5, .inr (.inl (aL D)))), (ya, .inl (cI, 5, .inl (aI As))), (yb, .inl (cI, 5, .inl (aI Bs))), (yc, .inl (cI, 5, .inl (aI Cs))), (yo, .inl (cI, 5, .inl (aI Os)))] H := hP
    have hD : va_D A [(x, .inr (2, [.int (iI cd), .ref n, .ref r, .ref d, .int (iI (f_cont N)), .int (iI 0), .ref ya, .ref yb, .ref yc, .ref yo, .long (lI (X 0)), .long (lI (X 1)), .long (lI (X 2)), .long (lI (X 3)), .long (lI (X 4)), .long (lI (X 5)), .long (lI (X 6))])), (n, .inl (cI, 5, .inl (aI N))), (r, .inl (cJ, 5, .inr (.inl (aL (iu (iu R 0 (Int.tdiv (N 0) (f_cont N))) 1 (Int.tdiv (N 1) (f_cont N))))))), (d, .inl (cJ, 5, .inr (.inl (aL D)))), (ya, .inl (cI, 5, .inl (aI As))), (yb, .inl (cI, 5, .inl (aI Bs))), (yc, .inl (cI, 5, .inl (aI Cs))), (yo, .inl (cI, 5, .inl (aI Os)))] := hD
    refine ix_iinc (k := 0) (lv2 := [(4, .int (iI 2)), (2, .long (lI (f_gcd (f_gcd (f_gcd (f_gcd (f_gcd 0 (N 0)) (N 1)) (N 2)) (N 3)) (N 4)))), (1, .int (iI (f_deg N))), (0, .ref x)]) hx hb dX2_find_89 hl rfl (by decide) rfl (fun ls hl => ?_)
    refine lv_goto (tgt := 63) hx hb dX2_find_92 (by decide) ?_
    refine lv_iload hx hb dX2_find_63 (lv_at hl 0 rfl) ?_
    refine ix_iconst (n := 5) hx hb dX2_find_65 ?_
    refine ix_icmp_ge (tgt := 95) hx hb dX2_find_66 (by decide) (by decide) (by decide) (fun c22 => absurd c22 (by decide)) (fun _ => ?_)
    refine lv_aload_n hx hb dX2_find_69 rfl (lv_at hl 3 rfl) ?_
    refine va_get (D := (dC, dI)) (ci := 2) (v := .ref r) (C := RX2) (T := TX2) (N := 17) hx hb hw inX2 hown hK hP 0 rfl rfl 2 (by decide) (hw _ mA_383) (fun _ h9 => h9) rfl dX2_find_70 ?_
    refine lv_iload hx hb dX2_find_73 (lv_at hl 0 rfl) ?_
    refine lv_aload_n hx hb dX2_find_75 rfl (lv_at hl 3 rfl) ?_
    refine va_get (D := (dC, dI)) (ci := 2) (v := .ref n) (C := RX2) (T := TX2) (N := 17) hx hb hw inX2 hown hK hP 0 rfl rfl 1 (by decide) (hw _ mA_382) (fun _ h9 => h9) rfl dX2_find_76 ?_
    refine lv_iload hx hb dX2_find_79 (lv_at hl 0 rfl) ?_
    refine ix_iald (k := 2) hx hb hK hP 1 0 rfl rfl (by decide) (by decide) (by decide) dX2_find_81 ?_
    refine lv_aload_n hx hb dX2_find_82 rfl (lv_at hl 3 rfl) ?_
    refine va_get (D := (dC, dI)) (ci := 2) (v := .int (iI (f_cont N))) (C := RX2) (T := TX2) (N := 17) hx hb hw inX2 hown hK hP 0 rfl rfl 4 (by decide) (hw _ mA_385) (fun _ h9 => h9) rfl dX2_find_83 ?_
    refine ix_idiv hx hb dX2_find_86 (by omega) (by omega) (by omega) cr.1 ?_
    refine ix_i2l hx hb dX2_find_87 (by have := rest_20 hN h5 hdeg 2; unfold f_rest at this; omega) ?_
    refine ix_last (k := 2) (x := Int.tdiv (N 2) (f_cont N)) hx hb hK hP hD hS 2 1 rfl rfl (by decide) (by decide) (by decide) dX2_find_88 (fun H locs hP hD hS => ?_)
    have hP : va_P (dC, dI) vwCl [(x, .inr (2, [.int (iI cd), .ref n, .ref r, .ref d, .int (iI (f_cont N)), .int (iI 0), .ref ya, .ref yb, .ref yc, .ref yo, .long (lI (X 0)), .long (lI (X 1)), .long (lI (X 2)), .long (lI (X 3)), .long (lI (X 4)), .long (lI (X 5)), .long (lI (X 6))])), (n, .inl (cI, 5, .inl (aI N))), (r, .inl (cJ, 5, .inr (.inl (aL (iu (iu (iu R 0 (Int.tdiv (N 0) (f_cont N))) 1 (Int.tdiv (N 1) (f_cont N))) 2 (Int.tdiv (N 2) (f_cont N))))))), (d, .inl (cJ, 5, .inr (.inl (aL D)))), (ya, .inl (cI, 5, .inl (aI As))), (yb, .inl (cI, 5, .inl (aI Bs))), (yc, .inl (cI, 5, .inl (aI Cs))), (yo, .inl (cI, 5, .inl (aI Os)))] H := hP
    have hD : va_D A [(x, .inr (2, [.int (iI cd), .ref n, .ref r, .ref d, .int (iI (f_cont N)), .int (iI 0), .ref ya, .ref yb, .ref yc, .ref yo, .long (lI (X 0)), .long (lI (X 1)), .long (lI (X 2)), .long (lI (X 3)), .long (lI (X 4)), .long (lI (X 5)), .long (lI (X 6))])), (n, .inl (cI, 5, .inl (aI N))), (r, .inl (cJ, 5, .inr (.inl (aL (iu (iu (iu R 0 (Int.tdiv (N 0) (f_cont N))) 1 (Int.tdiv (N 1) (f_cont N))) 2 (Int.tdiv (N 2) (f_cont N))))))), (d, .inl (cJ, 5, .inr (.inl (aL D)))), (ya, .inl (cI, 5, .inl (aI As))), (yb, .inl (cI, 5, .inl (aI Bs))), (yc, .inl (cI, 5, .inl (aI Cs))), (yo, .inl (cI, 5, .inl (aI Os)))] := hD
    refine ix_iinc (k := 0) (lv2 := [(4, .int (iI 3)), (2, .long (lI (f_gcd (f_gcd (f_gcd (f_gcd (f_gcd 0 (N 0)) (N 1)) (N 2)) (N 3)) (N 4)))), (1, .int (iI (f_deg N))), (0, .ref x)]) hx hb dX2_find_89 hl rfl (by decide) rfl (fun ls hl => ?_)
    refine lv_goto (tgt := 63) hx hb dX2_find_92 (by decide) ?_
    refine lv_iload hx hb dX2_find_63 (lv_at hl 0 rfl) ?_
    refine ix_iconst (n := 5) hx hb dX2_find_65 ?_
    refine ix_icmp_ge (tgt := 95) hx hb dX2_find_66 (by decide) (by decide) (by decide) (fun c23 => absurd c23 (by decide)) (fun _ => ?_)
    refine lv_aload_n hx hb dX2_find_69 rfl (lv_at hl 3 rfl) ?_
    refine va_get (D := (dC, dI)) (ci := 2) (v := .ref r) (C := RX2) (T := TX2) (N := 17) hx hb hw inX2 hown hK hP 0 rfl rfl 2 (by decide) (hw _ mA_383) (fun _ h9 => h9) rfl dX2_find_70 ?_
    refine lv_iload hx hb dX2_find_73 (lv_at hl 0 rfl) ?_
    refine lv_aload_n hx hb dX2_find_75 rfl (lv_at hl 3 rfl) ?_
    refine va_get (D := (dC, dI)) (ci := 2) (v := .ref n) (C := RX2) (T := TX2) (N := 17) hx hb hw inX2 hown hK hP 0 rfl rfl 1 (by decide) (hw _ mA_382) (fun _ h9 => h9) rfl dX2_find_76 ?_
    refine lv_iload hx hb dX2_find_79 (lv_at hl 0 rfl) ?_
    refine ix_iald (k := 3) hx hb hK hP 1 0 rfl rfl (by decide) (by decide) (by decide) dX2_find_81 ?_
    refine lv_aload_n hx hb dX2_find_82 rfl (lv_at hl 3 rfl) ?_
    refine va_get (D := (dC, dI)) (ci := 2) (v := .int (iI (f_cont N))) (C := RX2) (T := TX2) (N := 17) hx hb hw inX2 hown hK hP 0 rfl rfl 4 (by decide) (hw _ mA_385) (fun _ h9 => h9) rfl dX2_find_83 ?_
    refine ix_idiv hx hb dX2_find_86 (by omega) (by omega) (by omega) cr.1 ?_
    refine ix_i2l hx hb dX2_find_87 (by have := rest_20 hN h5 hdeg 3; unfold f_rest at this; omega) ?_
    refine ix_last (k := 3) (x := Int.tdiv (N 3) (f_cont N)) hx hb hK hP hD hS 2 1 rfl rfl (by decide) (by decide) (by decide) dX2_find_88 (fun H locs hP hD hS => ?_)
    have hP : va_P (dC, dI) vwCl [(x, .inr (2, [.int (iI cd), .ref n, .ref r, .ref d, .int (iI (f_cont N)), .int (iI 0), .ref ya, .ref yb, .ref yc, .ref yo, .long (lI (X 0)), .long (lI (X 1)), .long (lI (X 2)), .long (lI (X 3)), .long (lI (X 4)), .long (lI (X 5)), .long (lI (X 6))])), (n, .inl (cI, 5, .inl (aI N))), (r, .inl (cJ, 5, .inr (.inl (aL (iu (iu (iu (iu R 0 (Int.tdiv (N 0) (f_cont N))) 1 (Int.tdiv (N 1) (f_cont N))) 2 (Int.tdiv (N 2) (f_cont N))) 3 (Int.tdiv (N 3) (f_cont N))))))), (d, .inl (cJ, 5, .inr (.inl (aL D)))), (ya, .inl (cI, 5, .inl (aI As))), (yb, .inl (cI, 5, .inl (aI Bs))), (yc, .inl (cI, 5, .inl (aI Cs))), (yo, .inl (cI, 5, .inl (aI Os)))] H := hP
    have hD : va_D A [(x, .inr (2, [.int (iI cd), .ref n, .ref r, .ref d, .int (iI (f_cont N)), .int (iI 0), .ref ya, .ref yb, .ref yc, .ref yo, .long (lI (X 0)), .long (lI (X 1)), .long (lI (X 2)), .long (lI (X 3)), .long (lI (X 4)), .long (lI (X 5)), .long (lI (X 6))])), (n, .inl (cI, 5, .inl (aI N))), (r, .inl (cJ, 5, .inr (.inl (aL (iu (iu (iu (iu R 0 (Int.tdiv (N 0) (f_cont N))) 1 (Int.tdiv (N 1) (f_cont N))) 2 (Int.tdiv (N 2) (f_cont N))) 3 (Int.tdiv (N 3) (f_cont N))))))), (d, .inl (cJ, 5, .inr (.inl (aL D)))), (ya, .inl (cI, 5, .inl (aI As))), (yb, .inl (cI, 5, .inl (aI Bs))), (yc, .inl (cI, 5, .inl (aI Cs))), (yo, .inl (cI, 5, .inl (aI Os)))] := hD
    refine ix_iinc (k := 0) (lv2 := [(4, .int (iI 4)), (2, .long (lI (f_gcd (f_gcd (f_gcd (f_gcd (f_gcd 0 (N 0)) (N 1)) (N 2)) (N 3)) (N 4)))), (1, .int (iI (f_deg N))), (0, .ref x)]) hx hb dX2_find_89 hl rfl (by decide) rfl (fun ls hl => ?_)
    refine lv_goto (tgt := 63) hx hb dX2_find_92 (by decide) ?_
    refine lv_iload hx hb dX2_find_63 (lv_at hl 0 rfl) ?_
    refine ix_iconst (n := 5) hx hb dX2_find_65 ?_
    refine ix_icmp_ge (tgt := 95) hx hb dX2_find_66 (by decide) (by decide) (by decide) (fun c24 => absurd c24 (by decide)) (fun _ => ?_)
    refine lv_aload_n hx hb dX2_find_69 rfl (lv_at hl 3 rfl) ?_
    refine va_get (D := (dC, dI)) (ci := 2) (v := .ref r) (C := RX2) (T := TX2) (N := 17) hx hb hw inX2 hown hK hP 0 rfl rfl 2 (by decide) (hw _ mA_383) (fun _ h9 => h9) rfl dX2_find_70 ?_
    refine lv_iload hx hb dX2_find_73 (lv_at hl 0 rfl) ?_
    refine lv_aload_n hx hb dX2_find_75 rfl (lv_at hl 3 rfl) ?_
    refine va_get (D := (dC, dI)) (ci := 2) (v := .ref n) (C := RX2) (T := TX2) (N := 17) hx hb hw inX2 hown hK hP 0 rfl rfl 1 (by decide) (hw _ mA_382) (fun _ h9 => h9) rfl dX2_find_76 ?_
    refine lv_iload hx hb dX2_find_79 (lv_at hl 0 rfl) ?_
    refine ix_iald (k := 4) hx hb hK hP 1 0 rfl rfl (by decide) (by decide) (by decide) dX2_find_81 ?_
    refine lv_aload_n hx hb dX2_find_82 rfl (lv_at hl 3 rfl) ?_
    refine va_get (D := (dC, dI)) (ci := 2) (v := .int (iI (f_cont N))) (C := RX2) (T := TX2) (N := 17) hx hb hw inX2 hown hK hP 0 rfl rfl 4 (by decide) (hw _ mA_385) (fun _ h9 => h9) rfl dX2_find_83 ?_
    refine ix_idiv hx hb dX2_find_86 (by omega) (by omega) (by omega) cr.1 ?_
    refine ix_i2l hx hb dX2_find_87 (by have := rest_20 hN h5 hdeg 4; unfold f_rest at this; omega) ?_
    refine ix_last (k := 4) (x := Int.tdiv (N 4) (f_cont N)) hx hb hK hP hD hS 2 1 rfl rfl (by decide) (by decide) (by decide) dX2_find_88 (fun H locs hP hD hS => ?_)
    have hP : va_P (dC, dI) vwCl [(x, .inr (2, [.int (iI cd), .ref n, .ref r, .ref d, .int (iI (f_cont N)), .int (iI 0), .ref ya, .ref yb, .ref yc, .ref yo, .long (lI (X 0)), .long (lI (X 1)), .long (lI (X 2)), .long (lI (X 3)), .long (lI (X 4)), .long (lI (X 5)), .long (lI (X 6))])), (n, .inl (cI, 5, .inl (aI N))), (r, .inl (cJ, 5, .inr (.inl (aL (iu (iu (iu (iu (iu R 0 (Int.tdiv (N 0) (f_cont N))) 1 (Int.tdiv (N 1) (f_cont N))) 2 (Int.tdiv (N 2) (f_cont N))) 3 (Int.tdiv (N 3) (f_cont N))) 4 (Int.tdiv (N 4) (f_cont N))))))), (d, .inl (cJ, 5, .inr (.inl (aL D)))), (ya, .inl (cI, 5, .inl (aI As))), (yb, .inl (cI, 5, .inl (aI Bs))), (yc, .inl (cI, 5, .inl (aI Cs))), (yo, .inl (cI, 5, .inl (aI Os)))] H := hP
    have hD : va_D A [(x, .inr (2, [.int (iI cd), .ref n, .ref r, .ref d, .int (iI (f_cont N)), .int (iI 0), .ref ya, .ref yb, .ref yc, .ref yo, .long (lI (X 0)), .long (lI (X 1)), .long (lI (X 2)), .long (lI (X 3)), .long (lI (X 4)), .long (lI (X 5)), .long (lI (X 6))])), (n, .inl (cI, 5, .inl (aI N))), (r, .inl (cJ, 5, .inr (.inl (aL (iu (iu (iu (iu (iu R 0 (Int.tdiv (N 0) (f_cont N))) 1 (Int.tdiv (N 1) (f_cont N))) 2 (Int.tdiv (N 2) (f_cont N))) 3 (Int.tdiv (N 3) (f_cont N))) 4 (Int.tdiv (N 4) (f_cont N))))))), (d, .inl (cJ, 5, .inr (.inl (aL D)))), (ya, .inl (cI, 5, .inl (aI As))), (yb, .inl (cI, 5, .inl (aI Bs))), (yc, .inl (cI, 5, .inl (aI Cs))), (yo, .inl (cI, 5, .inl (aI Os)))] := hD
    refine ix_iinc (k := 0) (lv2 := [(4, .int (iI 5)), (2, .long (lI (f_gcd (f_gcd (f_gcd (f_gcd (f_gcd 0 (N 0)) (N 1)) (N 2)) (N 3)) (N 4)))), (1, .int (iI (f_deg N))), (0, .ref x)]) hx hb dX2_find_89 hl rfl (by decide) rfl (fun ls hl => ?_)
    refine lv_goto (tgt := 63) hx hb dX2_find_92 (by decide) ?_
    refine lv_iload hx hb dX2_find_63 (lv_at hl 0 rfl) ?_
    refine ix_iconst (n := 5) hx hb dX2_find_65 ?_
    refine ix_icmp_ge (tgt := 95) hx hb dX2_find_66 (by decide) (by decide) (by decide) (fun _ => ?_) (fun c25 => absurd c25 (by decide))
    rw [rest_fun h5 hR5] at hP hD
    refine ix_iconst (n := 1) hx hb dX2_find_95 ?_
    refine lv_istore (lv' := [(4, .int (iI 1)), (2, .long (lI (f_gcd (f_gcd (f_gcd (f_gcd (f_gcd 0 (N 0)) (N 1)) (N 2)) (N 3)) (N 4)))), (1, .int (iI (f_deg N))), (0, .ref x)]) hx hb dX2_find_96 hl (by decide) rfl (fun ls hl => ?_)
    obtain ⟨k1, k2⟩ := (⟨rest_PL hN h5 hdeg, trivial⟩ : PL (f_rest N) ∧ True)
    refine lp_f1 (s0 := (f_rest N, 0, FF As Bs Cs Os)) (fun gR_ gD_ gfc_ gAs gBs gCs gOs gD5 gLB H locs hP hD hS ls hl => ?_) hA hnb ⟨hx, hb, hr, hml, hown, hw, hlocks⟩ 21 1 (f_rest N) D 0 As Bs Cs Os ⟨by omega, by omega⟩ hD5 ⟨k1, by decide, by have := (deg_c (f_rest N)).2.1; omega, fun i q0 q1 => absurd q1 (by omega), _, fun i _ _ => rfl, rfl⟩ (by omega) _ _ hK hP hD hS ls (lv_sub hl [3, 0] rfl)
    refine ix_iconst (n := 1) hx hb dX2_find_173 ?_
    refine lv_istore (lv' := [(4, .int (iI 1)), (0, .ref x)]) hx hb dX2_find_174 hl (by decide) rfl (fun ls hl => ?_)
    obtain ⟨j1, j2, j3, j4, Gs, j5, j6⟩ := gLB
    have hno := runB_no 20 _ _ k1.1.1 j6
    have hPR := PR_of j1 (fun b k q1 q2 q3 q4 => hno.2 b k q1 (by omega) q3 q4)
    obtain ⟨m1, m2⟩ := okl_lin j4 j5
    exact lp_g1 (s0 := (gR_, gfc_, Gs)) j6 hPR m1 j2 hA hnb ⟨hx, hb, hr, hml, hown, hw, hlocks⟩ 21 1 gR_ gD_ gfc_ gAs gBs gCs gOs ⟨by omega, by omega⟩ hPR gD5 ⟨j2, j3⟩ m2 ⟨Gs, j5, Or.inl ⟨rfl, fun x y z q1 q2 => by unfold lexb inR at *; omega⟩⟩ (by omega) _ _ hK hP hD hS ls (lv_sub hl [1, 0] rfl)
  · refine lv_lload_n hx hb dX2_find_50 rfl (lv_at hl 1 rfl) ?_
    refine ix_lneg hx hb dX2_find_51 ?_
    refine lv_goto (tgt := 56) hx hb dX2_find_52 (by decide) ?_
    refine ix_zl (y := f_cont N) (by unfold f_cont G5; grind) ?_
    refine ix_l2i hx hb dX2_find_56 ?_
    refine va_put (D := (dC, dI)) (ci := 2) (v := .int (iI (f_cont N))) (ty := .int) (C := RX2) (T := TX2) (N := 17) hx hb hw inX2 tyX2 tyX2_ok nmX2 hown hK hP hD hS 0 rfl rfl 4 (by decide) (hw _ mA_385) (fun _ h9 => h9) rfl (by decide +kernel) rfl rfl (Nat.le_of_ble_eq_true rfl) dX2_find_57 (fun H locs hP hD hS => ?_)
    have hP : va_P (dC, dI) vwCl [(x, .inr (2, [.int (iI cd), .ref n, .ref r, .ref d, .int (iI (f_cont N)), .int (iI 0), .ref ya, .ref yb, .ref yc, .ref yo, .long (lI (X 0)), .long (lI (X 1)), .long (lI (X 2)), .long (lI (X 3)), .long (lI (X 4)), .long (lI (X 5)), .long (lI (X 6))])), (n, .inl (cI, 5, .inl (aI N))), (r, .inl (cJ, 5, .inr (.inl (aL R)))), (d, .inl (cJ, 5, .inr (.inl (aL D)))), (ya, .inl (cI, 5, .inl (aI As))), (yb, .inl (cI, 5, .inl (aI Bs))), (yc, .inl (cI, 5, .inl (aI Cs))), (yo, .inl (cI, 5, .inl (aI Os)))] H := hP
    have hD : va_D A [(x, .inr (2, [.int (iI cd), .ref n, .ref r, .ref d, .int (iI (f_cont N)), .int (iI 0), .ref ya, .ref yb, .ref yc, .ref yo, .long (lI (X 0)), .long (lI (X 1)), .long (lI (X 2)), .long (lI (X 3)), .long (lI (X 4)), .long (lI (X 5)), .long (lI (X 6))])), (n, .inl (cI, 5, .inl (aI N))), (r, .inl (cJ, 5, .inr (.inl (aL R)))), (d, .inl (cJ, 5, .inr (.inl (aL D)))), (ya, .inl (cI, 5, .inl (aI As))), (yb, .inl (cI, 5, .inl (aI Bs))), (yc, .inl (cI, 5, .inl (aI Cs))), (yo, .inl (cI, 5, .inl (aI Os)))] := hD
    refine ix_iconst (n := 0) hx hb dX2_find_60 ?_
    refine lv_istore (lv' := [(4, .int (iI 0)), (2, .long (lI (f_gcd (f_gcd (f_gcd (f_gcd (f_gcd 0 (N 0)) (N 1)) (N 2)) (N 3)) (N 4)))), (1, .int (iI (f_deg N))), (0, .ref x)]) hx hb dX2_find_61 hl (by decide) rfl (fun ls hl => ?_)
    refine lv_iload hx hb dX2_find_63 (lv_at hl 0 rfl) ?_
    refine ix_iconst (n := 5) hx hb dX2_find_65 ?_
    refine ix_icmp_ge (tgt := 95) hx hb dX2_find_66 (by decide) (by decide) (by decide) (fun c26 => absurd c26 (by decide)) (fun _ => ?_)
    refine lv_aload_n hx hb dX2_find_69 rfl (lv_at hl 3 rfl) ?_
    refine va_get (D := (dC, dI)) (ci := 2) (v := .ref r) (C := RX2) (T := TX2) (N := 17) hx hb hw inX2 hown hK hP 0 rfl rfl 2 (by decide) (hw _ mA_383) (fun _ h9 => h9) rfl dX2_find_70 ?_
    refine lv_iload hx hb dX2_find_73 (lv_at hl 0 rfl) ?_
    refine lv_aload_n hx hb dX2_find_75 rfl (lv_at hl 3 rfl) ?_
    refine va_get (D := (dC, dI)) (ci := 2) (v := .ref n) (C := RX2) (T := TX2) (N := 17) hx hb hw inX2 hown hK hP 0 rfl rfl 1 (by decide) (hw _ mA_382) (fun _ h9 => h9) rfl dX2_find_76 ?_
    refine lv_iload hx hb dX2_find_79 (lv_at hl 0 rfl) ?_
    refine ix_iald (k := 0) hx hb hK hP 1 0 rfl rfl (by decide) (by decide) (by decide) dX2_find_81 ?_
    refine lv_aload_n hx hb dX2_find_82 rfl (lv_at hl 3 rfl) ?_
    refine va_get (D := (dC, dI)) (ci := 2) (v := .int (iI (f_cont N))) (C := RX2) (T := TX2) (N := 17) hx hb hw inX2 hown hK hP 0 rfl rfl 4 (by decide) (hw _ mA_385) (fun _ h9 => h9) rfl dX2_find_83 ?_
    refine ix_idiv hx hb dX2_find_86 (by omega) (by omega) (by omega) cr.1 ?_
    refine ix_i2l hx hb dX2_find_87 (by have := rest_20 hN h5 hdeg 0; unfold f_rest at this; omega) ?_
    refine ix_last (k := 0) (x := Int.tdiv (N 0) (f_cont N)) hx hb hK hP hD hS 2 1 rfl rfl (by decide) (by decide) (by decide) dX2_find_88 (fun H locs hP hD hS => ?_)
    have hP : va_P (dC, dI) vwCl [(x, .inr (2, [.int (iI cd), .ref n, .ref r, .ref d, .int (iI (f_cont N)), .int (iI 0), .ref ya, .ref yb, .ref yc, .ref yo, .long (lI (X 0)), .long (lI (X 1)), .long (lI (X 2)), .long (lI (X 3)), .long (lI (X 4)), .long (lI (X 5)), .long (lI (X 6))])), (n, .inl (cI, 5, .inl (aI N))), (r, .inl (cJ, 5, .inr (.inl (aL (iu R 0 (Int.tdiv (N 0) (f_cont N))))))), (d, .inl (cJ, 5, .inr (.inl (aL D)))), (ya, .inl (cI, 5, .inl (aI As))), (yb, .inl (cI, 5, .inl (aI Bs))), (yc, .inl (cI, 5, .inl (aI Cs))), (yo, .inl (cI, 5, .inl (aI Os)))] H := hP
    have hD : va_D A [(x, .inr (2, [.int (iI cd), .ref n, .ref r, .ref d, .int (iI (f_cont N)), .int (iI 0), .ref ya, .ref yb, .ref yc, .ref yo, .long (lI (X 0)), .long (lI (X 1)), .long (lI (X 2)), .long (lI (X 3)), .long (lI (X 4)), .long (lI (X 5)), .long (lI (X 6))])), (n, .inl (cI, 5, .inl (aI N))), (r, .inl (cJ, 5, .inr (.inl (aL (iu R 0 (Int.tdiv (N 0) (f_cont N))))))), (d, .inl (cJ, 5, .inr (.inl (aL D)))), (ya, .inl (cI, 5, .inl (aI As))), (yb, .inl (cI, 5, .inl (aI Bs))), (yc, .inl (cI, 5, .inl (aI Cs))), (yo, .inl (cI, 5, .inl (aI Os)))] := hD
    refine ix_iinc (k := 0) (lv2 := [(4, .int (iI 1)), (2, .long (lI (f_gcd (f_gcd (f_gcd (f_gcd (f_gcd 0 (N 0)) (N 1)) (N 2)) (N 3)) (N 4)))), (1, .int (iI (f_deg N))), (0, .ref x)]) hx hb dX2_find_89 hl rfl (by decide) rfl (fun ls hl => ?_)
    refine lv_goto (tgt := 63) hx hb dX2_find_92 (by decide) ?_
    refine lv_iload hx hb dX2_find_63 (lv_at hl 0 rfl) ?_
    refine ix_iconst (n := 5) hx hb dX2_find_65 ?_
    refine ix_icmp_ge (tgt := 95) hx hb dX2_find_66 (by decide) (by decide) (by decide) (fun c27 => absurd c27 (by decide)) (fun _ => ?_)
    refine lv_aload_n hx hb dX2_find_69 rfl (lv_at hl 3 rfl) ?_
    refine va_get (D := (dC, dI)) (ci := 2) (v := .ref r) (C := RX2) (T := TX2) (N := 17) hx hb hw inX2 hown hK hP 0 rfl rfl 2 (by decide) (hw _ mA_383) (fun _ h9 => h9) rfl dX2_find_70 ?_
    refine lv_iload hx hb dX2_find_73 (lv_at hl 0 rfl) ?_
    refine lv_aload_n hx hb dX2_find_75 rfl (lv_at hl 3 rfl) ?_
    refine va_get (D := (dC, dI)) (ci := 2) (v := .ref n) (C := RX2) (T := TX2) (N := 17) hx hb hw inX2 hown hK hP 0 rfl rfl 1 (by decide) (hw _ mA_382) (fun _ h9 => h9) rfl dX2_find_76 ?_
    refine lv_iload hx hb dX2_find_79 (lv_at hl 0 rfl) ?_
    refine ix_iald (k := 1) hx hb hK hP 1 0 rfl rfl (by decide) (by decide) (by decide) dX2_find_81 ?_
    refine lv_aload_n hx hb dX2_find_82 rfl (lv_at hl 3 rfl) ?_
    refine va_get (D := (dC, dI)) (ci := 2) (v := .int (iI (f_cont N))) (C := RX2) (T := TX2) (N := 17) hx hb hw inX2 hown hK hP 0 rfl rfl 4 (by decide) (hw _ mA_385) (fun _ h9 => h9) rfl dX2_find_83 ?_
    refine ix_idiv hx hb dX2_find_86 (by omega) (by omega) (by omega) cr.1 ?_
    refine ix_i2l hx hb dX2_find_87 (by have := rest_20 hN h5 hdeg 1; unfold f_rest at this; omega) ?_
    refine ix_last (k := 1) (x := Int.tdiv (N 1) (f_cont N)) hx hb hK hP hD hS 2 1 rfl rfl (by decide) (by decide) (by decide) dX2_find_88 (fun H locs hP hD hS => ?_)
    have hP : va_P (dC, dI) vwCl [(x, .inr (2, [.int (iI cd), .ref n, .ref r, .ref d, .int (iI (f_cont N)), .int (iI 0), .ref ya, .ref yb, .ref yc, .ref yo, .long (lI (X 0)), .long (lI (X 1)), .long (lI (X 2)), .long (lI (X 3)), .long (lI (X 4)), .long (lI (X 5)), .long (lI (X 6))])), (n, .inl (cI, 5, .inl (aI N))), (r, .inl (cJ, 5, .inr (.inl (aL (iu (iu R 0 (Int.tdiv (N 0) (f_cont N))) 1 (Int.tdiv (N 1) (f_cont N))))))), (d, .inl (cJ, 5, .inr (.inl (aL D)))), (ya, .inl (cI, 5, .inl (aI As))), (yb, .inl (cI, 5, .inl (aI Bs))), (yc, .inl (cI, 5, .inl (aI Cs))), (yo, .inl (cI, 5, .inl (aI Os)))] H := hP
    have hD : va_D A [(x, .inr (2, [.int (iI cd), .ref n, .ref r, .ref d, .int (iI (f_cont N)), .int (iI 0), .ref ya, .ref yb, .ref yc, .ref yo, .long (lI (X 0)), .long (lI (X 1)), .long (lI (X 2)), .long (lI (X 3)), .long (lI (X 4)), .long (lI (X 5)), .long (lI (X 6))])), (n, .inl (cI, 5, .inl (aI N))), (r, .inl (cJ, 5, .inr (.inl (aL (iu (iu R 0 (Int.tdiv (N 0) (f_cont N))) 1 (Int.tdiv (N 1) (f_cont N))))))), (d, .inl (cJ, 5, .inr (.inl (aL D)))), (ya, .inl (cI, 5, .inl (aI As))), (yb, .inl (cI, 5, .inl (aI Bs))), (yc, .inl (cI, 5, .inl (aI Cs))), (yo, .inl (cI, 5, .inl (aI Os)))] := hD
    refine ix_iinc (k := 0) (lv2 := [(4, .int (iI 2)), (2, .long (lI (f_gcd (f_gcd (f_gcd (f_gcd (f_gcd 0 (N 0)) (N 1)) (N 2)) (N 3)) (N 4)))), (1, .int (iI (f_deg N))), (0, .ref x)]) hx hb dX2_find_89 hl rfl (by decide) rfl (fun ls hl => ?_)
    refine lv_goto (tgt := 63) hx hb dX2_find_92 (by decide) ?_
    refine lv_iload hx hb dX2_find_63 (lv_at hl 0 rfl) ?_
    refine ix_iconst (n := 5) hx hb dX2_find_65 ?_
    refine ix_icmp_ge (tgt := 95) hx hb dX2_find_66 (by decide) (by decide) (by decide) (fun c28 => absurd c28 (by decide)) (fun _ => ?_)
    refine lv_aload_n hx hb dX2_find_69 rfl (lv_at hl 3 rfl) ?_
    refine va_get (D := (dC, dI)) (ci := 2) (v := .ref r) (C := RX2) (T := TX2) (N := 17) hx hb hw inX2 hown hK hP 0 rfl rfl 2 (by decide) (hw _ mA_383) (fun _ h9 => h9) rfl dX2_find_70 ?_
    refine lv_iload hx hb dX2_find_73 (lv_at hl 0 rfl) ?_
    refine lv_aload_n hx hb dX2_find_75 rfl (lv_at hl 3 rfl) ?_
    refine va_get (D := (dC, dI)) (ci := 2) (v := .ref n) (C := RX2) (T := TX2) (N := 17) hx hb hw inX2 hown hK hP 0 rfl rfl 1 (by decide) (hw _ mA_382) (fun _ h9 => h9) rfl dX2_find_76 ?_
    refine lv_iload hx hb dX2_find_79 (lv_at hl 0 rfl) ?_
    refine ix_iald (k := 2) hx hb hK hP 1 0 rfl rfl (by decide) (by decide) (by decide) dX2_find_81 ?_
    refine lv_aload_n hx hb dX2_find_82 rfl (lv_at hl 3 rfl) ?_
    refine va_get (D := (dC, dI)) (ci := 2) (v := .int (iI (f_cont N))) (C := RX2) (T := TX2) (N := 17) hx hb hw inX2 hown hK hP 0 rfl rfl 4 (by decide) (hw _ mA_385) (fun _ h9 => h9) rfl dX2_find_83 ?_
    refine ix_idiv hx hb dX2_find_86 (by omega) (by omega) (by omega) cr.1 ?_
    refine ix_i2l hx hb dX2_find_87 (by have := rest_20 hN h5 hdeg 2; unfold f_rest at this; omega) ?_
    refine ix_last (k := 2) (x := Int.tdiv (N 2) (f_cont N)) hx hb hK hP hD hS 2 1 rfl rfl (by decide) (by decide) (by decide) dX2_find_88 (fun H locs hP hD hS => ?_)
    have hP : va_P (dC, dI) vwCl [(x, .inr (2, [.int (iI cd), .ref n, .ref r, .ref d, .int (iI (f_cont N)), .int (iI 0), .ref ya, .ref yb, .ref yc, .ref yo, .long (lI (X 0)), .long (lI (X 1)), .long (lI (X 2)), .long (lI (X 3)), .long (lI (X 4)), .long (lI (X 5)), .long (lI (X 6))])), (n, .inl (cI, 5, .inl (aI N))), (r, .inl (cJ, 5, .inr (.inl (aL (iu (iu (iu R 0 (Int.tdiv (N 0) (f_cont N))) 1 (Int.tdiv (N 1) (f_cont N))) 2 (Int.tdiv (N 2) (f_cont N))))))), (d, .inl (cJ, 5, .inr (.inl (aL D)))), (ya, .inl (cI, 5, .inl (aI As))), (yb, .inl (cI, 5, .inl (aI Bs))), (yc, .inl (cI, 5, .inl (aI Cs))), (yo, .inl (cI, 5, .inl (aI Os)))] H := hP
    have hD : va_D A [(x, .inr (2, [.int (iI cd), .ref n, .ref r, .ref d, .int (iI (f_cont N)), .int (iI 0), .ref ya, .ref yb, .ref yc, .ref yo, .long (lI (X 0)), .long (lI (X 1)), .long (lI (X 2)), .long (lI (X 3)), .long (lI (X 4)), .long (lI (X 5)), .long (lI (X 6))])), (n, .inl (cI, 5, .inl (aI N))), (r, .inl (cJ, 5, .inr (.inl (aL (iu (iu (iu R 0 (Int.tdiv (N 0) (f_cont N))) 1 (Int.tdiv (N 1) (f_cont N))) 2 (Int.tdiv (N 2) (f_cont N))))))), (d, .inl (cJ, 5, .inr (.inl (aL D)))), (ya, .inl (cI, 5, .inl (aI As))), (yb, .inl (cI, 5, .inl (aI Bs))), (yc, .inl (cI, 5, .inl (aI Cs))), (yo, .inl (cI, 5, .inl (aI Os)))] := hD
    refine ix_iinc (k := 0) (lv2 := [(4, .int (iI 3)), (2, .long (lI (f_gcd (f_gcd (f_gcd (f_gcd (f_gcd 0 (N 0)) (N 1)) (N 2)) (N 3)) (N 4)))), (1, .int (iI (f_deg N))), (0, .ref x)]) hx hb dX2_find_89 hl rfl (by decide) rfl (fun ls hl => ?_)
    refine lv_goto (tgt := 63) hx hb dX2_find_92 (by decide) ?_
    refine lv_iload hx hb dX2_find_63 (lv_at hl 0 rfl) ?_
    refine ix_iconst (n := 5) hx hb dX2_find_65 ?_
    refine ix_icmp_ge (tgt := 95) hx hb dX2_find_66 (by decide) (by decide) (by decide) (fun c29 => absurd c29 (by decide)) (fun _ => ?_)
    refine lv_aload_n hx hb dX2_find_69 rfl (lv_at hl 3 rfl) ?_
    refine va_get (D := (dC, dI)) (ci := 2) (v := .ref r) (C := RX2) (T := TX2) (N := 17) hx hb hw inX2 hown hK hP 0 rfl rfl 2 (by decide) (hw _ mA_383) (fun _ h9 => h9) rfl dX2_find_70 ?_
    refine lv_iload hx hb dX2_find_73 (lv_at hl 0 rfl) ?_
    refine lv_aload_n hx hb dX2_find_75 rfl (lv_at hl 3 rfl) ?_
    refine va_get (D := (dC, dI)) (ci := 2) (v := .ref n) (C := RX2) (T := TX2) (N := 17) hx hb hw inX2 hown hK hP 0 rfl rfl 1 (by decide) (hw _ mA_382) (fun _ h9 => h9) rfl dX2_find_76 ?_
    refine lv_iload hx hb dX2_find_79 (lv_at hl 0 rfl) ?_
    refine ix_iald (k := 3) hx hb hK hP 1 0 rfl rfl (by decide) (by decide) (by decide) dX2_find_81 ?_
    refine lv_aload_n hx hb dX2_find_82 rfl (lv_at hl 3 rfl) ?_
    refine va_get (D := (dC, dI)) (ci := 2) (v := .int (iI (f_cont N))) (C := RX2) (T := TX2) (N := 17) hx hb hw inX2 hown hK hP 0 rfl rfl 4 (by decide) (hw _ mA_385) (fun _ h9 => h9) rfl dX2_find_83 ?_
    refine ix_idiv hx hb dX2_find_86 (by omega) (by omega) (by omega) cr.1 ?_
    refine ix_i2l hx hb dX2_find_87 (by have := rest_20 hN h5 hdeg 3; unfold f_rest at this; omega) ?_
    refine ix_last (k := 3) (x := Int.tdiv (N 3) (f_cont N)) hx hb hK hP hD hS 2 1 rfl rfl (by decide) (by decide) (by decide) dX2_find_88 (fun H locs hP hD hS => ?_)
    have hP : va_P (dC, dI) vwCl [(x, .inr (2, [.int (iI cd), .ref n, .ref r, .ref d, .int (iI (f_cont N)), .int (iI 0), .ref ya, .ref yb, .ref yc, .ref yo, .long (lI (X 0)), .long (lI (X 1)), .long (lI (X 2)), .long (lI (X 3)), .long (lI (X 4)), .long (lI (X 5)), .long (lI (X 6))])), (n, .inl (cI, 5, .inl (aI N))), (r, .inl (cJ, 5, .inr (.inl (aL (iu (iu (iu (iu R 0 (Int.tdiv (N 0) (f_cont N))) 1 (Int.tdiv (N 1) (f_cont N))) 2 (Int.tdiv (N 2) (f_cont N))) 3 (Int.tdiv (N 3) (f_cont N))))))), (d, .inl (cJ, 5, .inr (.inl (aL D)))), (ya, .inl (cI, 5, .inl (aI As))), (yb, .inl (cI, 5, .inl (aI Bs))), (yc, .inl (cI, 5, .inl (aI Cs))), (yo, .inl (cI, 5, .inl (aI Os)))] H := hP
    have hD : va_D A [(x, .inr (2, [.int (iI cd), .ref n, .ref r, .ref d, .int (iI (f_cont N)), .int (iI 0), .ref ya, .ref yb, .ref yc, .ref yo, .long (lI (X 0)), .long (lI (X 1)), .long (lI (X 2)), .long (lI (X 3)), .long (lI (X 4)), .long (lI (X 5)), .long (lI (X 6))])), (n, .inl (cI, 5, .inl (aI N))), (r, .inl (cJ, 5, .inr (.inl (aL (iu (iu (iu (iu R 0 (Int.tdiv (N 0) (f_cont N))) 1 (Int.tdiv (N 1) (f_cont N))) 2 (Int.tdiv (N 2) (f_cont N))) 3 (Int.tdiv (N 3) (f_cont N))))))), (d, .inl (cJ, 5, .inr (.inl (aL D)))), (ya, .inl (cI, 5, .inl (aI As))), (yb, .inl (cI, 5, .inl (aI Bs))), (yc, .inl (cI, 5, .inl (aI Cs))), (yo, .inl (cI, 5, .inl (aI Os)))] := hD
    refine ix_iinc (k := 0) (lv2 := [(4, .int (iI 4)), (2, .long (lI (f_gcd (f_gcd (f_gcd (f_gcd (f_gcd 0 (N 0)) (N 1)) (N 2)) (N 3)) (N 4)))), (1, .int (iI (f_deg N))), (0, .ref x)]) hx hb dX2_find_89 hl rfl (by decide) rfl (fun ls hl => ?_)
    refine lv_goto (tgt := 63) hx hb dX2_find_92 (by decide) ?_
    refine lv_iload hx hb dX2_find_63 (lv_at hl 0 rfl) ?_
    refine ix_iconst (n := 5) hx hb dX2_find_65 ?_
    refine ix_icmp_ge (tgt := 95) hx hb dX2_find_66 (by decide) (by decide) (by decide) (fun c30 => absurd c30 (by decide)) (fun _ => ?_)
    refine lv_aload_n hx hb dX2_find_69 rfl (lv_at hl 3 rfl) ?_
    refine va_get (D := (dC, dI)) (ci := 2) (v := .ref r) (C := RX2) (T := TX2) (N := 17) hx hb hw inX2 hown hK hP 0 rfl rfl 2 (by decide) (hw _ mA_383) (fun _ h9 => h9) rfl dX2_find_70 ?_
    refine lv_iload hx hb dX2_find_73 (lv_at hl 0 rfl) ?_
    refine lv_aload_n hx hb dX2_find_75 rfl (lv_at hl 3 rfl) ?_
    refine va_get (D := (dC, dI)) (ci := 2) (v := .ref n) (C := RX2) (T := TX2) (N := 17) hx hb hw inX2 hown hK hP 0 rfl rfl 1 (by decide) (hw _ mA_382) (fun _ h9 => h9) rfl dX2_find_76 ?_
    refine lv_iload hx hb dX2_find_79 (lv_at hl 0 rfl) ?_
    refine ix_iald (k := 4) hx hb hK hP 1 0 rfl rfl (by decide) (by decide) (by decide) dX2_find_81 ?_
    refine lv_aload_n hx hb dX2_find_82 rfl (lv_at hl 3 rfl) ?_
    refine va_get (D := (dC, dI)) (ci := 2) (v := .int (iI (f_cont N))) (C := RX2) (T := TX2) (N := 17) hx hb hw inX2 hown hK hP 0 rfl rfl 4 (by decide) (hw _ mA_385) (fun _ h9 => h9) rfl dX2_find_83 ?_
    refine ix_idiv hx hb dX2_find_86 (by omega) (by omega) (by omega) cr.1 ?_
    refine ix_i2l hx hb dX2_find_87 (by have := rest_20 hN h5 hdeg 4; unfold f_rest at this; omega) ?_
    refine ix_last (k := 4) (x := Int.tdiv (N 4) (f_cont N)) hx hb hK hP hD hS 2 1 rfl rfl (by decide) (by decide) (by decide) dX2_find_88 (fun H locs hP hD hS => ?_)
    have hP : va_P (dC, dI) vwCl [(x, .inr (2, [.int (iI cd), .ref n, .ref r, .ref d, .int (iI (f_cont N)), .int (iI 0), .ref ya, .ref yb, .ref yc, .ref yo, .long (lI (X 0)), .long (lI (X 1)), .long (lI (X 2)), .long (lI (X 3)), .long (lI (X 4)), .long (lI (X 5)), .long (lI (X 6))])), (n, .inl (cI, 5, .inl (aI N))), (r, .inl (cJ, 5, .inr (.inl (aL (iu (iu (iu (iu (iu R 0 (Int.tdiv (N 0) (f_cont N))) 1 (Int.tdiv (N 1) (f_cont N))) 2 (Int.tdiv (N 2) (f_cont N))) 3 (Int.tdiv (N 3) (f_cont N))) 4 (Int.tdiv (N 4) (f_cont N))))))), (d, .inl (cJ, 5, .inr (.inl (aL D)))), (ya, .inl (cI, 5, .inl (aI As))), (yb, .inl (cI, 5, .inl (aI Bs))), (yc, .inl (cI, 5, .inl (aI Cs))), (yo, .inl (cI, 5, .inl (aI Os)))] H := hP
    have hD : va_D A [(x, .inr (2, [.int (iI cd), .ref n, .ref r, .ref d, .int (iI (f_cont N)), .int (iI 0), .ref ya, .ref yb, .ref yc, .ref yo, .long (lI (X 0)), .long (lI (X 1)), .long (lI (X 2)), .long (lI (X 3)), .long (lI (X 4)), .long (lI (X 5)), .long (lI (X 6))])), (n, .inl (cI, 5, .inl (aI N))), (r, .inl (cJ, 5, .inr (.inl (aL (iu (iu (iu (iu (iu R 0 (Int.tdiv (N 0) (f_cont N))) 1 (Int.tdiv (N 1) (f_cont N))) 2 (Int.tdiv (N 2) (f_cont N))) 3 (Int.tdiv (N 3) (f_cont N))) 4 (Int.tdiv (N 4) (f_cont N))))))), (d, .inl (cJ, 5, .inr (.inl (aL D)))), (ya, .inl (cI, 5, .inl (aI As))), (yb, .inl (cI, 5, .inl (aI Bs))), (yc, .inl (cI, 5, .inl (aI Cs))), (yo, .inl (cI, 5, .inl (aI Os)))] := hD
    refine ix_iinc (k := 0) (lv2 := [(4, .int (iI 5)), (2, .long (lI (f_gcd (f_gcd (f_gcd (f_gcd (f_gcd 0 (N 0)) (N 1)) (N 2)) (N 3)) (N 4)))), (1, .int (iI (f_deg N))), (0, .ref x)]) hx hb dX2_find_89 hl rfl (by decide) rfl (fun ls hl => ?_)
    refine lv_goto (tgt := 63) hx hb dX2_find_92 (by decide) ?_
    refine lv_iload hx hb dX2_find_63 (lv_at hl 0 rfl) ?_
    refine ix_iconst (n := 5) hx hb dX2_find_65 ?_
    refine ix_icmp_ge (tgt := 95) hx hb dX2_find_66 (by decide) (by decide) (by decide) (fun _ => ?_) (fun c31 => absurd c31 (by decide))
    rw [rest_fun h5 hR5] at hP hD
    refine ix_iconst (n := 1) hx hb dX2_find_95 ?_
    refine lv_istore (lv' := [(4, .int (iI 1)), (2, .long (lI (f_gcd (f_gcd (f_gcd (f_gcd (f_gcd 0 (N 0)) (N 1)) (N 2)) (N 3)) (N 4)))), (1, .int (iI (f_deg N))), (0, .ref x)]) hx hb dX2_find_96 hl (by decide) rfl (fun ls hl => ?_)
    obtain ⟨k1, k2⟩ := (⟨rest_PL hN h5 hdeg, trivial⟩ : PL (f_rest N) ∧ True)
    refine lp_f1 (s0 := (f_rest N, 0, FF As Bs Cs Os)) (fun gR_ gD_ gfc_ gAs gBs gCs gOs gD5 gLB H locs hP hD hS ls hl => ?_) hA hnb ⟨hx, hb, hr, hml, hown, hw, hlocks⟩ 21 1 (f_rest N) D 0 As Bs Cs Os ⟨by omega, by omega⟩ hD5 ⟨k1, by decide, by have := (deg_c (f_rest N)).2.1; omega, fun i q0 q1 => absurd q1 (by omega), _, fun i _ _ => rfl, rfl⟩ (by omega) _ _ hK hP hD hS ls (lv_sub hl [3, 0] rfl)
    refine ix_iconst (n := 1) hx hb dX2_find_173 ?_
    refine lv_istore (lv' := [(4, .int (iI 1)), (0, .ref x)]) hx hb dX2_find_174 hl (by decide) rfl (fun ls hl => ?_)
    obtain ⟨j1, j2, j3, j4, Gs, j5, j6⟩ := gLB
    have hno := runB_no 20 _ _ k1.1.1 j6
    have hPR := PR_of j1 (fun b k q1 q2 q3 q4 => hno.2 b k q1 (by omega) q3 q4)
    obtain ⟨m1, m2⟩ := okl_lin j4 j5
    exact lp_g1 (s0 := (gR_, gfc_, Gs)) j6 hPR m1 j2 hA hnb ⟨hx, hb, hr, hml, hown, hw, hlocks⟩ 21 1 gR_ gD_ gfc_ gAs gBs gCs gOs ⟨by omega, by omega⟩ hPR gD5 ⟨j2, j3⟩ m2 ⟨Gs, j5, Or.inl ⟨rfl, fun x y z q1 q2 => by unfold lexb inR at *; omega⟩⟩ (by omega) _ _ hK hP hD hS ls (lv_sub hl [1, 0] rfl)
