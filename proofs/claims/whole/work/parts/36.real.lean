set_option maxHeartbeats 4000000 in
set_option maxRecDepth 100000 in
theorem lp_real {p : Program} {l : Launch} {e : Env} {s : State} {m : MethodId} {args : Array Value} {below : List Frame} {meth : Method} {c : Code} {dC : Nat → ClassId} {dI : Nat → Nat → Nat} {A : Nat → Prop} {h n r d f y0 y1 y2 y3 : Nat} {cI cF : ClassId} {N R D : Int → Int} {cn fc : Int} {Fs : Int → Int → Int} {XC : String → State → State → Prop} (hci : CI N R D cn fc 1 Fs) (hcis : CIs N (R, D, cn, fc, 1, (y0, y1, y2, y3), Fs)) (hfc : 0 ≤ fc ∧ fc ≤ 4) (hA : ∀ q : Nat, s.heap.size ≤ q → A q) (hnb : nb s) (C0 : cx p s m meth c args RX1 cX1_real 3 (some .int)) : ∀ (n9 : Nat) (i : Int) (z : Int), 0 ≤ i ∧ i ≤ fc → z = f_sum Fs i.toNat → (4 - i).toNat < n9 → ∀ (H : Heap) (locs : List Loc), va_K (dC, dI) vwCl [(cI, .int), (cF, .object RX0)] s → va_P (dC, dI) vwCl (cw h n r d f cI cF N R D cn fc 1 y0 y1 y2 y3 Fs) H → va_D A (cw h n r d f cI cF N R D cn fc 1 y0 y1 y2 y3 Fs) → va_S A s.heap H locs → ∀ (ls : Array Slot), lv_has ls 3 [(0, .ref h), (1, .int (iI z)), (2, .int (iI i))] → W p l e ({ frames := 7, cells := 1, slots := 6, locals := 300 } : Room) s m args below meth c H locs 1 6 (vx_MQ below (va_Qi (fun r9 u => CIs N u ∧ r9 = iI (f_sum u.2.2.2.2.2.2 u.2.2.2.1.toNat)) (fun (u : CS) t9 => va_P (dC, dI) vwCl (cwu h n r d f cI cF N u) t9.heap ∧ va_K (dC, dI) vwCl [(cI, .int), (cF, .object RX0)] t9 ∧ va_D A (cwu h n r d f cI cF N u)) A) XC args s 1 6 A) (F0 m 8 ls []) := by
  obtain ⟨hx, hb, hr, hml, hown, hw, hlocks⟩ := C0
  intro n9
  induction n9 with
  | zero => intro i z _ _ hmu; exact absurd hmu (Nat.not_lt_zero _)
  | succ n9 ih =>
    intro i z hi hz hmu H locs hK hP hD hS ls hl
    have hzb := f_sum_b Fs i.toNat
    refine lv_iload_n hx hb dX1_real_8 rfl (lv_at hl 2 rfl) ?_
    refine lv_aload_n hx hb dX1_real_9 rfl (lv_at hl 0 rfl) ?_
    refine va_get (D := (dC, dI)) (ci := 1) (v := .int (iI fc)) (C := RX1) (T := TX1) (N := 7) hx hb hw inX1 hown hK hP 0 rfl rfl 4 (by decide) (hw _ mA_57) (fun _ h9 => h9) rfl dX1_real_10 ?_
    refine ix_icmp_ge (tgt := 64) hx hb dX1_real_13 (by decide) ⟨by omega, by omega⟩ ⟨by omega, by omega⟩ (fun c1 => ?_) (fun c1 => ?_)
    · refine lv_iload_n hx hb dX1_real_64 rfl (lv_at hl 1 rfl) ?_
      have ei : i = fc := by omega
      subst ei
      have hP9 := hP.sub (ws' := (cwu h n r d f cI cF N (R, D, cn, i, 1, (y0, y1, y2, y3), Fs))) [0, 1, 2, 3, 4, 5, 6, 7, 8] rfl
      have hD9 := hD.sub (ws' := (cwu h n r d f cI cF N (R, D, cn, i, 1, (y0, y1, y2, y3), Fs))) [0, 1, 2, 3, 4, 5, 6, 7, 8] (by decide) rfl
      have hK9 := hK.sub (tys' := [(cI, .int), (cF, .object RX0)]) [0, 1] rfl
      refine vx_ret (W.widen (k := 1) (n := 6) (Nat.le_of_ble_eq_true rfl) (Nat.le_of_ble_eq_true rfl) ?_)
      exact W.iret (v := iI z) hx hb hr (fun t ht hW => ⟨⟨iI z, (R, D, cn, i, 1, (y0, y1, y2, y3), Fs), rfl, ⟨hcis, congrArg iI hz⟩, by rw [ht]; exact hP9, va_K.moved hW.alike hK9, hD9⟩, hS.F ht⟩) hS.2.2 dX1_real_65
    · refine lv_iload_n hx hb dX1_real_16 rfl (lv_at hl 2 rfl) ?_
      refine lv_aload_n hx hb dX1_real_17 rfl (lv_at hl 0 rfl) ?_
      refine va_get (D := (dC, dI)) (ci := 1) (v := .ref f) (C := RX1) (T := TX1) (N := 7) hx hb hw inX1 hown hK hP 0 rfl rfl 3 (by decide) (hw _ mA_56) (fun _ h9 => h9) rfl dX1_real_18 ?_
      refine va_alen (v := iI 4) hx hb hK hP 4 1 rfl rfl rfl dX1_real_21 ?_
      refine ix_icmp_ge (tgt := 64) hx hb dX1_real_22 (by decide) ⟨by omega, by omega⟩ (by decide) (fun c2 => ?_) (fun c2 => ?_)
      · refine lv_iload_n hx hb dX1_real_64 rfl (lv_at hl 1 rfl) ?_
        have ei : i = fc := by omega
        subst ei
        have hP9 := hP.sub (ws' := (cwu h n r d f cI cF N (R, D, cn, i, 1, (y0, y1, y2, y3), Fs))) [0, 1, 2, 3, 4, 5, 6, 7, 8] rfl
        have hD9 := hD.sub (ws' := (cwu h n r d f cI cF N (R, D, cn, i, 1, (y0, y1, y2, y3), Fs))) [0, 1, 2, 3, 4, 5, 6, 7, 8] (by decide) rfl
        have hK9 := hK.sub (tys' := [(cI, .int), (cF, .object RX0)]) [0, 1] rfl
        refine vx_ret (W.widen (k := 1) (n := 6) (Nat.le_of_ble_eq_true rfl) (Nat.le_of_ble_eq_true rfl) ?_)
        exact W.iret (v := iI z) hx hb hr (fun t ht hW => ⟨⟨iI z, (R, D, cn, i, 1, (y0, y1, y2, y3), Fs), rfl, ⟨hcis, congrArg iI hz⟩, by rw [ht]; exact hP9, va_K.moved hW.alike hK9, hD9⟩, hS.F ht⟩) hS.2.2 dX1_real_65
      · refine lv_aload_n hx hb dX1_real_25 rfl (lv_at hl 0 rfl) ?_
        refine va_get (D := (dC, dI)) (ci := 1) (v := .ref f) (C := RX1) (T := TX1) (N := 7) hx hb hw inX1 hown hK hP 0 rfl rfl 3 (by decide) (hw _ mA_56) (fun _ h9 => h9) rfl dX1_real_26 ?_
        refine lv_iload_n hx hb dX1_real_29 rfl (lv_at hl 2 rfl) ?_
        have hV0 : va_P (dC, dI) vwCl [(ysel i y0 y1 y2 y3, .inr (0, fl (Fs i)))] H := sel_P hP hi.1 (by omega)
        refine ix_aald hx hb hK hP 4 1 rfl rfl i.toNat (iI_nat hi.1 (by omega)) (vp_in_iI hi.1 (by omega) (by decide)) (q4_s hi.1 (by omega) y0 y1 y2 y3) dX1_real_30 ?_
        have hB0 := (hci.2.2.2.2.1 i).1
        have hPc := hV0.sub (ws' := [((ysel i y0 y1 y2 y3), .inr (0, [.int (iI ((Fs i) 0)), .int (iI ((Fs i) 1)), .int (iI ((Fs i) 2)), .int (iI ((Fs i) 3)), .int (iI ((Fs i) 4)), .int (iI ((Fs i) 5))]))]) [0] rfl
        have hKc := hK.sub (tys' := []) [] rfl
        refine vp_callSi (va_Run.run (va_runVN (As := []) (rest := []) ⟨hx, hb, hml, hown, hw⟩ (kX0_isLinear l dC dI (ysel i y0 y1 y2 y3) (Fs i) hB0) ⟨va_cnB 0 hw (wsA_sub mA_275) rfl rfl rfl (hnb.1 _ mN_300) (hw _ mA_2) (by decide +kernel) ⟨Nat.le_of_ble_eq_true rfl, Nat.le_of_ble_eq_true rfl⟩, hw _ mA_274, hw _ mP_11⟩ ⟨fun a U g mk q => by obtain ⟨q0, qP, qK⟩ := q; exact ⟨q0, qP, va_K.moved (u := U) (U := U.calling g mk a) (Vm.Alike.refl U.vm) qK⟩, va_recv hKc hPc (ci := 0) (q0 := 0) rfl rfl, fun U hU hW => ⟨rfl, by rw [hU]; exact hPc, va_K.moved hW.alike hKc⟩⟩ rfl rfl hl.1 rfl (lv_room (Nat.le_of_ble_eq_true rfl)) dX1_real_31 ⟨Nat.le_of_ble_eq_true rfl, Nat.le_of_ble_eq_true rfl⟩)) (fun r3 h4 => ?_)
        subst h4
        have hln0 : f_lin (Fs i) = if (Fs i) 1 = 0 then 1 else 0 := rfl
        refine ix_if_eq (tgt := 43) hx hb dX1_real_34 (by decide) (lin_r _) (fun c5 => ?_) (fun c5 => ?_)
        · refine lv_aload_n hx hb dX1_real_43 rfl (lv_at hl 0 rfl) ?_
          refine va_get (D := (dC, dI)) (ci := 1) (v := .ref f) (C := RX1) (T := TX1) (N := 7) hx hb hw inX1 hown hK hP 0 rfl rfl 3 (by decide) (hw _ mA_56) (fun _ h9 => h9) rfl dX1_real_44 ?_
          refine lv_iload_n hx hb dX1_real_47 rfl (lv_at hl 2 rfl) ?_
          have hV0 : va_P (dC, dI) vwCl [(ysel i y0 y1 y2 y3, .inr (0, fl (Fs i)))] H := sel_P hP hi.1 (by omega)
          refine ix_aald hx hb hK hP 4 1 rfl rfl i.toNat (iI_nat hi.1 (by omega)) (vp_in_iI hi.1 (by omega) (by decide)) (q4_s hi.1 (by omega) y0 y1 y2 y3) dX1_real_48 ?_
          have hB0 := (hci.2.2.2.2.1 i).1
          have hPc := hV0.sub (ws' := [((ysel i y0 y1 y2 y3), .inr (0, [.int (iI ((Fs i) 0)), .int (iI ((Fs i) 1)), .int (iI ((Fs i) 2)), .int (iI ((Fs i) 3)), .int (iI ((Fs i) 4)), .int (iI ((Fs i) 5))]))]) [0] rfl
          have hKc := hK.sub (tys' := []) [] rfl
          refine vp_callSi (va_Run.run (va_runVN (As := []) (rest := []) ⟨hx, hb, hml, hown, hw⟩ (kX0_isReal l dC dI (ysel i y0 y1 y2 y3) (Fs i) hB0) ⟨va_cnB 0 hw (wsA_sub mA_336) rfl rfl rfl (hnb.1 _ mN_333) (hw _ mA_2) (by decide +kernel) ⟨Nat.le_of_ble_eq_true rfl, Nat.le_of_ble_eq_true rfl⟩, hw _ mA_335, hw _ mP_16⟩ ⟨fun a U g mk q => by obtain ⟨q0, qP, qK⟩ := q; exact ⟨q0, qP, va_K.moved (u := U) (U := U.calling g mk a) (Vm.Alike.refl U.vm) qK⟩, va_recv hKc hPc (ci := 0) (q0 := 0) rfl rfl, fun U hU hW => ⟨rfl, by rw [hU]; exact hPc, va_K.moved hW.alike hKc⟩⟩ rfl rfl hl.1 rfl (lv_room (Nat.le_of_ble_eq_true rfl)) dX1_real_49 ⟨Nat.le_of_ble_eq_true rfl, Nat.le_of_ble_eq_true rfl⟩)) (fun r6 h7 => ?_)
          subst h7
          have hre : f_real (Fs i) = if 0 ≤ (Fs i) 5 then 1 else 0 := rfl
          refine ix_if_eq (tgt := 58) hx hb dX1_real_52 (by decide) (by rw [hre]; split <;> decide) (fun c8 => ?_) (fun c8 => ?_)
          · refine ix_iinc (k := 2) (lv2 := [(2, .int (iI (i + 1))), (0, .ref h), (1, .int (iI z))]) hx hb dX1_real_58 hl rfl (by decide) rfl (fun ls hl => ?_)
            refine lv_goto (tgt := 8) hx hb dX1_real_61 (by decide) ?_
            exact ih (i + 1) z ⟨by omega, by omega⟩ ((Int.add_zero z).symm.trans (f_sum_s Fs hi.1 hz (y := 0) (by unfold f_rl; grind))) (by omega) _ _ hK hP hD hS ls (lv_sub hl [1, 2, 0] rfl)
          · refine ix_iinc (k := 1) (lv2 := [(1, .int (iI (z + 2))), (0, .ref h), (2, .int (iI i))]) hx hb dX1_real_55 hl rfl (by decide) rfl (fun ls hl => ?_)
            refine ix_iinc (k := 2) (lv2 := [(2, .int (iI (i + 1))), (1, .int (iI (z + 2))), (0, .ref h)]) hx hb dX1_real_58 hl rfl (by decide) rfl (fun ls hl => ?_)
            refine lv_goto (tgt := 8) hx hb dX1_real_61 (by decide) ?_
            exact ih (i + 1) (z + 2) ⟨by omega, by omega⟩ (f_sum_s Fs hi.1 hz (y := 2) (by unfold f_rl; grind)) (by omega) _ _ hK hP hD hS ls (lv_sub hl [2, 1, 0] rfl)
        · refine ix_iinc (k := 1) (lv2 := [(1, .int (iI (z + 1))), (0, .ref h), (2, .int (iI i))]) hx hb dX1_real_37 hl rfl (by decide) rfl (fun ls hl => ?_)
          refine lv_goto (tgt := 58) hx hb dX1_real_40 (by decide) ?_
          refine ix_iinc (k := 2) (lv2 := [(2, .int (iI (i + 1))), (1, .int (iI (z + 1))), (0, .ref h)]) hx hb dX1_real_58 hl rfl (by decide) rfl (fun ls hl => ?_)
          refine lv_goto (tgt := 8) hx hb dX1_real_61 (by decide) ?_
          exact ih (i + 1) (z + 1) ⟨by omega, by omega⟩ (f_sum_s Fs hi.1 hz (y := 1) (by unfold f_rl; grind)) (by omega) _ _ hK hP hD hS ls (lv_sub hl [2, 1, 0] rfl)
set_option maxHeartbeats 4000000 in
set_option maxRecDepth 100000 in
theorem kX1_real (l : Launch) (hlt : l.stackTraces = false) (dC : Nat → ClassId) (dI : Nat → Nat → Nat) (sz : Nat) (h n r d f y0 y1 y2 y3 : Nat) (cI cF : ClassId) (N R D : Int → Int) (cn fc sp : Int) (Fs : Int → Int → Int) (hci : CI N R D cn fc sp Fs)  : vx_Met l yX1_real (.code yX1_real cX1_real 3 (some .int) :: wsA) ({ frames := 7, cells := 1, slots := 6, locals := 300 }) (va_Pc [.ref h] (fun U => U.heap.size = sz ∧ va_P (dC, dI) vwCl (cw h n r d f cI cF N R D cn fc sp y0 y1 y2 y3 Fs) U.heap ∧ va_K (dC, dI) vwCl [(cI, .int), (cF, .object RX0)] U ∧ va_D (fun _ => True) (cw h n r d f cI cF N R D cn fc sp y0 y1 y2 y3 Fs) ∧ nb U ∧ zt (va_A (cw h n r d f cI cF N R D cn fc sp y0 y1 y2 y3 Fs) sz) U)) (va_Qi (fun r9 u => CIs N u ∧ r9 = iI (f_sum u.2.2.2.2.2.2 u.2.2.2.1.toNat)) (fun (u : CS) t9 => va_P (dC, dI) vwCl (cwu h n r d f cI cF N u) t9.heap ∧ va_K (dC, dI) vwCl [(cI, .int), (cF, .object RX0)] t9 ∧ va_D (va_A (cw h n r d f cI cF N R D cn fc sp y0 y1 y2 y3 Fs) sz) (cwu h n r d f cI cF N u)) (va_A (cw h n r d f cI cF N R D cn fc sp y0 y1 y2 y3 Fs) sz)) (vx_X (fun u : CS => CIu N u) (fun E u t9 => (E = EISE ∧ f_deg N < 0) ∧ va_P (dC, dI) vwCl (cwu h n r d f cI cF N u) t9.heap ∧ va_K (dC, dI) vwCl [(cI, .int), (cF, .object RX0)] t9 ∧ va_D (va_A (cw h n r d f cI cF N R D cn fc sp y0 y1 y2 y3 Fs) sz) (cwu h n r d f cI cF N u)) (va_A (cw h n r d f cI cF N R D cn fc sp y0 y1 y2 y3 Fs) sz)) 1 6 (va_A (cw h n r d f cI cF N R D cn fc sp y0 y1 y2 y3 Fs) sz) := by
  refine vx_ofW (cc := cX1_real) (maxL := 3) (ret := (some .int)) (by decide) rfl ?_
  intro p e s m args below meth c s₁ B hml hout hv
  obtain ⟨rfl, hsz, hP, hK, hD0, hnb, hzt⟩ := hv
  have hx := B.exec
  have hb := B.bytes
  have hr := B.returns
  have hts := atoms_spec (ws := .code yX1_real cX1_real 3 (some .int) :: wsA) B.pre
  have hw : ∀ w ∈ wsA, w.before _ s = true := fun w h => hts w (List.mem_cons_of_mem _ h)
  have hown : s.vm.findClass RX1 = some m.cls := findClass_of_methodNamed B.named
  have hlocks := B.notSynchronized
  subst hsz
  have hD := hD0.self (sz := s.heap.size)
  generalize hAe : va_A (cw h n r d f cI cF N R D cn fc sp y0 y1 y2 y3 Fs) s.heap.size = A at hD hzt ⊢
  have hA : ∀ q : Nat, s.heap.size ≤ q → A q := fun q h => by rw [← hAe]; exact Or.inr h
  have hS : va_S A s.heap s.heap [] := va_S.rf
  have hP : va_P (dC, dI) vwCl (cw h n r d f cI cF N R D cn fc sp y0 y1 y2 y3 Fs) s.heap := hP
  have hl := lv_entry ([.ref h]) (n := 3) (Nat.le_of_ble_eq_true rfl)
  rw [lg_entry_eq]
  generalize (lg_sl ([.ref h]) ++ List.replicate (3 - (lg_sl ([.ref h])).length) Slot.unset).toArray = ls at hl ⊢
  have hl : lv_has ls 3 [(0, .ref h)] := hl
  refine lv_aload_n hx hb dX1_real_0 rfl (lv_at hl 0 rfl) ?_
  have hFc := va_free (wc := (cw h n r d f cI cF N R D cn fc sp y0 y1 y2 y3 Fs)) hD hS hA [0, 1, 2, 3, 4, 5, 6, 7, 8] rfl
  refine vx_callv (vx_runV (As := []) (rest := []) ⟨hx, hb, hml, hown, hw⟩ (kX1_split l hlt dC dI _ h n r d f y0 y1 y2 y3 cI cF N R D cn fc sp Fs hci) (cwV 0 hw (gV mA_215 mA_217 mP_3 mA_1 mA_218) rfl rfl rfl (by decide +kernel) ⟨Nat.le_of_ble_eq_true rfl, Nat.le_of_ble_eq_true rfl⟩) ⟨fun a U g mk q => by obtain ⟨q0, q1, qP, qK, qD, qN, qZ⟩ := q; exact ⟨q0, q1, qP, va_K.moved (u := U) (U := U.calling g mk a) (Vm.Alike.refl U.vm) qK, qD, nb.same (u := U) rfl qN, zt.go (u := U) qZ (Vm.Alike.refl U.vm) (fun _ q => q) (fun _ _ _ => rfl)⟩, va_recv hK hP (ci := 1) (q0 := 0) rfl rfl, fun U hU hW => ⟨rfl, by rw [hU], by rw [hU]; exact hP, va_K.moved hW.alike hK, hD.weaken (fun _ _ _ _ => trivial), nb.warm hW hnb, zt2 hzt hS hU hW.alike hFc⟩⟩ rfl rfl hl.1 rfl (lv_room (Nat.le_of_ble_eq_true rfl)) dX1_real_1 ⟨Nat.le_of_ble_eq_true rfl, Nat.le_of_ble_eq_true rfl⟩) hS (fun q _ h => hFc q h) hFc (fun q _ z => z.elim) (fun E9 ce q9 u9 t9 H1 locs ht hvm hpx hBX hz1 hk1 hS hce hcv hcl => ?_) (fun u1 t9 H1 locs ht hvm hq2 hB hz1 hk1 hS => ?_)
  · exact vx_out (fun x h => (hout x h).elim) hlocks hce hcv hcl (fun t2 ht2 hvm2 => ⟨(R, D, cn, fc, sp, (y0, y1, y2, y3), Fs), hci, ⟨⟨hBX, hpx⟩, by rw [ht2]; exact pkeep hP (fun q z => hk1 q z (fun f => f)), va_K.moved hvm2 hK, hD⟩, hS.F ht2⟩) hS.2.2 (Nat.le_of_ble_eq_true rfl) (Nat.le_of_ble_eq_true rfl)
  · obtain ⟨hP1, hK1, hD1⟩ := hB
    rw [ht] at hP1
    obtain ⟨hP, hD⟩ := va_join (wr := []) (w1 := (cw h n r d f cI cF N u1.1 u1.2.1 (f_cont N) u1.2.2.1 1 u1.2.2.2.1.1 u1.2.2.2.1.2.1 u1.2.2.2.1.2.2.1 u1.2.2.2.1.2.2.2 u1.2.2.2.2)) hP hD [0, 1, 2, 3, 4, 5, 6, 7, 8] [] rfl rfl (by decide) (by decide) hk1 hFc hP1 hD1
    generalize H1 = H at hP hS ⊢
    have hP : va_P (dC, dI) vwCl (cw h n r d f cI cF N u1.1 u1.2.1 (f_cont N) u1.2.2.1 1 u1.2.2.2.1.1 u1.2.2.2.1.2.1 u1.2.2.2.1.2.2.1 u1.2.2.2.1.2.2.2 u1.2.2.2.2) H := hP
    have hD : va_D A (cw h n r d f cI cF N u1.1 u1.2.1 (f_cont N) u1.2.2.1 1 u1.2.2.2.1.1 u1.2.2.2.1.2.1 u1.2.2.2.1.2.2.1 u1.2.2.2.1.2.2.2 u1.2.2.2.2) := hD
    have hci := hq2.1
    have hdeg := hq2.2
    have hdc := deg_c N
    refine ix_iconst (n := 0) hx hb dX1_real_4 ?_
    refine lv_istore_n (lv' := [(1, .int (iI 0)), (0, .ref h)]) hx hb dX1_real_5 rfl hl (by decide) rfl (fun ls hl => ?_)
    refine ix_iconst (n := 0) hx hb dX1_real_6 ?_
    refine lv_istore_n (lv' := [(2, .int (iI 0)), (1, .int (iI 0)), (0, .ref h)]) hx hb dX1_real_7 rfl hl (by decide) rfl (fun ls hl => ?_)
    have hfc9 : 0 ≤ u1.2.2.1 ∧ u1.2.2.1 ≤ 4 := by rcases hci.2.2.2.2.2 with q | q; exact absurd q (by decide); exact ⟨q.2.2.2.2.1, q.2.2.2.2.2⟩
    exact lp_real hci ⟨hci, hdeg, rfl, rfl⟩ hfc9 hA hnb ⟨hx, hb, hr, hml, hown, hw, hlocks⟩ 5 0 0 ⟨by decide, hfc9.1⟩ rfl (by decide) _ _ hK hP hD hS ls (lv_sub hl [2, 1, 0] rfl)
