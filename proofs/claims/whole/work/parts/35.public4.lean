theorem gSm {own : String} {idx : Nat} {y : MethodName} {k : Cond} (h1 : Cond.methodLink own idx y ∈ wsA) (h2 : Cond.static y ∈ wsA) (h3 : Cond.initialized y.cls ∈ wsA) (h4 : k ∈ wsA) : GoodIn wsA (va_wsS own idx y (k :: wsA)) := fun w q => by
  simp only [va_wsS, List.cons_append, List.nil_append, List.mem_cons] at q
  rcases q with rfl | rfl | rfl | rfl | q
  · exact wsA_good _ h1
  · exact wsA_good _ h2
  · exact wsA_good _ h3
  · exact wsA_good _ h4
  · exact wsA_good _ q
set_option maxHeartbeats 4000000 in
set_option maxRecDepth 100000 in
theorem kX1_floor (l : Launch) (hlt : l.stackTraces = false) (dC : Nat → ClassId) (dI : Nat → Nat → Nat) (sz : Nat) (h n r d f y0 y1 y2 y3 : Nat) (cI cF : ClassId) (N R D : Int → Int) (cn fc sp : Int) (Fs : Int → Int → Int) (hci : CI N R D cn fc sp Fs) (k up : Int) (hk : r32 k) (hup : up = 0 ∨ up = 1) : vx_Met l yX1_floor (.code yX1_floor cX1_floor 6 (some .int) :: wsA) ({ frames := 7, cells := 3, slots := 18, locals := 320 }) (va_Pc [.ref h, .int (iI k), .int (iI up)] (fun U => U.heap.size = sz ∧ va_P (dC, dI) vwCl (cw h n r d f cI cF N R D cn fc sp y0 y1 y2 y3 Fs) U.heap ∧ va_K (dC, dI) vwCl [(cI, .int), (cF, .object RX0)] U ∧ va_D (fun _ => True) (cw h n r d f cI cF N R D cn fc sp y0 y1 y2 y3 Fs) ∧ nb U ∧ zt (va_A (cw h n r d f cI cF N R D cn fc sp y0 y1 y2 y3 Fs) sz) U)) (va_Qi (fun r9 u => CIs N u ∧ (0 ≤ k ∧ k < u.2.2.2.1) ∧ 0 ≤ (u.2.2.2.2.2.2 k) 5 ∧ ((f_below (u.2.2.2.2.2.2 k) < 1 ∧ r9 = iI 0) ∨ (1 ≤ f_below (u.2.2.2.2.2.2 k) ∧ ∃ q, f_isrt (f_under (u.2.2.2.2.2.2 k)) q ∧ r9 = iI (f_flr (u.2.2.2.2.2.2 k) up q)))) (fun (u : CS) t9 => va_P (dC, dI) vwCl (cwu h n r d f cI cF N u) t9.heap ∧ va_K (dC, dI) vwCl [(cI, .int), (cF, .object RX0)] t9 ∧ va_D (va_A (cw h n r d f cI cF N R D cn fc sp y0 y1 y2 y3 Fs) sz) (cwu h n r d f cI cF N u)) (va_A (cw h n r d f cI cF N R D cn fc sp y0 y1 y2 y3 Fs) sz)) (vx_X (fun u : CS => CIu N u) (fun E u t9 => ((E = EISE ∧ f_deg N < 0) ∨ (E = EIOB ∧ CIs N u ∧ ¬ (0 ≤ k ∧ k < u.2.2.2.1)) ∨ (E = EIAE ∧ CIs N u ∧ (0 ≤ k ∧ k < u.2.2.2.1) ∧ ¬ 0 ≤ (u.2.2.2.2.2.2 k) 5)) ∧ va_P (dC, dI) vwCl (cwu h n r d f cI cF N u) t9.heap ∧ va_K (dC, dI) vwCl [(cI, .int), (cF, .object RX0)] t9 ∧ va_D (va_A (cw h n r d f cI cF N R D cn fc sp y0 y1 y2 y3 Fs) sz) (cwu h n r d f cI cF N u)) (va_A (cw h n r d f cI cF N R D cn fc sp y0 y1 y2 y3 Fs) sz)) 3 18 (va_A (cw h n r d f cI cF N R D cn fc sp y0 y1 y2 y3 Fs) sz) := by
  refine vx_ofW (cc := cX1_floor) (maxL := 6) (ret := (some .int)) (by decide) rfl ?_
  intro p e s m args below meth c s₁ B hml hout hv
  obtain ⟨rfl, hsz, hP, hK, hD0, hnb, hzt⟩ := hv
  have hx := B.exec
  have hb := B.bytes
  have hr := B.returns
  have hts := atoms_spec (ws := .code yX1_floor cX1_floor 6 (some .int) :: wsA) B.pre
  have hw : ∀ w ∈ wsA, w.before _ s = true := fun w h => hts w (List.mem_cons_of_mem _ h)
  have hown : s.vm.findClass RX1 = some m.cls := findClass_of_methodNamed B.named
  have hlocks := B.notSynchronized
  subst hsz
  have hD := hD0.self (sz := s.heap.size)
  generalize hAe : va_A (cw h n r d f cI cF N R D cn fc sp y0 y1 y2 y3 Fs) s.heap.size = A at hD hzt ⊢
  have hA : ∀ q : Nat, s.heap.size ≤ q → A q := fun q h => by rw [← hAe]; exact Or.inr h
  have hS : va_S A s.heap s.heap [] := va_S.rf
  have hP : va_P (dC, dI) vwCl (cw h n r d f cI cF N R D cn fc sp y0 y1 y2 y3 Fs) s.heap := hP
  have hl := lv_entry ([.ref h, .int (iI k), .int (iI up)]) (n := 6) (Nat.le_of_ble_eq_true rfl)
  rw [lg_entry_eq]
  generalize (lg_sl ([.ref h, .int (iI k), .int (iI up)]) ++ List.replicate (6 - (lg_sl ([.ref h, .int (iI k), .int (iI up)])).length) Slot.unset).toArray = ls at hl ⊢
  have hl : lv_has ls 6 [(0, .ref h), (1, .int (iI k)), (2, .int (iI up))] := hl
  refine lv_aload_n hx hb dX1_floor_0 rfl (lv_at hl 0 rfl) ?_
  have hFc := va_free (wc := (cw h n r d f cI cF N R D cn fc sp y0 y1 y2 y3 Fs)) hD hS hA [0, 1, 2, 3, 4, 5, 6, 7, 8] rfl
  refine vx_callv (vx_runV (As := []) (rest := []) ⟨hx, hb, hml, hown, hw⟩ (kX1_split l hlt dC dI _ h n r d f y0 y1 y2 y3 cI cF N R D cn fc sp Fs hci) (cwV 0 hw (gV mA_215 mA_217 mP_3 mA_1 mA_218) rfl rfl rfl (by decide +kernel) ⟨Nat.le_of_ble_eq_true rfl, Nat.le_of_ble_eq_true rfl⟩) ⟨fun a U g mk q => by obtain ⟨q0, q1, qP, qK, qD, qN, qZ⟩ := q; exact ⟨q0, q1, qP, va_K.moved (u := U) (U := U.calling g mk a) (Vm.Alike.refl U.vm) qK, qD, nb.same (u := U) rfl qN, zt.go (u := U) qZ (Vm.Alike.refl U.vm) (fun _ q => q) (fun _ _ _ => rfl)⟩, va_recv hK hP (ci := 1) (q0 := 0) rfl rfl, fun U hU hW => ⟨rfl, by rw [hU], by rw [hU]; exact hP, va_K.moved hW.alike hK, hD.weaken (fun _ _ _ _ => trivial), nb.warm hW hnb, zt2 hzt hS hU hW.alike hFc⟩⟩ rfl rfl hl.1 rfl (lv_room (Nat.le_of_ble_eq_true rfl)) dX1_floor_1 ⟨Nat.le_of_ble_eq_true rfl, Nat.le_of_ble_eq_true rfl⟩) hS (fun q _ h => hFc q h) hFc (fun q _ z => z.elim) (fun E9 ce q9 u9 t9 H1 locs ht hvm hpx hBX hz1 hk1 hS hce hcv hcl => ?_) (fun u1 t9 H1 locs ht hvm hq2 hB hz1 hk1 hS => ?_)
  · exact vx_out (fun x h => (hout x h).elim) hlocks hce hcv hcl (fun t2 ht2 hvm2 => ⟨(R, D, cn, fc, sp, (y0, y1, y2, y3), Fs), hci, ⟨Or.inl ⟨hBX, hpx⟩, by rw [ht2]; exact pkeep hP (fun q z => hk1 q z (fun f => f)), va_K.moved hvm2 hK, hD⟩, hS.F ht2⟩) hS.2.2 (Nat.le_of_ble_eq_true rfl) (Nat.le_of_ble_eq_true rfl)
  · obtain ⟨hP1, hK1, hD1⟩ := hB
    rw [ht] at hP1
    obtain ⟨hP, hD⟩ := va_join (wr := []) (w1 := (cw h n r d f cI cF N u1.1 u1.2.1 (f_cont N) u1.2.2.1 1 u1.2.2.2.1.1 u1.2.2.2.1.2.1 u1.2.2.2.1.2.2.1 u1.2.2.2.1.2.2.2 u1.2.2.2.2)) hP hD [0, 1, 2, 3, 4, 5, 6, 7, 8] [] rfl rfl (by decide) (by decide) hk1 hFc hP1 hD1
    generalize H1 = H at hP hS ⊢
    have hP : va_P (dC, dI) vwCl (cw h n r d f cI cF N u1.1 u1.2.1 (f_cont N) u1.2.2.1 1 u1.2.2.2.1.1 u1.2.2.2.1.2.1 u1.2.2.2.1.2.2.1 u1.2.2.2.1.2.2.2 u1.2.2.2.2) H := hP
    have hD : va_D A (cw h n r d f cI cF N u1.1 u1.2.1 (f_cont N) u1.2.2.1 1 u1.2.2.2.1.1 u1.2.2.2.1.2.1 u1.2.2.2.1.2.2.1 u1.2.2.2.1.2.2.2 u1.2.2.2.2) := hD
    have hci := hq2.1
    have hdeg := hq2.2
    have hdc := deg_c N
    refine lv_aload_n hx hb dX1_floor_4 rfl (lv_at hl 0 rfl) ?_
    refine lv_iload_n hx hb dX1_floor_5 rfl (lv_at hl 1 rfl) ?_
    have hPn := hP.sub (ws' := [(h, .inr (1, [.ref n, .ref r, .ref d, .ref f, .int (iI u1.2.2.1), .int (iI (f_cont N)), .int (iI 1)])), (f, .inl (cF, 4, .inr (.inr (.inr (.inr (q4 u1.2.2.2.1.1 u1.2.2.2.1.2.1 u1.2.2.2.1.2.2.1 u1.2.2.2.1.2.2.2))))))]) [0, 4] rfl
    have hKn := hK.sub (tys' := [(cF, .object RX0)]) [1] rfl
    have hfc9 : 0 ≤ u1.2.2.1 ∧ u1.2.2.1 ≤ 4 := by rcases hci.2.2.2.2.2 with q | q; exact absurd q (by decide); exact ⟨q.2.2.2.2.1, q.2.2.2.2.2⟩
    refine xr_callr (vx_runV (As := [.int (iI k)]) (rest := []) ⟨hx, hb, hml, hown, hw⟩ (kX1_numbered l hlt dC dI A h n r d f u1.2.2.2.1.1 u1.2.2.2.1.2.1 u1.2.2.2.1.2.2.1 u1.2.2.2.1.2.2.2 cF (f_cont N) u1.2.2.1 1 k (by omega) hfc9) (cwV 1 hw (gV mA_295 mA_297 mP_15 mA_1 mA_298) rfl rfl rfl (by decide +kernel) ⟨Nat.le_of_ble_eq_true rfl, Nat.le_of_ble_eq_true rfl⟩) ⟨fun a U g mk q => by obtain ⟨q0, qP, qK, qN, qZ⟩ := q; exact ⟨q0, qP, va_K.moved (u := U) (U := U.calling g mk a) (Vm.Alike.refl U.vm) qK, nb.same (u := U) rfl qN, zt.go (u := U) qZ (Vm.Alike.refl U.vm) (fun _ q => q) (fun _ _ _ => rfl)⟩, va_recv hKn hPn (ci := 1) (q0 := 0) rfl rfl, fun U hU hW => ⟨rfl, by rw [hU]; exact hPn, va_K.moved hW.alike hKn, nb.warm hW hnb, zt1 hzt hS hU hW.alike⟩⟩ rfl rfl hl.1 rfl (lv_room (Nat.le_of_ble_eq_true rfl)) dX1_floor_6 ⟨Nat.le_of_ble_eq_true rfl, Nat.le_of_ble_eq_true rfl⟩) hS (fun q _ z => z.elim) (fun q z => z.elim) (fun q _ z => z.elim) (fun E9 ce q9 u9 t9 H1 locs ht hvm hpx hBX hz1 hk1 hS hce hcv hcl => ?_) (fun u9 ra0 t9 H1 locs ht hvm hqra0 hra0 hz1 hk1 hS => ?_)
    · exact vx_out (fun x h => (hout x h).elim) hlocks hce hcv hcl (fun t2 ht2 hvm2 => ⟨(u1.1, u1.2.1, f_cont N, u1.2.2.1, 1, (u1.2.2.2.1.1, u1.2.2.2.1.2.1, u1.2.2.2.1.2.2.1, u1.2.2.2.1.2.2.2), u1.2.2.2.2), hci, ⟨Or.inr (Or.inl ⟨hBX, ⟨hci, hdeg, rfl, rfl⟩, hpx⟩), by rw [ht2]; exact pkeep hP (fun q z => hk1 q z (fun f => f)), va_K.moved hvm2 hK, hD⟩, hS.F ht2⟩) hS.2.2 (Nat.le_of_ble_eq_true rfl) (Nat.le_of_ble_eq_true rfl)
    · have hP := pkeep hP (fun q z => hk1 q z (fun f => f))
      generalize H1 = H at hP  hS ⊢
      have hV0 : va_P (dC, dI) vwCl [(ra0, .inr (0, fl (u1.2.2.2.2 k)))] H := by rw [hra0]; exact sel_P hP hqra0.1 (by omega)
      obtain ⟨hB0, hBm0, hBb0, hBu0⟩ := hci.2.2.2.2.1 k
      refine lv_astore_n (lv' := [(3, .ref ra0), (0, .ref h), (1, .int (iI k)), (2, .int (iI up))]) hx hb dX1_floor_9 rfl hl (by decide) rfl (fun ls hl => ?_)
      refine lv_aload_n hx hb dX1_floor_10 rfl (lv_at hl 0 rfl) ?_
      have hKn := hK.sub (tys' := []) [] rfl
      refine vx_callv (vx_runS (As := [.ref ra0]) (rest := []) ⟨hx, hb, hml, hown, hw⟩ (kX1_checkReal l hlt dC dI A ra0 (u1.2.2.2.2 k) hB0) (cwS 1 hw (gS mA_344 mA_345 mA_1 mA_346) rfl rfl rfl (by decide +kernel) ⟨Nat.le_of_ble_eq_true rfl, Nat.le_of_ble_eq_true rfl⟩) ⟨fun a U g mk q => by obtain ⟨q0, qP, qK, qN, qZ⟩ := q; exact ⟨q0, qP, va_K.moved (u := U) (U := U.calling g mk a) (Vm.Alike.refl U.vm) qK, nb.same (u := U) rfl qN, zt.go (u := U) qZ (Vm.Alike.refl U.vm) (fun _ q => q) (fun _ _ _ => rfl)⟩, fun U hU hW => ⟨rfl, by rw [hU]; exact hV0, va_K.moved hW.alike hKn, nb.warm hW hnb, zt1 hzt hS hU hW.alike⟩⟩ rfl rfl hl.1 rfl (lv_room (Nat.le_of_ble_eq_true rfl)) dX1_floor_11 ⟨Nat.le_of_ble_eq_true rfl, Nat.le_of_ble_eq_true rfl⟩) hS (fun q _ z => z.elim) (fun q z => z.elim) (fun q _ z => z.elim) (fun E9 ce q9 u9 t9 H1 locs ht hvm hpx hBX hz1 hk1 hS hce hcv hcl => ?_) (fun u9 t9 H1 locs ht hvm hr0 hB9 hz1 hk1 hS => ?_)
      · exact vx_out (fun x h => (hout x h).elim) hlocks hce hcv hcl (fun t2 ht2 hvm2 => ⟨(u1.1, u1.2.1, f_cont N, u1.2.2.1, 1, (u1.2.2.2.1.1, u1.2.2.2.1.2.1, u1.2.2.2.1.2.2.1, u1.2.2.2.1.2.2.2), u1.2.2.2.2), hci, ⟨Or.inr (Or.inr ⟨hBX, ⟨hci, hdeg, rfl, rfl⟩, hqra0, hpx⟩), by rw [ht2]; exact pkeep hP (fun q z => hk1 q z (fun f => f)), va_K.moved hvm2 hK, hD⟩, hS.F ht2⟩) hS.2.2 (Nat.le_of_ble_eq_true rfl) (Nat.le_of_ble_eq_true rfl)
      · have hP := pkeep hP (fun q z => hk1 q z (fun f => f))
        have hV0 := pkeep hV0 (fun q z => hk1 q z (fun f => f))
        generalize H1 = H at hP hV0 hS ⊢
        refine lv_aload_n hx hb dX1_floor_14 rfl (lv_at hl 0 rfl) ?_
        have hPc := hV0.sub (ws' := [(ra0, .inr (0, [.int (iI ((u1.2.2.2.2 k) 0)), .int (iI ((u1.2.2.2.2 k) 1)), .int (iI ((u1.2.2.2.2 k) 2)), .int (iI ((u1.2.2.2.2 k) 3)), .int (iI ((u1.2.2.2.2 k) 4)), .int (iI ((u1.2.2.2.2 k) 5))]))]) [0] rfl
        have hKc := hK.sub (tys' := []) [] rfl
        refine vp_callSi (va_Run.run (va_runVN (As := []) (rest := []) ⟨hx, hb, hml, hown, hw⟩ (kX0_below l dC dI ra0 (u1.2.2.2.2 k) hB0) ⟨va_cnB 0 hw (wsA_sub mA_283) rfl rfl rfl (hnb.1 _ mN_325) (hw _ mA_2) (by decide +kernel) ⟨Nat.le_of_ble_eq_true rfl, Nat.le_of_ble_eq_true rfl⟩, hw _ mA_282, hw _ mP_13⟩ ⟨fun a U g mk q => by obtain ⟨q0, qP, qK⟩ := q; exact ⟨q0, qP, va_K.moved (u := U) (U := U.calling g mk a) (Vm.Alike.refl U.vm) qK⟩, va_recv hKc hPc (ci := 0) (q0 := 0) rfl rfl, fun U hU hW => ⟨rfl, by rw [hU]; exact hPc, va_K.moved hW.alike hKc⟩⟩ rfl rfl hl.1 rfl (lv_room (Nat.le_of_ble_eq_true rfl)) dX1_floor_15 ⟨Nat.le_of_ble_eq_true rfl, Nat.le_of_ble_eq_true rfl⟩)) (fun r3 h4 => ?_)
        subst h4
        refine lv_istore (lv' := [(4, .int (iI (f_below (u1.2.2.2.2 k)))), (3, .ref ra0), (0, .ref h), (1, .int (iI k)), (2, .int (iI up))]) hx hb dX1_floor_18 hl (by decide) rfl (fun ls hl => ?_)
        refine lv_iload hx hb dX1_floor_20 (lv_at hl 0 rfl) ?_
        refine ix_iconst (n := 1) hx hb dX1_floor_22 ?_
        refine ix_icmp_ge (tgt := 28) hx hb dX1_floor_23 (by decide) ⟨by omega, by omega⟩ (by decide) (fun c5 => ?_) (fun c5 => ?_)
        · refine lv_aload_n hx hb dX1_floor_28 rfl (lv_at hl 1 rfl) ?_
          have hPc := hV0.sub (ws' := [(ra0, .inr (0, [.int (iI ((u1.2.2.2.2 k) 0)), .int (iI ((u1.2.2.2.2 k) 1)), .int (iI ((u1.2.2.2.2 k) 2)), .int (iI ((u1.2.2.2.2 k) 3)), .int (iI ((u1.2.2.2.2 k) 4)), .int (iI ((u1.2.2.2.2 k) 5))]))]) [0] rfl
          have hKc := hK.sub (tys' := []) [] rfl
          refine vp_callSi (va_Run.run (va_runVN (As := []) (rest := []) ⟨hx, hb, hml, hown, hw⟩ (kX0_under l dC dI ra0 (u1.2.2.2.2 k) hB0) ⟨va_cnB 0 hw (wsA_sub mA_351) rfl rfl rfl (hnb.1 _ mN_348) (hw _ mA_2) (by decide +kernel) ⟨Nat.le_of_ble_eq_true rfl, Nat.le_of_ble_eq_true rfl⟩, hw _ mA_350, hw _ mP_17⟩ ⟨fun a U g mk q => by obtain ⟨q0, qP, qK⟩ := q; exact ⟨q0, qP, va_K.moved (u := U) (U := U.calling g mk a) (Vm.Alike.refl U.vm) qK⟩, va_recv hKc hPc (ci := 0) (q0 := 0) rfl rfl, fun U hU hW => ⟨rfl, by rw [hU]; exact hPc, va_K.moved hW.alike hKc⟩⟩ rfl rfl hl.1 rfl (lv_room (Nat.le_of_ble_eq_true rfl)) dX1_floor_29 ⟨Nat.le_of_ble_eq_true rfl, Nat.le_of_ble_eq_true rfl⟩)) (fun r6 h7 => ?_)
          subst h7
          refine vp_callSi (W.runS (As := [.int (iI (f_under (u1.2.2.2.2 k)))]) (rest := []) ⟨hx, hb, hml, hown, hw⟩ (kX1_wholeRoot l (f_under (u1.2.2.2.2 k)) (by omega)) (cwS 1 hw (gS mA_352 mA_353 mA_1 mA_354) rfl rfl rfl (by decide +kernel) ⟨Nat.le_of_ble_eq_true rfl, Nat.le_of_ble_eq_true rfl⟩) preEq rfl rfl hl.1 rfl (lv_room (Nat.le_of_ble_eq_true rfl)) dX1_floor_32 ⟨Nat.le_of_ble_eq_true rfl, Nat.le_of_ble_eq_true rfl⟩) (fun r9 hr9 => ?_)
          obtain ⟨rt, er9, hrt⟩ := hr9
          subst er9
          have hrt0 := hrt.1
          have hrt1 := hrt.2.1
          refine lv_istore (lv' := [(5, .int (iI rt)), (4, .int (iI (f_below (u1.2.2.2.2 k)))), (3, .ref ra0), (0, .ref h), (1, .int (iI k)), (2, .int (iI up))]) hx hb dX1_floor_35 hl (by decide) rfl (fun ls hl => ?_)
          refine lv_iload_n hx hb dX1_floor_37 rfl (lv_at hl 5 rfl) ?_
          refine ix_if_ne (tgt := 48) hx hb dX1_floor_38 (by decide) ⟨by omega, by omega⟩ (fun c8 => ?_) (fun c8 => ?_)
          · refine lv_aload_n hx hb dX1_floor_48 rfl (lv_at hl 2 rfl) ?_
            have hPc := hV0.sub (ws' := [(ra0, .inr (0, [.int (iI ((u1.2.2.2.2 k) 0)), .int (iI ((u1.2.2.2.2 k) 1)), .int (iI ((u1.2.2.2.2 k) 2)), .int (iI ((u1.2.2.2.2 k) 3)), .int (iI ((u1.2.2.2.2 k) 4)), .int (iI ((u1.2.2.2.2 k) 5))]))]) [0] rfl
            have hKc := hK.sub (tys' := []) [] rfl
            refine vp_callSi (va_Run.run (va_runVN (As := []) (rest := []) ⟨hx, hb, hml, hown, hw⟩ (kX0_middle l dC dI ra0 (u1.2.2.2.2 k) hB0) ⟨va_cnB 0 hw (wsA_sub mA_279) rfl rfl rfl (hnb.1 _ mN_324) (hw _ mA_2) (by decide +kernel) ⟨Nat.le_of_ble_eq_true rfl, Nat.le_of_ble_eq_true rfl⟩, hw _ mA_278, hw _ mP_12⟩ ⟨fun a U g mk q => by obtain ⟨q0, qP, qK⟩ := q; exact ⟨q0, qP, va_K.moved (u := U) (U := U.calling g mk a) (Vm.Alike.refl U.vm) qK⟩, va_recv hKc hPc (ci := 0) (q0 := 0) rfl rfl, fun U hU hW => ⟨rfl, by rw [hU]; exact hPc, va_K.moved hW.alike hKc⟩⟩ rfl rfl hl.1 rfl (lv_room (Nat.le_of_ble_eq_true rfl)) dX1_floor_49 ⟨Nat.le_of_ble_eq_true rfl, Nat.le_of_ble_eq_true rfl⟩)) (fun r9 h10 => ?_)
            subst h10
            refine lv_iload hx hb dX1_floor_52 (lv_at hl 0 rfl) ?_
            refine ix_iadd hx hb dX1_floor_54 ?_
            refine lv_iload hx hb dX1_floor_55 (lv_at hl 1 rfl) ?_
            refine vp_callSi (W.runS (As := [.int (iI ((f_mid (u1.2.2.2.2 k)) + rt)), .int (iI (f_below (u1.2.2.2.2 k)))]) (rest := []) ⟨hx, hb, hml, hown, hw⟩ (kMfd l ((f_mid (u1.2.2.2.2 k)) + rt) (f_below (u1.2.2.2.2 k)) ⟨by omega, by omega⟩ ⟨by omega, by omega⟩) (va_cwS 2 hw (gSm mA_355 mA_356 mA_11 mA_357) rfl rfl rfl (by decide +kernel) ⟨Nat.le_of_ble_eq_true rfl, Nat.le_of_ble_eq_true rfl⟩) preEq rfl rfl hl.1 rfl (lv_room (Nat.le_of_ble_eq_true rfl)) dX1_floor_57 ⟨Nat.le_of_ble_eq_true rfl, Nat.le_of_ble_eq_true rfl⟩) (fun r9 hr9 => ?_)
            subst hr9
            have hbl9 : 1 ≤ f_below (u1.2.2.2.2 k) := by omega
            have hP9 := hP.sub (ws' := (cwu h n r d f cI cF N (u1.1, u1.2.1, f_cont N, u1.2.2.1, 1, (u1.2.2.2.1.1, u1.2.2.2.1.2.1, u1.2.2.2.1.2.2.1, u1.2.2.2.1.2.2.2), u1.2.2.2.2))) [0, 1, 2, 3, 4, 5, 6, 7, 8] rfl
            have hD9 := hD.sub (ws' := (cwu h n r d f cI cF N (u1.1, u1.2.1, f_cont N, u1.2.2.1, 1, (u1.2.2.2.1.1, u1.2.2.2.1.2.1, u1.2.2.2.1.2.2.1, u1.2.2.2.1.2.2.2), u1.2.2.2.2))) [0, 1, 2, 3, 4, 5, 6, 7, 8] (by decide) rfl
            have hK9 := hK.sub (tys' := [(cI, .int), (cF, .object RX0)]) [0, 1] rfl
            refine vx_ret (W.widen (k := 3) (n := 18) (Nat.le_of_ble_eq_true rfl) (Nat.le_of_ble_eq_true rfl) ?_)
            exact W.iret (v := iI (((f_mid (u1.2.2.2.2 k)) + rt) / (f_below (u1.2.2.2.2 k)))) hx hb hr (fun t ht hW => ⟨⟨iI (((f_mid (u1.2.2.2.2 k)) + rt) / (f_below (u1.2.2.2.2 k))), (u1.1, u1.2.1, f_cont N, u1.2.2.1, 1, (u1.2.2.2.1.1, u1.2.2.2.1.2.1, u1.2.2.2.1.2.2.1, u1.2.2.2.1.2.2.2), u1.2.2.2.2), rfl, ⟨⟨hci, hdeg, rfl, rfl⟩, hqra0, hr0, Or.inr ⟨hbl9, rt, hrt, congrArg iI (by unfold f_flr; grind)⟩⟩, by rw [ht]; exact hP9, va_K.moved hW.alike hK9, hD9⟩, hS.F ht⟩) hS.2.2 dX1_floor_60
          · refine lv_aload_n hx hb dX1_floor_41 rfl (lv_at hl 2 rfl) ?_
            have hPc := hV0.sub (ws' := [(ra0, .inr (0, [.int (iI ((u1.2.2.2.2 k) 0)), .int (iI ((u1.2.2.2.2 k) 1)), .int (iI ((u1.2.2.2.2 k) 2)), .int (iI ((u1.2.2.2.2 k) 3)), .int (iI ((u1.2.2.2.2 k) 4)), .int (iI ((u1.2.2.2.2 k) 5))]))]) [0] rfl
            have hKc := hK.sub (tys' := []) [] rfl
            refine vp_callSi (va_Run.run (va_runVN (As := []) (rest := []) ⟨hx, hb, hml, hown, hw⟩ (kX0_isLinear l dC dI ra0 (u1.2.2.2.2 k) hB0) ⟨va_cnB 0 hw (wsA_sub mA_275) rfl rfl rfl (hnb.1 _ mN_300) (hw _ mA_2) (by decide +kernel) ⟨Nat.le_of_ble_eq_true rfl, Nat.le_of_ble_eq_true rfl⟩, hw _ mA_274, hw _ mP_11⟩ ⟨fun a U g mk q => by obtain ⟨q0, qP, qK⟩ := q; exact ⟨q0, qP, va_K.moved (u := U) (U := U.calling g mk a) (Vm.Alike.refl U.vm) qK⟩, va_recv hKc hPc (ci := 0) (q0 := 0) rfl rfl, fun U hU hW => ⟨rfl, by rw [hU]; exact hPc, va_K.moved hW.alike hKc⟩⟩ rfl rfl hl.1 rfl (lv_room (Nat.le_of_ble_eq_true rfl)) dX1_floor_42 ⟨Nat.le_of_ble_eq_true rfl, Nat.le_of_ble_eq_true rfl⟩)) (fun r11 h12 => ?_)
            subst h12
            have hln0 : f_lin (u1.2.2.2.2 k) = if (u1.2.2.2.2 k) 1 = 0 then 1 else 0 := rfl
            refine ix_if_eq (tgt := 61) hx hb dX1_floor_45 (by decide) (lin_r _) (fun c13 => ?_) (fun c13 => ?_)
            · refine lv_aload_n hx hb dX1_floor_61 rfl (lv_at hl 2 rfl) ?_
              have hPc := hV0.sub (ws' := [(ra0, .inr (0, [.int (iI ((u1.2.2.2.2 k) 0)), .int (iI ((u1.2.2.2.2 k) 1)), .int (iI ((u1.2.2.2.2 k) 2)), .int (iI ((u1.2.2.2.2 k) 3)), .int (iI ((u1.2.2.2.2 k) 4)), .int (iI ((u1.2.2.2.2 k) 5))]))]) [0] rfl
              have hKc := hK.sub (tys' := []) [] rfl
              refine vp_callSi (va_Run.run (va_runVN (As := []) (rest := []) ⟨hx, hb, hml, hown, hw⟩ (kX0_middle l dC dI ra0 (u1.2.2.2.2 k) hB0) ⟨va_cnB 0 hw (wsA_sub mA_279) rfl rfl rfl (hnb.1 _ mN_324) (hw _ mA_2) (by decide +kernel) ⟨Nat.le_of_ble_eq_true rfl, Nat.le_of_ble_eq_true rfl⟩, hw _ mA_278, hw _ mP_12⟩ ⟨fun a U g mk q => by obtain ⟨q0, qP, qK⟩ := q; exact ⟨q0, qP, va_K.moved (u := U) (U := U.calling g mk a) (Vm.Alike.refl U.vm) qK⟩, va_recv hKc hPc (ci := 0) (q0 := 0) rfl rfl, fun U hU hW => ⟨rfl, by rw [hU]; exact hPc, va_K.moved hW.alike hKc⟩⟩ rfl rfl hl.1 rfl (lv_room (Nat.le_of_ble_eq_true rfl)) dX1_floor_62 ⟨Nat.le_of_ble_eq_true rfl, Nat.le_of_ble_eq_true rfl⟩)) (fun r14 h15 => ?_)
              subst h15
              refine lv_iload hx hb dX1_floor_65 (lv_at hl 0 rfl) ?_
              refine ix_isub hx hb dX1_floor_67 ?_
              refine ix_iconst (n := 1) hx hb dX1_floor_68 ?_
              refine ix_isub hx hb dX1_floor_69 ?_
              refine lv_iload hx hb dX1_floor_70 (lv_at hl 1 rfl) ?_
              refine vp_callSi (W.runS (As := [.int (iI (((f_mid (u1.2.2.2.2 k)) - rt) - 1)), .int (iI (f_below (u1.2.2.2.2 k)))]) (rest := []) ⟨hx, hb, hml, hown, hw⟩ (kMfd l (((f_mid (u1.2.2.2.2 k)) - rt) - 1) (f_below (u1.2.2.2.2 k)) ⟨by omega, by omega⟩ ⟨by omega, by omega⟩) (va_cwS 2 hw (gSm mA_355 mA_356 mA_11 mA_357) rfl rfl rfl (by decide +kernel) ⟨Nat.le_of_ble_eq_true rfl, Nat.le_of_ble_eq_true rfl⟩) preEq rfl rfl hl.1 rfl (lv_room (Nat.le_of_ble_eq_true rfl)) dX1_floor_72 ⟨Nat.le_of_ble_eq_true rfl, Nat.le_of_ble_eq_true rfl⟩) (fun r9 hr9 => ?_)
              subst hr9
              have hbl9 : 1 ≤ f_below (u1.2.2.2.2 k) := by omega
              have hP9 := hP.sub (ws' := (cwu h n r d f cI cF N (u1.1, u1.2.1, f_cont N, u1.2.2.1, 1, (u1.2.2.2.1.1, u1.2.2.2.1.2.1, u1.2.2.2.1.2.2.1, u1.2.2.2.1.2.2.2), u1.2.2.2.2))) [0, 1, 2, 3, 4, 5, 6, 7, 8] rfl
              have hD9 := hD.sub (ws' := (cwu h n r d f cI cF N (u1.1, u1.2.1, f_cont N, u1.2.2.1, 1, (u1.2.2.2.1.1, u1.2.2.2.1.2.1, u1.2.2.2.1.2.2.1, u1.2.2.2.1.2.2.2), u1.2.2.2.2))) [0, 1, 2, 3, 4, 5, 6, 7, 8] (by decide) rfl
              have hK9 := hK.sub (tys' := [(cI, .int), (cF, .object RX0)]) [0, 1] rfl
              refine vx_ret (W.widen (k := 3) (n := 18) (Nat.le_of_ble_eq_true rfl) (Nat.le_of_ble_eq_true rfl) ?_)
              exact W.iret (v := iI ((((f_mid (u1.2.2.2.2 k)) - rt) - 1) / (f_below (u1.2.2.2.2 k)))) hx hb hr (fun t ht hW => ⟨⟨iI ((((f_mid (u1.2.2.2.2 k)) - rt) - 1) / (f_below (u1.2.2.2.2 k))), (u1.1, u1.2.1, f_cont N, u1.2.2.1, 1, (u1.2.2.2.1.1, u1.2.2.2.1.2.1, u1.2.2.2.1.2.2.1, u1.2.2.2.1.2.2.2), u1.2.2.2.2), rfl, ⟨⟨hci, hdeg, rfl, rfl⟩, hqra0, hr0, Or.inr ⟨hbl9, rt, hrt, congrArg iI (by unfold f_flr; grind)⟩⟩, by rw [ht]; exact hP9, va_K.moved hW.alike hK9, hD9⟩, hS.F ht⟩) hS.2.2 dX1_floor_75
            · refine lv_aload_n hx hb dX1_floor_48 rfl (lv_at hl 2 rfl) ?_
              have hPc := hV0.sub (ws' := [(ra0, .inr (0, [.int (iI ((u1.2.2.2.2 k) 0)), .int (iI ((u1.2.2.2.2 k) 1)), .int (iI ((u1.2.2.2.2 k) 2)), .int (iI ((u1.2.2.2.2 k) 3)), .int (iI ((u1.2.2.2.2 k) 4)), .int (iI ((u1.2.2.2.2 k) 5))]))]) [0] rfl
              have hKc := hK.sub (tys' := []) [] rfl
              refine vp_callSi (va_Run.run (va_runVN (As := []) (rest := []) ⟨hx, hb, hml, hown, hw⟩ (kX0_middle l dC dI ra0 (u1.2.2.2.2 k) hB0) ⟨va_cnB 0 hw (wsA_sub mA_279) rfl rfl rfl (hnb.1 _ mN_324) (hw _ mA_2) (by decide +kernel) ⟨Nat.le_of_ble_eq_true rfl, Nat.le_of_ble_eq_true rfl⟩, hw _ mA_278, hw _ mP_12⟩ ⟨fun a U g mk q => by obtain ⟨q0, qP, qK⟩ := q; exact ⟨q0, qP, va_K.moved (u := U) (U := U.calling g mk a) (Vm.Alike.refl U.vm) qK⟩, va_recv hKc hPc (ci := 0) (q0 := 0) rfl rfl, fun U hU hW => ⟨rfl, by rw [hU]; exact hPc, va_K.moved hW.alike hKc⟩⟩ rfl rfl hl.1 rfl (lv_room (Nat.le_of_ble_eq_true rfl)) dX1_floor_49 ⟨Nat.le_of_ble_eq_true rfl, Nat.le_of_ble_eq_true rfl⟩)) (fun r16 h17 => ?_)
              subst h17
              refine lv_iload hx hb dX1_floor_52 (lv_at hl 0 rfl) ?_
              refine ix_iadd hx hb dX1_floor_54 ?_
              refine lv_iload hx hb dX1_floor_55 (lv_at hl 1 rfl) ?_
              refine vp_callSi (W.runS (As := [.int (iI ((f_mid (u1.2.2.2.2 k)) + rt)), .int (iI (f_below (u1.2.2.2.2 k)))]) (rest := []) ⟨hx, hb, hml, hown, hw⟩ (kMfd l ((f_mid (u1.2.2.2.2 k)) + rt) (f_below (u1.2.2.2.2 k)) ⟨by omega, by omega⟩ ⟨by omega, by omega⟩) (va_cwS 2 hw (gSm mA_355 mA_356 mA_11 mA_357) rfl rfl rfl (by decide +kernel) ⟨Nat.le_of_ble_eq_true rfl, Nat.le_of_ble_eq_true rfl⟩) preEq rfl rfl hl.1 rfl (lv_room (Nat.le_of_ble_eq_true rfl)) dX1_floor_57 ⟨Nat.le_of_ble_eq_true rfl, Nat.le_of_ble_eq_true rfl⟩) (fun r9 hr9 => ?_)
              subst hr9
              have hbl9 : 1 ≤ f_below (u1.2.2.2.2 k) := by omega
              have hP9 := hP.sub (ws' := (cwu h n r d f cI cF N (u1.1, u1.2.1, f_cont N, u1.2.2.1, 1, (u1.2.2.2.1.1, u1.2.2.2.1.2.1, u1.2.2.2.1.2.2.1, u1.2.2.2.1.2.2.2), u1.2.2.2.2))) [0, 1, 2, 3, 4, 5, 6, 7, 8] rfl
              have hD9 := hD.sub (ws' := (cwu h n r d f cI cF N (u1.1, u1.2.1, f_cont N, u1.2.2.1, 1, (u1.2.2.2.1.1, u1.2.2.2.1.2.1, u1.2.2.2.1.2.2.1, u1.2.2.2.1.2.2.2), u1.2.2.2.2))) [0, 1, 2, 3, 4, 5, 6, 7, 8] (by decide) rfl
              have hK9 := hK.sub (tys' := [(cI, .int), (cF, .object RX0)]) [0, 1] rfl
              refine vx_ret (W.widen (k := 3) (n := 18) (Nat.le_of_ble_eq_true rfl) (Nat.le_of_ble_eq_true rfl) ?_)
              exact W.iret (v := iI (((f_mid (u1.2.2.2.2 k)) + rt) / (f_below (u1.2.2.2.2 k)))) hx hb hr (fun t ht hW => ⟨⟨iI (((f_mid (u1.2.2.2.2 k)) + rt) / (f_below (u1.2.2.2.2 k))), (u1.1, u1.2.1, f_cont N, u1.2.2.1, 1, (u1.2.2.2.1.1, u1.2.2.2.1.2.1, u1.2.2.2.1.2.2.1, u1.2.2.2.1.2.2.2), u1.2.2.2.2), rfl, ⟨⟨hci, hdeg, rfl, rfl⟩, hqra0, hr0, Or.inr ⟨hbl9, rt, hrt, congrArg iI (by unfold f_flr; grind)⟩⟩, by rw [ht]; exact hP9, va_K.moved hW.alike hK9, hD9⟩, hS.F ht⟩) hS.2.2 dX1_floor_60
        · refine ix_iconst (n := 0) hx hb dX1_floor_26 ?_
          have hbl9 : f_below (u1.2.2.2.2 k) < 1 := by omega
          have hP9 := hP.sub (ws' := (cwu h n r d f cI cF N (u1.1, u1.2.1, f_cont N, u1.2.2.1, 1, (u1.2.2.2.1.1, u1.2.2.2.1.2.1, u1.2.2.2.1.2.2.1, u1.2.2.2.1.2.2.2), u1.2.2.2.2))) [0, 1, 2, 3, 4, 5, 6, 7, 8] rfl
          have hD9 := hD.sub (ws' := (cwu h n r d f cI cF N (u1.1, u1.2.1, f_cont N, u1.2.2.1, 1, (u1.2.2.2.1.1, u1.2.2.2.1.2.1, u1.2.2.2.1.2.2.1, u1.2.2.2.1.2.2.2), u1.2.2.2.2))) [0, 1, 2, 3, 4, 5, 6, 7, 8] (by decide) rfl
          have hK9 := hK.sub (tys' := [(cI, .int), (cF, .object RX0)]) [0, 1] rfl
          refine vx_ret (W.widen (k := 3) (n := 18) (Nat.le_of_ble_eq_true rfl) (Nat.le_of_ble_eq_true rfl) ?_)
          exact W.iret (v := iI 0) hx hb hr (fun t ht hW => ⟨⟨iI 0, (u1.1, u1.2.1, f_cont N, u1.2.2.1, 1, (u1.2.2.2.1.1, u1.2.2.2.1.2.1, u1.2.2.2.1.2.2.1, u1.2.2.2.1.2.2.2), u1.2.2.2.2), rfl, ⟨⟨hci, hdeg, rfl, rfl⟩, hqra0, hr0, Or.inl ⟨hbl9, rfl⟩⟩, by rw [ht]; exact hP9, va_K.moved hW.alike hK9, hD9⟩, hS.F ht⟩) hS.2.2 dX1_floor_27
set_option maxHeartbeats 4000000 in
set_option maxRecDepth 100000 in
theorem kX1_compare (l : Launch) (hlt : l.stackTraces = false) (dC : Nat → ClassId) (dI : Nat → Nat → Nat) (sz : Nat) (h n r d f y0 y1 y2 y3 : Nat) (cI cF : ClassId) (N R D : Int → Int) (cn fc sp : Int) (Fs : Int → Int → Int) (hci : CI N R D cn fc sp Fs) (k up j ot : Int) (hk : r32 k) (hup : up = 0 ∨ up = 1) (hj : r32 j) (hot : ot = 0 ∨ ot = 1) : vx_Met l yX1_compare (.code yX1_compare cX1_compare 13 (some .int) :: wsA) ({ frames := 7, cells := 5, slots := 30, locals := 340 }) (va_Pc [.ref h, .int (iI k), .int (iI up), .int (iI j), .int (iI ot)] (fun U => U.heap.size = sz ∧ va_P (dC, dI) vwCl (cw h n r d f cI cF N R D cn fc sp y0 y1 y2 y3 Fs) U.heap ∧ va_K (dC, dI) vwCl [(cI, .int), (cF, .object RX0)] U ∧ va_D (fun _ => True) (cw h n r d f cI cF N R D cn fc sp y0 y1 y2 y3 Fs) ∧ nb U ∧ zt (va_A (cw h n r d f cI cF N R D cn fc sp y0 y1 y2 y3 Fs) sz) U)) (va_Qi (fun r9 u => CIs N u ∧ (0 ≤ k ∧ k < u.2.2.2.1) ∧ (0 ≤ j ∧ j < u.2.2.2.1) ∧ 0 ≤ (u.2.2.2.2.2.2 k) 5 ∧ 0 ≤ (u.2.2.2.2.2.2 j) 5 ∧ r9 = iI (f_cmp (u.2.2.2.2.2.2 k) (u.2.2.2.2.2.2 j) up ot)) (fun (u : CS) t9 => va_P (dC, dI) vwCl (cwu h n r d f cI cF N u) t9.heap ∧ va_K (dC, dI) vwCl [(cI, .int), (cF, .object RX0)] t9 ∧ va_D (va_A (cw h n r d f cI cF N R D cn fc sp y0 y1 y2 y3 Fs) sz) (cwu h n r d f cI cF N u)) (va_A (cw h n r d f cI cF N R D cn fc sp y0 y1 y2 y3 Fs) sz)) (vx_X (fun u : CS => CIu N u) (fun E u t9 => ((E = EISE ∧ f_deg N < 0) ∨ (E = EIOB ∧ CIs N u ∧ ¬ ((0 ≤ k ∧ k < u.2.2.2.1) ∧ (0 ≤ j ∧ j < u.2.2.2.1))) ∨ (E = EIAE ∧ CIs N u ∧ (0 ≤ k ∧ k < u.2.2.2.1) ∧ (0 ≤ j ∧ j < u.2.2.2.1) ∧ ¬ (0 ≤ (u.2.2.2.2.2.2 k) 5 ∧ 0 ≤ (u.2.2.2.2.2.2 j) 5))) ∧ va_P (dC, dI) vwCl (cwu h n r d f cI cF N u) t9.heap ∧ va_K (dC, dI) vwCl [(cI, .int), (cF, .object RX0)] t9 ∧ va_D (va_A (cw h n r d f cI cF N R D cn fc sp y0 y1 y2 y3 Fs) sz) (cwu h n r d f cI cF N u)) (va_A (cw h n r d f cI cF N R D cn fc sp y0 y1 y2 y3 Fs) sz)) 5 30 (va_A (cw h n r d f cI cF N R D cn fc sp y0 y1 y2 y3 Fs) sz) := by
  refine vx_ofW (cc := cX1_compare) (maxL := 13) (ret := (some .int)) (by decide) rfl ?_
  intro p e s m args below meth c s₁ B hml hout hv
  obtain ⟨rfl, hsz, hP, hK, hD0, hnb, hzt⟩ := hv
  have hx := B.exec
  have hb := B.bytes
  have hr := B.returns
  have hts := atoms_spec (ws := .code yX1_compare cX1_compare 13 (some .int) :: wsA) B.pre
  have hw : ∀ w ∈ wsA, w.before _ s = true := fun w h => hts w (List.mem_cons_of_mem _ h)
  have hown : s.vm.findClass RX1 = some m.cls := findClass_of_methodNamed B.named
  have hlocks := B.notSynchronized
  subst hsz
  have hD := hD0.self (sz := s.heap.size)
  generalize hAe : va_A (cw h n r d f cI cF N R D cn fc sp y0 y1 y2 y3 Fs) s.heap.size = A at hD hzt ⊢
  have hA : ∀ q : Nat, s.heap.size ≤ q → A q := fun q h => by rw [← hAe]; exact Or.inr h
  have hS : va_S A s.heap s.heap [] := va_S.rf
  have hP : va_P (dC, dI) vwCl (cw h n r d f cI cF N R D cn fc sp y0 y1 y2 y3 Fs) s.heap := hP
  have hl := lv_entry ([.ref h, .int (iI k), .int (iI up), .int (iI j), .int (iI ot)]) (n := 13) (Nat.le_of_ble_eq_true rfl)
  rw [lg_entry_eq]
  generalize (lg_sl ([.ref h, .int (iI k), .int (iI up), .int (iI j), .int (iI ot)]) ++ List.replicate (13 - (lg_sl ([.ref h, .int (iI k), .int (iI up), .int (iI j), .int (iI ot)])).length) Slot.unset).toArray = ls at hl ⊢
  have hl : lv_has ls 13 [(0, .ref h), (1, .int (iI k)), (2, .int (iI up)), (3, .int (iI j)), (4, .int (iI ot))] := hl
  refine lv_aload_n hx hb dX1_compare_0 rfl (lv_at hl 0 rfl) ?_
  have hFc := va_free (wc := (cw h n r d f cI cF N R D cn fc sp y0 y1 y2 y3 Fs)) hD hS hA [0, 1, 2, 3, 4, 5, 6, 7, 8] rfl
  refine vx_callv (vx_runV (As := []) (rest := []) ⟨hx, hb, hml, hown, hw⟩ (kX1_split l hlt dC dI _ h n r d f y0 y1 y2 y3 cI cF N R D cn fc sp Fs hci) (cwV 0 hw (gV mA_215 mA_217 mP_3 mA_1 mA_218) rfl rfl rfl (by decide +kernel) ⟨Nat.le_of_ble_eq_true rfl, Nat.le_of_ble_eq_true rfl⟩) ⟨fun a U g mk q => by obtain ⟨q0, q1, qP, qK, qD, qN, qZ⟩ := q; exact ⟨q0, q1, qP, va_K.moved (u := U) (U := U.calling g mk a) (Vm.Alike.refl U.vm) qK, qD, nb.same (u := U) rfl qN, zt.go (u := U) qZ (Vm.Alike.refl U.vm) (fun _ q => q) (fun _ _ _ => rfl)⟩, va_recv hK hP (ci := 1) (q0 := 0) rfl rfl, fun U hU hW => ⟨rfl, by rw [hU], by rw [hU]; exact hP, va_K.moved hW.alike hK, hD.weaken (fun _ _ _ _ => trivial), nb.warm hW hnb, zt2 hzt hS hU hW.alike hFc⟩⟩ rfl rfl hl.1 rfl (lv_room (Nat.le_of_ble_eq_true rfl)) dX1_compare_1 ⟨Nat.le_of_ble_eq_true rfl, Nat.le_of_ble_eq_true rfl⟩) hS (fun q _ h => hFc q h) hFc (fun q _ z => z.elim) (fun E9 ce q9 u9 t9 H1 locs ht hvm hpx hBX hz1 hk1 hS hce hcv hcl => ?_) (fun u1 t9 H1 locs ht hvm hq2 hB hz1 hk1 hS => ?_)
  · exact vx_out (fun x h => (hout x h).elim) hlocks hce hcv hcl (fun t2 ht2 hvm2 => ⟨(R, D, cn, fc, sp, (y0, y1, y2, y3), Fs), hci, ⟨Or.inl ⟨hBX, hpx⟩, by rw [ht2]; exact pkeep hP (fun q z => hk1 q z (fun f => f)), va_K.moved hvm2 hK, hD⟩, hS.F ht2⟩) hS.2.2 (Nat.le_of_ble_eq_true rfl) (Nat.le_of_ble_eq_true rfl)
  · obtain ⟨hP1, hK1, hD1⟩ := hB
    rw [ht] at hP1
    obtain ⟨hP, hD⟩ := va_join (wr := []) (w1 := (cw h n r d f cI cF N u1.1 u1.2.1 (f_cont N) u1.2.2.1 1 u1.2.2.2.1.1 u1.2.2.2.1.2.1 u1.2.2.2.1.2.2.1 u1.2.2.2.1.2.2.2 u1.2.2.2.2)) hP hD [0, 1, 2, 3, 4, 5, 6, 7, 8] [] rfl rfl (by decide) (by decide) hk1 hFc hP1 hD1
    generalize H1 = H at hP hS ⊢
    have hP : va_P (dC, dI) vwCl (cw h n r d f cI cF N u1.1 u1.2.1 (f_cont N) u1.2.2.1 1 u1.2.2.2.1.1 u1.2.2.2.1.2.1 u1.2.2.2.1.2.2.1 u1.2.2.2.1.2.2.2 u1.2.2.2.2) H := hP
    have hD : va_D A (cw h n r d f cI cF N u1.1 u1.2.1 (f_cont N) u1.2.2.1 1 u1.2.2.2.1.1 u1.2.2.2.1.2.1 u1.2.2.2.1.2.2.1 u1.2.2.2.1.2.2.2 u1.2.2.2.2) := hD
    have hci := hq2.1
    have hdeg := hq2.2
    have hdc := deg_c N
    refine lv_aload_n hx hb dX1_compare_4 rfl (lv_at hl 0 rfl) ?_
    refine lv_iload_n hx hb dX1_compare_5 rfl (lv_at hl 1 rfl) ?_
    have hPn := hP.sub (ws' := [(h, .inr (1, [.ref n, .ref r, .ref d, .ref f, .int (iI u1.2.2.1), .int (iI (f_cont N)), .int (iI 1)])), (f, .inl (cF, 4, .inr (.inr (.inr (.inr (q4 u1.2.2.2.1.1 u1.2.2.2.1.2.1 u1.2.2.2.1.2.2.1 u1.2.2.2.1.2.2.2))))))]) [0, 4] rfl
    have hKn := hK.sub (tys' := [(cF, .object RX0)]) [1] rfl
    have hfc9 : 0 ≤ u1.2.2.1 ∧ u1.2.2.1 ≤ 4 := by rcases hci.2.2.2.2.2 with q | q; exact absurd q (by decide); exact ⟨q.2.2.2.2.1, q.2.2.2.2.2⟩
    refine xr_callr (vx_runV (As := [.int (iI k)]) (rest := []) ⟨hx, hb, hml, hown, hw⟩ (kX1_numbered l hlt dC dI A h n r d f u1.2.2.2.1.1 u1.2.2.2.1.2.1 u1.2.2.2.1.2.2.1 u1.2.2.2.1.2.2.2 cF (f_cont N) u1.2.2.1 1 k (by omega) hfc9) (cwV 1 hw (gV mA_295 mA_297 mP_15 mA_1 mA_298) rfl rfl rfl (by decide +kernel) ⟨Nat.le_of_ble_eq_true rfl, Nat.le_of_ble_eq_true rfl⟩) ⟨fun a U g mk q => by obtain ⟨q0, qP, qK, qN, qZ⟩ := q; exact ⟨q0, qP, va_K.moved (u := U) (U := U.calling g mk a) (Vm.Alike.refl U.vm) qK, nb.same (u := U) rfl qN, zt.go (u := U) qZ (Vm.Alike.refl U.vm) (fun _ q => q) (fun _ _ _ => rfl)⟩, va_recv hKn hPn (ci := 1) (q0 := 0) rfl rfl, fun U hU hW => ⟨rfl, by rw [hU]; exact hPn, va_K.moved hW.alike hKn, nb.warm hW hnb, zt1 hzt hS hU hW.alike⟩⟩ rfl rfl hl.1 rfl (lv_room (Nat.le_of_ble_eq_true rfl)) dX1_compare_6 ⟨Nat.le_of_ble_eq_true rfl, Nat.le_of_ble_eq_true rfl⟩) hS (fun q _ z => z.elim) (fun q z => z.elim) (fun q _ z => z.elim) (fun E9 ce q9 u9 t9 H1 locs ht hvm hpx hBX hz1 hk1 hS hce hcv hcl => ?_) (fun u9 ra0 t9 H1 locs ht hvm hqra0 hra0 hz1 hk1 hS => ?_)
    · exact vx_out (fun x h => (hout x h).elim) hlocks hce hcv hcl (fun t2 ht2 hvm2 => ⟨(u1.1, u1.2.1, f_cont N, u1.2.2.1, 1, (u1.2.2.2.1.1, u1.2.2.2.1.2.1, u1.2.2.2.1.2.2.1, u1.2.2.2.1.2.2.2), u1.2.2.2.2), hci, ⟨Or.inr (Or.inl ⟨hBX, ⟨hci, hdeg, rfl, rfl⟩, fun q => hpx (by first | exact q.2 | exact q.1)⟩), by rw [ht2]; exact pkeep hP (fun q z => hk1 q z (fun f => f)), va_K.moved hvm2 hK, hD⟩, hS.F ht2⟩) hS.2.2 (Nat.le_of_ble_eq_true rfl) (Nat.le_of_ble_eq_true rfl)
    · have hP := pkeep hP (fun q z => hk1 q z (fun f => f))
      generalize H1 = H at hP  hS ⊢
      have hV0 : va_P (dC, dI) vwCl [(ra0, .inr (0, fl (u1.2.2.2.2 k)))] H := by rw [hra0]; exact sel_P hP hqra0.1 (by omega)
      obtain ⟨hB0, hBm0, hBb0, hBu0⟩ := hci.2.2.2.2.1 k
      refine lv_astore (lv' := [(5, .ref ra0), (0, .ref h), (1, .int (iI k)), (2, .int (iI up)), (3, .int (iI j)), (4, .int (iI ot))]) hx hb dX1_compare_9 hl (by decide) rfl (fun ls hl => ?_)
      refine lv_aload_n hx hb dX1_compare_11 rfl (lv_at hl 1 rfl) ?_
      refine lv_iload_n hx hb dX1_compare_12 rfl (lv_at hl 4 rfl) ?_
      have hPn := hP.sub (ws' := [(h, .inr (1, [.ref n, .ref r, .ref d, .ref f, .int (iI u1.2.2.1), .int (iI (f_cont N)), .int (iI 1)])), (f, .inl (cF, 4, .inr (.inr (.inr (.inr (q4 u1.2.2.2.1.1 u1.2.2.2.1.2.1 u1.2.2.2.1.2.2.1 u1.2.2.2.1.2.2.2))))))]) [0, 4] rfl
      have hKn := hK.sub (tys' := [(cF, .object RX0)]) [1] rfl
      refine xr_callr (vx_runV (As := [.int (iI j)]) (rest := []) ⟨hx, hb, hml, hown, hw⟩ (kX1_numbered l hlt dC dI A h n r d f u1.2.2.2.1.1 u1.2.2.2.1.2.1 u1.2.2.2.1.2.2.1 u1.2.2.2.1.2.2.2 cF (f_cont N) u1.2.2.1 1 j (by omega) hfc9) (cwV 1 hw (gV mA_295 mA_297 mP_15 mA_1 mA_298) rfl rfl rfl (by decide +kernel) ⟨Nat.le_of_ble_eq_true rfl, Nat.le_of_ble_eq_true rfl⟩) ⟨fun a U g mk q => by obtain ⟨q0, qP, qK, qN, qZ⟩ := q; exact ⟨q0, qP, va_K.moved (u := U) (U := U.calling g mk a) (Vm.Alike.refl U.vm) qK, nb.same (u := U) rfl qN, zt.go (u := U) qZ (Vm.Alike.refl U.vm) (fun _ q => q) (fun _ _ _ => rfl)⟩, va_recv hKn hPn (ci := 1) (q0 := 0) rfl rfl, fun U hU hW => ⟨rfl, by rw [hU]; exact hPn, va_K.moved hW.alike hKn, nb.warm hW hnb, zt1 hzt hS hU hW.alike⟩⟩ rfl rfl hl.1 rfl (lv_room (Nat.le_of_ble_eq_true rfl)) dX1_compare_13 ⟨Nat.le_of_ble_eq_true rfl, Nat.le_of_ble_eq_true rfl⟩) hS (fun q _ z => z.elim) (fun q z => z.elim) (fun q _ z => z.elim) (fun E9 ce q9 u9 t9 H1 locs ht hvm hpx hBX hz1 hk1 hS hce hcv hcl => ?_) (fun u9 ra1 t9 H1 locs ht hvm hqra1 hra1 hz1 hk1 hS => ?_)
      · exact vx_out (fun x h => (hout x h).elim) hlocks hce hcv hcl (fun t2 ht2 hvm2 => ⟨(u1.1, u1.2.1, f_cont N, u1.2.2.1, 1, (u1.2.2.2.1.1, u1.2.2.2.1.2.1, u1.2.2.2.1.2.2.1, u1.2.2.2.1.2.2.2), u1.2.2.2.2), hci, ⟨Or.inr (Or.inl ⟨hBX, ⟨hci, hdeg, rfl, rfl⟩, fun q => hpx (by first | exact q.2 | exact q.1)⟩), by rw [ht2]; exact pkeep hP (fun q z => hk1 q z (fun f => f)), va_K.moved hvm2 hK, hD⟩, hS.F ht2⟩) hS.2.2 (Nat.le_of_ble_eq_true rfl) (Nat.le_of_ble_eq_true rfl)
      · have hP := pkeep hP (fun q z => hk1 q z (fun f => f))
        have hV0 := pkeep hV0 (fun q z => hk1 q z (fun f => f))
        generalize H1 = H at hP hV0 hS ⊢
        have hV1 : va_P (dC, dI) vwCl [(ra1, .inr (0, fl (u1.2.2.2.2 j)))] H := by rw [hra1]; exact sel_P hP hqra1.1 (by omega)
        obtain ⟨hB1, hBm1, hBb1, hBu1⟩ := hci.2.2.2.2.1 j
        refine lv_astore (lv' := [(6, .ref ra1), (5, .ref ra0), (0, .ref h), (1, .int (iI k)), (2, .int (iI up)), (3, .int (iI j)), (4, .int (iI ot))]) hx hb dX1_compare_16 hl (by decide) rfl (fun ls hl => ?_)
        refine lv_aload hx hb dX1_compare_18 (lv_at hl 1 rfl) ?_
        have hKn := hK.sub (tys' := []) [] rfl
        refine vx_callv (vx_runS (As := [.ref ra0]) (rest := []) ⟨hx, hb, hml, hown, hw⟩ (kX1_checkReal l hlt dC dI A ra0 (u1.2.2.2.2 k) hB0) (cwS 1 hw (gS mA_344 mA_345 mA_1 mA_346) rfl rfl rfl (by decide +kernel) ⟨Nat.le_of_ble_eq_true rfl, Nat.le_of_ble_eq_true rfl⟩) ⟨fun a U g mk q => by obtain ⟨q0, qP, qK, qN, qZ⟩ := q; exact ⟨q0, qP, va_K.moved (u := U) (U := U.calling g mk a) (Vm.Alike.refl U.vm) qK, nb.same (u := U) rfl qN, zt.go (u := U) qZ (Vm.Alike.refl U.vm) (fun _ q => q) (fun _ _ _ => rfl)⟩, fun U hU hW => ⟨rfl, by rw [hU]; exact hV0, va_K.moved hW.alike hKn, nb.warm hW hnb, zt1 hzt hS hU hW.alike⟩⟩ rfl rfl hl.1 rfl (lv_room (Nat.le_of_ble_eq_true rfl)) dX1_compare_20 ⟨Nat.le_of_ble_eq_true rfl, Nat.le_of_ble_eq_true rfl⟩) hS (fun q _ z => z.elim) (fun q z => z.elim) (fun q _ z => z.elim) (fun E9 ce q9 u9 t9 H1 locs ht hvm hpx hBX hz1 hk1 hS hce hcv hcl => ?_) (fun u9 t9 H1 locs ht hvm hr0 hB9 hz1 hk1 hS => ?_)
        · exact vx_out (fun x h => (hout x h).elim) hlocks hce hcv hcl (fun t2 ht2 hvm2 => ⟨(u1.1, u1.2.1, f_cont N, u1.2.2.1, 1, (u1.2.2.2.1.1, u1.2.2.2.1.2.1, u1.2.2.2.1.2.2.1, u1.2.2.2.1.2.2.2), u1.2.2.2.2), hci, ⟨Or.inr (Or.inr ⟨hBX, ⟨hci, hdeg, rfl, rfl⟩, hqra0, hqra1, fun q => hpx q.1⟩), by rw [ht2]; exact pkeep hP (fun q z => hk1 q z (fun f => f)), va_K.moved hvm2 hK, hD⟩, hS.F ht2⟩) hS.2.2 (Nat.le_of_ble_eq_true rfl) (Nat.le_of_ble_eq_true rfl)
        · have hP := pkeep hP (fun q z => hk1 q z (fun f => f))
          have hV0 := pkeep hV0 (fun q z => hk1 q z (fun f => f))
          have hV1 := pkeep hV1 (fun q z => hk1 q z (fun f => f))
          generalize H1 = H at hP hV0 hV1 hS ⊢
          refine lv_aload hx hb dX1_compare_23 (lv_at hl 0 rfl) ?_
          have hKn := hK.sub (tys' := []) [] rfl
          refine vx_callv (vx_runS (As := [.ref ra1]) (rest := []) ⟨hx, hb, hml, hown, hw⟩ (kX1_checkReal l hlt dC dI A ra1 (u1.2.2.2.2 j) hB1) (cwS 1 hw (gS mA_344 mA_345 mA_1 mA_346) rfl rfl rfl (by decide +kernel) ⟨Nat.le_of_ble_eq_true rfl, Nat.le_of_ble_eq_true rfl⟩) ⟨fun a U g mk q => by obtain ⟨q0, qP, qK, qN, qZ⟩ := q; exact ⟨q0, qP, va_K.moved (u := U) (U := U.calling g mk a) (Vm.Alike.refl U.vm) qK, nb.same (u := U) rfl qN, zt.go (u := U) qZ (Vm.Alike.refl U.vm) (fun _ q => q) (fun _ _ _ => rfl)⟩, fun U hU hW => ⟨rfl, by rw [hU]; exact hV1, va_K.moved hW.alike hKn, nb.warm hW hnb, zt1 hzt hS hU hW.alike⟩⟩ rfl rfl hl.1 rfl (lv_room (Nat.le_of_ble_eq_true rfl)) dX1_compare_25 ⟨Nat.le_of_ble_eq_true rfl, Nat.le_of_ble_eq_true rfl⟩) hS (fun q _ z => z.elim) (fun q z => z.elim) (fun q _ z => z.elim) (fun E9 ce q9 u9 t9 H1 locs ht hvm hpx hBX hz1 hk1 hS hce hcv hcl => ?_) (fun u9 t9 H1 locs ht hvm hr1 hB9 hz1 hk1 hS => ?_)
          · exact vx_out (fun x h => (hout x h).elim) hlocks hce hcv hcl (fun t2 ht2 hvm2 => ⟨(u1.1, u1.2.1, f_cont N, u1.2.2.1, 1, (u1.2.2.2.1.1, u1.2.2.2.1.2.1, u1.2.2.2.1.2.2.1, u1.2.2.2.1.2.2.2), u1.2.2.2.2), hci, ⟨Or.inr (Or.inr ⟨hBX, ⟨hci, hdeg, rfl, rfl⟩, hqra0, hqra1, fun q => hpx q.2⟩), by rw [ht2]; exact pkeep hP (fun q z => hk1 q z (fun f => f)), va_K.moved hvm2 hK, hD⟩, hS.F ht2⟩) hS.2.2 (Nat.le_of_ble_eq_true rfl) (Nat.le_of_ble_eq_true rfl)
          · have hP := pkeep hP (fun q z => hk1 q z (fun f => f))
            have hV0 := pkeep hV0 (fun q z => hk1 q z (fun f => f))
            have hV1 := pkeep hV1 (fun q z => hk1 q z (fun f => f))
            generalize H1 = H at hP hV0 hV1 hS ⊢
            refine lv_aload hx hb dX1_compare_28 (lv_at hl 1 rfl) ?_
            have hPc := hV0.sub (ws' := [(ra0, .inr (0, [.int (iI ((u1.2.2.2.2 k) 0)), .int (iI ((u1.2.2.2.2 k) 1)), .int (iI ((u1.2.2.2.2 k) 2)), .int (iI ((u1.2.2.2.2 k) 3)), .int (iI ((u1.2.2.2.2 k) 4)), .int (iI ((u1.2.2.2.2 k) 5))]))]) [0] rfl
            have hKc := hK.sub (tys' := []) [] rfl
            refine vp_callSi (va_Run.run (va_runVN (As := []) (rest := []) ⟨hx, hb, hml, hown, hw⟩ (kX0_middle l dC dI ra0 (u1.2.2.2.2 k) hB0) ⟨va_cnB 0 hw (wsA_sub mA_279) rfl rfl rfl (hnb.1 _ mN_324) (hw _ mA_2) (by decide +kernel) ⟨Nat.le_of_ble_eq_true rfl, Nat.le_of_ble_eq_true rfl⟩, hw _ mA_278, hw _ mP_12⟩ ⟨fun a U g mk q => by obtain ⟨q0, qP, qK⟩ := q; exact ⟨q0, qP, va_K.moved (u := U) (U := U.calling g mk a) (Vm.Alike.refl U.vm) qK⟩, va_recv hKc hPc (ci := 0) (q0 := 0) rfl rfl, fun U hU hW => ⟨rfl, by rw [hU]; exact hPc, va_K.moved hW.alike hKc⟩⟩ rfl rfl hl.1 rfl (lv_room (Nat.le_of_ble_eq_true rfl)) dX1_compare_30 ⟨Nat.le_of_ble_eq_true rfl, Nat.le_of_ble_eq_true rfl⟩)) (fun r3 h4 => ?_)
            subst h4
            refine ix_i2l hx hb dX1_compare_33 ⟨by omega, by omega⟩ ?_
            refine lv_aload hx hb dX1_compare_34 (lv_at hl 0 rfl) ?_
            have hPc := hV1.sub (ws' := [(ra1, .inr (0, [.int (iI ((u1.2.2.2.2 j) 0)), .int (iI ((u1.2.2.2.2 j) 1)), .int (iI ((u1.2.2.2.2 j) 2)), .int (iI ((u1.2.2.2.2 j) 3)), .int (iI ((u1.2.2.2.2 j) 4)), .int (iI ((u1.2.2.2.2 j) 5))]))]) [0] rfl
            have hKc := hK.sub (tys' := []) [] rfl
            refine vp_callSi (va_Run.run (va_runVN (As := []) (rest := [.long (lI (f_mid (u1.2.2.2.2 k)))]) ⟨hx, hb, hml, hown, hw⟩ (kX0_below l dC dI ra1 (u1.2.2.2.2 j) hB1) ⟨va_cnB 0 hw (wsA_sub mA_283) rfl rfl rfl (hnb.1 _ mN_325) (hw _ mA_2) (by decide +kernel) ⟨Nat.le_of_ble_eq_true rfl, Nat.le_of_ble_eq_true rfl⟩, hw _ mA_282, hw _ mP_13⟩ ⟨fun a U g mk q => by obtain ⟨q0, qP, qK⟩ := q; exact ⟨q0, qP, va_K.moved (u := U) (U := U.calling g mk a) (Vm.Alike.refl U.vm) qK⟩, va_recv hKc hPc (ci := 0) (q0 := 0) rfl rfl, fun U hU hW => ⟨rfl, by rw [hU]; exact hPc, va_K.moved hW.alike hKc⟩⟩ rfl rfl hl.1 rfl (lv_room (Nat.le_of_ble_eq_true rfl)) dX1_compare_36 ⟨Nat.le_of_ble_eq_true rfl, Nat.le_of_ble_eq_true rfl⟩)) (fun r5 h6 => ?_)
            subst h6
            refine ix_i2l hx hb dX1_compare_39 ⟨by omega, by omega⟩ ?_
            refine ix_lmul hx hb dX1_compare_40 ?_
            refine lv_aload hx hb dX1_compare_41 (lv_at hl 0 rfl) ?_
            have hPc := hV1.sub (ws' := [(ra1, .inr (0, [.int (iI ((u1.2.2.2.2 j) 0)), .int (iI ((u1.2.2.2.2 j) 1)), .int (iI ((u1.2.2.2.2 j) 2)), .int (iI ((u1.2.2.2.2 j) 3)), .int (iI ((u1.2.2.2.2 j) 4)), .int (iI ((u1.2.2.2.2 j) 5))]))]) [0] rfl
            have hKc := hK.sub (tys' := []) [] rfl
            refine vp_callSi (va_Run.run (va_runVN (As := []) (rest := [.long (lI ((f_mid (u1.2.2.2.2 k)) * (f_below (u1.2.2.2.2 j))))]) ⟨hx, hb, hml, hown, hw⟩ (kX0_middle l dC dI ra1 (u1.2.2.2.2 j) hB1) ⟨va_cnB 0 hw (wsA_sub mA_279) rfl rfl rfl (hnb.1 _ mN_324) (hw _ mA_2) (by decide +kernel) ⟨Nat.le_of_ble_eq_true rfl, Nat.le_of_ble_eq_true rfl⟩, hw _ mA_278, hw _ mP_12⟩ ⟨fun a U g mk q => by obtain ⟨q0, qP, qK⟩ := q; exact ⟨q0, qP, va_K.moved (u := U) (U := U.calling g mk a) (Vm.Alike.refl U.vm) qK⟩, va_recv hKc hPc (ci := 0) (q0 := 0) rfl rfl, fun U hU hW => ⟨rfl, by rw [hU]; exact hPc, va_K.moved hW.alike hKc⟩⟩ rfl rfl hl.1 rfl (lv_room (Nat.le_of_ble_eq_true rfl)) dX1_compare_43 ⟨Nat.le_of_ble_eq_true rfl, Nat.le_of_ble_eq_true rfl⟩)) (fun r7 h8 => ?_)
            subst h8
            refine ix_i2l hx hb dX1_compare_46 ⟨by omega, by omega⟩ ?_
            refine lv_aload hx hb dX1_compare_47 (lv_at hl 1 rfl) ?_
            have hPc := hV0.sub (ws' := [(ra0, .inr (0, [.int (iI ((u1.2.2.2.2 k) 0)), .int (iI ((u1.2.2.2.2 k) 1)), .int (iI ((u1.2.2.2.2 k) 2)), .int (iI ((u1.2.2.2.2 k) 3)), .int (iI ((u1.2.2.2.2 k) 4)), .int (iI ((u1.2.2.2.2 k) 5))]))]) [0] rfl
            have hKc := hK.sub (tys' := []) [] rfl
            refine vp_callSi (va_Run.run (va_runVN (As := []) (rest := [.long (lI (f_mid (u1.2.2.2.2 j))), .long (lI ((f_mid (u1.2.2.2.2 k)) * (f_below (u1.2.2.2.2 j))))]) ⟨hx, hb, hml, hown, hw⟩ (kX0_below l dC dI ra0 (u1.2.2.2.2 k) hB0) ⟨va_cnB 0 hw (wsA_sub mA_283) rfl rfl rfl (hnb.1 _ mN_325) (hw _ mA_2) (by decide +kernel) ⟨Nat.le_of_ble_eq_true rfl, Nat.le_of_ble_eq_true rfl⟩, hw _ mA_282, hw _ mP_13⟩ ⟨fun a U g mk q => by obtain ⟨q0, qP, qK⟩ := q; exact ⟨q0, qP, va_K.moved (u := U) (U := U.calling g mk a) (Vm.Alike.refl U.vm) qK⟩, va_recv hKc hPc (ci := 0) (q0 := 0) rfl rfl, fun U hU hW => ⟨rfl, by rw [hU]; exact hPc, va_K.moved hW.alike hKc⟩⟩ rfl rfl hl.1 rfl (lv_room (Nat.le_of_ble_eq_true rfl)) dX1_compare_49 ⟨Nat.le_of_ble_eq_true rfl, Nat.le_of_ble_eq_true rfl⟩)) (fun r9 h10 => ?_)
            subst h10
            refine ix_i2l hx hb dX1_compare_52 ⟨by omega, by omega⟩ ?_
            refine ix_lmul hx hb dX1_compare_53 ?_
            refine ix_lsub hx hb dX1_compare_54 ?_
            refine lv_lstore (lv' := [(7, .long (lI (((f_mid (u1.2.2.2.2 k)) * (f_below (u1.2.2.2.2 j))) - ((f_mid (u1.2.2.2.2 j)) * (f_below (u1.2.2.2.2 k)))))), (6, .ref ra1), (5, .ref ra0), (0, .ref h), (1, .int (iI k)), (2, .int (iI up)), (3, .int (iI j)), (4, .int (iI ot))]) hx hb dX1_compare_55 hl (by decide) rfl (fun ls hl => ?_)
            refine lv_iload_n hx hb dX1_compare_57 rfl (lv_at hl 5 rfl) ?_
            refine ix_if_eq (tgt := 70) hx hb dX1_compare_58 (by decide) ⟨by omega, by omega⟩ (fun c11 => ?_) (fun c11 => ?_)
            · refine lv_aload hx hb dX1_compare_70 (lv_at hl 1 rfl) ?_
              have hPc := hV1.sub (ws' := [(ra1, .inr (0, [.int (iI ((u1.2.2.2.2 j) 0)), .int (iI ((u1.2.2.2.2 j) 1)), .int (iI ((u1.2.2.2.2 j) 2)), .int (iI ((u1.2.2.2.2 j) 3)), .int (iI ((u1.2.2.2.2 j) 4)), .int (iI ((u1.2.2.2.2 j) 5))]))]) [0] rfl
              have hKc := hK.sub (tys' := []) [] rfl
              refine vp_callSi (va_Run.run (va_runVN (As := []) (rest := []) ⟨hx, hb, hml, hown, hw⟩ (kX0_below l dC dI ra1 (u1.2.2.2.2 j) hB1) ⟨va_cnB 0 hw (wsA_sub mA_283) rfl rfl rfl (hnb.1 _ mN_325) (hw _ mA_2) (by decide +kernel) ⟨Nat.le_of_ble_eq_true rfl, Nat.le_of_ble_eq_true rfl⟩, hw _ mA_282, hw _ mP_13⟩ ⟨fun a U g mk q => by obtain ⟨q0, qP, qK⟩ := q; exact ⟨q0, qP, va_K.moved (u := U) (U := U.calling g mk a) (Vm.Alike.refl U.vm) qK⟩, va_recv hKc hPc (ci := 0) (q0 := 0) rfl rfl, fun U hU hW => ⟨rfl, by rw [hU]; exact hPc, va_K.moved hW.alike hKc⟩⟩ rfl rfl hl.1 rfl (lv_room (Nat.le_of_ble_eq_true rfl)) dX1_compare_72 ⟨Nat.le_of_ble_eq_true rfl, Nat.le_of_ble_eq_true rfl⟩)) (fun r12 h13 => ?_)
              subst h13
              refine ix_ineg hx hb dX1_compare_75 ?_
              refine ix_i2l hx hb dX1_compare_76 ⟨by omega, by omega⟩ ?_
              refine lv_lstore (lv' := [(9, .long (lI (-(f_below (u1.2.2.2.2 j))))), (7, .long (lI (((f_mid (u1.2.2.2.2 k)) * (f_below (u1.2.2.2.2 j))) - ((f_mid (u1.2.2.2.2 j)) * (f_below (u1.2.2.2.2 k)))))), (6, .ref ra1), (5, .ref ra0), (0, .ref h), (1, .int (iI k)), (2, .int (iI up)), (3, .int (iI j)), (4, .int (iI ot))]) hx hb dX1_compare_77 hl (by decide) rfl (fun ls hl => ?_)
              refine lv_iload hx hb dX1_compare_79 (lv_at hl 8 rfl) ?_
              refine ix_if_eq (tgt := 94) hx hb dX1_compare_81 (by decide) ⟨by omega, by omega⟩ (fun c14 => ?_) (fun c14 => ?_)
              · refine lv_aload hx hb dX1_compare_94 (lv_at hl 3 rfl) ?_
                have hPc := hV0.sub (ws' := [(ra0, .inr (0, [.int (iI ((u1.2.2.2.2 k) 0)), .int (iI ((u1.2.2.2.2 k) 1)), .int (iI ((u1.2.2.2.2 k) 2)), .int (iI ((u1.2.2.2.2 k) 3)), .int (iI ((u1.2.2.2.2 k) 4)), .int (iI ((u1.2.2.2.2 k) 5))]))]) [0] rfl
                have hKc := hK.sub (tys' := []) [] rfl
                refine vp_callSi (va_Run.run (va_runVN (As := []) (rest := []) ⟨hx, hb, hml, hown, hw⟩ (kX0_below l dC dI ra0 (u1.2.2.2.2 k) hB0) ⟨va_cnB 0 hw (wsA_sub mA_283) rfl rfl rfl (hnb.1 _ mN_325) (hw _ mA_2) (by decide +kernel) ⟨Nat.le_of_ble_eq_true rfl, Nat.le_of_ble_eq_true rfl⟩, hw _ mA_282, hw _ mP_13⟩ ⟨fun a U g mk q => by obtain ⟨q0, qP, qK⟩ := q; exact ⟨q0, qP, va_K.moved (u := U) (U := U.calling g mk a) (Vm.Alike.refl U.vm) qK⟩, va_recv hKc hPc (ci := 0) (q0 := 0) rfl rfl, fun U hU hW => ⟨rfl, by rw [hU]; exact hPc, va_K.moved hW.alike hKc⟩⟩ rfl rfl hl.1 rfl (lv_room (Nat.le_of_ble_eq_true rfl)) dX1_compare_96 ⟨Nat.le_of_ble_eq_true rfl, Nat.le_of_ble_eq_true rfl⟩)) (fun r15 h16 => ?_)
                subst h16
                refine ix_i2l hx hb dX1_compare_99 ⟨by omega, by omega⟩ ?_
                refine lv_lstore (lv' := [(11, .long (lI (f_below (u1.2.2.2.2 k)))), (9, .long (lI (-(f_below (u1.2.2.2.2 j))))), (7, .long (lI (((f_mid (u1.2.2.2.2 k)) * (f_below (u1.2.2.2.2 j))) - ((f_mid (u1.2.2.2.2 j)) * (f_below (u1.2.2.2.2 k)))))), (6, .ref ra1), (5, .ref ra0), (0, .ref h), (1, .int (iI k)), (2, .int (iI up)), (3, .int (iI j)), (4, .int (iI ot))]) hx hb dX1_compare_100 hl (by decide) rfl (fun ls hl => ?_)
                refine lv_lload hx hb dX1_compare_102 (lv_at hl 2 rfl) ?_
                refine lv_lload hx hb dX1_compare_104 (lv_at hl 1 rfl) ?_
                refine lv_aload hx hb dX1_compare_106 (lv_at hl 4 rfl) ?_
                have hPc := hV0.sub (ws' := [(ra0, .inr (0, [.int (iI ((u1.2.2.2.2 k) 0)), .int (iI ((u1.2.2.2.2 k) 1)), .int (iI ((u1.2.2.2.2 k) 2)), .int (iI ((u1.2.2.2.2 k) 3)), .int (iI ((u1.2.2.2.2 k) 4)), .int (iI ((u1.2.2.2.2 k) 5))]))]) [0] rfl
                have hKc := hK.sub (tys' := []) [] rfl
                refine vp_callSi (va_Run.run (va_runVN (As := []) (rest := [.long (lI (-(f_below (u1.2.2.2.2 j)))), .long (lI (((f_mid (u1.2.2.2.2 k)) * (f_below (u1.2.2.2.2 j))) - ((f_mid (u1.2.2.2.2 j)) * (f_below (u1.2.2.2.2 k)))))]) ⟨hx, hb, hml, hown, hw⟩ (kX0_under l dC dI ra0 (u1.2.2.2.2 k) hB0) ⟨va_cnB 0 hw (wsA_sub mA_351) rfl rfl rfl (hnb.1 _ mN_348) (hw _ mA_2) (by decide +kernel) ⟨Nat.le_of_ble_eq_true rfl, Nat.le_of_ble_eq_true rfl⟩, hw _ mA_350, hw _ mP_17⟩ ⟨fun a U g mk q => by obtain ⟨q0, qP, qK⟩ := q; exact ⟨q0, qP, va_K.moved (u := U) (U := U.calling g mk a) (Vm.Alike.refl U.vm) qK⟩, va_recv hKc hPc (ci := 0) (q0 := 0) rfl rfl, fun U hU hW => ⟨rfl, by rw [hU]; exact hPc, va_K.moved hW.alike hKc⟩⟩ rfl rfl hl.1 rfl (lv_room (Nat.le_of_ble_eq_true rfl)) dX1_compare_108 ⟨Nat.le_of_ble_eq_true rfl, Nat.le_of_ble_eq_true rfl⟩)) (fun r17 h18 => ?_)
                subst h18
                refine ix_i2l hx hb dX1_compare_111 ⟨by omega, by omega⟩ ?_
                refine lv_lload hx hb dX1_compare_112 (lv_at hl 0 rfl) ?_
                refine lv_aload hx hb dX1_compare_114 (lv_at hl 3 rfl) ?_
                have hPc := hV1.sub (ws' := [(ra1, .inr (0, [.int (iI ((u1.2.2.2.2 j) 0)), .int (iI ((u1.2.2.2.2 j) 1)), .int (iI ((u1.2.2.2.2 j) 2)), .int (iI ((u1.2.2.2.2 j) 3)), .int (iI ((u1.2.2.2.2 j) 4)), .int (iI ((u1.2.2.2.2 j) 5))]))]) [0] rfl
                have hKc := hK.sub (tys' := []) [] rfl
                refine vp_callSi (va_Run.run (va_runVN (As := []) (rest := [.long (lI (f_below (u1.2.2.2.2 k))), .long (lI (f_under (u1.2.2.2.2 k))), .long (lI (-(f_below (u1.2.2.2.2 j)))), .long (lI (((f_mid (u1.2.2.2.2 k)) * (f_below (u1.2.2.2.2 j))) - ((f_mid (u1.2.2.2.2 j)) * (f_below (u1.2.2.2.2 k)))))]) ⟨hx, hb, hml, hown, hw⟩ (kX0_under l dC dI ra1 (u1.2.2.2.2 j) hB1) ⟨va_cnB 0 hw (wsA_sub mA_351) rfl rfl rfl (hnb.1 _ mN_348) (hw _ mA_2) (by decide +kernel) ⟨Nat.le_of_ble_eq_true rfl, Nat.le_of_ble_eq_true rfl⟩, hw _ mA_350, hw _ mP_17⟩ ⟨fun a U g mk q => by obtain ⟨q0, qP, qK⟩ := q; exact ⟨q0, qP, va_K.moved (u := U) (U := U.calling g mk a) (Vm.Alike.refl U.vm) qK⟩, va_recv hKc hPc (ci := 0) (q0 := 0) rfl rfl, fun U hU hW => ⟨rfl, by rw [hU]; exact hPc, va_K.moved hW.alike hKc⟩⟩ rfl rfl hl.1 rfl (lv_room (Nat.le_of_ble_eq_true rfl)) dX1_compare_116 ⟨Nat.le_of_ble_eq_true rfl, Nat.le_of_ble_eq_true rfl⟩)) (fun r19 h20 => ?_)
                subst h20
                refine ix_i2l hx hb dX1_compare_119 ⟨by omega, by omega⟩ ?_
                have hm1 := mul_in (x := f_mid (u1.2.2.2.2 k)) (y := f_below (u1.2.2.2.2 j)) (A := 240) (B := 40) hBm0 hBb1 (by decide) (by decide)
                have hm2 := mul_in (x := f_mid (u1.2.2.2.2 j)) (y := f_below (u1.2.2.2.2 k)) (A := 240) (B := 40) hBm1 hBb0 (by decide) (by decide)
                have hso := sos_r (w := ((f_mid (u1.2.2.2.2 k)) * (f_below (u1.2.2.2.2 j))) - ((f_mid (u1.2.2.2.2 j)) * (f_below (u1.2.2.2.2 k)))) (a := -(f_below (u1.2.2.2.2 j))) (u := f_under (u1.2.2.2.2 k)) (b := f_below (u1.2.2.2.2 k)) (v := f_under (u1.2.2.2.2 j)) (by omega) (by omega) (by omega) (by omega) (by omega)
                refine vp_callSi (W.runS (As := [.long (lI (((f_mid (u1.2.2.2.2 k)) * (f_below (u1.2.2.2.2 j))) - ((f_mid (u1.2.2.2.2 j)) * (f_below (u1.2.2.2.2 k))))), .long (lI (-(f_below (u1.2.2.2.2 j)))), .long (lI (f_under (u1.2.2.2.2 k))), .long (lI (f_below (u1.2.2.2.2 k))), .long (lI (f_under (u1.2.2.2.2 j)))]) (rest := []) ⟨hx, hb, hml, hown, hw⟩ (kX1_signOfSum l (((f_mid (u1.2.2.2.2 k)) * (f_below (u1.2.2.2.2 j))) - ((f_mid (u1.2.2.2.2 j)) * (f_below (u1.2.2.2.2 k)))) (-(f_below (u1.2.2.2.2 j))) (f_under (u1.2.2.2.2 k)) (f_below (u1.2.2.2.2 k)) (f_under (u1.2.2.2.2 j)) ⟨by omega, by omega⟩ ⟨by omega, by omega⟩ ⟨by omega, by omega⟩ hso.1 hso.2.1 hso.2.2.1 hso.2.2.2) (cwS 5 hw (gS mA_365 mA_366 mA_1 mA_367) rfl rfl rfl (by decide +kernel) ⟨Nat.le_of_ble_eq_true rfl, Nat.le_of_ble_eq_true rfl⟩) preEq rfl rfl hl.1 rfl (lv_room (Nat.le_of_ble_eq_true rfl)) dX1_compare_120 ⟨Nat.le_of_ble_eq_true rfl, Nat.le_of_ble_eq_true rfl⟩) (fun r21 h22 => ?_)
                subst h22
                have hP9 := hP.sub (ws' := (cwu h n r d f cI cF N (u1.1, u1.2.1, f_cont N, u1.2.2.1, 1, (u1.2.2.2.1.1, u1.2.2.2.1.2.1, u1.2.2.2.1.2.2.1, u1.2.2.2.1.2.2.2), u1.2.2.2.2))) [0, 1, 2, 3, 4, 5, 6, 7, 8] rfl
                have hD9 := hD.sub (ws' := (cwu h n r d f cI cF N (u1.1, u1.2.1, f_cont N, u1.2.2.1, 1, (u1.2.2.2.1.1, u1.2.2.2.1.2.1, u1.2.2.2.1.2.2.1, u1.2.2.2.1.2.2.2), u1.2.2.2.2))) [0, 1, 2, 3, 4, 5, 6, 7, 8] (by decide) rfl
                have hK9 := hK.sub (tys' := [(cI, .int), (cF, .object RX0)]) [0, 1] rfl
                refine vx_ret (W.widen (k := 5) (n := 30) (Nat.le_of_ble_eq_true rfl) (Nat.le_of_ble_eq_true rfl) ?_)
                exact W.iret (v := iI (f_ss (((f_mid (u1.2.2.2.2 k)) * (f_below (u1.2.2.2.2 j))) - ((f_mid (u1.2.2.2.2 j)) * (f_below (u1.2.2.2.2 k)))) (-(f_below (u1.2.2.2.2 j))) (f_under (u1.2.2.2.2 k)) (f_below (u1.2.2.2.2 k)) (f_under (u1.2.2.2.2 j)))) hx hb hr (fun t ht hW => ⟨⟨iI (f_ss (((f_mid (u1.2.2.2.2 k)) * (f_below (u1.2.2.2.2 j))) - ((f_mid (u1.2.2.2.2 j)) * (f_below (u1.2.2.2.2 k)))) (-(f_below (u1.2.2.2.2 j))) (f_under (u1.2.2.2.2 k)) (f_below (u1.2.2.2.2 k)) (f_under (u1.2.2.2.2 j))), (u1.1, u1.2.1, f_cont N, u1.2.2.1, 1, (u1.2.2.2.1.1, u1.2.2.2.1.2.1, u1.2.2.2.1.2.2.1, u1.2.2.2.1.2.2.2), u1.2.2.2.2), rfl, ⟨⟨hci, hdeg, rfl, rfl⟩, hqra0, hqra1, hr0, hr1, congrArg iI (by unfold f_cmp; grind)⟩, by rw [ht]; exact hP9, va_K.moved hW.alike hK9, hD9⟩, hS.F ht⟩) hS.2.2 dX1_compare_123
              · refine lv_aload hx hb dX1_compare_84 (lv_at hl 3 rfl) ?_
                have hPc := hV0.sub (ws' := [(ra0, .inr (0, [.int (iI ((u1.2.2.2.2 k) 0)), .int (iI ((u1.2.2.2.2 k) 1)), .int (iI ((u1.2.2.2.2 k) 2)), .int (iI ((u1.2.2.2.2 k) 3)), .int (iI ((u1.2.2.2.2 k) 4)), .int (iI ((u1.2.2.2.2 k) 5))]))]) [0] rfl
                have hKc := hK.sub (tys' := []) [] rfl
                refine vp_callSi (va_Run.run (va_runVN (As := []) (rest := []) ⟨hx, hb, hml, hown, hw⟩ (kX0_below l dC dI ra0 (u1.2.2.2.2 k) hB0) ⟨va_cnB 0 hw (wsA_sub mA_283) rfl rfl rfl (hnb.1 _ mN_325) (hw _ mA_2) (by decide +kernel) ⟨Nat.le_of_ble_eq_true rfl, Nat.le_of_ble_eq_true rfl⟩, hw _ mA_282, hw _ mP_13⟩ ⟨fun a U g mk q => by obtain ⟨q0, qP, qK⟩ := q; exact ⟨q0, qP, va_K.moved (u := U) (U := U.calling g mk a) (Vm.Alike.refl U.vm) qK⟩, va_recv hKc hPc (ci := 0) (q0 := 0) rfl rfl, fun U hU hW => ⟨rfl, by rw [hU]; exact hPc, va_K.moved hW.alike hKc⟩⟩ rfl rfl hl.1 rfl (lv_room (Nat.le_of_ble_eq_true rfl)) dX1_compare_86 ⟨Nat.le_of_ble_eq_true rfl, Nat.le_of_ble_eq_true rfl⟩)) (fun r23 h24 => ?_)
                subst h24
                refine ix_ineg hx hb dX1_compare_89 ?_
                refine ix_i2l hx hb dX1_compare_90 ⟨by omega, by omega⟩ ?_
                refine lv_goto (tgt := 100) hx hb dX1_compare_91 (by decide) ?_
                refine lv_lstore (lv' := [(11, .long (lI (-(f_below (u1.2.2.2.2 k))))), (9, .long (lI (-(f_below (u1.2.2.2.2 j))))), (7, .long (lI (((f_mid (u1.2.2.2.2 k)) * (f_below (u1.2.2.2.2 j))) - ((f_mid (u1.2.2.2.2 j)) * (f_below (u1.2.2.2.2 k)))))), (6, .ref ra1), (5, .ref ra0), (0, .ref h), (1, .int (iI k)), (2, .int (iI up)), (3, .int (iI j)), (4, .int (iI ot))]) hx hb dX1_compare_100 hl (by decide) rfl (fun ls hl => ?_)
                refine lv_lload hx hb dX1_compare_102 (lv_at hl 2 rfl) ?_
                refine lv_lload hx hb dX1_compare_104 (lv_at hl 1 rfl) ?_
                refine lv_aload hx hb dX1_compare_106 (lv_at hl 4 rfl) ?_
                have hPc := hV0.sub (ws' := [(ra0, .inr (0, [.int (iI ((u1.2.2.2.2 k) 0)), .int (iI ((u1.2.2.2.2 k) 1)), .int (iI ((u1.2.2.2.2 k) 2)), .int (iI ((u1.2.2.2.2 k) 3)), .int (iI ((u1.2.2.2.2 k) 4)), .int (iI ((u1.2.2.2.2 k) 5))]))]) [0] rfl
                have hKc := hK.sub (tys' := []) [] rfl
                refine vp_callSi (va_Run.run (va_runVN (As := []) (rest := [.long (lI (-(f_below (u1.2.2.2.2 j)))), .long (lI (((f_mid (u1.2.2.2.2 k)) * (f_below (u1.2.2.2.2 j))) - ((f_mid (u1.2.2.2.2 j)) * (f_below (u1.2.2.2.2 k)))))]) ⟨hx, hb, hml, hown, hw⟩ (kX0_under l dC dI ra0 (u1.2.2.2.2 k) hB0) ⟨va_cnB 0 hw (wsA_sub mA_351) rfl rfl rfl (hnb.1 _ mN_348) (hw _ mA_2) (by decide +kernel) ⟨Nat.le_of_ble_eq_true rfl, Nat.le_of_ble_eq_true rfl⟩, hw _ mA_350, hw _ mP_17⟩ ⟨fun a U g mk q => by obtain ⟨q0, qP, qK⟩ := q; exact ⟨q0, qP, va_K.moved (u := U) (U := U.calling g mk a) (Vm.Alike.refl U.vm) qK⟩, va_recv hKc hPc (ci := 0) (q0 := 0) rfl rfl, fun U hU hW => ⟨rfl, by rw [hU]; exact hPc, va_K.moved hW.alike hKc⟩⟩ rfl rfl hl.1 rfl (lv_room (Nat.le_of_ble_eq_true rfl)) dX1_compare_108 ⟨Nat.le_of_ble_eq_true rfl, Nat.le_of_ble_eq_true rfl⟩)) (fun r25 h26 => ?_)
                subst h26
                refine ix_i2l hx hb dX1_compare_111 ⟨by omega, by omega⟩ ?_
                refine lv_lload hx hb dX1_compare_112 (lv_at hl 0 rfl) ?_
                refine lv_aload hx hb dX1_compare_114 (lv_at hl 3 rfl) ?_
                have hPc := hV1.sub (ws' := [(ra1, .inr (0, [.int (iI ((u1.2.2.2.2 j) 0)), .int (iI ((u1.2.2.2.2 j) 1)), .int (iI ((u1.2.2.2.2 j) 2)), .int (iI ((u1.2.2.2.2 j) 3)), .int (iI ((u1.2.2.2.2 j) 4)), .int (iI ((u1.2.2.2.2 j) 5))]))]) [0] rfl
                have hKc := hK.sub (tys' := []) [] rfl
                refine vp_callSi (va_Run.run (va_runVN (As := []) (rest := [.long (lI (-(f_below (u1.2.2.2.2 k)))), .long (lI (f_under (u1.2.2.2.2 k))), .long (lI (-(f_below (u1.2.2.2.2 j)))), .long (lI (((f_mid (u1.2.2.2.2 k)) * (f_below (u1.2.2.2.2 j))) - ((f_mid (u1.2.2.2.2 j)) * (f_below (u1.2.2.2.2 k)))))]) ⟨hx, hb, hml, hown, hw⟩ (kX0_under l dC dI ra1 (u1.2.2.2.2 j) hB1) ⟨va_cnB 0 hw (wsA_sub mA_351) rfl rfl rfl (hnb.1 _ mN_348) (hw _ mA_2) (by decide +kernel) ⟨Nat.le_of_ble_eq_true rfl, Nat.le_of_ble_eq_true rfl⟩, hw _ mA_350, hw _ mP_17⟩ ⟨fun a U g mk q => by obtain ⟨q0, qP, qK⟩ := q; exact ⟨q0, qP, va_K.moved (u := U) (U := U.calling g mk a) (Vm.Alike.refl U.vm) qK⟩, va_recv hKc hPc (ci := 0) (q0 := 0) rfl rfl, fun U hU hW => ⟨rfl, by rw [hU]; exact hPc, va_K.moved hW.alike hKc⟩⟩ rfl rfl hl.1 rfl (lv_room (Nat.le_of_ble_eq_true rfl)) dX1_compare_116 ⟨Nat.le_of_ble_eq_true rfl, Nat.le_of_ble_eq_true rfl⟩)) (fun r27 h28 => ?_)
                subst h28
                refine ix_i2l hx hb dX1_compare_119 ⟨by omega, by omega⟩ ?_
                have hm1 := mul_in (x := f_mid (u1.2.2.2.2 k)) (y := f_below (u1.2.2.2.2 j)) (A := 240) (B := 40) hBm0 hBb1 (by decide) (by decide)
                have hm2 := mul_in (x := f_mid (u1.2.2.2.2 j)) (y := f_below (u1.2.2.2.2 k)) (A := 240) (B := 40) hBm1 hBb0 (by decide) (by decide)
                have hso := sos_r (w := ((f_mid (u1.2.2.2.2 k)) * (f_below (u1.2.2.2.2 j))) - ((f_mid (u1.2.2.2.2 j)) * (f_below (u1.2.2.2.2 k)))) (a := -(f_below (u1.2.2.2.2 j))) (u := f_under (u1.2.2.2.2 k)) (b := -(f_below (u1.2.2.2.2 k))) (v := f_under (u1.2.2.2.2 j)) (by omega) (by omega) (by omega) (by omega) (by omega)
                refine vp_callSi (W.runS (As := [.long (lI (((f_mid (u1.2.2.2.2 k)) * (f_below (u1.2.2.2.2 j))) - ((f_mid (u1.2.2.2.2 j)) * (f_below (u1.2.2.2.2 k))))), .long (lI (-(f_below (u1.2.2.2.2 j)))), .long (lI (f_under (u1.2.2.2.2 k))), .long (lI (-(f_below (u1.2.2.2.2 k)))), .long (lI (f_under (u1.2.2.2.2 j)))]) (rest := []) ⟨hx, hb, hml, hown, hw⟩ (kX1_signOfSum l (((f_mid (u1.2.2.2.2 k)) * (f_below (u1.2.2.2.2 j))) - ((f_mid (u1.2.2.2.2 j)) * (f_below (u1.2.2.2.2 k)))) (-(f_below (u1.2.2.2.2 j))) (f_under (u1.2.2.2.2 k)) (-(f_below (u1.2.2.2.2 k))) (f_under (u1.2.2.2.2 j)) ⟨by omega, by omega⟩ ⟨by omega, by omega⟩ ⟨by omega, by omega⟩ hso.1 hso.2.1 hso.2.2.1 hso.2.2.2) (cwS 5 hw (gS mA_365 mA_366 mA_1 mA_367) rfl rfl rfl (by decide +kernel) ⟨Nat.le_of_ble_eq_true rfl, Nat.le_of_ble_eq_true rfl⟩) preEq rfl rfl hl.1 rfl (lv_room (Nat.le_of_ble_eq_true rfl)) dX1_compare_120 ⟨Nat.le_of_ble_eq_true rfl, Nat.le_of_ble_eq_true rfl⟩) (fun r29 h30 => ?_)
                subst h30
                have hP9 := hP.sub (ws' := (cwu h n r d f cI cF N (u1.1, u1.2.1, f_cont N, u1.2.2.1, 1, (u1.2.2.2.1.1, u1.2.2.2.1.2.1, u1.2.2.2.1.2.2.1, u1.2.2.2.1.2.2.2), u1.2.2.2.2))) [0, 1, 2, 3, 4, 5, 6, 7, 8] rfl
                have hD9 := hD.sub (ws' := (cwu h n r d f cI cF N (u1.1, u1.2.1, f_cont N, u1.2.2.1, 1, (u1.2.2.2.1.1, u1.2.2.2.1.2.1, u1.2.2.2.1.2.2.1, u1.2.2.2.1.2.2.2), u1.2.2.2.2))) [0, 1, 2, 3, 4, 5, 6, 7, 8] (by decide) rfl
                have hK9 := hK.sub (tys' := [(cI, .int), (cF, .object RX0)]) [0, 1] rfl
                refine vx_ret (W.widen (k := 5) (n := 30) (Nat.le_of_ble_eq_true rfl) (Nat.le_of_ble_eq_true rfl) ?_)
                exact W.iret (v := iI (f_ss (((f_mid (u1.2.2.2.2 k)) * (f_below (u1.2.2.2.2 j))) - ((f_mid (u1.2.2.2.2 j)) * (f_below (u1.2.2.2.2 k)))) (-(f_below (u1.2.2.2.2 j))) (f_under (u1.2.2.2.2 k)) (-(f_below (u1.2.2.2.2 k))) (f_under (u1.2.2.2.2 j)))) hx hb hr (fun t ht hW => ⟨⟨iI (f_ss (((f_mid (u1.2.2.2.2 k)) * (f_below (u1.2.2.2.2 j))) - ((f_mid (u1.2.2.2.2 j)) * (f_below (u1.2.2.2.2 k)))) (-(f_below (u1.2.2.2.2 j))) (f_under (u1.2.2.2.2 k)) (-(f_below (u1.2.2.2.2 k))) (f_under (u1.2.2.2.2 j))), (u1.1, u1.2.1, f_cont N, u1.2.2.1, 1, (u1.2.2.2.1.1, u1.2.2.2.1.2.1, u1.2.2.2.1.2.2.1, u1.2.2.2.1.2.2.2), u1.2.2.2.2), rfl, ⟨⟨hci, hdeg, rfl, rfl⟩, hqra0, hqra1, hr0, hr1, congrArg iI (by unfold f_cmp; grind)⟩, by rw [ht]; exact hP9, va_K.moved hW.alike hK9, hD9⟩, hS.F ht⟩) hS.2.2 dX1_compare_123
            · refine lv_aload hx hb dX1_compare_61 (lv_at hl 1 rfl) ?_
              have hPc := hV1.sub (ws' := [(ra1, .inr (0, [.int (iI ((u1.2.2.2.2 j) 0)), .int (iI ((u1.2.2.2.2 j) 1)), .int (iI ((u1.2.2.2.2 j) 2)), .int (iI ((u1.2.2.2.2 j) 3)), .int (iI ((u1.2.2.2.2 j) 4)), .int (iI ((u1.2.2.2.2 j) 5))]))]) [0] rfl
              have hKc := hK.sub (tys' := []) [] rfl
              refine vp_callSi (va_Run.run (va_runVN (As := []) (rest := []) ⟨hx, hb, hml, hown, hw⟩ (kX0_below l dC dI ra1 (u1.2.2.2.2 j) hB1) ⟨va_cnB 0 hw (wsA_sub mA_283) rfl rfl rfl (hnb.1 _ mN_325) (hw _ mA_2) (by decide +kernel) ⟨Nat.le_of_ble_eq_true rfl, Nat.le_of_ble_eq_true rfl⟩, hw _ mA_282, hw _ mP_13⟩ ⟨fun a U g mk q => by obtain ⟨q0, qP, qK⟩ := q; exact ⟨q0, qP, va_K.moved (u := U) (U := U.calling g mk a) (Vm.Alike.refl U.vm) qK⟩, va_recv hKc hPc (ci := 0) (q0 := 0) rfl rfl, fun U hU hW => ⟨rfl, by rw [hU]; exact hPc, va_K.moved hW.alike hKc⟩⟩ rfl rfl hl.1 rfl (lv_room (Nat.le_of_ble_eq_true rfl)) dX1_compare_63 ⟨Nat.le_of_ble_eq_true rfl, Nat.le_of_ble_eq_true rfl⟩)) (fun r31 h32 => ?_)
              subst h32
              refine ix_i2l hx hb dX1_compare_66 ⟨by omega, by omega⟩ ?_
              refine lv_goto (tgt := 77) hx hb dX1_compare_67 (by decide) ?_
              refine lv_lstore (lv' := [(9, .long (lI (f_below (u1.2.2.2.2 j)))), (7, .long (lI (((f_mid (u1.2.2.2.2 k)) * (f_below (u1.2.2.2.2 j))) - ((f_mid (u1.2.2.2.2 j)) * (f_below (u1.2.2.2.2 k)))))), (6, .ref ra1), (5, .ref ra0), (0, .ref h), (1, .int (iI k)), (2, .int (iI up)), (3, .int (iI j)), (4, .int (iI ot))]) hx hb dX1_compare_77 hl (by decide) rfl (fun ls hl => ?_)
              refine lv_iload hx hb dX1_compare_79 (lv_at hl 8 rfl) ?_
              refine ix_if_eq (tgt := 94) hx hb dX1_compare_81 (by decide) ⟨by omega, by omega⟩ (fun c33 => ?_) (fun c33 => ?_)
              · refine lv_aload hx hb dX1_compare_94 (lv_at hl 3 rfl) ?_
                have hPc := hV0.sub (ws' := [(ra0, .inr (0, [.int (iI ((u1.2.2.2.2 k) 0)), .int (iI ((u1.2.2.2.2 k) 1)), .int (iI ((u1.2.2.2.2 k) 2)), .int (iI ((u1.2.2.2.2 k) 3)), .int (iI ((u1.2.2.2.2 k) 4)), .int (iI ((u1.2.2.2.2 k) 5))]))]) [0] rfl
                have hKc := hK.sub (tys' := []) [] rfl
                refine vp_callSi (va_Run.run (va_runVN (As := []) (rest := []) ⟨hx, hb, hml, hown, hw⟩ (kX0_below l dC dI ra0 (u1.2.2.2.2 k) hB0) ⟨va_cnB 0 hw (wsA_sub mA_283) rfl rfl rfl (hnb.1 _ mN_325) (hw _ mA_2) (by decide +kernel) ⟨Nat.le_of_ble_eq_true rfl, Nat.le_of_ble_eq_true rfl⟩, hw _ mA_282, hw _ mP_13⟩ ⟨fun a U g mk q => by obtain ⟨q0, qP, qK⟩ := q; exact ⟨q0, qP, va_K.moved (u := U) (U := U.calling g mk a) (Vm.Alike.refl U.vm) qK⟩, va_recv hKc hPc (ci := 0) (q0 := 0) rfl rfl, fun U hU hW => ⟨rfl, by rw [hU]; exact hPc, va_K.moved hW.alike hKc⟩⟩ rfl rfl hl.1 rfl (lv_room (Nat.le_of_ble_eq_true rfl)) dX1_compare_96 ⟨Nat.le_of_ble_eq_true rfl, Nat.le_of_ble_eq_true rfl⟩)) (fun r34 h35 => ?_)
                subst h35
                refine ix_i2l hx hb dX1_compare_99 ⟨by omega, by omega⟩ ?_
                refine lv_lstore (lv' := [(11, .long (lI (f_below (u1.2.2.2.2 k)))), (9, .long (lI (f_below (u1.2.2.2.2 j)))), (7, .long (lI (((f_mid (u1.2.2.2.2 k)) * (f_below (u1.2.2.2.2 j))) - ((f_mid (u1.2.2.2.2 j)) * (f_below (u1.2.2.2.2 k)))))), (6, .ref ra1), (5, .ref ra0), (0, .ref h), (1, .int (iI k)), (2, .int (iI up)), (3, .int (iI j)), (4, .int (iI ot))]) hx hb dX1_compare_100 hl (by decide) rfl (fun ls hl => ?_)
                refine lv_lload hx hb dX1_compare_102 (lv_at hl 2 rfl) ?_
                refine lv_lload hx hb dX1_compare_104 (lv_at hl 1 rfl) ?_
                refine lv_aload hx hb dX1_compare_106 (lv_at hl 4 rfl) ?_
                have hPc := hV0.sub (ws' := [(ra0, .inr (0, [.int (iI ((u1.2.2.2.2 k) 0)), .int (iI ((u1.2.2.2.2 k) 1)), .int (iI ((u1.2.2.2.2 k) 2)), .int (iI ((u1.2.2.2.2 k) 3)), .int (iI ((u1.2.2.2.2 k) 4)), .int (iI ((u1.2.2.2.2 k) 5))]))]) [0] rfl
                have hKc := hK.sub (tys' := []) [] rfl
                refine vp_callSi (va_Run.run (va_runVN (As := []) (rest := [.long (lI (f_below (u1.2.2.2.2 j))), .long (lI (((f_mid (u1.2.2.2.2 k)) * (f_below (u1.2.2.2.2 j))) - ((f_mid (u1.2.2.2.2 j)) * (f_below (u1.2.2.2.2 k)))))]) ⟨hx, hb, hml, hown, hw⟩ (kX0_under l dC dI ra0 (u1.2.2.2.2 k) hB0) ⟨va_cnB 0 hw (wsA_sub mA_351) rfl rfl rfl (hnb.1 _ mN_348) (hw _ mA_2) (by decide +kernel) ⟨Nat.le_of_ble_eq_true rfl, Nat.le_of_ble_eq_true rfl⟩, hw _ mA_350, hw _ mP_17⟩ ⟨fun a U g mk q => by obtain ⟨q0, qP, qK⟩ := q; exact ⟨q0, qP, va_K.moved (u := U) (U := U.calling g mk a) (Vm.Alike.refl U.vm) qK⟩, va_recv hKc hPc (ci := 0) (q0 := 0) rfl rfl, fun U hU hW => ⟨rfl, by rw [hU]; exact hPc, va_K.moved hW.alike hKc⟩⟩ rfl rfl hl.1 rfl (lv_room (Nat.le_of_ble_eq_true rfl)) dX1_compare_108 ⟨Nat.le_of_ble_eq_true rfl, Nat.le_of_ble_eq_true rfl⟩)) (fun r36 h37 => ?_)
                subst h37
                refine ix_i2l hx hb dX1_compare_111 ⟨by omega, by omega⟩ ?_
                refine lv_lload hx hb dX1_compare_112 (lv_at hl 0 rfl) ?_
                refine lv_aload hx hb dX1_compare_114 (lv_at hl 3 rfl) ?_
                have hPc := hV1.sub (ws' := [(ra1, .inr (0, [.int (iI ((u1.2.2.2.2 j) 0)), .int (iI ((u1.2.2.2.2 j) 1)), .int (iI ((u1.2.2.2.2 j) 2)), .int (iI ((u1.2.2.2.2 j) 3)), .int (iI ((u1.2.2.2.2 j) 4)), .int (iI ((u1.2.2.2.2 j) 5))]))]) [0] rfl
                have hKc := hK.sub (tys' := []) [] rfl
                refine vp_callSi (va_Run.run (va_runVN (As := []) (rest := [.long (lI (f_below (u1.2.2.2.2 k))), .long (lI (f_under (u1.2.2.2.2 k))), .long (lI (f_below (u1.2.2.2.2 j))), .long (lI (((f_mid (u1.2.2.2.2 k)) * (f_below (u1.2.2.2.2 j))) - ((f_mid (u1.2.2.2.2 j)) * (f_below (u1.2.2.2.2 k)))))]) ⟨hx, hb, hml, hown, hw⟩ (kX0_under l dC dI ra1 (u1.2.2.2.2 j) hB1) ⟨va_cnB 0 hw (wsA_sub mA_351) rfl rfl rfl (hnb.1 _ mN_348) (hw _ mA_2) (by decide +kernel) ⟨Nat.le_of_ble_eq_true rfl, Nat.le_of_ble_eq_true rfl⟩, hw _ mA_350, hw _ mP_17⟩ ⟨fun a U g mk q => by obtain ⟨q0, qP, qK⟩ := q; exact ⟨q0, qP, va_K.moved (u := U) (U := U.calling g mk a) (Vm.Alike.refl U.vm) qK⟩, va_recv hKc hPc (ci := 0) (q0 := 0) rfl rfl, fun U hU hW => ⟨rfl, by rw [hU]; exact hPc, va_K.moved hW.alike hKc⟩⟩ rfl rfl hl.1 rfl (lv_room (Nat.le_of_ble_eq_true rfl)) dX1_compare_116 ⟨Nat.le_of_ble_eq_true rfl, Nat.le_of_ble_eq_true rfl⟩)) (fun r38 h39 => ?_)
                subst h39
                refine ix_i2l hx hb dX1_compare_119 ⟨by omega, by omega⟩ ?_
                have hm1 := mul_in (x := f_mid (u1.2.2.2.2 k)) (y := f_below (u1.2.2.2.2 j)) (A := 240) (B := 40) hBm0 hBb1 (by decide) (by decide)
                have hm2 := mul_in (x := f_mid (u1.2.2.2.2 j)) (y := f_below (u1.2.2.2.2 k)) (A := 240) (B := 40) hBm1 hBb0 (by decide) (by decide)
                have hso := sos_r (w := ((f_mid (u1.2.2.2.2 k)) * (f_below (u1.2.2.2.2 j))) - ((f_mid (u1.2.2.2.2 j)) * (f_below (u1.2.2.2.2 k)))) (a := f_below (u1.2.2.2.2 j)) (u := f_under (u1.2.2.2.2 k)) (b := f_below (u1.2.2.2.2 k)) (v := f_under (u1.2.2.2.2 j)) (by omega) (by omega) (by omega) (by omega) (by omega)
                refine vp_callSi (W.runS (As := [.long (lI (((f_mid (u1.2.2.2.2 k)) * (f_below (u1.2.2.2.2 j))) - ((f_mid (u1.2.2.2.2 j)) * (f_below (u1.2.2.2.2 k))))), .long (lI (f_below (u1.2.2.2.2 j))), .long (lI (f_under (u1.2.2.2.2 k))), .long (lI (f_below (u1.2.2.2.2 k))), .long (lI (f_under (u1.2.2.2.2 j)))]) (rest := []) ⟨hx, hb, hml, hown, hw⟩ (kX1_signOfSum l (((f_mid (u1.2.2.2.2 k)) * (f_below (u1.2.2.2.2 j))) - ((f_mid (u1.2.2.2.2 j)) * (f_below (u1.2.2.2.2 k)))) (f_below (u1.2.2.2.2 j)) (f_under (u1.2.2.2.2 k)) (f_below (u1.2.2.2.2 k)) (f_under (u1.2.2.2.2 j)) ⟨by omega, by omega⟩ ⟨by omega, by omega⟩ ⟨by omega, by omega⟩ hso.1 hso.2.1 hso.2.2.1 hso.2.2.2) (cwS 5 hw (gS mA_365 mA_366 mA_1 mA_367) rfl rfl rfl (by decide +kernel) ⟨Nat.le_of_ble_eq_true rfl, Nat.le_of_ble_eq_true rfl⟩) preEq rfl rfl hl.1 rfl (lv_room (Nat.le_of_ble_eq_true rfl)) dX1_compare_120 ⟨Nat.le_of_ble_eq_true rfl, Nat.le_of_ble_eq_true rfl⟩) (fun r40 h41 => ?_)
                subst h41
                have hP9 := hP.sub (ws' := (cwu h n r d f cI cF N (u1.1, u1.2.1, f_cont N, u1.2.2.1, 1, (u1.2.2.2.1.1, u1.2.2.2.1.2.1, u1.2.2.2.1.2.2.1, u1.2.2.2.1.2.2.2), u1.2.2.2.2))) [0, 1, 2, 3, 4, 5, 6, 7, 8] rfl
                have hD9 := hD.sub (ws' := (cwu h n r d f cI cF N (u1.1, u1.2.1, f_cont N, u1.2.2.1, 1, (u1.2.2.2.1.1, u1.2.2.2.1.2.1, u1.2.2.2.1.2.2.1, u1.2.2.2.1.2.2.2), u1.2.2.2.2))) [0, 1, 2, 3, 4, 5, 6, 7, 8] (by decide) rfl
                have hK9 := hK.sub (tys' := [(cI, .int), (cF, .object RX0)]) [0, 1] rfl
                refine vx_ret (W.widen (k := 5) (n := 30) (Nat.le_of_ble_eq_true rfl) (Nat.le_of_ble_eq_true rfl) ?_)
                exact W.iret (v := iI (f_ss (((f_mid (u1.2.2.2.2 k)) * (f_below (u1.2.2.2.2 j))) - ((f_mid (u1.2.2.2.2 j)) * (f_below (u1.2.2.2.2 k)))) (f_below (u1.2.2.2.2 j)) (f_under (u1.2.2.2.2 k)) (f_below (u1.2.2.2.2 k)) (f_under (u1.2.2.2.2 j)))) hx hb hr (fun t ht hW => ⟨⟨iI (f_ss (((f_mid (u1.2.2.2.2 k)) * (f_below (u1.2.2.2.2 j))) - ((f_mid (u1.2.2.2.2 j)) * (f_below (u1.2.2.2.2 k)))) (f_below (u1.2.2.2.2 j)) (f_under (u1.2.2.2.2 k)) (f_below (u1.2.2.2.2 k)) (f_under (u1.2.2.2.2 j))), (u1.1, u1.2.1, f_cont N, u1.2.2.1, 1, (u1.2.2.2.1.1, u1.2.2.2.1.2.1, u1.2.2.2.1.2.2.1, u1.2.2.2.1.2.2.2), u1.2.2.2.2), rfl, ⟨⟨hci, hdeg, rfl, rfl⟩, hqra0, hqra1, hr0, hr1, congrArg iI (by unfold f_cmp; grind)⟩, by rw [ht]; exact hP9, va_K.moved hW.alike hK9, hD9⟩, hS.F ht⟩) hS.2.2 dX1_compare_123
              · refine lv_aload hx hb dX1_compare_84 (lv_at hl 3 rfl) ?_
                have hPc := hV0.sub (ws' := [(ra0, .inr (0, [.int (iI ((u1.2.2.2.2 k) 0)), .int (iI ((u1.2.2.2.2 k) 1)), .int (iI ((u1.2.2.2.2 k) 2)), .int (iI ((u1.2.2.2.2 k) 3)), .int (iI ((u1.2.2.2.2 k) 4)), .int (iI ((u1.2.2.2.2 k) 5))]))]) [0] rfl
                have hKc := hK.sub (tys' := []) [] rfl
                refine vp_callSi (va_Run.run (va_runVN (As := []) (rest := []) ⟨hx, hb, hml, hown, hw⟩ (kX0_below l dC dI ra0 (u1.2.2.2.2 k) hB0) ⟨va_cnB 0 hw (wsA_sub mA_283) rfl rfl rfl (hnb.1 _ mN_325) (hw _ mA_2) (by decide +kernel) ⟨Nat.le_of_ble_eq_true rfl, Nat.le_of_ble_eq_true rfl⟩, hw _ mA_282, hw _ mP_13⟩ ⟨fun a U g mk q => by obtain ⟨q0, qP, qK⟩ := q; exact ⟨q0, qP, va_K.moved (u := U) (U := U.calling g mk a) (Vm.Alike.refl U.vm) qK⟩, va_recv hKc hPc (ci := 0) (q0 := 0) rfl rfl, fun U hU hW => ⟨rfl, by rw [hU]; exact hPc, va_K.moved hW.alike hKc⟩⟩ rfl rfl hl.1 rfl (lv_room (Nat.le_of_ble_eq_true rfl)) dX1_compare_86 ⟨Nat.le_of_ble_eq_true rfl, Nat.le_of_ble_eq_true rfl⟩)) (fun r42 h43 => ?_)
                subst h43
                refine ix_ineg hx hb dX1_compare_89 ?_
                refine ix_i2l hx hb dX1_compare_90 ⟨by omega, by omega⟩ ?_
                refine lv_goto (tgt := 100) hx hb dX1_compare_91 (by decide) ?_
                refine lv_lstore (lv' := [(11, .long (lI (-(f_below (u1.2.2.2.2 k))))), (9, .long (lI (f_below (u1.2.2.2.2 j)))), (7, .long (lI (((f_mid (u1.2.2.2.2 k)) * (f_below (u1.2.2.2.2 j))) - ((f_mid (u1.2.2.2.2 j)) * (f_below (u1.2.2.2.2 k)))))), (6, .ref ra1), (5, .ref ra0), (0, .ref h), (1, .int (iI k)), (2, .int (iI up)), (3, .int (iI j)), (4, .int (iI ot))]) hx hb dX1_compare_100 hl (by decide) rfl (fun ls hl => ?_)
                refine lv_lload hx hb dX1_compare_102 (lv_at hl 2 rfl) ?_
                refine lv_lload hx hb dX1_compare_104 (lv_at hl 1 rfl) ?_
                refine lv_aload hx hb dX1_compare_106 (lv_at hl 4 rfl) ?_
                have hPc := hV0.sub (ws' := [(ra0, .inr (0, [.int (iI ((u1.2.2.2.2 k) 0)), .int (iI ((u1.2.2.2.2 k) 1)), .int (iI ((u1.2.2.2.2 k) 2)), .int (iI ((u1.2.2.2.2 k) 3)), .int (iI ((u1.2.2.2.2 k) 4)), .int (iI ((u1.2.2.2.2 k) 5))]))]) [0] rfl
                have hKc := hK.sub (tys' := []) [] rfl
                refine vp_callSi (va_Run.run (va_runVN (As := []) (rest := [.long (lI (f_below (u1.2.2.2.2 j))), .long (lI (((f_mid (u1.2.2.2.2 k)) * (f_below (u1.2.2.2.2 j))) - ((f_mid (u1.2.2.2.2 j)) * (f_below (u1.2.2.2.2 k)))))]) ⟨hx, hb, hml, hown, hw⟩ (kX0_under l dC dI ra0 (u1.2.2.2.2 k) hB0) ⟨va_cnB 0 hw (wsA_sub mA_351) rfl rfl rfl (hnb.1 _ mN_348) (hw _ mA_2) (by decide +kernel) ⟨Nat.le_of_ble_eq_true rfl, Nat.le_of_ble_eq_true rfl⟩, hw _ mA_350, hw _ mP_17⟩ ⟨fun a U g mk q => by obtain ⟨q0, qP, qK⟩ := q; exact ⟨q0, qP, va_K.moved (u := U) (U := U.calling g mk a) (Vm.Alike.refl U.vm) qK⟩, va_recv hKc hPc (ci := 0) (q0 := 0) rfl rfl, fun U hU hW => ⟨rfl, by rw [hU]; exact hPc, va_K.moved hW.alike hKc⟩⟩ rfl rfl hl.1 rfl (lv_room (Nat.le_of_ble_eq_true rfl)) dX1_compare_108 ⟨Nat.le_of_ble_eq_true rfl, Nat.le_of_ble_eq_true rfl⟩)) (fun r44 h45 => ?_)
                subst h45
                refine ix_i2l hx hb dX1_compare_111 ⟨by omega, by omega⟩ ?_
                refine lv_lload hx hb dX1_compare_112 (lv_at hl 0 rfl) ?_
                refine lv_aload hx hb dX1_compare_114 (lv_at hl 3 rfl) ?_
                have hPc := hV1.sub (ws' := [(ra1, .inr (0, [.int (iI ((u1.2.2.2.2 j) 0)), .int (iI ((u1.2.2.2.2 j) 1)), .int (iI ((u1.2.2.2.2 j) 2)), .int (iI ((u1.2.2.2.2 j) 3)), .int (iI ((u1.2.2.2.2 j) 4)), .int (iI ((u1.2.2.2.2 j) 5))]))]) [0] rfl
                have hKc := hK.sub (tys' := []) [] rfl
                refine vp_callSi (va_Run.run (va_runVN (As := []) (rest := [.long (lI (-(f_below (u1.2.2.2.2 k)))), .long (lI (f_under (u1.2.2.2.2 k))), .long (lI (f_below (u1.2.2.2.2 j))), .long (lI (((f_mid (u1.2.2.2.2 k)) * (f_below (u1.2.2.2.2 j))) - ((f_mid (u1.2.2.2.2 j)) * (f_below (u1.2.2.2.2 k)))))]) ⟨hx, hb, hml, hown, hw⟩ (kX0_under l dC dI ra1 (u1.2.2.2.2 j) hB1) ⟨va_cnB 0 hw (wsA_sub mA_351) rfl rfl rfl (hnb.1 _ mN_348) (hw _ mA_2) (by decide +kernel) ⟨Nat.le_of_ble_eq_true rfl, Nat.le_of_ble_eq_true rfl⟩, hw _ mA_350, hw _ mP_17⟩ ⟨fun a U g mk q => by obtain ⟨q0, qP, qK⟩ := q; exact ⟨q0, qP, va_K.moved (u := U) (U := U.calling g mk a) (Vm.Alike.refl U.vm) qK⟩, va_recv hKc hPc (ci := 0) (q0 := 0) rfl rfl, fun U hU hW => ⟨rfl, by rw [hU]; exact hPc, va_K.moved hW.alike hKc⟩⟩ rfl rfl hl.1 rfl (lv_room (Nat.le_of_ble_eq_true rfl)) dX1_compare_116 ⟨Nat.le_of_ble_eq_true rfl, Nat.le_of_ble_eq_true rfl⟩)) (fun r46 h47 => ?_)
                subst h47
                refine ix_i2l hx hb dX1_compare_119 ⟨by omega, by omega⟩ ?_
                have hm1 := mul_in (x := f_mid (u1.2.2.2.2 k)) (y := f_below (u1.2.2.2.2 j)) (A := 240) (B := 40) hBm0 hBb1 (by decide) (by decide)
                have hm2 := mul_in (x := f_mid (u1.2.2.2.2 j)) (y := f_below (u1.2.2.2.2 k)) (A := 240) (B := 40) hBm1 hBb0 (by decide) (by decide)
                have hso := sos_r (w := ((f_mid (u1.2.2.2.2 k)) * (f_below (u1.2.2.2.2 j))) - ((f_mid (u1.2.2.2.2 j)) * (f_below (u1.2.2.2.2 k)))) (a := f_below (u1.2.2.2.2 j)) (u := f_under (u1.2.2.2.2 k)) (b := -(f_below (u1.2.2.2.2 k))) (v := f_under (u1.2.2.2.2 j)) (by omega) (by omega) (by omega) (by omega) (by omega)
                refine vp_callSi (W.runS (As := [.long (lI (((f_mid (u1.2.2.2.2 k)) * (f_below (u1.2.2.2.2 j))) - ((f_mid (u1.2.2.2.2 j)) * (f_below (u1.2.2.2.2 k))))), .long (lI (f_below (u1.2.2.2.2 j))), .long (lI (f_under (u1.2.2.2.2 k))), .long (lI (-(f_below (u1.2.2.2.2 k)))), .long (lI (f_under (u1.2.2.2.2 j)))]) (rest := []) ⟨hx, hb, hml, hown, hw⟩ (kX1_signOfSum l (((f_mid (u1.2.2.2.2 k)) * (f_below (u1.2.2.2.2 j))) - ((f_mid (u1.2.2.2.2 j)) * (f_below (u1.2.2.2.2 k)))) (f_below (u1.2.2.2.2 j)) (f_under (u1.2.2.2.2 k)) (-(f_below (u1.2.2.2.2 k))) (f_under (u1.2.2.2.2 j)) ⟨by omega, by omega⟩ ⟨by omega, by omega⟩ ⟨by omega, by omega⟩ hso.1 hso.2.1 hso.2.2.1 hso.2.2.2) (cwS 5 hw (gS mA_365 mA_366 mA_1 mA_367) rfl rfl rfl (by decide +kernel) ⟨Nat.le_of_ble_eq_true rfl, Nat.le_of_ble_eq_true rfl⟩) preEq rfl rfl hl.1 rfl (lv_room (Nat.le_of_ble_eq_true rfl)) dX1_compare_120 ⟨Nat.le_of_ble_eq_true rfl, Nat.le_of_ble_eq_true rfl⟩) (fun r48 h49 => ?_)
                subst h49
                have hP9 := hP.sub (ws' := (cwu h n r d f cI cF N (u1.1, u1.2.1, f_cont N, u1.2.2.1, 1, (u1.2.2.2.1.1, u1.2.2.2.1.2.1, u1.2.2.2.1.2.2.1, u1.2.2.2.1.2.2.2), u1.2.2.2.2))) [0, 1, 2, 3, 4, 5, 6, 7, 8] rfl
                have hD9 := hD.sub (ws' := (cwu h n r d f cI cF N (u1.1, u1.2.1, f_cont N, u1.2.2.1, 1, (u1.2.2.2.1.1, u1.2.2.2.1.2.1, u1.2.2.2.1.2.2.1, u1.2.2.2.1.2.2.2), u1.2.2.2.2))) [0, 1, 2, 3, 4, 5, 6, 7, 8] (by decide) rfl
                have hK9 := hK.sub (tys' := [(cI, .int), (cF, .object RX0)]) [0, 1] rfl
                refine vx_ret (W.widen (k := 5) (n := 30) (Nat.le_of_ble_eq_true rfl) (Nat.le_of_ble_eq_true rfl) ?_)
                exact W.iret (v := iI (f_ss (((f_mid (u1.2.2.2.2 k)) * (f_below (u1.2.2.2.2 j))) - ((f_mid (u1.2.2.2.2 j)) * (f_below (u1.2.2.2.2 k)))) (f_below (u1.2.2.2.2 j)) (f_under (u1.2.2.2.2 k)) (-(f_below (u1.2.2.2.2 k))) (f_under (u1.2.2.2.2 j)))) hx hb hr (fun t ht hW => ⟨⟨iI (f_ss (((f_mid (u1.2.2.2.2 k)) * (f_below (u1.2.2.2.2 j))) - ((f_mid (u1.2.2.2.2 j)) * (f_below (u1.2.2.2.2 k)))) (f_below (u1.2.2.2.2 j)) (f_under (u1.2.2.2.2 k)) (-(f_below (u1.2.2.2.2 k))) (f_under (u1.2.2.2.2 j))), (u1.1, u1.2.1, f_cont N, u1.2.2.1, 1, (u1.2.2.2.1.1, u1.2.2.2.1.2.1, u1.2.2.2.1.2.2.1, u1.2.2.2.1.2.2.2), u1.2.2.2.2), rfl, ⟨⟨hci, hdeg, rfl, rfl⟩, hqra0, hqra1, hr0, hr1, congrArg iI (by unfold f_cmp; grind)⟩, by rw [ht]; exact hP9, va_K.moved hW.alike hK9, hD9⟩, hS.F ht⟩) hS.2.2 dX1_compare_123
