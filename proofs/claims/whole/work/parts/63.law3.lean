set_option maxHeartbeats 4000000 in
set_option maxRecDepth 100000 in
theorem lc_factor {p : Program} {l : Launch} {e : Env} {s : State} {m : MethodId} {below : List Frame} {meth : Method} {c : Code} {dC : Nat → ClassId} {dI : Nat → Nat → Nat} {b L : Nat} {xs : Nat → Int32} {A : Nat → Prop} {h n r d f o x n2 r2 d2 ya yb yc yo : Nat} {cI cF cO cI2 cJ : ClassId} (hlt : l.stackTraces = false) (hL : L ≤ 2560) (hX : va_X b L xs s s.heap) (hbl : b < s.heap.size) (hbA : ¬ A b) (hA : ∀ q : Nat, s.heap.size ≤ q → A q) (hnb : nb s) (hnc : nc s) (hzt : zt A s) (C0 : cx p s m meth c #[Value.ref b] RL cL_law 7 ret) (hK : va_K (dC, dI) vwCl [(cI, .int), (cF, .object RX0), (cO, .long), (cI2, .int), (cJ, .long)] s) {i : Int} (hi : 0 ≤ i ∧ i + 5 ≤ L) {N O : Int → Int} {u : CS} {v : MT} (hci : CIu N u) (hmi : MI v) (hO : r32 (O 0)) {cells slots : Nat} (hcs : cells + 5 ≤ 672099 ∧ slots + 30 ≤ 7079807)
    (kk : ∀ (N O : Int → Int) (u : CS) (v : MT) (H : Heap) (locs : List Loc), CIu N u → MI v → r32 (O 0) → va_P (dC, dI) vwCl (lwd h n r d f cI cF N u o cO O x n2 r2 d2 ya yb yc yo cI2 cJ N v) H → va_D A (lwd h n r d f cI cF N u o cO O x n2 r2 d2 ya yb yc yo cI2 cJ N v) → va_S A s.heap H locs → ∀ (ls : Array Slot), lv_has ls 7 [(0, .ref b), (1, .ref h), (2, .ref x), (3, .ref o), (4, .int (iI i))] → W p l e room_1 s m #[Value.ref b] below meth c H locs (cells + 5) (slots + 30) (lw_Z below #[Value.ref b] s) (F0 m 849 ls []))
    {H : Heap} {locs : List Loc} (hP : va_P (dC, dI) vwCl (lwd h n r d f cI cF N u o cO O x n2 r2 d2 ya yb yc yo cI2 cJ N v) H) (hD : va_D A (lwd h n r d f cI cF N u o cO O x n2 r2 d2 ya yb yc yo cI2 cJ N v)) (hS : va_S A s.heap H locs) {ls : Array Slot} (hl : lv_has ls 7 [(0, .ref b), (1, .ref h), (2, .ref x), (3, .ref o), (4, .int (iI i))]) : W p l e room_1 s m #[Value.ref b] below meth c H locs cells slots (lw_Z below #[Value.ref b] s) (F0 m 338 ls []) := by
  obtain ⟨hx, hb, hr, hml, hown, hw, hlocks⟩ := C0
  have h5 := hci.1
  have hN := hci.2.1
  refine lv_aload_n hx hb dL_law_338 rfl (lv_at hl 1 rfl) ?_
  refine lv_aload_n hx hb dL_law_339 rfl (lv_at hl 0 rfl) ?_
  refine lv_iload hx hb dL_law_340 (lv_at hl 4 rfl) ?_
  refine ix_iconst (n := 1) hx hb dL_law_342 ?_
  refine ix_iadd hx hb dL_law_343 ?_
  refine ix_sld (k := i + 1) hx hb hX hbl hbA hS (by omega) (by omega) hL dL_law_344 ?_
  refine lv_aload_n hx hb dL_law_345 rfl (lv_at hl 0 rfl) ?_
  refine lv_iload hx hb dL_law_346 (lv_at hl 4 rfl) ?_
  refine ix_iconst (n := 2) hx hb dL_law_348 ?_
  refine ix_iadd hx hb dL_law_349 ?_
  refine ix_sld (k := i + 2) hx hb hX hbl hbA hS (by omega) (by omega) hL dL_law_350 ?_
  refine lv_aload_n hx hb dL_law_351 rfl (lv_at hl 3 rfl) ?_
  have hPc := hP.sub (ws' := (cwou h n r d f cI cF N u o cO O)) [0, 1, 2, 3, 4, 5, 6, 7, 8, 9] rfl
  have hDc := hD.sub (ws' := (cwou h n r d f cI cF N u o cO O)) [0, 1, 2, 3, 4, 5, 6, 7, 8, 9] (by decide) rfl
  have hKc := hK.sub (tys' := [(cI, .int), (cF, .object RX0), (cO, .long)]) [0, 1, 2] rfl
  have hFc := va_free (wc := (cwou h n r d f cI cF N u o cO O)) hD hS hA [0, 1, 2, 3, 4, 5, 6, 7, 8, 9] rfl
  refine va_calli (vx_runSW (As := [.ref h, .int (iI (sc xs (i + 1))), .int (iI (sc xs (i + 2))), .ref o]) (rest := []) ⟨hx, hb, hml, hown, hw⟩ (kL_factor l hlt dC dI _ h n r d f u.2.2.2.2.2.1.1 u.2.2.2.2.2.1.2.1 u.2.2.2.2.2.1.2.2.1 u.2.2.2.2.2.1.2.2.2 o cI cF cO N u.1 u.2.1 u.2.2.1 u.2.2.2.1 u.2.2.2.2.1 u.2.2.2.2.2.2 O hO hci (sc xs (i + 1)) (sc xs (i + 2)) (sc_r _ _) (sc_r _ _)) (vx_cwSW 4 hw (gSW mA_288 mA_289 mA_0 mW_factor) rfl rfl rfl (by decide +kernel) ⟨Nat.le_of_ble_eq_true rfl, Nat.le_of_ble_eq_true rfl⟩) ⟨fun a U g mk q => by obtain ⟨q0, q1, qP, qK, qD, qN, qC, qZ⟩ := q; exact ⟨q0, q1, qP, va_K.moved (u := U) (U := U.calling g mk a) (Vm.Alike.refl U.vm) qK, qD, nb.same (u := U) rfl qN, nc.moved (u := U) (U := U.calling g mk a) (Vm.Alike.refl U.vm) qC, zt.go (u := U) qZ (Vm.Alike.refl U.vm) (fun _ q => q) (fun _ _ _ => rfl)⟩, fun U hU hW => ⟨rfl, by rw [hU], by rw [hU]; exact hPc, va_K.moved hW.alike hKc, hDc.weaken (fun _ _ _ _ => trivial), nb.warm hW hnb, nc.moved hW.alike hnc, zt2 hzt hS hU hW.alike hFc⟩⟩ rfl rfl hl.1 rfl (lv_room (Nat.le_of_ble_eq_true rfl)) dL_law_352 ⟨by show _ ≤ 672099; omega, by show _ ≤ 7079807; omega⟩) hS (fun q _ h => hFc q h) hFc (fun r1 u2 t9 H1 locs ht hvm hq3 hB hz1 hk1 hS => ?_)
  obtain ⟨hP1, hK1, hD1⟩ := hB
  rw [ht] at hP1
  obtain ⟨e1, hO1, hH⟩ := hq3
  subst e1
  obtain ⟨hP, hD⟩ := va_join (wr := [(x, .inr (2, [.int (iI v.1), .ref n2, .ref r2, .ref d2, .int (iI v.2.1), .int (iI v.2.2.2.2.2.1), .ref ya, .ref yb, .ref yc, .ref yo, .long (lI (v.2.2.1 0)), .long (lI (v.2.2.1 1)), .long (lI (v.2.2.1 2)), .long (lI (v.2.2.1 3)), .long (lI (v.2.2.1 4)), .long (lI (v.2.2.1 5)), .long (lI (v.2.2.1 6))])), (n2, .inl (cI2, 5, .inl (aI N))), (r2, .inl (cJ, 5, .inr (.inl (aL v.2.2.2.1)))), (d2, .inl (cJ, 5, .inr (.inl (aL v.2.2.2.2.1)))), (ya, .inl (cI2, 5, .inl (aI v.2.2.2.2.2.2.1))), (yb, .inl (cI2, 5, .inl (aI v.2.2.2.2.2.2.2.1))), (yc, .inl (cI2, 5, .inl (aI v.2.2.2.2.2.2.2.2.1))), (yo, .inl (cI2, 5, .inl (aI v.2.2.2.2.2.2.2.2.2)))]) (w1 := (cwou h n r d f cI cF N u2.2.2 o cO u2.2.1)) hP hD [0, 1, 2, 3, 4, 5, 6, 7, 8, 9] [10, 11, 12, 13, 14, 15, 16, 17] rfl rfl (by decide) (by decide) hk1 hFc hP1 hD1
  generalize H1 = H at hP hS ⊢
  have hP := hP.sub (ws' := (lwd h n r d f cI cF N u2.2.2 o cO u2.2.1 x n2 r2 d2 ya yb yc yo cI2 cJ N v)) [8, 9, 10, 11, 12, 13, 14, 15, 16, 17, 0, 1, 2, 3, 4, 5, 6, 7] rfl
  have hD := hD.sub (ws' := (lwd h n r d f cI cF N u2.2.2 o cO u2.2.1 x n2 r2 d2 ya yb yc yo cI2 cJ N v)) [8, 9, 10, 11, 12, 13, 14, 15, 16, 17, 0, 1, 2, 3, 4, 5, 6, 7] (by decide) rfl
  have hkc := R_factor hH
  refine lv_istore (lv' := [(5, .int (iI u2.1)), (0, .ref b), (1, .ref h), (2, .ref x), (3, .ref o), (4, .int (iI i))]) hx hb dL_law_355 hl (by decide) rfl (fun ls hl => ?_)
  refine lv_aload_n hx hb dL_law_357 rfl (lv_at hl 3 rfl) ?_
  refine lv_aload_n hx hb dL_law_358 rfl (lv_at hl 1 rfl) ?_
  refine lv_iload hx hb dL_law_359 (lv_at hl 5 rfl) ?_
  refine ix_iconst (n := 1) hx hb dL_law_361 ?_
  refine ix_iadd hx hb dL_law_362 ?_
  refine ix_sld (k := i + 1) hx hb hX hbl hbA hS (by omega) (by omega) hL dL_law_363 ?_
  refine lv_aload_n hx hb dL_law_364 rfl (lv_at hl 1 rfl) ?_
  refine lv_iload hx hb dL_law_365 (lv_at hl 5 rfl) ?_
  refine ix_iconst (n := 2) hx hb dL_law_367 ?_
  refine ix_iadd hx hb dL_law_368 ?_
  refine ix_sld (k := i + 2) hx hb hX hbl hbA hS (by omega) (by omega) hL dL_law_369 ?_
  have hPc := hP.sub (ws' := (mwu x n2 r2 d2 ya yb yc yo cI2 cJ N v)) [10, 11, 12, 13, 14, 15, 16, 17] rfl
  have hDc := hD.sub (ws' := (mwu x n2 r2 d2 ya yb yc yo cI2 cJ N v)) [10, 11, 12, 13, 14, 15, 16, 17] (by decide) rfl
  have hKc := hK.sub (tys' := [(cI2, .int), (cJ, .long)]) [3, 4] rfl
  have hFc := va_free (wc := (mwu x n2 r2 d2 ya yb yc yo cI2 cJ N v)) hD hS hA [10, 11, 12, 13, 14, 15, 16, 17] rfl
  refine va_calli (va_runV (As := [.int (iI (sc xs (i + 1))), .int (iI (sc xs (i + 2)))]) (rest := []) ⟨hx, hb, hml, hown, hw⟩ (kX2_factor l dC dI _ x n2 r2 d2 ya yb yc yo cI2 cJ v.1 v.2.1 v.2.2.2.2.2.1 v.2.2.1 N v.2.2.2.1 v.2.2.2.2.1 v.2.2.2.2.2.2.1 v.2.2.2.2.2.2.2.1 v.2.2.2.2.2.2.2.2.1 v.2.2.2.2.2.2.2.2.2 hN h5 hmi.1 hmi.2 (sc xs (i + 1)) (sc xs (i + 2)) (sc_r _ _) (sc_r _ _)) (cwV 2 hw (gV mA_504 mA_505 mA_506 mA_3 mA_507) rfl rfl rfl (by decide +kernel) ⟨Nat.le_of_ble_eq_true rfl, Nat.le_of_ble_eq_true rfl⟩) ⟨fun a U g mk q => by obtain ⟨q0, q1, qP, qK, qD, qN⟩ := q; exact ⟨q0, q1, qP, va_K.moved (u := U) (U := U.calling g mk a) (Vm.Alike.refl U.vm) qK, qD, nb.same (u := U) rfl qN⟩, va_recv hKc hPc (ci := 2) (q0 := 0) rfl rfl, fun U hU hW => ⟨rfl, by rw [hU], by rw [hU]; exact hPc, va_K.moved hW.alike hKc, hDc.weaken (fun _ _ _ _ => trivial), nb.warm hW hnb⟩⟩ rfl rfl hl.1 rfl (lv_room (Nat.le_of_ble_eq_true rfl)) dL_law_370 ⟨by show _ ≤ 672099; omega, by show _ ≤ 7079807; omega⟩) hS (fun q _ h => hFc q h) hFc (fun r6 v4 t9 H1 locs ht hvm hv5 hB hz1 hk1 hS => ?_)
  obtain ⟨hP1, hK1, hD1⟩ := hB
  rw [ht] at hP1
  obtain ⟨hP, hD⟩ := va_join (wr := [(h, .inr (1, [.ref n, .ref r, .ref d, .ref f, .int (iI u2.2.2.2.2.2.1), .int (iI u2.2.2.2.2.1), .int (iI u2.2.2.2.2.2.2.1)])), (n, .inl (cI, 5, .inl (aI N))), (r, .inl (cI, 5, .inl (aI u2.2.2.1))), (d, .inl (cI, 5, .inl (aI u2.2.2.2.1))), (f, .inl (cF, 4, .inr (.inr (.inr (.inr (q4 u2.2.2.2.2.2.2.2.1.1 u2.2.2.2.2.2.2.2.1.2.1 u2.2.2.2.2.2.2.2.1.2.2.1 u2.2.2.2.2.2.2.2.1.2.2.2)))))), (u2.2.2.2.2.2.2.2.1.1, .inr (0, fl (u2.2.2.2.2.2.2.2.2 0))), (u2.2.2.2.2.2.2.2.1.2.1, .inr (0, fl (u2.2.2.2.2.2.2.2.2 1))), (u2.2.2.2.2.2.2.2.1.2.2.1, .inr (0, fl (u2.2.2.2.2.2.2.2.2 2))), (u2.2.2.2.2.2.2.2.1.2.2.2, .inr (0, fl (u2.2.2.2.2.2.2.2.2 3))), (o, .inl (cO, 1, .inr (.inl (aL u2.2.1))))]) (w1 := (mwu x n2 r2 d2 ya yb yc yo cI2 cJ N v4)) hP hD [10, 11, 12, 13, 14, 15, 16, 17] [0, 1, 2, 3, 4, 5, 6, 7, 8, 9] rfl rfl (by decide) (by decide) hk1 hFc hP1 hD1
  generalize H1 = H at hP hS ⊢
  have hP := hP.sub (ws' := (lwd h n r d f cI cF N u2.2.2 o cO u2.2.1 x n2 r2 d2 ya yb yc yo cI2 cJ N v4)) [0, 1, 2, 3, 4, 5, 6, 7, 8, 9, 10, 11, 12, 13, 14, 15, 16, 17] rfl
  have hD := hD.sub (ws' := (lwd h n r d f cI cF N u2.2.2 o cO u2.2.1 x n2 r2 d2 ya yb yc yo cI2 cJ N v4)) [0, 1, 2, 3, 4, 5, 6, 7, 8, 9, 10, 11, 12, 13, 14, 15, 16, 17] (by decide) rfl
  refine lv_istore (lv' := [(6, .int r6), (5, .int (iI u2.1)), (0, .ref b), (1, .ref h), (2, .ref x), (3, .ref o), (4, .int (iI i))]) hx hb dL_law_373 hl (by decide) rfl (fun ls hl => ?_)
  refine lv_aload_n hx hb dL_law_375 rfl (lv_at hl 4 rfl) ?_
  have hPc := hP.sub (ws' := [(x, .inr (2, [.int (iI v4.1), .ref n2, .ref r2, .ref d2, .int (iI v4.2.1), .int (iI v4.2.2.2.2.2.1), .ref ya, .ref yb, .ref yc, .ref yo, .long (lI (v4.2.2.1 0)), .long (lI (v4.2.2.1 1)), .long (lI (v4.2.2.1 2)), .long (lI (v4.2.2.1 3)), .long (lI (v4.2.2.1 4)), .long (lI (v4.2.2.1 5)), .long (lI (v4.2.2.1 6))]))]) [10] rfl
  have hKc := hK.sub (tys' := []) [] rfl
  refine vp_callSi (W.runV (As := []) (rest := []) ⟨hx, hb, hml, hown, hw⟩ (kX2_thrown l dC dI x n2 r2 d2 ya yb yc yo cI2 cJ v4.1 v4.2.1 v4.2.2.2.2.2.1 v4.2.2.1) (cwV 0 hw (gV mA_434 mA_435 mA_436 mA_3 mA_437) rfl rfl rfl (by decide +kernel) ⟨Nat.le_of_ble_eq_true rfl, Nat.le_of_ble_eq_true rfl⟩) ⟨fun a U g mk q => by obtain ⟨q0, qP, qK⟩ := q; exact ⟨q0, qP, va_K.moved (u := U) (U := U.calling g mk a) (Vm.Alike.refl U.vm) qK⟩, va_recv hKc hPc (ci := 2) (q0 := 0) rfl rfl, fun U hU hW => ⟨rfl, by rw [hU]; exact hPc, va_K.moved hW.alike hKc⟩⟩ rfl rfl hl.1 rfl (lv_room (Nat.le_of_ble_eq_true rfl)) dL_law_376 ⟨by show _ ≤ 672099; omega, by show _ ≤ 7079807; omega⟩) (fun r7 h8 => ?_)
  subst h8
  refine W.eq (g2 := F0 m 379 ls [.int (iI v4.1)]) rfl ?_
  refine lv_iload hx hb dL_law_379 (lv_at hl 1 rfl) ?_
  obtain ⟨g1, g3⟩ := hv5
  obtain ⟨hL1, hL2⟩ := L_factor (ι := iI)  hH g3
  refine ix_icmp_eq (tgt := 386) hx hb dL_law_381 (by decide) (show r32 v4.1 by rw [show v4.1 = u2.1 from hL1]; exact ⟨by omega, by omega⟩) ⟨by omega, by omega⟩ (fun _ => ?_) (fun c9 => absurd hL1 c9)
  refine lv_iload hx hb dL_law_386 (lv_at hl 1 rfl) ?_
  refine ix_if_ne (tgt := 403) hx hb dL_law_388 (by decide) ⟨by omega, by omega⟩ (fun c9 => ?_) (fun c9 => ?_)
  · refine lv_goto (tgt := 849) hx hb dL_law_403 (by decide) ?_
    refine W.widen (k := cells + 5) (n := slots + 30) (by omega) (by omega) ?_
    exact kk N u2.2.1 u2.2.2 v4 _ _ hH.1 g1 hO1 hP hD hS ls (lv_sub hl [2, 3, 4, 5, 6] rfl)
  · have h0 : u2.1 = 0 := by omega
    have hb9 := hL2 h0
    rw [hb9] at hl
    refine lv_aload_n hx hb dL_law_391 rfl (lv_at hl 5 rfl) ?_
    refine ix_iconst (n := 0) hx hb dL_law_392 ?_
    refine ix_lald (k := 0) hx hb hK hP 9 2 rfl rfl (by decide) (by decide) (by decide) dL_law_393 ?_
    refine lv_iload hx hb dL_law_394 (lv_at hl 0 rfl) ?_
    refine ix_i2l hx hb dL_law_396 ⟨by omega, by omega⟩ ?_
    refine ix_lc_eq (tgt := 403) hx hb dL_law_397 dL_law_398 (by decide) ⟨by have := hO1.1; omega, by have := hO1.2; omega⟩ ⟨by have := hO1.1; omega, by have := hO1.2; omega⟩ (fun _ => ?_) (fun c9 => absurd rfl c9)
    refine lv_goto (tgt := 849) hx hb dL_law_403 (by decide) ?_
    refine W.widen (k := cells + 5) (n := slots + 30) (by omega) (by omega) ?_
    exact kk N u2.2.1 u2.2.2 v4 _ _ hH.1 g1 hO1 hP hD hS ls (lv_sub hl [2, 3, 4, 5, 6] rfl)
set_option maxHeartbeats 4000000 in
set_option maxRecDepth 100000 in
theorem lc_content {p : Program} {l : Launch} {e : Env} {s : State} {m : MethodId} {below : List Frame} {meth : Method} {c : Code} {dC : Nat → ClassId} {dI : Nat → Nat → Nat} {b L : Nat} {xs : Nat → Int32} {A : Nat → Prop} {h n r d f o x n2 r2 d2 ya yb yc yo : Nat} {cI cF cO cI2 cJ : ClassId} (hlt : l.stackTraces = false) (hL : L ≤ 2560) (hX : va_X b L xs s s.heap) (hbl : b < s.heap.size) (hbA : ¬ A b) (hA : ∀ q : Nat, s.heap.size ≤ q → A q) (hnb : nb s) (hnc : nc s) (hzt : zt A s) (C0 : cx p s m meth c #[Value.ref b] RL cL_law 7 ret) (hK : va_K (dC, dI) vwCl [(cI, .int), (cF, .object RX0), (cO, .long), (cI2, .int), (cJ, .long)] s) {i : Int} (hi : 0 ≤ i ∧ i + 5 ≤ L) {N O : Int → Int} {u : CS} {v : MT} (hci : CIu N u) (hmi : MI v) (hO : r32 (O 0)) {cells slots : Nat} (hcs : cells + 5 ≤ 672099 ∧ slots + 30 ≤ 7079807)
    (kk : ∀ (N O : Int → Int) (u : CS) (v : MT) (H : Heap) (locs : List Loc), CIu N u → MI v → r32 (O 0) → va_P (dC, dI) vwCl (lwd h n r d f cI cF N u o cO O x n2 r2 d2 ya yb yc yo cI2 cJ N v) H → va_D A (lwd h n r d f cI cF N u o cO O x n2 r2 d2 ya yb yc yo cI2 cJ N v) → va_S A s.heap H locs → ∀ (ls : Array Slot), lv_has ls 7 [(0, .ref b), (1, .ref h), (2, .ref x), (3, .ref o), (4, .int (iI i))] → W p l e room_1 s m #[Value.ref b] below meth c H locs (cells + 5) (slots + 30) (lw_Z below #[Value.ref b] s) (F0 m 849 ls []))
    {H : Heap} {locs : List Loc} (hP : va_P (dC, dI) vwCl (lwd h n r d f cI cF N u o cO O x n2 r2 d2 ya yb yc yo cI2 cJ N v) H) (hD : va_D A (lwd h n r d f cI cF N u o cO O x n2 r2 d2 ya yb yc yo cI2 cJ N v)) (hS : va_S A s.heap H locs) {ls : Array Slot} (hl : lv_has ls 7 [(0, .ref b), (1, .ref h), (2, .ref x), (3, .ref o), (4, .int (iI i))]) : W p l e room_1 s m #[Value.ref b] below meth c H locs cells slots (lw_Z below #[Value.ref b] s) (F0 m 406 ls []) := by
  obtain ⟨hx, hb, hr, hml, hown, hw, hlocks⟩ := C0
  have h5 := hci.1
  have hN := hci.2.1
  refine lv_aload_n hx hb dL_law_406 rfl (lv_at hl 1 rfl) ?_
  refine lv_aload_n hx hb dL_law_407 rfl (lv_at hl 3 rfl) ?_
  have hPc := hP.sub (ws' := (cwou h n r d f cI cF N u o cO O)) [0, 1, 2, 3, 4, 5, 6, 7, 8, 9] rfl
  have hDc := hD.sub (ws' := (cwou h n r d f cI cF N u o cO O)) [0, 1, 2, 3, 4, 5, 6, 7, 8, 9] (by decide) rfl
  have hKc := hK.sub (tys' := [(cI, .int), (cF, .object RX0), (cO, .long)]) [0, 1, 2] rfl
  have hFc := va_free (wc := (cwou h n r d f cI cF N u o cO O)) hD hS hA [0, 1, 2, 3, 4, 5, 6, 7, 8, 9] rfl
  refine va_calli (vx_runSW (As := [.ref h, .ref o]) (rest := []) ⟨hx, hb, hml, hown, hw⟩ (kL_content l hlt dC dI _ h n r d f u.2.2.2.2.2.1.1 u.2.2.2.2.2.1.2.1 u.2.2.2.2.2.1.2.2.1 u.2.2.2.2.2.1.2.2.2 o cI cF cO N u.1 u.2.1 u.2.2.1 u.2.2.2.1 u.2.2.2.2.1 u.2.2.2.2.2.2 O hO hci  ) (vx_cwSW 2 hw (gSW mA_302 mA_303 mA_0 mW_content) rfl rfl rfl (by decide +kernel) ⟨Nat.le_of_ble_eq_true rfl, Nat.le_of_ble_eq_true rfl⟩) ⟨fun a U g mk q => by obtain ⟨q0, q1, qP, qK, qD, qN, qC, qZ⟩ := q; exact ⟨q0, q1, qP, va_K.moved (u := U) (U := U.calling g mk a) (Vm.Alike.refl U.vm) qK, qD, nb.same (u := U) rfl qN, nc.moved (u := U) (U := U.calling g mk a) (Vm.Alike.refl U.vm) qC, zt.go (u := U) qZ (Vm.Alike.refl U.vm) (fun _ q => q) (fun _ _ _ => rfl)⟩, fun U hU hW => ⟨rfl, by rw [hU], by rw [hU]; exact hPc, va_K.moved hW.alike hKc, hDc.weaken (fun _ _ _ _ => trivial), nb.warm hW hnb, nc.moved hW.alike hnc, zt2 hzt hS hU hW.alike hFc⟩⟩ rfl rfl hl.1 rfl (lv_room (Nat.le_of_ble_eq_true rfl)) dL_law_408 ⟨by show _ ≤ 672099; omega, by show _ ≤ 7079807; omega⟩) hS (fun q _ h => hFc q h) hFc (fun r1 u2 t9 H1 locs ht hvm hq3 hB hz1 hk1 hS => ?_)
  obtain ⟨hP1, hK1, hD1⟩ := hB
  rw [ht] at hP1
  obtain ⟨e1, hO1, hH⟩ := hq3
  subst e1
  obtain ⟨hP, hD⟩ := va_join (wr := [(x, .inr (2, [.int (iI v.1), .ref n2, .ref r2, .ref d2, .int (iI v.2.1), .int (iI v.2.2.2.2.2.1), .ref ya, .ref yb, .ref yc, .ref yo, .long (lI (v.2.2.1 0)), .long (lI (v.2.2.1 1)), .long (lI (v.2.2.1 2)), .long (lI (v.2.2.1 3)), .long (lI (v.2.2.1 4)), .long (lI (v.2.2.1 5)), .long (lI (v.2.2.1 6))])), (n2, .inl (cI2, 5, .inl (aI N))), (r2, .inl (cJ, 5, .inr (.inl (aL v.2.2.2.1)))), (d2, .inl (cJ, 5, .inr (.inl (aL v.2.2.2.2.1)))), (ya, .inl (cI2, 5, .inl (aI v.2.2.2.2.2.2.1))), (yb, .inl (cI2, 5, .inl (aI v.2.2.2.2.2.2.2.1))), (yc, .inl (cI2, 5, .inl (aI v.2.2.2.2.2.2.2.2.1))), (yo, .inl (cI2, 5, .inl (aI v.2.2.2.2.2.2.2.2.2)))]) (w1 := (cwou h n r d f cI cF N u2.2.2 o cO u2.2.1)) hP hD [0, 1, 2, 3, 4, 5, 6, 7, 8, 9] [10, 11, 12, 13, 14, 15, 16, 17] rfl rfl (by decide) (by decide) hk1 hFc hP1 hD1
  generalize H1 = H at hP hS ⊢
  have hP := hP.sub (ws' := (lwd h n r d f cI cF N u2.2.2 o cO u2.2.1 x n2 r2 d2 ya yb yc yo cI2 cJ N v)) [8, 9, 10, 11, 12, 13, 14, 15, 16, 17, 0, 1, 2, 3, 4, 5, 6, 7] rfl
  have hD := hD.sub (ws' := (lwd h n r d f cI cF N u2.2.2 o cO u2.2.1 x n2 r2 d2 ya yb yc yo cI2 cJ N v)) [8, 9, 10, 11, 12, 13, 14, 15, 16, 17, 0, 1, 2, 3, 4, 5, 6, 7] (by decide) rfl
  have hkc := R_content hH
  refine lv_istore (lv' := [(5, .int (iI u2.1)), (0, .ref b), (1, .ref h), (2, .ref x), (3, .ref o), (4, .int (iI i))]) hx hb dL_law_411 hl (by decide) rfl (fun ls hl => ?_)
  refine lv_aload_n hx hb dL_law_413 rfl (lv_at hl 3 rfl) ?_
  have hPc := hP.sub (ws' := (mwu x n2 r2 d2 ya yb yc yo cI2 cJ N v)) [10, 11, 12, 13, 14, 15, 16, 17] rfl
  have hDc := hD.sub (ws' := (mwu x n2 r2 d2 ya yb yc yo cI2 cJ N v)) [10, 11, 12, 13, 14, 15, 16, 17] (by decide) rfl
  have hKc := hK.sub (tys' := [(cI2, .int), (cJ, .long)]) [3, 4] rfl
  have hFc := va_free (wc := (mwu x n2 r2 d2 ya yb yc yo cI2 cJ N v)) hD hS hA [10, 11, 12, 13, 14, 15, 16, 17] rfl
  refine va_calli (va_runV (As := []) (rest := []) ⟨hx, hb, hml, hown, hw⟩ (kX2_content l dC dI _ x n2 r2 d2 ya yb yc yo cI2 cJ v.1 v.2.1 v.2.2.2.2.2.1 v.2.2.1 N v.2.2.2.1 v.2.2.2.2.1 v.2.2.2.2.2.2.1 v.2.2.2.2.2.2.2.1 v.2.2.2.2.2.2.2.2.1 v.2.2.2.2.2.2.2.2.2 hN h5 hmi.1 hmi.2  ) (cwV 0 hw (gV mA_521 mA_522 mA_523 mA_3 mA_524) rfl rfl rfl (by decide +kernel) ⟨Nat.le_of_ble_eq_true rfl, Nat.le_of_ble_eq_true rfl⟩) ⟨fun a U g mk q => by obtain ⟨q0, q1, qP, qK, qD, qN⟩ := q; exact ⟨q0, q1, qP, va_K.moved (u := U) (U := U.calling g mk a) (Vm.Alike.refl U.vm) qK, qD, nb.same (u := U) rfl qN⟩, va_recv hKc hPc (ci := 2) (q0 := 0) rfl rfl, fun U hU hW => ⟨rfl, by rw [hU], by rw [hU]; exact hPc, va_K.moved hW.alike hKc, hDc.weaken (fun _ _ _ _ => trivial), nb.warm hW hnb⟩⟩ rfl rfl hl.1 rfl (lv_room (Nat.le_of_ble_eq_true rfl)) dL_law_414 ⟨by show _ ≤ 672099; omega, by show _ ≤ 7079807; omega⟩) hS (fun q _ h => hFc q h) hFc (fun r6 v4 t9 H1 locs ht hvm hv5 hB hz1 hk1 hS => ?_)
  obtain ⟨hP1, hK1, hD1⟩ := hB
  rw [ht] at hP1
  obtain ⟨hP, hD⟩ := va_join (wr := [(h, .inr (1, [.ref n, .ref r, .ref d, .ref f, .int (iI u2.2.2.2.2.2.1), .int (iI u2.2.2.2.2.1), .int (iI u2.2.2.2.2.2.2.1)])), (n, .inl (cI, 5, .inl (aI N))), (r, .inl (cI, 5, .inl (aI u2.2.2.1))), (d, .inl (cI, 5, .inl (aI u2.2.2.2.1))), (f, .inl (cF, 4, .inr (.inr (.inr (.inr (q4 u2.2.2.2.2.2.2.2.1.1 u2.2.2.2.2.2.2.2.1.2.1 u2.2.2.2.2.2.2.2.1.2.2.1 u2.2.2.2.2.2.2.2.1.2.2.2)))))), (u2.2.2.2.2.2.2.2.1.1, .inr (0, fl (u2.2.2.2.2.2.2.2.2 0))), (u2.2.2.2.2.2.2.2.1.2.1, .inr (0, fl (u2.2.2.2.2.2.2.2.2 1))), (u2.2.2.2.2.2.2.2.1.2.2.1, .inr (0, fl (u2.2.2.2.2.2.2.2.2 2))), (u2.2.2.2.2.2.2.2.1.2.2.2, .inr (0, fl (u2.2.2.2.2.2.2.2.2 3))), (o, .inl (cO, 1, .inr (.inl (aL u2.2.1))))]) (w1 := (mwu x n2 r2 d2 ya yb yc yo cI2 cJ N v4)) hP hD [10, 11, 12, 13, 14, 15, 16, 17] [0, 1, 2, 3, 4, 5, 6, 7, 8, 9] rfl rfl (by decide) (by decide) hk1 hFc hP1 hD1
  generalize H1 = H at hP hS ⊢
  have hP := hP.sub (ws' := (lwd h n r d f cI cF N u2.2.2 o cO u2.2.1 x n2 r2 d2 ya yb yc yo cI2 cJ N v4)) [0, 1, 2, 3, 4, 5, 6, 7, 8, 9, 10, 11, 12, 13, 14, 15, 16, 17] rfl
  have hD := hD.sub (ws' := (lwd h n r d f cI cF N u2.2.2 o cO u2.2.1 x n2 r2 d2 ya yb yc yo cI2 cJ N v4)) [0, 1, 2, 3, 4, 5, 6, 7, 8, 9, 10, 11, 12, 13, 14, 15, 16, 17] (by decide) rfl
  refine lv_istore (lv' := [(6, .int r6), (5, .int (iI u2.1)), (0, .ref b), (1, .ref h), (2, .ref x), (3, .ref o), (4, .int (iI i))]) hx hb dL_law_417 hl (by decide) rfl (fun ls hl => ?_)
  refine lv_aload_n hx hb dL_law_419 rfl (lv_at hl 4 rfl) ?_
  have hPc := hP.sub (ws' := [(x, .inr (2, [.int (iI v4.1), .ref n2, .ref r2, .ref d2, .int (iI v4.2.1), .int (iI v4.2.2.2.2.2.1), .ref ya, .ref yb, .ref yc, .ref yo, .long (lI (v4.2.2.1 0)), .long (lI (v4.2.2.1 1)), .long (lI (v4.2.2.1 2)), .long (lI (v4.2.2.1 3)), .long (lI (v4.2.2.1 4)), .long (lI (v4.2.2.1 5)), .long (lI (v4.2.2.1 6))]))]) [10] rfl
  have hKc := hK.sub (tys' := []) [] rfl
  refine vp_callSi (W.runV (As := []) (rest := []) ⟨hx, hb, hml, hown, hw⟩ (kX2_thrown l dC dI x n2 r2 d2 ya yb yc yo cI2 cJ v4.1 v4.2.1 v4.2.2.2.2.2.1 v4.2.2.1) (cwV 0 hw (gV mA_434 mA_435 mA_436 mA_3 mA_437) rfl rfl rfl (by decide +kernel) ⟨Nat.le_of_ble_eq_true rfl, Nat.le_of_ble_eq_true rfl⟩) ⟨fun a U g mk q => by obtain ⟨q0, qP, qK⟩ := q; exact ⟨q0, qP, va_K.moved (u := U) (U := U.calling g mk a) (Vm.Alike.refl U.vm) qK⟩, va_recv hKc hPc (ci := 2) (q0 := 0) rfl rfl, fun U hU hW => ⟨rfl, by rw [hU]; exact hPc, va_K.moved hW.alike hKc⟩⟩ rfl rfl hl.1 rfl (lv_room (Nat.le_of_ble_eq_true rfl)) dL_law_420 ⟨by show _ ≤ 672099; omega, by show _ ≤ 7079807; omega⟩) (fun r7 h8 => ?_)
  subst h8
  refine W.eq (g2 := F0 m 423 ls [.int (iI v4.1)]) rfl ?_
  refine lv_iload hx hb dL_law_423 (lv_at hl 1 rfl) ?_
  obtain ⟨g1, g3⟩ := hv5
  obtain ⟨hL1, hL2⟩ := L_content (ι := iI)  hH g3
  refine ix_icmp_eq (tgt := 430) hx hb dL_law_425 (by decide) (show r32 v4.1 by rw [show v4.1 = u2.1 from hL1]; exact ⟨by omega, by omega⟩) ⟨by omega, by omega⟩ (fun _ => ?_) (fun c9 => absurd hL1 c9)
  refine lv_iload hx hb dL_law_430 (lv_at hl 1 rfl) ?_
  refine ix_if_ne (tgt := 447) hx hb dL_law_432 (by decide) ⟨by omega, by omega⟩ (fun c9 => ?_) (fun c9 => ?_)
  · refine lv_goto (tgt := 849) hx hb dL_law_447 (by decide) ?_
    refine W.widen (k := cells + 5) (n := slots + 30) (by omega) (by omega) ?_
    exact kk N u2.2.1 u2.2.2 v4 _ _ hH.1 g1 hO1 hP hD hS ls (lv_sub hl [2, 3, 4, 5, 6] rfl)
  · have h0 : u2.1 = 0 := by omega
    have hb9 := hL2 h0
    rw [hb9] at hl
    refine lv_aload_n hx hb dL_law_435 rfl (lv_at hl 5 rfl) ?_
    refine ix_iconst (n := 0) hx hb dL_law_436 ?_
    refine ix_lald (k := 0) hx hb hK hP 9 2 rfl rfl (by decide) (by decide) (by decide) dL_law_437 ?_
    refine lv_iload hx hb dL_law_438 (lv_at hl 0 rfl) ?_
    refine ix_i2l hx hb dL_law_440 ⟨by omega, by omega⟩ ?_
    refine ix_lc_eq (tgt := 447) hx hb dL_law_441 dL_law_442 (by decide) ⟨by have := hO1.1; omega, by have := hO1.2; omega⟩ ⟨by have := hO1.1; omega, by have := hO1.2; omega⟩ (fun _ => ?_) (fun c9 => absurd rfl c9)
    refine lv_goto (tgt := 849) hx hb dL_law_447 (by decide) ?_
    refine W.widen (k := cells + 5) (n := slots + 30) (by omega) (by omega) ?_
    exact kk N u2.2.1 u2.2.2 v4 _ _ hH.1 g1 hO1 hP hD hS ls (lv_sub hl [2, 3, 4, 5, 6] rfl)
set_option maxHeartbeats 4000000 in
set_option maxRecDepth 100000 in
theorem lc_left {p : Program} {l : Launch} {e : Env} {s : State} {m : MethodId} {below : List Frame} {meth : Method} {c : Code} {dC : Nat → ClassId} {dI : Nat → Nat → Nat} {b L : Nat} {xs : Nat → Int32} {A : Nat → Prop} {h n r d f o x n2 r2 d2 ya yb yc yo : Nat} {cI cF cO cI2 cJ : ClassId} (hlt : l.stackTraces = false) (hL : L ≤ 2560) (hX : va_X b L xs s s.heap) (hbl : b < s.heap.size) (hbA : ¬ A b) (hA : ∀ q : Nat, s.heap.size ≤ q → A q) (hnb : nb s) (hnc : nc s) (hzt : zt A s) (C0 : cx p s m meth c #[Value.ref b] RL cL_law 7 ret) (hK : va_K (dC, dI) vwCl [(cI, .int), (cF, .object RX0), (cO, .long), (cI2, .int), (cJ, .long)] s) {i : Int} (hi : 0 ≤ i ∧ i + 5 ≤ L) {N O : Int → Int} {u : CS} {v : MT} (hci : CIu N u) (hmi : MI v) (hO : r32 (O 0)) {cells slots : Nat} (hcs : cells + 5 ≤ 672099 ∧ slots + 30 ≤ 7079807)
    (kk : ∀ (N O : Int → Int) (u : CS) (v : MT) (H : Heap) (locs : List Loc), CIu N u → MI v → r32 (O 0) → va_P (dC, dI) vwCl (lwd h n r d f cI cF N u o cO O x n2 r2 d2 ya yb yc yo cI2 cJ N v) H → va_D A (lwd h n r d f cI cF N u o cO O x n2 r2 d2 ya yb yc yo cI2 cJ N v) → va_S A s.heap H locs → ∀ (ls : Array Slot), lv_has ls 7 [(0, .ref b), (1, .ref h), (2, .ref x), (3, .ref o), (4, .int (iI i))] → W p l e room_1 s m #[Value.ref b] below meth c H locs (cells + 5) (slots + 30) (lw_Z below #[Value.ref b] s) (F0 m 849 ls []))
    {H : Heap} {locs : List Loc} (hP : va_P (dC, dI) vwCl (lwd h n r d f cI cF N u o cO O x n2 r2 d2 ya yb yc yo cI2 cJ N v) H) (hD : va_D A (lwd h n r d f cI cF N u o cO O x n2 r2 d2 ya yb yc yo cI2 cJ N v)) (hS : va_S A s.heap H locs) {ls : Array Slot} (hl : lv_has ls 7 [(0, .ref b), (1, .ref h), (2, .ref x), (3, .ref o), (4, .int (iI i))]) : W p l e room_1 s m #[Value.ref b] below meth c H locs cells slots (lw_Z below #[Value.ref b] s) (F0 m 450 ls []) := by
  obtain ⟨hx, hb, hr, hml, hown, hw, hlocks⟩ := C0
  have h5 := hci.1
  have hN := hci.2.1
  refine lv_aload_n hx hb dL_law_450 rfl (lv_at hl 1 rfl) ?_
  refine lv_aload_n hx hb dL_law_451 rfl (lv_at hl 0 rfl) ?_
  refine lv_iload hx hb dL_law_452 (lv_at hl 4 rfl) ?_
  refine ix_iconst (n := 1) hx hb dL_law_454 ?_
  refine ix_iadd hx hb dL_law_455 ?_
  refine ix_sld (k := i + 1) hx hb hX hbl hbA hS (by omega) (by omega) hL dL_law_456 ?_
  refine lv_aload_n hx hb dL_law_457 rfl (lv_at hl 3 rfl) ?_
  have hPc := hP.sub (ws' := (cwou h n r d f cI cF N u o cO O)) [0, 1, 2, 3, 4, 5, 6, 7, 8, 9] rfl
  have hDc := hD.sub (ws' := (cwou h n r d f cI cF N u o cO O)) [0, 1, 2, 3, 4, 5, 6, 7, 8, 9] (by decide) rfl
  have hKc := hK.sub (tys' := [(cI, .int), (cF, .object RX0), (cO, .long)]) [0, 1, 2] rfl
  have hFc := va_free (wc := (cwou h n r d f cI cF N u o cO O)) hD hS hA [0, 1, 2, 3, 4, 5, 6, 7, 8, 9] rfl
  refine va_calli (vx_runSW (As := [.ref h, .int (iI (sc xs (i + 1))), .ref o]) (rest := []) ⟨hx, hb, hml, hown, hw⟩ (kL_left l hlt dC dI _ h n r d f u.2.2.2.2.2.1.1 u.2.2.2.2.2.1.2.1 u.2.2.2.2.2.1.2.2.1 u.2.2.2.2.2.1.2.2.2 o cI cF cO N u.1 u.2.1 u.2.2.1 u.2.2.2.1 u.2.2.2.2.1 u.2.2.2.2.2.2 O hO hci (sc xs (i + 1)) (sc_r _ _)) (vx_cwSW 3 hw (gSW mA_309 mA_310 mA_0 mW_left) rfl rfl rfl (by decide +kernel) ⟨Nat.le_of_ble_eq_true rfl, Nat.le_of_ble_eq_true rfl⟩) ⟨fun a U g mk q => by obtain ⟨q0, q1, qP, qK, qD, qN, qC, qZ⟩ := q; exact ⟨q0, q1, qP, va_K.moved (u := U) (U := U.calling g mk a) (Vm.Alike.refl U.vm) qK, qD, nb.same (u := U) rfl qN, nc.moved (u := U) (U := U.calling g mk a) (Vm.Alike.refl U.vm) qC, zt.go (u := U) qZ (Vm.Alike.refl U.vm) (fun _ q => q) (fun _ _ _ => rfl)⟩, fun U hU hW => ⟨rfl, by rw [hU], by rw [hU]; exact hPc, va_K.moved hW.alike hKc, hDc.weaken (fun _ _ _ _ => trivial), nb.warm hW hnb, nc.moved hW.alike hnc, zt2 hzt hS hU hW.alike hFc⟩⟩ rfl rfl hl.1 rfl (lv_room (Nat.le_of_ble_eq_true rfl)) dL_law_458 ⟨by show _ ≤ 672099; omega, by show _ ≤ 7079807; omega⟩) hS (fun q _ h => hFc q h) hFc (fun r1 u2 t9 H1 locs ht hvm hq3 hB hz1 hk1 hS => ?_)
  obtain ⟨hP1, hK1, hD1⟩ := hB
  rw [ht] at hP1
  obtain ⟨e1, hO1, hH⟩ := hq3
  subst e1
  obtain ⟨hP, hD⟩ := va_join (wr := [(x, .inr (2, [.int (iI v.1), .ref n2, .ref r2, .ref d2, .int (iI v.2.1), .int (iI v.2.2.2.2.2.1), .ref ya, .ref yb, .ref yc, .ref yo, .long (lI (v.2.2.1 0)), .long (lI (v.2.2.1 1)), .long (lI (v.2.2.1 2)), .long (lI (v.2.2.1 3)), .long (lI (v.2.2.1 4)), .long (lI (v.2.2.1 5)), .long (lI (v.2.2.1 6))])), (n2, .inl (cI2, 5, .inl (aI N))), (r2, .inl (cJ, 5, .inr (.inl (aL v.2.2.2.1)))), (d2, .inl (cJ, 5, .inr (.inl (aL v.2.2.2.2.1)))), (ya, .inl (cI2, 5, .inl (aI v.2.2.2.2.2.2.1))), (yb, .inl (cI2, 5, .inl (aI v.2.2.2.2.2.2.2.1))), (yc, .inl (cI2, 5, .inl (aI v.2.2.2.2.2.2.2.2.1))), (yo, .inl (cI2, 5, .inl (aI v.2.2.2.2.2.2.2.2.2)))]) (w1 := (cwou h n r d f cI cF N u2.2.2 o cO u2.2.1)) hP hD [0, 1, 2, 3, 4, 5, 6, 7, 8, 9] [10, 11, 12, 13, 14, 15, 16, 17] rfl rfl (by decide) (by decide) hk1 hFc hP1 hD1
  generalize H1 = H at hP hS ⊢
  have hP := hP.sub (ws' := (lwd h n r d f cI cF N u2.2.2 o cO u2.2.1 x n2 r2 d2 ya yb yc yo cI2 cJ N v)) [8, 9, 10, 11, 12, 13, 14, 15, 16, 17, 0, 1, 2, 3, 4, 5, 6, 7] rfl
  have hD := hD.sub (ws' := (lwd h n r d f cI cF N u2.2.2 o cO u2.2.1 x n2 r2 d2 ya yb yc yo cI2 cJ N v)) [8, 9, 10, 11, 12, 13, 14, 15, 16, 17, 0, 1, 2, 3, 4, 5, 6, 7] (by decide) rfl
  have hkc := R_left hH
  refine lv_istore (lv' := [(5, .int (iI u2.1)), (0, .ref b), (1, .ref h), (2, .ref x), (3, .ref o), (4, .int (iI i))]) hx hb dL_law_461 hl (by decide) rfl (fun ls hl => ?_)
  refine lv_aload_n hx hb dL_law_463 rfl (lv_at hl 3 rfl) ?_
  refine lv_aload_n hx hb dL_law_464 rfl (lv_at hl 1 rfl) ?_
  refine lv_iload hx hb dL_law_465 (lv_at hl 5 rfl) ?_
  refine ix_iconst (n := 1) hx hb dL_law_467 ?_
  refine ix_iadd hx hb dL_law_468 ?_
  refine ix_sld (k := i + 1) hx hb hX hbl hbA hS (by omega) (by omega) hL dL_law_469 ?_
  have hPc := hP.sub (ws' := (mwu x n2 r2 d2 ya yb yc yo cI2 cJ N v)) [10, 11, 12, 13, 14, 15, 16, 17] rfl
  have hDc := hD.sub (ws' := (mwu x n2 r2 d2 ya yb yc yo cI2 cJ N v)) [10, 11, 12, 13, 14, 15, 16, 17] (by decide) rfl
  have hKc := hK.sub (tys' := [(cI2, .int), (cJ, .long)]) [3, 4] rfl
  have hFc := va_free (wc := (mwu x n2 r2 d2 ya yb yc yo cI2 cJ N v)) hD hS hA [10, 11, 12, 13, 14, 15, 16, 17] rfl
  refine va_calli (va_runV (As := [.int (iI (sc xs (i + 1)))]) (rest := []) ⟨hx, hb, hml, hown, hw⟩ (kX2_left l dC dI _ x n2 r2 d2 ya yb yc yo cI2 cJ v.1 v.2.1 v.2.2.2.2.2.1 v.2.2.1 N v.2.2.2.1 v.2.2.2.2.1 v.2.2.2.2.2.2.1 v.2.2.2.2.2.2.2.1 v.2.2.2.2.2.2.2.2.1 v.2.2.2.2.2.2.2.2.2 hN h5 hmi.1 hmi.2 (sc xs (i + 1)) (sc_r _ _)) (cwV 1 hw (gV mA_525 mA_526 mA_527 mA_3 mA_528) rfl rfl rfl (by decide +kernel) ⟨Nat.le_of_ble_eq_true rfl, Nat.le_of_ble_eq_true rfl⟩) ⟨fun a U g mk q => by obtain ⟨q0, q1, qP, qK, qD, qN⟩ := q; exact ⟨q0, q1, qP, va_K.moved (u := U) (U := U.calling g mk a) (Vm.Alike.refl U.vm) qK, qD, nb.same (u := U) rfl qN⟩, va_recv hKc hPc (ci := 2) (q0 := 0) rfl rfl, fun U hU hW => ⟨rfl, by rw [hU], by rw [hU]; exact hPc, va_K.moved hW.alike hKc, hDc.weaken (fun _ _ _ _ => trivial), nb.warm hW hnb⟩⟩ rfl rfl hl.1 rfl (lv_room (Nat.le_of_ble_eq_true rfl)) dL_law_470 ⟨by show _ ≤ 672099; omega, by show _ ≤ 7079807; omega⟩) hS (fun q _ h => hFc q h) hFc (fun r6 v4 t9 H1 locs ht hvm hv5 hB hz1 hk1 hS => ?_)
  obtain ⟨hP1, hK1, hD1⟩ := hB
  rw [ht] at hP1
  obtain ⟨hP, hD⟩ := va_join (wr := [(h, .inr (1, [.ref n, .ref r, .ref d, .ref f, .int (iI u2.2.2.2.2.2.1), .int (iI u2.2.2.2.2.1), .int (iI u2.2.2.2.2.2.2.1)])), (n, .inl (cI, 5, .inl (aI N))), (r, .inl (cI, 5, .inl (aI u2.2.2.1))), (d, .inl (cI, 5, .inl (aI u2.2.2.2.1))), (f, .inl (cF, 4, .inr (.inr (.inr (.inr (q4 u2.2.2.2.2.2.2.2.1.1 u2.2.2.2.2.2.2.2.1.2.1 u2.2.2.2.2.2.2.2.1.2.2.1 u2.2.2.2.2.2.2.2.1.2.2.2)))))), (u2.2.2.2.2.2.2.2.1.1, .inr (0, fl (u2.2.2.2.2.2.2.2.2 0))), (u2.2.2.2.2.2.2.2.1.2.1, .inr (0, fl (u2.2.2.2.2.2.2.2.2 1))), (u2.2.2.2.2.2.2.2.1.2.2.1, .inr (0, fl (u2.2.2.2.2.2.2.2.2 2))), (u2.2.2.2.2.2.2.2.1.2.2.2, .inr (0, fl (u2.2.2.2.2.2.2.2.2 3))), (o, .inl (cO, 1, .inr (.inl (aL u2.2.1))))]) (w1 := (mwu x n2 r2 d2 ya yb yc yo cI2 cJ N v4)) hP hD [10, 11, 12, 13, 14, 15, 16, 17] [0, 1, 2, 3, 4, 5, 6, 7, 8, 9] rfl rfl (by decide) (by decide) hk1 hFc hP1 hD1
  generalize H1 = H at hP hS ⊢
  have hP := hP.sub (ws' := (lwd h n r d f cI cF N u2.2.2 o cO u2.2.1 x n2 r2 d2 ya yb yc yo cI2 cJ N v4)) [0, 1, 2, 3, 4, 5, 6, 7, 8, 9, 10, 11, 12, 13, 14, 15, 16, 17] rfl
  have hD := hD.sub (ws' := (lwd h n r d f cI cF N u2.2.2 o cO u2.2.1 x n2 r2 d2 ya yb yc yo cI2 cJ N v4)) [0, 1, 2, 3, 4, 5, 6, 7, 8, 9, 10, 11, 12, 13, 14, 15, 16, 17] (by decide) rfl
  refine lv_istore (lv' := [(6, .int r6), (5, .int (iI u2.1)), (0, .ref b), (1, .ref h), (2, .ref x), (3, .ref o), (4, .int (iI i))]) hx hb dL_law_473 hl (by decide) rfl (fun ls hl => ?_)
  refine lv_aload_n hx hb dL_law_475 rfl (lv_at hl 4 rfl) ?_
  have hPc := hP.sub (ws' := [(x, .inr (2, [.int (iI v4.1), .ref n2, .ref r2, .ref d2, .int (iI v4.2.1), .int (iI v4.2.2.2.2.2.1), .ref ya, .ref yb, .ref yc, .ref yo, .long (lI (v4.2.2.1 0)), .long (lI (v4.2.2.1 1)), .long (lI (v4.2.2.1 2)), .long (lI (v4.2.2.1 3)), .long (lI (v4.2.2.1 4)), .long (lI (v4.2.2.1 5)), .long (lI (v4.2.2.1 6))]))]) [10] rfl
  have hKc := hK.sub (tys' := []) [] rfl
  refine vp_callSi (W.runV (As := []) (rest := []) ⟨hx, hb, hml, hown, hw⟩ (kX2_thrown l dC dI x n2 r2 d2 ya yb yc yo cI2 cJ v4.1 v4.2.1 v4.2.2.2.2.2.1 v4.2.2.1) (cwV 0 hw (gV mA_434 mA_435 mA_436 mA_3 mA_437) rfl rfl rfl (by decide +kernel) ⟨Nat.le_of_ble_eq_true rfl, Nat.le_of_ble_eq_true rfl⟩) ⟨fun a U g mk q => by obtain ⟨q0, qP, qK⟩ := q; exact ⟨q0, qP, va_K.moved (u := U) (U := U.calling g mk a) (Vm.Alike.refl U.vm) qK⟩, va_recv hKc hPc (ci := 2) (q0 := 0) rfl rfl, fun U hU hW => ⟨rfl, by rw [hU]; exact hPc, va_K.moved hW.alike hKc⟩⟩ rfl rfl hl.1 rfl (lv_room (Nat.le_of_ble_eq_true rfl)) dL_law_476 ⟨by show _ ≤ 672099; omega, by show _ ≤ 7079807; omega⟩) (fun r7 h8 => ?_)
  subst h8
  refine W.eq (g2 := F0 m 479 ls [.int (iI v4.1)]) rfl ?_
  refine lv_iload hx hb dL_law_479 (lv_at hl 1 rfl) ?_
  obtain ⟨g1, g3⟩ := hv5
  obtain ⟨hL1, hL2⟩ := L_left (ι := iI)  hH g3
  refine ix_icmp_eq (tgt := 486) hx hb dL_law_481 (by decide) (show r32 v4.1 by rw [show v4.1 = u2.1 from hL1]; exact ⟨by omega, by omega⟩) ⟨by omega, by omega⟩ (fun _ => ?_) (fun c9 => absurd hL1 c9)
  refine lv_iload hx hb dL_law_486 (lv_at hl 1 rfl) ?_
  refine ix_if_ne (tgt := 503) hx hb dL_law_488 (by decide) ⟨by omega, by omega⟩ (fun c9 => ?_) (fun c9 => ?_)
  · refine lv_goto (tgt := 849) hx hb dL_law_503 (by decide) ?_
    refine W.widen (k := cells + 5) (n := slots + 30) (by omega) (by omega) ?_
    exact kk N u2.2.1 u2.2.2 v4 _ _ hH.1 g1 hO1 hP hD hS ls (lv_sub hl [2, 3, 4, 5, 6] rfl)
  · have h0 : u2.1 = 0 := by omega
    have hb9 := hL2 h0
    rw [hb9] at hl
    refine lv_aload_n hx hb dL_law_491 rfl (lv_at hl 5 rfl) ?_
    refine ix_iconst (n := 0) hx hb dL_law_492 ?_
    refine ix_lald (k := 0) hx hb hK hP 9 2 rfl rfl (by decide) (by decide) (by decide) dL_law_493 ?_
    refine lv_iload hx hb dL_law_494 (lv_at hl 0 rfl) ?_
    refine ix_i2l hx hb dL_law_496 ⟨by omega, by omega⟩ ?_
    refine ix_lc_eq (tgt := 503) hx hb dL_law_497 dL_law_498 (by decide) ⟨by have := hO1.1; omega, by have := hO1.2; omega⟩ ⟨by have := hO1.1; omega, by have := hO1.2; omega⟩ (fun _ => ?_) (fun c9 => absurd rfl c9)
    refine lv_goto (tgt := 849) hx hb dL_law_503 (by decide) ?_
    refine W.widen (k := cells + 5) (n := slots + 30) (by omega) (by omega) ?_
    exact kk N u2.2.1 u2.2.2 v4 _ _ hH.1 g1 hO1 hP hD hS ls (lv_sub hl [2, 3, 4, 5, 6] rfl)
