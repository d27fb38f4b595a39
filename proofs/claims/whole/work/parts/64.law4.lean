set_option maxHeartbeats 4000000 in
set_option maxRecDepth 100000 in
theorem lc_answer {p : Program} {l : Launch} {e : Env} {s : State} {m : MethodId} {below : List Frame} {meth : Method} {c : Code} {dC : Nat → ClassId} {dI : Nat → Nat → Nat} {b L : Nat} {xs : Nat → Int32} {A : Nat → Prop} {h n r d f o x n2 r2 d2 ya yb yc yo : Nat} {cI cF cO cI2 cJ : ClassId} (hlt : l.stackTraces = false) (hL : L ≤ 2560) (hX : va_X b L xs s s.heap) (hbl : b < s.heap.size) (hbA : ¬ A b) (hA : ∀ q : Nat, s.heap.size ≤ q → A q) (hnb : nb s) (hnc : nc s) (hzt : zt A s) (C0 : cx p s m meth c #[Value.ref b] RL cL_law 7 ret) (hK : va_K (dC, dI) vwCl [(cI, .int), (cF, .object RX0), (cO, .long), (cI2, .int), (cJ, .long)] s) {i : Int} (hi : 0 ≤ i ∧ i + 5 ≤ L) {N O : Int → Int} {u : CS} {v : MT} (hci : CIu N u) (hmi : MI v) (hO : r32 (O 0)) {cells slots : Nat} (hcs : cells + 5 ≤ 672099 ∧ slots + 30 ≤ 7079807)
    (kk : ∀ (N O : Int → Int) (u : CS) (v : MT) (H : Heap) (locs : List Loc), CIu N u → MI v → r32 (O 0) → va_P (dC, dI) vwCl (lwd h n r d f cI cF N u o cO O x n2 r2 d2 ya yb yc yo cI2 cJ N v) H → va_D A (lwd h n r d f cI cF N u o cO O x n2 r2 d2 ya yb yc yo cI2 cJ N v) → va_S A s.heap H locs → ∀ (ls : Array Slot), lv_has ls 7 [(0, .ref b), (1, .ref h), (2, .ref x), (3, .ref o), (4, .int (iI i))] → W p l e room_1 s m #[Value.ref b] below meth c H locs (cells + 5) (slots + 30) (lw_Z below #[Value.ref b] s) (F0 m 849 ls []))
    {H : Heap} {locs : List Loc} (hP : va_P (dC, dI) vwCl (lwd h n r d f cI cF N u o cO O x n2 r2 d2 ya yb yc yo cI2 cJ N v) H) (hD : va_D A (lwd h n r d f cI cF N u o cO O x n2 r2 d2 ya yb yc yo cI2 cJ N v)) (hS : va_S A s.heap H locs) {ls : Array Slot} (hl : lv_has ls 7 [(0, .ref b), (1, .ref h), (2, .ref x), (3, .ref o), (4, .int (iI i))]) : W p l e room_1 s m #[Value.ref b] below meth c H locs cells slots (lw_Z below #[Value.ref b] s) (F0 m 506 ls []) := by
  obtain ⟨hx, hb, hr, hml, hown, hw, hlocks⟩ := C0
  have h5 := hci.1
  have hN := hci.2.1
  refine lv_aload_n hx hb dL_law_506 rfl (lv_at hl 1 rfl) ?_
  refine lv_aload_n hx hb dL_law_507 rfl (lv_at hl 0 rfl) ?_
  refine lv_iload hx hb dL_law_508 (lv_at hl 4 rfl) ?_
  refine ix_iconst (n := 1) hx hb dL_law_510 ?_
  refine ix_iadd hx hb dL_law_511 ?_
  refine ix_sld (k := i + 1) hx hb hX hbl hbA hS (by omega) (by omega) hL dL_law_512 ?_
  refine lv_aload_n hx hb dL_law_513 rfl (lv_at hl 0 rfl) ?_
  refine lv_iload hx hb dL_law_514 (lv_at hl 4 rfl) ?_
  refine ix_iconst (n := 2) hx hb dL_law_516 ?_
  refine ix_iadd hx hb dL_law_517 ?_
  refine ix_sld (k := i + 2) hx hb hX hbl hbA hS (by omega) (by omega) hL dL_law_518 ?_
  refine lv_aload_n hx hb dL_law_519 rfl (lv_at hl 0 rfl) ?_
  refine lv_iload hx hb dL_law_520 (lv_at hl 4 rfl) ?_
  refine ix_iconst (n := 3) hx hb dL_law_522 ?_
  refine ix_iadd hx hb dL_law_523 ?_
  refine ix_sld (k := i + 3) hx hb hX hbl hbA hS (by omega) (by omega) hL dL_law_524 ?_
  refine lv_aload_n hx hb dL_law_525 rfl (lv_at hl 3 rfl) ?_
  have hPc := hP.sub (ws' := (cwou h n r d f cI cF N u o cO O)) [0, 1, 2, 3, 4, 5, 6, 7, 8, 9] rfl
  have hDc := hD.sub (ws' := (cwou h n r d f cI cF N u o cO O)) [0, 1, 2, 3, 4, 5, 6, 7, 8, 9] (by decide) rfl
  have hKc := hK.sub (tys' := [(cI, .int), (cF, .object RX0), (cO, .long)]) [0, 1, 2] rfl
  have hFc := va_free (wc := (cwou h n r d f cI cF N u o cO O)) hD hS hA [0, 1, 2, 3, 4, 5, 6, 7, 8, 9] rfl
  refine va_calli (vx_runSW (As := [.ref h, .int (iI (sc xs (i + 1))), .int (iI (sc xs (i + 2))), .int (iI (sc xs (i + 3))), .ref o]) (rest := []) ⟨hx, hb, hml, hown, hw⟩ (kL_answer l hlt dC dI _ h n r d f u.2.2.2.2.2.1.1 u.2.2.2.2.2.1.2.1 u.2.2.2.2.2.1.2.2.1 u.2.2.2.2.2.1.2.2.2 o cI cF cO N u.1 u.2.1 u.2.2.1 u.2.2.2.1 u.2.2.2.2.1 u.2.2.2.2.2.2 O hO hci (sc xs (i + 1)) (sc xs (i + 2)) (sc xs (i + 3)) (sc_r _ _) (sc_r _ _) (sc_r _ _)) (vx_cwSW 5 hw (gSW mA_316 mA_317 mA_0 mW_answer) rfl rfl rfl (by decide +kernel) ⟨Nat.le_of_ble_eq_true rfl, Nat.le_of_ble_eq_true rfl⟩) ⟨fun a U g mk q => by obtain ⟨q0, q1, qP, qK, qD, qN, qC, qZ⟩ := q; exact ⟨q0, q1, qP, va_K.moved (u := U) (U := U.calling g mk a) (Vm.Alike.refl U.vm) qK, qD, nb.same (u := U) rfl qN, nc.moved (u := U) (U := U.calling g mk a) (Vm.Alike.refl U.vm) qC, zt.go (u := U) qZ (Vm.Alike.refl U.vm) (fun _ q => q) (fun _ _ _ => rfl)⟩, fun U hU hW => ⟨rfl, by rw [hU], by rw [hU]; exact hPc, va_K.moved hW.alike hKc, hDc.weaken (fun _ _ _ _ => trivial), nb.warm hW hnb, nc.moved hW.alike hnc, zt2 hzt hS hU hW.alike hFc⟩⟩ rfl rfl hl.1 rfl (lv_room (Nat.le_of_ble_eq_true rfl)) dL_law_526 ⟨by show _ ≤ 672099; omega, by show _ ≤ 7079807; omega⟩) hS (fun q _ h => hFc q h) hFc (fun r1 u2 t9 H1 locs ht hvm hq3 hB hz1 hk1 hS => ?_)
  obtain ⟨hP1, hK1, hD1⟩ := hB
  rw [ht] at hP1
  obtain ⟨e1, hO1, hH⟩ := hq3
  subst e1
  obtain ⟨hP, hD⟩ := va_join (wr := [(x, .inr (2, [.int (iI v.1), .ref n2, .ref r2, .ref d2, .int (iI v.2.1), .int (iI v.2.2.2.2.2.1), .ref ya, .ref yb, .ref yc, .ref yo, .long (lI (v.2.2.1 0)), .long (lI (v.2.2.1 1)), .long (lI (v.2.2.1 2)), .long (lI (v.2.2.1 3)), .long (lI (v.2.2.1 4)), .long (lI (v.2.2.1 5)), .long (lI (v.2.2.1 6))])), (n2, .inl (cI2, 5, .inl (aI N))), (r2, .inl (cJ, 5, .inr (.inl (aL v.2.2.2.1)))), (d2, .inl (cJ, 5, .inr (.inl (aL v.2.2.2.2.1)))), (ya, .inl (cI2, 5, .inl (aI v.2.2.2.2.2.2.1))), (yb, .inl (cI2, 5, .inl (aI v.2.2.2.2.2.2.2.1))), (yc, .inl (cI2, 5, .inl (aI v.2.2.2.2.2.2.2.2.1))), (yo, .inl (cI2, 5, .inl (aI v.2.2.2.2.2.2.2.2.2)))]) (w1 := (cwou h n r d f cI cF N u2.2.2 o cO u2.2.1)) hP hD [0, 1, 2, 3, 4, 5, 6, 7, 8, 9] [10, 11, 12, 13, 14, 15, 16, 17] rfl rfl (by decide) (by decide) hk1 hFc hP1 hD1
  generalize H1 = H at hP hS ⊢
  have hP := hP.sub (ws' := (lwd h n r d f cI cF N u2.2.2 o cO u2.2.1 x n2 r2 d2 ya yb yc yo cI2 cJ N v)) [8, 9, 10, 11, 12, 13, 14, 15, 16, 17, 0, 1, 2, 3, 4, 5, 6, 7] rfl
  have hD := hD.sub (ws' := (lwd h n r d f cI cF N u2.2.2 o cO u2.2.1 x n2 r2 d2 ya yb yc yo cI2 cJ N v)) [8, 9, 10, 11, 12, 13, 14, 15, 16, 17, 0, 1, 2, 3, 4, 5, 6, 7] (by decide) rfl
  have hkc := R_answer hH
  refine lv_istore (lv' := [(5, .int (iI u2.1)), (0, .ref b), (1, .ref h), (2, .ref x), (3, .ref o), (4, .int (iI i))]) hx hb dL_law_529 hl (by decide) rfl (fun ls hl => ?_)
  refine lv_aload_n hx hb dL_law_531 rfl (lv_at hl 3 rfl) ?_
  refine lv_aload_n hx hb dL_law_532 rfl (lv_at hl 1 rfl) ?_
  refine lv_iload hx hb dL_law_533 (lv_at hl 5 rfl) ?_
  refine ix_iconst (n := 1) hx hb dL_law_535 ?_
  refine ix_iadd hx hb dL_law_536 ?_
  refine ix_sld (k := i + 1) hx hb hX hbl hbA hS (by omega) (by omega) hL dL_law_537 ?_
  refine lv_aload_n hx hb dL_law_538 rfl (lv_at hl 1 rfl) ?_
  refine lv_iload hx hb dL_law_539 (lv_at hl 5 rfl) ?_
  refine ix_iconst (n := 2) hx hb dL_law_541 ?_
  refine ix_iadd hx hb dL_law_542 ?_
  refine ix_sld (k := i + 2) hx hb hX hbl hbA hS (by omega) (by omega) hL dL_law_543 ?_
  refine lv_aload_n hx hb dL_law_544 rfl (lv_at hl 1 rfl) ?_
  refine lv_iload hx hb dL_law_545 (lv_at hl 5 rfl) ?_
  refine ix_iconst (n := 3) hx hb dL_law_547 ?_
  refine ix_iadd hx hb dL_law_548 ?_
  refine ix_sld (k := i + 3) hx hb hX hbl hbA hS (by omega) (by omega) hL dL_law_549 ?_
  have hPc := hP.sub (ws' := (mwu x n2 r2 d2 ya yb yc yo cI2 cJ N v)) [10, 11, 12, 13, 14, 15, 16, 17] rfl
  have hDc := hD.sub (ws' := (mwu x n2 r2 d2 ya yb yc yo cI2 cJ N v)) [10, 11, 12, 13, 14, 15, 16, 17] (by decide) rfl
  have hKc := hK.sub (tys' := [(cI2, .int), (cJ, .long)]) [3, 4] rfl
  have hFc := va_free (wc := (mwu x n2 r2 d2 ya yb yc yo cI2 cJ N v)) hD hS hA [10, 11, 12, 13, 14, 15, 16, 17] rfl
  refine va_calli (va_runV (As := [.int (iI (sc xs (i + 1))), .int (iI (sc xs (i + 2))), .int (iI (sc xs (i + 3)))]) (rest := []) ⟨hx, hb, hml, hown, hw⟩ (kX2_answer l dC dI _ x n2 r2 d2 ya yb yc yo cI2 cJ v.1 v.2.1 v.2.2.2.2.2.1 v.2.2.1 N v.2.2.2.1 v.2.2.2.2.1 v.2.2.2.2.2.2.1 v.2.2.2.2.2.2.2.1 v.2.2.2.2.2.2.2.2.1 v.2.2.2.2.2.2.2.2.2 hN h5 hmi.1 hmi.2 (sc xs (i + 1)) (sc xs (i + 2)) (sc xs (i + 3)) (sc_r _ _) (sc_r _ _) (sc_r _ _)) (cwV 3 hw (gV mA_529 mA_530 mA_531 mA_3 mA_532) rfl rfl rfl (by decide +kernel) ⟨Nat.le_of_ble_eq_true rfl, Nat.le_of_ble_eq_true rfl⟩) ⟨fun a U g mk q => by obtain ⟨q0, q1, qP, qK, qD, qN⟩ := q; exact ⟨q0, q1, qP, va_K.moved (u := U) (U := U.calling g mk a) (Vm.Alike.refl U.vm) qK, qD, nb.same (u := U) rfl qN⟩, va_recv hKc hPc (ci := 2) (q0 := 0) rfl rfl, fun U hU hW => ⟨rfl, by rw [hU], by rw [hU]; exact hPc, va_K.moved hW.alike hKc, hDc.weaken (fun _ _ _ _ => trivial), nb.warm hW hnb⟩⟩ rfl rfl hl.1 rfl (lv_room (Nat.le_of_ble_eq_true rfl)) dL_law_550 ⟨by show _ ≤ 672099; omega, by show _ ≤ 7079807; omega⟩) hS (fun q _ h => hFc q h) hFc (fun r6 v4 t9 H1 locs ht hvm hv5 hB hz1 hk1 hS => ?_)
  obtain ⟨hP1, hK1, hD1⟩ := hB
  rw [ht] at hP1
  obtain ⟨hP, hD⟩ := va_join (wr := [(h, .inr (1, [.ref n, .ref r, .ref d, .ref f, .int (iI u2.2.2.2.2.2.1), .int (iI u2.2.2.2.2.1), .int (iI u2.2.2.2.2.2.2.1)])), (n, .inl (cI, 5, .inl (aI N))), (r, .inl (cI, 5, .inl (aI u2.2.2.1))), (d, .inl (cI, 5, .inl (aI u2.2.2.2.1))), (f, .inl (cF, 4, .inr (.inr (.inr (.inr (q4 u2.2.2.2.2.2.2.2.1.1 u2.2.2.2.2.2.2.2.1.2.1 u2.2.2.2.2.2.2.2.1.2.2.1 u2.2.2.2.2.2.2.2.1.2.2.2)))))), (u2.2.2.2.2.2.2.2.1.1, .inr (0, fl (u2.2.2.2.2.2.2.2.2 0))), (u2.2.2.2.2.2.2.2.1.2.1, .inr (0, fl (u2.2.2.2.2.2.2.2.2 1))), (u2.2.2.2.2.2.2.2.1.2.2.1, .inr (0, fl (u2.2.2.2.2.2.2.2.2 2))), (u2.2.2.2.2.2.2.2.1.2.2.2, .inr (0, fl (u2.2.2.2.2.2.2.2.2 3))), (o, .inl (cO, 1, .inr (.inl (aL u2.2.1))))]) (w1 := (mwu x n2 r2 d2 ya yb yc yo cI2 cJ N v4)) hP hD [10, 11, 12, 13, 14, 15, 16, 17] [0, 1, 2, 3, 4, 5, 6, 7, 8, 9] rfl rfl (by decide) (by decide) hk1 hFc hP1 hD1
  generalize H1 = H at hP hS ⊢
  have hP := hP.sub (ws' := (lwd h n r d f cI cF N u2.2.2 o cO u2.2.1 x n2 r2 d2 ya yb yc yo cI2 cJ N v4)) [0, 1, 2, 3, 4, 5, 6, 7, 8, 9, 10, 11, 12, 13, 14, 15, 16, 17] rfl
  have hD := hD.sub (ws' := (lwd h n r d f cI cF N u2.2.2 o cO u2.2.1 x n2 r2 d2 ya yb yc yo cI2 cJ N v4)) [0, 1, 2, 3, 4, 5, 6, 7, 8, 9, 10, 11, 12, 13, 14, 15, 16, 17] (by decide) rfl
  refine lv_istore (lv' := [(6, .int r6), (5, .int (iI u2.1)), (0, .ref b), (1, .ref h), (2, .ref x), (3, .ref o), (4, .int (iI i))]) hx hb dL_law_553 hl (by decide) rfl (fun ls hl => ?_)
  refine lv_aload_n hx hb dL_law_555 rfl (lv_at hl 4 rfl) ?_
  have hPc := hP.sub (ws' := [(x, .inr (2, [.int (iI v4.1), .ref n2, .ref r2, .ref d2, .int (iI v4.2.1), .int (iI v4.2.2.2.2.2.1), .ref ya, .ref yb, .ref yc, .ref yo, .long (lI (v4.2.2.1 0)), .long (lI (v4.2.2.1 1)), .long (lI (v4.2.2.1 2)), .long (lI (v4.2.2.1 3)), .long (lI (v4.2.2.1 4)), .long (lI (v4.2.2.1 5)), .long (lI (v4.2.2.1 6))]))]) [10] rfl
  have hKc := hK.sub (tys' := []) [] rfl
  refine vp_callSi (W.runV (As := []) (rest := []) ⟨hx, hb, hml, hown, hw⟩ (kX2_thrown l dC dI x n2 r2 d2 ya yb yc yo cI2 cJ v4.1 v4.2.1 v4.2.2.2.2.2.1 v4.2.2.1) (cwV 0 hw (gV mA_434 mA_435 mA_436 mA_3 mA_437) rfl rfl rfl (by decide +kernel) ⟨Nat.le_of_ble_eq_true rfl, Nat.le_of_ble_eq_true rfl⟩) ⟨fun a U g mk q => by obtain ⟨q0, qP, qK⟩ := q; exact ⟨q0, qP, va_K.moved (u := U) (U := U.calling g mk a) (Vm.Alike.refl U.vm) qK⟩, va_recv hKc hPc (ci := 2) (q0 := 0) rfl rfl, fun U hU hW => ⟨rfl, by rw [hU]; exact hPc, va_K.moved hW.alike hKc⟩⟩ rfl rfl hl.1 rfl (lv_room (Nat.le_of_ble_eq_true rfl)) dL_law_556 ⟨by show _ ≤ 672099; omega, by show _ ≤ 7079807; omega⟩) (fun r7 h8 => ?_)
  subst h8
  refine W.eq (g2 := F0 m 559 ls [.int (iI v4.1)]) rfl ?_
  refine lv_iload hx hb dL_law_559 (lv_at hl 1 rfl) ?_
  obtain ⟨g1, g3⟩ := hv5
  obtain ⟨hL1, hL2⟩ := L_answer (ι := iI)  hH g3
  refine ix_icmp_eq (tgt := 566) hx hb dL_law_561 (by decide) (show r32 v4.1 by rw [show v4.1 = u2.1 from hL1]; exact ⟨by omega, by omega⟩) ⟨by omega, by omega⟩ (fun _ => ?_) (fun c9 => absurd hL1 c9)
  refine lv_iload hx hb dL_law_566 (lv_at hl 1 rfl) ?_
  refine ix_if_ne (tgt := 583) hx hb dL_law_568 (by decide) ⟨by omega, by omega⟩ (fun c9 => ?_) (fun c9 => ?_)
  · refine lv_goto (tgt := 849) hx hb dL_law_583 (by decide) ?_
    refine W.widen (k := cells + 5) (n := slots + 30) (by omega) (by omega) ?_
    exact kk N u2.2.1 u2.2.2 v4 _ _ hH.1 g1 hO1 hP hD hS ls (lv_sub hl [2, 3, 4, 5, 6] rfl)
  · have h0 : u2.1 = 0 := by omega
    have hb9 := hL2 h0
    rw [hb9] at hl
    refine lv_aload_n hx hb dL_law_571 rfl (lv_at hl 5 rfl) ?_
    refine ix_iconst (n := 0) hx hb dL_law_572 ?_
    refine ix_lald (k := 0) hx hb hK hP 9 2 rfl rfl (by decide) (by decide) (by decide) dL_law_573 ?_
    refine lv_iload hx hb dL_law_574 (lv_at hl 0 rfl) ?_
    refine ix_i2l hx hb dL_law_576 ⟨by omega, by omega⟩ ?_
    refine ix_lc_eq (tgt := 583) hx hb dL_law_577 dL_law_578 (by decide) ⟨by have := hO1.1; omega, by have := hO1.2; omega⟩ ⟨by have := hO1.1; omega, by have := hO1.2; omega⟩ (fun _ => ?_) (fun c9 => absurd rfl c9)
    refine lv_goto (tgt := 849) hx hb dL_law_583 (by decide) ?_
    refine W.widen (k := cells + 5) (n := slots + 30) (by omega) (by omega) ?_
    exact kk N u2.2.1 u2.2.2 v4 _ _ hH.1 g1 hO1 hP hD hS ls (lv_sub hl [2, 3, 4, 5, 6] rfl)
set_option maxHeartbeats 4000000 in
set_option maxRecDepth 100000 in
theorem lc_real {p : Program} {l : Launch} {e : Env} {s : State} {m : MethodId} {below : List Frame} {meth : Method} {c : Code} {dC : Nat → ClassId} {dI : Nat → Nat → Nat} {b L : Nat} {xs : Nat → Int32} {A : Nat → Prop} {h n r d f o x n2 r2 d2 ya yb yc yo : Nat} {cI cF cO cI2 cJ : ClassId} (hlt : l.stackTraces = false) (hL : L ≤ 2560) (hX : va_X b L xs s s.heap) (hbl : b < s.heap.size) (hbA : ¬ A b) (hA : ∀ q : Nat, s.heap.size ≤ q → A q) (hnb : nb s) (hnc : nc s) (hzt : zt A s) (C0 : cx p s m meth c #[Value.ref b] RL cL_law 7 ret) (hK : va_K (dC, dI) vwCl [(cI, .int), (cF, .object RX0), (cO, .long), (cI2, .int), (cJ, .long)] s) {i : Int} (hi : 0 ≤ i ∧ i + 5 ≤ L) {N O : Int → Int} {u : CS} {v : MT} (hci : CIu N u) (hmi : MI v) (hO : r32 (O 0)) {cells slots : Nat} (hcs : cells + 5 ≤ 672099 ∧ slots + 30 ≤ 7079807)
    (kk : ∀ (N O : Int → Int) (u : CS) (v : MT) (H : Heap) (locs : List Loc), CIu N u → MI v → r32 (O 0) → va_P (dC, dI) vwCl (lwd h n r d f cI cF N u o cO O x n2 r2 d2 ya yb yc yo cI2 cJ N v) H → va_D A (lwd h n r d f cI cF N u o cO O x n2 r2 d2 ya yb yc yo cI2 cJ N v) → va_S A s.heap H locs → ∀ (ls : Array Slot), lv_has ls 7 [(0, .ref b), (1, .ref h), (2, .ref x), (3, .ref o), (4, .int (iI i))] → W p l e room_1 s m #[Value.ref b] below meth c H locs (cells + 5) (slots + 30) (lw_Z below #[Value.ref b] s) (F0 m 849 ls []))
    {H : Heap} {locs : List Loc} (hP : va_P (dC, dI) vwCl (lwd h n r d f cI cF N u o cO O x n2 r2 d2 ya yb yc yo cI2 cJ N v) H) (hD : va_D A (lwd h n r d f cI cF N u o cO O x n2 r2 d2 ya yb yc yo cI2 cJ N v)) (hS : va_S A s.heap H locs) {ls : Array Slot} (hl : lv_has ls 7 [(0, .ref b), (1, .ref h), (2, .ref x), (3, .ref o), (4, .int (iI i))]) : W p l e room_1 s m #[Value.ref b] below meth c H locs cells slots (lw_Z below #[Value.ref b] s) (F0 m 586 ls []) := by
  obtain ⟨hx, hb, hr, hml, hown, hw, hlocks⟩ := C0
  have h5 := hci.1
  have hN := hci.2.1
  refine lv_aload_n hx hb dL_law_586 rfl (lv_at hl 1 rfl) ?_
  refine lv_aload_n hx hb dL_law_587 rfl (lv_at hl 3 rfl) ?_
  have hPc := hP.sub (ws' := (cwou h n r d f cI cF N u o cO O)) [0, 1, 2, 3, 4, 5, 6, 7, 8, 9] rfl
  have hDc := hD.sub (ws' := (cwou h n r d f cI cF N u o cO O)) [0, 1, 2, 3, 4, 5, 6, 7, 8, 9] (by decide) rfl
  have hKc := hK.sub (tys' := [(cI, .int), (cF, .object RX0), (cO, .long)]) [0, 1, 2] rfl
  have hFc := va_free (wc := (cwou h n r d f cI cF N u o cO O)) hD hS hA [0, 1, 2, 3, 4, 5, 6, 7, 8, 9] rfl
  refine va_calli (vx_runSW (As := [.ref h, .ref o]) (rest := []) ⟨hx, hb, hml, hown, hw⟩ (kL_real l hlt dC dI _ h n r d f u.2.2.2.2.2.1.1 u.2.2.2.2.2.1.2.1 u.2.2.2.2.2.1.2.2.1 u.2.2.2.2.2.1.2.2.2 o cI cF cO N u.1 u.2.1 u.2.2.1 u.2.2.2.1 u.2.2.2.2.1 u.2.2.2.2.2.2 O hO hci  ) (vx_cwSW 2 hw (gSW mA_326 mA_327 mA_0 mW_real) rfl rfl rfl (by decide +kernel) ⟨Nat.le_of_ble_eq_true rfl, Nat.le_of_ble_eq_true rfl⟩) ⟨fun a U g mk q => by obtain ⟨q0, q1, qP, qK, qD, qN, qC, qZ⟩ := q; exact ⟨q0, q1, qP, va_K.moved (u := U) (U := U.calling g mk a) (Vm.Alike.refl U.vm) qK, qD, nb.same (u := U) rfl qN, nc.moved (u := U) (U := U.calling g mk a) (Vm.Alike.refl U.vm) qC, zt.go (u := U) qZ (Vm.Alike.refl U.vm) (fun _ q => q) (fun _ _ _ => rfl)⟩, fun U hU hW => ⟨rfl, by rw [hU], by rw [hU]; exact hPc, va_K.moved hW.alike hKc, hDc.weaken (fun _ _ _ _ => trivial), nb.warm hW hnb, nc.moved hW.alike hnc, zt2 hzt hS hU hW.alike hFc⟩⟩ rfl rfl hl.1 rfl (lv_room (Nat.le_of_ble_eq_true rfl)) dL_law_588 ⟨by show _ ≤ 672099; omega, by show _ ≤ 7079807; omega⟩) hS (fun q _ h => hFc q h) hFc (fun r1 u2 t9 H1 locs ht hvm hq3 hB hz1 hk1 hS => ?_)
  obtain ⟨hP1, hK1, hD1⟩ := hB
  rw [ht] at hP1
  obtain ⟨e1, hO1, hH⟩ := hq3
  subst e1
  obtain ⟨hP, hD⟩ := va_join (wr := [(x, .inr (2, [.int (iI v.1), .ref n2, .ref r2, .ref d2, .int (iI v.2.1), .int (iI v.2.2.2.2.2.1), .ref ya, .ref yb, .ref yc, .ref yo, .long (lI (v.2.2.1 0)), .long (lI (v.2.2.1 1)), .long (lI (v.2.2.1 2)), .long (lI (v.2.2.1 3)), .long (lI (v.2.2.1 4)), .long (lI (v.2.2.1 5)), .long (lI (v.2.2.1 6))])), (n2, .inl (cI2, 5, .inl (aI N))), (r2, .inl (cJ, 5, .inr (.inl (aL v.2.2.2.1)))), (d2, .inl (cJ, 5, .inr (.inl (aL v.2.2.2.2.1)))), (ya, .inl (cI2, 5, .inl (aI v.2.2.2.2.2.2.1))), (yb, .inl (cI2, 5, .inl (aI v.2.2.2.2.2.2.2.1))), (yc, .inl (cI2, 5, .inl (aI v.2.2.2.2.2.2.2.2.1))), (yo, .inl (cI2, 5, .inl (aI v.2.2.2.2.2.2.2.2.2)))]) (w1 := (cwou h n r d f cI cF N u2.2.2 o cO u2.2.1)) hP hD [0, 1, 2, 3, 4, 5, 6, 7, 8, 9] [10, 11, 12, 13, 14, 15, 16, 17] rfl rfl (by decide) (by decide) hk1 hFc hP1 hD1
  generalize H1 = H at hP hS ⊢
  have hP := hP.sub (ws' := (lwd h n r d f cI cF N u2.2.2 o cO u2.2.1 x n2 r2 d2 ya yb yc yo cI2 cJ N v)) [8, 9, 10, 11, 12, 13, 14, 15, 16, 17, 0, 1, 2, 3, 4, 5, 6, 7] rfl
  have hD := hD.sub (ws' := (lwd h n r d f cI cF N u2.2.2 o cO u2.2.1 x n2 r2 d2 ya yb yc yo cI2 cJ N v)) [8, 9, 10, 11, 12, 13, 14, 15, 16, 17, 0, 1, 2, 3, 4, 5, 6, 7] (by decide) rfl
  have hkc := R_real hH
  refine lv_istore (lv' := [(5, .int (iI u2.1)), (0, .ref b), (1, .ref h), (2, .ref x), (3, .ref o), (4, .int (iI i))]) hx hb dL_law_591 hl (by decide) rfl (fun ls hl => ?_)
  refine lv_aload_n hx hb dL_law_593 rfl (lv_at hl 3 rfl) ?_
  have hPc := hP.sub (ws' := (mwu x n2 r2 d2 ya yb yc yo cI2 cJ N v)) [10, 11, 12, 13, 14, 15, 16, 17] rfl
  have hDc := hD.sub (ws' := (mwu x n2 r2 d2 ya yb yc yo cI2 cJ N v)) [10, 11, 12, 13, 14, 15, 16, 17] (by decide) rfl
  have hKc := hK.sub (tys' := [(cI2, .int), (cJ, .long)]) [3, 4] rfl
  have hFc := va_free (wc := (mwu x n2 r2 d2 ya yb yc yo cI2 cJ N v)) hD hS hA [10, 11, 12, 13, 14, 15, 16, 17] rfl
  refine va_calli (va_runV (As := []) (rest := []) ⟨hx, hb, hml, hown, hw⟩ (kX2_real l dC dI _ x n2 r2 d2 ya yb yc yo cI2 cJ v.1 v.2.1 v.2.2.2.2.2.1 v.2.2.1 N v.2.2.2.1 v.2.2.2.2.1 v.2.2.2.2.2.2.1 v.2.2.2.2.2.2.2.1 v.2.2.2.2.2.2.2.2.1 v.2.2.2.2.2.2.2.2.2 hN h5 hmi.1 hmi.2  ) (cwV 0 hw (gV mA_533 mA_534 mA_535 mA_3 mA_536) rfl rfl rfl (by decide +kernel) ⟨Nat.le_of_ble_eq_true rfl, Nat.le_of_ble_eq_true rfl⟩) ⟨fun a U g mk q => by obtain ⟨q0, q1, qP, qK, qD, qN⟩ := q; exact ⟨q0, q1, qP, va_K.moved (u := U) (U := U.calling g mk a) (Vm.Alike.refl U.vm) qK, qD, nb.same (u := U) rfl qN⟩, va_recv hKc hPc (ci := 2) (q0 := 0) rfl rfl, fun U hU hW => ⟨rfl, by rw [hU], by rw [hU]; exact hPc, va_K.moved hW.alike hKc, hDc.weaken (fun _ _ _ _ => trivial), nb.warm hW hnb⟩⟩ rfl rfl hl.1 rfl (lv_room (Nat.le_of_ble_eq_true rfl)) dL_law_594 ⟨by show _ ≤ 672099; omega, by show _ ≤ 7079807; omega⟩) hS (fun q _ h => hFc q h) hFc (fun r6 v4 t9 H1 locs ht hvm hv5 hB hz1 hk1 hS => ?_)
  obtain ⟨hP1, hK1, hD1⟩ := hB
  rw [ht] at hP1
  obtain ⟨hP, hD⟩ := va_join (wr := [(h, .inr (1, [.ref n, .ref r, .ref d, .ref f, .int (iI u2.2.2.2.2.2.1), .int (iI u2.2.2.2.2.1), .int (iI u2.2.2.2.2.2.2.1)])), (n, .inl (cI, 5, .inl (aI N))), (r, .inl (cI, 5, .inl (aI u2.2.2.1))), (d, .inl (cI, 5, .inl (aI u2.2.2.2.1))), (f, .inl (cF, 4, .inr (.inr (.inr (.inr (q4 u2.2.2.2.2.2.2.2.1.1 u2.2.2.2.2.2.2.2.1.2.1 u2.2.2.2.2.2.2.2.1.2.2.1 u2.2.2.2.2.2.2.2.1.2.2.2)))))), (u2.2.2.2.2.2.2.2.1.1, .inr (0, fl (u2.2.2.2.2.2.2.2.2 0))), (u2.2.2.2.2.2.2.2.1.2.1, .inr (0, fl (u2.2.2.2.2.2.2.2.2 1))), (u2.2.2.2.2.2.2.2.1.2.2.1, .inr (0, fl (u2.2.2.2.2.2.2.2.2 2))), (u2.2.2.2.2.2.2.2.1.2.2.2, .inr (0, fl (u2.2.2.2.2.2.2.2.2 3))), (o, .inl (cO, 1, .inr (.inl (aL u2.2.1))))]) (w1 := (mwu x n2 r2 d2 ya yb yc yo cI2 cJ N v4)) hP hD [10, 11, 12, 13, 14, 15, 16, 17] [0, 1, 2, 3, 4, 5, 6, 7, 8, 9] rfl rfl (by decide) (by decide) hk1 hFc hP1 hD1
  generalize H1 = H at hP hS ⊢
  have hP := hP.sub (ws' := (lwd h n r d f cI cF N u2.2.2 o cO u2.2.1 x n2 r2 d2 ya yb yc yo cI2 cJ N v4)) [0, 1, 2, 3, 4, 5, 6, 7, 8, 9, 10, 11, 12, 13, 14, 15, 16, 17] rfl
  have hD := hD.sub (ws' := (lwd h n r d f cI cF N u2.2.2 o cO u2.2.1 x n2 r2 d2 ya yb yc yo cI2 cJ N v4)) [0, 1, 2, 3, 4, 5, 6, 7, 8, 9, 10, 11, 12, 13, 14, 15, 16, 17] (by decide) rfl
  refine lv_istore (lv' := [(6, .int r6), (5, .int (iI u2.1)), (0, .ref b), (1, .ref h), (2, .ref x), (3, .ref o), (4, .int (iI i))]) hx hb dL_law_597 hl (by decide) rfl (fun ls hl => ?_)
  refine lv_aload_n hx hb dL_law_599 rfl (lv_at hl 4 rfl) ?_
  have hPc := hP.sub (ws' := [(x, .inr (2, [.int (iI v4.1), .ref n2, .ref r2, .ref d2, .int (iI v4.2.1), .int (iI v4.2.2.2.2.2.1), .ref ya, .ref yb, .ref yc, .ref yo, .long (lI (v4.2.2.1 0)), .long (lI (v4.2.2.1 1)), .long (lI (v4.2.2.1 2)), .long (lI (v4.2.2.1 3)), .long (lI (v4.2.2.1 4)), .long (lI (v4.2.2.1 5)), .long (lI (v4.2.2.1 6))]))]) [10] rfl
  have hKc := hK.sub (tys' := []) [] rfl
  refine vp_callSi (W.runV (As := []) (rest := []) ⟨hx, hb, hml, hown, hw⟩ (kX2_thrown l dC dI x n2 r2 d2 ya yb yc yo cI2 cJ v4.1 v4.2.1 v4.2.2.2.2.2.1 v4.2.2.1) (cwV 0 hw (gV mA_434 mA_435 mA_436 mA_3 mA_437) rfl rfl rfl (by decide +kernel) ⟨Nat.le_of_ble_eq_true rfl, Nat.le_of_ble_eq_true rfl⟩) ⟨fun a U g mk q => by obtain ⟨q0, qP, qK⟩ := q; exact ⟨q0, qP, va_K.moved (u := U) (U := U.calling g mk a) (Vm.Alike.refl U.vm) qK⟩, va_recv hKc hPc (ci := 2) (q0 := 0) rfl rfl, fun U hU hW => ⟨rfl, by rw [hU]; exact hPc, va_K.moved hW.alike hKc⟩⟩ rfl rfl hl.1 rfl (lv_room (Nat.le_of_ble_eq_true rfl)) dL_law_600 ⟨by show _ ≤ 672099; omega, by show _ ≤ 7079807; omega⟩) (fun r7 h8 => ?_)
  subst h8
  refine W.eq (g2 := F0 m 603 ls [.int (iI v4.1)]) rfl ?_
  refine lv_iload hx hb dL_law_603 (lv_at hl 1 rfl) ?_
  obtain ⟨g1, g3⟩ := hv5
  obtain ⟨hL1, hL2⟩ := L_real (ι := iI)  hH g3
  refine ix_icmp_eq (tgt := 610) hx hb dL_law_605 (by decide) (show r32 v4.1 by rw [show v4.1 = u2.1 from hL1]; exact ⟨by omega, by omega⟩) ⟨by omega, by omega⟩ (fun _ => ?_) (fun c9 => absurd hL1 c9)
  refine lv_iload hx hb dL_law_610 (lv_at hl 1 rfl) ?_
  refine ix_if_ne (tgt := 627) hx hb dL_law_612 (by decide) ⟨by omega, by omega⟩ (fun c9 => ?_) (fun c9 => ?_)
  · refine lv_goto (tgt := 849) hx hb dL_law_627 (by decide) ?_
    refine W.widen (k := cells + 5) (n := slots + 30) (by omega) (by omega) ?_
    exact kk N u2.2.1 u2.2.2 v4 _ _ hH.1 g1 hO1 hP hD hS ls (lv_sub hl [2, 3, 4, 5, 6] rfl)
  · have h0 : u2.1 = 0 := by omega
    have hb9 := hL2 h0
    rw [hb9] at hl
    refine lv_aload_n hx hb dL_law_615 rfl (lv_at hl 5 rfl) ?_
    refine ix_iconst (n := 0) hx hb dL_law_616 ?_
    refine ix_lald (k := 0) hx hb hK hP 9 2 rfl rfl (by decide) (by decide) (by decide) dL_law_617 ?_
    refine lv_iload hx hb dL_law_618 (lv_at hl 0 rfl) ?_
    refine ix_i2l hx hb dL_law_620 ⟨by omega, by omega⟩ ?_
    refine ix_lc_eq (tgt := 627) hx hb dL_law_621 dL_law_622 (by decide) ⟨by have := hO1.1; omega, by have := hO1.2; omega⟩ ⟨by have := hO1.1; omega, by have := hO1.2; omega⟩ (fun _ => ?_) (fun c9 => absurd rfl c9)
    refine lv_goto (tgt := 849) hx hb dL_law_627 (by decide) ?_
    refine W.widen (k := cells + 5) (n := slots + 30) (by omega) (by omega) ?_
    exact kk N u2.2.1 u2.2.2 v4 _ _ hH.1 g1 hO1 hP hD hS ls (lv_sub hl [2, 3, 4, 5, 6] rfl)
set_option maxHeartbeats 4000000 in
set_option maxRecDepth 100000 in
theorem lc_floor {p : Program} {l : Launch} {e : Env} {s : State} {m : MethodId} {below : List Frame} {meth : Method} {c : Code} {dC : Nat → ClassId} {dI : Nat → Nat → Nat} {b L : Nat} {xs : Nat → Int32} {A : Nat → Prop} {h n r d f o x n2 r2 d2 ya yb yc yo : Nat} {cI cF cO cI2 cJ : ClassId} (hlt : l.stackTraces = false) (hL : L ≤ 2560) (hX : va_X b L xs s s.heap) (hbl : b < s.heap.size) (hbA : ¬ A b) (hA : ∀ q : Nat, s.heap.size ≤ q → A q) (hnb : nb s) (hnc : nc s) (hzt : zt A s) (C0 : cx p s m meth c #[Value.ref b] RL cL_law 7 ret) (hK : va_K (dC, dI) vwCl [(cI, .int), (cF, .object RX0), (cO, .long), (cI2, .int), (cJ, .long)] s) {i : Int} (hi : 0 ≤ i ∧ i + 5 ≤ L) {N O : Int → Int} {u : CS} {v : MT} (hci : CIu N u) (hmi : MI v) (hO : r32 (O 0)) {cells slots : Nat} (hcs : cells + 5 ≤ 672099 ∧ slots + 30 ≤ 7079807)
    (kk : ∀ (N O : Int → Int) (u : CS) (v : MT) (H : Heap) (locs : List Loc), CIu N u → MI v → r32 (O 0) → va_P (dC, dI) vwCl (lwd h n r d f cI cF N u o cO O x n2 r2 d2 ya yb yc yo cI2 cJ N v) H → va_D A (lwd h n r d f cI cF N u o cO O x n2 r2 d2 ya yb yc yo cI2 cJ N v) → va_S A s.heap H locs → ∀ (ls : Array Slot), lv_has ls 7 [(0, .ref b), (1, .ref h), (2, .ref x), (3, .ref o), (4, .int (iI i))] → W p l e room_1 s m #[Value.ref b] below meth c H locs (cells + 5) (slots + 30) (lw_Z below #[Value.ref b] s) (F0 m 849 ls []))
    {H : Heap} {locs : List Loc} (hP : va_P (dC, dI) vwCl (lwd h n r d f cI cF N u o cO O x n2 r2 d2 ya yb yc yo cI2 cJ N v) H) (hD : va_D A (lwd h n r d f cI cF N u o cO O x n2 r2 d2 ya yb yc yo cI2 cJ N v)) (hS : va_S A s.heap H locs) {ls : Array Slot} (hl : lv_has ls 7 [(0, .ref b), (1, .ref h), (2, .ref x), (3, .ref o), (4, .int (iI i))]) : W p l e room_1 s m #[Value.ref b] below meth c H locs cells slots (lw_Z below #[Value.ref b] s) (F0 m 630 ls []) := by
  obtain ⟨hx, hb, hr, hml, hown, hw, hlocks⟩ := C0
  have h5 := hci.1
  have hN := hci.2.1
  refine lv_aload_n hx hb dL_law_630 rfl (lv_at hl 1 rfl) ?_
  refine lv_aload_n hx hb dL_law_631 rfl (lv_at hl 0 rfl) ?_
  refine lv_iload hx hb dL_law_632 (lv_at hl 4 rfl) ?_
  refine ix_iconst (n := 1) hx hb dL_law_634 ?_
  refine ix_iadd hx hb dL_law_635 ?_
  refine ix_sld (k := i + 1) hx hb hX hbl hbA hS (by omega) (by omega) hL dL_law_636 ?_
  refine lv_aload_n hx hb dL_law_637 rfl (lv_at hl 0 rfl) ?_
  refine lv_iload hx hb dL_law_638 (lv_at hl 4 rfl) ?_
  refine ix_iconst (n := 2) hx hb dL_law_640 ?_
  refine ix_iadd hx hb dL_law_641 ?_
  refine ix_sld (k := i + 2) hx hb hX hbl hbA hS (by omega) (by omega) hL dL_law_642 ?_
  refine ix_if_eq (tgt := 650) hx hb dL_law_643 (by decide) (sc_r _ _) (fun c1 => ?_) (fun c1 => ?_)
  · refine ix_iconst (n := 0) hx hb dL_law_650 ?_
    refine lv_aload_n hx hb dL_law_651 rfl (lv_at hl 3 rfl) ?_
    have hPc := hP.sub (ws' := (cwou h n r d f cI cF N u o cO O)) [0, 1, 2, 3, 4, 5, 6, 7, 8, 9] rfl
    have hDc := hD.sub (ws' := (cwou h n r d f cI cF N u o cO O)) [0, 1, 2, 3, 4, 5, 6, 7, 8, 9] (by decide) rfl
    have hKc := hK.sub (tys' := [(cI, .int), (cF, .object RX0), (cO, .long)]) [0, 1, 2] rfl
    have hFc := va_free (wc := (cwou h n r d f cI cF N u o cO O)) hD hS hA [0, 1, 2, 3, 4, 5, 6, 7, 8, 9] rfl
    refine va_calli (vx_runSW (As := [.ref h, .int (iI (sc xs (i + 1))), .int (iI 0), .ref o]) (rest := []) ⟨hx, hb, hml, hown, hw⟩ (kL_floor l hlt dC dI _ h n r d f u.2.2.2.2.2.1.1 u.2.2.2.2.2.1.2.1 u.2.2.2.2.2.1.2.2.1 u.2.2.2.2.2.1.2.2.2 o cI cF cO N u.1 u.2.1 u.2.2.1 u.2.2.2.1 u.2.2.2.2.1 u.2.2.2.2.2.2 O hO hci (sc xs (i + 1)) 0 (sc_r _ _) (Or.inl rfl)) (vx_cwSW 4 hw (gSW mA_337 mA_338 mA_0 mW_floor) rfl rfl rfl (by decide +kernel) ⟨Nat.le_of_ble_eq_true rfl, Nat.le_of_ble_eq_true rfl⟩) ⟨fun a U g mk q => by obtain ⟨q0, q1, qP, qK, qD, qN, qC, qZ⟩ := q; exact ⟨q0, q1, qP, va_K.moved (u := U) (U := U.calling g mk a) (Vm.Alike.refl U.vm) qK, qD, nb.same (u := U) rfl qN, nc.moved (u := U) (U := U.calling g mk a) (Vm.Alike.refl U.vm) qC, zt.go (u := U) qZ (Vm.Alike.refl U.vm) (fun _ q => q) (fun _ _ _ => rfl)⟩, fun U hU hW => ⟨rfl, by rw [hU], by rw [hU]; exact hPc, va_K.moved hW.alike hKc, hDc.weaken (fun _ _ _ _ => trivial), nb.warm hW hnb, nc.moved hW.alike hnc, zt2 hzt hS hU hW.alike hFc⟩⟩ rfl rfl hl.1 rfl (lv_room (Nat.le_of_ble_eq_true rfl)) dL_law_652 ⟨by show _ ≤ 672099; omega, by show _ ≤ 7079807; omega⟩) hS (fun q _ h => hFc q h) hFc (fun r2 u3 t9 H1 locs ht hvm hq4 hB hz1 hk1 hS => ?_)
    obtain ⟨hP1, hK1, hD1⟩ := hB
    rw [ht] at hP1
    obtain ⟨e1, hO1, hH⟩ := hq4
    subst e1
    obtain ⟨hP, hD⟩ := va_join (wr := [(x, .inr (2, [.int (iI v.1), .ref n2, .ref r2, .ref d2, .int (iI v.2.1), .int (iI v.2.2.2.2.2.1), .ref ya, .ref yb, .ref yc, .ref yo, .long (lI (v.2.2.1 0)), .long (lI (v.2.2.1 1)), .long (lI (v.2.2.1 2)), .long (lI (v.2.2.1 3)), .long (lI (v.2.2.1 4)), .long (lI (v.2.2.1 5)), .long (lI (v.2.2.1 6))])), (n2, .inl (cI2, 5, .inl (aI N))), (r2, .inl (cJ, 5, .inr (.inl (aL v.2.2.2.1)))), (d2, .inl (cJ, 5, .inr (.inl (aL v.2.2.2.2.1)))), (ya, .inl (cI2, 5, .inl (aI v.2.2.2.2.2.2.1))), (yb, .inl (cI2, 5, .inl (aI v.2.2.2.2.2.2.2.1))), (yc, .inl (cI2, 5, .inl (aI v.2.2.2.2.2.2.2.2.1))), (yo, .inl (cI2, 5, .inl (aI v.2.2.2.2.2.2.2.2.2)))]) (w1 := (cwou h n r d f cI cF N u3.2.2 o cO u3.2.1)) hP hD [0, 1, 2, 3, 4, 5, 6, 7, 8, 9] [10, 11, 12, 13, 14, 15, 16, 17] rfl rfl (by decide) (by decide) hk1 hFc hP1 hD1
    generalize H1 = H at hP hS ⊢
    have hP := hP.sub (ws' := (lwd h n r d f cI cF N u3.2.2 o cO u3.2.1 x n2 r2 d2 ya yb yc yo cI2 cJ N v)) [8, 9, 10, 11, 12, 13, 14, 15, 16, 17, 0, 1, 2, 3, 4, 5, 6, 7] rfl
    have hD := hD.sub (ws' := (lwd h n r d f cI cF N u3.2.2 o cO u3.2.1 x n2 r2 d2 ya yb yc yo cI2 cJ N v)) [8, 9, 10, 11, 12, 13, 14, 15, 16, 17, 0, 1, 2, 3, 4, 5, 6, 7] (by decide) rfl
    have hkc := R_floor hH
    refine lv_istore (lv' := [(5, .int (iI u3.1)), (0, .ref b), (1, .ref h), (2, .ref x), (3, .ref o), (4, .int (iI i))]) hx hb dL_law_655 hl (by decide) rfl (fun ls hl => ?_)
    refine lv_aload_n hx hb dL_law_657 rfl (lv_at hl 3 rfl) ?_
    refine lv_aload_n hx hb dL_law_658 rfl (lv_at hl 1 rfl) ?_
    refine lv_iload hx hb dL_law_659 (lv_at hl 5 rfl) ?_
    refine ix_iconst (n := 1) hx hb dL_law_661 ?_
    refine ix_iadd hx hb dL_law_662 ?_
    refine ix_sld (k := i + 1) hx hb hX hbl hbA hS (by omega) (by omega) hL dL_law_663 ?_
    refine lv_aload_n hx hb dL_law_664 rfl (lv_at hl 1 rfl) ?_
    refine lv_iload hx hb dL_law_665 (lv_at hl 5 rfl) ?_
    refine ix_iconst (n := 2) hx hb dL_law_667 ?_
    refine ix_iadd hx hb dL_law_668 ?_
    refine ix_sld (k := i + 2) hx hb hX hbl hbA hS (by omega) (by omega) hL dL_law_669 ?_
    refine ix_if_eq (tgt := 677) hx hb dL_law_670 (by decide) (sc_r _ _) (fun _ => ?_) (fun c9 => absurd c1 c9)
    refine ix_iconst (n := 0) hx hb dL_law_677 ?_
    have hPc := hP.sub (ws' := (mwu x n2 r2 d2 ya yb yc yo cI2 cJ N v)) [10, 11, 12, 13, 14, 15, 16, 17] rfl
    have hDc := hD.sub (ws' := (mwu x n2 r2 d2 ya yb yc yo cI2 cJ N v)) [10, 11, 12, 13, 14, 15, 16, 17] (by decide) rfl
    have hKc := hK.sub (tys' := [(cI2, .int), (cJ, .long)]) [3, 4] rfl
    have hFc := va_free (wc := (mwu x n2 r2 d2 ya yb yc yo cI2 cJ N v)) hD hS hA [10, 11, 12, 13, 14, 15, 16, 17] rfl
    refine va_calli (va_runV (As := [.int (iI (sc xs (i + 1))), .int (iI 0)]) (rest := []) ⟨hx, hb, hml, hown, hw⟩ (kX2_floor l dC dI _ x n2 r2 d2 ya yb yc yo cI2 cJ v.1 v.2.1 v.2.2.2.2.2.1 v.2.2.1 N v.2.2.2.1 v.2.2.2.2.1 v.2.2.2.2.2.2.1 v.2.2.2.2.2.2.2.1 v.2.2.2.2.2.2.2.2.1 v.2.2.2.2.2.2.2.2.2 hN h5 hmi.1 hmi.2 (sc xs (i + 1)) 0 (sc_r _ _) (Or.inl rfl)) (cwV 2 hw (gV mA_541 mA_542 mA_543 mA_3 mA_544) rfl rfl rfl (by decide +kernel) ⟨Nat.le_of_ble_eq_true rfl, Nat.le_of_ble_eq_true rfl⟩) ⟨fun a U g mk q => by obtain ⟨q0, q1, qP, qK, qD, qN⟩ := q; exact ⟨q0, q1, qP, va_K.moved (u := U) (U := U.calling g mk a) (Vm.Alike.refl U.vm) qK, qD, nb.same (u := U) rfl qN⟩, va_recv hKc hPc (ci := 2) (q0 := 0) rfl rfl, fun U hU hW => ⟨rfl, by rw [hU], by rw [hU]; exact hPc, va_K.moved hW.alike hKc, hDc.weaken (fun _ _ _ _ => trivial), nb.warm hW hnb⟩⟩ rfl rfl hl.1 rfl (lv_room (Nat.le_of_ble_eq_true rfl)) dL_law_678 ⟨by show _ ≤ 672099; omega, by show _ ≤ 7079807; omega⟩) hS (fun q _ h => hFc q h) hFc (fun r7 v5 t9 H1 locs ht hvm hv6 hB hz1 hk1 hS => ?_)
    obtain ⟨hP1, hK1, hD1⟩ := hB
    rw [ht] at hP1
    obtain ⟨hP, hD⟩ := va_join (wr := [(h, .inr (1, [.ref n, .ref r, .ref d, .ref f, .int (iI u3.2.2.2.2.2.1), .int (iI u3.2.2.2.2.1), .int (iI u3.2.2.2.2.2.2.1)])), (n, .inl (cI, 5, .inl (aI N))), (r, .inl (cI, 5, .inl (aI u3.2.2.1))), (d, .inl (cI, 5, .inl (aI u3.2.2.2.1))), (f, .inl (cF, 4, .inr (.inr (.inr (.inr (q4 u3.2.2.2.2.2.2.2.1.1 u3.2.2.2.2.2.2.2.1.2.1 u3.2.2.2.2.2.2.2.1.2.2.1 u3.2.2.2.2.2.2.2.1.2.2.2)))))), (u3.2.2.2.2.2.2.2.1.1, .inr (0, fl (u3.2.2.2.2.2.2.2.2 0))), (u3.2.2.2.2.2.2.2.1.2.1, .inr (0, fl (u3.2.2.2.2.2.2.2.2 1))), (u3.2.2.2.2.2.2.2.1.2.2.1, .inr (0, fl (u3.2.2.2.2.2.2.2.2 2))), (u3.2.2.2.2.2.2.2.1.2.2.2, .inr (0, fl (u3.2.2.2.2.2.2.2.2 3))), (o, .inl (cO, 1, .inr (.inl (aL u3.2.1))))]) (w1 := (mwu x n2 r2 d2 ya yb yc yo cI2 cJ N v5)) hP hD [10, 11, 12, 13, 14, 15, 16, 17] [0, 1, 2, 3, 4, 5, 6, 7, 8, 9] rfl rfl (by decide) (by decide) hk1 hFc hP1 hD1
    generalize H1 = H at hP hS ⊢
    have hP := hP.sub (ws' := (lwd h n r d f cI cF N u3.2.2 o cO u3.2.1 x n2 r2 d2 ya yb yc yo cI2 cJ N v5)) [0, 1, 2, 3, 4, 5, 6, 7, 8, 9, 10, 11, 12, 13, 14, 15, 16, 17] rfl
    have hD := hD.sub (ws' := (lwd h n r d f cI cF N u3.2.2 o cO u3.2.1 x n2 r2 d2 ya yb yc yo cI2 cJ N v5)) [0, 1, 2, 3, 4, 5, 6, 7, 8, 9, 10, 11, 12, 13, 14, 15, 16, 17] (by decide) rfl
    refine lv_istore (lv' := [(6, .int r7), (5, .int (iI u3.1)), (0, .ref b), (1, .ref h), (2, .ref x), (3, .ref o), (4, .int (iI i))]) hx hb dL_law_681 hl (by decide) rfl (fun ls hl => ?_)
    refine lv_aload_n hx hb dL_law_683 rfl (lv_at hl 4 rfl) ?_
    have hPc := hP.sub (ws' := [(x, .inr (2, [.int (iI v5.1), .ref n2, .ref r2, .ref d2, .int (iI v5.2.1), .int (iI v5.2.2.2.2.2.1), .ref ya, .ref yb, .ref yc, .ref yo, .long (lI (v5.2.2.1 0)), .long (lI (v5.2.2.1 1)), .long (lI (v5.2.2.1 2)), .long (lI (v5.2.2.1 3)), .long (lI (v5.2.2.1 4)), .long (lI (v5.2.2.1 5)), .long (lI (v5.2.2.1 6))]))]) [10] rfl
    have hKc := hK.sub (tys' := []) [] rfl
    refine vp_callSi (W.runV (As := []) (rest := []) ⟨hx, hb, hml, hown, hw⟩ (kX2_thrown l dC dI x n2 r2 d2 ya yb yc yo cI2 cJ v5.1 v5.2.1 v5.2.2.2.2.2.1 v5.2.2.1) (cwV 0 hw (gV mA_434 mA_435 mA_436 mA_3 mA_437) rfl rfl rfl (by decide +kernel) ⟨Nat.le_of_ble_eq_true rfl, Nat.le_of_ble_eq_true rfl⟩) ⟨fun a U g mk q => by obtain ⟨q0, qP, qK⟩ := q; exact ⟨q0, qP, va_K.moved (u := U) (U := U.calling g mk a) (Vm.Alike.refl U.vm) qK⟩, va_recv hKc hPc (ci := 2) (q0 := 0) rfl rfl, fun U hU hW => ⟨rfl, by rw [hU]; exact hPc, va_K.moved hW.alike hKc⟩⟩ rfl rfl hl.1 rfl (lv_room (Nat.le_of_ble_eq_true rfl)) dL_law_684 ⟨by show _ ≤ 672099; omega, by show _ ≤ 7079807; omega⟩) (fun r8 h9 => ?_)
    subst h9
    refine W.eq (g2 := F0 m 687 ls [.int (iI v5.1)]) rfl ?_
    refine lv_iload hx hb dL_law_687 (lv_at hl 1 rfl) ?_
    obtain ⟨g1, g3⟩ := hv6
    obtain ⟨hL1, hL2⟩ := L_floor (ι := iI) (Or.inl rfl) hH g3
    refine ix_icmp_eq (tgt := 694) hx hb dL_law_689 (by decide) (show r32 v5.1 by rw [show v5.1 = u3.1 from hL1]; exact ⟨by omega, by omega⟩) ⟨by omega, by omega⟩ (fun _ => ?_) (fun c9 => absurd hL1 c9)
    refine lv_iload hx hb dL_law_694 (lv_at hl 1 rfl) ?_
    refine ix_if_ne (tgt := 711) hx hb dL_law_696 (by decide) ⟨by omega, by omega⟩ (fun c10 => ?_) (fun c10 => ?_)
    · refine lv_goto (tgt := 849) hx hb dL_law_711 (by decide) ?_
      refine W.widen (k := cells + 5) (n := slots + 30) (by omega) (by omega) ?_
      exact kk N u3.2.1 u3.2.2 v5 _ _ hH.1 g1 hO1 hP hD hS ls (lv_sub hl [2, 3, 4, 5, 6] rfl)
    · have h0 : u3.1 = 0 := by omega
      have hb9 := hL2 h0
      rw [hb9] at hl
      refine lv_aload_n hx hb dL_law_699 rfl (lv_at hl 5 rfl) ?_
      refine ix_iconst (n := 0) hx hb dL_law_700 ?_
      refine ix_lald (k := 0) hx hb hK hP 9 2 rfl rfl (by decide) (by decide) (by decide) dL_law_701 ?_
      refine lv_iload hx hb dL_law_702 (lv_at hl 0 rfl) ?_
      refine ix_i2l hx hb dL_law_704 ⟨by omega, by omega⟩ ?_
      refine ix_lc_eq (tgt := 711) hx hb dL_law_705 dL_law_706 (by decide) ⟨by have := hO1.1; omega, by have := hO1.2; omega⟩ ⟨by have := hO1.1; omega, by have := hO1.2; omega⟩ (fun _ => ?_) (fun c9 => absurd rfl c9)
      refine lv_goto (tgt := 849) hx hb dL_law_711 (by decide) ?_
      refine W.widen (k := cells + 5) (n := slots + 30) (by omega) (by omega) ?_
      exact kk N u3.2.1 u3.2.2 v5 _ _ hH.1 g1 hO1 hP hD hS ls (lv_sub hl [2, 3, 4, 5, 6] rfl)
  · refine ix_iconst (n := 1) hx hb dL_law_646 ?_
    refine lv_goto (tgt := 651) hx hb dL_law_647 (by decide) ?_
    refine lv_aload_n hx hb dL_law_651 rfl (lv_at hl 3 rfl) ?_
    have hPc := hP.sub (ws' := (cwou h n r d f cI cF N u o cO O)) [0, 1, 2, 3, 4, 5, 6, 7, 8, 9] rfl
    have hDc := hD.sub (ws' := (cwou h n r d f cI cF N u o cO O)) [0, 1, 2, 3, 4, 5, 6, 7, 8, 9] (by decide) rfl
    have hKc := hK.sub (tys' := [(cI, .int), (cF, .object RX0), (cO, .long)]) [0, 1, 2] rfl
    have hFc := va_free (wc := (cwou h n r d f cI cF N u o cO O)) hD hS hA [0, 1, 2, 3, 4, 5, 6, 7, 8, 9] rfl
    refine va_calli (vx_runSW (As := [.ref h, .int (iI (sc xs (i + 1))), .int (iI 1), .ref o]) (rest := []) ⟨hx, hb, hml, hown, hw⟩ (kL_floor l hlt dC dI _ h n r d f u.2.2.2.2.2.1.1 u.2.2.2.2.2.1.2.1 u.2.2.2.2.2.1.2.2.1 u.2.2.2.2.2.1.2.2.2 o cI cF cO N u.1 u.2.1 u.2.2.1 u.2.2.2.1 u.2.2.2.2.1 u.2.2.2.2.2.2 O hO hci (sc xs (i + 1)) 1 (sc_r _ _) (Or.inr rfl)) (vx_cwSW 4 hw (gSW mA_337 mA_338 mA_0 mW_floor) rfl rfl rfl (by decide +kernel) ⟨Nat.le_of_ble_eq_true rfl, Nat.le_of_ble_eq_true rfl⟩) ⟨fun a U g mk q => by obtain ⟨q0, q1, qP, qK, qD, qN, qC, qZ⟩ := q; exact ⟨q0, q1, qP, va_K.moved (u := U) (U := U.calling g mk a) (Vm.Alike.refl U.vm) qK, qD, nb.same (u := U) rfl qN, nc.moved (u := U) (U := U.calling g mk a) (Vm.Alike.refl U.vm) qC, zt.go (u := U) qZ (Vm.Alike.refl U.vm) (fun _ q => q) (fun _ _ _ => rfl)⟩, fun U hU hW => ⟨rfl, by rw [hU], by rw [hU]; exact hPc, va_K.moved hW.alike hKc, hDc.weaken (fun _ _ _ _ => trivial), nb.warm hW hnb, nc.moved hW.alike hnc, zt2 hzt hS hU hW.alike hFc⟩⟩ rfl rfl hl.1 rfl (lv_room (Nat.le_of_ble_eq_true rfl)) dL_law_652 ⟨by show _ ≤ 672099; omega, by show _ ≤ 7079807; omega⟩) hS (fun q _ h => hFc q h) hFc (fun r11 u12 t9 H1 locs ht hvm hq13 hB hz1 hk1 hS => ?_)
    obtain ⟨hP1, hK1, hD1⟩ := hB
    rw [ht] at hP1
    obtain ⟨e1, hO1, hH⟩ := hq13
    subst e1
    obtain ⟨hP, hD⟩ := va_join (wr := [(x, .inr (2, [.int (iI v.1), .ref n2, .ref r2, .ref d2, .int (iI v.2.1), .int (iI v.2.2.2.2.2.1), .ref ya, .ref yb, .ref yc, .ref yo, .long (lI (v.2.2.1 0)), .long (lI (v.2.2.1 1)), .long (lI (v.2.2.1 2)), .long (lI (v.2.2.1 3)), .long (lI (v.2.2.1 4)), .long (lI (v.2.2.1 5)), .long (lI (v.2.2.1 6))])), (n2, .inl (cI2, 5, .inl (aI N))), (r2, .inl (cJ, 5, .inr (.inl (aL v.2.2.2.1)))), (d2, .inl (cJ, 5, .inr (.inl (aL v.2.2.2.2.1)))), (ya, .inl (cI2, 5, .inl (aI v.2.2.2.2.2.2.1))), (yb, .inl (cI2, 5, .inl (aI v.2.2.2.2.2.2.2.1))), (yc, .inl (cI2, 5, .inl (aI v.2.2.2.2.2.2.2.2.1))), (yo, .inl (cI2, 5, .inl (aI v.2.2.2.2.2.2.2.2.2)))]) (w1 := (cwou h n r d f cI cF N u12.2.2 o cO u12.2.1)) hP hD [0, 1, 2, 3, 4, 5, 6, 7, 8, 9] [10, 11, 12, 13, 14, 15, 16, 17] rfl rfl (by decide) (by decide) hk1 hFc hP1 hD1
    generalize H1 = H at hP hS ⊢
    have hP := hP.sub (ws' := (lwd h n r d f cI cF N u12.2.2 o cO u12.2.1 x n2 r2 d2 ya yb yc yo cI2 cJ N v)) [8, 9, 10, 11, 12, 13, 14, 15, 16, 17, 0, 1, 2, 3, 4, 5, 6, 7] rfl
    have hD := hD.sub (ws' := (lwd h n r d f cI cF N u12.2.2 o cO u12.2.1 x n2 r2 d2 ya yb yc yo cI2 cJ N v)) [8, 9, 10, 11, 12, 13, 14, 15, 16, 17, 0, 1, 2, 3, 4, 5, 6, 7] (by decide) rfl
    have hkc := R_floor hH
    refine lv_istore (lv' := [(5, .int (iI u12.1)), (0, .ref b), (1, .ref h), (2, .ref x), (3, .ref o), (4, .int (iI i))]) hx hb dL_law_655 hl (by decide) rfl (fun ls hl => ?_)
    refine lv_aload_n hx hb dL_law_657 rfl (lv_at hl 3 rfl) ?_
    refine lv_aload_n hx hb dL_law_658 rfl (lv_at hl 1 rfl) ?_
    refine lv_iload hx hb dL_law_659 (lv_at hl 5 rfl) ?_
    refine ix_iconst (n := 1) hx hb dL_law_661 ?_
    refine ix_iadd hx hb dL_law_662 ?_
    refine ix_sld (k := i + 1) hx hb hX hbl hbA hS (by omega) (by omega) hL dL_law_663 ?_
    refine lv_aload_n hx hb dL_law_664 rfl (lv_at hl 1 rfl) ?_
    refine lv_iload hx hb dL_law_665 (lv_at hl 5 rfl) ?_
    refine ix_iconst (n := 2) hx hb dL_law_667 ?_
    refine ix_iadd hx hb dL_law_668 ?_
    refine ix_sld (k := i + 2) hx hb hX hbl hbA hS (by omega) (by omega) hL dL_law_669 ?_
    refine ix_if_eq (tgt := 677) hx hb dL_law_670 (by decide) (sc_r _ _) (fun c9 => absurd c9 c1) (fun _ => ?_)
    refine ix_iconst (n := 1) hx hb dL_law_673 ?_
    refine lv_goto (tgt := 678) hx hb dL_law_674 (by decide) ?_
    have hPc := hP.sub (ws' := (mwu x n2 r2 d2 ya yb yc yo cI2 cJ N v)) [10, 11, 12, 13, 14, 15, 16, 17] rfl
    have hDc := hD.sub (ws' := (mwu x n2 r2 d2 ya yb yc yo cI2 cJ N v)) [10, 11, 12, 13, 14, 15, 16, 17] (by decide) rfl
    have hKc := hK.sub (tys' := [(cI2, .int), (cJ, .long)]) [3, 4] rfl
    have hFc := va_free (wc := (mwu x n2 r2 d2 ya yb yc yo cI2 cJ N v)) hD hS hA [10, 11, 12, 13, 14, 15, 16, 17] rfl
    refine va_calli (va_runV (As := [.int (iI (sc xs (i + 1))), .int (iI 1)]) (rest := []) ⟨hx, hb, hml, hown, hw⟩ (kX2_floor l dC dI _ x n2 r2 d2 ya yb yc yo cI2 cJ v.1 v.2.1 v.2.2.2.2.2.1 v.2.2.1 N v.2.2.2.1 v.2.2.2.2.1 v.2.2.2.2.2.2.1 v.2.2.2.2.2.2.2.1 v.2.2.2.2.2.2.2.2.1 v.2.2.2.2.2.2.2.2.2 hN h5 hmi.1 hmi.2 (sc xs (i + 1)) 1 (sc_r _ _) (Or.inr rfl)) (cwV 2 hw (gV mA_541 mA_542 mA_543 mA_3 mA_544) rfl rfl rfl (by decide +kernel) ⟨Nat.le_of_ble_eq_true rfl, Nat.le_of_ble_eq_true rfl⟩) ⟨fun a U g mk q => by obtain ⟨q0, q1, qP, qK, qD, qN⟩ := q; exact ⟨q0, q1, qP, va_K.moved (u := U) (U := U.calling g mk a) (Vm.Alike.refl U.vm) qK, qD, nb.same (u := U) rfl qN⟩, va_recv hKc hPc (ci := 2) (q0 := 0) rfl rfl, fun U hU hW => ⟨rfl, by rw [hU], by rw [hU]; exact hPc, va_K.moved hW.alike hKc, hDc.weaken (fun _ _ _ _ => trivial), nb.warm hW hnb⟩⟩ rfl rfl hl.1 rfl (lv_room (Nat.le_of_ble_eq_true rfl)) dL_law_678 ⟨by show _ ≤ 672099; omega, by show _ ≤ 7079807; omega⟩) hS (fun q _ h => hFc q h) hFc (fun r16 v14 t9 H1 locs ht hvm hv15 hB hz1 hk1 hS => ?_)
    obtain ⟨hP1, hK1, hD1⟩ := hB
    rw [ht] at hP1
    obtain ⟨hP, hD⟩ := va_join (wr := [(h, .inr (1, [.ref n, .ref r, .ref d, .ref f, .int (iI u12.2.2.2.2.2.1), .int (iI u12.2.2.2.2.1), .int (iI u12.2.2.2.2.2.2.1)])), (n, .inl (cI, 5, .inl (aI N))), (r, .inl (cI, 5, .inl (aI u12.2.2.1))), (d, .inl (cI, 5, .inl (aI u12.2.2.2.1))), (f, .inl (cF, 4, .inr (.inr (.inr (.inr (q4 u12.2.2.2.2.2.2.2.1.1 u12.2.2.2.2.2.2.2.1.2.1 u12.2.2.2.2.2.2.2.1.2.2.1 u12.2.2.2.2.2.2.2.1.2.2.2)))))), (u12.2.2.2.2.2.2.2.1.1, .inr (0, fl (u12.2.2.2.2.2.2.2.2 0))), (u12.2.2.2.2.2.2.2.1.2.1, .inr (0, fl (u12.2.2.2.2.2.2.2.2 1))), (u12.2.2.2.2.2.2.2.1.2.2.1, .inr (0, fl (u12.2.2.2.2.2.2.2.2 2))), (u12.2.2.2.2.2.2.2.1.2.2.2, .inr (0, fl (u12.2.2.2.2.2.2.2.2 3))), (o, .inl (cO, 1, .inr (.inl (aL u12.2.1))))]) (w1 := (mwu x n2 r2 d2 ya yb yc yo cI2 cJ N v14)) hP hD [10, 11, 12, 13, 14, 15, 16, 17] [0, 1, 2, 3, 4, 5, 6, 7, 8, 9] rfl rfl (by decide) (by decide) hk1 hFc hP1 hD1
    generalize H1 = H at hP hS ⊢
    have hP := hP.sub (ws' := (lwd h n r d f cI cF N u12.2.2 o cO u12.2.1 x n2 r2 d2 ya yb yc yo cI2 cJ N v14)) [0, 1, 2, 3, 4, 5, 6, 7, 8, 9, 10, 11, 12, 13, 14, 15, 16, 17] rfl
    have hD := hD.sub (ws' := (lwd h n r d f cI cF N u12.2.2 o cO u12.2.1 x n2 r2 d2 ya yb yc yo cI2 cJ N v14)) [0, 1, 2, 3, 4, 5, 6, 7, 8, 9, 10, 11, 12, 13, 14, 15, 16, 17] (by decide) rfl
    refine lv_istore (lv' := [(6, .int r16), (5, .int (iI u12.1)), (0, .ref b), (1, .ref h), (2, .ref x), (3, .ref o), (4, .int (iI i))]) hx hb dL_law_681 hl (by decide) rfl (fun ls hl => ?_)
    refine lv_aload_n hx hb dL_law_683 rfl (lv_at hl 4 rfl) ?_
    have hPc := hP.sub (ws' := [(x, .inr (2, [.int (iI v14.1), .ref n2, .ref r2, .ref d2, .int (iI v14.2.1), .int (iI v14.2.2.2.2.2.1), .ref ya, .ref yb, .ref yc, .ref yo, .long (lI (v14.2.2.1 0)), .long (lI (v14.2.2.1 1)), .long (lI (v14.2.2.1 2)), .long (lI (v14.2.2.1 3)), .long (lI (v14.2.2.1 4)), .long (lI (v14.2.2.1 5)), .long (lI (v14.2.2.1 6))]))]) [10] rfl
    have hKc := hK.sub (tys' := []) [] rfl
    refine vp_callSi (W.runV (As := []) (rest := []) ⟨hx, hb, hml, hown, hw⟩ (kX2_thrown l dC dI x n2 r2 d2 ya yb yc yo cI2 cJ v14.1 v14.2.1 v14.2.2.2.2.2.1 v14.2.2.1) (cwV 0 hw (gV mA_434 mA_435 mA_436 mA_3 mA_437) rfl rfl rfl (by decide +kernel) ⟨Nat.le_of_ble_eq_true rfl, Nat.le_of_ble_eq_true rfl⟩) ⟨fun a U g mk q => by obtain ⟨q0, qP, qK⟩ := q; exact ⟨q0, qP, va_K.moved (u := U) (U := U.calling g mk a) (Vm.Alike.refl U.vm) qK⟩, va_recv hKc hPc (ci := 2) (q0 := 0) rfl rfl, fun U hU hW => ⟨rfl, by rw [hU]; exact hPc, va_K.moved hW.alike hKc⟩⟩ rfl rfl hl.1 rfl (lv_room (Nat.le_of_ble_eq_true rfl)) dL_law_684 ⟨by show _ ≤ 672099; omega, by show _ ≤ 7079807; omega⟩) (fun r17 h18 => ?_)
    subst h18
    refine W.eq (g2 := F0 m 687 ls [.int (iI v14.1)]) rfl ?_
    refine lv_iload hx hb dL_law_687 (lv_at hl 1 rfl) ?_
    obtain ⟨g1, g3⟩ := hv15
    obtain ⟨hL1, hL2⟩ := L_floor (ι := iI) (Or.inr rfl) hH g3
    refine ix_icmp_eq (tgt := 694) hx hb dL_law_689 (by decide) (show r32 v14.1 by rw [show v14.1 = u12.1 from hL1]; exact ⟨by omega, by omega⟩) ⟨by omega, by omega⟩ (fun _ => ?_) (fun c9 => absurd hL1 c9)
    refine lv_iload hx hb dL_law_694 (lv_at hl 1 rfl) ?_
    refine ix_if_ne (tgt := 711) hx hb dL_law_696 (by decide) ⟨by omega, by omega⟩ (fun c19 => ?_) (fun c19 => ?_)
    · refine lv_goto (tgt := 849) hx hb dL_law_711 (by decide) ?_
      refine W.widen (k := cells + 5) (n := slots + 30) (by omega) (by omega) ?_
      exact kk N u12.2.1 u12.2.2 v14 _ _ hH.1 g1 hO1 hP hD hS ls (lv_sub hl [2, 3, 4, 5, 6] rfl)
    · have h0 : u12.1 = 0 := by omega
      have hb9 := hL2 h0
      rw [hb9] at hl
      refine lv_aload_n hx hb dL_law_699 rfl (lv_at hl 5 rfl) ?_
      refine ix_iconst (n := 0) hx hb dL_law_700 ?_
      refine ix_lald (k := 0) hx hb hK hP 9 2 rfl rfl (by decide) (by decide) (by decide) dL_law_701 ?_
      refine lv_iload hx hb dL_law_702 (lv_at hl 0 rfl) ?_
      refine ix_i2l hx hb dL_law_704 ⟨by omega, by omega⟩ ?_
      refine ix_lc_eq (tgt := 711) hx hb dL_law_705 dL_law_706 (by decide) ⟨by have := hO1.1; omega, by have := hO1.2; omega⟩ ⟨by have := hO1.1; omega, by have := hO1.2; omega⟩ (fun _ => ?_) (fun c9 => absurd rfl c9)
      refine lv_goto (tgt := 849) hx hb dL_law_711 (by decide) ?_
      refine W.widen (k := cells + 5) (n := slots + 30) (by omega) (by omega) ?_
      exact kk N u12.2.1 u12.2.2 v14 _ _ hH.1 g1 hO1 hP hD hS ls (lv_sub hl [2, 3, 4, 5, 6] rfl)
