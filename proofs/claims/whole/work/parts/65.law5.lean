set_option maxHeartbeats 4000000 in
set_option maxRecDepth 100000 in
theorem lc_compare {p : Program} {l : Launch} {e : Env} {s : State} {m : MethodId} {below : List Frame} {meth : Method} {c : Code} {dC : Nat → ClassId} {dI : Nat → Nat → Nat} {b L : Nat} {xs : Nat → Int32} {A : Nat → Prop} {h n r d f o x n2 r2 d2 ya yb yc yo : Nat} {cI cF cO cI2 cJ : ClassId} (hlt : l.stackTraces = false) (hL : L ≤ 2560) (hX : va_X b L xs s s.heap) (hbl : b < s.heap.size) (hbA : ¬ A b) (hA : ∀ q : Nat, s.heap.size ≤ q → A q) (hnb : nb s) (hnc : nc s) (hzt : zt A s) (C0 : cx p s m meth c #[Value.ref b] RL cL_law 7 ret) (hK : va_K (dC, dI) vwCl [(cI, .int), (cF, .object RX0), (cO, .long), (cI2, .int), (cJ, .long)] s) {i : Int} (hi : 0 ≤ i ∧ i + 5 ≤ L) {N O : Int → Int} {u : CS} {v : MT} (hci : CIu N u) (hmi : MI v) (hO : r32 (O 0)) {cells slots : Nat} (hcs : cells + 5 ≤ 672099 ∧ slots + 30 ≤ 7079807)
    (kk : ∀ (N O : Int → Int) (u : CS) (v : MT) (H : Heap) (locs : List Loc), CIu N u → MI v → r32 (O 0) → va_P (dC, dI) vwCl (lwd h n r d f cI cF N u o cO O x n2 r2 d2 ya yb yc yo cI2 cJ N v) H → va_D A (lwd h n r d f cI cF N u o cO O x n2 r2 d2 ya yb yc yo cI2 cJ N v) → va_S A s.heap H locs → ∀ (ls : Array Slot), lv_has ls 7 [(0, .ref b), (1, .ref h), (2, .ref x), (3, .ref o), (4, .int (iI i))] → W p l e room_1 s m #[Value.ref b] below meth c H locs (cells + 5) (slots + 30) (lw_Z below #[Value.ref b] s) (F0 m 849 ls []))
    {H : Heap} {locs : List Loc} (hP : va_P (dC, dI) vwCl (lwd h n r d f cI cF N u o cO O x n2 r2 d2 ya yb yc yo cI2 cJ N v) H) (hD : va_D A (lwd h n r d f cI cF N u o cO O x n2 r2 d2 ya yb yc yo cI2 cJ N v)) (hS : va_S A s.heap H locs) {ls : Array Slot} (hl : lv_has ls 7 [(0, .ref b), (1, .ref h), (2, .ref x), (3, .ref o), (4, .int (iI i))]) : W p l e room_1 s m #[Value.ref b] below meth c H locs cells slots (lw_Z below #[Value.ref b] s) (F0 m 714 ls []) := by
  obtain ⟨hx, hb, hr, hml, hown, hw, hlocks⟩ := C0
  have h5 := hci.1
  have hN := hci.2.1
  refine lv_aload_n hx hb dL_law_714 rfl (lv_at hl 1 rfl) ?_
  refine lv_aload_n hx hb dL_law_715 rfl (lv_at hl 0 rfl) ?_
  refine lv_iload hx hb dL_law_716 (lv_at hl 4 rfl) ?_
  refine ix_iconst (n := 1) hx hb dL_law_718 ?_
  refine ix_iadd hx hb dL_law_719 ?_
  refine ix_sld (k := i + 1) hx hb hX hbl hbA hS (by omega) (by omega) hL dL_law_720 ?_
  refine lv_aload_n hx hb dL_law_721 rfl (lv_at hl 0 rfl) ?_
  refine lv_iload hx hb dL_law_722 (lv_at hl 4 rfl) ?_
  refine ix_iconst (n := 2) hx hb dL_law_724 ?_
  refine ix_iadd hx hb dL_law_725 ?_
  refine ix_sld (k := i + 2) hx hb hX hbl hbA hS (by omega) (by omega) hL dL_law_726 ?_
  refine ix_if_eq (tgt := 734) hx hb dL_law_727 (by decide) (sc_r _ _) (fun c1 => ?_) (fun c1 => ?_)
  · refine ix_iconst (n := 0) hx hb dL_law_734 ?_
    refine lv_aload_n hx hb dL_law_735 rfl (lv_at hl 0 rfl) ?_
    refine lv_iload hx hb dL_law_736 (lv_at hl 4 rfl) ?_
    refine ix_iconst (n := 3) hx hb dL_law_738 ?_
    refine ix_iadd hx hb dL_law_739 ?_
    refine ix_sld (k := i + 3) hx hb hX hbl hbA hS (by omega) (by omega) hL dL_law_740 ?_
    refine lv_aload_n hx hb dL_law_741 rfl (lv_at hl 0 rfl) ?_
    refine lv_iload hx hb dL_law_742 (lv_at hl 4 rfl) ?_
    refine ix_iconst (n := 4) hx hb dL_law_744 ?_
    refine ix_iadd hx hb dL_law_745 ?_
    refine ix_sld (k := i + 4) hx hb hX hbl hbA hS (by omega) (by omega) hL dL_law_746 ?_
    refine ix_if_eq (tgt := 754) hx hb dL_law_747 (by decide) (sc_r _ _) (fun c2 => ?_) (fun c2 => ?_)
    · refine ix_iconst (n := 0) hx hb dL_law_754 ?_
      refine lv_aload_n hx hb dL_law_755 rfl (lv_at hl 3 rfl) ?_
      have hPc := hP.sub (ws' := (cwou h n r d f cI cF N u o cO O)) [0, 1, 2, 3, 4, 5, 6, 7, 8, 9] rfl
      have hDc := hD.sub (ws' := (cwou h n r d f cI cF N u o cO O)) [0, 1, 2, 3, 4, 5, 6, 7, 8, 9] (by decide) rfl
      have hKc := hK.sub (tys' := [(cI, .int), (cF, .object RX0), (cO, .long)]) [0, 1, 2] rfl
      have hFc := va_free (wc := (cwou h n r d f cI cF N u o cO O)) hD hS hA [0, 1, 2, 3, 4, 5, 6, 7, 8, 9] rfl
      refine va_calli (vx_runSW (As := [.ref h, .int (iI (sc xs (i + 1))), .int (iI 0), .int (iI (sc xs (i + 3))), .int (iI 0), .ref o]) (rest := []) ⟨hx, hb, hml, hown, hw⟩ (kL_compare l hlt dC dI _ h n r d f u.2.2.2.2.2.1.1 u.2.2.2.2.2.1.2.1 u.2.2.2.2.2.1.2.2.1 u.2.2.2.2.2.1.2.2.2 o cI cF cO N u.1 u.2.1 u.2.2.1 u.2.2.2.1 u.2.2.2.2.1 u.2.2.2.2.2.2 O hO hci (sc xs (i + 1)) 0 (sc xs (i + 3)) 0 (sc_r _ _) (Or.inl rfl) (sc_r _ _) (Or.inl rfl)) (vx_cwSW 6 hw (gSW mA_358 mA_359 mA_0 mW_compare) rfl rfl rfl (by decide +kernel) ⟨Nat.le_of_ble_eq_true rfl, Nat.le_of_ble_eq_true rfl⟩) ⟨fun a U g mk q => by obtain ⟨q0, q1, qP, qK, qD, qN, qC, qZ⟩ := q; exact ⟨q0, q1, qP, va_K.moved (u := U) (U := U.calling g mk a) (Vm.Alike.refl U.vm) qK, qD, nb.same (u := U) rfl qN, nc.moved (u := U) (U := U.calling g mk a) (Vm.Alike.refl U.vm) qC, zt.go (u := U) qZ (Vm.Alike.refl U.vm) (fun _ q => q) (fun _ _ _ => rfl)⟩, fun U hU hW => ⟨rfl, by rw [hU], by rw [hU]; exact hPc, va_K.moved hW.alike hKc, hDc.weaken (fun _ _ _ _ => trivial), nb.warm hW hnb, nc.moved hW.alike hnc, zt2 hzt hS hU hW.alike hFc⟩⟩ rfl rfl hl.1 rfl (lv_room (Nat.le_of_ble_eq_true rfl)) dL_law_756 ⟨by show _ ≤ 672099; omega, by show _ ≤ 7079807; omega⟩) hS (fun q _ h => hFc q h) hFc (fun r3 u4 t9 H1 locs ht hvm hq5 hB hz1 hk1 hS => ?_)
      obtain ⟨hP1, hK1, hD1⟩ := hB
      rw [ht] at hP1
      obtain ⟨e1, hO1, hH⟩ := hq5
      subst e1
      obtain ⟨hP, hD⟩ := va_join (wr := [(x, .inr (2, [.int (iI v.1), .ref n2, .ref r2, .ref d2, .int (iI v.2.1), .int (iI v.2.2.2.2.2.1), .ref ya, .ref yb, .ref yc, .ref yo, .long (lI (v.2.2.1 0)), .long (lI (v.2.2.1 1)), .long (lI (v.2.2.1 2)), .long (lI (v.2.2.1 3)), .long (lI (v.2.2.1 4)), .long (lI (v.2.2.1 5)), .long (lI (v.2.2.1 6))])), (n2, .inl (cI2, 5, .inl (aI N))), (r2, .inl (cJ, 5, .inr (.inl (aL v.2.2.2.1)))), (d2, .inl (cJ, 5, .inr (.inl (aL v.2.2.2.2.1)))), (ya, .inl (cI2, 5, .inl (aI v.2.2.2.2.2.2.1))), (yb, .inl (cI2, 5, .inl (aI v.2.2.2.2.2.2.2.1))), (yc, .inl (cI2, 5, .inl (aI v.2.2.2.2.2.2.2.2.1))), (yo, .inl (cI2, 5, .inl (aI v.2.2.2.2.2.2.2.2.2)))]) (w1 := (cwou h n r d f cI cF N u4.2.2 o cO u4.2.1)) hP hD [0, 1, 2, 3, 4, 5, 6, 7, 8, 9] [10, 11, 12, 13, 14, 15, 16, 17] rfl rfl (by decide) (by decide) hk1 hFc hP1 hD1
      generalize H1 = H at hP hS ⊢
      have hP := hP.sub (ws' := (lwd h n r d f cI cF N u4.2.2 o cO u4.2.1 x n2 r2 d2 ya yb yc yo cI2 cJ N v)) [8, 9, 10, 11, 12, 13, 14, 15, 16, 17, 0, 1, 2, 3, 4, 5, 6, 7] rfl
      have hD := hD.sub (ws' := (lwd h n r d f cI cF N u4.2.2 o cO u4.2.1 x n2 r2 d2 ya yb yc yo cI2 cJ N v)) [8, 9, 10, 11, 12, 13, 14, 15, 16, 17, 0, 1, 2, 3, 4, 5, 6, 7] (by decide) rfl
      have hkc := R_compare hH
      refine lv_istore (lv' := [(5, .int (iI u4.1)), (0, .ref b), (1, .ref h), (2, .ref x), (3, .ref o), (4, .int (iI i))]) hx hb dL_law_759 hl (by decide) rfl (fun ls hl => ?_)
      refine lv_aload_n hx hb dL_law_761 rfl (lv_at hl 3 rfl) ?_
      refine lv_aload_n hx hb dL_law_762 rfl (lv_at hl 1 rfl) ?_
      refine lv_iload hx hb dL_law_763 (lv_at hl 5 rfl) ?_
      refine ix_iconst (n := 1) hx hb dL_law_765 ?_
      refine ix_iadd hx hb dL_law_766 ?_
      refine ix_sld (k := i + 1) hx hb hX hbl hbA hS (by omega) (by omega) hL dL_law_767 ?_
      refine lv_aload_n hx hb dL_law_768 rfl (lv_at hl 1 rfl) ?_
      refine lv_iload hx hb dL_law_769 (lv_at hl 5 rfl) ?_
      refine ix_iconst (n := 2) hx hb dL_law_771 ?_
      refine ix_iadd hx hb dL_law_772 ?_
      refine ix_sld (k := i + 2) hx hb hX hbl hbA hS (by omega) (by omega) hL dL_law_773 ?_
      refine ix_if_eq (tgt := 781) hx hb dL_law_774 (by decide) (sc_r _ _) (fun _ => ?_) (fun c9 => absurd c1 c9)
      refine ix_iconst (n := 0) hx hb dL_law_781 ?_
      refine lv_aload_n hx hb dL_law_782 rfl (lv_at hl 1 rfl) ?_
      refine lv_iload hx hb dL_law_783 (lv_at hl 5 rfl) ?_
      refine ix_iconst (n := 3) hx hb dL_law_785 ?_
      refine ix_iadd hx hb dL_law_786 ?_
      refine ix_sld (k := i + 3) hx hb hX hbl hbA hS (by omega) (by omega) hL dL_law_787 ?_
      refine lv_aload_n hx hb dL_law_788 rfl (lv_at hl 1 rfl) ?_
      refine lv_iload hx hb dL_law_789 (lv_at hl 5 rfl) ?_
      refine ix_iconst (n := 4) hx hb dL_law_791 ?_
      refine ix_iadd hx hb dL_law_792 ?_
      refine ix_sld (k := i + 4) hx hb hX hbl hbA hS (by omega) (by omega) hL dL_law_793 ?_
      refine ix_if_eq (tgt := 801) hx hb dL_law_794 (by decide) (sc_r _ _) (fun _ => ?_) (fun c9 => absurd c2 c9)
      refine ix_iconst (n := 0) hx hb dL_law_801 ?_
      have hPc := hP.sub (ws' := (mwu x n2 r2 d2 ya yb yc yo cI2 cJ N v)) [10, 11, 12, 13, 14, 15, 16, 17] rfl
      have hDc := hD.sub (ws' := (mwu x n2 r2 d2 ya yb yc yo cI2 cJ N v)) [10, 11, 12, 13, 14, 15, 16, 17] (by decide) rfl
      have hKc := hK.sub (tys' := [(cI2, .int), (cJ, .long)]) [3, 4] rfl
      have hFc := va_free (wc := (mwu x n2 r2 d2 ya yb yc yo cI2 cJ N v)) hD hS hA [10, 11, 12, 13, 14, 15, 16, 17] rfl
      refine va_calli (va_runV (As := [.int (iI (sc xs (i + 1))), .int (iI 0), .int (iI (sc xs (i + 3))), .int (iI 0)]) (rest := []) ⟨hx, hb, hml, hown, hw⟩ (kX2_compare l dC dI _ x n2 r2 d2 ya yb yc yo cI2 cJ v.1 v.2.1 v.2.2.2.2.2.1 v.2.2.1 N v.2.2.2.1 v.2.2.2.2.1 v.2.2.2.2.2.2.1 v.2.2.2.2.2.2.2.1 v.2.2.2.2.2.2.2.2.1 v.2.2.2.2.2.2.2.2.2 hN h5 hmi.1 hmi.2 (sc xs (i + 1)) 0 (sc xs (i + 3)) 0 (sc_r _ _) (Or.inl rfl) (sc_r _ _) (Or.inl rfl)) (cwV 4 hw (gV mA_549 mA_550 mA_551 mA_3 mA_552) rfl rfl rfl (by decide +kernel) ⟨Nat.le_of_ble_eq_true rfl, Nat.le_of_ble_eq_true rfl⟩) ⟨fun a U g mk q => by obtain ⟨q0, q1, qP, qK, qD, qN⟩ := q; exact ⟨q0, q1, qP, va_K.moved (u := U) (U := U.calling g mk a) (Vm.Alike.refl U.vm) qK, qD, nb.same (u := U) rfl qN⟩, va_recv hKc hPc (ci := 2) (q0 := 0) rfl rfl, fun U hU hW => ⟨rfl, by rw [hU], by rw [hU]; exact hPc, va_K.moved hW.alike hKc, hDc.weaken (fun _ _ _ _ => trivial), nb.warm hW hnb⟩⟩ rfl rfl hl.1 rfl (lv_room (Nat.le_of_ble_eq_true rfl)) dL_law_802 ⟨by show _ ≤ 672099; omega, by show _ ≤ 7079807; omega⟩) hS (fun q _ h => hFc q h) hFc (fun r8 v6 t9 H1 locs ht hvm hv7 hB hz1 hk1 hS => ?_)
      obtain ⟨hP1, hK1, hD1⟩ := hB
      rw [ht] at hP1
      obtain ⟨hP, hD⟩ := va_join (wr := [(h, .inr (1, [.ref n, .ref r, .ref d, .ref f, .int (iI u4.2.2.2.2.2.1), .int (iI u4.2.2.2.2.1), .int (iI u4.2.2.2.2.2.2.1)])), (n, .inl (cI, 5, .inl (aI N))), (r, .inl (cI, 5, .inl (aI u4.2.2.1))), (d, .inl (cI, 5, .inl (aI u4.2.2.2.1))), (f, .inl (cF, 4, .inr (.inr (.inr (.inr (q4 u4.2.2.2.2.2.2.2.1.1 u4.2.2.2.2.2.2.2.1.2.1 u4.2.2.2.2.2.2.2.1.2.2.1 u4.2.2.2.2.2.2.2.1.2.2.2)))))), (u4.2.2.2.2.2.2.2.1.1, .inr (0, fl (u4.2.2.2.2.2.2.2.2 0))), (u4.2.2.2.2.2.2.2.1.2.1, .inr (0, fl (u4.2.2.2.2.2.2.2.2 1))), (u4.2.2.2.2.2.2.2.1.2.2.1, .inr (0, fl (u4.2.2.2.2.2.2.2.2 2))), (u4.2.2.2.2.2.2.2.1.2.2.2, .inr (0, fl (u4.2.2.2.2.2.2.2.2 3))), (o, .inl (cO, 1, .inr (.inl (aL u4.2.1))))]) (w1 := (mwu x n2 r2 d2 ya yb yc yo cI2 cJ N v6)) hP hD [10, 11, 12, 13, 14, 15, 16, 17] [0, 1, 2, 3, 4, 5, 6, 7, 8, 9] rfl rfl (by decide) (by decide) hk1 hFc hP1 hD1
      generalize H1 = H at hP hS ⊢
      have hP := hP.sub (ws' := (lwd h n r d f cI cF N u4.2.2 o cO u4.2.1 x n2 r2 d2 ya yb yc yo cI2 cJ N v6)) [0, 1, 2, 3, 4, 5, 6, 7, 8, 9, 10, 11, 12, 13, 14, 15, 16, 17] rfl
      have hD := hD.sub (ws' := (lwd h n r d f cI cF N u4.2.2 o cO u4.2.1 x n2 r2 d2 ya yb yc yo cI2 cJ N v6)) [0, 1, 2, 3, 4, 5, 6, 7, 8, 9, 10, 11, 12, 13, 14, 15, 16, 17] (by decide) rfl
      refine lv_istore (lv' := [(6, .int r8), (5, .int (iI u4.1)), (0, .ref b), (1, .ref h), (2, .ref x), (3, .ref o), (4, .int (iI i))]) hx hb dL_law_805 hl (by decide) rfl (fun ls hl => ?_)
      refine lv_aload_n hx hb dL_law_807 rfl (lv_at hl 4 rfl) ?_
      have hPc := hP.sub (ws' := [(x, .inr (2, [.int (iI v6.1), .ref n2, .ref r2, .ref d2, .int (iI v6.2.1), .int (iI v6.2.2.2.2.2.1), .ref ya, .ref yb, .ref yc, .ref yo, .long (lI (v6.2.2.1 0)), .long (lI (v6.2.2.1 1)), .long (lI (v6.2.2.1 2)), .long (lI (v6.2.2.1 3)), .long (lI (v6.2.2.1 4)), .long (lI (v6.2.2.1 5)), .long (lI (v6.2.2.1 6))]))]) [10] rfl
      have hKc := hK.sub (tys' := []) [] rfl
      refine vp_callSi (W.runV (As := []) (rest := []) ⟨hx, hb, hml, hown, hw⟩ (kX2_thrown l dC dI x n2 r2 d2 ya yb yc yo cI2 cJ v6.1 v6.2.1 v6.2.2.2.2.2.1 v6.2.2.1) (cwV 0 hw (gV mA_434 mA_435 mA_436 mA_3 mA_437) rfl rfl rfl (by decide +kernel) ⟨Nat.le_of_ble_eq_true rfl, Nat.le_of_ble_eq_true rfl⟩) ⟨fun a U g mk q => by obtain ⟨q0, qP, qK⟩ := q; exact ⟨q0, qP, va_K.moved (u := U) (U := U.calling g mk a) (Vm.Alike.refl U.vm) qK⟩, va_recv hKc hPc (ci := 2) (q0 := 0) rfl rfl, fun U hU hW => ⟨rfl, by rw [hU]; exact hPc, va_K.moved hW.alike hKc⟩⟩ rfl rfl hl.1 rfl (lv_room (Nat.le_of_ble_eq_true rfl)) dL_law_808 ⟨by show _ ≤ 672099; omega, by show _ ≤ 7079807; omega⟩) (fun r9 h10 => ?_)
      subst h10
      refine W.eq (g2 := F0 m 811 ls [.int (iI v6.1)]) rfl ?_
      refine lv_iload hx hb dL_law_811 (lv_at hl 1 rfl) ?_
      obtain ⟨g1, g3⟩ := hv7
      obtain ⟨hL1, hL2⟩ := L_compare (ι := iI) (Or.inl rfl) (Or.inl rfl) hH g3
      refine ix_icmp_eq (tgt := 818) hx hb dL_law_813 (by decide) (show r32 v6.1 by rw [show v6.1 = u4.1 from hL1]; exact ⟨by omega, by omega⟩) ⟨by omega, by omega⟩ (fun _ => ?_) (fun c9 => absurd hL1 c9)
      refine lv_iload hx hb dL_law_818 (lv_at hl 1 rfl) ?_
      refine ix_if_ne (tgt := 835) hx hb dL_law_820 (by decide) ⟨by omega, by omega⟩ (fun c11 => ?_) (fun c11 => ?_)
      · refine lv_goto (tgt := 849) hx hb dL_law_835 (by decide) ?_
        refine W.widen (k := cells + 5) (n := slots + 30) (by omega) (by omega) ?_
        exact kk N u4.2.1 u4.2.2 v6 _ _ hH.1 g1 hO1 hP hD hS ls (lv_sub hl [2, 3, 4, 5, 6] rfl)
      · have h0 : u4.1 = 0 := by omega
        have hb9 := hL2 h0
        rw [hb9] at hl
        refine lv_aload_n hx hb dL_law_823 rfl (lv_at hl 5 rfl) ?_
        refine ix_iconst (n := 0) hx hb dL_law_824 ?_
        refine ix_lald (k := 0) hx hb hK hP 9 2 rfl rfl (by decide) (by decide) (by decide) dL_law_825 ?_
        refine lv_iload hx hb dL_law_826 (lv_at hl 0 rfl) ?_
        refine ix_i2l hx hb dL_law_828 ⟨by omega, by omega⟩ ?_
        refine ix_lc_eq (tgt := 835) hx hb dL_law_829 dL_law_830 (by decide) ⟨by have := hO1.1; omega, by have := hO1.2; omega⟩ ⟨by have := hO1.1; omega, by have := hO1.2; omega⟩ (fun _ => ?_) (fun c9 => absurd rfl c9)
        refine lv_goto (tgt := 849) hx hb dL_law_835 (by decide) ?_
        refine W.widen (k := cells + 5) (n := slots + 30) (by omega) (by omega) ?_
        exact kk N u4.2.1 u4.2.2 v6 _ _ hH.1 g1 hO1 hP hD hS ls (lv_sub hl [2, 3, 4, 5, 6] rfl)
    · refine ix_iconst (n := 1) hx hb dL_law_750 ?_
      refine lv_goto (tgt := 755) hx hb dL_law_751 (by decide) ?_
      refine lv_aload_n hx hb dL_law_755 rfl (lv_at hl 3 rfl) ?_
      have hPc := hP.sub (ws' := (cwou h n r d f cI cF N u o cO O)) [0, 1, 2, 3, 4, 5, 6, 7, 8, 9] rfl
      have hDc := hD.sub (ws' := (cwou h n r d f cI cF N u o cO O)) [0, 1, 2, 3, 4, 5, 6, 7, 8, 9] (by decide) rfl
      have hKc := hK.sub (tys' := [(cI, .int), (cF, .object RX0), (cO, .long)]) [0, 1, 2] rfl
      have hFc := va_free (wc := (cwou h n r d f cI cF N u o cO O)) hD hS hA [0, 1, 2, 3, 4, 5, 6, 7, 8, 9] rfl
      refine va_calli (vx_runSW (As := [.ref h, .int (iI (sc xs (i + 1))), .int (iI 0), .int (iI (sc xs (i + 3))), .int (iI 1), .ref o]) (rest := []) ⟨hx, hb, hml, hown, hw⟩ (kL_compare l hlt dC dI _ h n r d f u.2.2.2.2.2.1.1 u.2.2.2.2.2.1.2.1 u.2.2.2.2.2.1.2.2.1 u.2.2.2.2.2.1.2.2.2 o cI cF cO N u.1 u.2.1 u.2.2.1 u.2.2.2.1 u.2.2.2.2.1 u.2.2.2.2.2.2 O hO hci (sc xs (i + 1)) 0 (sc xs (i + 3)) 1 (sc_r _ _) (Or.inl rfl) (sc_r _ _) (Or.inr rfl)) (vx_cwSW 6 hw (gSW mA_358 mA_359 mA_0 mW_compare) rfl rfl rfl (by decide +kernel) ⟨Nat.le_of_ble_eq_true rfl, Nat.le_of_ble_eq_true rfl⟩) ⟨fun a U g mk q => by obtain ⟨q0, q1, qP, qK, qD, qN, qC, qZ⟩ := q; exact ⟨q0, q1, qP, va_K.moved (u := U) (U := U.calling g mk a) (Vm.Alike.refl U.vm) qK, qD, nb.same (u := U) rfl qN, nc.moved (u := U) (U := U.calling g mk a) (Vm.Alike.refl U.vm) qC, zt.go (u := U) qZ (Vm.Alike.refl U.vm) (fun _ q => q) (fun _ _ _ => rfl)⟩, fun U hU hW => ⟨rfl, by rw [hU], by rw [hU]; exact hPc, va_K.moved hW.alike hKc, hDc.weaken (fun _ _ _ _ => trivial), nb.warm hW hnb, nc.moved hW.alike hnc, zt2 hzt hS hU hW.alike hFc⟩⟩ rfl rfl hl.1 rfl (lv_room (Nat.le_of_ble_eq_true rfl)) dL_law_756 ⟨by show _ ≤ 672099; omega, by show _ ≤ 7079807; omega⟩) hS (fun q _ h => hFc q h) hFc (fun r12 u13 t9 H1 locs ht hvm hq14 hB hz1 hk1 hS => ?_)
      obtain ⟨hP1, hK1, hD1⟩ := hB
      rw [ht] at hP1
      obtain ⟨e1, hO1, hH⟩ := hq14
      subst e1
      obtain ⟨hP, hD⟩ := va_join (wr := [(x, .inr (2, [.int (iI v.1), .ref n2, .ref r2, .ref d2, .int (iI v.2.1), .int (iI v.2.2.2.2.2.1), .ref ya, .ref yb, .ref yc, .ref yo, .long (lI (v.2.2.1 0)), .long (lI (v.2.2.1 1)), .long (lI (v.2.2.1 2)), .long (lI (v.2.2.1 3)), .long (lI (v.2.2.1 4)), .long (lI (v.2.2.1 5)), .long (lI (v.2.2.1 6))])), (n2, .inl (cI2, 5, .inl (aI N))), (r2, .inl (cJ, 5, .inr (.inl (aL v.2.2.2.1)))), (d2, .inl (cJ, 5, .inr (.inl (aL v.2.2.2.2.1)))), (ya, .inl (cI2, 5, .inl (aI v.2.2.2.2.2.2.1))), (yb, .inl (cI2, 5, .inl (aI v.2.2.2.2.2.2.2.1))), (yc, .inl (cI2, 5, .inl (aI v.2.2.2.2.2.2.2.2.1))), (yo, .inl (cI2, 5, .inl (aI v.2.2.2.2.2.2.2.2.2)))]) (w1 := (cwou h n r d f cI cF N u13.2.2 o cO u13.2.1)) hP hD [0, 1, 2, 3, 4, 5, 6, 7, 8, 9] [10, 11, 12, 13, 14, 15, 16, 17] rfl rfl (by decide) (by decide) hk1 hFc hP1 hD1
      generalize H1 = H at hP hS ⊢
      have hP := hP.sub (ws' := (lwd h n r d f cI cF N u13.2.2 o cO u13.2.1 x n2 r2 d2 ya yb yc yo cI2 cJ N v)) [8, 9, 10, 11, 12, 13, 14, 15, 16, 17, 0, 1, 2, 3, 4, 5, 6, 7] rfl
      have hD := hD.sub (ws' := (lwd h n r d f cI cF N u13.2.2 o cO u13.2.1 x n2 r2 d2 ya yb yc yo cI2 cJ N v)) [8, 9, 10, 11, 12, 13, 14, 15, 16, 17, 0, 1, 2, 3, 4, 5, 6, 7] (by decide) rfl
      have hkc := R_compare hH
      refine lv_istore (lv' := [(5, .int (iI u13.1)), (0, .ref b), (1, .ref h), (2, .ref x), (3, .ref o), (4, .int (iI i))]) hx hb dL_law_759 hl (by decide) rfl (fun ls hl => ?_)
      refine lv_aload_n hx hb dL_law_761 rfl (lv_at hl 3 rfl) ?_
      refine lv_aload_n hx hb dL_law_762 rfl (lv_at hl 1 rfl) ?_
      refine lv_iload hx hb dL_law_763 (lv_at hl 5 rfl) ?_
      refine ix_iconst (n := 1) hx hb dL_law_765 ?_
      refine ix_iadd hx hb dL_law_766 ?_
      refine ix_sld (k := i + 1) hx hb hX hbl hbA hS (by omega) (by omega) hL dL_law_767 ?_
      refine lv_aload_n hx hb dL_law_768 rfl (lv_at hl 1 rfl) ?_
      refine lv_iload hx hb dL_law_769 (lv_at hl 5 rfl) ?_
      refine ix_iconst (n := 2) hx hb dL_law_771 ?_
      refine ix_iadd hx hb dL_law_772 ?_
      refine ix_sld (k := i + 2) hx hb hX hbl hbA hS (by omega) (by omega) hL dL_law_773 ?_
      refine ix_if_eq (tgt := 781) hx hb dL_law_774 (by decide) (sc_r _ _) (fun _ => ?_) (fun c9 => absurd c1 c9)
      refine ix_iconst (n := 0) hx hb dL_law_781 ?_
      refine lv_aload_n hx hb dL_law_782 rfl (lv_at hl 1 rfl) ?_
      refine lv_iload hx hb dL_law_783 (lv_at hl 5 rfl) ?_
      refine ix_iconst (n := 3) hx hb dL_law_785 ?_
      refine ix_iadd hx hb dL_law_786 ?_
      refine ix_sld (k := i + 3) hx hb hX hbl hbA hS (by omega) (by omega) hL dL_law_787 ?_
      refine lv_aload_n hx hb dL_law_788 rfl (lv_at hl 1 rfl) ?_
      refine lv_iload hx hb dL_law_789 (lv_at hl 5 rfl) ?_
      refine ix_iconst (n := 4) hx hb dL_law_791 ?_
      refine ix_iadd hx hb dL_law_792 ?_
      refine ix_sld (k := i + 4) hx hb hX hbl hbA hS (by omega) (by omega) hL dL_law_793 ?_
      refine ix_if_eq (tgt := 801) hx hb dL_law_794 (by decide) (sc_r _ _) (fun c9 => absurd c9 c2) (fun _ => ?_)
      refine ix_iconst (n := 1) hx hb dL_law_797 ?_
      refine lv_goto (tgt := 802) hx hb dL_law_798 (by decide) ?_
      have hPc := hP.sub (ws' := (mwu x n2 r2 d2 ya yb yc yo cI2 cJ N v)) [10, 11, 12, 13, 14, 15, 16, 17] rfl
      have hDc := hD.sub (ws' := (mwu x n2 r2 d2 ya yb yc yo cI2 cJ N v)) [10, 11, 12, 13, 14, 15, 16, 17] (by decide) rfl
      have hKc := hK.sub (tys' := [(cI2, .int), (cJ, .long)]) [3, 4] rfl
      have hFc := va_free (wc := (mwu x n2 r2 d2 ya yb yc yo cI2 cJ N v)) hD hS hA [10, 11, 12, 13, 14, 15, 16, 17] rfl
      refine va_calli (va_runV (As := [.int (iI (sc xs (i + 1))), .int (iI 0), .int (iI (sc xs (i + 3))), .int (iI 1)]) (rest := []) ⟨hx, hb, hml, hown, hw⟩ (kX2_compare l dC dI _ x n2 r2 d2 ya yb yc yo cI2 cJ v.1 v.2.1 v.2.2.2.2.2.1 v.2.2.1 N v.2.2.2.1 v.2.2.2.2.1 v.2.2.2.2.2.2.1 v.2.2.2.2.2.2.2.1 v.2.2.2.2.2.2.2.2.1 v.2.2.2.2.2.2.2.2.2 hN h5 hmi.1 hmi.2 (sc xs (i + 1)) 0 (sc xs (i + 3)) 1 (sc_r _ _) (Or.inl rfl) (sc_r _ _) (Or.inr rfl)) (cwV 4 hw (gV mA_549 mA_550 mA_551 mA_3 mA_552) rfl rfl rfl (by decide +kernel) ⟨Nat.le_of_ble_eq_true rfl, Nat.le_of_ble_eq_true rfl⟩) ⟨fun a U g mk q => by obtain ⟨q0, q1, qP, qK, qD, qN⟩ := q; exact ⟨q0, q1, qP, va_K.moved (u := U) (U := U.calling g mk a) (Vm.Alike.refl U.vm) qK, qD, nb.same (u := U) rfl qN⟩, va_recv hKc hPc (ci := 2) (q0 := 0) rfl rfl, fun U hU hW => ⟨rfl, by rw [hU], by rw [hU]; exact hPc, va_K.moved hW.alike hKc, hDc.weaken (fun _ _ _ _ => trivial), nb.warm hW hnb⟩⟩ rfl rfl hl.1 rfl (lv_room (Nat.le_of_ble_eq_true rfl)) dL_law_802 ⟨by show _ ≤ 672099; omega, by show _ ≤ 7079807; omega⟩) hS (fun q _ h => hFc q h) hFc (fun r17 v15 t9 H1 locs ht hvm hv16 hB hz1 hk1 hS => ?_)
      obtain ⟨hP1, hK1, hD1⟩ := hB
      rw [ht] at hP1
      obtain ⟨hP, hD⟩ := va_join (wr := [(h, .inr (1, [.ref n, .ref r, .ref d, .ref f, .int (iI u13.2.2.2.2.2.1), .int (iI u13.2.2.2.2.1), .int (iI u13.2.2.2.2.2.2.1)])), (n, .inl (cI, 5, .inl (aI N))), (r, .inl (cI, 5, .inl (aI u13.2.2.1))), (d, .inl (cI, 5, .inl (aI u13.2.2.2.1))), (f, .inl (cF, 4, .inr (.inr (.inr (.inr (q4 u13.2.2.2.2.2.2.2.1.1 u13.2.2.2.2.2.2.2.1.2.1 u13.2.2.2.2.2.2.2.1.2.2.1 u13.2.2.2.2.2.2.2.1.2.2.2)))))), (u13.2.2.2.2.2.2.2.1.1, .inr (0, fl (u13.2.2.2.2.2.2.2.2 0))), (u13.2.2.2.2.2.2.2.1.2.1, .inr (0, fl (u13.2.2.2.2.2.2.2.2 1))), (u13.2.2.2.2.2.2.2.1.2.2.1, .inr (0, fl (u13.2.2.2.2.2.2.2.2 2))), (u13.2.2.2.2.2.2.2.1.2.2.2, .inr (0, fl (u13.2.2.2.2.2.2.2.2 3))), (o, .inl (cO, 1, .inr (.inl (aL u13.2.1))))]) (w1 := (mwu x n2 r2 d2 ya yb yc yo cI2 cJ N v15)) hP hD [10, 11, 12, 13, 14, 15, 16, 17] [0, 1, 2, 3, 4, 5, 6, 7, 8, 9] rfl rfl (by decide) (by decide) hk1 hFc hP1 hD1
      generalize H1 = H at hP hS ⊢
      have hP := hP.sub (ws' := (lwd h n r d f cI cF N u13.2.2 o cO u13.2.1 x n2 r2 d2 ya yb yc yo cI2 cJ N v15)) [0, 1, 2, 3, 4, 5, 6, 7, 8, 9, 10, 11, 12, 13, 14, 15, 16, 17] rfl
      have hD := hD.sub (ws' := (lwd h n r d f cI cF N u13.2.2 o cO u13.2.1 x n2 r2 d2 ya yb yc yo cI2 cJ N v15)) [0, 1, 2, 3, 4, 5, 6, 7, 8, 9, 10, 11, 12, 13, 14, 15, 16, 17] (by decide) rfl
      refine lv_istore (lv' := [(6, .int r17), (5, .int (iI u13.1)), (0, .ref b), (1, .ref h), (2, .ref x), (3, .ref o), (4, .int (iI i))]) hx hb dL_law_805 hl (by decide) rfl (fun ls hl => ?_)
      refine lv_aload_n hx hb dL_law_807 rfl (lv_at hl 4 rfl) ?_
      have hPc := hP.sub (ws' := [(x, .inr (2, [.int (iI v15.1), .ref n2, .ref r2, .ref d2, .int (iI v15.2.1), .int (iI v15.2.2.2.2.2.1), .ref ya, .ref yb, .ref yc, .ref yo, .long (lI (v15.2.2.1 0)), .long (lI (v15.2.2.1 1)), .long (lI (v15.2.2.1 2)), .long (lI (v15.2.2.1 3)), .long (lI (v15.2.2.1 4)), .long (lI (v15.2.2.1 5)), .long (lI (v15.2.2.1 6))]))]) [10] rfl
      have hKc := hK.sub (tys' := []) [] rfl
      refine vp_callSi (W.runV (As := []) (rest := []) ⟨hx, hb, hml, hown, hw⟩ (kX2_thrown l dC dI x n2 r2 d2 ya yb yc yo cI2 cJ v15.1 v15.2.1 v15.2.2.2.2.2.1 v15.2.2.1) (cwV 0 hw (gV mA_434 mA_435 mA_436 mA_3 mA_437) rfl rfl rfl (by decide +kernel) ⟨Nat.le_of_ble_eq_true rfl, Nat.le_of_ble_eq_true rfl⟩) ⟨fun a U g mk q => by obtain ⟨q0, qP, qK⟩ := q; exact ⟨q0, qP, va_K.moved (u := U) (U := U.calling g mk a) (Vm.Alike.refl U.vm) qK⟩, va_recv hKc hPc (ci := 2) (q0 := 0) rfl rfl, fun U hU hW => ⟨rfl, by rw [hU]; exact hPc, va_K.moved hW.alike hKc⟩⟩ rfl rfl hl.1 rfl (lv_room (Nat.le_of_ble_eq_true rfl)) dL_law_808 ⟨by show _ ≤ 672099; omega, by show _ ≤ 7079807; omega⟩) (fun r18 h19 => ?_)
      subst h19
      refine W.eq (g2 := F0 m 811 ls [.int (iI v15.1)]) rfl ?_
      refine lv_iload hx hb dL_law_811 (lv_at hl 1 rfl) ?_
      obtain ⟨g1, g3⟩ := hv16
      obtain ⟨hL1, hL2⟩ := L_compare (ι := iI) (Or.inl rfl) (Or.inr rfl) hH g3
      refine ix_icmp_eq (tgt := 818) hx hb dL_law_813 (by decide) (show r32 v15.1 by rw [show v15.1 = u13.1 from hL1]; exact ⟨by omega, by omega⟩) ⟨by omega, by omega⟩ (fun _ => ?_) (fun c9 => absurd hL1 c9)
      refine lv_iload hx hb dL_law_818 (lv_at hl 1 rfl) ?_
      refine ix_if_ne (tgt := 835) hx hb dL_law_820 (by decide) ⟨by omega, by omega⟩ (fun c20 => ?_) (fun c20 => ?_)
      · refine lv_goto (tgt := 849) hx hb dL_law_835 (by decide) ?_
        refine W.widen (k := cells + 5) (n := slots + 30) (by omega) (by omega) ?_
        exact kk N u13.2.1 u13.2.2 v15 _ _ hH.1 g1 hO1 hP hD hS ls (lv_sub hl [2, 3, 4, 5, 6] rfl)
      · have h0 : u13.1 = 0 := by omega
        have hb9 := hL2 h0
        rw [hb9] at hl
        refine lv_aload_n hx hb dL_law_823 rfl (lv_at hl 5 rfl) ?_
        refine ix_iconst (n := 0) hx hb dL_law_824 ?_
        refine ix_lald (k := 0) hx hb hK hP 9 2 rfl rfl (by decide) (by decide) (by decide) dL_law_825 ?_
        refine lv_iload hx hb dL_law_826 (lv_at hl 0 rfl) ?_
        refine ix_i2l hx hb dL_law_828 ⟨by omega, by omega⟩ ?_
        refine ix_lc_eq (tgt := 835) hx hb dL_law_829 dL_law_830 (by decide) ⟨by have := hO1.1; omega, by have := hO1.2; omega⟩ ⟨by have := hO1.1; omega, by have := hO1.2; omega⟩ (fun _ => ?_) (fun c9 => absurd rfl c9)
        refine lv_goto (tgt := 849) hx hb dL_law_835 (by decide) ?_
        refine W.widen (k := cells + 5) (n := slots + 30) (by omega) (by omega) ?_
        exact kk N u13.2.1 u13.2.2 v15 _ _ hH.1 g1 hO1 hP hD hS ls (lv_sub hl [2, 3, 4, 5, 6] rfl)
  · refine ix_iconst (n := 1) hx hb dL_law_730 ?_
    refine lv_goto (tgt := 735) hx hb dL_law_731 (by decide) ?_
    refine lv_aload_n hx hb dL_law_735 rfl (lv_at hl 0 rfl) ?_
    refine lv_iload hx hb dL_law_736 (lv_at hl 4 rfl) ?_
    refine ix_iconst (n := 3) hx hb dL_law_738 ?_
    refine ix_iadd hx hb dL_law_739 ?_
    refine ix_sld (k := i + 3) hx hb hX hbl hbA hS (by omega) (by omega) hL dL_law_740 ?_
    refine lv_aload_n hx hb dL_law_741 rfl (lv_at hl 0 rfl) ?_
    refine lv_iload hx hb dL_law_742 (lv_at hl 4 rfl) ?_
    refine ix_iconst (n := 4) hx hb dL_law_744 ?_
    refine ix_iadd hx hb dL_law_745 ?_
    refine ix_sld (k := i + 4) hx hb hX hbl hbA hS (by omega) (by omega) hL dL_law_746 ?_
    refine ix_if_eq (tgt := 754) hx hb dL_law_747 (by decide) (sc_r _ _) (fun c21 => ?_) (fun c21 => ?_)
    · refine ix_iconst (n := 0) hx hb dL_law_754 ?_
      refine lv_aload_n hx hb dL_law_755 rfl (lv_at hl 3 rfl) ?_
      have hPc := hP.sub (ws' := (cwou h n r d f cI cF N u o cO O)) [0, 1, 2, 3, 4, 5, 6, 7, 8, 9] rfl
      have hDc := hD.sub (ws' := (cwou h n r d f cI cF N u o cO O)) [0, 1, 2, 3, 4, 5, 6, 7, 8, 9] (by decide) rfl
      have hKc := hK.sub (tys' := [(cI, .int), (cF, .object RX0), (cO, .long)]) [0, 1, 2] rfl
      have hFc := va_free (wc := (cwou h n r d f cI cF N u o cO O)) hD hS hA [0, 1, 2, 3, 4, 5, 6, 7, 8, 9] rfl
      refine va_calli (vx_runSW (As := [.ref h, .int (iI (sc xs (i + 1))), .int (iI 1), .int (iI (sc xs (i + 3))), .int (iI 0), .ref o]) (rest := []) ⟨hx, hb, hml, hown, hw⟩ (kL_compare l hlt dC dI _ h n r d f u.2.2.2.2.2.1.1 u.2.2.2.2.2.1.2.1 u.2.2.2.2.2.1.2.2.1 u.2.2.2.2.2.1.2.2.2 o cI cF cO N u.1 u.2.1 u.2.2.1 u.2.2.2.1 u.2.2.2.2.1 u.2.2.2.2.2.2 O hO hci (sc xs (i + 1)) 1 (sc xs (i + 3)) 0 (sc_r _ _) (Or.inr rfl) (sc_r _ _) (Or.inl rfl)) (vx_cwSW 6 hw (gSW mA_358 mA_359 mA_0 mW_compare) rfl rfl rfl (by decide +kernel) ⟨Nat.le_of_ble_eq_true rfl, Nat.le_of_ble_eq_true rfl⟩) ⟨fun a U g mk q => by obtain ⟨q0, q1, qP, qK, qD, qN, qC, qZ⟩ := q; exact ⟨q0, q1, qP, va_K.moved (u := U) (U := U.calling g mk a) (Vm.Alike.refl U.vm) qK, qD, nb.same (u := U) rfl qN, nc.moved (u := U) (U := U.calling g mk a) (Vm.Alike.refl U.vm) qC, zt.go (u := U) qZ (Vm.Alike.refl U.vm) (fun _ q => q) (fun _ _ _ => rfl)⟩, fun U hU hW => ⟨rfl, by rw [hU], by rw [hU]; exact hPc, va_K.moved hW.alike hKc, hDc.weaken (fun _ _ _ _ => trivial), nb.warm hW hnb, nc.moved hW.alike hnc, zt2 hzt hS hU hW.alike hFc⟩⟩ rfl rfl hl.1 rfl (lv_room (Nat.le_of_ble_eq_true rfl)) dL_law_756 ⟨by show _ ≤ 672099; omega, by show _ ≤ 7079807; omega⟩) hS (fun q _ h => hFc q h) hFc (fun r22 u23 t9 H1 locs ht hvm hq24 hB hz1 hk1 hS => ?_)
      obtain ⟨hP1, hK1, hD1⟩ := hB
      rw [ht] at hP1
      obtain ⟨e1, hO1, hH⟩ := hq24
      subst e1
      obtain ⟨hP, hD⟩ := va_join (wr := [(x, .inr (2, [.int (iI v.1), .ref n2, .ref r2, .ref d2, .int (iI v.2.1), .int (iI v.2.2.2.2.2.1), .ref ya, .ref yb, .ref yc, .ref yo, .long (lI (v.2.2.1 0)), .long (lI (v.2.2.1 1)), .long (lI (v.2.2.1 2)), .long (lI (v.2.2.1 3)), .long (lI (v.2.2.1 4)), .long (lI (v.2.2.1 5)), .long (lI (v.2.2.1 6))])), (n2, .inl (cI2, 5, .inl (aI N))), (r2, .inl (cJ, 5, .inr (.inl (aL v.2.2.2.1)))), (d2, .inl (cJ, 5, .inr (.inl (aL v.2.2.2.2.1)))), (ya, .inl (cI2, 5, .inl (aI v.2.2.2.2.2.2.1))), (yb, .inl (cI2, 5, .inl (aI v.2.2.2.2.2.2.2.1))), (yc, .inl (cI2, 5, .inl (aI v.2.2.2.2.2.2.2.2.1))), (yo, .inl (cI2, 5, .inl (aI v.2.2.2.2.2.2.2.2.2)))]) (w1 := (cwou h n r d f cI cF N u23.2.2 o cO u23.2.1)) hP hD [0, 1, 2, 3, 4, 5, 6, 7, 8, 9] [10, 11, 12, 13, 14, 15, 16, 17] rfl rfl (by decide) (by decide) hk1 hFc hP1 hD1
      generalize H1 = H at hP hS ⊢
      have hP := hP.sub (ws' := (lwd h n r d f cI cF N u23.2.2 o cO u23.2.1 x n2 r2 d2 ya yb yc yo cI2 cJ N v)) [8, 9, 10, 11, 12, 13, 14, 15, 16, 17, 0, 1, 2, 3, 4, 5, 6, 7] rfl
      have hD := hD.sub (ws' := (lwd h n r d f cI cF N u23.2.2 o cO u23.2.1 x n2 r2 d2 ya yb yc yo cI2 cJ N v)) [8, 9, 10, 11, 12, 13, 14, 15, 16, 17, 0, 1, 2, 3, 4, 5, 6, 7] (by decide) rfl
      have hkc := R_compare hH
      refine lv_istore (lv' := [(5, .int (iI u23.1)), (0, .ref b), (1, .ref h), (2, .ref x), (3, .ref o), (4, .int (iI i))]) hx hb dL_law_759 hl (by decide) rfl (fun ls hl => ?_)
      refine lv_aload_n hx hb dL_law_761 rfl (lv_at hl 3 rfl) ?_
      refine lv_aload_n hx hb dL_law_762 rfl (lv_at hl 1 rfl) ?_
      refine lv_iload hx hb dL_law_763 (lv_at hl 5 rfl) ?_
      refine ix_iconst (n := 1) hx hb dL_law_765 ?_
      refine ix_iadd hx hb dL_law_766 ?_
      refine ix_sld (k := i + 1) hx hb hX hbl hbA hS (by omega) (by omega) hL dL_law_767 ?_
      refine lv_aload_n hx hb dL_law_768 rfl (lv_at hl 1 rfl) ?_
      refine lv_iload hx hb dL_law_769 (lv_at hl 5 rfl) ?_
      refine ix_iconst (n := 2) hx hb dL_law_771 ?_
      refine ix_iadd hx hb dL_law_772 ?_
      refine ix_sld (k := i + 2) hx hb hX hbl hbA hS (by omega) (by omega) hL dL_law_773 ?_
      refine ix_if_eq (tgt := 781) hx hb dL_law_774 (by decide) (sc_r _ _) (fun c9 => absurd c9 c1) (fun _ => ?_)
      refine ix_iconst (n := 1) hx hb dL_law_777 ?_
      refine lv_goto (tgt := 782) hx hb dL_law_778 (by decide) ?_
      refine lv_aload_n hx hb dL_law_782 rfl (lv_at hl 1 rfl) ?_
      refine lv_iload hx hb dL_law_783 (lv_at hl 5 rfl) ?_
      refine ix_iconst (n := 3) hx hb dL_law_785 ?_
      refine ix_iadd hx hb dL_law_786 ?_
      refine ix_sld (k := i + 3) hx hb hX hbl hbA hS (by omega) (by omega) hL dL_law_787 ?_
      refine lv_aload_n hx hb dL_law_788 rfl (lv_at hl 1 rfl) ?_
      refine lv_iload hx hb dL_law_789 (lv_at hl 5 rfl) ?_
      refine ix_iconst (n := 4) hx hb dL_law_791 ?_
      refine ix_iadd hx hb dL_law_792 ?_
      refine ix_sld (k := i + 4) hx hb hX hbl hbA hS (by omega) (by omega) hL dL_law_793 ?_
      refine ix_if_eq (tgt := 801) hx hb dL_law_794 (by decide) (sc_r _ _) (fun _ => ?_) (fun c9 => absurd c21 c9)
      refine ix_iconst (n := 0) hx hb dL_law_801 ?_
      have hPc := hP.sub (ws' := (mwu x n2 r2 d2 ya yb yc yo cI2 cJ N v)) [10, 11, 12, 13, 14, 15, 16, 17] rfl
      have hDc := hD.sub (ws' := (mwu x n2 r2 d2 ya yb yc yo cI2 cJ N v)) [10, 11, 12, 13, 14, 15, 16, 17] (by decide) rfl
      have hKc := hK.sub (tys' := [(cI2, .int), (cJ, .long)]) [3, 4] rfl
      have hFc := va_free (wc := (mwu x n2 r2 d2 ya yb yc yo cI2 cJ N v)) hD hS hA [10, 11, 12, 13, 14, 15, 16, 17] rfl
      refine va_calli (va_runV (As := [.int (iI (sc xs (i + 1))), .int (iI 1), .int (iI (sc xs (i + 3))), .int (iI 0)]) (rest := []) ⟨hx, hb, hml, hown, hw⟩ (kX2_compare l dC dI _ x n2 r2 d2 ya yb yc yo cI2 cJ v.1 v.2.1 v.2.2.2.2.2.1 v.2.2.1 N v.2.2.2.1 v.2.2.2.2.1 v.2.2.2.2.2.2.1 v.2.2.2.2.2.2.2.1 v.2.2.2.2.2.2.2.2.1 v.2.2.2.2.2.2.2.2.2 hN h5 hmi.1 hmi.2 (sc xs (i + 1)) 1 (sc xs (i + 3)) 0 (sc_r _ _) (Or.inr rfl) (sc_r _ _) (Or.inl rfl)) (cwV 4 hw (gV mA_549 mA_550 mA_551 mA_3 mA_552) rfl rfl rfl (by decide +kernel) ⟨Nat.le_of_ble_eq_true rfl, Nat.le_of_ble_eq_true rfl⟩) ⟨fun a U g mk q => by obtain ⟨q0, q1, qP, qK, qD, qN⟩ := q; exact ⟨q0, q1, qP, va_K.moved (u := U) (U := U.calling g mk a) (Vm.Alike.refl U.vm) qK, qD, nb.same (u := U) rfl qN⟩, va_recv hKc hPc (ci := 2) (q0 := 0) rfl rfl, fun U hU hW => ⟨rfl, by rw [hU], by rw [hU]; exact hPc, va_K.moved hW.alike hKc, hDc.weaken (fun _ _ _ _ => trivial), nb.warm hW hnb⟩⟩ rfl rfl hl.1 rfl (lv_room (Nat.le_of_ble_eq_true rfl)) dL_law_802 ⟨by show _ ≤ 672099; omega, by show _ ≤ 7079807; omega⟩) hS (fun q _ h => hFc q h) hFc (fun r27 v25 t9 H1 locs ht hvm hv26 hB hz1 hk1 hS => ?_)
      obtain ⟨hP1, hK1, hD1⟩ := hB
      rw [ht] at hP1
      obtain ⟨hP, hD⟩ := va_join (wr := [(h, .inr (1, [.ref n, .ref r, .ref d, .ref f, .int (iI u23.2.2.2.2.2.1), .int (iI u23.2.2.2.2.1), .int (iI u23.2.2.2.2.2.2.1)])), (n, .inl (cI, 5, .inl (aI N))), (r, .inl (cI, 5, .inl (aI u23.2.2.1))), (d, .inl (cI, 5, .inl (aI u23.2.2.2.1))), (f, .inl (cF, 4, .inr (.inr (.inr (.inr (q4 u23.2.2.2.2.2.2.2.1.1 u23.2.2.2.2.2.2.2.1.2.1 u23.2.2.2.2.2.2.2.1.2.2.1 u23.2.2.2.2.2.2.2.1.2.2.2)))))), (u23.2.2.2.2.2.2.2.1.1, .inr (0, fl (u23.2.2.2.2.2.2.2.2 0))), (u23.2.2.2.2.2.2.2.1.2.1, .inr (0, fl (u23.2.2.2.2.2.2.2.2 1))), (u23.2.2.2.2.2.2.2.1.2.2.1, .inr (0, fl (u23.2.2.2.2.2.2.2.2 2))), (u23.2.2.2.2.2.2.2.1.2.2.2, .inr (0, fl (u23.2.2.2.2.2.2.2.2 3))), (o, .inl (cO, 1, .inr (.inl (aL u23.2.1))))]) (w1 := (mwu x n2 r2 d2 ya yb yc yo cI2 cJ N v25)) hP hD [10, 11, 12, 13, 14, 15, 16, 17] [0, 1, 2, 3, 4, 5, 6, 7, 8, 9] rfl rfl (by decide) (by decide) hk1 hFc hP1 hD1
      generalize H1 = H at hP hS ⊢
      have hP := hP.sub (ws' := (lwd h n r d f cI cF N u23.2.2 o cO u23.2.1 x n2 r2 d2 ya yb yc yo cI2 cJ N v25)) [0, 1, 2, 3, 4, 5, 6, 7, 8, 9, 10, 11, 12, 13, 14, 15, 16, 17] rfl
      have hD := hD.sub (ws' := (lwd h n r d f cI cF N u23.2.2 o cO u23.2.1 x n2 r2 d2 ya yb yc yo cI2 cJ N v25)) [0, 1, 2, 3, 4, 5, 6, 7, 8, 9, 10, 11, 12, 13, 14, 15, 16, 17] (by decide) rfl
      refine lv_istore (lv' := [(6, .int r27), (5, .int (iI u23.1)), (0, .ref b), (1, .ref h), (2, .ref x), (3, .ref o), (4, .int (iI i))]) hx hb dL_law_805 hl (by decide) rfl (fun ls hl => ?_)
      refine lv_aload_n hx hb dL_law_807 rfl (lv_at hl 4 rfl) ?_
      have hPc := hP.sub (ws' := [(x, .inr (2, [.int (iI v25.1), .ref n2, .ref r2, .ref d2, .int (iI v25.2.1), .int (iI v25.2.2.2.2.2.1), .ref ya, .ref yb, .ref yc, .ref yo, .long (lI (v25.2.2.1 0)), .long (lI (v25.2.2.1 1)), .long (lI (v25.2.2.1 2)), .long (lI (v25.2.2.1 3)), .long (lI (v25.2.2.1 4)), .long (lI (v25.2.2.1 5)), .long (lI (v25.2.2.1 6))]))]) [10] rfl
      have hKc := hK.sub (tys' := []) [] rfl
      refine vp_callSi (W.runV (As := []) (rest := []) ⟨hx, hb, hml, hown, hw⟩ (kX2_thrown l dC dI x n2 r2 d2 ya yb yc yo cI2 cJ v25.1 v25.2.1 v25.2.2.2.2.2.1 v25.2.2.1) (cwV 0 hw (gV mA_434 mA_435 mA_436 mA_3 mA_437) rfl rfl rfl (by decide +kernel) ⟨Nat.le_of_ble_eq_true rfl, Nat.le_of_ble_eq_true rfl⟩) ⟨fun a U g mk q => by obtain ⟨q0, qP, qK⟩ := q; exact ⟨q0, qP, va_K.moved (u := U) (U := U.calling g mk a) (Vm.Alike.refl U.vm) qK⟩, va_recv hKc hPc (ci := 2) (q0 := 0) rfl rfl, fun U hU hW => ⟨rfl, by rw [hU]; exact hPc, va_K.moved hW.alike hKc⟩⟩ rfl rfl hl.1 rfl (lv_room (Nat.le_of_ble_eq_true rfl)) dL_law_808 ⟨by show _ ≤ 672099; omega, by show _ ≤ 7079807; omega⟩) (fun r28 h29 => ?_)
      subst h29
      refine W.eq (g2 := F0 m 811 ls [.int (iI v25.1)]) rfl ?_
      refine lv_iload hx hb dL_law_811 (lv_at hl 1 rfl) ?_
      obtain ⟨g1, g3⟩ := hv26
      obtain ⟨hL1, hL2⟩ := L_compare (ι := iI) (Or.inr rfl) (Or.inl rfl) hH g3
      refine ix_icmp_eq (tgt := 818) hx hb dL_law_813 (by decide) (show r32 v25.1 by rw [show v25.1 = u23.1 from hL1]; exact ⟨by omega, by omega⟩) ⟨by omega, by omega⟩ (fun _ => ?_) (fun c9 => absurd hL1 c9)
      refine lv_iload hx hb dL_law_818 (lv_at hl 1 rfl) ?_
      refine ix_if_ne (tgt := 835) hx hb dL_law_820 (by decide) ⟨by omega, by omega⟩ (fun c30 => ?_) (fun c30 => ?_)
      · refine lv_goto (tgt := 849) hx hb dL_law_835 (by decide) ?_
        refine W.widen (k := cells + 5) (n := slots + 30) (by omega) (by omega) ?_
        exact kk N u23.2.1 u23.2.2 v25 _ _ hH.1 g1 hO1 hP hD hS ls (lv_sub hl [2, 3, 4, 5, 6] rfl)
      · have h0 : u23.1 = 0 := by omega
        have hb9 := hL2 h0
        rw [hb9] at hl
        refine lv_aload_n hx hb dL_law_823 rfl (lv_at hl 5 rfl) ?_
        refine ix_iconst (n := 0) hx hb dL_law_824 ?_
        refine ix_lald (k := 0) hx hb hK hP 9 2 rfl rfl (by decide) (by decide) (by decide) dL_law_825 ?_
        refine lv_iload hx hb dL_law_826 (lv_at hl 0 rfl) ?_
        refine ix_i2l hx hb dL_law_828 ⟨by omega, by omega⟩ ?_
        refine ix_lc_eq (tgt := 835) hx hb dL_law_829 dL_law_830 (by decide) ⟨by have := hO1.1; omega, by have := hO1.2; omega⟩ ⟨by have := hO1.1; omega, by have := hO1.2; omega⟩ (fun _ => ?_) (fun c9 => absurd rfl c9)
        refine lv_goto (tgt := 849) hx hb dL_law_835 (by decide) ?_
        refine W.widen (k := cells + 5) (n := slots + 30) (by omega) (by omega) ?_
        exact kk N u23.2.1 u23.2.2 v25 _ _ hH.1 g1 hO1 hP hD hS ls (lv_sub hl [2, 3, 4, 5, 6] rfl)
    · refine ix_iconst (n := 1) hx hb dL_law_750 ?_
      refine lv_goto (tgt := 755) hx hb dL_law_751 (by decide) ?_
      refine lv_aload_n hx hb dL_law_755 rfl (lv_at hl 3 rfl) ?_
      have hPc := hP.sub (ws' := (cwou h n r d f cI cF N u o cO O)) [0, 1, 2, 3, 4, 5, 6, 7, 8, 9] rfl
      have hDc := hD.sub (ws' := (cwou h n r d f cI cF N u o cO O)) [0, 1, 2, 3, 4, 5, 6, 7, 8, 9] (by decide) rfl
      have hKc := hK.sub (tys' := [(cI, .int), (cF, .object RX0), (cO, .long)]) [0, 1, 2] rfl
      have hFc := va_free (wc := (cwou h n r d f cI cF N u o cO O)) hD hS hA [0, 1, 2, 3, 4, 5, 6, 7, 8, 9] rfl
      refine va_calli (vx_runSW (As := [.ref h, .int (iI (sc xs (i + 1))), .int (iI 1), .int (iI (sc xs (i + 3))), .int (iI 1), .ref o]) (rest := []) ⟨hx, hb, hml, hown, hw⟩ (kL_compare l hlt dC dI _ h n r d f u.2.2.2.2.2.1.1 u.2.2.2.2.2.1.2.1 u.2.2.2.2.2.1.2.2.1 u.2.2.2.2.2.1.2.2.2 o cI cF cO N u.1 u.2.1 u.2.2.1 u.2.2.2.1 u.2.2.2.2.1 u.2.2.2.2.2.2 O hO hci (sc xs (i + 1)) 1 (sc xs (i + 3)) 1 (sc_r _ _) (Or.inr rfl) (sc_r _ _) (Or.inr rfl)) (vx_cwSW 6 hw (gSW mA_358 mA_359 mA_0 mW_compare) rfl rfl rfl (by decide +kernel) ⟨Nat.le_of_ble_eq_true rfl, Nat.le_of_ble_eq_true rfl⟩) ⟨fun a U g mk q => by obtain ⟨q0, q1, qP, qK, qD, qN, qC, qZ⟩ := q; exact ⟨q0, q1, qP, va_K.moved (u := U) (U := U.calling g mk a) (Vm.Alike.refl U.vm) qK, qD, nb.same (u := U) rfl qN, nc.moved (u := U) (U := U.calling g mk a) (Vm.Alike.refl U.vm) qC, zt.go (u := U) qZ (Vm.Alike.refl U.vm) (fun _ q => q) (fun _ _ _ => rfl)⟩, fun U hU hW => ⟨rfl, by rw [hU], by rw [hU]; exact hPc, va_K.moved hW.alike hKc, hDc.weaken (fun _ _ _ _ => trivial), nb.warm hW hnb, nc.moved hW.alike hnc, zt2 hzt hS hU hW.alike hFc⟩⟩ rfl rfl hl.1 rfl (lv_room (Nat.le_of_ble_eq_true rfl)) dL_law_756 ⟨by show _ ≤ 672099; omega, by show _ ≤ 7079807; omega⟩) hS (fun q _ h => hFc q h) hFc (fun r31 u32 t9 H1 locs ht hvm hq33 hB hz1 hk1 hS => ?_)
      obtain ⟨hP1, hK1, hD1⟩ := hB
      rw [ht] at hP1
      obtain ⟨e1, hO1, hH⟩ := hq33
      subst e1
      obtain ⟨hP, hD⟩ := va_join (wr := [(x, .inr (2, [.int (iI v.1), .ref n2, .ref r2, .ref d2, .int (iI v.2.1), .int (iI v.2.2.2.2.2.1), .ref ya, .ref yb, .ref yc, .ref yo, .long (lI (v.2.2.1 0)), .long (lI (v.2.2.1 1)), .long (lI (v.2.2.1 2)), .long (lI (v.2.2.1 3)), .long (lI (v.2.2.1 4)), .long (lI (v.2.2.1 5)), .long (lI (v.2.2.1 6))])), (n2, .inl (cI2, 5, .inl (aI N))), (r2, .inl (cJ, 5, .inr (.inl (aL v.2.2.2.1)))), (d2, .inl (cJ, 5, .inr (.inl (aL v.2.2.2.2.1)))), (ya, .inl (cI2, 5, .inl (aI v.2.2.2.2.2.2.1))), (yb, .inl (cI2, 5, .inl (aI v.2.2.2.2.2.2.2.1))), (yc, .inl (cI2, 5, .inl (aI v.2.2.2.2.2.2.2.2.1))), (yo, .inl (cI2, 5, .inl (aI v.2.2.2.2.2.2.2.2.2)))]) (w1 := (cwou h n r d f cI cF N u32.2.2 o cO u32.2.1)) hP hD [0, 1, 2, 3, 4, 5, 6, 7, 8, 9] [10, 11, 12, 13, 14, 15, 16, 17] rfl rfl (by decide) (by decide) hk1 hFc hP1 hD1
      generalize H1 = H at hP hS ⊢
      have hP := hP.sub (ws' := (lwd h n r d f cI cF N u32.2.2 o cO u32.2.1 x n2 r2 d2 ya yb yc yo cI2 cJ N v)) [8, 9, 10, 11, 12, 13, 14, 15, 16, 17, 0, 1, 2, 3, 4, 5, 6, 7] rfl
      have hD := hD.sub (ws' := (lwd h n r d f cI cF N u32.2.2 o cO u32.2.1 x n2 r2 d2 ya yb yc yo cI2 cJ N v)) [8, 9, 10, 11, 12, 13, 14, 15, 16, 17, 0, 1, 2, 3, 4, 5, 6, 7] (by decide) rfl
      have hkc := R_compare hH
      refine lv_istore (lv' := [(5, .int (iI u32.1)), (0, .ref b), (1, .ref h), (2, .ref x), (3, .ref o), (4, .int (iI i))]) hx hb dL_law_759 hl (by decide) rfl (fun ls hl => ?_)
      refine lv_aload_n hx hb dL_law_761 rfl (lv_at hl 3 rfl) ?_
      refine lv_aload_n hx hb dL_law_762 rfl (lv_at hl 1 rfl) ?_
      refine lv_iload hx hb dL_law_763 (lv_at hl 5 rfl) ?_
      refine ix_iconst (n := 1) hx hb dL_law_765 ?_
      refine ix_iadd hx hb dL_law_766 ?_
      refine ix_sld (k := i + 1) hx hb hX hbl hbA hS (by omega) (by omega) hL dL_law_767 ?_
      refine lv_aload_n hx hb dL_law_768 rfl (lv_at hl 1 rfl) ?_
      refine lv_iload hx hb dL_law_769 (lv_at hl 5 rfl) ?_
      refine ix_iconst (n := 2) hx hb dL_law_771 ?_
      refine ix_iadd hx hb dL_law_772 ?_
      refine ix_sld (k := i + 2) hx hb hX hbl hbA hS (by omega) (by omega) hL dL_law_773 ?_
      refine ix_if_eq (tgt := 781) hx hb dL_law_774 (by decide) (sc_r _ _) (fun c9 => absurd c9 c1) (fun _ => ?_)
      refine ix_iconst (n := 1) hx hb dL_law_777 ?_
      refine lv_goto (tgt := 782) hx hb dL_law_778 (by decide) ?_
      refine lv_aload_n hx hb dL_law_782 rfl (lv_at hl 1 rfl) ?_
      refine lv_iload hx hb dL_law_783 (lv_at hl 5 rfl) ?_
      refine ix_iconst (n := 3) hx hb dL_law_785 ?_
      refine ix_iadd hx hb dL_law_786 ?_
      refine ix_sld (k := i + 3) hx hb hX hbl hbA hS (by omega) (by omega) hL dL_law_787 ?_
      refine lv_aload_n hx hb dL_law_788 rfl (lv_at hl 1 rfl) ?_
      refine lv_iload hx hb dL_law_789 (lv_at hl 5 rfl) ?_
      refine ix_iconst (n := 4) hx hb dL_law_791 ?_
      refine ix_iadd hx hb dL_law_792 ?_
      refine ix_sld (k := i + 4) hx hb hX hbl hbA hS (by omega) (by omega) hL dL_law_793 ?_
      refine ix_if_eq (tgt := 801) hx hb dL_law_794 (by decide) (sc_r _ _) (fun c9 => absurd c9 c21) (fun _ => ?_)
      refine ix_iconst (n := 1) hx hb dL_law_797 ?_
      refine lv_goto (tgt := 802) hx hb dL_law_798 (by decide) ?_
      have hPc := hP.sub (ws' := (mwu x n2 r2 d2 ya yb yc yo cI2 cJ N v)) [10, 11, 12, 13, 14, 15, 16, 17] rfl
      have hDc := hD.sub (ws' := (mwu x n2 r2 d2 ya yb yc yo cI2 cJ N v)) [10, 11, 12, 13, 14, 15, 16, 17] (by decide) rfl
      have hKc := hK.sub (tys' := [(cI2, .int), (cJ, .long)]) [3, 4] rfl
      have hFc := va_free (wc := (mwu x n2 r2 d2 ya yb yc yo cI2 cJ N v)) hD hS hA [10, 11, 12, 13, 14, 15, 16, 17] rfl
      refine va_calli (va_runV (As := [.int (iI (sc xs (i + 1))), .int (iI 1), .int (iI (sc xs (i + 3))), .int (iI 1)]) (rest := []) ⟨hx, hb, hml, hown, hw⟩ (kX2_compare l dC dI _ x n2 r2 d2 ya yb yc yo cI2 cJ v.1 v.2.1 v.2.2.2.2.2.1 v.2.2.1 N v.2.2.2.1 v.2.2.2.2.1 v.2.2.2.2.2.2.1 v.2.2.2.2.2.2.2.1 v.2.2.2.2.2.2.2.2.1 v.2.2.2.2.2.2.2.2.2 hN h5 hmi.1 hmi.2 (sc xs (i + 1)) 1 (sc xs (i + 3)) 1 (sc_r _ _) (Or.inr rfl) (sc_r _ _) (Or.inr rfl)) (cwV 4 hw (gV mA_549 mA_550 mA_551 mA_3 mA_552) rfl rfl rfl (by decide +kernel) ⟨Nat.le_of_ble_eq_true rfl, Nat.le_of_ble_eq_true rfl⟩) ⟨fun a U g mk q => by obtain ⟨q0, q1, qP, qK, qD, qN⟩ := q; exact ⟨q0, q1, qP, va_K.moved (u := U) (U := U.calling g mk a) (Vm.Alike.refl U.vm) qK, qD, nb.same (u := U) rfl qN⟩, va_recv hKc hPc (ci := 2) (q0 := 0) rfl rfl, fun U hU hW => ⟨rfl, by rw [hU], by rw [hU]; exact hPc, va_K.moved hW.alike hKc, hDc.weaken (fun _ _ _ _ => trivial), nb.warm hW hnb⟩⟩ rfl rfl hl.1 rfl (lv_room (Nat.le_of_ble_eq_true rfl)) dL_law_802 ⟨by show _ ≤ 672099; omega, by show _ ≤ 7079807; omega⟩) hS (fun q _ h => hFc q h) hFc (fun r36 v34 t9 H1 locs ht hvm hv35 hB hz1 hk1 hS => ?_)
      obtain ⟨hP1, hK1, hD1⟩ := hB
      rw [ht] at hP1
      obtain ⟨hP, hD⟩ := va_join (wr := [(h, .inr (1, [.ref n, .ref r, .ref d, .ref f, .int (iI u32.2.2.2.2.2.1), .int (iI u32.2.2.2.2.1), .int (iI u32.2.2.2.2.2.2.1)])), (n, .inl (cI, 5, .inl (aI N))), (r, .inl (cI, 5, .inl (aI u32.2.2.1))), (d, .inl (cI, 5, .inl (aI u32.2.2.2.1))), (f, .inl (cF, 4, .inr (.inr (.inr (.inr (q4 u32.2.2.2.2.2.2.2.1.1 u32.2.2.2.2.2.2.2.1.2.1 u32.2.2.2.2.2.2.2.1.2.2.1 u32.2.2.2.2.2.2.2.1.2.2.2)))))), (u32.2.2.2.2.2.2.2.1.1, .inr (0, fl (u32.2.2.2.2.2.2.2.2 0))), (u32.2.2.2.2.2.2.2.1.2.1, .inr (0, fl (u32.2.2.2.2.2.2.2.2 1))), (u32.2.2.2.2.2.2.2.1.2.2.1, .inr (0, fl (u32.2.2.2.2.2.2.2.2 2))), (u32.2.2.2.2.2.2.2.1.2.2.2, .inr (0, fl (u32.2.2.2.2.2.2.2.2 3))), (o, .inl (cO, 1, .inr (.inl (aL u32.2.1))))]) (w1 := (mwu x n2 r2 d2 ya yb yc yo cI2 cJ N v34)) hP hD [10, 11, 12, 13, 14, 15, 16, 17] [0, 1, 2, 3, 4, 5, 6, 7, 8, 9] rfl rfl (by decide) (by decide) hk1 hFc hP1 hD1
      generalize H1 = H at hP hS ⊢
      have hP := hP.sub (ws' := (lwd h n r d f cI cF N u32.2.2 o cO u32.2.1 x n2 r2 d2 ya yb yc yo cI2 cJ N v34)) [0, 1, 2, 3, 4, 5, 6, 7, 8, 9, 10, 11, 12, 13, 14, 15, 16, 17] rfl
      have hD := hD.sub (ws' := (lwd h n r d f cI cF N u32.2.2 o cO u32.2.1 x n2 r2 d2 ya yb yc yo cI2 cJ N v34)) [0, 1, 2, 3, 4, 5, 6, 7, 8, 9, 10, 11, 12, 13, 14, 15, 16, 17] (by decide) rfl
      refine lv_istore (lv' := [(6, .int r36), (5, .int (iI u32.1)), (0, .ref b), (1, .ref h), (2, .ref x), (3, .ref o), (4, .int (iI i))]) hx hb dL_law_805 hl (by decide) rfl (fun ls hl => ?_)
      refine lv_aload_n hx hb dL_law_807 rfl (lv_at hl 4 rfl) ?_
      have hPc := hP.sub (ws' := [(x, .inr (2, [.int (iI v34.1), .ref n2, .ref r2, .ref d2, .int (iI v34.2.1), .int (iI v34.2.2.2.2.2.1), .ref ya, .ref yb, .ref yc, .ref yo, .long (lI (v34.2.2.1 0)), .long (lI (v34.2.2.1 1)), .long (lI (v34.2.2.1 2)), .long (lI (v34.2.2.1 3)), .long (lI (v34.2.2.1 4)), .long (lI (v34.2.2.1 5)), .long (lI (v34.2.2.1 6))]))]) [10] rfl
      have hKc := hK.sub (tys' := []) [] rfl
      refine vp_callSi (W.runV (As := []) (rest := []) ⟨hx, hb, hml, hown, hw⟩ (kX2_thrown l dC dI x n2 r2 d2 ya yb yc yo cI2 cJ v34.1 v34.2.1 v34.2.2.2.2.2.1 v34.2.2.1) (cwV 0 hw (gV mA_434 mA_435 mA_436 mA_3 mA_437) rfl rfl rfl (by decide +kernel) ⟨Nat.le_of_ble_eq_true rfl, Nat.le_of_ble_eq_true rfl⟩) ⟨fun a U g mk q => by obtain ⟨q0, qP, qK⟩ := q; exact ⟨q0, qP, va_K.moved (u := U) (U := U.calling g mk a) (Vm.Alike.refl U.vm) qK⟩, va_recv hKc hPc (ci := 2) (q0 := 0) rfl rfl, fun U hU hW => ⟨rfl, by rw [hU]; exact hPc, va_K.moved hW.alike hKc⟩⟩ rfl rfl hl.1 rfl (lv_room (Nat.le_of_ble_eq_true rfl)) dL_law_808 ⟨by show _ ≤ 672099; omega, by show _ ≤ 7079807; omega⟩) (fun r37 h38 => ?_)
      subst h38
      refine W.eq (g2 := F0 m 811 ls [.int (iI v34.1)]) rfl ?_
      refine lv_iload hx hb dL_law_811 (lv_at hl 1 rfl) ?_
      obtain ⟨g1, g3⟩ := hv35
      obtain ⟨hL1, hL2⟩ := L_compare (ι := iI) (Or.inr rfl) (Or.inr rfl) hH g3
      refine ix_icmp_eq (tgt := 818) hx hb dL_law_813 (by decide) (show r32 v34.1 by rw [show v34.1 = u32.1 from hL1]; exact ⟨by omega, by omega⟩) ⟨by omega, by omega⟩ (fun _ => ?_) (fun c9 => absurd hL1 c9)
      refine lv_iload hx hb dL_law_818 (lv_at hl 1 rfl) ?_
      refine ix_if_ne (tgt := 835) hx hb dL_law_820 (by decide) ⟨by omega, by omega⟩ (fun c39 => ?_) (fun c39 => ?_)
      · refine lv_goto (tgt := 849) hx hb dL_law_835 (by decide) ?_
        refine W.widen (k := cells + 5) (n := slots + 30) (by omega) (by omega) ?_
        exact kk N u32.2.1 u32.2.2 v34 _ _ hH.1 g1 hO1 hP hD hS ls (lv_sub hl [2, 3, 4, 5, 6] rfl)
      · have h0 : u32.1 = 0 := by omega
        have hb9 := hL2 h0
        rw [hb9] at hl
        refine lv_aload_n hx hb dL_law_823 rfl (lv_at hl 5 rfl) ?_
        refine ix_iconst (n := 0) hx hb dL_law_824 ?_
        refine ix_lald (k := 0) hx hb hK hP 9 2 rfl rfl (by decide) (by decide) (by decide) dL_law_825 ?_
        refine lv_iload hx hb dL_law_826 (lv_at hl 0 rfl) ?_
        refine ix_i2l hx hb dL_law_828 ⟨by omega, by omega⟩ ?_
        refine ix_lc_eq (tgt := 835) hx hb dL_law_829 dL_law_830 (by decide) ⟨by have := hO1.1; omega, by have := hO1.2; omega⟩ ⟨by have := hO1.1; omega, by have := hO1.2; omega⟩ (fun _ => ?_) (fun c9 => absurd rfl c9)
        refine lv_goto (tgt := 849) hx hb dL_law_835 (by decide) ?_
        refine W.widen (k := cells + 5) (n := slots + 30) (by omega) (by omega) ?_
        exact kk N u32.2.1 u32.2.2 v34 _ _ hH.1 g1 hO1 hP hD hS ls (lv_sub hl [2, 3, 4, 5, 6] rfl)
set_option maxHeartbeats 4000000 in
set_option maxRecDepth 100000 in
theorem lc_clear {p : Program} {l : Launch} {e : Env} {s : State} {m : MethodId} {below : List Frame} {meth : Method} {c : Code} {dC : Nat → ClassId} {dI : Nat → Nat → Nat} {b L : Nat} {xs : Nat → Int32} {A : Nat → Prop} {h n r d f o x n2 r2 d2 ya yb yc yo : Nat} {cI cF cO cI2 cJ : ClassId} (hlt : l.stackTraces = false) (hL : L ≤ 2560) (hX : va_X b L xs s s.heap) (hbl : b < s.heap.size) (hbA : ¬ A b) (hA : ∀ q : Nat, s.heap.size ≤ q → A q) (hnb : nb s) (hnc : nc s) (hzt : zt A s) (C0 : cx p s m meth c #[Value.ref b] RL cL_law 7 ret) (hK : va_K (dC, dI) vwCl [(cI, .int), (cF, .object RX0), (cO, .long), (cI2, .int), (cJ, .long)] s) {i : Int} (hi : 0 ≤ i ∧ i + 5 ≤ L) {N O : Int → Int} {u : CS} {v : MT} (hci : CIu N u) (hmi : MI v) (hO : r32 (O 0)) {cells slots : Nat} (hcs : cells + 5 ≤ 672099 ∧ slots + 30 ≤ 7079807)
    (kk : ∀ (N O : Int → Int) (u : CS) (v : MT) (H : Heap) (locs : List Loc), CIu N u → MI v → r32 (O 0) → va_P (dC, dI) vwCl (lwd h n r d f cI cF N u o cO O x n2 r2 d2 ya yb yc yo cI2 cJ N v) H → va_D A (lwd h n r d f cI cF N u o cO O x n2 r2 d2 ya yb yc yo cI2 cJ N v) → va_S A s.heap H locs → ∀ (ls : Array Slot), lv_has ls 7 [(0, .ref b), (1, .ref h), (2, .ref x), (3, .ref o), (4, .int (iI i))] → W p l e room_1 s m #[Value.ref b] below meth c H locs (cells + 5) (slots + 30) (lw_Z below #[Value.ref b] s) (F0 m 849 ls []))
    {H : Heap} {locs : List Loc} (hP : va_P (dC, dI) vwCl (lwd h n r d f cI cF N u o cO O x n2 r2 d2 ya yb yc yo cI2 cJ N v) H) (hD : va_D A (lwd h n r d f cI cF N u o cO O x n2 r2 d2 ya yb yc yo cI2 cJ N v)) (hS : va_S A s.heap H locs) {ls : Array Slot} (hl : lv_has ls 7 [(0, .ref b), (1, .ref h), (2, .ref x), (3, .ref o), (4, .int (iI i))]) : W p l e room_1 s m #[Value.ref b] below meth c H locs cells slots (lw_Z below #[Value.ref b] s) (F0 m 838 ls []) := by
  obtain ⟨hx, hb, hr, hml, hown, hw, hlocks⟩ := C0
  have h5 := hci.1
  have hN := hci.2.1
  refine lv_aload_n hx hb dL_law_838 rfl (lv_at hl 1 rfl) ?_
  have hPc := hP.sub (ws' := (cwu h n r d f cI cF N u)) [0, 1, 2, 3, 4, 5, 6, 7, 8] rfl
  have hDc := hD.sub (ws' := (cwu h n r d f cI cF N u)) [0, 1, 2, 3, 4, 5, 6, 7, 8] (by decide) rfl
  have hKc := hK.sub (tys' := [(cI, .int), (cF, .object RX0)]) [0, 1] rfl
  have hFc := va_free (wc := (cwu h n r d f cI cF N u)) hD hS hA [0, 1, 2, 3, 4, 5, 6, 7, 8] rfl
  refine va_callv (va_runV (As := []) (rest := []) ⟨hx, hb, hml, hown, hw⟩ (kX1_clear l dC dI _ h n r d f u.2.2.2.2.2.1.1 u.2.2.2.2.2.1.2.1 u.2.2.2.2.2.1.2.2.1 u.2.2.2.2.2.1.2.2.2 cI cF N u.1 u.2.1 u.2.2.1 u.2.2.2.1 u.2.2.2.2.1 u.2.2.2.2.2.2 hci) (cwV 0 hw (gV mA_75 mA_76 mA_77 mA_1 mA_78) rfl rfl rfl (by decide +kernel) ⟨Nat.le_of_ble_eq_true rfl, Nat.le_of_ble_eq_true rfl⟩) ⟨fun a U g mk q => by obtain ⟨q0, q1, qP, qK, qD, qN⟩ := q; exact ⟨q0, q1, qP, va_K.moved (u := U) (U := U.calling g mk a) (Vm.Alike.refl U.vm) qK, qD, nb.same (u := U) rfl qN⟩, va_recv hKc hPc (ci := 1) (q0 := 0) rfl rfl, fun U hU hW => ⟨rfl, by rw [hU], by rw [hU]; exact hPc, va_K.moved hW.alike hKc, hDc.weaken (fun _ _ _ _ => trivial), nb.warm hW hnb⟩⟩ rfl rfl hl.1 rfl (lv_room (Nat.le_of_ble_eq_true rfl)) dL_law_839 ⟨by show _ ≤ 672099; omega, by show _ ≤ 7079807; omega⟩) hS (fun q _ h => hFc q h) hFc (fun u1 t9 H1 locs ht hvm hq2 hB hz1 hk1 hS => ?_)
  obtain ⟨hP1, hK1, hD1⟩ := hB
  rw [ht] at hP1
  obtain ⟨hP, hD⟩ := va_join (wr := [(o, .inl (cO, 1, .inr (.inl (aL O)))), (x, .inr (2, [.int (iI v.1), .ref n2, .ref r2, .ref d2, .int (iI v.2.1), .int (iI v.2.2.2.2.2.1), .ref ya, .ref yb, .ref yc, .ref yo, .long (lI (v.2.2.1 0)), .long (lI (v.2.2.1 1)), .long (lI (v.2.2.1 2)), .long (lI (v.2.2.1 3)), .long (lI (v.2.2.1 4)), .long (lI (v.2.2.1 5)), .long (lI (v.2.2.1 6))])), (n2, .inl (cI2, 5, .inl (aI N))), (r2, .inl (cJ, 5, .inr (.inl (aL v.2.2.2.1)))), (d2, .inl (cJ, 5, .inr (.inl (aL v.2.2.2.2.1)))), (ya, .inl (cI2, 5, .inl (aI v.2.2.2.2.2.2.1))), (yb, .inl (cI2, 5, .inl (aI v.2.2.2.2.2.2.2.1))), (yc, .inl (cI2, 5, .inl (aI v.2.2.2.2.2.2.2.2.1))), (yo, .inl (cI2, 5, .inl (aI v.2.2.2.2.2.2.2.2.2)))]) (w1 := (cwu h n r d f cI cF (fun _ => 0) u1)) hP hD [0, 1, 2, 3, 4, 5, 6, 7, 8] [9, 10, 11, 12, 13, 14, 15, 16, 17] rfl rfl (by decide) (by decide) hk1 hFc hP1 hD1
  generalize H1 = H at hP hS ⊢
  have hP := hP.sub (ws' := (lwd h n r d f cI cF (fun _ => 0) u1 o cO O x n2 r2 d2 ya yb yc yo cI2 cJ N v)) [9, 10, 11, 12, 13, 14, 15, 16, 17, 0, 1, 2, 3, 4, 5, 6, 7, 8] rfl
  have hD := hD.sub (ws' := (lwd h n r d f cI cF (fun _ => 0) u1 o cO O x n2 r2 d2 ya yb yc yo cI2 cJ N v)) [9, 10, 11, 12, 13, 14, 15, 16, 17, 0, 1, 2, 3, 4, 5, 6, 7, 8] (by decide) rfl
  have hci1 := hq2
  refine lv_aload_n hx hb dL_law_842 rfl (lv_at hl 2 rfl) ?_
  have hPc := hP.sub (ws' := [(x, .inr (2, [.int (iI v.1), .ref n2, .ref r2, .ref d2, .int (iI v.2.1), .int (iI v.2.2.2.2.2.1), .ref ya, .ref yb, .ref yc, .ref yo, .long (lI (v.2.2.1 0)), .long (lI (v.2.2.1 1)), .long (lI (v.2.2.1 2)), .long (lI (v.2.2.1 3)), .long (lI (v.2.2.1 4)), .long (lI (v.2.2.1 5)), .long (lI (v.2.2.1 6))])), (n2, .inl (cI2, 5, .inl (aI N)))]) [10, 11] rfl
  have hDc := hD.sub (ws' := [(x, .inr (2, [.int (iI v.1), .ref n2, .ref r2, .ref d2, .int (iI v.2.1), .int (iI v.2.2.2.2.2.1), .ref ya, .ref yb, .ref yc, .ref yo, .long (lI (v.2.2.1 0)), .long (lI (v.2.2.1 1)), .long (lI (v.2.2.1 2)), .long (lI (v.2.2.1 3)), .long (lI (v.2.2.1 4)), .long (lI (v.2.2.1 5)), .long (lI (v.2.2.1 6))])), (n2, .inl (cI2, 5, .inl (aI N)))]) [10, 11] (by decide) rfl
  have hKc := hK.sub (tys' := [(cI2, .int)]) [3] rfl
  have hFc := va_free (wc := [(x, .inr (2, [.int (iI v.1), .ref n2, .ref r2, .ref d2, .int (iI v.2.1), .int (iI v.2.2.2.2.2.1), .ref ya, .ref yb, .ref yc, .ref yo, .long (lI (v.2.2.1 0)), .long (lI (v.2.2.1 1)), .long (lI (v.2.2.1 2)), .long (lI (v.2.2.1 3)), .long (lI (v.2.2.1 4)), .long (lI (v.2.2.1 5)), .long (lI (v.2.2.1 6))])), (n2, .inl (cI2, 5, .inl (aI N)))]) hD hS hA [10, 11] rfl
  refine va_callv (va_runV (As := []) (rest := []) ⟨hx, hb, hml, hown, hw⟩ (kX2_clear l dC dI _ x n2 r2 d2 ya yb yc yo cI2 cJ v.1 v.2.1 v.2.2.2.2.2.1 v.2.2.1 N h5) (cwV 0 hw (gV mA_452 mA_453 mA_454 mA_3 mA_455) rfl rfl rfl (by decide +kernel) ⟨Nat.le_of_ble_eq_true rfl, Nat.le_of_ble_eq_true rfl⟩) ⟨fun a U g mk q => by obtain ⟨q0, q1, qP, qK, qD, qN⟩ := q; exact ⟨q0, q1, qP, va_K.moved (u := U) (U := U.calling g mk a) (Vm.Alike.refl U.vm) qK, qD, nb.same (u := U) rfl qN⟩, va_recv hKc hPc (ci := 2) (q0 := 0) rfl rfl, fun U hU hW => ⟨rfl, by rw [hU], by rw [hU]; exact hPc, va_K.moved hW.alike hKc, hDc.weaken (fun _ _ _ _ => trivial), nb.warm hW hnb⟩⟩ rfl rfl hl.1 rfl (lv_room (Nat.le_of_ble_eq_true rfl)) dL_law_843 ⟨by show _ ≤ 672099; omega, by show _ ≤ 7079807; omega⟩) hS (fun q _ h => hFc q h) hFc (fun v3 t9 H1 locs ht hvm hv4 hB hz1 hk1 hS => ?_)
  obtain ⟨hP1, hK1, hD1⟩ := hB
  rw [ht] at hP1
  obtain ⟨hP, hD⟩ := va_join (wr := [(h, .inr (1, [.ref n, .ref r, .ref d, .ref f, .int (iI u1.2.2.2.1), .int (iI u1.2.2.1), .int (iI u1.2.2.2.2.1)])), (n, .inl (cI, 5, .inl (aI (fun _ => 0)))), (r, .inl (cI, 5, .inl (aI u1.1))), (d, .inl (cI, 5, .inl (aI u1.2.1))), (f, .inl (cF, 4, .inr (.inr (.inr (.inr (q4 u1.2.2.2.2.2.1.1 u1.2.2.2.2.2.1.2.1 u1.2.2.2.2.2.1.2.2.1 u1.2.2.2.2.2.1.2.2.2)))))), (u1.2.2.2.2.2.1.1, .inr (0, fl (u1.2.2.2.2.2.2 0))), (u1.2.2.2.2.2.1.2.1, .inr (0, fl (u1.2.2.2.2.2.2 1))), (u1.2.2.2.2.2.1.2.2.1, .inr (0, fl (u1.2.2.2.2.2.2 2))), (u1.2.2.2.2.2.1.2.2.2, .inr (0, fl (u1.2.2.2.2.2.2 3))), (o, .inl (cO, 1, .inr (.inl (aL O)))), (r2, .inl (cJ, 5, .inr (.inl (aL v.2.2.2.1)))), (d2, .inl (cJ, 5, .inr (.inl (aL v.2.2.2.2.1)))), (ya, .inl (cI2, 5, .inl (aI v.2.2.2.2.2.2.1))), (yb, .inl (cI2, 5, .inl (aI v.2.2.2.2.2.2.2.1))), (yc, .inl (cI2, 5, .inl (aI v.2.2.2.2.2.2.2.2.1))), (yo, .inl (cI2, 5, .inl (aI v.2.2.2.2.2.2.2.2.2)))]) (w1 := [(x, .inr (2, [.int (iI 0), .ref n2, .ref r2, .ref d2, .int (iI v.2.1), .int (iI v.2.2.2.2.2.1), .ref ya, .ref yb, .ref yc, .ref yo, .long (lI (v.2.2.1 0)), .long (lI (v.2.2.1 1)), .long (lI (v.2.2.1 2)), .long (lI (v.2.2.1 3)), .long (lI (v.2.2.1 4)), .long (lI (v.2.2.1 5)), .long (lI (v.2.2.1 6))])), (n2, .inl (cI2, 5, .inl (aI (fun _ => 0))))]) hP hD [10, 11] [0, 1, 2, 3, 4, 5, 6, 7, 8, 9, 12, 13, 14, 15, 16, 17] rfl rfl (by decide) (by decide) hk1 hFc hP1 hD1
  generalize H1 = H at hP hS ⊢
  have hP := hP.sub (ws' := (lwd h n r d f cI cF (fun _ => 0) u1 o cO O x n2 r2 d2 ya yb yc yo cI2 cJ (fun _ => 0) (0, v.2))) [0, 1, 2, 3, 4, 5, 6, 7, 8, 9, 16, 17, 10, 11, 12, 13, 14, 15] rfl
  have hD := hD.sub (ws' := (lwd h n r d f cI cF (fun _ => 0) u1 o cO O x n2 r2 d2 ya yb yc yo cI2 cJ (fun _ => 0) (0, v.2))) [0, 1, 2, 3, 4, 5, 6, 7, 8, 9, 16, 17, 10, 11, 12, 13, 14, 15] (by decide) rfl
  refine lv_goto (tgt := 849) hx hb dL_law_846 (by decide) ?_
  refine W.widen (k := cells + 5) (n := slots + 30) (by omega) (by omega) ?_
  exact kk (fun _ => 0) O u1 (0, v.2) _ _ hci1 hmi hO hP hD hS ls (lv_sub hl [0, 1, 2, 3, 4] rfl)
