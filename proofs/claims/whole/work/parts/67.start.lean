theorem nb_of {s : State} {a : Array Value} (hts : ∀ w ∈ lw_tbl, w.before a s = true) (hex : ∀ q ∈ wsT, (Cond.exactly (.string RX1 q.1) "java/lang/String").before a s = true) : nb s := by
  refine ⟨fun w h => va_Nw.of (warm_ot (wsN_ok w h)) (hts w (wsN_in w h)), va_AO.of (hts _ (List.mem_filter.mp mB_21).1), fun q hq => ?_⟩
  obtain ⟨ad, c9, cA, kA, q1, -⟩ := Cond.exactly_spec (args := a) (first := s) (o := none) (s := s) (idx := []) (t := .string RX1 q.1) (cls := "java/lang/String") (hex q hq)
  exact ⟨ad, vk_R.of (hts _ ((by decide +kernel : ∀ q ∈ wsT, Cond.stringRef RX1 q.1 q.2 ∈ lw_tbl) q hq)) q1⟩
set_option maxHeartbeats 4000000 in
set_option maxRecDepth 100000 in
/-- from the entry, for every script of at most 2560 ints, the law comes to its end with true -/
theorem whole_start {p : Program} {e : Env} {s : State} {m : MethodId} {below : List Frame} {meth : Method} {c : Code} (l : Launch) (hlt : l.stackTraces = false) {b L : Nat} {xs : Nat → Int32} (hL : L ≤ 2560) (C0 : lw_At p s m meth c b L xs) : W p l e room_1 s m #[Value.ref b] below meth c s.heap [] 0 0 (lw_Z below #[Value.ref b] s) (entryFrame m ([Value.ref b] : List Value).toArray 7) := by
  obtain ⟨hx, hb, hr, hml, hown0, hts, hX, hbl, hlocks, hgv⟩ := C0
  have hown : s.vm.findClass RL = some m.cls := hown0
  have hw : ∀ w ∈ wsA, w.before #[Value.ref b] s = true := fun w h => hts w (List.mem_filter.mp h).1
  have hs := flat_of_before _ hgv
  have hnb : nb s := nb_of hts (List.forall_mem_cons.mpr ⟨hs _ (by decide +kernel), (List.forall_mem_cons.mpr ⟨hs _ (by decide +kernel), (List.forall_mem_cons.mpr ⟨hs _ (by decide +kernel), (List.forall_mem_cons.mpr ⟨hs _ (by decide +kernel), (List.forall_mem_cons.mpr ⟨hs _ (by decide +kernel), (List.forall_mem_cons.mpr ⟨hs _ (by decide +kernel), (List.forall_mem_cons.mpr ⟨hs _ (by decide +kernel), (List.forall_mem_cons.mpr ⟨hs _ (by decide +kernel), (fun _ h9 => nomatch h9)⟩)⟩)⟩)⟩)⟩)⟩)⟩)⟩)
  have hnc : nc s := ⟨va_Nc.of (hs _ (by decide +kernel)), va_Nc.of (hs _ (by decide +kernel)), va_Nc.of (hs _ (by decide +kernel))⟩
  have hzt : zt (fun q => s.heap.size ≤ q) s := ⟨vx_Zqof (hts _ (List.mem_append_right _ (List.mem_of_getElem? (i := 118) (by decide +kernel)))) (hw _ mA_4) (hs _ (by decide +kernel)) (fun a q1 q2 => absurd q1 (Nat.not_lt.mpr q2)), vx_Zqof (hts _ (List.mem_append_right _ (List.mem_of_getElem? (i := 120) (by decide +kernel)))) (hw _ mA_4) (hs _ (by decide +kernel)) (fun a q1 q2 => absurd q1 (Nat.not_lt.mpr q2))⟩
  have hA : ∀ q : Nat, s.heap.size ≤ q → (fun q => s.heap.size ≤ q) q := fun q z => z
  obtain ⟨c0, i0, k0⟩ := u_known (ws := wsA) hw inX0 (hw _ mA_22)
  obtain ⟨c1, i1, k1⟩ := u_known (ws := wsA) hw inX1 (hw _ mA_13)
  obtain ⟨c2, i2, k2⟩ := u_known (ws := wsA) hw inX2 (hw _ mA_376)
  obtain ⟨dC, dI, hK⟩ : ∃ (dC : Nat → ClassId) (dI : Nat → Nat → Nat), va_K (dC, dI) vwCl [] s := by
    refine ⟨fun k => if k = 0 then c0 else if k = 1 then c1 else c2, fun k => if k = 0 then i0 else if k = 1 then i1 else i2, fun k q hq => ?_, fun k q hq => nomatch hq⟩
    match k, hq with
    | 0, hq => cases hq; exact k0
    | 1, hq => cases hq; exact k1
    | 2, hq => cases hq; exact k2
    | k + 3, hq => nomatch hq
  have hP : va_P (dC, dI) vwCl [] s.heap := fun k q hq => nomatch hq
  have hD : va_D (fun q => s.heap.size ≤ q) [] := ⟨(fun i j p q hq => nomatch hq), (fun k q hq => nomatch hq)⟩
  have hS : va_S (fun q => s.heap.size ≤ q) s.heap s.heap [] := va_S.rf
  have hl := lv_entry ([.ref b]) (n := 7) (Nat.le_of_ble_eq_true rfl)
  rw [lg_entry_eq]
  generalize (lg_sl ([.ref b]) ++ List.replicate (7 - (lg_sl ([.ref b])).length) Slot.unset).toArray = ls at hl ⊢
  have hl : lv_has ls 7 [(0, .ref b)] := hl
  refine va_new (ci := 1) (fs := [.null, .null, .null, .null, .int (iI 0), .int (iI 0), .int (iI 0)]) (C := RX1) (T := TX1) (N := 7) hx hb hw inX1 tyX1 tyX1_ok hown (hw _ mA_12) (hw _ mA_13) (hw _ mA_1) hK hP hD hS hA rfl (fun j hj => by rcases (show j = 0 ∨ j = 1 ∨ j = 2 ∨ j = 3 ∨ j = 4 ∨ j = 5 ∨ j = 6 by omega) with rfl | rfl | rfl | rfl | rfl | rfl | rfl <;> rfl) (Nat.le_of_ble_eq_true rfl) (Nat.le_of_ble_eq_true rfl) dL_law_0 (fun h H hP hD hS => ?_)
  refine lv_dup hx hb dL_law_3 rfl ?_
  have hP : va_P (dC, dI) vwCl [(h, .inr (1, [.null, .null, .null, .null, .int (iI 0), .int (iI 0), .int (iI 0)]))] H := hP
  have hD : va_D (fun q => s.heap.size ≤ q) [(h, .inr (1, [.null, .null, .null, .null, .int (iI 0), .int (iI 0), .int (iI 0)]))] := hD
  have hFc := va_free (wc := [(h, .inr (1, [.null, .null, .null, .null, .int (iI 0), .int (iI 0), .int (iI 0)]))]) hD hS hA [0] rfl
  refine va_callv (va_runI (As := []) (rest := [.ref h]) ⟨hx, hb, hml, hown, hw⟩ (kX1_init l dC dI H.size h) (cwI 0 hw (wsA_sub mA_16) rfl rfl rfl (hw _ mA_1) (hw _ mA_14) (hw _ mA_15) rfl (by decide +kernel) ⟨Nat.le_of_ble_eq_true rfl, Nat.le_of_ble_eq_true rfl⟩) ⟨fun a U g mk q => by obtain ⟨q0, q1, qP, qK, qD, qN⟩ := q; exact ⟨q0, q1, qP, va_K.moved (u := U) (U := U.calling g mk a) (Vm.Alike.refl U.vm) qK, qD, nb.same (u := U) rfl qN⟩, fun U hU hW => ⟨rfl, by rw [hU], by rw [hU]; exact hP, va_K.moved hW.alike hK, hD.weaken (fun _ _ _ _ => trivial), nb.warm hW hnb⟩⟩ rfl rfl hl.1 rfl (lv_room (Nat.le_of_ble_eq_true rfl)) dL_law_4 ⟨Nat.le_of_ble_eq_true rfl, Nat.le_of_ble_eq_true rfl⟩) hS (fun q _ h => hFc q h) hFc (fun u1 t9 H1 locs ht hvm hq hB hz1 hk1 hS => ?_)
  obtain ⟨hP1, hK1, hD1⟩ := hB
  rw [ht] at hP1
  have hK := va_K.moved hvm.symm hK1
  obtain ⟨hP, hD⟩ := va_join (wr := []) (w1 := (cwu h u1.1 u1.2.1 u1.2.2.1 u1.2.2.2.1 u1.2.2.2.2.2.1 u1.2.2.2.2.2.2 (fun _ => 0) ((fun _ => 0), (fun _ => 0), 0, 0, 0, u1.2.2.2.2.1, fun _ _ => 0))) hP hD [0] [] rfl rfl (by decide) (by decide) hk1 hFc hP1 hD1
  generalize H1 = H at hP hS ⊢
  have hP : va_P (dC, dI) vwCl (cwu h u1.1 u1.2.1 u1.2.2.1 u1.2.2.2.1 u1.2.2.2.2.2.1 u1.2.2.2.2.2.2 (fun _ => 0) ((fun _ => 0), (fun _ => 0), 0, 0, 0, u1.2.2.2.2.1, fun _ _ => 0)) H := hP
  have hD : va_D (fun q => s.heap.size ≤ q) (cwu h u1.1 u1.2.1 u1.2.2.1 u1.2.2.2.1 u1.2.2.2.2.2.1 u1.2.2.2.2.2.2 (fun _ => 0) ((fun _ => 0), (fun _ => 0), 0, 0, 0, u1.2.2.2.2.1, fun _ _ => 0)) := hD
  have hK : va_K (dC, dI) vwCl [(u1.2.2.2.2.2.1, .int), (u1.2.2.2.2.2.2, .object RX0)] s := hK
  refine lv_astore_n (lv' := [(1, .ref h), (0, .ref b)]) hx hb dL_law_7 rfl hl (by decide) rfl (fun ls hl => ?_)
  refine va_new (ci := 2) (fs := [.int (iI 0), .null, .null, .null, .int (iI 0), .int (iI 0), .null, .null, .null, .null, .long (lI 0), .long (lI 0), .long (lI 0), .long (lI 0), .long (lI 0), .long (lI 0), .long (lI 0)]) (C := RX2) (T := TX2) (N := 17) hx hb hw inX2 tyX2 tyX2_ok hown (hw _ mA_375) (hw _ mA_376) (hw _ mA_3) hK hP hD hS hA rfl (fun j hj => by rcases (show j = 0 ∨ j = 1 ∨ j = 2 ∨ j = 3 ∨ j = 4 ∨ j = 5 ∨ j = 6 ∨ j = 7 ∨ j = 8 ∨ j = 9 ∨ j = 10 ∨ j = 11 ∨ j = 12 ∨ j = 13 ∨ j = 14 ∨ j = 15 ∨ j = 16 by omega) with rfl | rfl | rfl | rfl | rfl | rfl | rfl | rfl | rfl | rfl | rfl | rfl | rfl | rfl | rfl | rfl | rfl <;> rfl) (Nat.le_of_ble_eq_true rfl) (Nat.le_of_ble_eq_true rfl) dL_law_8 (fun x H hP hD hS => ?_)
  refine lv_dup hx hb dL_law_11 rfl ?_
  have hPc := hP.sub (ws' := [(x, .inr (2, [.int (iI 0), .null, .null, .null, .int (iI 0), .int (iI 0), .null, .null, .null, .null, .long (lI 0), .long (lI 0), .long (lI 0), .long (lI 0), .long (lI 0), .long (lI 0), .long (lI 0)]))]) [9] rfl
  have hDc := hD.sub (ws' := [(x, .inr (2, [.int (iI 0), .null, .null, .null, .int (iI 0), .int (iI 0), .null, .null, .null, .null, .long (lI 0), .long (lI 0), .long (lI 0), .long (lI 0), .long (lI 0), .long (lI 0), .long (lI 0)]))]) [9] (by decide) rfl
  have hKc := hK.sub (tys' := []) [] rfl
  have hFc := va_free (wc := [(x, .inr (2, [.int (iI 0), .null, .null, .null, .int (iI 0), .int (iI 0), .null, .null, .null, .null, .long (lI 0), .long (lI 0), .long (lI 0), .long (lI 0), .long (lI 0), .long (lI 0), .long (lI 0)]))]) hD hS hA [9] rfl
  refine va_callv (va_runI (As := []) (rest := [.ref x]) ⟨hx, hb, hml, hown, hw⟩ (kX2_init l dC dI H.size x) (cwI 0 hw (wsA_sub mA_379) rfl rfl rfl (hw _ mA_3) (hw _ mA_377) (hw _ mA_378) rfl (by decide +kernel) ⟨Nat.le_of_ble_eq_true rfl, Nat.le_of_ble_eq_true rfl⟩) ⟨fun a U g mk q => by obtain ⟨q0, q1, qP, qK, qD, qN⟩ := q; exact ⟨q0, q1, qP, va_K.moved (u := U) (U := U.calling g mk a) (Vm.Alike.refl U.vm) qK, qD, nb.same (u := U) rfl qN⟩, fun U hU hW => ⟨rfl, by rw [hU], by rw [hU]; exact hPc, va_K.moved hW.alike hKc, hDc.weaken (fun _ _ _ _ => trivial), nb.warm hW hnb⟩⟩ rfl rfl hl.1 rfl (lv_room (Nat.le_of_ble_eq_true rfl)) dL_law_12 ⟨Nat.le_of_ble_eq_true rfl, Nat.le_of_ble_eq_true rfl⟩) hS (fun q _ h => hFc q h) hFc (fun v1 t9 H1 locs ht hvm hq hB hz1 hk1 hS => ?_)
  obtain ⟨hP1, hK1, hD1⟩ := hB
  rw [ht] at hP1
  have hK := hK.app (va_K.moved hvm.symm hK1)
  obtain ⟨hP, hD⟩ := va_join (wr := (cwu h u1.1 u1.2.1 u1.2.2.1 u1.2.2.2.1 u1.2.2.2.2.2.1 u1.2.2.2.2.2.2 (fun _ => 0) ((fun _ => 0), (fun _ => 0), 0, 0, 0, u1.2.2.2.2.1, fun _ _ => 0))) (w1 := (mw x v1.1 v1.2.1 v1.2.2.1 v1.2.2.2.1 v1.2.2.2.2.1 v1.2.2.2.2.2.1 v1.2.2.2.2.2.2.1 v1.2.2.2.2.2.2.2.1 v1.2.2.2.2.2.2.2.2 0 (fun _ => 0) (fun _ => 0) (fun _ => 0) 0 0 (fun _ => 0) (fun _ => 0) (fun _ => 0) (fun _ => 0) (fun _ => 0))) hP hD [9] [0, 1, 2, 3, 4, 5, 6, 7, 8] rfl rfl (by decide) (by decide) hk1 hFc hP1 hD1
  generalize H1 = H at hP hS ⊢
  refine lv_astore_n (lv' := [(2, .ref x), (1, .ref h), (0, .ref b)]) hx hb dL_law_15 rfl hl (by decide) rfl (fun ls hl => ?_)
  refine ix_iconst (n := 1) hx hb dL_law_16 ?_
  refine va_newa (atype := .long) (N' := 1) (ty := .long) (a0 := (1, .inr (.inl (aL (fun _ => 0))))) hx hb (hw _ mA_433) rfl hK hP hD hS hA (fun _ => rfl) (by decide) (by decide) (by decide) (Nat.le_of_ble_eq_true rfl) (Nat.le_of_ble_eq_true rfl) dL_law_17 (fun o cO H hK hP hD hS => ?_)
  refine lv_astore_n (lv' := [(3, .ref o), (2, .ref x), (1, .ref h), (0, .ref b)]) hx hb dL_law_19 rfl hl (by decide) rfl (fun ls hl => ?_)
  refine ix_iconst (n := 0) hx hb dL_law_20 ?_
  refine lv_istore (lv' := [(4, .int (iI 0)), (3, .ref o), (2, .ref x), (1, .ref h), (0, .ref b)]) hx hb dL_law_21 hl (by decide) rfl (fun ls hl => ?_)
  have hP9 := hP.sub (ws' := (lwd h u1.1 u1.2.1 u1.2.2.1 u1.2.2.2.1 u1.2.2.2.2.2.1 u1.2.2.2.2.2.2 (fun _ => 0) ((fun _ => 0), (fun _ => 0), 0, 0, 0, u1.2.2.2.2.1, fun _ _ => 0) o cO (fun _ => 0) x v1.1 v1.2.1 v1.2.2.1 v1.2.2.2.1 v1.2.2.2.2.1 v1.2.2.2.2.2.1 v1.2.2.2.2.2.2.1 v1.2.2.2.2.2.2.2.1 v1.2.2.2.2.2.2.2.2 (fun _ => 0) (0, 0, (fun _ => 0), (fun _ => 0), (fun _ => 0), 0, (fun _ => 0), (fun _ => 0), (fun _ => 0), (fun _ => 0)))) [0, 1, 2, 3, 4, 5, 6, 7, 8, 17, 9, 10, 11, 12, 13, 14, 15, 16] rfl
  have hD9 := hD.sub (ws' := (lwd h u1.1 u1.2.1 u1.2.2.1 u1.2.2.2.1 u1.2.2.2.2.2.1 u1.2.2.2.2.2.2 (fun _ => 0) ((fun _ => 0), (fun _ => 0), 0, 0, 0, u1.2.2.2.2.1, fun _ _ => 0) o cO (fun _ => 0) x v1.1 v1.2.1 v1.2.2.1 v1.2.2.2.1 v1.2.2.2.2.1 v1.2.2.2.2.2.1 v1.2.2.2.2.2.2.1 v1.2.2.2.2.2.2.2.1 v1.2.2.2.2.2.2.2.2 (fun _ => 0) (0, 0, (fun _ => 0), (fun _ => 0), (fun _ => 0), 0, (fun _ => 0), (fun _ => 0), (fun _ => 0), (fun _ => 0)))) [0, 1, 2, 3, 4, 5, 6, 7, 8, 17, 9, 10, 11, 12, 13, 14, 15, 16] (by decide) rfl
  have hK9 := hK.sub (tys' := [(u1.2.2.2.2.2.1, .int), (u1.2.2.2.2.2.2, .object RX0), (cO, .long), (v1.2.2.2.2.2.2.2.1, .int), (v1.2.2.2.2.2.2.2.2, .long)]) [0, 1, 4, 2, 3] rfl
  have hci : CIu (fun _ => 0) ((fun _ => 0), (fun _ => 0), 0, 0, 0, u1.2.2.2.2.1, fun _ _ => 0) := ⟨fun _ _ => rfl, fun _ => by show (-20 : Int) ≤ 0 ∧ (0 : Int) ≤ 20; decide, fun _ _ => rfl, fun _ _ => rfl, fun _ => fbd_0, Or.inl rfl⟩
  have hmi : MI (0, 0, (fun _ => 0), (fun _ => 0), (fun _ => 0), 0, (fun _ => 0), (fun _ => 0), (fun _ => 0), (fun _ => 0)) := ⟨fun _ _ => rfl, fun _ _ => rfl⟩
  refine W.widen (k := 18 + (0 : Int).toNat) (n := 103 + 6 * (0 : Int).toNat) (Nat.le_of_ble_eq_true rfl) (Nat.le_of_ble_eq_true rfl) ?_
  exact lw_loop hlt hL hX hbl hnb hnc hzt ⟨hx, hb, hr, hml, hown, hw, hlocks⟩ hK9 (L + 1) 0 (fun _ => 0) (fun _ => 0) ((fun _ => 0), (fun _ => 0), 0, 0, 0, u1.2.2.2.2.1, fun _ _ => 0) (0, 0, (fun _ => 0), (fun _ => 0), (fun _ => 0), 0, (fun _ => 0), (fun _ => 0), (fun _ => 0), (fun _ => 0)) ⟨by decide, by omega⟩ (by omega) hci hmi (by decide) _ _ hP9 hD9 hS ls (lv_sub hl [4, 3, 2, 1, 0] rfl)
