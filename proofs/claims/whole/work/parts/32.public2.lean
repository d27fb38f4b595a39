theorem iu_same {N : Int → Int} {k x : Int} (h : N k = x) : iu N k x = N := by
  funext j
  unfold iu
  split
  · rename_i q; rw [q, h]
  · rfl
theorem CI_put {N R D : Int → Int} {cn fc sp : Int} {Fs : Int → Int → Int} (h : CI N R D cn fc sp Fs) {k x : Int} (h0 : 0 ≤ k) (h4 : k ≤ 4) (hx : -20 ≤ x ∧ x ≤ 20) : CI (iu N k x) R D cn fc 0 Fs := by
  refine ⟨n5_iu h.1 h0 h4, fun j => ?_, h.2.2.1, h.2.2.2.1, h.2.2.2.2.1, Or.inl rfl⟩
  unfold iu
  split
  · exact hx
  · exact h.2.1 j
def ysel (k : Int) (y0 y1 y2 y3 : Nat) : Nat := if k = 0 then y0 else if k = 1 then y1 else if k = 2 then y2 else y3
theorem sel_P {D : va_G} {h n r d f y0 y1 y2 y3 : Nat} {cI cF : ClassId} {N R E : Int → Int} {cn fc sp : Int} {Fs : Int → Int → Int} {H : Heap} (hP : va_P D vwCl (cw h n r d f cI cF N R E cn fc sp y0 y1 y2 y3 Fs) H) {k : Int} (h0 : 0 ≤ k) (h4 : k < 4) : va_P D vwCl [(ysel k y0 y1 y2 y3, .inr (0, fl (Fs k)))] H := by
  rcases (show k = 0 ∨ k = 1 ∨ k = 2 ∨ k = 3 by omega) with rfl | rfl | rfl | rfl
  · exact hP.sub [5] rfl
  · exact hP.sub [6] rfl
  · exact hP.sub [7] rfl
  · exact hP.sub [8] rfl
set_option maxHeartbeats 4000000 in
set_option maxRecDepth 100000 in
theorem kX1_put (l : Launch) (hlt : l.stackTraces = false) (dC : Nat → ClassId) (dI : Nat → Nat → Nat) (sz : Nat) (h n r d f y0 y1 y2 y3 : Nat) (cI cF : ClassId) (N R D : Int → Int) (cn fc sp : Int) (Fs : Int → Int → Int) (hci : CI N R D cn fc sp Fs) (k v : Int) (hk : r32 k) (hv : r32 v) : vx_Met l yX1_put (.code yX1_put cX1_put 3 (some .boolean) :: wsA) ({ frames := 7, cells := 2, slots := 12, locals := 120 }) (va_Pc [.ref h, .int (iI k), .int (iI v)] (fun U => U.heap.size = sz ∧ va_P (dC, dI) vwCl (cw h n r d f cI cF N R D cn fc sp y0 y1 y2 y3 Fs) U.heap ∧ va_K (dC, dI) vwCl [(cI, .int), (cF, .object RX0)] U ∧ va_D (fun _ => True) (cw h n r d f cI cF N R D cn fc sp y0 y1 y2 y3 Fs) ∧ nb U ∧ zt (va_A (cw h n r d f cI cF N R D cn fc sp y0 y1 y2 y3 Fs) sz) U)) (va_Qi (fun r9 u => (0 ≤ k ∧ k ≤ 4) ∧ (-20 ≤ v ∧ v ≤ 20) ∧ u.1 = iu N k v ∧ CIu u.1 u.2 ∧ r9 = iI (if N k = v then 0 else 1)) (fun (u : (Int → Int) × CS) t9 => va_P (dC, dI) vwCl (cwu h n r d f cI cF u.1 u.2) t9.heap ∧ va_K (dC, dI) vwCl [(cI, .int), (cF, .object RX0)] t9 ∧ va_D (va_A (cw h n r d f cI cF N R D cn fc sp y0 y1 y2 y3 Fs) sz) (cwu h n r d f cI cF u.1 u.2)) (va_A (cw h n r d f cI cF N R D cn fc sp y0 y1 y2 y3 Fs) sz)) (vx_X (fun u : CS => CIu N u) (fun E u t9 => ((E = EIOB ∧ ¬ (0 ≤ k ∧ k ≤ 4)) ∨ (E = EIAE ∧ (0 ≤ k ∧ k ≤ 4) ∧ ¬ (-20 ≤ v ∧ v ≤ 20))) ∧ va_P (dC, dI) vwCl (cwu h n r d f cI cF N u) t9.heap ∧ va_K (dC, dI) vwCl [(cI, .int), (cF, .object RX0)] t9 ∧ va_D (va_A (cw h n r d f cI cF N R D cn fc sp y0 y1 y2 y3 Fs) sz) (cwu h n r d f cI cF N u)) (va_A (cw h n r d f cI cF N R D cn fc sp y0 y1 y2 y3 Fs) sz)) 2 12 (va_A (cw h n r d f cI cF N R D cn fc sp y0 y1 y2 y3 Fs) sz) := by
  refine vx_ofW (cc := cX1_put) (maxL := 3) (ret := (some .boolean)) (by decide) rfl ?_
  intro p e s m args below meth c s₁ B hml hout hv
  obtain ⟨rfl, hsz, hP, hK, hD0, hnb, hzt⟩ := hv
  have hx := B.exec
  have hb := B.bytes
  have hr := B.returns
  have hts := atoms_spec (ws := .code yX1_put cX1_put 3 (some .boolean) :: wsA) B.pre
  have hw : ∀ w ∈ wsA, w.before _ s = true := fun w h => hts w (List.mem_cons_of_mem _ h)
  have hown : s.vm.findClass RX1 = some m.cls := findClass_of_methodNamed B.named
  have hlocks := B.notSynchronized
  subst hsz
  have hD := hD0.self (sz := s.heap.size)
  generalize hAe : va_A (cw h n r d f cI cF N R D cn fc sp y0 y1 y2 y3 Fs) s.heap.size = A at hD hzt ⊢
  have hA : ∀ q : Nat, s.heap.size ≤ q → A q := fun q h => by rw [← hAe]; exact Or.inr h
  have hS : va_S A s.heap s.heap [] := va_S.rf
  have hP : va_P (dC, dI) vwCl (cw h n r d f cI cF N R D cn fc sp y0 y1 y2 y3 Fs) s.heap := hP
  have hl := lv_entry ([.ref h, .int (iI k), .int (iI v)]) (n := 3) (Nat.le_of_ble_eq_true rfl)
  rw [lg_entry_eq]
  generalize (lg_sl ([.ref h, .int (iI k), .int (iI v)]) ++ List.replicate (3 - (lg_sl ([.ref h, .int (iI k), .int (iI v)])).length) Slot.unset).toArray = ls at hl ⊢
  have hl : lv_has ls 3 [(0, .ref h), (1, .int (iI k)), (2, .int (iI v))] := hl
  refine lv_iload_n hx hb dX1_put_0 rfl (lv_at hl 1 rfl) ?_
  refine vx_callv (vx_runS (As := [.int (iI k)]) (rest := []) ⟨hx, hb, hml, hown, hw⟩ (kX1_checkPower l hlt A k (by omega)) (cwS 1 hw (gS mA_88 mA_89 mA_1 mA_90) rfl rfl rfl (by decide +kernel) ⟨Nat.le_of_ble_eq_true rfl, Nat.le_of_ble_eq_true rfl⟩) ⟨fun a U g mk q => ⟨q.1, nb.same (u := U) rfl q.2.1, zt.go (u := U) q.2.2 (Vm.Alike.refl U.vm) (fun _ z => z) (fun _ _ _ => rfl)⟩, fun U hU hW => ⟨rfl, nb.warm hW hnb, zt1 hzt hS hU hW.alike⟩⟩ rfl rfl hl.1 rfl (lv_room (Nat.le_of_ble_eq_true rfl)) dX1_put_1 ⟨Nat.le_of_ble_eq_true rfl, Nat.le_of_ble_eq_true rfl⟩) hS (fun q _ z => z.elim) (fun q z => z.elim) (fun q _ z => z.elim) (fun E9 ce q9 u9 t9 H1 locs ht hvm hpx hBX hz1 hk1 hS hce hcv hcl => ?_) (fun u9 t9 H1 locs ht hvm hq1 hB hz1 hk1 hS => ?_)
  · exact vx_out (fun x h => (hout x h).elim) hlocks hce hcv hcl (fun t2 ht2 hvm2 => ⟨(R, D, cn, fc, sp, (y0, y1, y2, y3), Fs), hci, ⟨Or.inl ⟨hBX, hpx⟩, by rw [ht2]; exact pkeep hP (fun q z => hk1 q z (fun f => f)), va_K.moved hvm2 hK, hD⟩, hS.F ht2⟩) hS.2.2 (Nat.le_of_ble_eq_true rfl) (Nat.le_of_ble_eq_true rfl)
  · have hP := pkeep hP (fun q z => hk1 q z (fun f => f))
    generalize H1 = H at hP hS ⊢
    refine lv_iload_n hx hb dX1_put_4 rfl (lv_at hl 2 rfl) ?_
    refine vp_callSi (W.runS (As := [.int (iI v)]) (rest := []) ⟨hx, hb, hml, hown, hw⟩ (kX1_isInLimits l v hv) (cwS 1 hw (gS mA_159 mA_160 mA_1 mA_161) rfl rfl rfl (by decide +kernel) ⟨Nat.le_of_ble_eq_true rfl, Nat.le_of_ble_eq_true rfl⟩) preEq rfl rfl hl.1 rfl (lv_room (Nat.le_of_ble_eq_true rfl)) dX1_put_5 ⟨Nat.le_of_ble_eq_true rfl, Nat.le_of_ble_eq_true rfl⟩) (fun r2 h3 => ?_)
    subst h3
    have hi9 : f_in20 v = if -20 ≤ v ∧ v ≤ 20 then 1 else 0 := rfl
    refine ix_if_ne (tgt := 21) hx hb dX1_put_8 (by decide) (by unfold f_in20; grind) (fun c4 => ?_) (fun c4 => ?_)
    · refine lv_aload_n hx hb dX1_put_21 rfl (lv_at hl 0 rfl) ?_
      refine va_get (D := (dC, dI)) (ci := 1) (v := .ref n) (C := RX1) (T := TX1) (N := 7) hx hb hw inX1 hown hK hP 0 rfl rfl 0 (by decide) (hw _ mA_53) (fun _ h9 => h9) rfl dX1_put_22 ?_
      refine lv_iload_n hx hb dX1_put_25 rfl (lv_at hl 1 rfl) ?_
      refine ix_iald (k := k) hx hb hK hP 1 0 rfl rfl (by omega) (by omega) (by decide) dX1_put_26 ?_
      refine lv_iload_n hx hb dX1_put_27 rfl (lv_at hl 2 rfl) ?_
      refine ix_icmp_ne (tgt := 33) hx hb dX1_put_28 (by decide) ⟨by have := (hci.2.1 k).1; omega, by have := (hci.2.1 k).2; omega⟩ (by omega) (fun c5 => ?_) (fun c5 => ?_)
      · refine lv_aload_n hx hb dX1_put_33 rfl (lv_at hl 0 rfl) ?_
        refine va_get (D := (dC, dI)) (ci := 1) (v := .ref n) (C := RX1) (T := TX1) (N := 7) hx hb hw inX1 hown hK hP 0 rfl rfl 0 (by decide) (hw _ mA_53) (fun _ h9 => h9) rfl dX1_put_34 ?_
        refine lv_iload_n hx hb dX1_put_37 rfl (lv_at hl 1 rfl) ?_
        refine lv_iload_n hx hb dX1_put_38 rfl (lv_at hl 2 rfl) ?_
        refine ix_iast (k := k) (x := v) hx hb hK hP hD hS 1 0 rfl rfl (by omega) (by omega) (by decide) dX1_put_39 (fun H locs hP hD hS => ?_)
        have hP : va_P (dC, dI) vwCl (cw h n r d f cI cF (iu N k v) R D cn fc sp y0 y1 y2 y3 Fs) H := hP
        have hD : va_D A (cw h n r d f cI cF (iu N k v) R D cn fc sp y0 y1 y2 y3 Fs) := hD
        refine lv_aload_n hx hb dX1_put_40 rfl (lv_at hl 0 rfl) ?_
        refine ix_iconst (n := 0) hx hb dX1_put_41 ?_
        refine va_put (D := (dC, dI)) (ci := 1) (v := .int (iI 0)) (ty := .boolean) (C := RX1) (T := TX1) (N := 7) hx hb hw inX1 tyX1 tyX1_ok nmX1 hown hK hP hD hS 0 rfl rfl 6 (by decide) (hw _ mA_59) (fun _ h9 => h9) rfl (by decide +kernel) (by decide) (by decide) (Nat.le_of_ble_eq_true rfl) dX1_put_42 (fun H locs hP hD hS => ?_)
        have hP : va_P (dC, dI) vwCl (cw h n r d f cI cF (iu N k v) R D cn fc 0 y0 y1 y2 y3 Fs) H := hP
        have hD : va_D A (cw h n r d f cI cF (iu N k v) R D cn fc 0 y0 y1 y2 y3 Fs) := hD
        refine ix_iconst (n := 1) hx hb dX1_put_45 ?_
        have hvl : -20 ≤ v ∧ v ≤ 20 := by by_cases z : -20 ≤ v ∧ v ≤ 20; exact z; rw [if_neg z] at hi9; omega
        have hP9 := hP.sub (ws' := (cwu h n r d f cI cF (iu N k v) (R, D, cn, fc, 0, (y0, y1, y2, y3), Fs))) [0, 1, 2, 3, 4, 5, 6, 7, 8] rfl
        have hD9 := hD.sub (ws' := (cwu h n r d f cI cF (iu N k v) (R, D, cn, fc, 0, (y0, y1, y2, y3), Fs))) [0, 1, 2, 3, 4, 5, 6, 7, 8] (by decide) rfl
        have hK9 := hK.sub (tys' := [(cI, .int), (cF, .object RX0)]) [0, 1] rfl
        refine vx_ret (W.widen (k := 2) (n := 12) (Nat.le_of_ble_eq_true rfl) (Nat.le_of_ble_eq_true rfl) ?_)
        exact W.zret (v := iI 1) hx hb hr (by decide) (fun t ht hW => ⟨⟨iI 1, (iu N k v, (R, D, cn, fc, 0, (y0, y1, y2, y3), Fs)), rfl, ⟨by omega, hvl, rfl, CI_put hci (by omega) (by omega) hvl, by rw [if_neg c5]⟩, by rw [ht]; exact hP9, va_K.moved hW.alike hK9, hD9⟩, hS.F ht⟩) hS.2.2 dX1_put_46
      · refine ix_iconst (n := 0) hx hb dX1_put_31 ?_
        have hvl : -20 ≤ v ∧ v ≤ 20 := by by_cases z : -20 ≤ v ∧ v ≤ 20; exact z; rw [if_neg z] at hi9; omega
        have e9 : iu N k v = N := iu_same c5
        have hP : va_P (dC, dI) vwCl (cwu h n r d f cI cF (iu N k v) (R, D, cn, fc, sp, (y0, y1, y2, y3), Fs)) H := by rw [e9]; exact hP
        have hD : va_D A (cwu h n r d f cI cF (iu N k v) (R, D, cn, fc, sp, (y0, y1, y2, y3), Fs)) := by rw [e9]; exact hD
        have hP9 := hP.sub (ws' := (cwu h n r d f cI cF (iu N k v) (R, D, cn, fc, sp, (y0, y1, y2, y3), Fs))) [0, 1, 2, 3, 4, 5, 6, 7, 8] rfl
        have hD9 := hD.sub (ws' := (cwu h n r d f cI cF (iu N k v) (R, D, cn, fc, sp, (y0, y1, y2, y3), Fs))) [0, 1, 2, 3, 4, 5, 6, 7, 8] (by decide) rfl
        have hK9 := hK.sub (tys' := [(cI, .int), (cF, .object RX0)]) [0, 1] rfl
        refine vx_ret (W.widen (k := 2) (n := 12) (Nat.le_of_ble_eq_true rfl) (Nat.le_of_ble_eq_true rfl) ?_)
        exact W.zret (v := iI 0) hx hb hr (by decide) (fun t ht hW => ⟨⟨iI 0, (iu N k v, (R, D, cn, fc, sp, (y0, y1, y2, y3), Fs)), rfl, ⟨by omega, hvl, rfl, by rw [e9]; exact hci, by rw [if_pos c5]⟩, by rw [ht]; exact hP9, va_K.moved hW.alike hK9, hD9⟩, hS.F ht⟩) hS.2.2 dX1_put_32
    · exact thIAE (is := 36) hx hb hlt hown hw hnb (List.mem_of_getElem? (i := 1) rfl) hzt hS (by rw [hml]; exact hl.1) dX1_put_11 dX1_put_14 dX1_put_15 dX1_put_17 dX1_put_20 hout (show 6 ≤ _ from Nat.le_of_ble_eq_true rfl) (Nat.le_of_ble_eq_true rfl) (Nat.le_of_ble_eq_true rfl) (Nat.le_of_ble_eq_true rfl) hlocks (fun t2 hvm2 t3 t4 => ⟨(R, D, cn, fc, sp, (y0, y1, y2, y3), Fs), hci, ⟨Or.inr ⟨rfl, by omega, by intro z; rw [if_pos z] at hi9; omega⟩, pkeep hP t4, va_K.moved hvm2 hK, hD⟩, vFx hS t3 t4⟩) hS.2.2 (Nat.le_of_ble_eq_true rfl) (Nat.le_of_ble_eq_true rfl)
set_option maxHeartbeats 4000000 in
set_option maxRecDepth 100000 in
/-- clear -/
theorem kX1_clear (l : Launch) (dC : Nat → ClassId) (dI : Nat → Nat → Nat) (sz : Nat) (h n r d f y0 y1 y2 y3 : Nat) (cI cF : ClassId) (N R D : Int → Int) (cn fc sp : Int) (Fs : Int → Int → Int) (hci : CI N R D cn fc sp Fs) : Met l yX1_clear (.code yX1_clear cX1_clear 2 none :: wsA) ({ frames := 0, cells := 0, slots := 0, locals := 0 }) (va_Pc [.ref h] (fun U => U.heap.size = sz ∧ va_P (dC, dI) vwCl (cw h n r d f cI cF N R D cn fc sp y0 y1 y2 y3 Fs) U.heap ∧ va_K (dC, dI) vwCl [(cI, .int), (cF, .object RX0)] U ∧ va_D (fun _ => True) (cw h n r d f cI cF N R D cn fc sp y0 y1 y2 y3 Fs) ∧ nb U)) (va_Qv (fun u => CIu (fun _ => 0) u) (fun (u : CS) t9 => va_P (dC, dI) vwCl (cwu h n r d f cI cF (fun _ => 0) u) t9.heap ∧ va_K (dC, dI) vwCl [(cI, .int), (cF, .object RX0)] t9 ∧ va_D (va_A (cw h n r d f cI cF N R D cn fc sp y0 y1 y2 y3 Fs) sz) (cwu h n r d f cI cF (fun _ => 0) u)) (va_A (cw h n r d f cI cF N R D cn fc sp y0 y1 y2 y3 Fs) sz)) 0 0 (va_A (cw h n r d f cI cF N R D cn fc sp y0 y1 y2 y3 Fs) sz) := by
  refine Met.ofW (cc := cX1_clear) (maxL := 2) (ret := none) (by decide) rfl ?_
  intro p e s m args below meth c s₁ B hml hv
  obtain ⟨rfl, hsz, hP, hK, hD0, hnb⟩ := hv
  have hx := B.exec
  have hb := B.bytes
  have hr := B.returns
  have hts := atoms_spec (ws := .code yX1_clear cX1_clear 2 none :: wsA) B.pre
  have hw : ∀ w ∈ wsA, w.before _ s = true := fun w h => hts w (List.mem_cons_of_mem _ h)
  have hown : s.vm.findClass RX1 = some m.cls := findClass_of_methodNamed B.named
  have hlocks := B.notSynchronized
  subst hsz
  have hD := hD0.self (sz := s.heap.size)
  generalize hAe : va_A (cw h n r d f cI cF N R D cn fc sp y0 y1 y2 y3 Fs) s.heap.size = A at hD ⊢
  have hA : ∀ q : Nat, s.heap.size ≤ q → A q := fun q h => by rw [← hAe]; exact Or.inr h
  have hS : va_S A s.heap s.heap [] := va_S.rf
  have hP : va_P (dC, dI) vwCl (cw h n r d f cI cF N R D cn fc sp y0 y1 y2 y3 Fs) s.heap := hP
  have hl := lv_entry ([.ref h]) (n := 2) (Nat.le_of_ble_eq_true rfl)
  rw [lg_entry_eq]
  generalize (lg_sl ([.ref h]) ++ List.replicate (2 - (lg_sl ([.ref h])).length) Slot.unset).toArray = ls at hl ⊢
  have hl : lv_has ls 2 [(0, .ref h)] := hl
  refine ix_iconst (n := 0) hx hb dX1_clear_0 ?_
  refine lv_istore_n (lv' := [(1, .int (iI 0)), (0, .ref h)]) hx hb dX1_clear_1 rfl hl (by decide) rfl (fun ls hl => ?_)
  refine lv_iload_n hx hb dX1_clear_2 rfl (lv_at hl 0 rfl) ?_
  refine lv_aload_n hx hb dX1_clear_3 rfl (lv_at hl 1 rfl) ?_
  refine va_get (D := (dC, dI)) (ci := 1) (v := .ref n) (C := RX1) (T := TX1) (N := 7) hx hb hw inX1 hown hK hP 0 rfl rfl 0 (by decide) (hw _ mA_53) (fun _ h9 => h9) rfl dX1_clear_4 ?_
  refine va_alen (v := iI 5) hx hb hK hP 1 0 rfl rfl rfl dX1_clear_7 ?_
  refine ix_icmp_ge (tgt := 24) hx hb dX1_clear_8 (by decide) (by decide) (by decide) (fun c1 => absurd c1 (by decide)) (fun _ => ?_)
  refine lv_aload_n hx hb dX1_clear_11 rfl (lv_at hl 1 rfl) ?_
  refine va_get (D := (dC, dI)) (ci := 1) (v := .ref n) (C := RX1) (T := TX1) (N := 7) hx hb hw inX1 hown hK hP 0 rfl rfl 0 (by decide) (hw _ mA_53) (fun _ h9 => h9) rfl dX1_clear_12 ?_
  refine lv_iload_n hx hb dX1_clear_15 rfl (lv_at hl 0 rfl) ?_
  refine ix_iconst (n := 0) hx hb dX1_clear_16 ?_
  refine ix_iast (k := 0) (x := 0) hx hb hK hP hD hS 1 0 rfl rfl (by decide) (by decide) (by decide) dX1_clear_17 (fun H locs hP hD hS => ?_)
  have hP : va_P (dC, dI) vwCl (cw h n r d f cI cF (iu N 0 0) R D cn fc sp y0 y1 y2 y3 Fs) H := hP
  have hD : va_D A (cw h n r d f cI cF (iu N 0 0) R D cn fc sp y0 y1 y2 y3 Fs) := hD
  refine ix_iinc (k := 0) (lv2 := [(1, .int (iI 1)), (0, .ref h)]) hx hb dX1_clear_18 hl rfl (by decide) rfl (fun ls hl => ?_)
  refine lv_goto (tgt := 2) hx hb dX1_clear_21 (by decide) ?_
  refine lv_iload_n hx hb dX1_clear_2 rfl (lv_at hl 0 rfl) ?_
  refine lv_aload_n hx hb dX1_clear_3 rfl (lv_at hl 1 rfl) ?_
  refine va_get (D := (dC, dI)) (ci := 1) (v := .ref n) (C := RX1) (T := TX1) (N := 7) hx hb hw inX1 hown hK hP 0 rfl rfl 0 (by decide) (hw _ mA_53) (fun _ h9 => h9) rfl dX1_clear_4 ?_
  refine va_alen (v := iI 5) hx hb hK hP 1 0 rfl rfl rfl dX1_clear_7 ?_
  refine ix_icmp_ge (tgt := 24) hx hb dX1_clear_8 (by decide) (by decide) (by decide) (fun c2 => absurd c2 (by decide)) (fun _ => ?_)
  refine lv_aload_n hx hb dX1_clear_11 rfl (lv_at hl 1 rfl) ?_
  refine va_get (D := (dC, dI)) (ci := 1) (v := .ref n) (C := RX1) (T := TX1) (N := 7) hx hb hw inX1 hown hK hP 0 rfl rfl 0 (by decide) (hw _ mA_53) (fun _ h9 => h9) rfl dX1_clear_12 ?_
  refine lv_iload_n hx hb dX1_clear_15 rfl (lv_at hl 0 rfl) ?_
  refine ix_iconst (n := 0) hx hb dX1_clear_16 ?_
  refine ix_iast (k := 1) (x := 0) hx hb hK hP hD hS 1 0 rfl rfl (by decide) (by decide) (by decide) dX1_clear_17 (fun H locs hP hD hS => ?_)
  have hP : va_P (dC, dI) vwCl (cw h n r d f cI cF (iu (iu N 0 0) 1 0) R D cn fc sp y0 y1 y2 y3 Fs) H := hP
  have hD : va_D A (cw h n r d f cI cF (iu (iu N 0 0) 1 0) R D cn fc sp y0 y1 y2 y3 Fs) := hD
  refine ix_iinc (k := 0) (lv2 := [(1, .int (iI 2)), (0, .ref h)]) hx hb dX1_clear_18 hl rfl (by decide) rfl (fun ls hl => ?_)
  refine lv_goto (tgt := 2) hx hb dX1_clear_21 (by decide) ?_
  refine lv_iload_n hx hb dX1_clear_2 rfl (lv_at hl 0 rfl) ?_
  refine lv_aload_n hx hb dX1_clear_3 rfl (lv_at hl 1 rfl) ?_
  refine va_get (D := (dC, dI)) (ci := 1) (v := .ref n) (C := RX1) (T := TX1) (N := 7) hx hb hw inX1 hown hK hP 0 rfl rfl 0 (by decide) (hw _ mA_53) (fun _ h9 => h9) rfl dX1_clear_4 ?_
  refine va_alen (v := iI 5) hx hb hK hP 1 0 rfl rfl rfl dX1_clear_7 ?_
  refine ix_icmp_ge (tgt := 24) hx hb dX1_clear_8 (by decide) (by decide) (by decide) (fun c3 => absurd c3 (by decide)) (fun _ => ?_)
  refine lv_aload_n hx hb dX1_clear_11 rfl (lv_at hl 1 rfl) ?_
  refine va_get (D := (dC, dI)) (ci := 1) (v := .ref n) (C := RX1) (T := TX1) (N := 7) hx hb hw inX1 hown hK hP 0 rfl rfl 0 (by decide) (hw _ mA_53) (fun _ h9 => h9) rfl dX1_clear_12 ?_
  refine lv_iload_n hx hb dX1_clear_15 rfl (lv_at hl 0 rfl) ?_
  refine ix_iconst (n := 0) hx hb dX1_clear_16 ?_
  refine ix_iast (k := 2) (x := 0) hx hb hK hP hD hS 1 0 rfl rfl (by decide) (by decide) (by decide) dX1_clear_17 (fun H locs hP hD hS => ?_)
  have hP : va_P (dC, dI) vwCl (cw h n r d f cI cF (iu (iu (iu N 0 0) 1 0) 2 0) R D cn fc sp y0 y1 y2 y3 Fs) H := hP
  have hD : va_D A (cw h n r d f cI cF (iu (iu (iu N 0 0) 1 0) 2 0) R D cn fc sp y0 y1 y2 y3 Fs) := hD
  refine ix_iinc (k := 0) (lv2 := [(1, .int (iI 3)), (0, .ref h)]) hx hb dX1_clear_18 hl rfl (by decide) rfl (fun ls hl => ?_)
  refine lv_goto (tgt := 2) hx hb dX1_clear_21 (by decide) ?_
  refine lv_iload_n hx hb dX1_clear_2 rfl (lv_at hl 0 rfl) ?_
  refine lv_aload_n hx hb dX1_clear_3 rfl (lv_at hl 1 rfl) ?_
  refine va_get (D := (dC, dI)) (ci := 1) (v := .ref n) (C := RX1) (T := TX1) (N := 7) hx hb hw inX1 hown hK hP 0 rfl rfl 0 (by decide) (hw _ mA_53) (fun _ h9 => h9) rfl dX1_clear_4 ?_
  refine va_alen (v := iI 5) hx hb hK hP 1 0 rfl rfl rfl dX1_clear_7 ?_
  refine ix_icmp_ge (tgt := 24) hx hb dX1_clear_8 (by decide) (by decide) (by decide) (fun c4 => absurd c4 (by decide)) (fun _ => ?_)
  refine lv_aload_n hx hb dX1_clear_11 rfl (lv_at hl 1 rfl) ?_
  refine va_get (D := (dC, dI)) (ci := 1) (v := .ref n) (C := RX1) (T := TX1) (N := 7) hx hb hw inX1 hown hK hP 0 rfl rfl 0 (by decide) (hw _ mA_53) (fun _ h9 => h9) rfl dX1_clear_12 ?_
  refine lv_iload_n hx hb dX1_clear_15 rfl (lv_at hl 0 rfl) ?_
  refine ix_iconst (n := 0) hx hb dX1_clear_16 ?_
  refine ix_iast (k := 3) (x := 0) hx hb hK hP hD hS 1 0 rfl rfl (by decide) (by decide) (by decide) dX1_clear_17 (fun H locs hP hD hS => ?_)
  have hP : va_P (dC, dI) vwCl (cw h n r d f cI cF (iu (iu (iu (iu N 0 0) 1 0) 2 0) 3 0) R D cn fc sp y0 y1 y2 y3 Fs) H := hP
  have hD : va_D A (cw h n r d f cI cF (iu (iu (iu (iu N 0 0) 1 0) 2 0) 3 0) R D cn fc sp y0 y1 y2 y3 Fs) := hD
  refine ix_iinc (k := 0) (lv2 := [(1, .int (iI 4)), (0, .ref h)]) hx hb dX1_clear_18 hl rfl (by decide) rfl (fun ls hl => ?_)
  refine lv_goto (tgt := 2) hx hb dX1_clear_21 (by decide) ?_
  refine lv_iload_n hx hb dX1_clear_2 rfl (lv_at hl 0 rfl) ?_
  refine lv_aload_n hx hb dX1_clear_3 rfl (lv_at hl 1 rfl) ?_
  refine va_get (D := (dC, dI)) (ci := 1) (v := .ref n) (C := RX1) (T := TX1) (N := 7) hx hb hw inX1 hown hK hP 0 rfl rfl 0 (by decide) (hw _ mA_53) (fun _ h9 => h9) rfl dX1_clear_4 ?_
  refine va_alen (v := iI 5) hx hb hK hP 1 0 rfl rfl rfl dX1_clear_7 ?_
  refine ix_icmp_ge (tgt := 24) hx hb dX1_clear_8 (by decide) (by decide) (by decide) (fun c5 => absurd c5 (by decide)) (fun _ => ?_)
  refine lv_aload_n hx hb dX1_clear_11 rfl (lv_at hl 1 rfl) ?_
  refine va_get (D := (dC, dI)) (ci := 1) (v := .ref n) (C := RX1) (T := TX1) (N := 7) hx hb hw inX1 hown hK hP 0 rfl rfl 0 (by decide) (hw _ mA_53) (fun _ h9 => h9) rfl dX1_clear_12 ?_
  refine lv_iload_n hx hb dX1_clear_15 rfl (lv_at hl 0 rfl) ?_
  refine ix_iconst (n := 0) hx hb dX1_clear_16 ?_
  refine ix_iast (k := 4) (x := 0) hx hb hK hP hD hS 1 0 rfl rfl (by decide) (by decide) (by decide) dX1_clear_17 (fun H locs hP hD hS => ?_)
  have hP : va_P (dC, dI) vwCl (cw h n r d f cI cF (iu (iu (iu (iu (iu N 0 0) 1 0) 2 0) 3 0) 4 0) R D cn fc sp y0 y1 y2 y3 Fs) H := hP
  have hD : va_D A (cw h n r d f cI cF (iu (iu (iu (iu (iu N 0 0) 1 0) 2 0) 3 0) 4 0) R D cn fc sp y0 y1 y2 y3 Fs) := hD
  refine ix_iinc (k := 0) (lv2 := [(1, .int (iI 5)), (0, .ref h)]) hx hb dX1_clear_18 hl rfl (by decide) rfl (fun ls hl => ?_)
  refine lv_goto (tgt := 2) hx hb dX1_clear_21 (by decide) ?_
  refine lv_iload_n hx hb dX1_clear_2 rfl (lv_at hl 0 rfl) ?_
  refine lv_aload_n hx hb dX1_clear_3 rfl (lv_at hl 1 rfl) ?_
  refine va_get (D := (dC, dI)) (ci := 1) (v := .ref n) (C := RX1) (T := TX1) (N := 7) hx hb hw inX1 hown hK hP 0 rfl rfl 0 (by decide) (hw _ mA_53) (fun _ h9 => h9) rfl dX1_clear_4 ?_
  refine va_alen (v := iI 5) hx hb hK hP 1 0 rfl rfl rfl dX1_clear_7 ?_
  refine ix_icmp_ge (tgt := 24) hx hb dX1_clear_8 (by decide) (by decide) (by decide) (fun _ => ?_) (fun c6 => absurd c6 (by decide))
  refine lv_aload_n hx hb dX1_clear_24 rfl (lv_at hl 1 rfl) ?_
  refine ix_iconst (n := 0) hx hb dX1_clear_25 ?_
  refine va_put (D := (dC, dI)) (ci := 1) (v := .int (iI 0)) (ty := .boolean) (C := RX1) (T := TX1) (N := 7) hx hb hw inX1 tyX1 tyX1_ok nmX1 hown hK hP hD hS 0 rfl rfl 6 (by decide) (hw _ mA_59) (fun _ h9 => h9) rfl (by decide +kernel) (by decide) (by decide) (Nat.le_of_ble_eq_true rfl) dX1_clear_26 (fun H locs hP hD hS => ?_)
  have hP : va_P (dC, dI) vwCl (cw h n r d f cI cF (iu (iu (iu (iu (iu N 0 0) 1 0) 2 0) 3 0) 4 0) R D cn fc 0 y0 y1 y2 y3 Fs) H := hP
  have hD : va_D A (cw h n r d f cI cF (iu (iu (iu (iu (iu N 0 0) 1 0) 2 0) 3 0) 4 0) R D cn fc 0 y0 y1 y2 y3 Fs) := hD
  have e9 : iu (iu (iu (iu (iu N 0 0) 1 0) 2 0) 3 0) 4 0 = fun _ => 0 := by funext j; unfold iu; by_cases z : 0 ≤ j ∧ j ≤ 4; grind; rw [hci.1 j (by omega)]; grind
  rw [e9] at hP hD
  have hci2 : CI (fun _ => 0) R D cn fc 0 Fs := ⟨fun _ _ => rfl, fun _ => by show (-20 : Int) ≤ 0 ∧ (0 : Int) ≤ 20; decide, hci.2.2.1, hci.2.2.2.1, hci.2.2.2.2.1, Or.inl rfl⟩
  have hP9 := hP.sub (ws' := (cwu h n r d f cI cF (fun _ => 0) (R, D, cn, fc, 0, (y0, y1, y2, y3), Fs))) [0, 1, 2, 3, 4, 5, 6, 7, 8] rfl
  have hD9 := hD.sub (ws' := (cwu h n r d f cI cF (fun _ => 0) (R, D, cn, fc, 0, (y0, y1, y2, y3), Fs))) [0, 1, 2, 3, 4, 5, 6, 7, 8] (by decide) rfl
  have hK9 := hK.sub (tys' := [(cI, .int), (cF, .object RX0)]) [0, 1] rfl
  exact W.vret hx hb hr (fun t ht hW => ⟨⟨(R, D, cn, fc, 0, (y0, y1, y2, y3), Fs), rfl, hci2, by rw [ht]; exact hP9, va_K.moved hW.alike hK9, hD9⟩, hS.F ht⟩) hS.2.2 dX1_clear_29
set_option maxHeartbeats 4000000 in
set_option maxRecDepth 100000 in
/-- the factor of a number, or it throws -/
theorem kX1_numbered (l : Launch) (hlt : l.stackTraces = false) (dC : Nat → ClassId) (dI : Nat → Nat → Nat) (A : Nat → Prop) (h n r d f y0 y1 y2 y3 : Nat) (cF : ClassId) (cn fc sp : Int) (k : Int) (hk : r32 k) (hfc : 0 ≤ fc ∧ fc ≤ 4) : vx_Met l yX1_numbered (.code yX1_numbered cX1_numbered 2 (some (.object "RadicalAnswers$Factor")) :: wsA) ({ frames := 6, cells := 1, slots := 6, locals := 82 }) (va_Pc [.ref h, .int (iI k)] (fun U => va_P (dC, dI) vwCl [(h, .inr (1, [.ref n, .ref r, .ref d, .ref f, .int (iI fc), .int (iI cn), .int (iI sp)])), (f, .inl (cF, 4, .inr (.inr (.inr (.inr (q4 y0 y1 y2 y3))))))] U.heap ∧ va_K (dC, dI) vwCl [(cF, .object RX0)] U ∧ nb U ∧ zt A U)) (va_Qr (fun _ : Unit => 0 ≤ k ∧ k < fc) (fun _ ra _ => ra = ysel k y0 y1 y2 y3) (fun _ => False)) (vx_X (fun _ : Unit => ¬ (0 ≤ k ∧ k < fc)) (fun E _ _ => E = EIOB) (fun _ => False)) 1 6 (fun q => False) := by
  refine vx_ofW (cc := cX1_numbered) (maxL := 2) (ret := (some (.object "RadicalAnswers$Factor"))) (by decide) rfl ?_
  intro p e s m args below meth c s₁ B hml hout hv
  obtain ⟨rfl, hP, hK, hnb, hzt⟩ := hv
  have hx := B.exec
  have hb := B.bytes
  have hr := B.returns
  have hts := atoms_spec (ws := .code yX1_numbered cX1_numbered 2 (some (.object "RadicalAnswers$Factor")) :: wsA) B.pre
  have hw : ∀ w ∈ wsA, w.before _ s = true := fun w h => hts w (List.mem_cons_of_mem _ h)
  have hown : s.vm.findClass RX1 = some m.cls := findClass_of_methodNamed B.named
  have hlocks := B.notSynchronized
  have hl := lv_entry ([.ref h, .int (iI k)]) (n := 2) (Nat.le_of_ble_eq_true rfl)
  rw [lg_entry_eq]
  generalize (lg_sl ([.ref h, .int (iI k)]) ++ List.replicate (2 - (lg_sl ([.ref h, .int (iI k)])).length) Slot.unset).toArray = ls at hl ⊢
  have hl : lv_has ls 2 [(0, .ref h), (1, .int (iI k))] := hl
  have hS : va_S A s.heap s.heap [] := va_S.rf
  refine lv_iload_n hx hb dX1_numbered_0 rfl (lv_at hl 1 rfl) ?_
  refine ix_if_lt (tgt := 21) hx hb dX1_numbered_1 (by decide) (by omega) (fun c1 => ?_) (fun c1 => ?_)
  · exact thIOB (is := 142) hx hb hlt hown hw hnb (List.mem_of_getElem? (i := 4) rfl) hzt hS (by rw [hml]; exact hl.1) dX1_numbered_21 dX1_numbered_24 dX1_numbered_25 dX1_numbered_27 dX1_numbered_30 hout (show 6 ≤ _ from Nat.le_of_ble_eq_true rfl) (Nat.le_of_ble_eq_true rfl) (Nat.le_of_ble_eq_true rfl) (Nat.le_of_ble_eq_true rfl) hlocks (fun t _ t1 t2 => ⟨(), by omega, rfl, vF0 t1 t2⟩) (fun z hz => nomatch hz) (Nat.le_of_ble_eq_true rfl) (Nat.le_of_ble_eq_true rfl)
  · refine lv_iload_n hx hb dX1_numbered_4 rfl (lv_at hl 1 rfl) ?_
    refine lv_aload_n hx hb dX1_numbered_5 rfl (lv_at hl 0 rfl) ?_
    refine va_get (D := (dC, dI)) (ci := 1) (v := .int (iI fc)) (C := RX1) (T := TX1) (N := 7) hx hb hw inX1 hown hK hP 0 rfl rfl 4 (by decide) (hw _ mA_57) (fun _ h9 => h9) rfl dX1_numbered_6 ?_
    refine ix_icmp_ge (tgt := 21) hx hb dX1_numbered_9 (by decide) (by omega) (by omega) (fun c2 => ?_) (fun c2 => ?_)
    · exact thIOB (is := 142) hx hb hlt hown hw hnb (List.mem_of_getElem? (i := 4) rfl) hzt hS (by rw [hml]; exact hl.1) dX1_numbered_21 dX1_numbered_24 dX1_numbered_25 dX1_numbered_27 dX1_numbered_30 hout (show 6 ≤ _ from Nat.le_of_ble_eq_true rfl) (Nat.le_of_ble_eq_true rfl) (Nat.le_of_ble_eq_true rfl) (Nat.le_of_ble_eq_true rfl) hlocks (fun t _ t1 t2 => ⟨(), by omega, rfl, vF0 t1 t2⟩) (fun z hz => nomatch hz) (Nat.le_of_ble_eq_true rfl) (Nat.le_of_ble_eq_true rfl)
    · refine lv_iload_n hx hb dX1_numbered_12 rfl (lv_at hl 1 rfl) ?_
      refine lv_aload_n hx hb dX1_numbered_13 rfl (lv_at hl 0 rfl) ?_
      refine va_get (D := (dC, dI)) (ci := 1) (v := .ref f) (C := RX1) (T := TX1) (N := 7) hx hb hw inX1 hown hK hP 0 rfl rfl 3 (by decide) (hw _ mA_56) (fun _ h9 => h9) rfl dX1_numbered_14 ?_
      refine va_alen (v := iI 4) hx hb hK hP 1 0 rfl rfl rfl dX1_numbered_17 ?_
      refine ix_icmp_lt (tgt := 31) hx hb dX1_numbered_18 (by decide) (by omega) (by decide) (fun c3 => ?_) (fun c3 => ?_)
      · refine lv_aload_n hx hb dX1_numbered_31 rfl (lv_at hl 0 rfl) ?_
        refine va_get (D := (dC, dI)) (ci := 1) (v := .ref f) (C := RX1) (T := TX1) (N := 7) hx hb hw inX1 hown hK hP 0 rfl rfl 3 (by decide) (hw _ mA_56) (fun _ h9 => h9) rfl dX1_numbered_32 ?_
        refine lv_iload_n hx hb dX1_numbered_35 rfl (lv_at hl 1 rfl) ?_
        rcases (show k = 0 ∨ k = 1 ∨ k = 2 ∨ k = 3 by omega) with rfl | rfl | rfl | rfl
        · refine ix_aald hx hb hK hP 1 0 rfl rfl 0 ck0 (vp_in_iI (by decide) (by decide) (by decide)) rfl dX1_numbered_36 ?_
          refine vx_ret (W.widen (k := 1) (n := 6) (Nat.le_of_ble_eq_true rfl) (Nat.le_of_ble_eq_true rfl) ?_)
          exact W.aret hx hb hr (Or.inl ⟨_, rfl⟩) (Or.inr ⟨_, rfl⟩) (fun t ht _ => ⟨⟨(), y0, rfl, by omega, rfl⟩, vF0 (by rw [ht]; exact Nat.le_refl _) (fun q _ => by rw [ht])⟩) (fun z hz => nomatch hz) dX1_numbered_37
        · refine ix_aald hx hb hK hP 1 0 rfl rfl 1 ck1 (vp_in_iI (by decide) (by decide) (by decide)) rfl dX1_numbered_36 ?_
          refine vx_ret (W.widen (k := 1) (n := 6) (Nat.le_of_ble_eq_true rfl) (Nat.le_of_ble_eq_true rfl) ?_)
          exact W.aret hx hb hr (Or.inl ⟨_, rfl⟩) (Or.inr ⟨_, rfl⟩) (fun t ht _ => ⟨⟨(), y1, rfl, by omega, rfl⟩, vF0 (by rw [ht]; exact Nat.le_refl _) (fun q _ => by rw [ht])⟩) (fun z hz => nomatch hz) dX1_numbered_37
        · refine ix_aald hx hb hK hP 1 0 rfl rfl 2 ck2 (vp_in_iI (by decide) (by decide) (by decide)) rfl dX1_numbered_36 ?_
          refine vx_ret (W.widen (k := 1) (n := 6) (Nat.le_of_ble_eq_true rfl) (Nat.le_of_ble_eq_true rfl) ?_)
          exact W.aret hx hb hr (Or.inl ⟨_, rfl⟩) (Or.inr ⟨_, rfl⟩) (fun t ht _ => ⟨⟨(), y2, rfl, by omega, rfl⟩, vF0 (by rw [ht]; exact Nat.le_refl _) (fun q _ => by rw [ht])⟩) (fun z hz => nomatch hz) dX1_numbered_37
        · refine ix_aald hx hb hK hP 1 0 rfl rfl 3 ck3 (vp_in_iI (by decide) (by decide) (by decide)) rfl dX1_numbered_36 ?_
          refine vx_ret (W.widen (k := 1) (n := 6) (Nat.le_of_ble_eq_true rfl) (Nat.le_of_ble_eq_true rfl) ?_)
          exact W.aret hx hb hr (Or.inl ⟨_, rfl⟩) (Or.inr ⟨_, rfl⟩) (fun t ht _ => ⟨⟨(), y3, rfl, by omega, rfl⟩, vF0 (by rw [ht]; exact Nat.le_refl _) (fun q _ => by rw [ht])⟩) (fun z hz => nomatch hz) dX1_numbered_37
      · exact thIOB (is := 142) hx hb hlt hown hw hnb (List.mem_of_getElem? (i := 4) rfl) hzt hS (by rw [hml]; exact hl.1) dX1_numbered_21 dX1_numbered_24 dX1_numbered_25 dX1_numbered_27 dX1_numbered_30 hout (show 6 ≤ _ from Nat.le_of_ble_eq_true rfl) (Nat.le_of_ble_eq_true rfl) (Nat.le_of_ble_eq_true rfl) (Nat.le_of_ble_eq_true rfl) hlocks (fun t _ t1 t2 => ⟨(), by omega, rfl, vF0 t1 t2⟩) (fun z hz => nomatch hz) (Nat.le_of_ble_eq_true rfl) (Nat.le_of_ble_eq_true rfl)
set_option maxHeartbeats 4000000 in
set_option maxRecDepth 100000 in
/-- real, or it throws -/
theorem kX1_checkReal (l : Launch) (hlt : l.stackTraces = false) (dC : Nat → ClassId) (dI : Nat → Nat → Nat) (A : Nat → Prop) (q : Nat) (F : Int → Int) (hF : ∀ j, -1002000 ≤ F j ∧ F j ≤ 1002000) : vx_Met l yX1_checkReal (.code yX1_checkReal cX1_checkReal 1 none :: wsA) ({ frames := 6, cells := 1, slots := 6, locals := 82 }) (va_Pc [.ref q] (fun U => va_P (dC, dI) vwCl [(q, .inr (0, [.int (iI (F 0)), .int (iI (F 1)), .int (iI (F 2)), .int (iI (F 3)), .int (iI (F 4)), .int (iI (F 5))]))] U.heap ∧ va_K (dC, dI) vwCl [] U ∧ nb U ∧ zt A U)) (va_Qv (fun _ : Unit => 0 ≤ F 5) (fun _ _ => True) (fun _ => False)) (vx_X (fun _ : Unit => ¬ 0 ≤ F 5) (fun E _ _ => E = EIAE) (fun _ => False)) 1 6 (fun q => False) := by
  refine vx_ofW (cc := cX1_checkReal) (maxL := 1) (ret := none) (by decide) rfl ?_
  intro p e s m args below meth c s₁ B hml hout hv
  obtain ⟨rfl, hP, hK, hnb, hzt⟩ := hv
  have hx := B.exec
  have hb := B.bytes
  have hr := B.returns
  have hts := atoms_spec (ws := .code yX1_checkReal cX1_checkReal 1 none :: wsA) B.pre
  have hw : ∀ w ∈ wsA, w.before _ s = true := fun w h => hts w (List.mem_cons_of_mem _ h)
  have hown : s.vm.findClass RX1 = some m.cls := findClass_of_methodNamed B.named
  have hlocks := B.notSynchronized
  have hl := lv_entry ([.ref q]) (n := 1) (Nat.le_of_ble_eq_true rfl)
  rw [lg_entry_eq]
  generalize (lg_sl ([.ref q]) ++ List.replicate (1 - (lg_sl ([.ref q])).length) Slot.unset).toArray = ls at hl ⊢
  have hl : lv_has ls 1 [(0, .ref q)] := hl
  have hS : va_S A s.heap s.heap [] := va_S.rf
  refine lv_aload_n hx hb dX1_checkReal_0 rfl (lv_at hl 0 rfl) ?_
  have hPc := hP.sub (ws' := [(q, .inr (0, [.int (iI (F 0)), .int (iI (F 1)), .int (iI (F 2)), .int (iI (F 3)), .int (iI (F 4)), .int (iI (F 5))]))]) [0] rfl
  have hKc := hK.sub (tys' := []) [] rfl
  refine vp_callSi (va_Run.run (va_runVN (As := []) (rest := []) ⟨hx, hb, hml, hown, hw⟩ (kX0_isReal l dC dI q F hF) ⟨va_cnB 0 hw (wsA_sub mA_336) rfl rfl rfl (hnb.1 _ mN_333) (hw _ mA_2) (by decide +kernel) ⟨Nat.le_of_ble_eq_true rfl, Nat.le_of_ble_eq_true rfl⟩, hw _ mA_335, hw _ mP_16⟩ ⟨fun a U g mk q => by obtain ⟨q0, qP, qK⟩ := q; exact ⟨q0, qP, va_K.moved (u := U) (U := U.calling g mk a) (Vm.Alike.refl U.vm) qK⟩, va_recv hKc hPc (ci := 0) (q0 := 0) rfl rfl, fun U hU hW => ⟨rfl, by rw [hU]; exact hPc, va_K.moved hW.alike hKc⟩⟩ rfl rfl hl.1 rfl (lv_room (Nat.le_of_ble_eq_true rfl)) dX1_checkReal_1 ⟨Nat.le_of_ble_eq_true rfl, Nat.le_of_ble_eq_true rfl⟩)) (fun r1 h2 => ?_)
  subst h2
  have hre : f_real F = if 0 ≤ F 5 then 1 else 0 := rfl
  refine ix_if_ne (tgt := 17) hx hb dX1_checkReal_4 (by decide) (by unfold f_real; grind) (fun c3 => ?_) (fun c3 => ?_)
  · have hr0 : 0 ≤ F 5 := by by_cases z : 0 ≤ F 5; exact z; rw [if_neg z] at hre; omega
    refine vx_ret (W.widen (k := 1) (n := 6) (Nat.le_of_ble_eq_true rfl) (Nat.le_of_ble_eq_true rfl) ?_)
    exact W.vret hx hb hr (fun t ht _ => ⟨⟨(), rfl, hr0, trivial⟩, vF0 (by rw [ht]; exact Nat.le_refl _) (fun q _ => by rw [ht])⟩) (fun z hz => nomatch hz) dX1_checkReal_17
  · exact thIAE (is := 140) hx hb hlt hown hw hnb (List.mem_of_getElem? (i := 7) rfl) hzt hS (by rw [hml]; exact hl.1) dX1_checkReal_7 dX1_checkReal_10 dX1_checkReal_11 dX1_checkReal_13 dX1_checkReal_16 hout (show 6 ≤ _ from Nat.le_of_ble_eq_true rfl) (Nat.le_of_ble_eq_true rfl) (Nat.le_of_ble_eq_true rfl) (Nat.le_of_ble_eq_true rfl) hlocks (fun t _ t1 t2 => ⟨(), by intro z; rw [if_pos z] at hre; omega, rfl, vF0 t1 t2⟩) (fun z hz => nomatch hz) (Nat.le_of_ble_eq_true rfl) (Nat.le_of_ble_eq_true rfl)
