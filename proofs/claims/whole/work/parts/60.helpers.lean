/-- a class that isn't another -/
def nc (U : State) : Prop := va_Nc EIAE EIOB U ∧ va_Nc EIOB EISE U ∧ va_Nc EIAE EISE U
theorem nc.moved {u U : State} (hvm : u.vm.Alike U.vm) (h : nc u) : nc U := ⟨va_Nc.moved hvm h.1, va_Nc.moved hvm h.2.1, va_Nc.moved hvm h.2.2⟩
/-- .. and what the law writes to -/
abbrev cwo (h n r d f : Nat) (cI cF : ClassId) (N R D : Int → Int) (cn fc sp : Int) (y0 y1 y2 y3 : Nat) (Fs : Int → Int → Int) (o : Nat) (cO : ClassId) (O : Int → Int) : va_W :=
  [(h, .inr (1, [.ref n, .ref r, .ref d, .ref f, .int (iI fc), .int (iI cn), .int (iI sp)])), (n, .inl (cI, 5, .inl (aI N))), (r, .inl (cI, 5, .inl (aI R))), (d, .inl (cI, 5, .inl (aI D))), (f, .inl (cF, 4, .inr (.inr (.inr (.inr (q4 y0 y1 y2 y3)))))), (y0, .inr (0, fl (Fs 0))), (y1, .inr (0, fl (Fs 1))), (y2, .inr (0, fl (Fs 2))), (y3, .inr (0, fl (Fs 3))), (o, .inl (cO, 1, .inr (.inl (aL O))))]
abbrev cwou (h n r d f : Nat) (cI cF : ClassId) (N : Int → Int) (u : CS) (o : Nat) (cO : ClassId) (O : Int → Int) : va_W := cwo h n r d f cI cF N u.1 u.2.1 u.2.2.1 u.2.2.2.1 u.2.2.2.2.1 u.2.2.2.2.2.1.1 u.2.2.2.2.2.1.2.1 u.2.2.2.2.2.1.2.2.1 u.2.2.2.2.2.1.2.2.2 u.2.2.2.2.2.2 o cO O
theorem mW_put : Cond.codeWith yL_put cL_put 5 (some .int) [(0, 17, 20, 13), (0, 17, 24, 15)] ∈ wsA := wsA_t (List.mem_of_getElem? (i := 81) (by decide +kernel)) (by decide +kernel)
set_option maxHeartbeats 4000000 in
set_option maxRecDepth 100000 in
theorem kL_put (l : Launch) (hlt : l.stackTraces = false) (dC : Nat → ClassId) (dI : Nat → Nat → Nat) (sz : Nat) (h n r d f y0 y1 y2 y3 o : Nat) (cI cF cO : ClassId) (N R D : Int → Int) (cn fc sp : Int) (Fs : Int → Int → Int) (O : Int → Int) (hO : r32 (O 0)) (hci : CI N R D cn fc sp Fs) (k v : Int) (hk : r32 k) (hv9 : r32 v) : Met l yL_put (.codeWith yL_put cL_put 5 (some .int) [(0, 17, 20, 13), (0, 17, 24, 15)] :: wsA) ({ frames := 8, cells := 2, slots := 12, locals := 160 }) (va_Pc [.ref h, .int (iI k), .int (iI v), .ref o] (fun U => U.heap.size = sz ∧ va_P (dC, dI) vwCl (cwo h n r d f cI cF N R D cn fc sp y0 y1 y2 y3 Fs o cO O) U.heap ∧ va_K (dC, dI) vwCl [(cI, .int), (cF, .object RX0), (cO, .long)] U ∧ va_D (fun _ => True) (cwo h n r d f cI cF N R D cn fc sp y0 y1 y2 y3 Fs o cO O) ∧ nb U ∧ nc U ∧ zt (va_A (cwo h n r d f cI cF N R D cn fc sp y0 y1 y2 y3 Fs o cO O) sz) U)) (va_Qi (fun r9 u => r9 = iI u.1 ∧ r32 (u.2.1 0) ∧ H_put N k v u) (fun (u : Int × (Int → Int) × (Int → Int) × CS) t9 => va_P (dC, dI) vwCl (cwou h n r d f cI cF u.2.2.1 u.2.2.2 o cO u.2.1) t9.heap ∧ va_K (dC, dI) vwCl [(cI, .int), (cF, .object RX0), (cO, .long)] t9 ∧ va_D (va_A (cwo h n r d f cI cF N R D cn fc sp y0 y1 y2 y3 Fs o cO O) sz) (cwou h n r d f cI cF u.2.2.1 u.2.2.2 o cO u.2.1)) (va_A (cwo h n r d f cI cF N R D cn fc sp y0 y1 y2 y3 Fs o cO O) sz)) 2 12 (va_A (cwo h n r d f cI cF N R D cn fc sp y0 y1 y2 y3 Fs o cO O) sz) := by
  refine va_MetW (cc := cL_put) (maxL := 5) (ret := (some .int)) (by decide) rfl ?_
  intro p e s m args below meth c s₁ B hml hv
  obtain ⟨rfl, hsz, hP, hK, hD0, hnb, hnc, hzt⟩ := hv
  have hx := B.exec
  have hb := B.bytes
  have hr := B.returns
  have hts := atoms_spec (ws := .codeWith yL_put cL_put 5 (some .int) [(0, 17, 20, 13), (0, 17, 24, 15)] :: wsA) B.pre
  have hw : ∀ w ∈ wsA, w.before _ s = true := fun w h => hts w (List.mem_cons_of_mem _ h)
  have hown : s.vm.findClass RL = some m.cls := findClass_of_methodNamed B.named
  have hlocks := B.notSynchronized
  have htab := vx_table (x := yL_put) B (hts _ List.mem_cons_self)
  subst hsz
  have hD := hD0.self (sz := s.heap.size)
  generalize hAe : va_A (cwo h n r d f cI cF N R D cn fc sp y0 y1 y2 y3 Fs o cO O) s.heap.size = A at hD hzt ⊢
  have hA : ∀ q : Nat, s.heap.size ≤ q → A q := fun q h => by rw [← hAe]; exact Or.inr h
  have hS : va_S A s.heap s.heap [] := va_S.rf
  have hP : va_P (dC, dI) vwCl (cwo h n r d f cI cF N R D cn fc sp y0 y1 y2 y3 Fs o cO O) s.heap := hP
  have hl := lv_entry ([.ref h, .int (iI k), .int (iI v), .ref o]) (n := 5) (Nat.le_of_ble_eq_true rfl)
  rw [lg_entry_eq]
  generalize (lg_sl ([.ref h, .int (iI k), .int (iI v), .ref o]) ++ List.replicate (5 - (lg_sl ([.ref h, .int (iI k), .int (iI v), .ref o])).length) Slot.unset).toArray = ls at hl ⊢
  have hl : lv_has ls 5 [(0, .ref h), (1, .int (iI k)), (2, .int (iI v)), (3, .ref o)] := hl
  refine lv_aload_n hx hb dL_put_0 rfl (lv_at hl 3 rfl) ?_
  refine ix_iconst (n := 0) hx hb dL_put_1 ?_
  refine lv_aload_n hx hb dL_put_2 rfl (lv_at hl 0 rfl) ?_
  refine lv_iload_n hx hb dL_put_3 rfl (lv_at hl 1 rfl) ?_
  refine lv_iload_n hx hb dL_put_4 rfl (lv_at hl 2 rfl) ?_
  have hPc := hP.sub (ws' := (cw h n r d f cI cF N R D cn fc sp y0 y1 y2 y3 Fs)) [0, 1, 2, 3, 4, 5, 6, 7, 8] rfl
  have hDc := hD.sub (ws' := (cw h n r d f cI cF N R D cn fc sp y0 y1 y2 y3 Fs)) [0, 1, 2, 3, 4, 5, 6, 7, 8] (by decide) rfl
  have hKc := hK.sub (tys' := [(cI, .int), (cF, .object RX0)]) [0, 1] rfl
  have hFc := va_free (wc := (cw h n r d f cI cF N R D cn fc sp y0 y1 y2 y3 Fs)) hD hS hA [0, 1, 2, 3, 4, 5, 6, 7, 8] rfl
  refine vx_calli (vx_runV (As := [.int (iI k), .int (iI v)]) (rest := [.int (iI 0), .ref o]) ⟨hx, hb, hml, hown, hw⟩ (kX1_put l hlt dC dI _ h n r d f y0 y1 y2 y3 cI cF N R D cn fc sp Fs hci k v hk hv9) (cwV 2 hw (gV mA_84 mA_85 mA_86 mA_1 mA_87) rfl rfl rfl (by decide +kernel) ⟨Nat.le_of_ble_eq_true rfl, Nat.le_of_ble_eq_true rfl⟩) ⟨fun a U g mk q => by obtain ⟨q0, q1, qP, qK, qD, qN, qZ⟩ := q; exact ⟨q0, q1, qP, va_K.moved (u := U) (U := U.calling g mk a) (Vm.Alike.refl U.vm) qK, qD, nb.same (u := U) rfl qN, zt.go (u := U) qZ (Vm.Alike.refl U.vm) (fun _ q => q) (fun _ _ _ => rfl)⟩, va_recv hKc hPc (ci := 1) (q0 := 0) rfl rfl, fun U hU hW => ⟨rfl, by rw [hU], by rw [hU]; exact hPc, va_K.moved hW.alike hKc, hDc.weaken (fun _ _ _ _ => trivial), nb.warm hW hnb, zt2 hzt hS hU hW.alike hFc⟩⟩ rfl rfl hl.1 rfl (lv_room (Nat.le_of_ble_eq_true rfl)) dL_put_5 ⟨Nat.le_of_ble_eq_true rfl, Nat.le_of_ble_eq_true rfl⟩) hS (fun q _ h => hFc q h) hFc (fun q _ h => hFc q h) (fun E9 ce q9 u9 t9 H1 locs ht hvm hpx hBX hz1 hk1 hS hce hcv hcl => ?_) (fun r3 u1 t9 H1 locs ht hvm hq2 hB hz1 hk1 hS => ?_)
  · obtain ⟨hcond, hP1, hK1, hD1⟩ := hBX
    rw [ht] at hP1
    obtain ⟨hP, hD⟩ := va_join (wr := [(o, .inl (cO, 1, .inr (.inl (aL O))))]) (w1 := (cwu h n r d f cI cF N u9)) hP hD [0, 1, 2, 3, 4, 5, 6, 7, 8] [9] rfl rfl (by decide) (by decide) hk1 hFc hP1 hD1
    generalize H1 = H at hP hS hce ⊢
    have hP := hP.sub (ws' := (cwo h n r d f cI cF N u9.1 u9.2.1 u9.2.2.1 u9.2.2.2.1 u9.2.2.2.2.1 u9.2.2.2.2.2.1.1 u9.2.2.2.2.2.1.2.1 u9.2.2.2.2.2.1.2.2.1 u9.2.2.2.2.2.1.2.2.2 u9.2.2.2.2.2.2 o cO O)) [1, 2, 3, 4, 5, 6, 7, 8, 9, 0] rfl
    have hD := hD.sub (ws' := (cwo h n r d f cI cF N u9.1 u9.2.1 u9.2.2.1 u9.2.2.2.1 u9.2.2.2.2.1 u9.2.2.2.2.2.1.1 u9.2.2.2.2.2.1.2.1 u9.2.2.2.2.2.1.2.2.1 u9.2.2.2.2.2.1.2.2.2 u9.2.2.2.2.2.2 o cO O)) [1, 2, 3, 4, 5, 6, 7, 8, 9, 0] (by decide) rfl
    rcases hcond with ⟨rfl, b1⟩ | ⟨rfl, b1, b2⟩
    · refine vx_catch hown [] ⟨0, 17, 20, 13⟩ [⟨0, 17, 24, 15⟩] (by rw [htab]; rfl) (fun _ h9 => nomatch h9) (by decide) (by decide) (hw _ mA_82) (hnb.use mN_93) hce hcv hcl ?_
      refine lv_astore (lv' := [(4, .ref q9), (0, .ref h), (1, .int (iI k)), (2, .int (iI v)), (3, .ref o)]) hx hb dL_put_20 hl (by decide) rfl (fun ls hl => ?_)
      refine ix_iconst (n := 1) hx hb dL_put_22 ?_
      have hP9 := hP.sub (ws' := (cwou h n r d f cI cF N u9 o cO O)) [0, 1, 2, 3, 4, 5, 6, 7, 8, 9] rfl
      have hD9 := hD.sub (ws' := (cwou h n r d f cI cF N u9 o cO O)) [0, 1, 2, 3, 4, 5, 6, 7, 8, 9] (by decide) rfl
      exact W.iret (v := iI 1) hx hb hr (fun t8 ht hW => ⟨⟨iI 1, (1, O, N, u9), rfl, ⟨rfl, hO, ⟨hpx, Or.inl ⟨rfl, b1, rfl⟩⟩⟩, by rw [ht]; exact hP9, va_K.moved hW.alike hK, hD9⟩, hS.F ht⟩) hS.2.2 dL_put_23
    · refine vx_catch hown [⟨0, 17, 20, 13⟩] ⟨0, 17, 24, 15⟩ [] (by rw [htab]; rfl) (List.forall_mem_cons.mpr ⟨Or.inr ⟨by decide, _, hw _ mA_82, hnc.1⟩, (fun _ h9 => nomatch h9)⟩) (by decide) (by decide) (hw _ mA_83) (hnb.use mN_164) hce hcv hcl ?_
      refine lv_astore (lv' := [(4, .ref q9), (0, .ref h), (1, .int (iI k)), (2, .int (iI v)), (3, .ref o)]) hx hb dL_put_24 hl (by decide) rfl (fun ls hl => ?_)
      refine ix_iconst (n := 2) hx hb dL_put_26 ?_
      have hP9 := hP.sub (ws' := (cwou h n r d f cI cF N u9 o cO O)) [0, 1, 2, 3, 4, 5, 6, 7, 8, 9] rfl
      have hD9 := hD.sub (ws' := (cwou h n r d f cI cF N u9 o cO O)) [0, 1, 2, 3, 4, 5, 6, 7, 8, 9] (by decide) rfl
      exact W.iret (v := iI 2) hx hb hr (fun t8 ht hW => ⟨⟨iI 2, (2, O, N, u9), rfl, ⟨rfl, hO, ⟨hpx, Or.inr (Or.inl ⟨rfl, b1, b2, rfl⟩)⟩⟩, by rw [ht]; exact hP9, va_K.moved hW.alike hK, hD9⟩, hS.F ht⟩) hS.2.2 dL_put_27
  · obtain ⟨hP1, hK1, hD1⟩ := hB
    rw [ht] at hP1
    obtain ⟨hP, hD⟩ := va_join (wr := [(o, .inl (cO, 1, .inr (.inl (aL O))))]) (w1 := (cwu h n r d f cI cF u1.1 u1.2)) hP hD [0, 1, 2, 3, 4, 5, 6, 7, 8] [9] rfl rfl (by decide) (by decide) hk1 hFc hP1 hD1
    generalize H1 = H at hP hS ⊢
    have hP := hP.sub (ws' := (cwo h n r d f cI cF u1.1 u1.2.1 u1.2.2.1 u1.2.2.2.1 u1.2.2.2.2.1 u1.2.2.2.2.2.1 u1.2.2.2.2.2.2.1.1 u1.2.2.2.2.2.2.1.2.1 u1.2.2.2.2.2.2.1.2.2.1 u1.2.2.2.2.2.2.1.2.2.2 u1.2.2.2.2.2.2.2 o cO O)) [1, 2, 3, 4, 5, 6, 7, 8, 9, 0] rfl
    have hD := hD.sub (ws' := (cwo h n r d f cI cF u1.1 u1.2.1 u1.2.2.1 u1.2.2.2.1 u1.2.2.2.2.1 u1.2.2.2.2.2.1 u1.2.2.2.2.2.2.1.1 u1.2.2.2.2.2.2.1.2.1 u1.2.2.2.2.2.2.1.2.2.1 u1.2.2.2.2.2.2.1.2.2.2 u1.2.2.2.2.2.2.2 o cO O)) [1, 2, 3, 4, 5, 6, 7, 8, 9, 0] (by decide) rfl
    obtain ⟨a1, a2, a3, a4, e9⟩ := hq2
    subst e9
    have hz : r32 (if N k = v then 0 else 1) := by split <;> decide
    refine ix_if_eq (tgt := 15) hx hb dL_put_8 (by decide) hz (fun c4 => ?_) (fun c4 => ?_)
    · refine ix_lconst0 hx hb dL_put_15 ?_
      refine ix_last (k := 0) (x := 0) hx hb hK hP hD hS 9 2 rfl rfl (by decide) (by decide) (by decide) dL_put_16 (fun H locs hP hD hS => ?_)
      have hP : va_P (dC, dI) vwCl (cwo h n r d f cI cF u1.1 u1.2.1 u1.2.2.1 u1.2.2.2.1 u1.2.2.2.2.1 u1.2.2.2.2.2.1 u1.2.2.2.2.2.2.1.1 u1.2.2.2.2.2.2.1.2.1 u1.2.2.2.2.2.2.1.2.2.1 u1.2.2.2.2.2.2.1.2.2.2 u1.2.2.2.2.2.2.2 o cO (iu O 0 0)) H := hP
      have hD : va_D A (cwo h n r d f cI cF u1.1 u1.2.1 u1.2.2.1 u1.2.2.2.1 u1.2.2.2.2.1 u1.2.2.2.2.2.1 u1.2.2.2.2.2.2.1.1 u1.2.2.2.2.2.2.1.2.1 u1.2.2.2.2.2.2.1.2.2.1 u1.2.2.2.2.2.2.1.2.2.2 u1.2.2.2.2.2.2.2 o cO (iu O 0 0)) := hD
      refine lv_goto (tgt := 28) hx hb dL_put_17 (by decide) ?_
      refine ix_iconst (n := 0) hx hb dL_put_28 ?_
      have hv9 : (0 : Int) = if N k = v then 0 else 1 := by grind
      have hP9 := hP.sub (ws' := (cwou h n r d f cI cF u1.1 u1.2 o cO (iu O 0 0))) [0, 1, 2, 3, 4, 5, 6, 7, 8, 9] rfl
      have hD9 := hD.sub (ws' := (cwou h n r d f cI cF u1.1 u1.2 o cO (iu O 0 0))) [0, 1, 2, 3, 4, 5, 6, 7, 8, 9] (by decide) rfl
      have hz9 : r32 (0) := (by decide)
      exact W.iret (v := iI 0) hx hb hr (fun t8 ht hW => ⟨⟨iI 0, (0, iu O 0 0, u1.1, u1.2), rfl, ⟨rfl, hz9, ⟨a4, Or.inr (Or.inr ⟨rfl, a1, a2, a3, hv9⟩)⟩⟩, by rw [ht]; exact hP9, va_K.moved hW.alike hK, hD9⟩, hS.F ht⟩) hS.2.2 dL_put_29
    · refine ix_lconst1 hx hb dL_put_11 ?_
      refine lv_goto (tgt := 16) hx hb dL_put_12 (by decide) ?_
      refine ix_last (k := 0) (x := 1) hx hb hK hP hD hS 9 2 rfl rfl (by decide) (by decide) (by decide) dL_put_16 (fun H locs hP hD hS => ?_)
      have hP : va_P (dC, dI) vwCl (cwo h n r d f cI cF u1.1 u1.2.1 u1.2.2.1 u1.2.2.2.1 u1.2.2.2.2.1 u1.2.2.2.2.2.1 u1.2.2.2.2.2.2.1.1 u1.2.2.2.2.2.2.1.2.1 u1.2.2.2.2.2.2.1.2.2.1 u1.2.2.2.2.2.2.1.2.2.2 u1.2.2.2.2.2.2.2 o cO (iu O 0 1)) H := hP
      have hD : va_D A (cwo h n r d f cI cF u1.1 u1.2.1 u1.2.2.1 u1.2.2.2.1 u1.2.2.2.2.1 u1.2.2.2.2.2.1 u1.2.2.2.2.2.2.1.1 u1.2.2.2.2.2.2.1.2.1 u1.2.2.2.2.2.2.1.2.2.1 u1.2.2.2.2.2.2.1.2.2.2 u1.2.2.2.2.2.2.2 o cO (iu O 0 1)) := hD
      refine lv_goto (tgt := 28) hx hb dL_put_17 (by decide) ?_
      refine ix_iconst (n := 0) hx hb dL_put_28 ?_
      have hv9 : (1 : Int) = if N k = v then 0 else 1 := by grind
      have hP9 := hP.sub (ws' := (cwou h n r d f cI cF u1.1 u1.2 o cO (iu O 0 1))) [0, 1, 2, 3, 4, 5, 6, 7, 8, 9] rfl
      have hD9 := hD.sub (ws' := (cwou h n r d f cI cF u1.1 u1.2 o cO (iu O 0 1))) [0, 1, 2, 3, 4, 5, 6, 7, 8, 9] (by decide) rfl
      have hz9 : r32 (1) := (by decide)
      exact W.iret (v := iI 0) hx hb hr (fun t8 ht hW => ⟨⟨iI 0, (0, iu O 0 1, u1.1, u1.2), rfl, ⟨rfl, hz9, ⟨a4, Or.inr (Or.inr ⟨rfl, a1, a2, a3, hv9⟩)⟩⟩, by rw [ht]; exact hP9, va_K.moved hW.alike hK, hD9⟩, hS.F ht⟩) hS.2.2 dL_put_29
theorem mW_at : Cond.codeWith yL_at cL_at 4 (some .int) [(0, 9, 12, 13)] ∈ wsA := wsA_t (List.mem_of_getElem? (i := 180) (by decide +kernel)) (by decide +kernel)
set_option maxHeartbeats 4000000 in
set_option maxRecDepth 100000 in
theorem kL_at (l : Launch) (hlt : l.stackTraces = false) (dC : Nat → ClassId) (dI : Nat → Nat → Nat) (sz : Nat) (h n r d f y0 y1 y2 y3 o : Nat) (cI cF cO : ClassId) (N R D : Int → Int) (cn fc sp : Int) (Fs : Int → Int → Int) (O : Int → Int) (hO : r32 (O 0)) (hci : CI N R D cn fc sp Fs) (k : Int) (hk : r32 k) : Met l yL_at (.codeWith yL_at cL_at 4 (some .int) [(0, 9, 12, 13)] :: wsA) ({ frames := 8, cells := 1, slots := 6, locals := 160 }) (va_Pc [.ref h, .int (iI k), .ref o] (fun U => U.heap.size = sz ∧ va_P (dC, dI) vwCl (cwo h n r d f cI cF N R D cn fc sp y0 y1 y2 y3 Fs o cO O) U.heap ∧ va_K (dC, dI) vwCl [(cI, .int), (cF, .object RX0), (cO, .long)] U ∧ va_D (fun _ => True) (cwo h n r d f cI cF N R D cn fc sp y0 y1 y2 y3 Fs o cO O) ∧ nb U ∧ nc U ∧ zt (va_A (cwo h n r d f cI cF N R D cn fc sp y0 y1 y2 y3 Fs o cO O) sz) U)) (va_Qi (fun r9 u => r9 = iI u.1 ∧ r32 (u.2.1 0) ∧ H_at N k u) (fun (u : Int × (Int → Int) × CS) t9 => va_P (dC, dI) vwCl (cwou h n r d f cI cF N u.2.2 o cO u.2.1) t9.heap ∧ va_K (dC, dI) vwCl [(cI, .int), (cF, .object RX0), (cO, .long)] t9 ∧ va_D (va_A (cwo h n r d f cI cF N R D cn fc sp y0 y1 y2 y3 Fs o cO O) sz) (cwou h n r d f cI cF N u.2.2 o cO u.2.1)) (va_A (cwo h n r d f cI cF N R D cn fc sp y0 y1 y2 y3 Fs o cO O) sz)) 1 6 (va_A (cwo h n r d f cI cF N R D cn fc sp y0 y1 y2 y3 Fs o cO O) sz) := by
  refine va_MetW (cc := cL_at) (maxL := 4) (ret := (some .int)) (by decide) rfl ?_
  intro p e s m args below meth c s₁ B hml hv
  obtain ⟨rfl, hsz, hP, hK, hD0, hnb, hnc, hzt⟩ := hv
  have hx := B.exec
  have hb := B.bytes
  have hr := B.returns
  have hts := atoms_spec (ws := .codeWith yL_at cL_at 4 (some .int) [(0, 9, 12, 13)] :: wsA) B.pre
  have hw : ∀ w ∈ wsA, w.before _ s = true := fun w h => hts w (List.mem_cons_of_mem _ h)
  have hown : s.vm.findClass RL = some m.cls := findClass_of_methodNamed B.named
  have hlocks := B.notSynchronized
  have htab := vx_table (x := yL_put) B (hts _ List.mem_cons_self)
  subst hsz
  have hD := hD0.self (sz := s.heap.size)
  generalize hAe : va_A (cwo h n r d f cI cF N R D cn fc sp y0 y1 y2 y3 Fs o cO O) s.heap.size = A at hD hzt ⊢
  have hA : ∀ q : Nat, s.heap.size ≤ q → A q := fun q h => by rw [← hAe]; exact Or.inr h
  have hS : va_S A s.heap s.heap [] := va_S.rf
  have hP : va_P (dC, dI) vwCl (cwo h n r d f cI cF N R D cn fc sp y0 y1 y2 y3 Fs o cO O) s.heap := hP
  have hl := lv_entry ([.ref h, .int (iI k), .ref o]) (n := 4) (Nat.le_of_ble_eq_true rfl)
  rw [lg_entry_eq]
  generalize (lg_sl ([.ref h, .int (iI k), .ref o]) ++ List.replicate (4 - (lg_sl ([.ref h, .int (iI k), .ref o])).length) Slot.unset).toArray = ls at hl ⊢
  have hl : lv_has ls 4 [(0, .ref h), (1, .int (iI k)), (2, .ref o)] := hl
  refine lv_aload_n hx hb dL_at_0 rfl (lv_at hl 2 rfl) ?_
  refine ix_iconst (n := 0) hx hb dL_at_1 ?_
  refine lv_aload_n hx hb dL_at_2 rfl (lv_at hl 0 rfl) ?_
  refine lv_iload_n hx hb dL_at_3 rfl (lv_at hl 1 rfl) ?_
  have hPc := hP.sub (ws' := (cw h n r d f cI cF N R D cn fc sp y0 y1 y2 y3 Fs)) [0, 1, 2, 3, 4, 5, 6, 7, 8] rfl
  have hDc := hD.sub (ws' := (cw h n r d f cI cF N R D cn fc sp y0 y1 y2 y3 Fs)) [0, 1, 2, 3, 4, 5, 6, 7, 8] (by decide) rfl
  have hKc := hK.sub (tys' := [(cI, .int), (cF, .object RX0)]) [0, 1] rfl
  have hFc := va_free (wc := (cw h n r d f cI cF N R D cn fc sp y0 y1 y2 y3 Fs)) hD hS hA [0, 1, 2, 3, 4, 5, 6, 7, 8] rfl
  refine vx_calli (vx_runV (As := [.int (iI k)]) (rest := [.int (iI 0), .ref o]) ⟨hx, hb, hml, hown, hw⟩ (kX1_at l hlt dC dI _ h n r d f y0 y1 y2 y3 cI cF N R D cn fc sp Fs hci k hk) (cwV 1 hw (gV mA_181 mA_182 mA_183 mA_1 mA_184) rfl rfl rfl (by decide +kernel) ⟨Nat.le_of_ble_eq_true rfl, Nat.le_of_ble_eq_true rfl⟩) ⟨fun a U g mk q => by obtain ⟨q0, q1, qP, qK, qD, qN, qZ⟩ := q; exact ⟨q0, q1, qP, va_K.moved (u := U) (U := U.calling g mk a) (Vm.Alike.refl U.vm) qK, qD, nb.same (u := U) rfl qN, zt.go (u := U) qZ (Vm.Alike.refl U.vm) (fun _ q => q) (fun _ _ _ => rfl)⟩, va_recv hKc hPc (ci := 1) (q0 := 0) rfl rfl, fun U hU hW => ⟨rfl, by rw [hU], by rw [hU]; exact hPc, va_K.moved hW.alike hKc, hDc.weaken (fun _ _ _ _ => trivial), nb.warm hW hnb, zt2 hzt hS hU hW.alike hFc⟩⟩ rfl rfl hl.1 rfl (lv_room (Nat.le_of_ble_eq_true rfl)) dL_at_4 ⟨Nat.le_of_ble_eq_true rfl, Nat.le_of_ble_eq_true rfl⟩) hS (fun q _ h => hFc q h) hFc (fun q _ h => hFc q h) (fun E9 ce q9 u9 t9 H1 locs ht hvm hpx hBX hz1 hk1 hS hce hcv hcl => ?_) (fun r3 u1 t9 H1 locs ht hvm hq2 hB hz1 hk1 hS => ?_)
  · obtain ⟨hcond, hP1, hK1, hD1⟩ := hBX
    rw [ht] at hP1
    obtain ⟨hP, hD⟩ := va_join (wr := [(o, .inl (cO, 1, .inr (.inl (aL O))))]) (w1 := (cwu h n r d f cI cF N u9)) hP hD [0, 1, 2, 3, 4, 5, 6, 7, 8] [9] rfl rfl (by decide) (by decide) hk1 hFc hP1 hD1
    generalize H1 = H at hP hS hce ⊢
    have hP := hP.sub (ws' := (cwo h n r d f cI cF N u9.1 u9.2.1 u9.2.2.1 u9.2.2.2.1 u9.2.2.2.2.1 u9.2.2.2.2.2.1.1 u9.2.2.2.2.2.1.2.1 u9.2.2.2.2.2.1.2.2.1 u9.2.2.2.2.2.1.2.2.2 u9.2.2.2.2.2.2 o cO O)) [1, 2, 3, 4, 5, 6, 7, 8, 9, 0] rfl
    have hD := hD.sub (ws' := (cwo h n r d f cI cF N u9.1 u9.2.1 u9.2.2.1 u9.2.2.2.1 u9.2.2.2.2.1 u9.2.2.2.2.2.1.1 u9.2.2.2.2.2.1.2.1 u9.2.2.2.2.2.1.2.2.1 u9.2.2.2.2.2.1.2.2.2 u9.2.2.2.2.2.2 o cO O)) [1, 2, 3, 4, 5, 6, 7, 8, 9, 0] (by decide) rfl
    obtain ⟨rfl, b1⟩ := hcond
    refine vx_catch hown [] ⟨0, 9, 12, 13⟩ [] (by rw [htab]; rfl) (fun _ h9 => nomatch h9) (by decide) (by decide) (hw _ mA_82) (hnb.use mN_93) hce hcv hcl ?_
    refine lv_astore_n (lv' := [(3, .ref q9), (0, .ref h), (1, .int (iI k)), (2, .ref o)]) hx hb dL_at_12 rfl hl (by decide) rfl (fun ls hl => ?_)
    refine ix_iconst (n := 1) hx hb dL_at_13 ?_
    have hP9 := hP.sub (ws' := (cwou h n r d f cI cF N u9 o cO O)) [0, 1, 2, 3, 4, 5, 6, 7, 8, 9] rfl
    have hD9 := hD.sub (ws' := (cwou h n r d f cI cF N u9 o cO O)) [0, 1, 2, 3, 4, 5, 6, 7, 8, 9] (by decide) rfl
    exact W.iret (v := iI 1) hx hb hr (fun t8 ht hW => ⟨⟨iI 1, (1, O, u9), rfl, ⟨rfl, hO, ⟨hpx, Or.inl ⟨rfl, b1⟩⟩⟩, by rw [ht]; exact hP9, va_K.moved hW.alike hK, hD9⟩, hS.F ht⟩) hS.2.2 dL_at_14
  · obtain ⟨hP1, hK1, hD1⟩ := hB
    rw [ht] at hP1
    obtain ⟨hP, hD⟩ := va_join (wr := [(o, .inl (cO, 1, .inr (.inl (aL O))))]) (w1 := (cwu h n r d f cI cF N u1)) hP hD [0, 1, 2, 3, 4, 5, 6, 7, 8] [9] rfl rfl (by decide) (by decide) hk1 hFc hP1 hD1
    generalize H1 = H at hP hS ⊢
    have hP := hP.sub (ws' := (cwo h n r d f cI cF N u1.1 u1.2.1 u1.2.2.1 u1.2.2.2.1 u1.2.2.2.2.1 u1.2.2.2.2.2.1.1 u1.2.2.2.2.2.1.2.1 u1.2.2.2.2.2.1.2.2.1 u1.2.2.2.2.2.1.2.2.2 u1.2.2.2.2.2.2 o cO O)) [1, 2, 3, 4, 5, 6, 7, 8, 9, 0] rfl
    have hD := hD.sub (ws' := (cwo h n r d f cI cF N u1.1 u1.2.1 u1.2.2.1 u1.2.2.2.1 u1.2.2.2.2.1 u1.2.2.2.2.2.1.1 u1.2.2.2.2.2.1.2.1 u1.2.2.2.2.2.1.2.2.1 u1.2.2.2.2.2.1.2.2.2 u1.2.2.2.2.2.2 o cO O)) [1, 2, 3, 4, 5, 6, 7, 8, 9, 0] (by decide) rfl
    obtain ⟨a1, a2, e9⟩ := hq2
    subst e9
    refine ix_i2l hx hb dL_at_7 ⟨by have := (hci.2.1 k).1; omega, by have := (hci.2.1 k).2; omega⟩ ?_
    refine ix_last (k := 0) (x := N k) hx hb hK hP hD hS 9 2 rfl rfl (by decide) (by decide) (by decide) dL_at_8 (fun H locs hP hD hS => ?_)
    have hP : va_P (dC, dI) vwCl (cwo h n r d f cI cF N u1.1 u1.2.1 u1.2.2.1 u1.2.2.2.1 u1.2.2.2.2.1 u1.2.2.2.2.2.1.1 u1.2.2.2.2.2.1.2.1 u1.2.2.2.2.2.1.2.2.1 u1.2.2.2.2.2.1.2.2.2 u1.2.2.2.2.2.2 o cO (iu O 0 (N k))) H := hP
    have hD : va_D A (cwo h n r d f cI cF N u1.1 u1.2.1 u1.2.2.1 u1.2.2.2.1 u1.2.2.2.2.1 u1.2.2.2.2.2.1.1 u1.2.2.2.2.2.1.2.1 u1.2.2.2.2.2.1.2.2.1 u1.2.2.2.2.2.1.2.2.2 u1.2.2.2.2.2.2 o cO (iu O 0 (N k))) := hD
    refine lv_goto (tgt := 15) hx hb dL_at_9 (by decide) ?_
    refine ix_iconst (n := 0) hx hb dL_at_15 ?_
    have hP9 := hP.sub (ws' := (cwou h n r d f cI cF N u1 o cO (iu O 0 (N k)))) [0, 1, 2, 3, 4, 5, 6, 7, 8, 9] rfl
    have hD9 := hD.sub (ws' := (cwou h n r d f cI cF N u1 o cO (iu O 0 (N k)))) [0, 1, 2, 3, 4, 5, 6, 7, 8, 9] (by decide) rfl
    have hz9 : r32 (N k) := ⟨by have := (hci.2.1 k).1; omega, by have := (hci.2.1 k).2; omega⟩
    exact W.iret (v := iI 0) hx hb hr (fun t8 ht hW => ⟨⟨iI 0, (0, iu O 0 (N k), u1), rfl, ⟨rfl, hz9, ⟨a1, Or.inr ⟨rfl, a2, rfl⟩⟩⟩, by rw [ht]; exact hP9, va_K.moved hW.alike hK, hD9⟩, hS.F ht⟩) hS.2.2 dL_at_16
theorem mW_change : Cond.codeWith yL_change cL_change 4 (some .int) [(0, 16, 19, 15)] ∈ wsA := wsA_t (List.mem_of_getElem? (i := 187) (by decide +kernel)) (by decide +kernel)
set_option maxHeartbeats 4000000 in
set_option maxRecDepth 100000 in
theorem kL_change (l : Launch) (hlt : l.stackTraces = false) (dC : Nat → ClassId) (dI : Nat → Nat → Nat) (sz : Nat) (h n r d f y0 y1 y2 y3 o : Nat) (cI cF cO : ClassId) (N R D : Int → Int) (cn fc sp : Int) (Fs : Int → Int → Int) (O : Int → Int) (hO : r32 (O 0)) (hci : CI N R D cn fc sp Fs) (how : Int) (hk : r32 how) : Met l yL_change (.codeWith yL_change cL_change 4 (some .int) [(0, 16, 19, 15)] :: wsA) ({ frames := 8, cells := 1, slots := 6, locals := 200 }) (va_Pc [.ref h, .int (iI how), .ref o] (fun U => U.heap.size = sz ∧ va_P (dC, dI) vwCl (cwo h n r d f cI cF N R D cn fc sp y0 y1 y2 y3 Fs o cO O) U.heap ∧ va_K (dC, dI) vwCl [(cI, .int), (cF, .object RX0), (cO, .long)] U ∧ va_D (fun _ => True) (cwo h n r d f cI cF N R D cn fc sp y0 y1 y2 y3 Fs o cO O) ∧ nb U ∧ nc U ∧ zt (va_A (cwo h n r d f cI cF N R D cn fc sp y0 y1 y2 y3 Fs o cO O) sz) U)) (va_Qi (fun r9 u => r9 = iI u.1 ∧ r32 (u.2.1 0) ∧ H_change N how u) (fun (u : Int × (Int → Int) × (Int → Int) × CS) t9 => va_P (dC, dI) vwCl (cwou h n r d f cI cF u.2.2.1 u.2.2.2 o cO u.2.1) t9.heap ∧ va_K (dC, dI) vwCl [(cI, .int), (cF, .object RX0), (cO, .long)] t9 ∧ va_D (va_A (cwo h n r d f cI cF N R D cn fc sp y0 y1 y2 y3 Fs o cO O) sz) (cwou h n r d f cI cF u.2.2.1 u.2.2.2 o cO u.2.1)) (va_A (cwo h n r d f cI cF N R D cn fc sp y0 y1 y2 y3 Fs o cO O) sz)) 1 6 (va_A (cwo h n r d f cI cF N R D cn fc sp y0 y1 y2 y3 Fs o cO O) sz) := by
  refine va_MetW (cc := cL_change) (maxL := 4) (ret := (some .int)) (by decide) rfl ?_
  intro p e s m args below meth c s₁ B hml hv
  obtain ⟨rfl, hsz, hP, hK, hD0, hnb, hnc, hzt⟩ := hv
  have hx := B.exec
  have hb := B.bytes
  have hr := B.returns
  have hts := atoms_spec (ws := .codeWith yL_change cL_change 4 (some .int) [(0, 16, 19, 15)] :: wsA) B.pre
  have hw : ∀ w ∈ wsA, w.before _ s = true := fun w h => hts w (List.mem_cons_of_mem _ h)
  have hown : s.vm.findClass RL = some m.cls := findClass_of_methodNamed B.named
  have hlocks := B.notSynchronized
  have htab := vx_table (x := yL_put) B (hts _ List.mem_cons_self)
  subst hsz
  have hD := hD0.self (sz := s.heap.size)
  generalize hAe : va_A (cwo h n r d f cI cF N R D cn fc sp y0 y1 y2 y3 Fs o cO O) s.heap.size = A at hD hzt ⊢
  have hA : ∀ q : Nat, s.heap.size ≤ q → A q := fun q h => by rw [← hAe]; exact Or.inr h
  have hS : va_S A s.heap s.heap [] := va_S.rf
  have hP : va_P (dC, dI) vwCl (cwo h n r d f cI cF N R D cn fc sp y0 y1 y2 y3 Fs o cO O) s.heap := hP
  have hl := lv_entry ([.ref h, .int (iI how), .ref o]) (n := 4) (Nat.le_of_ble_eq_true rfl)
  rw [lg_entry_eq]
  generalize (lg_sl ([.ref h, .int (iI how), .ref o]) ++ List.replicate (4 - (lg_sl ([.ref h, .int (iI how), .ref o])).length) Slot.unset).toArray = ls at hl ⊢
  have hl : lv_has ls 4 [(0, .ref h), (1, .int (iI how)), (2, .ref o)] := hl
  refine lv_aload_n hx hb dL_change_0 rfl (lv_at hl 2 rfl) ?_
  refine ix_iconst (n := 0) hx hb dL_change_1 ?_
  refine lv_aload_n hx hb dL_change_2 rfl (lv_at hl 0 rfl) ?_
  refine lv_iload_n hx hb dL_change_3 rfl (lv_at hl 1 rfl) ?_
  have hPc := hP.sub (ws' := (cw h n r d f cI cF N R D cn fc sp y0 y1 y2 y3 Fs)) [0, 1, 2, 3, 4, 5, 6, 7, 8] rfl
  have hDc := hD.sub (ws' := (cw h n r d f cI cF N R D cn fc sp y0 y1 y2 y3 Fs)) [0, 1, 2, 3, 4, 5, 6, 7, 8] (by decide) rfl
  have hKc := hK.sub (tys' := [(cI, .int), (cF, .object RX0)]) [0, 1] rfl
  have hFc := va_free (wc := (cw h n r d f cI cF N R D cn fc sp y0 y1 y2 y3 Fs)) hD hS hA [0, 1, 2, 3, 4, 5, 6, 7, 8] rfl
  refine vx_calli (vx_runV (As := [.int (iI how)]) (rest := [.int (iI 0), .ref o]) ⟨hx, hb, hml, hown, hw⟩ (kX1_change l hlt dC dI _ h n r d f y0 y1 y2 y3 cI cF N R D cn fc sp Fs hci how hk) (cwV 1 hw (gV mA_188 mA_189 mA_190 mA_1 mA_191) rfl rfl rfl (by decide +kernel) ⟨Nat.le_of_ble_eq_true rfl, Nat.le_of_ble_eq_true rfl⟩) ⟨fun a U g mk q => by obtain ⟨q0, q1, qP, qK, qD, qN, qZ⟩ := q; exact ⟨q0, q1, qP, va_K.moved (u := U) (U := U.calling g mk a) (Vm.Alike.refl U.vm) qK, qD, nb.same (u := U) rfl qN, zt.go (u := U) qZ (Vm.Alike.refl U.vm) (fun _ q => q) (fun _ _ _ => rfl)⟩, va_recv hKc hPc (ci := 1) (q0 := 0) rfl rfl, fun U hU hW => ⟨rfl, by rw [hU], by rw [hU]; exact hPc, va_K.moved hW.alike hKc, hDc.weaken (fun _ _ _ _ => trivial), nb.warm hW hnb, zt2 hzt hS hU hW.alike hFc⟩⟩ rfl rfl hl.1 rfl (lv_room (Nat.le_of_ble_eq_true rfl)) dL_change_4 ⟨Nat.le_of_ble_eq_true rfl, Nat.le_of_ble_eq_true rfl⟩) hS (fun q _ h => hFc q h) hFc (fun q _ h => hFc q h) (fun E9 ce q9 u9 t9 H1 locs ht hvm hpx hBX hz1 hk1 hS hce hcv hcl => ?_) (fun r3 u1 t9 H1 locs ht hvm hq2 hB hz1 hk1 hS => ?_)
  · obtain ⟨hcond, hP1, hK1, hD1⟩ := hBX
    rw [ht] at hP1
    obtain ⟨hP, hD⟩ := va_join (wr := [(o, .inl (cO, 1, .inr (.inl (aL O))))]) (w1 := (cwu h n r d f cI cF N u9)) hP hD [0, 1, 2, 3, 4, 5, 6, 7, 8] [9] rfl rfl (by decide) (by decide) hk1 hFc hP1 hD1
    generalize H1 = H at hP hS hce ⊢
    have hP := hP.sub (ws' := (cwo h n r d f cI cF N u9.1 u9.2.1 u9.2.2.1 u9.2.2.2.1 u9.2.2.2.2.1 u9.2.2.2.2.2.1.1 u9.2.2.2.2.2.1.2.1 u9.2.2.2.2.2.1.2.2.1 u9.2.2.2.2.2.1.2.2.2 u9.2.2.2.2.2.2 o cO O)) [1, 2, 3, 4, 5, 6, 7, 8, 9, 0] rfl
    have hD := hD.sub (ws' := (cwo h n r d f cI cF N u9.1 u9.2.1 u9.2.2.1 u9.2.2.2.1 u9.2.2.2.2.1 u9.2.2.2.2.2.1.1 u9.2.2.2.2.2.1.2.1 u9.2.2.2.2.2.1.2.2.1 u9.2.2.2.2.2.1.2.2.2 u9.2.2.2.2.2.2 o cO O)) [1, 2, 3, 4, 5, 6, 7, 8, 9, 0] (by decide) rfl
    obtain ⟨rfl, b1⟩ := hcond
    refine vx_catch hown [] ⟨0, 16, 19, 15⟩ [] (by rw [htab]; rfl) (fun _ h9 => nomatch h9) (by decide) (by decide) (hw _ mA_83) (hnb.use mN_164) hce hcv hcl ?_
    refine lv_astore_n (lv' := [(3, .ref q9), (0, .ref h), (1, .int (iI how)), (2, .ref o)]) hx hb dL_change_19 rfl hl (by decide) rfl (fun ls hl => ?_)
    refine ix_iconst (n := 1) hx hb dL_change_20 ?_
    have hP9 := hP.sub (ws' := (cwou h n r d f cI cF N u9 o cO O)) [0, 1, 2, 3, 4, 5, 6, 7, 8, 9] rfl
    have hD9 := hD.sub (ws' := (cwou h n r d f cI cF N u9 o cO O)) [0, 1, 2, 3, 4, 5, 6, 7, 8, 9] (by decide) rfl
    exact W.iret (v := iI 1) hx hb hr (fun t8 ht hW => ⟨⟨iI 1, (1, O, N, u9), rfl, ⟨rfl, hO, ⟨hpx, Or.inl ⟨rfl, b1, rfl⟩⟩⟩, by rw [ht]; exact hP9, va_K.moved hW.alike hK, hD9⟩, hS.F ht⟩) hS.2.2 dL_change_21
  · obtain ⟨hP1, hK1, hD1⟩ := hB
    rw [ht] at hP1
    obtain ⟨hP, hD⟩ := va_join (wr := [(o, .inl (cO, 1, .inr (.inl (aL O))))]) (w1 := (cwu h n r d f cI cF u1.1 u1.2)) hP hD [0, 1, 2, 3, 4, 5, 6, 7, 8] [9] rfl rfl (by decide) (by decide) hk1 hFc hP1 hD1
    generalize H1 = H at hP hS ⊢
    have hP := hP.sub (ws' := (cwo h n r d f cI cF u1.1 u1.2.1 u1.2.2.1 u1.2.2.2.1 u1.2.2.2.2.1 u1.2.2.2.2.2.1 u1.2.2.2.2.2.2.1.1 u1.2.2.2.2.2.2.1.2.1 u1.2.2.2.2.2.2.1.2.2.1 u1.2.2.2.2.2.2.1.2.2.2 u1.2.2.2.2.2.2.2 o cO O)) [1, 2, 3, 4, 5, 6, 7, 8, 9, 0] rfl
    have hD := hD.sub (ws' := (cwo h n r d f cI cF u1.1 u1.2.1 u1.2.2.1 u1.2.2.2.1 u1.2.2.2.2.1 u1.2.2.2.2.2.1 u1.2.2.2.2.2.2.1.1 u1.2.2.2.2.2.2.1.2.1 u1.2.2.2.2.2.2.1.2.2.1 u1.2.2.2.2.2.2.1.2.2.2 u1.2.2.2.2.2.2.2 o cO O)) [1, 2, 3, 4, 5, 6, 7, 8, 9, 0] (by decide) rfl
    obtain ⟨a1, a2, a3, e9⟩ := hq2
    subst e9
    have hc9 : f_cok N how = 0 ∨ f_cok N how = 1 := by unfold f_cok f_all; grind
    refine ix_if_eq (tgt := 14) hx hb dL_change_7 (by decide) ⟨by omega, by omega⟩ (fun c4 => ?_) (fun c4 => ?_)
    · refine ix_lconst0 hx hb dL_change_14 ?_
      refine ix_last (k := 0) (x := 0) hx hb hK hP hD hS 9 2 rfl rfl (by decide) (by decide) (by decide) dL_change_15 (fun H locs hP hD hS => ?_)
      have hP : va_P (dC, dI) vwCl (cwo h n r d f cI cF u1.1 u1.2.1 u1.2.2.1 u1.2.2.2.1 u1.2.2.2.2.1 u1.2.2.2.2.2.1 u1.2.2.2.2.2.2.1.1 u1.2.2.2.2.2.2.1.2.1 u1.2.2.2.2.2.2.1.2.2.1 u1.2.2.2.2.2.2.1.2.2.2 u1.2.2.2.2.2.2.2 o cO (iu O 0 0)) H := hP
      have hD : va_D A (cwo h n r d f cI cF u1.1 u1.2.1 u1.2.2.1 u1.2.2.2.1 u1.2.2.2.2.1 u1.2.2.2.2.2.1 u1.2.2.2.2.2.2.1.1 u1.2.2.2.2.2.2.1.2.1 u1.2.2.2.2.2.2.1.2.2.1 u1.2.2.2.2.2.2.1.2.2.2 u1.2.2.2.2.2.2.2 o cO (iu O 0 0)) := hD
      refine lv_goto (tgt := 22) hx hb dL_change_16 (by decide) ?_
      refine ix_iconst (n := 0) hx hb dL_change_22 ?_
      have hv9 : (0 : Int) = f_cok N how := by omega
      have hP9 := hP.sub (ws' := (cwou h n r d f cI cF u1.1 u1.2 o cO (iu O 0 0))) [0, 1, 2, 3, 4, 5, 6, 7, 8, 9] rfl
      have hD9 := hD.sub (ws' := (cwou h n r d f cI cF u1.1 u1.2 o cO (iu O 0 0))) [0, 1, 2, 3, 4, 5, 6, 7, 8, 9] (by decide) rfl
      have hz9 : r32 (0) := (by decide)
      exact W.iret (v := iI 0) hx hb hr (fun t8 ht hW => ⟨⟨iI 0, (0, iu O 0 0, u1.1, u1.2), rfl, ⟨rfl, hz9, ⟨a3, Or.inr ⟨rfl, a1, a2, hv9⟩⟩⟩, by rw [ht]; exact hP9, va_K.moved hW.alike hK, hD9⟩, hS.F ht⟩) hS.2.2 dL_change_23
    · refine ix_lconst1 hx hb dL_change_10 ?_
      refine lv_goto (tgt := 15) hx hb dL_change_11 (by decide) ?_
      refine ix_last (k := 0) (x := 1) hx hb hK hP hD hS 9 2 rfl rfl (by decide) (by decide) (by decide) dL_change_15 (fun H locs hP hD hS => ?_)
      have hP : va_P (dC, dI) vwCl (cwo h n r d f cI cF u1.1 u1.2.1 u1.2.2.1 u1.2.2.2.1 u1.2.2.2.2.1 u1.2.2.2.2.2.1 u1.2.2.2.2.2.2.1.1 u1.2.2.2.2.2.2.1.2.1 u1.2.2.2.2.2.2.1.2.2.1 u1.2.2.2.2.2.2.1.2.2.2 u1.2.2.2.2.2.2.2 o cO (iu O 0 1)) H := hP
      have hD : va_D A (cwo h n r d f cI cF u1.1 u1.2.1 u1.2.2.1 u1.2.2.2.1 u1.2.2.2.2.1 u1.2.2.2.2.2.1 u1.2.2.2.2.2.2.1.1 u1.2.2.2.2.2.2.1.2.1 u1.2.2.2.2.2.2.1.2.2.1 u1.2.2.2.2.2.2.1.2.2.2 u1.2.2.2.2.2.2.2 o cO (iu O 0 1)) := hD
      refine lv_goto (tgt := 22) hx hb dL_change_16 (by decide) ?_
      refine ix_iconst (n := 0) hx hb dL_change_22 ?_
      have hv9 : (1 : Int) = f_cok N how := by omega
      have hP9 := hP.sub (ws' := (cwou h n r d f cI cF u1.1 u1.2 o cO (iu O 0 1))) [0, 1, 2, 3, 4, 5, 6, 7, 8, 9] rfl
      have hD9 := hD.sub (ws' := (cwou h n r d f cI cF u1.1 u1.2 o cO (iu O 0 1))) [0, 1, 2, 3, 4, 5, 6, 7, 8, 9] (by decide) rfl
      have hz9 : r32 (1) := (by decide)
      exact W.iret (v := iI 0) hx hb hr (fun t8 ht hW => ⟨⟨iI 0, (0, iu O 0 1, u1.1, u1.2), rfl, ⟨rfl, hz9, ⟨a3, Or.inr ⟨rfl, a1, a2, hv9⟩⟩⟩, by rw [ht]; exact hP9, va_K.moved hW.alike hK, hD9⟩, hS.F ht⟩) hS.2.2 dL_change_23
theorem mW_factors : Cond.codeWith yL_factors cL_factors 3 (some .int) [(0, 8, 11, 29)] ∈ wsA := wsA_t (List.mem_of_getElem? (i := 209) (by decide +kernel)) (by decide +kernel)
set_option maxHeartbeats 4000000 in
set_option maxRecDepth 100000 in
theorem kL_factors (l : Launch) (hlt : l.stackTraces = false) (dC : Nat → ClassId) (dI : Nat → Nat → Nat) (sz : Nat) (h n r d f y0 y1 y2 y3 o : Nat) (cI cF cO : ClassId) (N R D : Int → Int) (cn fc sp : Int) (Fs : Int → Int → Int) (O : Int → Int) (hO : r32 (O 0)) (hci : CI N R D cn fc sp Fs) : Met l yL_factors (.codeWith yL_factors cL_factors 3 (some .int) [(0, 8, 11, 29)] :: wsA) ({ frames := 8, cells := 1, slots := 6, locals := 320 }) (va_Pc [.ref h, .ref o] (fun U => U.heap.size = sz ∧ va_P (dC, dI) vwCl (cwo h n r d f cI cF N R D cn fc sp y0 y1 y2 y3 Fs o cO O) U.heap ∧ va_K (dC, dI) vwCl [(cI, .int), (cF, .object RX0), (cO, .long)] U ∧ va_D (fun _ => True) (cwo h n r d f cI cF N R D cn fc sp y0 y1 y2 y3 Fs o cO O) ∧ nb U ∧ nc U ∧ zt (va_A (cwo h n r d f cI cF N R D cn fc sp y0 y1 y2 y3 Fs o cO O) sz) U)) (va_Qi (fun r9 u => r9 = iI u.1 ∧ r32 (u.2.1 0) ∧ H_factors N  u) (fun (u : Int × (Int → Int) × CS) t9 => va_P (dC, dI) vwCl (cwou h n r d f cI cF N u.2.2 o cO u.2.1) t9.heap ∧ va_K (dC, dI) vwCl [(cI, .int), (cF, .object RX0), (cO, .long)] t9 ∧ va_D (va_A (cwo h n r d f cI cF N R D cn fc sp y0 y1 y2 y3 Fs o cO O) sz) (cwou h n r d f cI cF N u.2.2 o cO u.2.1)) (va_A (cwo h n r d f cI cF N R D cn fc sp y0 y1 y2 y3 Fs o cO O) sz)) 1 6 (va_A (cwo h n r d f cI cF N R D cn fc sp y0 y1 y2 y3 Fs o cO O) sz) := by
  refine va_MetW (cc := cL_factors) (maxL := 3) (ret := (some .int)) (by decide) rfl ?_
  intro p e s m args below meth c s₁ B hml hv
  obtain ⟨rfl, hsz, hP, hK, hD0, hnb, hnc, hzt⟩ := hv
  have hx := B.exec
  have hb := B.bytes
  have hr := B.returns
  have hts := atoms_spec (ws := .codeWith yL_factors cL_factors 3 (some .int) [(0, 8, 11, 29)] :: wsA) B.pre
  have hw : ∀ w ∈ wsA, w.before _ s = true := fun w h => hts w (List.mem_cons_of_mem _ h)
  have hown : s.vm.findClass RL = some m.cls := findClass_of_methodNamed B.named
  have hlocks := B.notSynchronized
  have htab := vx_table (x := yL_put) B (hts _ List.mem_cons_self)
  subst hsz
  have hD := hD0.self (sz := s.heap.size)
  generalize hAe : va_A (cwo h n r d f cI cF N R D cn fc sp y0 y1 y2 y3 Fs o cO O) s.heap.size = A at hD hzt ⊢
  have hA : ∀ q : Nat, s.heap.size ≤ q → A q := fun q h => by rw [← hAe]; exact Or.inr h
  have hS : va_S A s.heap s.heap [] := va_S.rf
  have hP : va_P (dC, dI) vwCl (cwo h n r d f cI cF N R D cn fc sp y0 y1 y2 y3 Fs o cO O) s.heap := hP
  have hl := lv_entry ([.ref h, .ref o]) (n := 3) (Nat.le_of_ble_eq_true rfl)
  rw [lg_entry_eq]
  generalize (lg_sl ([.ref h, .ref o]) ++ List.replicate (3 - (lg_sl ([.ref h, .ref o])).length) Slot.unset).toArray = ls at hl ⊢
  have hl : lv_has ls 3 [(0, .ref h), (1, .ref o)] := hl
  refine lv_aload_n hx hb dL_factors_0 rfl (lv_at hl 1 rfl) ?_
  refine ix_iconst (n := 0) hx hb dL_factors_1 ?_
  refine lv_aload_n hx hb dL_factors_2 rfl (lv_at hl 0 rfl) ?_
  have hPc := hP.sub (ws' := (cw h n r d f cI cF N R D cn fc sp y0 y1 y2 y3 Fs)) [0, 1, 2, 3, 4, 5, 6, 7, 8] rfl
  have hDc := hD.sub (ws' := (cw h n r d f cI cF N R D cn fc sp y0 y1 y2 y3 Fs)) [0, 1, 2, 3, 4, 5, 6, 7, 8] (by decide) rfl
  have hKc := hK.sub (tys' := [(cI, .int), (cF, .object RX0)]) [0, 1] rfl
  have hFc := va_free (wc := (cw h n r d f cI cF N R D cn fc sp y0 y1 y2 y3 Fs)) hD hS hA [0, 1, 2, 3, 4, 5, 6, 7, 8] rfl
  refine vx_calli (vx_runV (As := []) (rest := [.int (iI 0), .ref o]) ⟨hx, hb, hml, hown, hw⟩ (kX1_factors l hlt dC dI _ h n r d f y0 y1 y2 y3 cI cF N R D cn fc sp Fs hci ) (cwV 0 hw (gV mA_211 mA_212 mA_213 mA_1 mA_214) rfl rfl rfl (by decide +kernel) ⟨Nat.le_of_ble_eq_true rfl, Nat.le_of_ble_eq_true rfl⟩) ⟨fun a U g mk q => by obtain ⟨q0, q1, qP, qK, qD, qN, qZ⟩ := q; exact ⟨q0, q1, qP, va_K.moved (u := U) (U := U.calling g mk a) (Vm.Alike.refl U.vm) qK, qD, nb.same (u := U) rfl qN, zt.go (u := U) qZ (Vm.Alike.refl U.vm) (fun _ q => q) (fun _ _ _ => rfl)⟩, va_recv hKc hPc (ci := 1) (q0 := 0) rfl rfl, fun U hU hW => ⟨rfl, by rw [hU], by rw [hU]; exact hPc, va_K.moved hW.alike hKc, hDc.weaken (fun _ _ _ _ => trivial), nb.warm hW hnb, zt2 hzt hS hU hW.alike hFc⟩⟩ rfl rfl hl.1 rfl (lv_room (Nat.le_of_ble_eq_true rfl)) dL_factors_3 ⟨Nat.le_of_ble_eq_true rfl, Nat.le_of_ble_eq_true rfl⟩) hS (fun q _ h => hFc q h) hFc (fun q _ h => hFc q h) (fun E9 ce q9 u9 t9 H1 locs ht hvm hpx hBX hz1 hk1 hS hce hcv hcl => ?_) (fun r3 u1 t9 H1 locs ht hvm hq2 hB hz1 hk1 hS => ?_)
  · obtain ⟨hcond, hP1, hK1, hD1⟩ := hBX
    rw [ht] at hP1
    obtain ⟨hP, hD⟩ := va_join (wr := [(o, .inl (cO, 1, .inr (.inl (aL O))))]) (w1 := (cwu h n r d f cI cF N u9)) hP hD [0, 1, 2, 3, 4, 5, 6, 7, 8] [9] rfl rfl (by decide) (by decide) hk1 hFc hP1 hD1
    generalize H1 = H at hP hS hce ⊢
    have hP := hP.sub (ws' := (cwo h n r d f cI cF N u9.1 u9.2.1 u9.2.2.1 u9.2.2.2.1 u9.2.2.2.2.1 u9.2.2.2.2.2.1.1 u9.2.2.2.2.2.1.2.1 u9.2.2.2.2.2.1.2.2.1 u9.2.2.2.2.2.1.2.2.2 u9.2.2.2.2.2.2 o cO O)) [1, 2, 3, 4, 5, 6, 7, 8, 9, 0] rfl
    have hD := hD.sub (ws' := (cwo h n r d f cI cF N u9.1 u9.2.1 u9.2.2.1 u9.2.2.2.1 u9.2.2.2.2.1 u9.2.2.2.2.2.1.1 u9.2.2.2.2.2.1.2.1 u9.2.2.2.2.2.1.2.2.1 u9.2.2.2.2.2.1.2.2.2 u9.2.2.2.2.2.2 o cO O)) [1, 2, 3, 4, 5, 6, 7, 8, 9, 0] (by decide) rfl
    obtain ⟨rfl, b1⟩ := hcond
    refine vx_catch hown [] ⟨0, 8, 11, 29⟩ [] (by rw [htab]; rfl) (fun _ h9 => nomatch h9) (by decide) (by decide) (hw _ mA_210) (hnb.use mN_221) hce hcv hcl ?_
    refine lv_astore_n (lv' := [(2, .ref q9), (0, .ref h), (1, .ref o)]) hx hb dL_factors_11 rfl hl (by decide) rfl (fun ls hl => ?_)
    refine ix_iconst (n := 1) hx hb dL_factors_12 ?_
    have hP9 := hP.sub (ws' := (cwou h n r d f cI cF N u9 o cO O)) [0, 1, 2, 3, 4, 5, 6, 7, 8, 9] rfl
    have hD9 := hD.sub (ws' := (cwou h n r d f cI cF N u9 o cO O)) [0, 1, 2, 3, 4, 5, 6, 7, 8, 9] (by decide) rfl
    exact W.iret (v := iI 1) hx hb hr (fun t8 ht hW => ⟨⟨iI 1, (1, O, u9), rfl, ⟨rfl, hO, ⟨hpx, Or.inl ⟨rfl, b1⟩⟩⟩, by rw [ht]; exact hP9, va_K.moved hW.alike hK, hD9⟩, hS.F ht⟩) hS.2.2 dL_factors_13
  · obtain ⟨hP1, hK1, hD1⟩ := hB
    rw [ht] at hP1
    obtain ⟨hP, hD⟩ := va_join (wr := [(o, .inl (cO, 1, .inr (.inl (aL O))))]) (w1 := (cwu h n r d f cI cF N u1)) hP hD [0, 1, 2, 3, 4, 5, 6, 7, 8] [9] rfl rfl (by decide) (by decide) hk1 hFc hP1 hD1
    generalize H1 = H at hP hS ⊢
    have hP := hP.sub (ws' := (cwo h n r d f cI cF N u1.1 u1.2.1 u1.2.2.1 u1.2.2.2.1 u1.2.2.2.2.1 u1.2.2.2.2.2.1.1 u1.2.2.2.2.2.1.2.1 u1.2.2.2.2.2.1.2.2.1 u1.2.2.2.2.2.1.2.2.2 u1.2.2.2.2.2.2 o cO O)) [1, 2, 3, 4, 5, 6, 7, 8, 9, 0] rfl
    have hD := hD.sub (ws' := (cwo h n r d f cI cF N u1.1 u1.2.1 u1.2.2.1 u1.2.2.2.1 u1.2.2.2.2.1 u1.2.2.2.2.2.1.1 u1.2.2.2.2.2.1.2.1 u1.2.2.2.2.2.1.2.2.1 u1.2.2.2.2.2.1.2.2.2 u1.2.2.2.2.2.2 o cO O)) [1, 2, 3, 4, 5, 6, 7, 8, 9, 0] (by decide) rfl
    obtain ⟨a1, e9⟩ := hq2
    subst e9
    refine ix_i2l hx hb dL_factors_6 (z_fc a1) ?_
    refine ix_last (k := 0) (x := u1.2.2.2.1) hx hb hK hP hD hS 9 2 rfl rfl (by decide) (by decide) (by decide) dL_factors_7 (fun H locs hP hD hS => ?_)
    have hP : va_P (dC, dI) vwCl (cwo h n r d f cI cF N u1.1 u1.2.1 u1.2.2.1 u1.2.2.2.1 u1.2.2.2.2.1 u1.2.2.2.2.2.1.1 u1.2.2.2.2.2.1.2.1 u1.2.2.2.2.2.1.2.2.1 u1.2.2.2.2.2.1.2.2.2 u1.2.2.2.2.2.2 o cO (iu O 0 u1.2.2.2.1)) H := hP
    have hD : va_D A (cwo h n r d f cI cF N u1.1 u1.2.1 u1.2.2.1 u1.2.2.2.1 u1.2.2.2.2.1 u1.2.2.2.2.2.1.1 u1.2.2.2.2.2.1.2.1 u1.2.2.2.2.2.1.2.2.1 u1.2.2.2.2.2.1.2.2.2 u1.2.2.2.2.2.2 o cO (iu O 0 u1.2.2.2.1)) := hD
    refine lv_goto (tgt := 14) hx hb dL_factors_8 (by decide) ?_
    refine ix_iconst (n := 0) hx hb dL_factors_14 ?_
    have hP9 := hP.sub (ws' := (cwou h n r d f cI cF N u1 o cO (iu O 0 u1.2.2.2.1))) [0, 1, 2, 3, 4, 5, 6, 7, 8, 9] rfl
    have hD9 := hD.sub (ws' := (cwou h n r d f cI cF N u1 o cO (iu O 0 u1.2.2.2.1))) [0, 1, 2, 3, 4, 5, 6, 7, 8, 9] (by decide) rfl
    have hz9 : r32 (u1.2.2.2.1) := (z_fc a1)
    exact W.iret (v := iI 0) hx hb hr (fun t8 ht hW => ⟨⟨iI 0, (0, iu O 0 u1.2.2.2.1, u1), rfl, ⟨rfl, hz9, ⟨a1.1, Or.inr ⟨rfl, a1, rfl⟩⟩⟩, by rw [ht]; exact hP9, va_K.moved hW.alike hK, hD9⟩, hS.F ht⟩) hS.2.2 dL_factors_15
theorem mW_content : Cond.codeWith yL_content cL_content 3 (some .int) [(0, 8, 11, 29)] ∈ wsA := wsA_t (List.mem_of_getElem? (i := 304) (by decide +kernel)) (by decide +kernel)
set_option maxHeartbeats 4000000 in
set_option maxRecDepth 100000 in
theorem kL_content (l : Launch) (hlt : l.stackTraces = false) (dC : Nat → ClassId) (dI : Nat → Nat → Nat) (sz : Nat) (h n r d f y0 y1 y2 y3 o : Nat) (cI cF cO : ClassId) (N R D : Int → Int) (cn fc sp : Int) (Fs : Int → Int → Int) (O : Int → Int) (hO : r32 (O 0)) (hci : CI N R D cn fc sp Fs) : Met l yL_content (.codeWith yL_content cL_content 3 (some .int) [(0, 8, 11, 29)] :: wsA) ({ frames := 8, cells := 1, slots := 6, locals := 320 }) (va_Pc [.ref h, .ref o] (fun U => U.heap.size = sz ∧ va_P (dC, dI) vwCl (cwo h n r d f cI cF N R D cn fc sp y0 y1 y2 y3 Fs o cO O) U.heap ∧ va_K (dC, dI) vwCl [(cI, .int), (cF, .object RX0), (cO, .long)] U ∧ va_D (fun _ => True) (cwo h n r d f cI cF N R D cn fc sp y0 y1 y2 y3 Fs o cO O) ∧ nb U ∧ nc U ∧ zt (va_A (cwo h n r d f cI cF N R D cn fc sp y0 y1 y2 y3 Fs o cO O) sz) U)) (va_Qi (fun r9 u => r9 = iI u.1 ∧ r32 (u.2.1 0) ∧ H_content N  u) (fun (u : Int × (Int → Int) × CS) t9 => va_P (dC, dI) vwCl (cwou h n r d f cI cF N u.2.2 o cO u.2.1) t9.heap ∧ va_K (dC, dI) vwCl [(cI, .int), (cF, .object RX0), (cO, .long)] t9 ∧ va_D (va_A (cwo h n r d f cI cF N R D cn fc sp y0 y1 y2 y3 Fs o cO O) sz) (cwou h n r d f cI cF N u.2.2 o cO u.2.1)) (va_A (cwo h n r d f cI cF N R D cn fc sp y0 y1 y2 y3 Fs o cO O) sz)) 1 6 (va_A (cwo h n r d f cI cF N R D cn fc sp y0 y1 y2 y3 Fs o cO O) sz) := by
  refine va_MetW (cc := cL_content) (maxL := 3) (ret := (some .int)) (by decide) rfl ?_
  intro p e s m args below meth c s₁ B hml hv
  obtain ⟨rfl, hsz, hP, hK, hD0, hnb, hnc, hzt⟩ := hv
  have hx := B.exec
  have hb := B.bytes
  have hr := B.returns
  have hts := atoms_spec (ws := .codeWith yL_content cL_content 3 (some .int) [(0, 8, 11, 29)] :: wsA) B.pre
  have hw : ∀ w ∈ wsA, w.before _ s = true := fun w h => hts w (List.mem_cons_of_mem _ h)
  have hown : s.vm.findClass RL = some m.cls := findClass_of_methodNamed B.named
  have hlocks := B.notSynchronized
  have htab := vx_table (x := yL_put) B (hts _ List.mem_cons_self)
  subst hsz
  have hD := hD0.self (sz := s.heap.size)
  generalize hAe : va_A (cwo h n r d f cI cF N R D cn fc sp y0 y1 y2 y3 Fs o cO O) s.heap.size = A at hD hzt ⊢
  have hA : ∀ q : Nat, s.heap.size ≤ q → A q := fun q h => by rw [← hAe]; exact Or.inr h
  have hS : va_S A s.heap s.heap [] := va_S.rf
  have hP : va_P (dC, dI) vwCl (cwo h n r d f cI cF N R D cn fc sp y0 y1 y2 y3 Fs o cO O) s.heap := hP
  have hl := lv_entry ([.ref h, .ref o]) (n := 3) (Nat.le_of_ble_eq_true rfl)
  rw [lg_entry_eq]
  generalize (lg_sl ([.ref h, .ref o]) ++ List.replicate (3 - (lg_sl ([.ref h, .ref o])).length) Slot.unset).toArray = ls at hl ⊢
  have hl : lv_has ls 3 [(0, .ref h), (1, .ref o)] := hl
  refine lv_aload_n hx hb dL_content_0 rfl (lv_at hl 1 rfl) ?_
  refine ix_iconst (n := 0) hx hb dL_content_1 ?_
  refine lv_aload_n hx hb dL_content_2 rfl (lv_at hl 0 rfl) ?_
  have hPc := hP.sub (ws' := (cw h n r d f cI cF N R D cn fc sp y0 y1 y2 y3 Fs)) [0, 1, 2, 3, 4, 5, 6, 7, 8] rfl
  have hDc := hD.sub (ws' := (cw h n r d f cI cF N R D cn fc sp y0 y1 y2 y3 Fs)) [0, 1, 2, 3, 4, 5, 6, 7, 8] (by decide) rfl
  have hKc := hK.sub (tys' := [(cI, .int), (cF, .object RX0)]) [0, 1] rfl
  have hFc := va_free (wc := (cw h n r d f cI cF N R D cn fc sp y0 y1 y2 y3 Fs)) hD hS hA [0, 1, 2, 3, 4, 5, 6, 7, 8] rfl
  refine vx_calli (vx_runV (As := []) (rest := [.int (iI 0), .ref o]) ⟨hx, hb, hml, hown, hw⟩ (kX1_content l hlt dC dI _ h n r d f y0 y1 y2 y3 cI cF N R D cn fc sp Fs hci ) (cwV 0 hw (gV mA_305 mA_306 mA_307 mA_1 mA_308) rfl rfl rfl (by decide +kernel) ⟨Nat.le_of_ble_eq_true rfl, Nat.le_of_ble_eq_true rfl⟩) ⟨fun a U g mk q => by obtain ⟨q0, q1, qP, qK, qD, qN, qZ⟩ := q; exact ⟨q0, q1, qP, va_K.moved (u := U) (U := U.calling g mk a) (Vm.Alike.refl U.vm) qK, qD, nb.same (u := U) rfl qN, zt.go (u := U) qZ (Vm.Alike.refl U.vm) (fun _ q => q) (fun _ _ _ => rfl)⟩, va_recv hKc hPc (ci := 1) (q0 := 0) rfl rfl, fun U hU hW => ⟨rfl, by rw [hU], by rw [hU]; exact hPc, va_K.moved hW.alike hKc, hDc.weaken (fun _ _ _ _ => trivial), nb.warm hW hnb, zt2 hzt hS hU hW.alike hFc⟩⟩ rfl rfl hl.1 rfl (lv_room (Nat.le_of_ble_eq_true rfl)) dL_content_3 ⟨Nat.le_of_ble_eq_true rfl, Nat.le_of_ble_eq_true rfl⟩) hS (fun q _ h => hFc q h) hFc (fun q _ h => hFc q h) (fun E9 ce q9 u9 t9 H1 locs ht hvm hpx hBX hz1 hk1 hS hce hcv hcl => ?_) (fun r3 u1 t9 H1 locs ht hvm hq2 hB hz1 hk1 hS => ?_)
  · obtain ⟨hcond, hP1, hK1, hD1⟩ := hBX
    rw [ht] at hP1
    obtain ⟨hP, hD⟩ := va_join (wr := [(o, .inl (cO, 1, .inr (.inl (aL O))))]) (w1 := (cwu h n r d f cI cF N u9)) hP hD [0, 1, 2, 3, 4, 5, 6, 7, 8] [9] rfl rfl (by decide) (by decide) hk1 hFc hP1 hD1
    generalize H1 = H at hP hS hce ⊢
    have hP := hP.sub (ws' := (cwo h n r d f cI cF N u9.1 u9.2.1 u9.2.2.1 u9.2.2.2.1 u9.2.2.2.2.1 u9.2.2.2.2.2.1.1 u9.2.2.2.2.2.1.2.1 u9.2.2.2.2.2.1.2.2.1 u9.2.2.2.2.2.1.2.2.2 u9.2.2.2.2.2.2 o cO O)) [1, 2, 3, 4, 5, 6, 7, 8, 9, 0] rfl
    have hD := hD.sub (ws' := (cwo h n r d f cI cF N u9.1 u9.2.1 u9.2.2.1 u9.2.2.2.1 u9.2.2.2.2.1 u9.2.2.2.2.2.1.1 u9.2.2.2.2.2.1.2.1 u9.2.2.2.2.2.1.2.2.1 u9.2.2.2.2.2.1.2.2.2 u9.2.2.2.2.2.2 o cO O)) [1, 2, 3, 4, 5, 6, 7, 8, 9, 0] (by decide) rfl
    obtain ⟨rfl, b1⟩ := hcond
    refine vx_catch hown [] ⟨0, 8, 11, 29⟩ [] (by rw [htab]; rfl) (fun _ h9 => nomatch h9) (by decide) (by decide) (hw _ mA_210) (hnb.use mN_221) hce hcv hcl ?_
    refine lv_astore_n (lv' := [(2, .ref q9), (0, .ref h), (1, .ref o)]) hx hb dL_content_11 rfl hl (by decide) rfl (fun ls hl => ?_)
    refine ix_iconst (n := 1) hx hb dL_content_12 ?_
    have hP9 := hP.sub (ws' := (cwou h n r d f cI cF N u9 o cO O)) [0, 1, 2, 3, 4, 5, 6, 7, 8, 9] rfl
    have hD9 := hD.sub (ws' := (cwou h n r d f cI cF N u9 o cO O)) [0, 1, 2, 3, 4, 5, 6, 7, 8, 9] (by decide) rfl
    exact W.iret (v := iI 1) hx hb hr (fun t8 ht hW => ⟨⟨iI 1, (1, O, u9), rfl, ⟨rfl, hO, ⟨hpx, Or.inl ⟨rfl, b1⟩⟩⟩, by rw [ht]; exact hP9, va_K.moved hW.alike hK, hD9⟩, hS.F ht⟩) hS.2.2 dL_content_13
  · obtain ⟨hP1, hK1, hD1⟩ := hB
    rw [ht] at hP1
    obtain ⟨hP, hD⟩ := va_join (wr := [(o, .inl (cO, 1, .inr (.inl (aL O))))]) (w1 := (cwu h n r d f cI cF N u1)) hP hD [0, 1, 2, 3, 4, 5, 6, 7, 8] [9] rfl rfl (by decide) (by decide) hk1 hFc hP1 hD1
    generalize H1 = H at hP hS ⊢
    have hP := hP.sub (ws' := (cwo h n r d f cI cF N u1.1 u1.2.1 u1.2.2.1 u1.2.2.2.1 u1.2.2.2.2.1 u1.2.2.2.2.2.1.1 u1.2.2.2.2.2.1.2.1 u1.2.2.2.2.2.1.2.2.1 u1.2.2.2.2.2.1.2.2.2 u1.2.2.2.2.2.2 o cO O)) [1, 2, 3, 4, 5, 6, 7, 8, 9, 0] rfl
    have hD := hD.sub (ws' := (cwo h n r d f cI cF N u1.1 u1.2.1 u1.2.2.1 u1.2.2.2.1 u1.2.2.2.2.1 u1.2.2.2.2.2.1.1 u1.2.2.2.2.2.1.2.1 u1.2.2.2.2.2.1.2.2.1 u1.2.2.2.2.2.1.2.2.2 u1.2.2.2.2.2.2 o cO O)) [1, 2, 3, 4, 5, 6, 7, 8, 9, 0] (by decide) rfl
    obtain ⟨a1, e9⟩ := hq2
    subst e9
    refine ix_i2l hx hb dL_content_6 (z_cont a1) ?_
    refine ix_last (k := 0) (x := f_cont N) hx hb hK hP hD hS 9 2 rfl rfl (by decide) (by decide) (by decide) dL_content_7 (fun H locs hP hD hS => ?_)
    have hP : va_P (dC, dI) vwCl (cwo h n r d f cI cF N u1.1 u1.2.1 u1.2.2.1 u1.2.2.2.1 u1.2.2.2.2.1 u1.2.2.2.2.2.1.1 u1.2.2.2.2.2.1.2.1 u1.2.2.2.2.2.1.2.2.1 u1.2.2.2.2.2.1.2.2.2 u1.2.2.2.2.2.2 o cO (iu O 0 (f_cont N))) H := hP
    have hD : va_D A (cwo h n r d f cI cF N u1.1 u1.2.1 u1.2.2.1 u1.2.2.2.1 u1.2.2.2.2.1 u1.2.2.2.2.2.1.1 u1.2.2.2.2.2.1.2.1 u1.2.2.2.2.2.1.2.2.1 u1.2.2.2.2.2.1.2.2.2 u1.2.2.2.2.2.2 o cO (iu O 0 (f_cont N))) := hD
    refine lv_goto (tgt := 14) hx hb dL_content_8 (by decide) ?_
    refine ix_iconst (n := 0) hx hb dL_content_14 ?_
    have hP9 := hP.sub (ws' := (cwou h n r d f cI cF N u1 o cO (iu O 0 (f_cont N)))) [0, 1, 2, 3, 4, 5, 6, 7, 8, 9] rfl
    have hD9 := hD.sub (ws' := (cwou h n r d f cI cF N u1 o cO (iu O 0 (f_cont N)))) [0, 1, 2, 3, 4, 5, 6, 7, 8, 9] (by decide) rfl
    have hz9 : r32 (f_cont N) := (z_cont a1)
    exact W.iret (v := iI 0) hx hb hr (fun t8 ht hW => ⟨⟨iI 0, (0, iu O 0 (f_cont N), u1), rfl, ⟨rfl, hz9, ⟨a1.1, Or.inr ⟨rfl, a1, rfl⟩⟩⟩, by rw [ht]; exact hP9, va_K.moved hW.alike hK, hD9⟩, hS.F ht⟩) hS.2.2 dL_content_15
theorem mW_real : Cond.codeWith yL_real cL_real 3 (some .int) [(0, 8, 11, 29)] ∈ wsA := wsA_t (List.mem_of_getElem? (i := 328) (by decide +kernel)) (by decide +kernel)
set_option maxHeartbeats 4000000 in
set_option maxRecDepth 100000 in
theorem kL_real (l : Launch) (hlt : l.stackTraces = false) (dC : Nat → ClassId) (dI : Nat → Nat → Nat) (sz : Nat) (h n r d f y0 y1 y2 y3 o : Nat) (cI cF cO : ClassId) (N R D : Int → Int) (cn fc sp : Int) (Fs : Int → Int → Int) (O : Int → Int) (hO : r32 (O 0)) (hci : CI N R D cn fc sp Fs) : Met l yL_real (.codeWith yL_real cL_real 3 (some .int) [(0, 8, 11, 29)] :: wsA) ({ frames := 8, cells := 1, slots := 6, locals := 340 }) (va_Pc [.ref h, .ref o] (fun U => U.heap.size = sz ∧ va_P (dC, dI) vwCl (cwo h n r d f cI cF N R D cn fc sp y0 y1 y2 y3 Fs o cO O) U.heap ∧ va_K (dC, dI) vwCl [(cI, .int), (cF, .object RX0), (cO, .long)] U ∧ va_D (fun _ => True) (cwo h n r d f cI cF N R D cn fc sp y0 y1 y2 y3 Fs o cO O) ∧ nb U ∧ nc U ∧ zt (va_A (cwo h n r d f cI cF N R D cn fc sp y0 y1 y2 y3 Fs o cO O) sz) U)) (va_Qi (fun r9 u => r9 = iI u.1 ∧ r32 (u.2.1 0) ∧ H_real N  u) (fun (u : Int × (Int → Int) × CS) t9 => va_P (dC, dI) vwCl (cwou h n r d f cI cF N u.2.2 o cO u.2.1) t9.heap ∧ va_K (dC, dI) vwCl [(cI, .int), (cF, .object RX0), (cO, .long)] t9 ∧ va_D (va_A (cwo h n r d f cI cF N R D cn fc sp y0 y1 y2 y3 Fs o cO O) sz) (cwou h n r d f cI cF N u.2.2 o cO u.2.1)) (va_A (cwo h n r d f cI cF N R D cn fc sp y0 y1 y2 y3 Fs o cO O) sz)) 1 6 (va_A (cwo h n r d f cI cF N R D cn fc sp y0 y1 y2 y3 Fs o cO O) sz) := by
  refine va_MetW (cc := cL_real) (maxL := 3) (ret := (some .int)) (by decide) rfl ?_
  intro p e s m args below meth c s₁ B hml hv
  obtain ⟨rfl, hsz, hP, hK, hD0, hnb, hnc, hzt⟩ := hv
  have hx := B.exec
  have hb := B.bytes
  have hr := B.returns
  have hts := atoms_spec (ws := .codeWith yL_real cL_real 3 (some .int) [(0, 8, 11, 29)] :: wsA) B.pre
  have hw : ∀ w ∈ wsA, w.before _ s = true := fun w h => hts w (List.mem_cons_of_mem _ h)
  have hown : s.vm.findClass RL = some m.cls := findClass_of_methodNamed B.named
  have hlocks := B.notSynchronized
  have htab := vx_table (x := yL_put) B (hts _ List.mem_cons_self)
  subst hsz
  have hD := hD0.self (sz := s.heap.size)
  generalize hAe : va_A (cwo h n r d f cI cF N R D cn fc sp y0 y1 y2 y3 Fs o cO O) s.heap.size = A at hD hzt ⊢
  have hA : ∀ q : Nat, s.heap.size ≤ q → A q := fun q h => by rw [← hAe]; exact Or.inr h
  have hS : va_S A s.heap s.heap [] := va_S.rf
  have hP : va_P (dC, dI) vwCl (cwo h n r d f cI cF N R D cn fc sp y0 y1 y2 y3 Fs o cO O) s.heap := hP
  have hl := lv_entry ([.ref h, .ref o]) (n := 3) (Nat.le_of_ble_eq_true rfl)
  rw [lg_entry_eq]
  generalize (lg_sl ([.ref h, .ref o]) ++ List.replicate (3 - (lg_sl ([.ref h, .ref o])).length) Slot.unset).toArray = ls at hl ⊢
  have hl : lv_has ls 3 [(0, .ref h), (1, .ref o)] := hl
  refine lv_aload_n hx hb dL_real_0 rfl (lv_at hl 1 rfl) ?_
  refine ix_iconst (n := 0) hx hb dL_real_1 ?_
  refine lv_aload_n hx hb dL_real_2 rfl (lv_at hl 0 rfl) ?_
  have hPc := hP.sub (ws' := (cw h n r d f cI cF N R D cn fc sp y0 y1 y2 y3 Fs)) [0, 1, 2, 3, 4, 5, 6, 7, 8] rfl
  have hDc := hD.sub (ws' := (cw h n r d f cI cF N R D cn fc sp y0 y1 y2 y3 Fs)) [0, 1, 2, 3, 4, 5, 6, 7, 8] (by decide) rfl
  have hKc := hK.sub (tys' := [(cI, .int), (cF, .object RX0)]) [0, 1] rfl
  have hFc := va_free (wc := (cw h n r d f cI cF N R D cn fc sp y0 y1 y2 y3 Fs)) hD hS hA [0, 1, 2, 3, 4, 5, 6, 7, 8] rfl
  refine vx_calli (vx_runV (As := []) (rest := [.int (iI 0), .ref o]) ⟨hx, hb, hml, hown, hw⟩ (kX1_real l hlt dC dI _ h n r d f y0 y1 y2 y3 cI cF N R D cn fc sp Fs hci ) (cwV 0 hw (gV mA_329 mA_330 mA_331 mA_1 mA_332) rfl rfl rfl (by decide +kernel) ⟨Nat.le_of_ble_eq_true rfl, Nat.le_of_ble_eq_true rfl⟩) ⟨fun a U g mk q => by obtain ⟨q0, q1, qP, qK, qD, qN, qZ⟩ := q; exact ⟨q0, q1, qP, va_K.moved (u := U) (U := U.calling g mk a) (Vm.Alike.refl U.vm) qK, qD, nb.same (u := U) rfl qN, zt.go (u := U) qZ (Vm.Alike.refl U.vm) (fun _ q => q) (fun _ _ _ => rfl)⟩, va_recv hKc hPc (ci := 1) (q0 := 0) rfl rfl, fun U hU hW => ⟨rfl, by rw [hU], by rw [hU]; exact hPc, va_K.moved hW.alike hKc, hDc.weaken (fun _ _ _ _ => trivial), nb.warm hW hnb, zt2 hzt hS hU hW.alike hFc⟩⟩ rfl rfl hl.1 rfl (lv_room (Nat.le_of_ble_eq_true rfl)) dL_real_3 ⟨Nat.le_of_ble_eq_true rfl, Nat.le_of_ble_eq_true rfl⟩) hS (fun q _ h => hFc q h) hFc (fun q _ h => hFc q h) (fun E9 ce q9 u9 t9 H1 locs ht hvm hpx hBX hz1 hk1 hS hce hcv hcl => ?_) (fun r3 u1 t9 H1 locs ht hvm hq2 hB hz1 hk1 hS => ?_)
  · obtain ⟨hcond, hP1, hK1, hD1⟩ := hBX
    rw [ht] at hP1
    obtain ⟨hP, hD⟩ := va_join (wr := [(o, .inl (cO, 1, .inr (.inl (aL O))))]) (w1 := (cwu h n r d f cI cF N u9)) hP hD [0, 1, 2, 3, 4, 5, 6, 7, 8] [9] rfl rfl (by decide) (by decide) hk1 hFc hP1 hD1
    generalize H1 = H at hP hS hce ⊢
    have hP := hP.sub (ws' := (cwo h n r d f cI cF N u9.1 u9.2.1 u9.2.2.1 u9.2.2.2.1 u9.2.2.2.2.1 u9.2.2.2.2.2.1.1 u9.2.2.2.2.2.1.2.1 u9.2.2.2.2.2.1.2.2.1 u9.2.2.2.2.2.1.2.2.2 u9.2.2.2.2.2.2 o cO O)) [1, 2, 3, 4, 5, 6, 7, 8, 9, 0] rfl
    have hD := hD.sub (ws' := (cwo h n r d f cI cF N u9.1 u9.2.1 u9.2.2.1 u9.2.2.2.1 u9.2.2.2.2.1 u9.2.2.2.2.2.1.1 u9.2.2.2.2.2.1.2.1 u9.2.2.2.2.2.1.2.2.1 u9.2.2.2.2.2.1.2.2.2 u9.2.2.2.2.2.2 o cO O)) [1, 2, 3, 4, 5, 6, 7, 8, 9, 0] (by decide) rfl
    obtain ⟨rfl, b1⟩ := hcond
    refine vx_catch hown [] ⟨0, 8, 11, 29⟩ [] (by rw [htab]; rfl) (fun _ h9 => nomatch h9) (by decide) (by decide) (hw _ mA_210) (hnb.use mN_221) hce hcv hcl ?_
    refine lv_astore_n (lv' := [(2, .ref q9), (0, .ref h), (1, .ref o)]) hx hb dL_real_11 rfl hl (by decide) rfl (fun ls hl => ?_)
    refine ix_iconst (n := 1) hx hb dL_real_12 ?_
    have hP9 := hP.sub (ws' := (cwou h n r d f cI cF N u9 o cO O)) [0, 1, 2, 3, 4, 5, 6, 7, 8, 9] rfl
    have hD9 := hD.sub (ws' := (cwou h n r d f cI cF N u9 o cO O)) [0, 1, 2, 3, 4, 5, 6, 7, 8, 9] (by decide) rfl
    exact W.iret (v := iI 1) hx hb hr (fun t8 ht hW => ⟨⟨iI 1, (1, O, u9), rfl, ⟨rfl, hO, ⟨hpx, Or.inl ⟨rfl, b1⟩⟩⟩, by rw [ht]; exact hP9, va_K.moved hW.alike hK, hD9⟩, hS.F ht⟩) hS.2.2 dL_real_13
  · obtain ⟨hP1, hK1, hD1⟩ := hB
    rw [ht] at hP1
    obtain ⟨hP, hD⟩ := va_join (wr := [(o, .inl (cO, 1, .inr (.inl (aL O))))]) (w1 := (cwu h n r d f cI cF N u1)) hP hD [0, 1, 2, 3, 4, 5, 6, 7, 8] [9] rfl rfl (by decide) (by decide) hk1 hFc hP1 hD1
    generalize H1 = H at hP hS ⊢
    have hP := hP.sub (ws' := (cwo h n r d f cI cF N u1.1 u1.2.1 u1.2.2.1 u1.2.2.2.1 u1.2.2.2.2.1 u1.2.2.2.2.2.1.1 u1.2.2.2.2.2.1.2.1 u1.2.2.2.2.2.1.2.2.1 u1.2.2.2.2.2.1.2.2.2 u1.2.2.2.2.2.2 o cO O)) [1, 2, 3, 4, 5, 6, 7, 8, 9, 0] rfl
    have hD := hD.sub (ws' := (cwo h n r d f cI cF N u1.1 u1.2.1 u1.2.2.1 u1.2.2.2.1 u1.2.2.2.2.1 u1.2.2.2.2.2.1.1 u1.2.2.2.2.2.1.2.1 u1.2.2.2.2.2.1.2.2.1 u1.2.2.2.2.2.1.2.2.2 u1.2.2.2.2.2.2 o cO O)) [1, 2, 3, 4, 5, 6, 7, 8, 9, 0] (by decide) rfl
    obtain ⟨a1, e9⟩ := hq2
    subst e9
    refine ix_i2l hx hb dL_real_6 (z_sum a1) ?_
    refine ix_last (k := 0) (x := f_sum u1.2.2.2.2.2.2 u1.2.2.2.1.toNat) hx hb hK hP hD hS 9 2 rfl rfl (by decide) (by decide) (by decide) dL_real_7 (fun H locs hP hD hS => ?_)
    have hP : va_P (dC, dI) vwCl (cwo h n r d f cI cF N u1.1 u1.2.1 u1.2.2.1 u1.2.2.2.1 u1.2.2.2.2.1 u1.2.2.2.2.2.1.1 u1.2.2.2.2.2.1.2.1 u1.2.2.2.2.2.1.2.2.1 u1.2.2.2.2.2.1.2.2.2 u1.2.2.2.2.2.2 o cO (iu O 0 (f_sum u1.2.2.2.2.2.2 u1.2.2.2.1.toNat))) H := hP
    have hD : va_D A (cwo h n r d f cI cF N u1.1 u1.2.1 u1.2.2.1 u1.2.2.2.1 u1.2.2.2.2.1 u1.2.2.2.2.2.1.1 u1.2.2.2.2.2.1.2.1 u1.2.2.2.2.2.1.2.2.1 u1.2.2.2.2.2.1.2.2.2 u1.2.2.2.2.2.2 o cO (iu O 0 (f_sum u1.2.2.2.2.2.2 u1.2.2.2.1.toNat))) := hD
    refine lv_goto (tgt := 14) hx hb dL_real_8 (by decide) ?_
    refine ix_iconst (n := 0) hx hb dL_real_14 ?_
    have hP9 := hP.sub (ws' := (cwou h n r d f cI cF N u1 o cO (iu O 0 (f_sum u1.2.2.2.2.2.2 u1.2.2.2.1.toNat)))) [0, 1, 2, 3, 4, 5, 6, 7, 8, 9] rfl
    have hD9 := hD.sub (ws' := (cwou h n r d f cI cF N u1 o cO (iu O 0 (f_sum u1.2.2.2.2.2.2 u1.2.2.2.1.toNat)))) [0, 1, 2, 3, 4, 5, 6, 7, 8, 9] (by decide) rfl
    have hz9 : r32 (f_sum u1.2.2.2.2.2.2 u1.2.2.2.1.toNat) := (z_sum a1)
    exact W.iret (v := iI 0) hx hb hr (fun t8 ht hW => ⟨⟨iI 0, (0, iu O 0 (f_sum u1.2.2.2.2.2.2 u1.2.2.2.1.toNat), u1), rfl, ⟨rfl, hz9, ⟨a1.1, Or.inr ⟨rfl, a1, rfl⟩⟩⟩, by rw [ht]; exact hP9, va_K.moved hW.alike hK, hD9⟩, hS.F ht⟩) hS.2.2 dL_real_15
theorem mW_left : Cond.codeWith yL_left cL_left 4 (some .int) [(0, 9, 12, 29), (0, 9, 15, 13)] ∈ wsA := wsA_t (List.mem_of_getElem? (i := 311) (by decide +kernel)) (by decide +kernel)
set_option maxHeartbeats 4000000 in
set_option maxRecDepth 100000 in
theorem kL_left (l : Launch) (hlt : l.stackTraces = false) (dC : Nat → ClassId) (dI : Nat → Nat → Nat) (sz : Nat) (h n r d f y0 y1 y2 y3 o : Nat) (cI cF cO : ClassId) (N R D : Int → Int) (cn fc sp : Int) (Fs : Int → Int → Int) (O : Int → Int) (hO : r32 (O 0)) (hci : CI N R D cn fc sp Fs) (k : Int) (hk : r32 k) : Met l yL_left (.codeWith yL_left cL_left 4 (some .int) [(0, 9, 12, 29), (0, 9, 15, 13)] :: wsA) ({ frames := 8, cells := 2, slots := 12, locals := 320 }) (va_Pc [.ref h, .int (iI k), .ref o] (fun U => U.heap.size = sz ∧ va_P (dC, dI) vwCl (cwo h n r d f cI cF N R D cn fc sp y0 y1 y2 y3 Fs o cO O) U.heap ∧ va_K (dC, dI) vwCl [(cI, .int), (cF, .object RX0), (cO, .long)] U ∧ va_D (fun _ => True) (cwo h n r d f cI cF N R D cn fc sp y0 y1 y2 y3 Fs o cO O) ∧ nb U ∧ nc U ∧ zt (va_A (cwo h n r d f cI cF N R D cn fc sp y0 y1 y2 y3 Fs o cO O) sz) U)) (va_Qi (fun r9 u => r9 = iI u.1 ∧ r32 (u.2.1 0) ∧ H_left N k u) (fun (u : Int × (Int → Int) × CS) t9 => va_P (dC, dI) vwCl (cwou h n r d f cI cF N u.2.2 o cO u.2.1) t9.heap ∧ va_K (dC, dI) vwCl [(cI, .int), (cF, .object RX0), (cO, .long)] t9 ∧ va_D (va_A (cwo h n r d f cI cF N R D cn fc sp y0 y1 y2 y3 Fs o cO O) sz) (cwou h n r d f cI cF N u.2.2 o cO u.2.1)) (va_A (cwo h n r d f cI cF N R D cn fc sp y0 y1 y2 y3 Fs o cO O) sz)) 2 12 (va_A (cwo h n r d f cI cF N R D cn fc sp y0 y1 y2 y3 Fs o cO O) sz) := by
  refine va_MetW (cc := cL_left) (maxL := 4) (ret := (some .int)) (by decide) rfl ?_
  intro p e s m args below meth c s₁ B hml hv
  obtain ⟨rfl, hsz, hP, hK, hD0, hnb, hnc, hzt⟩ := hv
  have hx := B.exec
  have hb := B.bytes
  have hr := B.returns
  have hts := atoms_spec (ws := .codeWith yL_left cL_left 4 (some .int) [(0, 9, 12, 29), (0, 9, 15, 13)] :: wsA) B.pre
  have hw : ∀ w ∈ wsA, w.before _ s = true := fun w h => hts w (List.mem_cons_of_mem _ h)
  have hown : s.vm.findClass RL = some m.cls := findClass_of_methodNamed B.named
  have hlocks := B.notSynchronized
  have htab := vx_table (x := yL_put) B (hts _ List.mem_cons_self)
  subst hsz
  have hD := hD0.self (sz := s.heap.size)
  generalize hAe : va_A (cwo h n r d f cI cF N R D cn fc sp y0 y1 y2 y3 Fs o cO O) s.heap.size = A at hD hzt ⊢
  have hA : ∀ q : Nat, s.heap.size ≤ q → A q := fun q h => by rw [← hAe]; exact Or.inr h
  have hS : va_S A s.heap s.heap [] := va_S.rf
  have hP : va_P (dC, dI) vwCl (cwo h n r d f cI cF N R D cn fc sp y0 y1 y2 y3 Fs o cO O) s.heap := hP
  have hl := lv_entry ([.ref h, .int (iI k), .ref o]) (n := 4) (Nat.le_of_ble_eq_true rfl)
  rw [lg_entry_eq]
  generalize (lg_sl ([.ref h, .int (iI k), .ref o]) ++ List.replicate (4 - (lg_sl ([.ref h, .int (iI k), .ref o])).length) Slot.unset).toArray = ls at hl ⊢
  have hl : lv_has ls 4 [(0, .ref h), (1, .int (iI k)), (2, .ref o)] := hl
  refine lv_aload_n hx hb dL_left_0 rfl (lv_at hl 2 rfl) ?_
  refine ix_iconst (n := 0) hx hb dL_left_1 ?_
  refine lv_aload_n hx hb dL_left_2 rfl (lv_at hl 0 rfl) ?_
  refine lv_iload_n hx hb dL_left_3 rfl (lv_at hl 1 rfl) ?_
  have hPc := hP.sub (ws' := (cw h n r d f cI cF N R D cn fc sp y0 y1 y2 y3 Fs)) [0, 1, 2, 3, 4, 5, 6, 7, 8] rfl
  have hDc := hD.sub (ws' := (cw h n r d f cI cF N R D cn fc sp y0 y1 y2 y3 Fs)) [0, 1, 2, 3, 4, 5, 6, 7, 8] (by decide) rfl
  have hKc := hK.sub (tys' := [(cI, .int), (cF, .object RX0)]) [0, 1] rfl
  have hFc := va_free (wc := (cw h n r d f cI cF N R D cn fc sp y0 y1 y2 y3 Fs)) hD hS hA [0, 1, 2, 3, 4, 5, 6, 7, 8] rfl
  refine vx_calli (vx_runV (As := [.int (iI k)]) (rest := [.int (iI 0), .ref o]) ⟨hx, hb, hml, hown, hw⟩ (kX1_left l hlt dC dI _ h n r d f y0 y1 y2 y3 cI cF N R D cn fc sp Fs hci k hk) (cwV 1 hw (gV mA_312 mA_313 mA_314 mA_1 mA_315) rfl rfl rfl (by decide +kernel) ⟨Nat.le_of_ble_eq_true rfl, Nat.le_of_ble_eq_true rfl⟩) ⟨fun a U g mk q => by obtain ⟨q0, q1, qP, qK, qD, qN, qZ⟩ := q; exact ⟨q0, q1, qP, va_K.moved (u := U) (U := U.calling g mk a) (Vm.Alike.refl U.vm) qK, qD, nb.same (u := U) rfl qN, zt.go (u := U) qZ (Vm.Alike.refl U.vm) (fun _ q => q) (fun _ _ _ => rfl)⟩, va_recv hKc hPc (ci := 1) (q0 := 0) rfl rfl, fun U hU hW => ⟨rfl, by rw [hU], by rw [hU]; exact hPc, va_K.moved hW.alike hKc, hDc.weaken (fun _ _ _ _ => trivial), nb.warm hW hnb, zt2 hzt hS hU hW.alike hFc⟩⟩ rfl rfl hl.1 rfl (lv_room (Nat.le_of_ble_eq_true rfl)) dL_left_4 ⟨Nat.le_of_ble_eq_true rfl, Nat.le_of_ble_eq_true rfl⟩) hS (fun q _ h => hFc q h) hFc (fun q _ h => hFc q h) (fun E9 ce q9 u9 t9 H1 locs ht hvm hpx hBX hz1 hk1 hS hce hcv hcl => ?_) (fun r3 u1 t9 H1 locs ht hvm hq2 hB hz1 hk1 hS => ?_)
  · obtain ⟨hcond, hP1, hK1, hD1⟩ := hBX
    rw [ht] at hP1
    obtain ⟨hP, hD⟩ := va_join (wr := [(o, .inl (cO, 1, .inr (.inl (aL O))))]) (w1 := (cwu h n r d f cI cF N u9)) hP hD [0, 1, 2, 3, 4, 5, 6, 7, 8] [9] rfl rfl (by decide) (by decide) hk1 hFc hP1 hD1
    generalize H1 = H at hP hS hce ⊢
    have hP := hP.sub (ws' := (cwo h n r d f cI cF N u9.1 u9.2.1 u9.2.2.1 u9.2.2.2.1 u9.2.2.2.2.1 u9.2.2.2.2.2.1.1 u9.2.2.2.2.2.1.2.1 u9.2.2.2.2.2.1.2.2.1 u9.2.2.2.2.2.1.2.2.2 u9.2.2.2.2.2.2 o cO O)) [1, 2, 3, 4, 5, 6, 7, 8, 9, 0] rfl
    have hD := hD.sub (ws' := (cwo h n r d f cI cF N u9.1 u9.2.1 u9.2.2.1 u9.2.2.2.1 u9.2.2.2.2.1 u9.2.2.2.2.2.1.1 u9.2.2.2.2.2.1.2.1 u9.2.2.2.2.2.1.2.2.1 u9.2.2.2.2.2.1.2.2.2 u9.2.2.2.2.2.2 o cO O)) [1, 2, 3, 4, 5, 6, 7, 8, 9, 0] (by decide) rfl
    rcases hcond with ⟨rfl, b1⟩ | ⟨rfl, b1, b2⟩
    · refine vx_catch hown [] ⟨0, 9, 12, 29⟩ [⟨0, 9, 15, 13⟩] (by rw [htab]; rfl) (fun _ h9 => nomatch h9) (by decide) (by decide) (hw _ mA_210) (hnb.use mN_221) hce hcv hcl ?_
      refine lv_astore_n (lv' := [(3, .ref q9), (0, .ref h), (1, .int (iI k)), (2, .ref o)]) hx hb dL_left_12 rfl hl (by decide) rfl (fun ls hl => ?_)
      refine ix_iconst (n := 1) hx hb dL_left_13 ?_
      have hP9 := hP.sub (ws' := (cwou h n r d f cI cF N u9 o cO O)) [0, 1, 2, 3, 4, 5, 6, 7, 8, 9] rfl
      have hD9 := hD.sub (ws' := (cwou h n r d f cI cF N u9 o cO O)) [0, 1, 2, 3, 4, 5, 6, 7, 8, 9] (by decide) rfl
      exact W.iret (v := iI 1) hx hb hr (fun t8 ht hW => ⟨⟨iI 1, (1, O, u9), rfl, ⟨rfl, hO, ⟨hpx, Or.inl ⟨rfl, b1⟩⟩⟩, by rw [ht]; exact hP9, va_K.moved hW.alike hK, hD9⟩, hS.F ht⟩) hS.2.2 dL_left_14
    · refine vx_catch hown [⟨0, 9, 12, 29⟩] ⟨0, 9, 15, 13⟩ [] (by rw [htab]; rfl) (List.forall_mem_cons.mpr ⟨Or.inr ⟨by decide, _, hw _ mA_210, hnc.2.1⟩, (fun _ h9 => nomatch h9)⟩) (by decide) (by decide) (hw _ mA_82) (hnb.use mN_93) hce hcv hcl ?_
      refine lv_astore_n (lv' := [(3, .ref q9), (0, .ref h), (1, .int (iI k)), (2, .ref o)]) hx hb dL_left_15 rfl hl (by decide) rfl (fun ls hl => ?_)
      refine ix_iconst (n := 2) hx hb dL_left_16 ?_
      have hP9 := hP.sub (ws' := (cwou h n r d f cI cF N u9 o cO O)) [0, 1, 2, 3, 4, 5, 6, 7, 8, 9] rfl
      have hD9 := hD.sub (ws' := (cwou h n r d f cI cF N u9 o cO O)) [0, 1, 2, 3, 4, 5, 6, 7, 8, 9] (by decide) rfl
      exact W.iret (v := iI 2) hx hb hr (fun t8 ht hW => ⟨⟨iI 2, (2, O, u9), rfl, ⟨rfl, hO, ⟨hpx, Or.inr (Or.inl ⟨rfl, b1, b2⟩)⟩⟩, by rw [ht]; exact hP9, va_K.moved hW.alike hK, hD9⟩, hS.F ht⟩) hS.2.2 dL_left_17
  · obtain ⟨hP1, hK1, hD1⟩ := hB
    rw [ht] at hP1
    obtain ⟨hP, hD⟩ := va_join (wr := [(o, .inl (cO, 1, .inr (.inl (aL O))))]) (w1 := (cwu h n r d f cI cF N u1)) hP hD [0, 1, 2, 3, 4, 5, 6, 7, 8] [9] rfl rfl (by decide) (by decide) hk1 hFc hP1 hD1
    generalize H1 = H at hP hS ⊢
    have hP := hP.sub (ws' := (cwo h n r d f cI cF N u1.1 u1.2.1 u1.2.2.1 u1.2.2.2.1 u1.2.2.2.2.1 u1.2.2.2.2.2.1.1 u1.2.2.2.2.2.1.2.1 u1.2.2.2.2.2.1.2.2.1 u1.2.2.2.2.2.1.2.2.2 u1.2.2.2.2.2.2 o cO O)) [1, 2, 3, 4, 5, 6, 7, 8, 9, 0] rfl
    have hD := hD.sub (ws' := (cwo h n r d f cI cF N u1.1 u1.2.1 u1.2.2.1 u1.2.2.2.1 u1.2.2.2.2.1 u1.2.2.2.2.2.1.1 u1.2.2.2.2.2.1.2.1 u1.2.2.2.2.2.1.2.2.1 u1.2.2.2.2.2.1.2.2.2 u1.2.2.2.2.2.2 o cO O)) [1, 2, 3, 4, 5, 6, 7, 8, 9, 0] (by decide) rfl
    obtain ⟨a1, a2, e9⟩ := hq2
    subst e9
    refine ix_i2l hx hb dL_left_7 (z_left a1 k) ?_
    refine ix_last (k := 0) (x := u1.1 k) hx hb hK hP hD hS 9 2 rfl rfl (by decide) (by decide) (by decide) dL_left_8 (fun H locs hP hD hS => ?_)
    have hP : va_P (dC, dI) vwCl (cwo h n r d f cI cF N u1.1 u1.2.1 u1.2.2.1 u1.2.2.2.1 u1.2.2.2.2.1 u1.2.2.2.2.2.1.1 u1.2.2.2.2.2.1.2.1 u1.2.2.2.2.2.1.2.2.1 u1.2.2.2.2.2.1.2.2.2 u1.2.2.2.2.2.2 o cO (iu O 0 (u1.1 k))) H := hP
    have hD : va_D A (cwo h n r d f cI cF N u1.1 u1.2.1 u1.2.2.1 u1.2.2.2.1 u1.2.2.2.2.1 u1.2.2.2.2.2.1.1 u1.2.2.2.2.2.1.2.1 u1.2.2.2.2.2.1.2.2.1 u1.2.2.2.2.2.1.2.2.2 u1.2.2.2.2.2.2 o cO (iu O 0 (u1.1 k))) := hD
    refine lv_goto (tgt := 18) hx hb dL_left_9 (by decide) ?_
    refine ix_iconst (n := 0) hx hb dL_left_18 ?_
    have hP9 := hP.sub (ws' := (cwou h n r d f cI cF N u1 o cO (iu O 0 (u1.1 k)))) [0, 1, 2, 3, 4, 5, 6, 7, 8, 9] rfl
    have hD9 := hD.sub (ws' := (cwou h n r d f cI cF N u1 o cO (iu O 0 (u1.1 k)))) [0, 1, 2, 3, 4, 5, 6, 7, 8, 9] (by decide) rfl
    have hz9 : r32 (u1.1 k) := (z_left a1 k)
    exact W.iret (v := iI 0) hx hb hr (fun t8 ht hW => ⟨⟨iI 0, (0, iu O 0 (u1.1 k), u1), rfl, ⟨rfl, hz9, ⟨a1.1, Or.inr (Or.inr ⟨rfl, a1, a2, rfl⟩)⟩⟩, by rw [ht]; exact hP9, va_K.moved hW.alike hK, hD9⟩, hS.F ht⟩) hS.2.2 dL_left_19
theorem mW_factor : Cond.codeWith yL_factor cL_factor 5 (some .int) [(0, 10, 13, 29), (0, 10, 17, 13), (0, 10, 21, 15)] ∈ wsA := wsA_t (List.mem_of_getElem? (i := 290) (by decide +kernel)) (by decide +kernel)
set_option maxHeartbeats 4000000 in
set_option maxRecDepth 100000 in
theorem kL_factor (l : Launch) (hlt : l.stackTraces = false) (dC : Nat → ClassId) (dI : Nat → Nat → Nat) (sz : Nat) (h n r d f y0 y1 y2 y3 o : Nat) (cI cF cO : ClassId) (N R D : Int → Int) (cn fc sp : Int) (Fs : Int → Int → Int) (O : Int → Int) (hO : r32 (O 0)) (hci : CI N R D cn fc sp Fs) (k w : Int) (hk : r32 k) (hw9 : r32 w) : Met l yL_factor (.codeWith yL_factor cL_factor 5 (some .int) [(0, 10, 13, 29), (0, 10, 17, 13), (0, 10, 21, 15)] :: wsA) ({ frames := 8, cells := 3, slots := 18, locals := 340 }) (va_Pc [.ref h, .int (iI k), .int (iI w), .ref o] (fun U => U.heap.size = sz ∧ va_P (dC, dI) vwCl (cwo h n r d f cI cF N R D cn fc sp y0 y1 y2 y3 Fs o cO O) U.heap ∧ va_K (dC, dI) vwCl [(cI, .int), (cF, .object RX0), (cO, .long)] U ∧ va_D (fun _ => True) (cwo h n r d f cI cF N R D cn fc sp y0 y1 y2 y3 Fs o cO O) ∧ nb U ∧ nc U ∧ zt (va_A (cwo h n r d f cI cF N R D cn fc sp y0 y1 y2 y3 Fs o cO O) sz) U)) (va_Qi (fun r9 u => r9 = iI u.1 ∧ r32 (u.2.1 0) ∧ H_factor N k w u) (fun (u : Int × (Int → Int) × CS) t9 => va_P (dC, dI) vwCl (cwou h n r d f cI cF N u.2.2 o cO u.2.1) t9.heap ∧ va_K (dC, dI) vwCl [(cI, .int), (cF, .object RX0), (cO, .long)] t9 ∧ va_D (va_A (cwo h n r d f cI cF N R D cn fc sp y0 y1 y2 y3 Fs o cO O) sz) (cwou h n r d f cI cF N u.2.2 o cO u.2.1)) (va_A (cwo h n r d f cI cF N R D cn fc sp y0 y1 y2 y3 Fs o cO O) sz)) 3 18 (va_A (cwo h n r d f cI cF N R D cn fc sp y0 y1 y2 y3 Fs o cO O) sz) := by
  refine va_MetW (cc := cL_factor) (maxL := 5) (ret := (some .int)) (by decide) rfl ?_
  intro p e s m args below meth c s₁ B hml hv
  obtain ⟨rfl, hsz, hP, hK, hD0, hnb, hnc, hzt⟩ := hv
  have hx := B.exec
  have hb := B.bytes
  have hr := B.returns
  have hts := atoms_spec (ws := .codeWith yL_factor cL_factor 5 (some .int) [(0, 10, 13, 29), (0, 10, 17, 13), (0, 10, 21, 15)] :: wsA) B.pre
  have hw : ∀ w ∈ wsA, w.before _ s = true := fun w h => hts w (List.mem_cons_of_mem _ h)
  have hown : s.vm.findClass RL = some m.cls := findClass_of_methodNamed B.named
  have hlocks := B.notSynchronized
  have htab := vx_table (x := yL_put) B (hts _ List.mem_cons_self)
  subst hsz
  have hD := hD0.self (sz := s.heap.size)
  generalize hAe : va_A (cwo h n r d f cI cF N R D cn fc sp y0 y1 y2 y3 Fs o cO O) s.heap.size = A at hD hzt ⊢
  have hA : ∀ q : Nat, s.heap.size ≤ q → A q := fun q h => by rw [← hAe]; exact Or.inr h
  have hS : va_S A s.heap s.heap [] := va_S.rf
  have hP : va_P (dC, dI) vwCl (cwo h n r d f cI cF N R D cn fc sp y0 y1 y2 y3 Fs o cO O) s.heap := hP
  have hl := lv_entry ([.ref h, .int (iI k), .int (iI w), .ref o]) (n := 5) (Nat.le_of_ble_eq_true rfl)
  rw [lg_entry_eq]
  generalize (lg_sl ([.ref h, .int (iI k), .int (iI w), .ref o]) ++ List.replicate (5 - (lg_sl ([.ref h, .int (iI k), .int (iI w), .ref o])).length) Slot.unset).toArray = ls at hl ⊢
  have hl : lv_has ls 5 [(0, .ref h), (1, .int (iI k)), (2, .int (iI w)), (3, .ref o)] := hl
  refine lv_aload_n hx hb dL_factor_0 rfl (lv_at hl 3 rfl) ?_
  refine ix_iconst (n := 0) hx hb dL_factor_1 ?_
  refine lv_aload_n hx hb dL_factor_2 rfl (lv_at hl 0 rfl) ?_
  refine lv_iload_n hx hb dL_factor_3 rfl (lv_at hl 1 rfl) ?_
  refine lv_iload_n hx hb dL_factor_4 rfl (lv_at hl 2 rfl) ?_
  have hPc := hP.sub (ws' := (cw h n r d f cI cF N R D cn fc sp y0 y1 y2 y3 Fs)) [0, 1, 2, 3, 4, 5, 6, 7, 8] rfl
  have hDc := hD.sub (ws' := (cw h n r d f cI cF N R D cn fc sp y0 y1 y2 y3 Fs)) [0, 1, 2, 3, 4, 5, 6, 7, 8] (by decide) rfl
  have hKc := hK.sub (tys' := [(cI, .int), (cF, .object RX0)]) [0, 1] rfl
  have hFc := va_free (wc := (cw h n r d f cI cF N R D cn fc sp y0 y1 y2 y3 Fs)) hD hS hA [0, 1, 2, 3, 4, 5, 6, 7, 8] rfl
  refine vx_calli (vx_runV (As := [.int (iI k), .int (iI w)]) (rest := [.int (iI 0), .ref o]) ⟨hx, hb, hml, hown, hw⟩ (kX1_factor l hlt dC dI _ h n r d f y0 y1 y2 y3 cI cF N R D cn fc sp Fs hci k w hk hw9) (cwV 2 hw (gV mA_291 mA_292 mA_293 mA_1 mA_294) rfl rfl rfl (by decide +kernel) ⟨Nat.le_of_ble_eq_true rfl, Nat.le_of_ble_eq_true rfl⟩) ⟨fun a U g mk q => by obtain ⟨q0, q1, qP, qK, qD, qN, qZ⟩ := q; exact ⟨q0, q1, qP, va_K.moved (u := U) (U := U.calling g mk a) (Vm.Alike.refl U.vm) qK, qD, nb.same (u := U) rfl qN, zt.go (u := U) qZ (Vm.Alike.refl U.vm) (fun _ q => q) (fun _ _ _ => rfl)⟩, va_recv hKc hPc (ci := 1) (q0 := 0) rfl rfl, fun U hU hW => ⟨rfl, by rw [hU], by rw [hU]; exact hPc, va_K.moved hW.alike hKc, hDc.weaken (fun _ _ _ _ => trivial), nb.warm hW hnb, zt2 hzt hS hU hW.alike hFc⟩⟩ rfl rfl hl.1 rfl (lv_room (Nat.le_of_ble_eq_true rfl)) dL_factor_5 ⟨Nat.le_of_ble_eq_true rfl, Nat.le_of_ble_eq_true rfl⟩) hS (fun q _ h => hFc q h) hFc (fun q _ h => hFc q h) (fun E9 ce q9 u9 t9 H1 locs ht hvm hpx hBX hz1 hk1 hS hce hcv hcl => ?_) (fun r3 u1 t9 H1 locs ht hvm hq2 hB hz1 hk1 hS => ?_)
  · obtain ⟨hcond, hP1, hK1, hD1⟩ := hBX
    rw [ht] at hP1
    obtain ⟨hP, hD⟩ := va_join (wr := [(o, .inl (cO, 1, .inr (.inl (aL O))))]) (w1 := (cwu h n r d f cI cF N u9)) hP hD [0, 1, 2, 3, 4, 5, 6, 7, 8] [9] rfl rfl (by decide) (by decide) hk1 hFc hP1 hD1
    generalize H1 = H at hP hS hce ⊢
    have hP := hP.sub (ws' := (cwo h n r d f cI cF N u9.1 u9.2.1 u9.2.2.1 u9.2.2.2.1 u9.2.2.2.2.1 u9.2.2.2.2.2.1.1 u9.2.2.2.2.2.1.2.1 u9.2.2.2.2.2.1.2.2.1 u9.2.2.2.2.2.1.2.2.2 u9.2.2.2.2.2.2 o cO O)) [1, 2, 3, 4, 5, 6, 7, 8, 9, 0] rfl
    have hD := hD.sub (ws' := (cwo h n r d f cI cF N u9.1 u9.2.1 u9.2.2.1 u9.2.2.2.1 u9.2.2.2.2.1 u9.2.2.2.2.2.1.1 u9.2.2.2.2.2.1.2.1 u9.2.2.2.2.2.1.2.2.1 u9.2.2.2.2.2.1.2.2.2 u9.2.2.2.2.2.2 o cO O)) [1, 2, 3, 4, 5, 6, 7, 8, 9, 0] (by decide) rfl
    rcases hcond with ⟨rfl, b1⟩ | ⟨rfl, b1, b2⟩ | ⟨rfl, b1, b2, b3⟩
    · refine vx_catch hown [] ⟨0, 10, 13, 29⟩ [⟨0, 10, 17, 13⟩, ⟨0, 10, 21, 15⟩] (by rw [htab]; rfl) (fun _ h9 => nomatch h9) (by decide) (by decide) (hw _ mA_210) (hnb.use mN_221) hce hcv hcl ?_
      refine lv_astore (lv' := [(4, .ref q9), (0, .ref h), (1, .int (iI k)), (2, .int (iI w)), (3, .ref o)]) hx hb dL_factor_13 hl (by decide) rfl (fun ls hl => ?_)
      refine ix_iconst (n := 1) hx hb dL_factor_15 ?_
      have hP9 := hP.sub (ws' := (cwou h n r d f cI cF N u9 o cO O)) [0, 1, 2, 3, 4, 5, 6, 7, 8, 9] rfl
      have hD9 := hD.sub (ws' := (cwou h n r d f cI cF N u9 o cO O)) [0, 1, 2, 3, 4, 5, 6, 7, 8, 9] (by decide) rfl
      exact W.iret (v := iI 1) hx hb hr (fun t8 ht hW => ⟨⟨iI 1, (1, O, u9), rfl, ⟨rfl, hO, ⟨hpx, Or.inl ⟨rfl, b1⟩⟩⟩, by rw [ht]; exact hP9, va_K.moved hW.alike hK, hD9⟩, hS.F ht⟩) hS.2.2 dL_factor_16
    · refine vx_catch hown [⟨0, 10, 13, 29⟩] ⟨0, 10, 17, 13⟩ [⟨0, 10, 21, 15⟩] (by rw [htab]; rfl) (List.forall_mem_cons.mpr ⟨Or.inr ⟨by decide, _, hw _ mA_210, hnc.2.1⟩, (fun _ h9 => nomatch h9)⟩) (by decide) (by decide) (hw _ mA_82) (hnb.use mN_93) hce hcv hcl ?_
      refine lv_astore (lv' := [(4, .ref q9), (0, .ref h), (1, .int (iI k)), (2, .int (iI w)), (3, .ref o)]) hx hb dL_factor_17 hl (by decide) rfl (fun ls hl => ?_)
      refine ix_iconst (n := 2) hx hb dL_factor_19 ?_
      have hP9 := hP.sub (ws' := (cwou h n r d f cI cF N u9 o cO O)) [0, 1, 2, 3, 4, 5, 6, 7, 8, 9] rfl
      have hD9 := hD.sub (ws' := (cwou h n r d f cI cF N u9 o cO O)) [0, 1, 2, 3, 4, 5, 6, 7, 8, 9] (by decide) rfl
      exact W.iret (v := iI 2) hx hb hr (fun t8 ht hW => ⟨⟨iI 2, (2, O, u9), rfl, ⟨rfl, hO, ⟨hpx, Or.inr (Or.inl ⟨rfl, b1, b2⟩)⟩⟩, by rw [ht]; exact hP9, va_K.moved hW.alike hK, hD9⟩, hS.F ht⟩) hS.2.2 dL_factor_20
    · refine vx_catch hown [⟨0, 10, 13, 29⟩, ⟨0, 10, 17, 13⟩] ⟨0, 10, 21, 15⟩ [] (by rw [htab]; rfl) (List.forall_mem_cons.mpr ⟨Or.inr ⟨by decide, _, hw _ mA_210, hnc.2.2⟩, (List.forall_mem_cons.mpr ⟨Or.inr ⟨by decide, _, hw _ mA_82, hnc.1⟩, (fun _ h9 => nomatch h9)⟩)⟩) (by decide) (by decide) (hw _ mA_83) (hnb.use mN_164) hce hcv hcl ?_
      refine lv_astore (lv' := [(4, .ref q9), (0, .ref h), (1, .int (iI k)), (2, .int (iI w)), (3, .ref o)]) hx hb dL_factor_21 hl (by decide) rfl (fun ls hl => ?_)
      refine ix_iconst (n := 3) hx hb dL_factor_23 ?_
      have hP9 := hP.sub (ws' := (cwou h n r d f cI cF N u9 o cO O)) [0, 1, 2, 3, 4, 5, 6, 7, 8, 9] rfl
      have hD9 := hD.sub (ws' := (cwou h n r d f cI cF N u9 o cO O)) [0, 1, 2, 3, 4, 5, 6, 7, 8, 9] (by decide) rfl
      exact W.iret (v := iI 3) hx hb hr (fun t8 ht hW => ⟨⟨iI 3, (3, O, u9), rfl, ⟨rfl, hO, ⟨hpx, Or.inr (Or.inr (Or.inl ⟨rfl, b1, b2, b3⟩))⟩⟩, by rw [ht]; exact hP9, va_K.moved hW.alike hK, hD9⟩, hS.F ht⟩) hS.2.2 dL_factor_24
  · obtain ⟨hP1, hK1, hD1⟩ := hB
    rw [ht] at hP1
    obtain ⟨hP, hD⟩ := va_join (wr := [(o, .inl (cO, 1, .inr (.inl (aL O))))]) (w1 := (cwu h n r d f cI cF N u1)) hP hD [0, 1, 2, 3, 4, 5, 6, 7, 8] [9] rfl rfl (by decide) (by decide) hk1 hFc hP1 hD1
    generalize H1 = H at hP hS ⊢
    have hP := hP.sub (ws' := (cwo h n r d f cI cF N u1.1 u1.2.1 u1.2.2.1 u1.2.2.2.1 u1.2.2.2.2.1 u1.2.2.2.2.2.1.1 u1.2.2.2.2.2.1.2.1 u1.2.2.2.2.2.1.2.2.1 u1.2.2.2.2.2.1.2.2.2 u1.2.2.2.2.2.2 o cO O)) [1, 2, 3, 4, 5, 6, 7, 8, 9, 0] rfl
    have hD := hD.sub (ws' := (cwo h n r d f cI cF N u1.1 u1.2.1 u1.2.2.1 u1.2.2.2.1 u1.2.2.2.2.1 u1.2.2.2.2.2.1.1 u1.2.2.2.2.2.1.2.1 u1.2.2.2.2.2.1.2.2.1 u1.2.2.2.2.2.1.2.2.2 u1.2.2.2.2.2.2 o cO O)) [1, 2, 3, 4, 5, 6, 7, 8, 9, 0] (by decide) rfl
    obtain ⟨a1, a2, a3, e9⟩ := hq2
    subst e9
    refine ix_i2l hx hb dL_factor_8 (z_fac (z_fb a1 k) w) ?_
    refine ix_last (k := 0) (x := f_fac (u1.2.2.2.2.2.2 k) w) hx hb hK hP hD hS 9 2 rfl rfl (by decide) (by decide) (by decide) dL_factor_9 (fun H locs hP hD hS => ?_)
    have hP : va_P (dC, dI) vwCl (cwo h n r d f cI cF N u1.1 u1.2.1 u1.2.2.1 u1.2.2.2.1 u1.2.2.2.2.1 u1.2.2.2.2.2.1.1 u1.2.2.2.2.2.1.2.1 u1.2.2.2.2.2.1.2.2.1 u1.2.2.2.2.2.1.2.2.2 u1.2.2.2.2.2.2 o cO (iu O 0 (f_fac (u1.2.2.2.2.2.2 k) w))) H := hP
    have hD : va_D A (cwo h n r d f cI cF N u1.1 u1.2.1 u1.2.2.1 u1.2.2.2.1 u1.2.2.2.2.1 u1.2.2.2.2.2.1.1 u1.2.2.2.2.2.1.2.1 u1.2.2.2.2.2.1.2.2.1 u1.2.2.2.2.2.1.2.2.2 u1.2.2.2.2.2.2 o cO (iu O 0 (f_fac (u1.2.2.2.2.2.2 k) w))) := hD
    refine lv_goto (tgt := 25) hx hb dL_factor_10 (by decide) ?_
    refine ix_iconst (n := 0) hx hb dL_factor_25 ?_
    have hP9 := hP.sub (ws' := (cwou h n r d f cI cF N u1 o cO (iu O 0 (f_fac (u1.2.2.2.2.2.2 k) w)))) [0, 1, 2, 3, 4, 5, 6, 7, 8, 9] rfl
    have hD9 := hD.sub (ws' := (cwou h n r d f cI cF N u1 o cO (iu O 0 (f_fac (u1.2.2.2.2.2.2 k) w)))) [0, 1, 2, 3, 4, 5, 6, 7, 8, 9] (by decide) rfl
    have hz9 : r32 (f_fac (u1.2.2.2.2.2.2 k) w) := (z_fac (z_fb a1 k) w)
    exact W.iret (v := iI 0) hx hb hr (fun t8 ht hW => ⟨⟨iI 0, (0, iu O 0 (f_fac (u1.2.2.2.2.2.2 k) w), u1), rfl, ⟨rfl, hz9, ⟨a1.1, Or.inr (Or.inr (Or.inr ⟨rfl, a1, a2, a3, rfl⟩))⟩⟩, by rw [ht]; exact hP9, va_K.moved hW.alike hK, hD9⟩, hS.F ht⟩) hS.2.2 dL_factor_26
theorem mW_answer : Cond.codeWith yL_answer cL_answer 6 (some .int) [(0, 12, 15, 29), (0, 12, 19, 13), (0, 12, 23, 15)] ∈ wsA := wsA_t (List.mem_of_getElem? (i := 318) (by decide +kernel)) (by decide +kernel)
set_option maxHeartbeats 4000000 in
set_option maxRecDepth 100000 in
theorem kL_answer (l : Launch) (hlt : l.stackTraces = false) (dC : Nat → ClassId) (dI : Nat → Nat → Nat) (sz : Nat) (h n r d f y0 y1 y2 y3 o : Nat) (cI cF cO : ClassId) (N R D : Int → Int) (cn fc sp : Int) (Fs : Int → Int → Int) (O : Int → Int) (hO : r32 (O 0)) (hci : CI N R D cn fc sp Fs) (k w t : Int) (hk : r32 k) (hw9 : r32 w) (ht9 : r32 t) : Met l yL_answer (.codeWith yL_answer cL_answer 6 (some .int) [(0, 12, 15, 29), (0, 12, 19, 13), (0, 12, 23, 15)] :: wsA) ({ frames := 8, cells := 3, slots := 18, locals := 360 }) (va_Pc [.ref h, .int (iI k), .int (iI w), .int (iI t), .ref o] (fun U => U.heap.size = sz ∧ va_P (dC, dI) vwCl (cwo h n r d f cI cF N R D cn fc sp y0 y1 y2 y3 Fs o cO O) U.heap ∧ va_K (dC, dI) vwCl [(cI, .int), (cF, .object RX0), (cO, .long)] U ∧ va_D (fun _ => True) (cwo h n r d f cI cF N R D cn fc sp y0 y1 y2 y3 Fs o cO O) ∧ nb U ∧ nc U ∧ zt (va_A (cwo h n r d f cI cF N R D cn fc sp y0 y1 y2 y3 Fs o cO O) sz) U)) (va_Qi (fun r9 u => r9 = iI u.1 ∧ r32 (u.2.1 0) ∧ H_answer N k w t u) (fun (u : Int × (Int → Int) × CS) t9 => va_P (dC, dI) vwCl (cwou h n r d f cI cF N u.2.2 o cO u.2.1) t9.heap ∧ va_K (dC, dI) vwCl [(cI, .int), (cF, .object RX0), (cO, .long)] t9 ∧ va_D (va_A (cwo h n r d f cI cF N R D cn fc sp y0 y1 y2 y3 Fs o cO O) sz) (cwou h n r d f cI cF N u.2.2 o cO u.2.1)) (va_A (cwo h n r d f cI cF N R D cn fc sp y0 y1 y2 y3 Fs o cO O) sz)) 3 18 (va_A (cwo h n r d f cI cF N R D cn fc sp y0 y1 y2 y3 Fs o cO O) sz) := by
  refine va_MetW (cc := cL_answer) (maxL := 6) (ret := (some .int)) (by decide) rfl ?_
  intro p e s m args below meth c s₁ B hml hv
  obtain ⟨rfl, hsz, hP, hK, hD0, hnb, hnc, hzt⟩ := hv
  have hx := B.exec
  have hb := B.bytes
  have hr := B.returns
  have hts := atoms_spec (ws := .codeWith yL_answer cL_answer 6 (some .int) [(0, 12, 15, 29), (0, 12, 19, 13), (0, 12, 23, 15)] :: wsA) B.pre
  have hw : ∀ w ∈ wsA, w.before _ s = true := fun w h => hts w (List.mem_cons_of_mem _ h)
  have hown : s.vm.findClass RL = some m.cls := findClass_of_methodNamed B.named
  have hlocks := B.notSynchronized
  have htab := vx_table (x := yL_put) B (hts _ List.mem_cons_self)
  subst hsz
  have hD := hD0.self (sz := s.heap.size)
  generalize hAe : va_A (cwo h n r d f cI cF N R D cn fc sp y0 y1 y2 y3 Fs o cO O) s.heap.size = A at hD hzt ⊢
  have hA : ∀ q : Nat, s.heap.size ≤ q → A q := fun q h => by rw [← hAe]; exact Or.inr h
  have hS : va_S A s.heap s.heap [] := va_S.rf
  have hP : va_P (dC, dI) vwCl (cwo h n r d f cI cF N R D cn fc sp y0 y1 y2 y3 Fs o cO O) s.heap := hP
  have hl := lv_entry ([.ref h, .int (iI k), .int (iI w), .int (iI t), .ref o]) (n := 6) (Nat.le_of_ble_eq_true rfl)
  rw [lg_entry_eq]
  generalize (lg_sl ([.ref h, .int (iI k), .int (iI w), .int (iI t), .ref o]) ++ List.replicate (6 - (lg_sl ([.ref h, .int (iI k), .int (iI w), .int (iI t), .ref o])).length) Slot.unset).toArray = ls at hl ⊢
  have hl : lv_has ls 6 [(0, .ref h), (1, .int (iI k)), (2, .int (iI w)), (3, .int (iI t)), (4, .ref o)] := hl
  refine lv_aload hx hb dL_answer_0 (lv_at hl 4 rfl) ?_
  refine ix_iconst (n := 0) hx hb dL_answer_2 ?_
  refine lv_aload_n hx hb dL_answer_3 rfl (lv_at hl 0 rfl) ?_
  refine lv_iload_n hx hb dL_answer_4 rfl (lv_at hl 1 rfl) ?_
  refine lv_iload_n hx hb dL_answer_5 rfl (lv_at hl 2 rfl) ?_
  refine lv_iload_n hx hb dL_answer_6 rfl (lv_at hl 3 rfl) ?_
  have hPc := hP.sub (ws' := (cw h n r d f cI cF N R D cn fc sp y0 y1 y2 y3 Fs)) [0, 1, 2, 3, 4, 5, 6, 7, 8] rfl
  have hDc := hD.sub (ws' := (cw h n r d f cI cF N R D cn fc sp y0 y1 y2 y3 Fs)) [0, 1, 2, 3, 4, 5, 6, 7, 8] (by decide) rfl
  have hKc := hK.sub (tys' := [(cI, .int), (cF, .object RX0)]) [0, 1] rfl
  have hFc := va_free (wc := (cw h n r d f cI cF N R D cn fc sp y0 y1 y2 y3 Fs)) hD hS hA [0, 1, 2, 3, 4, 5, 6, 7, 8] rfl
  refine vx_calli (vx_runV (As := [.int (iI k), .int (iI w), .int (iI t)]) (rest := [.int (iI 0), .ref o]) ⟨hx, hb, hml, hown, hw⟩ (kX1_answer l hlt dC dI _ h n r d f y0 y1 y2 y3 cI cF N R D cn fc sp Fs hci k w t hk hw9 ht9) (cwV 3 hw (gV mA_319 mA_320 mA_321 mA_1 mA_322) rfl rfl rfl (by decide +kernel) ⟨Nat.le_of_ble_eq_true rfl, Nat.le_of_ble_eq_true rfl⟩) ⟨fun a U g mk q => by obtain ⟨q0, q1, qP, qK, qD, qN, qZ⟩ := q; exact ⟨q0, q1, qP, va_K.moved (u := U) (U := U.calling g mk a) (Vm.Alike.refl U.vm) qK, qD, nb.same (u := U) rfl qN, zt.go (u := U) qZ (Vm.Alike.refl U.vm) (fun _ q => q) (fun _ _ _ => rfl)⟩, va_recv hKc hPc (ci := 1) (q0 := 0) rfl rfl, fun U hU hW => ⟨rfl, by rw [hU], by rw [hU]; exact hPc, va_K.moved hW.alike hKc, hDc.weaken (fun _ _ _ _ => trivial), nb.warm hW hnb, zt2 hzt hS hU hW.alike hFc⟩⟩ rfl rfl hl.1 rfl (lv_room (Nat.le_of_ble_eq_true rfl)) dL_answer_7 ⟨Nat.le_of_ble_eq_true rfl, Nat.le_of_ble_eq_true rfl⟩) hS (fun q _ h => hFc q h) hFc (fun q _ h => hFc q h) (fun E9 ce q9 u9 t9 H1 locs ht hvm hpx hBX hz1 hk1 hS hce hcv hcl => ?_) (fun r3 u1 t9 H1 locs ht hvm hq2 hB hz1 hk1 hS => ?_)
  · obtain ⟨hcond, hP1, hK1, hD1⟩ := hBX
    rw [ht] at hP1
    obtain ⟨hP, hD⟩ := va_join (wr := [(o, .inl (cO, 1, .inr (.inl (aL O))))]) (w1 := (cwu h n r d f cI cF N u9)) hP hD [0, 1, 2, 3, 4, 5, 6, 7, 8] [9] rfl rfl (by decide) (by decide) hk1 hFc hP1 hD1
    generalize H1 = H at hP hS hce ⊢
    have hP := hP.sub (ws' := (cwo h n r d f cI cF N u9.1 u9.2.1 u9.2.2.1 u9.2.2.2.1 u9.2.2.2.2.1 u9.2.2.2.2.2.1.1 u9.2.2.2.2.2.1.2.1 u9.2.2.2.2.2.1.2.2.1 u9.2.2.2.2.2.1.2.2.2 u9.2.2.2.2.2.2 o cO O)) [1, 2, 3, 4, 5, 6, 7, 8, 9, 0] rfl
    have hD := hD.sub (ws' := (cwo h n r d f cI cF N u9.1 u9.2.1 u9.2.2.1 u9.2.2.2.1 u9.2.2.2.2.1 u9.2.2.2.2.2.1.1 u9.2.2.2.2.2.1.2.1 u9.2.2.2.2.2.1.2.2.1 u9.2.2.2.2.2.1.2.2.2 u9.2.2.2.2.2.2 o cO O)) [1, 2, 3, 4, 5, 6, 7, 8, 9, 0] (by decide) rfl
    rcases hcond with ⟨rfl, b1⟩ | ⟨rfl, b1, b2⟩ | ⟨rfl, b1, b2, b3⟩
    · refine vx_catch hown [] ⟨0, 12, 15, 29⟩ [⟨0, 12, 19, 13⟩, ⟨0, 12, 23, 15⟩] (by rw [htab]; rfl) (fun _ h9 => nomatch h9) (by decide) (by decide) (hw _ mA_210) (hnb.use mN_221) hce hcv hcl ?_
      refine lv_astore (lv' := [(5, .ref q9), (0, .ref h), (1, .int (iI k)), (2, .int (iI w)), (3, .int (iI t)), (4, .ref o)]) hx hb dL_answer_15 hl (by decide) rfl (fun ls hl => ?_)
      refine ix_iconst (n := 1) hx hb dL_answer_17 ?_
      have hP9 := hP.sub (ws' := (cwou h n r d f cI cF N u9 o cO O)) [0, 1, 2, 3, 4, 5, 6, 7, 8, 9] rfl
      have hD9 := hD.sub (ws' := (cwou h n r d f cI cF N u9 o cO O)) [0, 1, 2, 3, 4, 5, 6, 7, 8, 9] (by decide) rfl
      exact W.iret (v := iI 1) hx hb hr (fun t8 ht hW => ⟨⟨iI 1, (1, O, u9), rfl, ⟨rfl, hO, ⟨hpx, Or.inl ⟨rfl, b1⟩⟩⟩, by rw [ht]; exact hP9, va_K.moved hW.alike hK, hD9⟩, hS.F ht⟩) hS.2.2 dL_answer_18
    · refine vx_catch hown [⟨0, 12, 15, 29⟩] ⟨0, 12, 19, 13⟩ [⟨0, 12, 23, 15⟩] (by rw [htab]; rfl) (List.forall_mem_cons.mpr ⟨Or.inr ⟨by decide, _, hw _ mA_210, hnc.2.1⟩, (fun _ h9 => nomatch h9)⟩) (by decide) (by decide) (hw _ mA_82) (hnb.use mN_93) hce hcv hcl ?_
      refine lv_astore (lv' := [(5, .ref q9), (0, .ref h), (1, .int (iI k)), (2, .int (iI w)), (3, .int (iI t)), (4, .ref o)]) hx hb dL_answer_19 hl (by decide) rfl (fun ls hl => ?_)
      refine ix_iconst (n := 2) hx hb dL_answer_21 ?_
      have hP9 := hP.sub (ws' := (cwou h n r d f cI cF N u9 o cO O)) [0, 1, 2, 3, 4, 5, 6, 7, 8, 9] rfl
      have hD9 := hD.sub (ws' := (cwou h n r d f cI cF N u9 o cO O)) [0, 1, 2, 3, 4, 5, 6, 7, 8, 9] (by decide) rfl
      exact W.iret (v := iI 2) hx hb hr (fun t8 ht hW => ⟨⟨iI 2, (2, O, u9), rfl, ⟨rfl, hO, ⟨hpx, Or.inr (Or.inl ⟨rfl, b1, b2⟩)⟩⟩, by rw [ht]; exact hP9, va_K.moved hW.alike hK, hD9⟩, hS.F ht⟩) hS.2.2 dL_answer_22
    · refine vx_catch hown [⟨0, 12, 15, 29⟩, ⟨0, 12, 19, 13⟩] ⟨0, 12, 23, 15⟩ [] (by rw [htab]; rfl) (List.forall_mem_cons.mpr ⟨Or.inr ⟨by decide, _, hw _ mA_210, hnc.2.2⟩, (List.forall_mem_cons.mpr ⟨Or.inr ⟨by decide, _, hw _ mA_82, hnc.1⟩, (fun _ h9 => nomatch h9)⟩)⟩) (by decide) (by decide) (hw _ mA_83) (hnb.use mN_164) hce hcv hcl ?_
      refine lv_astore (lv' := [(5, .ref q9), (0, .ref h), (1, .int (iI k)), (2, .int (iI w)), (3, .int (iI t)), (4, .ref o)]) hx hb dL_answer_23 hl (by decide) rfl (fun ls hl => ?_)
      refine ix_iconst (n := 3) hx hb dL_answer_25 ?_
      have hP9 := hP.sub (ws' := (cwou h n r d f cI cF N u9 o cO O)) [0, 1, 2, 3, 4, 5, 6, 7, 8, 9] rfl
      have hD9 := hD.sub (ws' := (cwou h n r d f cI cF N u9 o cO O)) [0, 1, 2, 3, 4, 5, 6, 7, 8, 9] (by decide) rfl
      exact W.iret (v := iI 3) hx hb hr (fun t8 ht hW => ⟨⟨iI 3, (3, O, u9), rfl, ⟨rfl, hO, ⟨hpx, Or.inr (Or.inr (Or.inl ⟨rfl, b1, b2, b3⟩))⟩⟩, by rw [ht]; exact hP9, va_K.moved hW.alike hK, hD9⟩, hS.F ht⟩) hS.2.2 dL_answer_26
  · obtain ⟨hP1, hK1, hD1⟩ := hB
    rw [ht] at hP1
    obtain ⟨hP, hD⟩ := va_join (wr := [(o, .inl (cO, 1, .inr (.inl (aL O))))]) (w1 := (cwu h n r d f cI cF N u1)) hP hD [0, 1, 2, 3, 4, 5, 6, 7, 8] [9] rfl rfl (by decide) (by decide) hk1 hFc hP1 hD1
    generalize H1 = H at hP hS ⊢
    have hP := hP.sub (ws' := (cwo h n r d f cI cF N u1.1 u1.2.1 u1.2.2.1 u1.2.2.2.1 u1.2.2.2.2.1 u1.2.2.2.2.2.1.1 u1.2.2.2.2.2.1.2.1 u1.2.2.2.2.2.1.2.2.1 u1.2.2.2.2.2.1.2.2.2 u1.2.2.2.2.2.2 o cO O)) [1, 2, 3, 4, 5, 6, 7, 8, 9, 0] rfl
    have hD := hD.sub (ws' := (cwo h n r d f cI cF N u1.1 u1.2.1 u1.2.2.1 u1.2.2.2.1 u1.2.2.2.2.1 u1.2.2.2.2.2.1.1 u1.2.2.2.2.2.1.2.1 u1.2.2.2.2.2.1.2.2.1 u1.2.2.2.2.2.1.2.2.2 u1.2.2.2.2.2.2 o cO O)) [1, 2, 3, 4, 5, 6, 7, 8, 9, 0] (by decide) rfl
    obtain ⟨a1, a2, a3, a4, e9⟩ := hq2
    subst e9
    refine ix_i2l hx hb dL_answer_10 (z_ans (z_fb a1 k) w t) ?_
    refine ix_last (k := 0) (x := f_ans (u1.2.2.2.2.2.2 k) w t) hx hb hK hP hD hS 9 2 rfl rfl (by decide) (by decide) (by decide) dL_answer_11 (fun H locs hP hD hS => ?_)
    have hP : va_P (dC, dI) vwCl (cwo h n r d f cI cF N u1.1 u1.2.1 u1.2.2.1 u1.2.2.2.1 u1.2.2.2.2.1 u1.2.2.2.2.2.1.1 u1.2.2.2.2.2.1.2.1 u1.2.2.2.2.2.1.2.2.1 u1.2.2.2.2.2.1.2.2.2 u1.2.2.2.2.2.2 o cO (iu O 0 (f_ans (u1.2.2.2.2.2.2 k) w t))) H := hP
    have hD : va_D A (cwo h n r d f cI cF N u1.1 u1.2.1 u1.2.2.1 u1.2.2.2.1 u1.2.2.2.2.1 u1.2.2.2.2.2.1.1 u1.2.2.2.2.2.1.2.1 u1.2.2.2.2.2.1.2.2.1 u1.2.2.2.2.2.1.2.2.2 u1.2.2.2.2.2.2 o cO (iu O 0 (f_ans (u1.2.2.2.2.2.2 k) w t))) := hD
    refine lv_goto (tgt := 27) hx hb dL_answer_12 (by decide) ?_
    refine ix_iconst (n := 0) hx hb dL_answer_27 ?_
    have hP9 := hP.sub (ws' := (cwou h n r d f cI cF N u1 o cO (iu O 0 (f_ans (u1.2.2.2.2.2.2 k) w t)))) [0, 1, 2, 3, 4, 5, 6, 7, 8, 9] rfl
    have hD9 := hD.sub (ws' := (cwou h n r d f cI cF N u1 o cO (iu O 0 (f_ans (u1.2.2.2.2.2.2 k) w t)))) [0, 1, 2, 3, 4, 5, 6, 7, 8, 9] (by decide) rfl
    have hz9 : r32 (f_ans (u1.2.2.2.2.2.2 k) w t) := (z_ans (z_fb a1 k) w t)
    exact W.iret (v := iI 0) hx hb hr (fun t8 ht hW => ⟨⟨iI 0, (0, iu O 0 (f_ans (u1.2.2.2.2.2.2 k) w t), u1), rfl, ⟨rfl, hz9, ⟨a1.1, Or.inr (Or.inr (Or.inr ⟨rfl, a1, a2, a3, a4, rfl⟩))⟩⟩, by rw [ht]; exact hP9, va_K.moved hW.alike hK, hD9⟩, hS.F ht⟩) hS.2.2 dL_answer_28
theorem mW_floor : Cond.codeWith yL_floor cL_floor 5 (some .int) [(0, 10, 13, 29), (0, 10, 17, 13), (0, 10, 21, 15)] ∈ wsA := wsA_t (List.mem_of_getElem? (i := 339) (by decide +kernel)) (by decide +kernel)
set_option maxHeartbeats 4000000 in
set_option maxRecDepth 100000 in
theorem kL_floor (l : Launch) (hlt : l.stackTraces = false) (dC : Nat → ClassId) (dI : Nat → Nat → Nat) (sz : Nat) (h n r d f y0 y1 y2 y3 o : Nat) (cI cF cO : ClassId) (N R D : Int → Int) (cn fc sp : Int) (Fs : Int → Int → Int) (O : Int → Int) (hO : r32 (O 0)) (hci : CI N R D cn fc sp Fs) (k up : Int) (hk : r32 k) (hup : up = 0 ∨ up = 1) : Met l yL_floor (.codeWith yL_floor cL_floor 5 (some .int) [(0, 10, 13, 29), (0, 10, 17, 13), (0, 10, 21, 15)] :: wsA) ({ frames := 8, cells := 3, slots := 18, locals := 360 }) (va_Pc [.ref h, .int (iI k), .int (iI up), .ref o] (fun U => U.heap.size = sz ∧ va_P (dC, dI) vwCl (cwo h n r d f cI cF N R D cn fc sp y0 y1 y2 y3 Fs o cO O) U.heap ∧ va_K (dC, dI) vwCl [(cI, .int), (cF, .object RX0), (cO, .long)] U ∧ va_D (fun _ => True) (cwo h n r d f cI cF N R D cn fc sp y0 y1 y2 y3 Fs o cO O) ∧ nb U ∧ nc U ∧ zt (va_A (cwo h n r d f cI cF N R D cn fc sp y0 y1 y2 y3 Fs o cO O) sz) U)) (va_Qi (fun r9 u => r9 = iI u.1 ∧ r32 (u.2.1 0) ∧ H_floor N k up u) (fun (u : Int × (Int → Int) × CS) t9 => va_P (dC, dI) vwCl (cwou h n r d f cI cF N u.2.2 o cO u.2.1) t9.heap ∧ va_K (dC, dI) vwCl [(cI, .int), (cF, .object RX0), (cO, .long)] t9 ∧ va_D (va_A (cwo h n r d f cI cF N R D cn fc sp y0 y1 y2 y3 Fs o cO O) sz) (cwou h n r d f cI cF N u.2.2 o cO u.2.1)) (va_A (cwo h n r d f cI cF N R D cn fc sp y0 y1 y2 y3 Fs o cO O) sz)) 3 18 (va_A (cwo h n r d f cI cF N R D cn fc sp y0 y1 y2 y3 Fs o cO O) sz) := by
  refine va_MetW (cc := cL_floor) (maxL := 5) (ret := (some .int)) (by decide) rfl ?_
  intro p e s m args below meth c s₁ B hml hv
  obtain ⟨rfl, hsz, hP, hK, hD0, hnb, hnc, hzt⟩ := hv
  have hx := B.exec
  have hb := B.bytes
  have hr := B.returns
  have hts := atoms_spec (ws := .codeWith yL_floor cL_floor 5 (some .int) [(0, 10, 13, 29), (0, 10, 17, 13), (0, 10, 21, 15)] :: wsA) B.pre
  have hw : ∀ w ∈ wsA, w.before _ s = true := fun w h => hts w (List.mem_cons_of_mem _ h)
  have hown : s.vm.findClass RL = some m.cls := findClass_of_methodNamed B.named
  have hlocks := B.notSynchronized
  have htab := vx_table (x := yL_put) B (hts _ List.mem_cons_self)
  subst hsz
  have hD := hD0.self (sz := s.heap.size)
  generalize hAe : va_A (cwo h n r d f cI cF N R D cn fc sp y0 y1 y2 y3 Fs o cO O) s.heap.size = A at hD hzt ⊢
  have hA : ∀ q : Nat, s.heap.size ≤ q → A q := fun q h => by rw [← hAe]; exact Or.inr h
  have hS : va_S A s.heap s.heap [] := va_S.rf
  have hP : va_P (dC, dI) vwCl (cwo h n r d f cI cF N R D cn fc sp y0 y1 y2 y3 Fs o cO O) s.heap := hP
  have hl := lv_entry ([.ref h, .int (iI k), .int (iI up), .ref o]) (n := 5) (Nat.le_of_ble_eq_true rfl)
  rw [lg_entry_eq]
  generalize (lg_sl ([.ref h, .int (iI k), .int (iI up), .ref o]) ++ List.replicate (5 - (lg_sl ([.ref h, .int (iI k), .int (iI up), .ref o])).length) Slot.unset).toArray = ls at hl ⊢
  have hl : lv_has ls 5 [(0, .ref h), (1, .int (iI k)), (2, .int (iI up)), (3, .ref o)] := hl
  refine lv_aload_n hx hb dL_floor_0 rfl (lv_at hl 3 rfl) ?_
  refine ix_iconst (n := 0) hx hb dL_floor_1 ?_
  refine lv_aload_n hx hb dL_floor_2 rfl (lv_at hl 0 rfl) ?_
  refine lv_iload_n hx hb dL_floor_3 rfl (lv_at hl 1 rfl) ?_
  refine lv_iload_n hx hb dL_floor_4 rfl (lv_at hl 2 rfl) ?_
  have hPc := hP.sub (ws' := (cw h n r d f cI cF N R D cn fc sp y0 y1 y2 y3 Fs)) [0, 1, 2, 3, 4, 5, 6, 7, 8] rfl
  have hDc := hD.sub (ws' := (cw h n r d f cI cF N R D cn fc sp y0 y1 y2 y3 Fs)) [0, 1, 2, 3, 4, 5, 6, 7, 8] (by decide) rfl
  have hKc := hK.sub (tys' := [(cI, .int), (cF, .object RX0)]) [0, 1] rfl
  have hFc := va_free (wc := (cw h n r d f cI cF N R D cn fc sp y0 y1 y2 y3 Fs)) hD hS hA [0, 1, 2, 3, 4, 5, 6, 7, 8] rfl
  refine vx_calli (vx_runV (As := [.int (iI k), .int (iI up)]) (rest := [.int (iI 0), .ref o]) ⟨hx, hb, hml, hown, hw⟩ (kX1_floor l hlt dC dI _ h n r d f y0 y1 y2 y3 cI cF N R D cn fc sp Fs hci k up hk hup) (cwV 2 hw (gV mA_340 mA_341 mA_342 mA_1 mA_343) rfl rfl rfl (by decide +kernel) ⟨Nat.le_of_ble_eq_true rfl, Nat.le_of_ble_eq_true rfl⟩) ⟨fun a U g mk q => by obtain ⟨q0, q1, qP, qK, qD, qN, qZ⟩ := q; exact ⟨q0, q1, qP, va_K.moved (u := U) (U := U.calling g mk a) (Vm.Alike.refl U.vm) qK, qD, nb.same (u := U) rfl qN, zt.go (u := U) qZ (Vm.Alike.refl U.vm) (fun _ q => q) (fun _ _ _ => rfl)⟩, va_recv hKc hPc (ci := 1) (q0 := 0) rfl rfl, fun U hU hW => ⟨rfl, by rw [hU], by rw [hU]; exact hPc, va_K.moved hW.alike hKc, hDc.weaken (fun _ _ _ _ => trivial), nb.warm hW hnb, zt2 hzt hS hU hW.alike hFc⟩⟩ rfl rfl hl.1 rfl (lv_room (Nat.le_of_ble_eq_true rfl)) dL_floor_5 ⟨Nat.le_of_ble_eq_true rfl, Nat.le_of_ble_eq_true rfl⟩) hS (fun q _ h => hFc q h) hFc (fun q _ h => hFc q h) (fun E9 ce q9 u9 t9 H1 locs ht hvm hpx hBX hz1 hk1 hS hce hcv hcl => ?_) (fun r3 u1 t9 H1 locs ht hvm hq2 hB hz1 hk1 hS => ?_)
  · obtain ⟨hcond, hP1, hK1, hD1⟩ := hBX
    rw [ht] at hP1
    obtain ⟨hP, hD⟩ := va_join (wr := [(o, .inl (cO, 1, .inr (.inl (aL O))))]) (w1 := (cwu h n r d f cI cF N u9)) hP hD [0, 1, 2, 3, 4, 5, 6, 7, 8] [9] rfl rfl (by decide) (by decide) hk1 hFc hP1 hD1
    generalize H1 = H at hP hS hce ⊢
    have hP := hP.sub (ws' := (cwo h n r d f cI cF N u9.1 u9.2.1 u9.2.2.1 u9.2.2.2.1 u9.2.2.2.2.1 u9.2.2.2.2.2.1.1 u9.2.2.2.2.2.1.2.1 u9.2.2.2.2.2.1.2.2.1 u9.2.2.2.2.2.1.2.2.2 u9.2.2.2.2.2.2 o cO O)) [1, 2, 3, 4, 5, 6, 7, 8, 9, 0] rfl
    have hD := hD.sub (ws' := (cwo h n r d f cI cF N u9.1 u9.2.1 u9.2.2.1 u9.2.2.2.1 u9.2.2.2.2.1 u9.2.2.2.2.2.1.1 u9.2.2.2.2.2.1.2.1 u9.2.2.2.2.2.1.2.2.1 u9.2.2.2.2.2.1.2.2.2 u9.2.2.2.2.2.2 o cO O)) [1, 2, 3, 4, 5, 6, 7, 8, 9, 0] (by decide) rfl
    rcases hcond with ⟨rfl, b1⟩ | ⟨rfl, b1, b2⟩ | ⟨rfl, b1, b2, b3⟩
    · refine vx_catch hown [] ⟨0, 10, 13, 29⟩ [⟨0, 10, 17, 13⟩, ⟨0, 10, 21, 15⟩] (by rw [htab]; rfl) (fun _ h9 => nomatch h9) (by decide) (by decide) (hw _ mA_210) (hnb.use mN_221) hce hcv hcl ?_
      refine lv_astore (lv' := [(4, .ref q9), (0, .ref h), (1, .int (iI k)), (2, .int (iI up)), (3, .ref o)]) hx hb dL_floor_13 hl (by decide) rfl (fun ls hl => ?_)
      refine ix_iconst (n := 1) hx hb dL_floor_15 ?_
      have hP9 := hP.sub (ws' := (cwou h n r d f cI cF N u9 o cO O)) [0, 1, 2, 3, 4, 5, 6, 7, 8, 9] rfl
      have hD9 := hD.sub (ws' := (cwou h n r d f cI cF N u9 o cO O)) [0, 1, 2, 3, 4, 5, 6, 7, 8, 9] (by decide) rfl
      exact W.iret (v := iI 1) hx hb hr (fun t8 ht hW => ⟨⟨iI 1, (1, O, u9), rfl, ⟨rfl, hO, ⟨hpx, Or.inl ⟨rfl, b1⟩⟩⟩, by rw [ht]; exact hP9, va_K.moved hW.alike hK, hD9⟩, hS.F ht⟩) hS.2.2 dL_floor_16
    · refine vx_catch hown [⟨0, 10, 13, 29⟩] ⟨0, 10, 17, 13⟩ [⟨0, 10, 21, 15⟩] (by rw [htab]; rfl) (List.forall_mem_cons.mpr ⟨Or.inr ⟨by decide, _, hw _ mA_210, hnc.2.1⟩, (fun _ h9 => nomatch h9)⟩) (by decide) (by decide) (hw _ mA_82) (hnb.use mN_93) hce hcv hcl ?_
      refine lv_astore (lv' := [(4, .ref q9), (0, .ref h), (1, .int (iI k)), (2, .int (iI up)), (3, .ref o)]) hx hb dL_floor_17 hl (by decide) rfl (fun ls hl => ?_)
      refine ix_iconst (n := 2) hx hb dL_floor_19 ?_
      have hP9 := hP.sub (ws' := (cwou h n r d f cI cF N u9 o cO O)) [0, 1, 2, 3, 4, 5, 6, 7, 8, 9] rfl
      have hD9 := hD.sub (ws' := (cwou h n r d f cI cF N u9 o cO O)) [0, 1, 2, 3, 4, 5, 6, 7, 8, 9] (by decide) rfl
      exact W.iret (v := iI 2) hx hb hr (fun t8 ht hW => ⟨⟨iI 2, (2, O, u9), rfl, ⟨rfl, hO, ⟨hpx, Or.inr (Or.inl ⟨rfl, b1, b2⟩)⟩⟩, by rw [ht]; exact hP9, va_K.moved hW.alike hK, hD9⟩, hS.F ht⟩) hS.2.2 dL_floor_20
    · refine vx_catch hown [⟨0, 10, 13, 29⟩, ⟨0, 10, 17, 13⟩] ⟨0, 10, 21, 15⟩ [] (by rw [htab]; rfl) (List.forall_mem_cons.mpr ⟨Or.inr ⟨by decide, _, hw _ mA_210, hnc.2.2⟩, (List.forall_mem_cons.mpr ⟨Or.inr ⟨by decide, _, hw _ mA_82, hnc.1⟩, (fun _ h9 => nomatch h9)⟩)⟩) (by decide) (by decide) (hw _ mA_83) (hnb.use mN_164) hce hcv hcl ?_
      refine lv_astore (lv' := [(4, .ref q9), (0, .ref h), (1, .int (iI k)), (2, .int (iI up)), (3, .ref o)]) hx hb dL_floor_21 hl (by decide) rfl (fun ls hl => ?_)
      refine ix_iconst (n := 3) hx hb dL_floor_23 ?_
      have hP9 := hP.sub (ws' := (cwou h n r d f cI cF N u9 o cO O)) [0, 1, 2, 3, 4, 5, 6, 7, 8, 9] rfl
      have hD9 := hD.sub (ws' := (cwou h n r d f cI cF N u9 o cO O)) [0, 1, 2, 3, 4, 5, 6, 7, 8, 9] (by decide) rfl
      exact W.iret (v := iI 3) hx hb hr (fun t8 ht hW => ⟨⟨iI 3, (3, O, u9), rfl, ⟨rfl, hO, ⟨hpx, Or.inr (Or.inr (Or.inl ⟨rfl, b1, b2, b3⟩))⟩⟩, by rw [ht]; exact hP9, va_K.moved hW.alike hK, hD9⟩, hS.F ht⟩) hS.2.2 dL_floor_24
  · obtain ⟨hP1, hK1, hD1⟩ := hB
    rw [ht] at hP1
    obtain ⟨hP, hD⟩ := va_join (wr := [(o, .inl (cO, 1, .inr (.inl (aL O))))]) (w1 := (cwu h n r d f cI cF N u1)) hP hD [0, 1, 2, 3, 4, 5, 6, 7, 8] [9] rfl rfl (by decide) (by decide) hk1 hFc hP1 hD1
    generalize H1 = H at hP hS ⊢
    have hP := hP.sub (ws' := (cwo h n r d f cI cF N u1.1 u1.2.1 u1.2.2.1 u1.2.2.2.1 u1.2.2.2.2.1 u1.2.2.2.2.2.1.1 u1.2.2.2.2.2.1.2.1 u1.2.2.2.2.2.1.2.2.1 u1.2.2.2.2.2.1.2.2.2 u1.2.2.2.2.2.2 o cO O)) [1, 2, 3, 4, 5, 6, 7, 8, 9, 0] rfl
    have hD := hD.sub (ws' := (cwo h n r d f cI cF N u1.1 u1.2.1 u1.2.2.1 u1.2.2.2.1 u1.2.2.2.2.1 u1.2.2.2.2.2.1.1 u1.2.2.2.2.2.1.2.1 u1.2.2.2.2.2.1.2.2.1 u1.2.2.2.2.2.1.2.2.2 u1.2.2.2.2.2.2 o cO O)) [1, 2, 3, 4, 5, 6, 7, 8, 9, 0] (by decide) rfl
    obtain ⟨a1, a2, a3, e9⟩ := hq2
    rcases e9 with ⟨a4, e9⟩ | ⟨a4, q, a5, e9⟩
    · subst e9
      refine ix_i2l hx hb dL_floor_8 (by decide) ?_
      refine ix_last (k := 0) (x := 0) hx hb hK hP hD hS 9 2 rfl rfl (by decide) (by decide) (by decide) dL_floor_9 (fun H locs hP hD hS => ?_)
      have hP : va_P (dC, dI) vwCl (cwo h n r d f cI cF N u1.1 u1.2.1 u1.2.2.1 u1.2.2.2.1 u1.2.2.2.2.1 u1.2.2.2.2.2.1.1 u1.2.2.2.2.2.1.2.1 u1.2.2.2.2.2.1.2.2.1 u1.2.2.2.2.2.1.2.2.2 u1.2.2.2.2.2.2 o cO (iu O 0 0)) H := hP
      have hD : va_D A (cwo h n r d f cI cF N u1.1 u1.2.1 u1.2.2.1 u1.2.2.2.1 u1.2.2.2.2.1 u1.2.2.2.2.2.1.1 u1.2.2.2.2.2.1.2.1 u1.2.2.2.2.2.1.2.2.1 u1.2.2.2.2.2.1.2.2.2 u1.2.2.2.2.2.2 o cO (iu O 0 0)) := hD
      refine lv_goto (tgt := 25) hx hb dL_floor_10 (by decide) ?_
      refine ix_iconst (n := 0) hx hb dL_floor_25 ?_
      have hP9 := hP.sub (ws' := (cwou h n r d f cI cF N u1 o cO (iu O 0 0))) [0, 1, 2, 3, 4, 5, 6, 7, 8, 9] rfl
      have hD9 := hD.sub (ws' := (cwou h n r d f cI cF N u1 o cO (iu O 0 0))) [0, 1, 2, 3, 4, 5, 6, 7, 8, 9] (by decide) rfl
      have hz9 : r32 (0) := (by decide)
      exact W.iret (v := iI 0) hx hb hr (fun t8 ht hW => ⟨⟨iI 0, (0, iu O 0 0, u1), rfl, ⟨rfl, hz9, ⟨a1.1, Or.inr (Or.inr (Or.inr ⟨rfl, a1, a2, a3, Or.inl ⟨a4, rfl⟩⟩))⟩⟩, by rw [ht]; exact hP9, va_K.moved hW.alike hK, hD9⟩, hS.F ht⟩) hS.2.2 dL_floor_26
    · subst e9
      refine ix_i2l hx hb dL_floor_8 (z_flr (z_fb a1 k) a4 ⟨a5.1, a5.2.1⟩) ?_
      refine ix_last (k := 0) (x := f_flr (u1.2.2.2.2.2.2 k) up q) hx hb hK hP hD hS 9 2 rfl rfl (by decide) (by decide) (by decide) dL_floor_9 (fun H locs hP hD hS => ?_)
      have hP : va_P (dC, dI) vwCl (cwo h n r d f cI cF N u1.1 u1.2.1 u1.2.2.1 u1.2.2.2.1 u1.2.2.2.2.1 u1.2.2.2.2.2.1.1 u1.2.2.2.2.2.1.2.1 u1.2.2.2.2.2.1.2.2.1 u1.2.2.2.2.2.1.2.2.2 u1.2.2.2.2.2.2 o cO (iu O 0 (f_flr (u1.2.2.2.2.2.2 k) up q))) H := hP
      have hD : va_D A (cwo h n r d f cI cF N u1.1 u1.2.1 u1.2.2.1 u1.2.2.2.1 u1.2.2.2.2.1 u1.2.2.2.2.2.1.1 u1.2.2.2.2.2.1.2.1 u1.2.2.2.2.2.1.2.2.1 u1.2.2.2.2.2.1.2.2.2 u1.2.2.2.2.2.2 o cO (iu O 0 (f_flr (u1.2.2.2.2.2.2 k) up q))) := hD
      refine lv_goto (tgt := 25) hx hb dL_floor_10 (by decide) ?_
      refine ix_iconst (n := 0) hx hb dL_floor_25 ?_
      have hP9 := hP.sub (ws' := (cwou h n r d f cI cF N u1 o cO (iu O 0 (f_flr (u1.2.2.2.2.2.2 k) up q)))) [0, 1, 2, 3, 4, 5, 6, 7, 8, 9] rfl
      have hD9 := hD.sub (ws' := (cwou h n r d f cI cF N u1 o cO (iu O 0 (f_flr (u1.2.2.2.2.2.2 k) up q)))) [0, 1, 2, 3, 4, 5, 6, 7, 8, 9] (by decide) rfl
      have hz9 : r32 (f_flr (u1.2.2.2.2.2.2 k) up q) := (z_flr (z_fb a1 k) a4 ⟨a5.1, a5.2.1⟩)
      exact W.iret (v := iI 0) hx hb hr (fun t8 ht hW => ⟨⟨iI 0, (0, iu O 0 (f_flr (u1.2.2.2.2.2.2 k) up q), u1), rfl, ⟨rfl, hz9, ⟨a1.1, Or.inr (Or.inr (Or.inr ⟨rfl, a1, a2, a3, Or.inr ⟨a4, q, a5, rfl⟩⟩))⟩⟩, by rw [ht]; exact hP9, va_K.moved hW.alike hK, hD9⟩, hS.F ht⟩) hS.2.2 dL_floor_26
theorem mW_compare : Cond.codeWith yL_compare cL_compare 7 (some .int) [(0, 14, 17, 29), (0, 14, 21, 13), (0, 14, 25, 15)] ∈ wsA := wsA_t (List.mem_of_getElem? (i := 360) (by decide +kernel)) (by decide +kernel)
set_option maxHeartbeats 4000000 in
set_option maxRecDepth 100000 in
theorem kL_compare (l : Launch) (hlt : l.stackTraces = false) (dC : Nat → ClassId) (dI : Nat → Nat → Nat) (sz : Nat) (h n r d f y0 y1 y2 y3 o : Nat) (cI cF cO : ClassId) (N R D : Int → Int) (cn fc sp : Int) (Fs : Int → Int → Int) (O : Int → Int) (hO : r32 (O 0)) (hci : CI N R D cn fc sp Fs) (k up j ot : Int) (hk : r32 k) (hup : up = 0 ∨ up = 1) (hj : r32 j) (hot : ot = 0 ∨ ot = 1) : Met l yL_compare (.codeWith yL_compare cL_compare 7 (some .int) [(0, 14, 17, 29), (0, 14, 21, 13), (0, 14, 25, 15)] :: wsA) ({ frames := 8, cells := 5, slots := 30, locals := 380 }) (va_Pc [.ref h, .int (iI k), .int (iI up), .int (iI j), .int (iI ot), .ref o] (fun U => U.heap.size = sz ∧ va_P (dC, dI) vwCl (cwo h n r d f cI cF N R D cn fc sp y0 y1 y2 y3 Fs o cO O) U.heap ∧ va_K (dC, dI) vwCl [(cI, .int), (cF, .object RX0), (cO, .long)] U ∧ va_D (fun _ => True) (cwo h n r d f cI cF N R D cn fc sp y0 y1 y2 y3 Fs o cO O) ∧ nb U ∧ nc U ∧ zt (va_A (cwo h n r d f cI cF N R D cn fc sp y0 y1 y2 y3 Fs o cO O) sz) U)) (va_Qi (fun r9 u => r9 = iI u.1 ∧ r32 (u.2.1 0) ∧ H_compare N k up j ot u) (fun (u : Int × (Int → Int) × CS) t9 => va_P (dC, dI) vwCl (cwou h n r d f cI cF N u.2.2 o cO u.2.1) t9.heap ∧ va_K (dC, dI) vwCl [(cI, .int), (cF, .object RX0), (cO, .long)] t9 ∧ va_D (va_A (cwo h n r d f cI cF N R D cn fc sp y0 y1 y2 y3 Fs o cO O) sz) (cwou h n r d f cI cF N u.2.2 o cO u.2.1)) (va_A (cwo h n r d f cI cF N R D cn fc sp y0 y1 y2 y3 Fs o cO O) sz)) 5 30 (va_A (cwo h n r d f cI cF N R D cn fc sp y0 y1 y2 y3 Fs o cO O) sz) := by
  refine va_MetW (cc := cL_compare) (maxL := 7) (ret := (some .int)) (by decide) rfl ?_
  intro p e s m args below meth c s₁ B hml hv
  obtain ⟨rfl, hsz, hP, hK, hD0, hnb, hnc, hzt⟩ := hv
  have hx := B.exec
  have hb := B.bytes
  have hr := B.returns
  have hts := atoms_spec (ws := .codeWith yL_compare cL_compare 7 (some .int) [(0, 14, 17, 29), (0, 14, 21, 13), (0, 14, 25, 15)] :: wsA) B.pre
  have hw : ∀ w ∈ wsA, w.before _ s = true := fun w h => hts w (List.mem_cons_of_mem _ h)
  have hown : s.vm.findClass RL = some m.cls := findClass_of_methodNamed B.named
  have hlocks := B.notSynchronized
  have htab := vx_table (x := yL_put) B (hts _ List.mem_cons_self)
  subst hsz
  have hD := hD0.self (sz := s.heap.size)
  generalize hAe : va_A (cwo h n r d f cI cF N R D cn fc sp y0 y1 y2 y3 Fs o cO O) s.heap.size = A at hD hzt ⊢
  have hA : ∀ q : Nat, s.heap.size ≤ q → A q := fun q h => by rw [← hAe]; exact Or.inr h
  have hS : va_S A s.heap s.heap [] := va_S.rf
  have hP : va_P (dC, dI) vwCl (cwo h n r d f cI cF N R D cn fc sp y0 y1 y2 y3 Fs o cO O) s.heap := hP
  have hl := lv_entry ([.ref h, .int (iI k), .int (iI up), .int (iI j), .int (iI ot), .ref o]) (n := 7) (Nat.le_of_ble_eq_true rfl)
  rw [lg_entry_eq]
  generalize (lg_sl ([.ref h, .int (iI k), .int (iI up), .int (iI j), .int (iI ot), .ref o]) ++ List.replicate (7 - (lg_sl ([.ref h, .int (iI k), .int (iI up), .int (iI j), .int (iI ot), .ref o])).length) Slot.unset).toArray = ls at hl ⊢
  have hl : lv_has ls 7 [(0, .ref h), (1, .int (iI k)), (2, .int (iI up)), (3, .int (iI j)), (4, .int (iI ot)), (5, .ref o)] := hl
  refine lv_aload hx hb dL_compare_0 (lv_at hl 5 rfl) ?_
  refine ix_iconst (n := 0) hx hb dL_compare_2 ?_
  refine lv_aload_n hx hb dL_compare_3 rfl (lv_at hl 0 rfl) ?_
  refine lv_iload_n hx hb dL_compare_4 rfl (lv_at hl 1 rfl) ?_
  refine lv_iload_n hx hb dL_compare_5 rfl (lv_at hl 2 rfl) ?_
  refine lv_iload_n hx hb dL_compare_6 rfl (lv_at hl 3 rfl) ?_
  refine lv_iload hx hb dL_compare_7 (lv_at hl 4 rfl) ?_
  have hPc := hP.sub (ws' := (cw h n r d f cI cF N R D cn fc sp y0 y1 y2 y3 Fs)) [0, 1, 2, 3, 4, 5, 6, 7, 8] rfl
  have hDc := hD.sub (ws' := (cw h n r d f cI cF N R D cn fc sp y0 y1 y2 y3 Fs)) [0, 1, 2, 3, 4, 5, 6, 7, 8] (by decide) rfl
  have hKc := hK.sub (tys' := [(cI, .int), (cF, .object RX0)]) [0, 1] rfl
  have hFc := va_free (wc := (cw h n r d f cI cF N R D cn fc sp y0 y1 y2 y3 Fs)) hD hS hA [0, 1, 2, 3, 4, 5, 6, 7, 8] rfl
  refine vx_calli (vx_runV (As := [.int (iI k), .int (iI up), .int (iI j), .int (iI ot)]) (rest := [.int (iI 0), .ref o]) ⟨hx, hb, hml, hown, hw⟩ (kX1_compare l hlt dC dI _ h n r d f y0 y1 y2 y3 cI cF N R D cn fc sp Fs hci k up j ot hk hup hj hot) (cwV 4 hw (gV mA_361 mA_362 mA_363 mA_1 mA_364) rfl rfl rfl (by decide +kernel) ⟨Nat.le_of_ble_eq_true rfl, Nat.le_of_ble_eq_true rfl⟩) ⟨fun a U g mk q => by obtain ⟨q0, q1, qP, qK, qD, qN, qZ⟩ := q; exact ⟨q0, q1, qP, va_K.moved (u := U) (U := U.calling g mk a) (Vm.Alike.refl U.vm) qK, qD, nb.same (u := U) rfl qN, zt.go (u := U) qZ (Vm.Alike.refl U.vm) (fun _ q => q) (fun _ _ _ => rfl)⟩, va_recv hKc hPc (ci := 1) (q0 := 0) rfl rfl, fun U hU hW => ⟨rfl, by rw [hU], by rw [hU]; exact hPc, va_K.moved hW.alike hKc, hDc.weaken (fun _ _ _ _ => trivial), nb.warm hW hnb, zt2 hzt hS hU hW.alike hFc⟩⟩ rfl rfl hl.1 rfl (lv_room (Nat.le_of_ble_eq_true rfl)) dL_compare_9 ⟨Nat.le_of_ble_eq_true rfl, Nat.le_of_ble_eq_true rfl⟩) hS (fun q _ h => hFc q h) hFc (fun q _ h => hFc q h) (fun E9 ce q9 u9 t9 H1 locs ht hvm hpx hBX hz1 hk1 hS hce hcv hcl => ?_) (fun r3 u1 t9 H1 locs ht hvm hq2 hB hz1 hk1 hS => ?_)
  · obtain ⟨hcond, hP1, hK1, hD1⟩ := hBX
    rw [ht] at hP1
    obtain ⟨hP, hD⟩ := va_join (wr := [(o, .inl (cO, 1, .inr (.inl (aL O))))]) (w1 := (cwu h n r d f cI cF N u9)) hP hD [0, 1, 2, 3, 4, 5, 6, 7, 8] [9] rfl rfl (by decide) (by decide) hk1 hFc hP1 hD1
    generalize H1 = H at hP hS hce ⊢
    have hP := hP.sub (ws' := (cwo h n r d f cI cF N u9.1 u9.2.1 u9.2.2.1 u9.2.2.2.1 u9.2.2.2.2.1 u9.2.2.2.2.2.1.1 u9.2.2.2.2.2.1.2.1 u9.2.2.2.2.2.1.2.2.1 u9.2.2.2.2.2.1.2.2.2 u9.2.2.2.2.2.2 o cO O)) [1, 2, 3, 4, 5, 6, 7, 8, 9, 0] rfl
    have hD := hD.sub (ws' := (cwo h n r d f cI cF N u9.1 u9.2.1 u9.2.2.1 u9.2.2.2.1 u9.2.2.2.2.1 u9.2.2.2.2.2.1.1 u9.2.2.2.2.2.1.2.1 u9.2.2.2.2.2.1.2.2.1 u9.2.2.2.2.2.1.2.2.2 u9.2.2.2.2.2.2 o cO O)) [1, 2, 3, 4, 5, 6, 7, 8, 9, 0] (by decide) rfl
    rcases hcond with ⟨rfl, b1⟩ | ⟨rfl, b1, b2⟩ | ⟨rfl, b1, b2, b3, b4⟩
    · refine vx_catch hown [] ⟨0, 14, 17, 29⟩ [⟨0, 14, 21, 13⟩, ⟨0, 14, 25, 15⟩] (by rw [htab]; rfl) (fun _ h9 => nomatch h9) (by decide) (by decide) (hw _ mA_210) (hnb.use mN_221) hce hcv hcl ?_
      refine lv_astore (lv' := [(6, .ref q9), (0, .ref h), (1, .int (iI k)), (2, .int (iI up)), (3, .int (iI j)), (4, .int (iI ot)), (5, .ref o)]) hx hb dL_compare_17 hl (by decide) rfl (fun ls hl => ?_)
      refine ix_iconst (n := 1) hx hb dL_compare_19 ?_
      have hP9 := hP.sub (ws' := (cwou h n r d f cI cF N u9 o cO O)) [0, 1, 2, 3, 4, 5, 6, 7, 8, 9] rfl
      have hD9 := hD.sub (ws' := (cwou h n r d f cI cF N u9 o cO O)) [0, 1, 2, 3, 4, 5, 6, 7, 8, 9] (by decide) rfl
      exact W.iret (v := iI 1) hx hb hr (fun t8 ht hW => ⟨⟨iI 1, (1, O, u9), rfl, ⟨rfl, hO, ⟨hpx, Or.inl ⟨rfl, b1⟩⟩⟩, by rw [ht]; exact hP9, va_K.moved hW.alike hK, hD9⟩, hS.F ht⟩) hS.2.2 dL_compare_20
    · refine vx_catch hown [⟨0, 14, 17, 29⟩] ⟨0, 14, 21, 13⟩ [⟨0, 14, 25, 15⟩] (by rw [htab]; rfl) (List.forall_mem_cons.mpr ⟨Or.inr ⟨by decide, _, hw _ mA_210, hnc.2.1⟩, (fun _ h9 => nomatch h9)⟩) (by decide) (by decide) (hw _ mA_82) (hnb.use mN_93) hce hcv hcl ?_
      refine lv_astore (lv' := [(6, .ref q9), (0, .ref h), (1, .int (iI k)), (2, .int (iI up)), (3, .int (iI j)), (4, .int (iI ot)), (5, .ref o)]) hx hb dL_compare_21 hl (by decide) rfl (fun ls hl => ?_)
      refine ix_iconst (n := 2) hx hb dL_compare_23 ?_
      have hP9 := hP.sub (ws' := (cwou h n r d f cI cF N u9 o cO O)) [0, 1, 2, 3, 4, 5, 6, 7, 8, 9] rfl
      have hD9 := hD.sub (ws' := (cwou h n r d f cI cF N u9 o cO O)) [0, 1, 2, 3, 4, 5, 6, 7, 8, 9] (by decide) rfl
      exact W.iret (v := iI 2) hx hb hr (fun t8 ht hW => ⟨⟨iI 2, (2, O, u9), rfl, ⟨rfl, hO, ⟨hpx, Or.inr (Or.inl ⟨rfl, b1, b2⟩)⟩⟩, by rw [ht]; exact hP9, va_K.moved hW.alike hK, hD9⟩, hS.F ht⟩) hS.2.2 dL_compare_24
    · refine vx_catch hown [⟨0, 14, 17, 29⟩, ⟨0, 14, 21, 13⟩] ⟨0, 14, 25, 15⟩ [] (by rw [htab]; rfl) (List.forall_mem_cons.mpr ⟨Or.inr ⟨by decide, _, hw _ mA_210, hnc.2.2⟩, (List.forall_mem_cons.mpr ⟨Or.inr ⟨by decide, _, hw _ mA_82, hnc.1⟩, (fun _ h9 => nomatch h9)⟩)⟩) (by decide) (by decide) (hw _ mA_83) (hnb.use mN_164) hce hcv hcl ?_
      refine lv_astore (lv' := [(6, .ref q9), (0, .ref h), (1, .int (iI k)), (2, .int (iI up)), (3, .int (iI j)), (4, .int (iI ot)), (5, .ref o)]) hx hb dL_compare_25 hl (by decide) rfl (fun ls hl => ?_)
      refine ix_iconst (n := 3) hx hb dL_compare_27 ?_
      have hP9 := hP.sub (ws' := (cwou h n r d f cI cF N u9 o cO O)) [0, 1, 2, 3, 4, 5, 6, 7, 8, 9] rfl
      have hD9 := hD.sub (ws' := (cwou h n r d f cI cF N u9 o cO O)) [0, 1, 2, 3, 4, 5, 6, 7, 8, 9] (by decide) rfl
      exact W.iret (v := iI 3) hx hb hr (fun t8 ht hW => ⟨⟨iI 3, (3, O, u9), rfl, ⟨rfl, hO, ⟨hpx, Or.inr (Or.inr (Or.inl ⟨rfl, b1, b2, b3, b4⟩))⟩⟩, by rw [ht]; exact hP9, va_K.moved hW.alike hK, hD9⟩, hS.F ht⟩) hS.2.2 dL_compare_28
  · obtain ⟨hP1, hK1, hD1⟩ := hB
    rw [ht] at hP1
    obtain ⟨hP, hD⟩ := va_join (wr := [(o, .inl (cO, 1, .inr (.inl (aL O))))]) (w1 := (cwu h n r d f cI cF N u1)) hP hD [0, 1, 2, 3, 4, 5, 6, 7, 8] [9] rfl rfl (by decide) (by decide) hk1 hFc hP1 hD1
    generalize H1 = H at hP hS ⊢
    have hP := hP.sub (ws' := (cwo h n r d f cI cF N u1.1 u1.2.1 u1.2.2.1 u1.2.2.2.1 u1.2.2.2.2.1 u1.2.2.2.2.2.1.1 u1.2.2.2.2.2.1.2.1 u1.2.2.2.2.2.1.2.2.1 u1.2.2.2.2.2.1.2.2.2 u1.2.2.2.2.2.2 o cO O)) [1, 2, 3, 4, 5, 6, 7, 8, 9, 0] rfl
    have hD := hD.sub (ws' := (cwo h n r d f cI cF N u1.1 u1.2.1 u1.2.2.1 u1.2.2.2.1 u1.2.2.2.2.1 u1.2.2.2.2.2.1.1 u1.2.2.2.2.2.1.2.1 u1.2.2.2.2.2.1.2.2.1 u1.2.2.2.2.2.1.2.2.2 u1.2.2.2.2.2.2 o cO O)) [1, 2, 3, 4, 5, 6, 7, 8, 9, 0] (by decide) rfl
    obtain ⟨a1, a2, a3, a4, a5, e9⟩ := hq2
    subst e9
    refine ix_i2l hx hb dL_compare_12 (z_cmp _ _ _ _) ?_
    refine ix_last (k := 0) (x := f_cmp (u1.2.2.2.2.2.2 k) (u1.2.2.2.2.2.2 j) up ot) hx hb hK hP hD hS 9 2 rfl rfl (by decide) (by decide) (by decide) dL_compare_13 (fun H locs hP hD hS => ?_)
    have hP : va_P (dC, dI) vwCl (cwo h n r d f cI cF N u1.1 u1.2.1 u1.2.2.1 u1.2.2.2.1 u1.2.2.2.2.1 u1.2.2.2.2.2.1.1 u1.2.2.2.2.2.1.2.1 u1.2.2.2.2.2.1.2.2.1 u1.2.2.2.2.2.1.2.2.2 u1.2.2.2.2.2.2 o cO (iu O 0 (f_cmp (u1.2.2.2.2.2.2 k) (u1.2.2.2.2.2.2 j) up ot))) H := hP
    have hD : va_D A (cwo h n r d f cI cF N u1.1 u1.2.1 u1.2.2.1 u1.2.2.2.1 u1.2.2.2.2.1 u1.2.2.2.2.2.1.1 u1.2.2.2.2.2.1.2.1 u1.2.2.2.2.2.1.2.2.1 u1.2.2.2.2.2.1.2.2.2 u1.2.2.2.2.2.2 o cO (iu O 0 (f_cmp (u1.2.2.2.2.2.2 k) (u1.2.2.2.2.2.2 j) up ot))) := hD
    refine lv_goto (tgt := 29) hx hb dL_compare_14 (by decide) ?_
    refine ix_iconst (n := 0) hx hb dL_compare_29 ?_
    have hP9 := hP.sub (ws' := (cwou h n r d f cI cF N u1 o cO (iu O 0 (f_cmp (u1.2.2.2.2.2.2 k) (u1.2.2.2.2.2.2 j) up ot)))) [0, 1, 2, 3, 4, 5, 6, 7, 8, 9] rfl
    have hD9 := hD.sub (ws' := (cwou h n r d f cI cF N u1 o cO (iu O 0 (f_cmp (u1.2.2.2.2.2.2 k) (u1.2.2.2.2.2.2 j) up ot)))) [0, 1, 2, 3, 4, 5, 6, 7, 8, 9] (by decide) rfl
    have hz9 : r32 (f_cmp (u1.2.2.2.2.2.2 k) (u1.2.2.2.2.2.2 j) up ot) := (z_cmp _ _ _ _)
    exact W.iret (v := iI 0) hx hb hr (fun t8 ht hW => ⟨⟨iI 0, (0, iu O 0 (f_cmp (u1.2.2.2.2.2.2 k) (u1.2.2.2.2.2.2 j) up ot), u1), rfl, ⟨rfl, hz9, ⟨a1.1, Or.inr (Or.inr (Or.inr ⟨rfl, a1, a2, a3, a4, a5, rfl⟩))⟩⟩, by rw [ht]; exact hP9, va_K.moved hW.alike hK, hD9⟩, hS.F ht⟩) hS.2.2 dL_compare_30
