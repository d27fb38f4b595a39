abbrev CS : Type := (Int → Int) × (Int → Int) × Int × Int × Int × (Nat × Nat × Nat × Nat) × (Int → Int → Int)
abbrev cwu (h n r d f : Nat) (cI cF : ClassId) (N : Int → Int) (u : CS) : va_W := cw h n r d f cI cF N u.1 u.2.1 u.2.2.1 u.2.2.2.1 u.2.2.2.2.1 u.2.2.2.2.2.1.1 u.2.2.2.2.2.1.2.1 u.2.2.2.2.2.1.2.2.1 u.2.2.2.2.2.1.2.2.2 u.2.2.2.2.2.2
def CIu (N : Int → Int) (u : CS) : Prop := CI N u.1 u.2.1 u.2.2.1 u.2.2.2.1 u.2.2.2.2.1 u.2.2.2.2.2.2
/-- .. split -/
def CIs (N : Int → Int) (u : CS) : Prop := CIu N u ∧ 0 ≤ f_deg N ∧ u.2.2.1 = f_cont N ∧ u.2.2.2.2.1 = 1
theorem vFx {A : Nat → Prop} {s t : State} {H : Heap} {locs : List Loc} (hS : va_S A s.heap H locs) (h1 : H.size ≤ t.heap.size) (h2 : ∀ q : Nat, q < H.size → t.heap[q]? = H[q]?) : va_F A s t := ⟨Nat.le_trans hS.1 h1, fun q a b => by rw [h2 q (Nat.lt_of_lt_of_le a hS.1)]; exact hS.2.1 q a b⟩
theorem pkeep {D : va_G} {cl : List vw_C} {ws : va_W} {H H1 : Heap} (hP : va_P D cl ws H) (hk : ∀ q : Nat, q < H.size → H1[q]? = H[q]?) : va_P D cl ws H1 := hP.kept (fun k q h => hk q.1 (vx_lt hP h))
theorem zt1 {A : Nat → Prop} {s U : State} {H : Heap} {locs : List Loc} (h : zt A s) (hS : va_S A s.heap H locs) (hU : U.heap = H) (hvm : s.vm.Alike U.vm) : zt A U := zt.go h hvm (fun _ q => q) (fun a q1 q2 => by rw [hU]; exact hS.2.1 a q1 q2)
theorem zt2 {A B : Nat → Prop} {s U : State} {H : Heap} {locs : List Loc} (h : zt A s) (hS : va_S A s.heap H locs) (hU : U.heap = H) (hvm : s.vm.Alike U.vm) (hB : ∀ q, B q → A q) : zt B U := zt.go h hvm hB (fun a q1 q2 => by rw [hU]; exact hS.2.1 a q1 q2)
section XR
variable {p : Program} {l : Launch} {e : Env} {R : Room} {s : State} {m : MethodId} {args : Array Value} {below : List Frame} {meth : Method} {c : Code} {H : Heap} {locs : List Loc} {cells slots : Nat} {Q : State → Prop} {mc ms : Nat} {free : Addr → Prop} {A0 A1 : Nat → Prop} {H0 : Heap} {a : Array Value} {pc : Nat} {ls : Array Slot} {st0 rest : List Value}
theorem xr_callr {S SX : Type} {post : S → Prop} {px : SX → Prop} {B : S → Nat → State → Prop} {BX : String → SX → State → Prop} {AX : Nat → Prop} (hr : vx_Run p l e R s m args below meth c H locs cells slots mc ms (F0 m pc ls st0) rest (va_Qr post B A1 a) (vx_X px BX AX) free) (hS : va_S A0 H0 H locs) (hA : ∀ q, q < H.size → A1 q → A0 q) (hf : ∀ q, free q → A0 q) (hAX : ∀ q, q < H.size → AX q → A0 q)
    (kx : ∀ (E : String) (ce : Cell) (q9 : Addr) (u : SX) (t : State) (H1 : Heap) (locs1 : List Loc), t.heap = H1 → s.vm.Alike t.vm → px u → BX E u t → H.size ≤ H1.size → (∀ q : Nat, q < H.size → ¬ AX q → H1[q]? = H[q]?) → va_S A0 H0 H1 locs1 → H1[q9]? = some ce → ce.vm = .none → s.vm.findClass E = some ce.cls → vx_W p l e R s m args below meth c H1 locs1 (cells + mc) (slots + ms) Q (F0 m pc ls rest) q9)
    (kk : ∀ (u : S) (ra : Nat) (t : State) (H1 : Heap) (locs1 : List Loc), t.heap = H1 → s.vm.Alike t.vm → post u → B u ra t → H.size ≤ H1.size → (∀ q : Nat, q < H.size → ¬ A1 q → H1[q]? = H[q]?) → va_S A0 H0 H1 locs1 → W p l e R s m args below meth c H1 locs1 (cells + mc) (slots + ms) Q (F0 m (pc + 3) ls (.ref ra :: rest))) : W p l e R s m args below meth c H locs cells slots Q (F0 m pc ls st0) := by
  intro T hT X
  rcases hr T hT X with ⟨v, st0, t, T2, L, h0, X2, hL, e1, e2, ⟨⟨u, ra, hv, hp, hb⟩, hF⟩, st⟩ | ⟨q, st0, t, T2, L, E, ce, h0, X2, hL, e1, e2, ⟨u, hp, hb, hF⟩, hce, hcv, hcl, st⟩
  · cases hv
    obtain ⟨k1, k2, k3⟩ := vx_keep h0 e1 hS hA hf hL hF
    obtain ⟨t2, a1, b1⟩ := kk u ra t T2.heap (locs ++ L) e1.symm (by rw [← e2]; exact X2.warmed.alike) hp hb k1 k2 k3 T2 rfl X2
    exact ⟨t2, st t2 a1, b1⟩
  · obtain ⟨k1, k2, k3⟩ := vx_keep h0 e1 hS hAX hf hL hF
    obtain ⟨t2, a1, b1⟩ := kx E ce q u t T2.heap (locs ++ L) e1.symm (by rw [← e2]; exact X2.warmed.alike) hp hb k1 k2 k3 (by rw [e1]; exact hce) hcv hcl T2 rfl X2
    exact ⟨t2, st.trans a1, b1⟩
end XR
set_option maxHeartbeats 4000000 in
set_option maxRecDepth 100000 in
theorem kX1_at (l : Launch) (hlt : l.stackTraces = false) (dC : Nat → ClassId) (dI : Nat → Nat → Nat) (sz : Nat) (h n r d f y0 y1 y2 y3 : Nat) (cI cF : ClassId) (N R D : Int → Int) (cn fc sp : Int) (Fs : Int → Int → Int) (hci : CI N R D cn fc sp Fs) (v : Int) (hv : r32 v) : vx_Met l yX1_at (.code yX1_at cX1_at 2 (some .int) :: wsA) ({ frames := 7, cells := 1, slots := 6, locals := 120 }) (va_Pc [.ref h, .int (iI v)] (fun U => U.heap.size = sz ∧ va_P (dC, dI) vwCl (cw h n r d f cI cF N R D cn fc sp y0 y1 y2 y3 Fs) U.heap ∧ va_K (dC, dI) vwCl [(cI, .int), (cF, .object RX0)] U ∧ va_D (fun _ => True) (cw h n r d f cI cF N R D cn fc sp y0 y1 y2 y3 Fs) ∧ nb U ∧ zt (va_A (cw h n r d f cI cF N R D cn fc sp y0 y1 y2 y3 Fs) sz) U)) (va_Qi (fun r9 u => CIu N u ∧ (0 ≤ v ∧ v ≤ 4) ∧ r9 = iI (N v)) (fun (u : CS) t9 => va_P (dC, dI) vwCl (cwu h n r d f cI cF N u) t9.heap ∧ va_K (dC, dI) vwCl [(cI, .int), (cF, .object RX0)] t9 ∧ va_D (va_A (cw h n r d f cI cF N R D cn fc sp y0 y1 y2 y3 Fs) sz) (cwu h n r d f cI cF N u)) (va_A (cw h n r d f cI cF N R D cn fc sp y0 y1 y2 y3 Fs) sz)) (vx_X (fun u : CS => CIu N u) (fun E u t9 => (E = EIOB ∧ ¬ (0 ≤ v ∧ v ≤ 4)) ∧ va_P (dC, dI) vwCl (cwu h n r d f cI cF N u) t9.heap ∧ va_K (dC, dI) vwCl [(cI, .int), (cF, .object RX0)] t9 ∧ va_D (va_A (cw h n r d f cI cF N R D cn fc sp y0 y1 y2 y3 Fs) sz) (cwu h n r d f cI cF N u)) (va_A (cw h n r d f cI cF N R D cn fc sp y0 y1 y2 y3 Fs) sz)) 1 6 (va_A (cw h n r d f cI cF N R D cn fc sp y0 y1 y2 y3 Fs) sz) := by
  refine vx_ofW (cc := cX1_at) (maxL := 2) (ret := (some .int)) (by decide) rfl ?_
  intro p e s m args below meth c s₁ B hml hout hv
  obtain ⟨rfl, hsz, hP, hK, hD0, hnb, hzt⟩ := hv
  have hx := B.exec
  have hb := B.bytes
  have hr := B.returns
  have hts := atoms_spec (ws := .code yX1_at cX1_at 2 (some .int) :: wsA) B.pre
  have hw : ∀ w ∈ wsA, w.before _ s = true := fun w h => hts w (List.mem_cons_of_mem _ h)
  have hown : s.vm.findClass RX1 = some m.cls := findClass_of_methodNamed B.named
  have hlocks := B.notSynchronized
  subst hsz
  have hD := hD0.self (sz := s.heap.size)
  generalize hAe : va_A (cw h n r d f cI cF N R D cn fc sp y0 y1 y2 y3 Fs) s.heap.size = A at hD hzt ⊢
  have hA : ∀ q : Nat, s.heap.size ≤ q → A q := fun q h => by rw [← hAe]; exact Or.inr h
  have hS : va_S A s.heap s.heap [] := va_S.rf
  have hP : va_P (dC, dI) vwCl (cw h n r d f cI cF N R D cn fc sp y0 y1 y2 y3 Fs) s.heap := hP
  have hl := lv_entry ([.ref h, .int (iI v)]) (n := 2) (Nat.le_of_ble_eq_true rfl)
  rw [lg_entry_eq]
  generalize (lg_sl ([.ref h, .int (iI v)]) ++ List.replicate (2 - (lg_sl ([.ref h, .int (iI v)])).length) Slot.unset).toArray = ls at hl ⊢
  have hl : lv_has ls 2 [(0, .ref h), (1, .int (iI v))] := hl
  refine lv_iload_n hx hb dX1_at_0 rfl (lv_at hl 1 rfl) ?_
  refine vx_callv (vx_runS (As := [.int (iI v)]) (rest := []) ⟨hx, hb, hml, hown, hw⟩ (kX1_checkPower l hlt A v (by omega)) (cwS 1 hw (gS mA_88 mA_89 mA_1 mA_90) rfl rfl rfl (by decide +kernel) ⟨Nat.le_of_ble_eq_true rfl, Nat.le_of_ble_eq_true rfl⟩) ⟨fun a U g mk q => ⟨q.1, nb.same (u := U) rfl q.2.1, zt.go (u := U) q.2.2 (Vm.Alike.refl U.vm) (fun _ z => z) (fun _ _ _ => rfl)⟩, fun U hU hW => ⟨rfl, nb.warm hW hnb, zt1 hzt hS hU hW.alike⟩⟩ rfl rfl hl.1 rfl (lv_room (Nat.le_of_ble_eq_true rfl)) dX1_at_1 ⟨Nat.le_of_ble_eq_true rfl, Nat.le_of_ble_eq_true rfl⟩) hS (fun q _ z => z.elim) (fun q z => z.elim) (fun q _ z => z.elim) (fun E9 ce q9 u9 t9 H1 locs ht hvm hpx hBX hz1 hk1 hS hce hcv hcl => ?_) (fun u9 t9 H1 locs ht hvm hq1 hB hz1 hk1 hS => ?_)
  · exact vx_out (fun x h => (hout x h).elim) hlocks hce hcv hcl (fun t2 ht2 hvm2 => ⟨(R, D, cn, fc, sp, (y0, y1, y2, y3), Fs), hci, ⟨⟨hBX, hpx⟩, by rw [ht2]; exact pkeep hP (fun q z => hk1 q z (fun f => f)), va_K.moved hvm2 hK, hD⟩, hS.F ht2⟩) hS.2.2 (Nat.le_of_ble_eq_true rfl) (Nat.le_of_ble_eq_true rfl)
  · have hP := pkeep hP (fun q z => hk1 q z (fun f => f))
    generalize H1 = H at hP hS ⊢
    refine lv_aload_n hx hb dX1_at_4 rfl (lv_at hl 0 rfl) ?_
    refine va_get (D := (dC, dI)) (ci := 1) (v := .ref n) (C := RX1) (T := TX1) (N := 7) hx hb hw inX1 hown hK hP 0 rfl rfl 0 (by decide) (hw _ mA_53) (fun _ h9 => h9) rfl dX1_at_5 ?_
    refine lv_iload_n hx hb dX1_at_8 rfl (lv_at hl 1 rfl) ?_
    refine ix_iald (k := v) hx hb hK hP 1 0 rfl rfl (by omega) (by omega) (by decide) dX1_at_9 ?_
    have hP9 := hP.sub (ws' := (cwu h n r d f cI cF N (R, D, cn, fc, sp, (y0, y1, y2, y3), Fs))) [0, 1, 2, 3, 4, 5, 6, 7, 8] rfl
    have hD9 := hD.sub (ws' := (cwu h n r d f cI cF N (R, D, cn, fc, sp, (y0, y1, y2, y3), Fs))) [0, 1, 2, 3, 4, 5, 6, 7, 8] (by decide) rfl
    have hK9 := hK.sub (tys' := [(cI, .int), (cF, .object RX0)]) [0, 1] rfl
    refine vx_ret (W.widen (k := 1) (n := 6) (Nat.le_of_ble_eq_true rfl) (Nat.le_of_ble_eq_true rfl) ?_)
    exact W.iret (v := iI (N v)) hx hb hr (fun t ht hW => ⟨⟨iI (N v), (R, D, cn, fc, sp, (y0, y1, y2, y3), Fs), rfl, ⟨hci, by omega, rfl⟩, by rw [ht]; exact hP9, va_K.moved hW.alike hK9, hD9⟩, hS.F ht⟩) hS.2.2 dX1_at_10
set_option maxHeartbeats 4000000 in
set_option maxRecDepth 100000 in
theorem kX1_factors (l : Launch) (hlt : l.stackTraces = false) (dC : Nat → ClassId) (dI : Nat → Nat → Nat) (sz : Nat) (h n r d f y0 y1 y2 y3 : Nat) (cI cF : ClassId) (N R D : Int → Int) (cn fc sp : Int) (Fs : Int → Int → Int) (hci : CI N R D cn fc sp Fs)  : vx_Met l yX1_factors (.code yX1_factors cX1_factors 1 (some .int) :: wsA) ({ frames := 7, cells := 1, slots := 6, locals := 280 }) (va_Pc [.ref h] (fun U => U.heap.size = sz ∧ va_P (dC, dI) vwCl (cw h n r d f cI cF N R D cn fc sp y0 y1 y2 y3 Fs) U.heap ∧ va_K (dC, dI) vwCl [(cI, .int), (cF, .object RX0)] U ∧ va_D (fun _ => True) (cw h n r d f cI cF N R D cn fc sp y0 y1 y2 y3 Fs) ∧ nb U ∧ zt (va_A (cw h n r d f cI cF N R D cn fc sp y0 y1 y2 y3 Fs) sz) U)) (va_Qi (fun r9 u => CIs N u ∧ r9 = iI u.2.2.2.1) (fun (u : CS) t9 => va_P (dC, dI) vwCl (cwu h n r d f cI cF N u) t9.heap ∧ va_K (dC, dI) vwCl [(cI, .int), (cF, .object RX0)] t9 ∧ va_D (va_A (cw h n r d f cI cF N R D cn fc sp y0 y1 y2 y3 Fs) sz) (cwu h n r d f cI cF N u)) (va_A (cw h n r d f cI cF N R D cn fc sp y0 y1 y2 y3 Fs) sz)) (vx_X (fun u : CS => CIu N u) (fun E u t9 => (E = EISE ∧ f_deg N < 0) ∧ va_P (dC, dI) vwCl (cwu h n r d f cI cF N u) t9.heap ∧ va_K (dC, dI) vwCl [(cI, .int), (cF, .object RX0)] t9 ∧ va_D (va_A (cw h n r d f cI cF N R D cn fc sp y0 y1 y2 y3 Fs) sz) (cwu h n r d f cI cF N u)) (va_A (cw h n r d f cI cF N R D cn fc sp y0 y1 y2 y3 Fs) sz)) 1 6 (va_A (cw h n r d f cI cF N R D cn fc sp y0 y1 y2 y3 Fs) sz) := by
  refine vx_ofW (cc := cX1_factors) (maxL := 1) (ret := (some .int)) (by decide) rfl ?_
  intro p e s m args below meth c s₁ B hml hout hv
  obtain ⟨rfl, hsz, hP, hK, hD0, hnb, hzt⟩ := hv
  have hx := B.exec
  have hb := B.bytes
  have hr := B.returns
  have hts := atoms_spec (ws := .code yX1_factors cX1_factors 1 (some .int) :: wsA) B.pre
  have hw : ∀ w ∈ wsA, w.before _ s = true := fun w h => hts w (List.mem_cons_of_mem _ h)
  have hown : s.vm.findClass RX1 = some m.cls := findClass_of_methodNamed B.named
  have hlocks := B.notSynchronized
  subst hsz
  have hD := hD0.self (sz := s.heap.size)
  generalize hAe : va_A (cw h n r d f cI cF N R D cn fc sp y0 y1 y2 y3 Fs) s.heap.size = A at hD hzt ⊢
  have hA : ∀ q : Nat, s.heap.size ≤ q → A q := fun q h => by rw [← hAe]; exact Or.inr h
  have hS : va_S A s.heap s.heap [] := va_S.rf
  have hP : va_P (dC, dI) vwCl (cw h n r d f cI cF N R D cn fc sp y0 y1 y2 y3 Fs) s.heap := hP
  have hl := lv_entry ([.ref h]) (n := 1) (Nat.le_of_ble_eq_true rfl)
  rw [lg_entry_eq]
  generalize (lg_sl ([.ref h]) ++ List.replicate (1 - (lg_sl ([.ref h])).length) Slot.unset).toArray = ls at hl ⊢
  have hl : lv_has ls 1 [(0, .ref h)] := hl
  refine lv_aload_n hx hb dX1_factors_0 rfl (lv_at hl 0 rfl) ?_
  have hFc := va_free (wc := (cw h n r d f cI cF N R D cn fc sp y0 y1 y2 y3 Fs)) hD hS hA [0, 1, 2, 3, 4, 5, 6, 7, 8] rfl
  refine vx_callv (vx_runV (As := []) (rest := []) ⟨hx, hb, hml, hown, hw⟩ (kX1_split l hlt dC dI _ h n r d f y0 y1 y2 y3 cI cF N R D cn fc sp Fs hci) (cwV 0 hw (gV mA_215 mA_217 mP_3 mA_1 mA_218) rfl rfl rfl (by decide +kernel) ⟨Nat.le_of_ble_eq_true rfl, Nat.le_of_ble_eq_true rfl⟩) ⟨fun a U g mk q => by obtain ⟨q0, q1, qP, qK, qD, qN, qZ⟩ := q; exact ⟨q0, q1, qP, va_K.moved (u := U) (U := U.calling g mk a) (Vm.Alike.refl U.vm) qK, qD, nb.same (u := U) rfl qN, zt.go (u := U) qZ (Vm.Alike.refl U.vm) (fun _ q => q) (fun _ _ _ => rfl)⟩, va_recv hK hP (ci := 1) (q0 := 0) rfl rfl, fun U hU hW => ⟨rfl, by rw [hU], by rw [hU]; exact hP, va_K.moved hW.alike hK, hD.weaken (fun _ _ _ _ => trivial), nb.warm hW hnb, zt2 hzt hS hU hW.alike hFc⟩⟩ rfl rfl hl.1 rfl (lv_room (Nat.le_of_ble_eq_true rfl)) dX1_factors_1 ⟨Nat.le_of_ble_eq_true rfl, Nat.le_of_ble_eq_true rfl⟩) hS (fun q _ h => hFc q h) hFc (fun q _ z => z.elim) (fun E9 ce q9 u9 t9 H1 locs ht hvm hpx hBX hz1 hk1 hS hce hcv hcl => ?_) (fun u1 t9 H1 locs ht hvm hq2 hB hz1 hk1 hS => ?_)
  · exact vx_out (fun x h => (hout x h).elim) hlocks hce hcv hcl (fun t2 ht2 hvm2 => ⟨(R, D, cn, fc, sp, (y0, y1, y2, y3), Fs), hci, ⟨⟨hBX, hpx⟩, by rw [ht2]; exact pkeep hP (fun q z => hk1 q z (fun f => f)), va_K.moved hvm2 hK, hD⟩, hS.F ht2⟩) hS.2.2 (Nat.le_of_ble_eq_true rfl) (Nat.le_of_ble_eq_true rfl)
  · obtain ⟨hP1, hK1, hD1⟩ := hB
    rw [ht] at hP1
    obtain ⟨hP, hD⟩ := va_join (wr := []) (w1 := (cw h n r d f cI cF N u1.1 u1.2.1 (f_cont N) u1.2.2.1 1 u1.2.2.2.1.1 u1.2.2.2.1.2.1 u1.2.2.2.1.2.2.1 u1.2.2.2.1.2.2.2 u1.2.2.2.2)) hP hD [0, 1, 2, 3, 4, 5, 6, 7, 8] [] rfl rfl (by decide) (by decide) hk1 hFc hP1 hD1
    generalize H1 = H at hP hS ⊢
    have hP : va_P (dC, dI) vwCl (cw h n r d f cI cF N u1.1 u1.2.1 (f_cont N) u1.2.2.1 1 u1.2.2.2.1.1 u1.2.2.2.1.2.1 u1.2.2.2.1.2.2.1 u1.2.2.2.1.2.2.2 u1.2.2.2.2) H := hP
    have hD : va_D A (cw h n r d f cI cF N u1.1 u1.2.1 (f_cont N) u1.2.2.1 1 u1.2.2.2.1.1 u1.2.2.2.1.2.1 u1.2.2.2.1.2.2.1 u1.2.2.2.1.2.2.2 u1.2.2.2.2) := hD
    have hci := hq2.1
    have hdeg := hq2.2
    have hdc := deg_c N
    refine lv_aload_n hx hb dX1_factors_4 rfl (lv_at hl 0 rfl) ?_
    refine va_get (D := (dC, dI)) (ci := 1) (v := .int (iI u1.2.2.1)) (C := RX1) (T := TX1) (N := 7) hx hb hw inX1 hown hK hP 0 rfl rfl 4 (by decide) (hw _ mA_57) (fun _ h9 => h9) rfl dX1_factors_5 ?_
    have hP9 := hP.sub (ws' := (cwu h n r d f cI cF N (u1.1, u1.2.1, f_cont N, u1.2.2.1, 1, (u1.2.2.2.1.1, u1.2.2.2.1.2.1, u1.2.2.2.1.2.2.1, u1.2.2.2.1.2.2.2), u1.2.2.2.2))) [0, 1, 2, 3, 4, 5, 6, 7, 8] rfl
    have hD9 := hD.sub (ws' := (cwu h n r d f cI cF N (u1.1, u1.2.1, f_cont N, u1.2.2.1, 1, (u1.2.2.2.1.1, u1.2.2.2.1.2.1, u1.2.2.2.1.2.2.1, u1.2.2.2.1.2.2.2), u1.2.2.2.2))) [0, 1, 2, 3, 4, 5, 6, 7, 8] (by decide) rfl
    have hK9 := hK.sub (tys' := [(cI, .int), (cF, .object RX0)]) [0, 1] rfl
    refine vx_ret (W.widen (k := 1) (n := 6) (Nat.le_of_ble_eq_true rfl) (Nat.le_of_ble_eq_true rfl) ?_)
    exact W.iret (v := iI u1.2.2.1) hx hb hr (fun t ht hW => ⟨⟨iI u1.2.2.1, (u1.1, u1.2.1, f_cont N, u1.2.2.1, 1, (u1.2.2.2.1.1, u1.2.2.2.1.2.1, u1.2.2.2.1.2.2.1, u1.2.2.2.1.2.2.2), u1.2.2.2.2), rfl, ⟨⟨hci, hdeg, rfl, rfl⟩, rfl⟩, by rw [ht]; exact hP9, va_K.moved hW.alike hK9, hD9⟩, hS.F ht⟩) hS.2.2 dX1_factors_8
set_option maxHeartbeats 4000000 in
set_option maxRecDepth 100000 in
theorem kX1_content (l : Launch) (hlt : l.stackTraces = false) (dC : Nat → ClassId) (dI : Nat → Nat → Nat) (sz : Nat) (h n r d f y0 y1 y2 y3 : Nat) (cI cF : ClassId) (N R D : Int → Int) (cn fc sp : Int) (Fs : Int → Int → Int) (hci : CI N R D cn fc sp Fs)  : vx_Met l yX1_content (.code yX1_content cX1_content 1 (some .int) :: wsA) ({ frames := 7, cells := 1, slots := 6, locals := 280 }) (va_Pc [.ref h] (fun U => U.heap.size = sz ∧ va_P (dC, dI) vwCl (cw h n r d f cI cF N R D cn fc sp y0 y1 y2 y3 Fs) U.heap ∧ va_K (dC, dI) vwCl [(cI, .int), (cF, .object RX0)] U ∧ va_D (fun _ => True) (cw h n r d f cI cF N R D cn fc sp y0 y1 y2 y3 Fs) ∧ nb U ∧ zt (va_A (cw h n r d f cI cF N R D cn fc sp y0 y1 y2 y3 Fs) sz) U)) (va_Qi (fun r9 u => CIs N u ∧ r9 = iI (f_cont N)) (fun (u : CS) t9 => va_P (dC, dI) vwCl (cwu h n r d f cI cF N u) t9.heap ∧ va_K (dC, dI) vwCl [(cI, .int), (cF, .object RX0)] t9 ∧ va_D (va_A (cw h n r d f cI cF N R D cn fc sp y0 y1 y2 y3 Fs) sz) (cwu h n r d f cI cF N u)) (va_A (cw h n r d f cI cF N R D cn fc sp y0 y1 y2 y3 Fs) sz)) (vx_X (fun u : CS => CIu N u) (fun E u t9 => (E = EISE ∧ f_deg N < 0) ∧ va_P (dC, dI) vwCl (cwu h n r d f cI cF N u) t9.heap ∧ va_K (dC, dI) vwCl [(cI, .int), (cF, .object RX0)] t9 ∧ va_D (va_A (cw h n r d f cI cF N R D cn fc sp y0 y1 y2 y3 Fs) sz) (cwu h n r d f cI cF N u)) (va_A (cw h n r d f cI cF N R D cn fc sp y0 y1 y2 y3 Fs) sz)) 1 6 (va_A (cw h n r d f cI cF N R D cn fc sp y0 y1 y2 y3 Fs) sz) := by
  refine vx_ofW (cc := cX1_content) (maxL := 1) (ret := (some .int)) (by decide) rfl ?_
  intro p e s m args below meth c s₁ B hml hout hv
  obtain ⟨rfl, hsz, hP, hK, hD0, hnb, hzt⟩ := hv
  have hx := B.exec
  have hb := B.bytes
  have hr := B.returns
  have hts := atoms_spec (ws := .code yX1_content cX1_content 1 (some .int) :: wsA) B.pre
  have hw : ∀ w ∈ wsA, w.before _ s = true := fun w h => hts w (List.mem_cons_of_mem _ h)
  have hown : s.vm.findClass RX1 = some m.cls := findClass_of_methodNamed B.named
  have hlocks := B.notSynchronized
  subst hsz
  have hD := hD0.self (sz := s.heap.size)
  generalize hAe : va_A (cw h n r d f cI cF N R D cn fc sp y0 y1 y2 y3 Fs) s.heap.size = A at hD hzt ⊢
  have hA : ∀ q : Nat, s.heap.size ≤ q → A q := fun q h => by rw [← hAe]; exact Or.inr h
  have hS : va_S A s.heap s.heap [] := va_S.rf
  have hP : va_P (dC, dI) vwCl (cw h n r d f cI cF N R D cn fc sp y0 y1 y2 y3 Fs) s.heap := hP
  have hl := lv_entry ([.ref h]) (n := 1) (Nat.le_of_ble_eq_true rfl)
  rw [lg_entry_eq]
  generalize (lg_sl ([.ref h]) ++ List.replicate (1 - (lg_sl ([.ref h])).length) Slot.unset).toArray = ls at hl ⊢
  have hl : lv_has ls 1 [(0, .ref h)] := hl
  refine lv_aload_n hx hb dX1_content_0 rfl (lv_at hl 0 rfl) ?_
  have hFc := va_free (wc := (cw h n r d f cI cF N R D cn fc sp y0 y1 y2 y3 Fs)) hD hS hA [0, 1, 2, 3, 4, 5, 6, 7, 8] rfl
  refine vx_callv (vx_runV (As := []) (rest := []) ⟨hx, hb, hml, hown, hw⟩ (kX1_split l hlt dC dI _ h n r d f y0 y1 y2 y3 cI cF N R D cn fc sp Fs hci) (cwV 0 hw (gV mA_215 mA_217 mP_3 mA_1 mA_218) rfl rfl rfl (by decide +kernel) ⟨Nat.le_of_ble_eq_true rfl, Nat.le_of_ble_eq_true rfl⟩) ⟨fun a U g mk q => by obtain ⟨q0, q1, qP, qK, qD, qN, qZ⟩ := q; exact ⟨q0, q1, qP, va_K.moved (u := U) (U := U.calling g mk a) (Vm.Alike.refl U.vm) qK, qD, nb.same (u := U) rfl qN, zt.go (u := U) qZ (Vm.Alike.refl U.vm) (fun _ q => q) (fun _ _ _ => rfl)⟩, va_recv hK hP (ci := 1) (q0 := 0) rfl rfl, fun U hU hW => ⟨rfl, by rw [hU], by rw [hU]; exact hP, va_K.moved hW.alike hK, hD.weaken (fun _ _ _ _ => trivial), nb.warm hW hnb, zt2 hzt hS hU hW.alike hFc⟩⟩ rfl rfl hl.1 rfl (lv_room (Nat.le_of_ble_eq_true rfl)) dX1_content_1 ⟨Nat.le_of_ble_eq_true rfl, Nat.le_of_ble_eq_true rfl⟩) hS (fun q _ h => hFc q h) hFc (fun q _ z => z.elim) (fun E9 ce q9 u9 t9 H1 locs ht hvm hpx hBX hz1 hk1 hS hce hcv hcl => ?_) (fun u1 t9 H1 locs ht hvm hq2 hB hz1 hk1 hS => ?_)
  · exact vx_out (fun x h => (hout x h).elim) hlocks hce hcv hcl (fun t2 ht2 hvm2 => ⟨(R, D, cn, fc, sp, (y0, y1, y2, y3), Fs), hci, ⟨⟨hBX, hpx⟩, by rw [ht2]; exact pkeep hP (fun q z => hk1 q z (fun f => f)), va_K.moved hvm2 hK, hD⟩, hS.F ht2⟩) hS.2.2 (Nat.le_of_ble_eq_true rfl) (Nat.le_of_ble_eq_true rfl)
  · obtain ⟨hP1, hK1, hD1⟩ := hB
    rw [ht] at hP1
    obtain ⟨hP, hD⟩ := va_join (wr := []) (w1 := (cw h n r d f cI cF N u1.1 u1.2.1 (f_cont N) u1.2.2.1 1 u1.2.2.2.1.1 u1.2.2.2.1.2.1 u1.2.2.2.1.2.2.1 u1.2.2.2.1.2.2.2 u1.2.2.2.2)) hP hD [0, 1, 2, 3, 4, 5, 6, 7, 8] [] rfl rfl (by decide) (by decide) hk1 hFc hP1 hD1
    generalize H1 = H at hP hS ⊢
    have hP : va_P (dC, dI) vwCl (cw h n r d f cI cF N u1.1 u1.2.1 (f_cont N) u1.2.2.1 1 u1.2.2.2.1.1 u1.2.2.2.1.2.1 u1.2.2.2.1.2.2.1 u1.2.2.2.1.2.2.2 u1.2.2.2.2) H := hP
    have hD : va_D A (cw h n r d f cI cF N u1.1 u1.2.1 (f_cont N) u1.2.2.1 1 u1.2.2.2.1.1 u1.2.2.2.1.2.1 u1.2.2.2.1.2.2.1 u1.2.2.2.1.2.2.2 u1.2.2.2.2) := hD
    have hci := hq2.1
    have hdeg := hq2.2
    have hdc := deg_c N
    refine lv_aload_n hx hb dX1_content_4 rfl (lv_at hl 0 rfl) ?_
    refine va_get (D := (dC, dI)) (ci := 1) (v := .int (iI (f_cont N))) (C := RX1) (T := TX1) (N := 7) hx hb hw inX1 hown hK hP 0 rfl rfl 5 (by decide) (hw _ mA_58) (fun _ h9 => h9) rfl dX1_content_5 ?_
    have hP9 := hP.sub (ws' := (cwu h n r d f cI cF N (u1.1, u1.2.1, f_cont N, u1.2.2.1, 1, (u1.2.2.2.1.1, u1.2.2.2.1.2.1, u1.2.2.2.1.2.2.1, u1.2.2.2.1.2.2.2), u1.2.2.2.2))) [0, 1, 2, 3, 4, 5, 6, 7, 8] rfl
    have hD9 := hD.sub (ws' := (cwu h n r d f cI cF N (u1.1, u1.2.1, f_cont N, u1.2.2.1, 1, (u1.2.2.2.1.1, u1.2.2.2.1.2.1, u1.2.2.2.1.2.2.1, u1.2.2.2.1.2.2.2), u1.2.2.2.2))) [0, 1, 2, 3, 4, 5, 6, 7, 8] (by decide) rfl
    have hK9 := hK.sub (tys' := [(cI, .int), (cF, .object RX0)]) [0, 1] rfl
    refine vx_ret (W.widen (k := 1) (n := 6) (Nat.le_of_ble_eq_true rfl) (Nat.le_of_ble_eq_true rfl) ?_)
    exact W.iret (v := iI (f_cont N)) hx hb hr (fun t ht hW => ⟨⟨iI (f_cont N), (u1.1, u1.2.1, f_cont N, u1.2.2.1, 1, (u1.2.2.2.1.1, u1.2.2.2.1.2.1, u1.2.2.2.1.2.2.1, u1.2.2.2.1.2.2.2), u1.2.2.2.2), rfl, ⟨⟨hci, hdeg, rfl, rfl⟩, rfl⟩, by rw [ht]; exact hP9, va_K.moved hW.alike hK9, hD9⟩, hS.F ht⟩) hS.2.2 dX1_content_8
set_option maxHeartbeats 4000000 in
set_option maxRecDepth 100000 in
theorem kX1_left (l : Launch) (hlt : l.stackTraces = false) (dC : Nat → ClassId) (dI : Nat → Nat → Nat) (sz : Nat) (h n r d f y0 y1 y2 y3 : Nat) (cI cF : ClassId) (N R D : Int → Int) (cn fc sp : Int) (Fs : Int → Int → Int) (hci : CI N R D cn fc sp Fs) (v : Int) (hv : r32 v) : vx_Met l yX1_left (.code yX1_left cX1_left 2 (some .int) :: wsA) ({ frames := 7, cells := 2, slots := 12, locals := 280 }) (va_Pc [.ref h, .int (iI v)] (fun U => U.heap.size = sz ∧ va_P (dC, dI) vwCl (cw h n r d f cI cF N R D cn fc sp y0 y1 y2 y3 Fs) U.heap ∧ va_K (dC, dI) vwCl [(cI, .int), (cF, .object RX0)] U ∧ va_D (fun _ => True) (cw h n r d f cI cF N R D cn fc sp y0 y1 y2 y3 Fs) ∧ nb U ∧ zt (va_A (cw h n r d f cI cF N R D cn fc sp y0 y1 y2 y3 Fs) sz) U)) (va_Qi (fun r9 u => CIs N u ∧ (0 ≤ v ∧ v ≤ 4) ∧ r9 = iI (u.1 v)) (fun (u : CS) t9 => va_P (dC, dI) vwCl (cwu h n r d f cI cF N u) t9.heap ∧ va_K (dC, dI) vwCl [(cI, .int), (cF, .object RX0)] t9 ∧ va_D (va_A (cw h n r d f cI cF N R D cn fc sp y0 y1 y2 y3 Fs) sz) (cwu h n r d f cI cF N u)) (va_A (cw h n r d f cI cF N R D cn fc sp y0 y1 y2 y3 Fs) sz)) (vx_X (fun u : CS => CIu N u) (fun E u t9 => ((E = EISE ∧ f_deg N < 0) ∨ (E = EIOB ∧ 0 ≤ f_deg N ∧ ¬ (0 ≤ v ∧ v ≤ 4))) ∧ va_P (dC, dI) vwCl (cwu h n r d f cI cF N u) t9.heap ∧ va_K (dC, dI) vwCl [(cI, .int), (cF, .object RX0)] t9 ∧ va_D (va_A (cw h n r d f cI cF N R D cn fc sp y0 y1 y2 y3 Fs) sz) (cwu h n r d f cI cF N u)) (va_A (cw h n r d f cI cF N R D cn fc sp y0 y1 y2 y3 Fs) sz)) 2 12 (va_A (cw h n r d f cI cF N R D cn fc sp y0 y1 y2 y3 Fs) sz) := by
  refine vx_ofW (cc := cX1_left) (maxL := 2) (ret := (some .int)) (by decide) rfl ?_
  intro p e s m args below meth c s₁ B hml hout hv
  obtain ⟨rfl, hsz, hP, hK, hD0, hnb, hzt⟩ := hv
  have hx := B.exec
  have hb := B.bytes
  have hr := B.returns
  have hts := atoms_spec (ws := .code yX1_left cX1_left 2 (some .int) :: wsA) B.pre
  have hw : ∀ w ∈ wsA, w.before _ s = true := fun w h => hts w (List.mem_cons_of_mem _ h)
  have hown : s.vm.findClass RX1 = some m.cls := findClass_of_methodNamed B.named
  have hlocks := B.notSynchronized
  subst hsz
  have hD := hD0.self (sz := s.heap.size)
  generalize hAe : va_A (cw h n r d f cI cF N R D cn fc sp y0 y1 y2 y3 Fs) s.heap.size = A at hD hzt ⊢
  have hA : ∀ q : Nat, s.heap.size ≤ q → A q := fun q h => by rw [← hAe]; exact Or.inr h
  have hS : va_S A s.heap s.heap [] := va_S.rf
  have hP : va_P (dC, dI) vwCl (cw h n r d f cI cF N R D cn fc sp y0 y1 y2 y3 Fs) s.heap := hP
  have hl := lv_entry ([.ref h, .int (iI v)]) (n := 2) (Nat.le_of_ble_eq_true rfl)
  rw [lg_entry_eq]
  generalize (lg_sl ([.ref h, .int (iI v)]) ++ List.replicate (2 - (lg_sl ([.ref h, .int (iI v)])).length) Slot.unset).toArray = ls at hl ⊢
  have hl : lv_has ls 2 [(0, .ref h), (1, .int (iI v))] := hl
  refine lv_aload_n hx hb dX1_left_0 rfl (lv_at hl 0 rfl) ?_
  have hFc := va_free (wc := (cw h n r d f cI cF N R D cn fc sp y0 y1 y2 y3 Fs)) hD hS hA [0, 1, 2, 3, 4, 5, 6, 7, 8] rfl
  refine vx_callv (vx_runV (As := []) (rest := []) ⟨hx, hb, hml, hown, hw⟩ (kX1_split l hlt dC dI _ h n r d f y0 y1 y2 y3 cI cF N R D cn fc sp Fs hci) (cwV 0 hw (gV mA_215 mA_217 mP_3 mA_1 mA_218) rfl rfl rfl (by decide +kernel) ⟨Nat.le_of_ble_eq_true rfl, Nat.le_of_ble_eq_true rfl⟩) ⟨fun a U g mk q => by obtain ⟨q0, q1, qP, qK, qD, qN, qZ⟩ := q; exact ⟨q0, q1, qP, va_K.moved (u := U) (U := U.calling g mk a) (Vm.Alike.refl U.vm) qK, qD, nb.same (u := U) rfl qN, zt.go (u := U) qZ (Vm.Alike.refl U.vm) (fun _ q => q) (fun _ _ _ => rfl)⟩, va_recv hK hP (ci := 1) (q0 := 0) rfl rfl, fun U hU hW => ⟨rfl, by rw [hU], by rw [hU]; exact hP, va_K.moved hW.alike hK, hD.weaken (fun _ _ _ _ => trivial), nb.warm hW hnb, zt2 hzt hS hU hW.alike hFc⟩⟩ rfl rfl hl.1 rfl (lv_room (Nat.le_of_ble_eq_true rfl)) dX1_left_1 ⟨Nat.le_of_ble_eq_true rfl, Nat.le_of_ble_eq_true rfl⟩) hS (fun q _ h => hFc q h) hFc (fun q _ z => z.elim) (fun E9 ce q9 u9 t9 H1 locs ht hvm hpx hBX hz1 hk1 hS hce hcv hcl => ?_) (fun u1 t9 H1 locs ht hvm hq2 hB hz1 hk1 hS => ?_)
  · exact vx_out (fun x h => (hout x h).elim) hlocks hce hcv hcl (fun t2 ht2 hvm2 => ⟨(R, D, cn, fc, sp, (y0, y1, y2, y3), Fs), hci, ⟨Or.inl ⟨hBX, hpx⟩, by rw [ht2]; exact pkeep hP (fun q z => hk1 q z (fun f => f)), va_K.moved hvm2 hK, hD⟩, hS.F ht2⟩) hS.2.2 (Nat.le_of_ble_eq_true rfl) (Nat.le_of_ble_eq_true rfl)
  · obtain ⟨hP1, hK1, hD1⟩ := hB
    rw [ht] at hP1
    obtain ⟨hP, hD⟩ := va_join (wr := []) (w1 := (cw h n r d f cI cF N u1.1 u1.2.1 (f_cont N) u1.2.2.1 1 u1.2.2.2.1.1 u1.2.2.2.1.2.1 u1.2.2.2.1.2.2.1 u1.2.2.2.1.2.2.2 u1.2.2.2.2)) hP hD [0, 1, 2, 3, 4, 5, 6, 7, 8] [] rfl rfl (by decide) (by decide) hk1 hFc hP1 hD1
    generalize H1 = H at hP hS ⊢
    have hP : va_P (dC, dI) vwCl (cw h n r d f cI cF N u1.1 u1.2.1 (f_cont N) u1.2.2.1 1 u1.2.2.2.1.1 u1.2.2.2.1.2.1 u1.2.2.2.1.2.2.1 u1.2.2.2.1.2.2.2 u1.2.2.2.2) H := hP
    have hD : va_D A (cw h n r d f cI cF N u1.1 u1.2.1 (f_cont N) u1.2.2.1 1 u1.2.2.2.1.1 u1.2.2.2.1.2.1 u1.2.2.2.1.2.2.1 u1.2.2.2.1.2.2.2 u1.2.2.2.2) := hD
    have hci := hq2.1
    have hdeg := hq2.2
    have hdc := deg_c N
    refine lv_iload_n hx hb dX1_left_4 rfl (lv_at hl 1 rfl) ?_
    refine vx_callv (vx_runS (As := [.int (iI v)]) (rest := []) ⟨hx, hb, hml, hown, hw⟩ (kX1_checkPower l hlt A v (by omega)) (cwS 1 hw (gS mA_88 mA_89 mA_1 mA_90) rfl rfl rfl (by decide +kernel) ⟨Nat.le_of_ble_eq_true rfl, Nat.le_of_ble_eq_true rfl⟩) ⟨fun a U g mk q => ⟨q.1, nb.same (u := U) rfl q.2.1, zt.go (u := U) q.2.2 (Vm.Alike.refl U.vm) (fun _ z => z) (fun _ _ _ => rfl)⟩, fun U hU hW => ⟨rfl, nb.warm hW hnb, zt1 hzt hS hU hW.alike⟩⟩ rfl rfl hl.1 rfl (lv_room (Nat.le_of_ble_eq_true rfl)) dX1_left_5 ⟨Nat.le_of_ble_eq_true rfl, Nat.le_of_ble_eq_true rfl⟩) hS (fun q _ z => z.elim) (fun q z => z.elim) (fun q _ z => z.elim) (fun E9 ce q9 u9 t9 H1 locs ht hvm hpx hBX hz1 hk1 hS hce hcv hcl => ?_) (fun u9 t9 H1 locs ht hvm hq3 hB hz1 hk1 hS => ?_)
    · exact vx_out (fun x h => (hout x h).elim) hlocks hce hcv hcl (fun t2 ht2 hvm2 => ⟨(u1.1, u1.2.1, f_cont N, u1.2.2.1, 1, (u1.2.2.2.1.1, u1.2.2.2.1.2.1, u1.2.2.2.1.2.2.1, u1.2.2.2.1.2.2.2), u1.2.2.2.2), hci, ⟨Or.inr ⟨hBX, hdeg, hpx⟩, by rw [ht2]; exact pkeep hP (fun q z => hk1 q z (fun f => f)), va_K.moved hvm2 hK, hD⟩, hS.F ht2⟩) hS.2.2 (Nat.le_of_ble_eq_true rfl) (Nat.le_of_ble_eq_true rfl)
    · have hP := pkeep hP (fun q z => hk1 q z (fun f => f))
      generalize H1 = H at hP hS ⊢
      refine lv_aload_n hx hb dX1_left_8 rfl (lv_at hl 0 rfl) ?_
      refine va_get (D := (dC, dI)) (ci := 1) (v := .ref r) (C := RX1) (T := TX1) (N := 7) hx hb hw inX1 hown hK hP 0 rfl rfl 1 (by decide) (hw _ mA_54) (fun _ h9 => h9) rfl dX1_left_9 ?_
      refine lv_iload_n hx hb dX1_left_12 rfl (lv_at hl 1 rfl) ?_
      refine ix_iald (k := v) hx hb hK hP 2 0 rfl rfl (by omega) (by omega) (by decide) dX1_left_13 ?_
      have hP9 := hP.sub (ws' := (cwu h n r d f cI cF N (u1.1, u1.2.1, f_cont N, u1.2.2.1, 1, (u1.2.2.2.1.1, u1.2.2.2.1.2.1, u1.2.2.2.1.2.2.1, u1.2.2.2.1.2.2.2), u1.2.2.2.2))) [0, 1, 2, 3, 4, 5, 6, 7, 8] rfl
      have hD9 := hD.sub (ws' := (cwu h n r d f cI cF N (u1.1, u1.2.1, f_cont N, u1.2.2.1, 1, (u1.2.2.2.1.1, u1.2.2.2.1.2.1, u1.2.2.2.1.2.2.1, u1.2.2.2.1.2.2.2), u1.2.2.2.2))) [0, 1, 2, 3, 4, 5, 6, 7, 8] (by decide) rfl
      have hK9 := hK.sub (tys' := [(cI, .int), (cF, .object RX0)]) [0, 1] rfl
      refine vx_ret (W.widen (k := 2) (n := 12) (Nat.le_of_ble_eq_true rfl) (Nat.le_of_ble_eq_true rfl) ?_)
      exact W.iret (v := iI (u1.1 v)) hx hb hr (fun t ht hW => ⟨⟨iI (u1.1 v), (u1.1, u1.2.1, f_cont N, u1.2.2.1, 1, (u1.2.2.2.1.1, u1.2.2.2.1.2.1, u1.2.2.2.1.2.2.1, u1.2.2.2.1.2.2.2), u1.2.2.2.2), rfl, ⟨⟨hci, hdeg, rfl, rfl⟩, by omega, rfl⟩, by rw [ht]; exact hP9, va_K.moved hW.alike hK9, hD9⟩, hS.F ht⟩) hS.2.2 dX1_left_14
