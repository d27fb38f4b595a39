/-! THE CLAIM OUT OF ONE WALK OF THE LAW'S BODY. Your part is whole_start (and what it stands on); all else here is the same for every law, but numbers. -/
def R_law : String := "RadicalAnswersLaw"
def lw_P (b : Addr) (xs : List Int32) (args : Array Value) (s : State) : Prop := args = #[.ref b] ∧ s.IntsAt b xs ∧ xs.length ≤ 2560 ∧ (Jvm.Cond.and given_1 narrow_1).before args s = true
def lw_Q (_ : Array Value) (s : State) (o : Outcome) (t : State) : Prop := o = .returned (some (.int 1)) ∧ Framed s o t [] 672099 7079807
def lw_Z (below : List Frame) (a : Array Value) (s : State) : State → Prop := fun t => ∃ o, t.status = .running ∧ Ended t below o ∧ lw_Q a s o t
/-- the law's own end, with 1 on the stack, nothing written that was there before, its room as the claim has it -/
theorem lw_ret {p : Program} {l : Launch} {e : Env} {s : State} {m : MethodId} {below : List Frame} {meth : Method} {c : Code} {b : Nat} (hx : p.tables.exec = Jvm.exec) (hb : c.code = code) (hr : meth.sig.returnType = ret) (hlocks : meth.locks = false) {pc : Nat} {H : Heap} {ls : Array Slot} (hdg : decode code pc = .ok (.ireturn, 1)) : W p l e room_1 s m #[Value.ref b] below meth c H [] 672099 7079807 (lw_Z below #[Value.ref b] s) (F0 m pc ls [.int 1]) := by
  intro T hT X
  obtain ⟨fs, hret, hrun, hended, hW, hframe⟩ := X.leave (v := some (.int 1)) (hlocks := hlocks) (fun h => by rw [hr] at h; cases h)
  have hmeth' : T.vm.method? m = some meth := X.method'
  refine ⟨T.setFrames fs, ?_, .returned (some (.int 1)), hrun, hended, rfl, ⟨_, rfl⟩, hW, hframe⟩
  jvm_step X.here [X.here.top, hx, hb, hdg, hmeth', hr, ret, narrow_b1]
  (try refine ⟨rfl, ?_⟩); (try refine ⟨rfl, ?_⟩)
  first | (intro acts; rw [hret _ acts rfl rfl rfl]) | rw [hret _ _ rfl rfl rfl]
  exact Steps.refl _
/-- what holds at the law's entry: the machine, the code, the tables' words (any of lw_tbl by 'hts w (by decide +kernel)'), the script of L ints xs at the cell b, what the Statement gives of the start (any of its parts by flat_of_before) -/
def lw_At (p : Program) (s : State) (m : MethodId) (meth : Method) (c : Code) (b L : Nat) (xs : Nat → Int32) : Prop :=
  p.tables.exec = Jvm.exec ∧ c.code = code ∧ meth.sig.returnType = ret ∧ c.maxLocals = 7 ∧ s.vm.findClass R_law = some m.cls ∧ (∀ w ∈ lw_tbl, w.before #[Value.ref b] s = true) ∧ va_X b L xs s s.heap ∧ b < s.heap.size ∧ meth.locks = false ∧ (Jvm.Cond.and given_1 narrow_1).before #[Value.ref b] s = true

set_option maxHeartbeats 4000000 in
set_option maxRecDepth 100000 in
theorem lc_put {p : Program} {l : Launch} {e : Env} {s : State} {m : MethodId} {below : List Frame} {meth : Method} {c : Code} {dC : Nat → ClassId} {dI : Nat → Nat → Nat} {b L : Nat} {xs : Nat → Int32} {A : Nat → Prop} {h n r d f o x n2 r2 d2 ya yb yc yo : Nat} {cI cF cO cI2 cJ : ClassId} (hlt : l.stackTraces = false) (hL : L ≤ 2560) (hX : va_X b L xs s s.heap) (hbl : b < s.heap.size) (hbA : ¬ A b) (hA : ∀ q : Nat, s.heap.size ≤ q → A q) (hnb : nb s) (hnc : nc s) (hzt : zt A s) (C0 : cx p s m meth c #[Value.ref b] RL cL_law 7 ret) (hK : va_K (dC, dI) vwCl [(cI, .int), (cF, .object RX0), (cO, .long), (cI2, .int), (cJ, .long)] s) {i : Int} (hi : 0 ≤ i ∧ i + 5 ≤ L) {N O : Int → Int} {u : CS} {v : MT} (hci : CIu N u) (hmi : MI v) (hO : r32 (O 0)) {cells slots : Nat} (hcs : cells + 5 ≤ 672099 ∧ slots + 30 ≤ 7079807)
    (kk : ∀ (N O : Int → Int) (u : CS) (v : MT) (H : Heap) (locs : List Loc), CIu N u → MI v → r32 (O 0) → va_P (dC, dI) vwCl (lwd h n r d f cI cF N u o cO O x n2 r2 d2 ya yb yc yo cI2 cJ N v) H → va_D A (lwd h n r d f cI cF N u o cO O x n2 r2 d2 ya yb yc yo cI2 cJ N v) → va_S A s.heap H locs → ∀ (ls : Array Slot), lv_has ls 7 [(0, .ref b), (1, .ref h), (2, .ref x), (3, .ref o), (4, .int (iI i))] → W p l e room_1 s m #[Value.ref b] below meth c H locs (cells + 5) (slots + 30) (lw_Z below #[Value.ref b] s) (F0 m 849 ls []))
    {H : Heap} {locs : List Loc} (hP : va_P (dC, dI) vwCl (lwd h n r d f cI cF N u o cO O x n2 r2 d2 ya yb yc yo cI2 cJ N v) H) (hD : va_D A (lwd h n r d f cI cF N u o cO O x n2 r2 d2 ya yb yc yo cI2 cJ N v)) (hS : va_S A s.heap H locs) {ls : Array Slot} (hl : lv_has ls 7 [(0, .ref b), (1, .ref h), (2, .ref x), (3, .ref o), (4, .int (iI i))]) : W p l e room_1 s m #[Value.ref b] below meth c H locs cells slots (lw_Z below #[Value.ref b] s) (F0 m 100 ls []) := by
  obtain ⟨hx, hb, hr, hml, hown, hw, hlocks⟩ := C0
  have h5 := hci.1
  have hN := hci.2.1
  refine lv_aload_n hx hb dL_law_100 rfl (lv_at hl 1 rfl) ?_
  refine lv_aload_n hx hb dL_law_101 rfl (lv_at hl 0 rfl) ?_
  refine lv_iload hx hb dL_law_102 (lv_at hl 4 rfl) ?_
  refine ix_iconst (n := 1) hx hb dL_law_104 ?_
  refine ix_iadd hx hb dL_law_105 ?_
  refine ix_sld (k := i + 1) hx hb hX hbl hbA hS (by omega) (by omega) hL dL_law_106 ?_
  refine lv_aload_n hx hb dL_law_107 rfl (lv_at hl 0 rfl) ?_
  refine lv_iload hx hb dL_law_108 (lv_at hl 4 rfl) ?_
  refine ix_iconst (n := 2) hx hb dL_law_110 ?_
  refine ix_iadd hx hb dL_law_111 ?_
  refine ix_sld (k := i + 2) hx hb hX hbl hbA hS (by omega) (by omega) hL dL_law_112 ?_
  refine lv_aload_n hx hb dL_law_113 rfl (lv_at hl 3 rfl) ?_
  have hPc := hP.sub (ws' := (cwou h n r d f cI cF N u o cO O)) [0, 1, 2, 3, 4, 5, 6, 7, 8, 9] rfl
  have hDc := hD.sub (ws' := (cwou h n r d f cI cF N u o cO O)) [0, 1, 2, 3, 4, 5, 6, 7, 8, 9] (by decide) rfl
  have hKc := hK.sub (tys' := [(cI, .int), (cF, .object RX0), (cO, .long)]) [0, 1, 2] rfl
  have hFc := va_free (wc := (cwou h n r d f cI cF N u o cO O)) hD hS hA [0, 1, 2, 3, 4, 5, 6, 7, 8, 9] rfl
  refine va_calli (vx_runSW (As := [.ref h, .int (iI (sc xs (i + 1))), .int (iI (sc xs (i + 2))), .ref o]) (rest := []) ⟨hx, hb, hml, hown, hw⟩ (kL_put l hlt dC dI _ h n r d f u.2.2.2.2.2.1.1 u.2.2.2.2.2.1.2.1 u.2.2.2.2.2.1.2.2.1 u.2.2.2.2.2.1.2.2.2 o cI cF cO N u.1 u.2.1 u.2.2.1 u.2.2.2.1 u.2.2.2.2.1 u.2.2.2.2.2.2 O hO hci (sc xs (i + 1)) (sc xs (i + 2)) (sc_r _ _) (sc_r _ _)) (vx_cwSW 4 hw (gSW mA_79 mA_80 mA_0 mW_put) rfl rfl rfl (by decide +kernel) ⟨Nat.le_of_ble_eq_true rfl, Nat.le_of_ble_eq_true rfl⟩) ⟨fun a U g mk q => by obtain ⟨q0, q1, qP, qK, qD, qN, qC, qZ⟩ := q; exact ⟨q0, q1, qP, va_K.moved (u := U) (U := U.calling g mk a) (Vm.Alike.refl U.vm) qK, qD, nb.same (u := U) rfl qN, nc.moved (u := U) (U := U.calling g mk a) (Vm.Alike.refl U.vm) qC, zt.go (u := U) qZ (Vm.Alike.refl U.vm) (fun _ q => q) (fun _ _ _ => rfl)⟩, fun U hU hW => ⟨rfl, by rw [hU], by rw [hU]; exact hPc, va_K.moved hW.alike hKc, hDc.weaken (fun _ _ _ _ => trivial), nb.warm hW hnb, nc.moved hW.alike hnc, zt2 hzt hS hU hW.alike hFc⟩⟩ rfl rfl hl.1 rfl (lv_room (Nat.le_of_ble_eq_true rfl)) dL_law_114 ⟨by show _ ≤ 672099; omega, by show _ ≤ 7079807; omega⟩) hS (fun q _ h => hFc q h) hFc (fun r1 u2 t9 H1 locs ht hvm hq3 hB hz1 hk1 hS => ?_)
  obtain ⟨hP1, hK1, hD1⟩ := hB
  rw [ht] at hP1
  obtain ⟨e1, hO1, hH⟩ := hq3
  subst e1
  obtain ⟨hP, hD⟩ := va_join (wr := [(x, .inr (2, [.int (iI v.1), .ref n2, .ref r2, .ref d2, .int (iI v.2.1), .int (iI v.2.2.2.2.2.1), .ref ya, .ref yb, .ref yc, .ref yo, .long (lI (v.2.2.1 0)), .long (lI (v.2.2.1 1)), .long (lI (v.2.2.1 2)), .long (lI (v.2.2.1 3)), .long (lI (v.2.2.1 4)), .long (lI (v.2.2.1 5)), .long (lI (v.2.2.1 6))])), (n2, .inl (cI2, 5, .inl (aI N))), (r2, .inl (cJ, 5, .inr (.inl (aL v.2.2.2.1)))), (d2, .inl (cJ, 5, .inr (.inl (aL v.2.2.2.2.1)))), (ya, .inl (cI2, 5, .inl (aI v.2.2.2.2.2.2.1))), (yb, .inl (cI2, 5, .inl (aI v.2.2.2.2.2.2.2.1))), (yc, .inl (cI2, 5, .inl (aI v.2.2.2.2.2.2.2.2.1))), (yo, .inl (cI2, 5, .inl (aI v.2.2.2.2.2.2.2.2.2)))]) (w1 := (cwou h n r d f cI cF u2.2.2.1 u2.2.2.2 o cO u2.2.1)) hP hD [0, 1, 2, 3, 4, 5, 6, 7, 8, 9] [10, 11, 12, 13, 14, 15, 16, 17] rfl rfl (by decide) (by decide) hk1 hFc hP1 hD1
  generalize H1 = H at hP hS ⊢
  have hP := hP.sub (ws' := (lwd h n r d f cI cF u2.2.2.1 u2.2.2.2 o cO u2.2.1 x n2 r2 d2 ya yb yc yo cI2 cJ N v)) [8, 9, 10, 11, 12, 13, 14, 15, 16, 17, 0, 1, 2, 3, 4, 5, 6, 7] rfl
  have hD := hD.sub (ws' := (lwd h n r d f cI cF u2.2.2.1 u2.2.2.2 o cO u2.2.1 x n2 r2 d2 ya yb yc yo cI2 cJ N v)) [8, 9, 10, 11, 12, 13, 14, 15, 16, 17, 0, 1, 2, 3, 4, 5, 6, 7] (by decide) rfl
  have hkc := R_put hH
  refine lv_istore (lv' := [(5, .int (iI u2.1)), (0, .ref b), (1, .ref h), (2, .ref x), (3, .ref o), (4, .int (iI i))]) hx hb dL_law_117 hl (by decide) rfl (fun ls hl => ?_)
  refine lv_aload_n hx hb dL_law_119 rfl (lv_at hl 3 rfl) ?_
  refine lv_aload_n hx hb dL_law_120 rfl (lv_at hl 1 rfl) ?_
  refine lv_iload hx hb dL_law_121 (lv_at hl 5 rfl) ?_
  refine ix_iconst (n := 1) hx hb dL_law_123 ?_
  refine ix_iadd hx hb dL_law_124 ?_
  refine ix_sld (k := i + 1) hx hb hX hbl hbA hS (by omega) (by omega) hL dL_law_125 ?_
  refine lv_aload_n hx hb dL_law_126 rfl (lv_at hl 1 rfl) ?_
  refine lv_iload hx hb dL_law_127 (lv_at hl 5 rfl) ?_
  refine ix_iconst (n := 2) hx hb dL_law_129 ?_
  refine ix_iadd hx hb dL_law_130 ?_
  refine ix_sld (k := i + 2) hx hb hX hbl hbA hS (by omega) (by omega) hL dL_law_131 ?_
  have hPc := hP.sub (ws' := [(x, .inr (2, [.int (iI v.1), .ref n2, .ref r2, .ref d2, .int (iI v.2.1), .int (iI v.2.2.2.2.2.1), .ref ya, .ref yb, .ref yc, .ref yo, .long (lI (v.2.2.1 0)), .long (lI (v.2.2.1 1)), .long (lI (v.2.2.1 2)), .long (lI (v.2.2.1 3)), .long (lI (v.2.2.1 4)), .long (lI (v.2.2.1 5)), .long (lI (v.2.2.1 6))])), (n2, .inl (cI2, 5, .inl (aI N)))]) [10, 11] rfl
  have hDc := hD.sub (ws' := [(x, .inr (2, [.int (iI v.1), .ref n2, .ref r2, .ref d2, .int (iI v.2.1), .int (iI v.2.2.2.2.2.1), .ref ya, .ref yb, .ref yc, .ref yo, .long (lI (v.2.2.1 0)), .long (lI (v.2.2.1 1)), .long (lI (v.2.2.1 2)), .long (lI (v.2.2.1 3)), .long (lI (v.2.2.1 4)), .long (lI (v.2.2.1 5)), .long (lI (v.2.2.1 6))])), (n2, .inl (cI2, 5, .inl (aI N)))]) [10, 11] (by decide) rfl
  have hKc := hK.sub (tys' := [(cI2, .int)]) [3] rfl
  have hFc := va_free (wc := [(x, .inr (2, [.int (iI v.1), .ref n2, .ref r2, .ref d2, .int (iI v.2.1), .int (iI v.2.2.2.2.2.1), .ref ya, .ref yb, .ref yc, .ref yo, .long (lI (v.2.2.1 0)), .long (lI (v.2.2.1 1)), .long (lI (v.2.2.1 2)), .long (lI (v.2.2.1 3)), .long (lI (v.2.2.1 4)), .long (lI (v.2.2.1 5)), .long (lI (v.2.2.1 6))])), (n2, .inl (cI2, 5, .inl (aI N)))]) hD hS hA [10, 11] rfl
  refine va_calli (va_runV (As := [.int (iI (sc xs (i + 1))), .int (iI (sc xs (i + 2)))]) (rest := []) ⟨hx, hb, hml, hown, hw⟩ (kX2_put l dC dI _ x n2 r2 d2 ya yb yc yo cI2 cJ v.1 v.2.1 v.2.2.2.2.2.1 v.2.2.1 N hN (sc xs (i + 1)) (sc xs (i + 2)) (sc_r _ _) (sc_r _ _)) (cwV 2 hw (gV mA_438 mA_439 mA_440 mA_3 mA_441) rfl rfl rfl (by decide +kernel) ⟨Nat.le_of_ble_eq_true rfl, Nat.le_of_ble_eq_true rfl⟩) ⟨fun a U g mk q => by obtain ⟨q0, q1, qP, qK, qD, qN⟩ := q; exact ⟨q0, q1, qP, va_K.moved (u := U) (U := U.calling g mk a) (Vm.Alike.refl U.vm) qK, qD, nb.same (u := U) rfl qN⟩, va_recv hKc hPc (ci := 2) (q0 := 0) rfl rfl, fun U hU hW => ⟨rfl, by rw [hU], by rw [hU]; exact hPc, va_K.moved hW.alike hKc, hDc.weaken (fun _ _ _ _ => trivial), nb.warm hW hnb⟩⟩ rfl rfl hl.1 rfl (lv_room (Nat.le_of_ble_eq_true rfl)) dL_law_132 ⟨by show _ ≤ 672099; omega, by show _ ≤ 7079807; omega⟩) hS (fun q _ h => hFc q h) hFc (fun r6 v4 t9 H1 locs ht hvm hv5 hB hz1 hk1 hS => ?_)
  obtain ⟨hP1, hK1, hD1⟩ := hB
  rw [ht] at hP1
  obtain ⟨hP, hD⟩ := va_join (wr := [(h, .inr (1, [.ref n, .ref r, .ref d, .ref f, .int (iI u2.2.2.2.2.2.2.1), .int (iI u2.2.2.2.2.2.1), .int (iI u2.2.2.2.2.2.2.2.1)])), (n, .inl (cI, 5, .inl (aI u2.2.2.1))), (r, .inl (cI, 5, .inl (aI u2.2.2.2.1))), (d, .inl (cI, 5, .inl (aI u2.2.2.2.2.1))), (f, .inl (cF, 4, .inr (.inr (.inr (.inr (q4 u2.2.2.2.2.2.2.2.2.1.1 u2.2.2.2.2.2.2.2.2.1.2.1 u2.2.2.2.2.2.2.2.2.1.2.2.1 u2.2.2.2.2.2.2.2.2.1.2.2.2)))))), (u2.2.2.2.2.2.2.2.2.1.1, .inr (0, fl (u2.2.2.2.2.2.2.2.2.2 0))), (u2.2.2.2.2.2.2.2.2.1.2.1, .inr (0, fl (u2.2.2.2.2.2.2.2.2.2 1))), (u2.2.2.2.2.2.2.2.2.1.2.2.1, .inr (0, fl (u2.2.2.2.2.2.2.2.2.2 2))), (u2.2.2.2.2.2.2.2.2.1.2.2.2, .inr (0, fl (u2.2.2.2.2.2.2.2.2.2 3))), (o, .inl (cO, 1, .inr (.inl (aL u2.2.1)))), (r2, .inl (cJ, 5, .inr (.inl (aL v.2.2.2.1)))), (d2, .inl (cJ, 5, .inr (.inl (aL v.2.2.2.2.1)))), (ya, .inl (cI2, 5, .inl (aI v.2.2.2.2.2.2.1))), (yb, .inl (cI2, 5, .inl (aI v.2.2.2.2.2.2.2.1))), (yc, .inl (cI2, 5, .inl (aI v.2.2.2.2.2.2.2.2.1))), (yo, .inl (cI2, 5, .inl (aI v.2.2.2.2.2.2.2.2.2)))]) (w1 := [(x, .inr (2, [.int (iI v4.1), .ref n2, .ref r2, .ref d2, .int (iI v.2.1), .int (iI v.2.2.2.2.2.1), .ref ya, .ref yb, .ref yc, .ref yo, .long (lI (v.2.2.1 0)), .long (lI (v.2.2.1 1)), .long (lI (v.2.2.1 2)), .long (lI (v.2.2.1 3)), .long (lI (v.2.2.1 4)), .long (lI (v.2.2.1 5)), .long (lI (v.2.2.1 6))])), (n2, .inl (cI2, 5, .inl (aI v4.2)))]) hP hD [10, 11] [0, 1, 2, 3, 4, 5, 6, 7, 8, 9, 12, 13, 14, 15, 16, 17] rfl rfl (by decide) (by decide) hk1 hFc hP1 hD1
  generalize H1 = H at hP hS ⊢
  have hP := hP.sub (ws' := (lwd h n r d f cI cF u2.2.2.1 u2.2.2.2 o cO u2.2.1 x n2 r2 d2 ya yb yc yo cI2 cJ v4.2 (v4.1, v.2))) [0, 1, 2, 3, 4, 5, 6, 7, 8, 9, 16, 17, 10, 11, 12, 13, 14, 15] rfl
  have hD := hD.sub (ws' := (lwd h n r d f cI cF u2.2.2.1 u2.2.2.2 o cO u2.2.1 x n2 r2 d2 ya yb yc yo cI2 cJ v4.2 (v4.1, v.2))) [0, 1, 2, 3, 4, 5, 6, 7, 8, 9, 16, 17, 10, 11, 12, 13, 14, 15] (by decide) rfl
  refine lv_istore (lv' := [(6, .int r6), (5, .int (iI u2.1)), (0, .ref b), (1, .ref h), (2, .ref x), (3, .ref o), (4, .int (iI i))]) hx hb dL_law_135 hl (by decide) rfl (fun ls hl => ?_)
  refine lv_aload_n hx hb dL_law_137 rfl (lv_at hl 4 rfl) ?_
  have hPc := hP.sub (ws' := [(x, .inr (2, [.int (iI ((v4.1, v.2).1)), .ref n2, .ref r2, .ref d2, .int (iI ((v4.1, v.2).2.1)), .int (iI ((v4.1, v.2).2.2.2.2.2.1)), .ref ya, .ref yb, .ref yc, .ref yo, .long (lI (((v4.1, v.2).2.2.1) 0)), .long (lI (((v4.1, v.2).2.2.1) 1)), .long (lI (((v4.1, v.2).2.2.1) 2)), .long (lI (((v4.1, v.2).2.2.1) 3)), .long (lI (((v4.1, v.2).2.2.1) 4)), .long (lI (((v4.1, v.2).2.2.1) 5)), .long (lI (((v4.1, v.2).2.2.1) 6))]))]) [10] rfl
  have hKc := hK.sub (tys' := []) [] rfl
  refine vp_callSi (W.runV (As := []) (rest := []) ⟨hx, hb, hml, hown, hw⟩ (kX2_thrown l dC dI x n2 r2 d2 ya yb yc yo cI2 cJ (v4.1, v.2).1 (v4.1, v.2).2.1 (v4.1, v.2).2.2.2.2.2.1 (v4.1, v.2).2.2.1) (cwV 0 hw (gV mA_434 mA_435 mA_436 mA_3 mA_437) rfl rfl rfl (by decide +kernel) ⟨Nat.le_of_ble_eq_true rfl, Nat.le_of_ble_eq_true rfl⟩) ⟨fun a U g mk q => by obtain ⟨q0, qP, qK⟩ := q; exact ⟨q0, qP, va_K.moved (u := U) (U := U.calling g mk a) (Vm.Alike.refl U.vm) qK⟩, va_recv hKc hPc (ci := 2) (q0 := 0) rfl rfl, fun U hU hW => ⟨rfl, by rw [hU]; exact hPc, va_K.moved hW.alike hKc⟩⟩ rfl rfl hl.1 rfl (lv_room (Nat.le_of_ble_eq_true rfl)) dL_law_138 ⟨by show _ ≤ 672099; omega, by show _ ≤ 7079807; omega⟩) (fun r7 h8 => ?_)
  subst h8
  refine W.eq (g2 := F0 m 141 ls [.int (iI (v4.1, v.2).1)]) rfl ?_
  refine lv_iload hx hb dL_law_141 (lv_at hl 1 rfl) ?_
  obtain ⟨g1, g2, g3⟩ := hv5
  obtain ⟨f1, f2, hL2⟩ := L_put (ι := iI) hH g3
  have hL1 : v4.1 = u2.1 := g1.trans f1
  have eM : v4.2 = u2.2.2.1 := g2.trans f2.symm
  rw [eM] at hP hD
  refine ix_icmp_eq (tgt := 148) hx hb dL_law_143 (by decide) (show r32 (v4.1, v.2).1 by rw [show (v4.1, v.2).1 = u2.1 from hL1]; exact ⟨by omega, by omega⟩) ⟨by omega, by omega⟩ (fun _ => ?_) (fun c9 => absurd hL1 c9)
  refine lv_iload hx hb dL_law_148 (lv_at hl 1 rfl) ?_
  refine ix_if_ne (tgt := 172) hx hb dL_law_150 (by decide) ⟨by omega, by omega⟩ (fun c9 => ?_) (fun c9 => ?_)
  · refine lv_goto (tgt := 849) hx hb dL_law_172 (by decide) ?_
    refine W.widen (k := cells + 5) (n := slots + 30) (by omega) (by omega) ?_
    exact kk u2.2.2.1 u2.2.1 u2.2.2.2 (v4.1, v.2) _ _ hH.1 hmi hO1 hP hD hS ls (lv_sub hl [2, 3, 4, 5, 6] rfl)
  · have h0 : u2.1 = 0 := by omega
    have hb9 := hL2 h0
    rw [hb9.1] at hl
    refine lv_aload_n hx hb dL_law_153 rfl (lv_at hl 5 rfl) ?_
    refine ix_iconst (n := 0) hx hb dL_law_154 ?_
    refine ix_lald (k := 0) hx hb hK hP 9 2 rfl rfl (by decide) (by decide) (by decide) dL_law_155 ?_
    refine lv_iload hx hb dL_law_156 (lv_at hl 0 rfl) ?_
    refine ix_if_eq (tgt := 165) hx hb dL_law_158 (by decide) hO1 (fun c10 => ?_) (fun c10 => ?_)
    · refine ix_lconst0 hx hb dL_law_165 ?_
      refine ix_lc_eq (tgt := 172) hx hb dL_law_166 dL_law_167 (by decide) ⟨by have := hO1.1; omega, by have := hO1.2; omega⟩ (by decide) (fun _ => ?_) (fun c9 => absurd c10 c9)
      refine lv_goto (tgt := 849) hx hb dL_law_172 (by decide) ?_
      refine W.widen (k := cells + 5) (n := slots + 30) (by omega) (by omega) ?_
      exact kk u2.2.2.1 u2.2.1 u2.2.2.2 (v4.1, v.2) _ _ hH.1 hmi hO1 hP hD hS ls (lv_sub hl [2, 3, 4, 5, 6] rfl)
    · refine ix_lconst1 hx hb dL_law_161 ?_
      refine lv_goto (tgt := 166) hx hb dL_law_162 (by decide) ?_
      refine ix_lc_eq (tgt := 172) hx hb dL_law_166 dL_law_167 (by decide) ⟨by have := hO1.1; omega, by have := hO1.2; omega⟩ (by decide) (fun _ => ?_) (fun c9 => absurd (hb9.2.resolve_left c10) c9)
      refine lv_goto (tgt := 849) hx hb dL_law_172 (by decide) ?_
      refine W.widen (k := cells + 5) (n := slots + 30) (by omega) (by omega) ?_
      exact kk u2.2.2.1 u2.2.1 u2.2.2.2 (v4.1, v.2) _ _ hH.1 hmi hO1 hP hD hS ls (lv_sub hl [2, 3, 4, 5, 6] rfl)
set_option maxHeartbeats 4000000 in
set_option maxRecDepth 100000 in
theorem lc_at {p : Program} {l : Launch} {e : Env} {s : State} {m : MethodId} {below : List Frame} {meth : Method} {c : Code} {dC : Nat → ClassId} {dI : Nat → Nat → Nat} {b L : Nat} {xs : Nat → Int32} {A : Nat → Prop} {h n r d f o x n2 r2 d2 ya yb yc yo : Nat} {cI cF cO cI2 cJ : ClassId} (hlt : l.stackTraces = false) (hL : L ≤ 2560) (hX : va_X b L xs s s.heap) (hbl : b < s.heap.size) (hbA : ¬ A b) (hA : ∀ q : Nat, s.heap.size ≤ q → A q) (hnb : nb s) (hnc : nc s) (hzt : zt A s) (C0 : cx p s m meth c #[Value.ref b] RL cL_law 7 ret) (hK : va_K (dC, dI) vwCl [(cI, .int), (cF, .object RX0), (cO, .long), (cI2, .int), (cJ, .long)] s) {i : Int} (hi : 0 ≤ i ∧ i + 5 ≤ L) {N O : Int → Int} {u : CS} {v : MT} (hci : CIu N u) (hmi : MI v) (hO : r32 (O 0)) {cells slots : Nat} (hcs : cells + 5 ≤ 672099 ∧ slots + 30 ≤ 7079807)
    (kk : ∀ (N O : Int → Int) (u : CS) (v : MT) (H : Heap) (locs : List Loc), CIu N u → MI v → r32 (O 0) → va_P (dC, dI) vwCl (lwd h n r d f cI cF N u o cO O x n2 r2 d2 ya yb yc yo cI2 cJ N v) H → va_D A (lwd h n r d f cI cF N u o cO O x n2 r2 d2 ya yb yc yo cI2 cJ N v) → va_S A s.heap H locs → ∀ (ls : Array Slot), lv_has ls 7 [(0, .ref b), (1, .ref h), (2, .ref x), (3, .ref o), (4, .int (iI i))] → W p l e room_1 s m #[Value.ref b] below meth c H locs (cells + 5) (slots + 30) (lw_Z below #[Value.ref b] s) (F0 m 849 ls []))
    {H : Heap} {locs : List Loc} (hP : va_P (dC, dI) vwCl (lwd h n r d f cI cF N u o cO O x n2 r2 d2 ya yb yc yo cI2 cJ N v) H) (hD : va_D A (lwd h n r d f cI cF N u o cO O x n2 r2 d2 ya yb yc yo cI2 cJ N v)) (hS : va_S A s.heap H locs) {ls : Array Slot} (hl : lv_has ls 7 [(0, .ref b), (1, .ref h), (2, .ref x), (3, .ref o), (4, .int (iI i))]) : W p l e room_1 s m #[Value.ref b] below meth c H locs cells slots (lw_Z below #[Value.ref b] s) (F0 m 175 ls []) := by
  obtain ⟨hx, hb, hr, hml, hown, hw, hlocks⟩ := C0
  have h5 := hci.1
  have hN := hci.2.1
  refine lv_aload_n hx hb dL_law_175 rfl (lv_at hl 1 rfl) ?_
  refine lv_aload_n hx hb dL_law_176 rfl (lv_at hl 0 rfl) ?_
  refine lv_iload hx hb dL_law_177 (lv_at hl 4 rfl) ?_
  refine ix_iconst (n := 1) hx hb dL_law_179 ?_
  refine ix_iadd hx hb dL_law_180 ?_
  refine ix_sld (k := i + 1) hx hb hX hbl hbA hS (by omega) (by omega) hL dL_law_181 ?_
  refine lv_aload_n hx hb dL_law_182 rfl (lv_at hl 3 rfl) ?_
  have hPc := hP.sub (ws' := (cwou h n r d f cI cF N u o cO O)) [0, 1, 2, 3, 4, 5, 6, 7, 8, 9] rfl
  have hDc := hD.sub (ws' := (cwou h n r d f cI cF N u o cO O)) [0, 1, 2, 3, 4, 5, 6, 7, 8, 9] (by decide) rfl
  have hKc := hK.sub (tys' := [(cI, .int), (cF, .object RX0), (cO, .long)]) [0, 1, 2] rfl
  have hFc := va_free (wc := (cwou h n r d f cI cF N u o cO O)) hD hS hA [0, 1, 2, 3, 4, 5, 6, 7, 8, 9] rfl
  refine va_calli (vx_runSW (As := [.ref h, .int (iI (sc xs (i + 1))), .ref o]) (rest := []) ⟨hx, hb, hml, hown, hw⟩ (kL_at l hlt dC dI _ h n r d f u.2.2.2.2.2.1.1 u.2.2.2.2.2.1.2.1 u.2.2.2.2.2.1.2.2.1 u.2.2.2.2.2.1.2.2.2 o cI cF cO N u.1 u.2.1 u.2.2.1 u.2.2.2.1 u.2.2.2.2.1 u.2.2.2.2.2.2 O hO hci (sc xs (i + 1)) (sc_r _ _)) (vx_cwSW 3 hw (gSW mA_178 mA_179 mA_0 mW_at) rfl rfl rfl (by decide +kernel) ⟨Nat.le_of_ble_eq_true rfl, Nat.le_of_ble_eq_true rfl⟩) ⟨fun a U g mk q => by obtain ⟨q0, q1, qP, qK, qD, qN, qC, qZ⟩ := q; exact ⟨q0, q1, qP, va_K.moved (u := U) (U := U.calling g mk a) (Vm.Alike.refl U.vm) qK, qD, nb.same (u := U) rfl qN, nc.moved (u := U) (U := U.calling g mk a) (Vm.Alike.refl U.vm) qC, zt.go (u := U) qZ (Vm.Alike.refl U.vm) (fun _ q => q) (fun _ _ _ => rfl)⟩, fun U hU hW => ⟨rfl, by rw [hU], by rw [hU]; exact hPc, va_K.moved hW.alike hKc, hDc.weaken (fun _ _ _ _ => trivial), nb.warm hW hnb, nc.moved hW.alike hnc, zt2 hzt hS hU hW.alike hFc⟩⟩ rfl rfl hl.1 rfl (lv_room (Nat.le_of_ble_eq_true rfl)) dL_law_183 ⟨by show _ ≤ 672099; omega, by show _ ≤ 7079807; omega⟩) hS (fun q _ h => hFc q h) hFc (fun r1 u2 t9 H1 locs ht hvm hq3 hB hz1 hk1 hS => ?_)
  obtain ⟨hP1, hK1, hD1⟩ := hB
  rw [ht] at hP1
  obtain ⟨e1, hO1, hH⟩ := hq3
  subst e1
  obtain ⟨hP, hD⟩ := va_join (wr := [(x, .inr (2, [.int (iI v.1), .ref n2, .ref r2, .ref d2, .int (iI v.2.1), .int (iI v.2.2.2.2.2.1), .ref ya, .ref yb, .ref yc, .ref yo, .long (lI (v.2.2.1 0)), .long (lI (v.2.2.1 1)), .long (lI (v.2.2.1 2)), .long (lI (v.2.2.1 3)), .long (lI (v.2.2.1 4)), .long (lI (v.2.2.1 5)), .long (lI (v.2.2.1 6))])), (n2, .inl (cI2, 5, .inl (aI N))), (r2, .inl (cJ, 5, .inr (.inl (aL v.2.2.2.1)))), (d2, .inl (cJ, 5, .inr (.inl (aL v.2.2.2.2.1)))), (ya, .inl (cI2, 5, .inl (aI v.2.2.2.2.2.2.1))), (yb, .inl (cI2, 5, .inl (aI v.2.2.2.2.2.2.2.1))), (yc, .inl (cI2, 5, .inl (aI v.2.2.2.2.2.2.2.2.1))), (yo, .inl (cI2, 5, .inl (aI v.2.2.2.2.2.2.2.2.2)))]) (w1 := (cwou h n r d f cI cF N u2.2.2 o cO u2.2.1)) hP hD [0, 1, 2, 3, 4, 5, 6, 7, 8, 9] [10, 11, 12, 13, 14, 15, 16, 17] rfl rfl (by decide) (by decide) hk1 hFc hP1 hD1
  generalize H1 = H at hP hS ⊢
  have hP := hP.sub (ws' := (lwd h n r d f cI cF N u2.2.2 o cO u2.2.1 x n2 r2 d2 ya yb yc yo cI2 cJ N v)) [8, 9, 10, 11, 12, 13, 14, 15, 16, 17, 0, 1, 2, 3, 4, 5, 6, 7] rfl
  have hD := hD.sub (ws' := (lwd h n r d f cI cF N u2.2.2 o cO u2.2.1 x n2 r2 d2 ya yb yc yo cI2 cJ N v)) [8, 9, 10, 11, 12, 13, 14, 15, 16, 17, 0, 1, 2, 3, 4, 5, 6, 7] (by decide) rfl
  have hkc := R_at hH
  refine lv_istore (lv' := [(5, .int (iI u2.1)), (0, .ref b), (1, .ref h), (2, .ref x), (3, .ref o), (4, .int (iI i))]) hx hb dL_law_186 hl (by decide) rfl (fun ls hl => ?_)
  refine lv_aload_n hx hb dL_law_188 rfl (lv_at hl 3 rfl) ?_
  refine lv_aload_n hx hb dL_law_189 rfl (lv_at hl 1 rfl) ?_
  refine lv_iload hx hb dL_law_190 (lv_at hl 5 rfl) ?_
  refine ix_iconst (n := 1) hx hb dL_law_192 ?_
  refine ix_iadd hx hb dL_law_193 ?_
  refine ix_sld (k := i + 1) hx hb hX hbl hbA hS (by omega) (by omega) hL dL_law_194 ?_
  have hPc := hP.sub (ws' := [(x, .inr (2, [.int (iI v.1), .ref n2, .ref r2, .ref d2, .int (iI v.2.1), .int (iI v.2.2.2.2.2.1), .ref ya, .ref yb, .ref yc, .ref yo, .long (lI (v.2.2.1 0)), .long (lI (v.2.2.1 1)), .long (lI (v.2.2.1 2)), .long (lI (v.2.2.1 3)), .long (lI (v.2.2.1 4)), .long (lI (v.2.2.1 5)), .long (lI (v.2.2.1 6))])), (n2, .inl (cI2, 5, .inl (aI N)))]) [10, 11] rfl
  have hDc := hD.sub (ws' := [(x, .inr (2, [.int (iI v.1), .ref n2, .ref r2, .ref d2, .int (iI v.2.1), .int (iI v.2.2.2.2.2.1), .ref ya, .ref yb, .ref yc, .ref yo, .long (lI (v.2.2.1 0)), .long (lI (v.2.2.1 1)), .long (lI (v.2.2.1 2)), .long (lI (v.2.2.1 3)), .long (lI (v.2.2.1 4)), .long (lI (v.2.2.1 5)), .long (lI (v.2.2.1 6))])), (n2, .inl (cI2, 5, .inl (aI N)))]) [10, 11] (by decide) rfl
  have hKc := hK.sub (tys' := [(cI2, .int)]) [3] rfl
  have hFc := va_free (wc := [(x, .inr (2, [.int (iI v.1), .ref n2, .ref r2, .ref d2, .int (iI v.2.1), .int (iI v.2.2.2.2.2.1), .ref ya, .ref yb, .ref yc, .ref yo, .long (lI (v.2.2.1 0)), .long (lI (v.2.2.1 1)), .long (lI (v.2.2.1 2)), .long (lI (v.2.2.1 3)), .long (lI (v.2.2.1 4)), .long (lI (v.2.2.1 5)), .long (lI (v.2.2.1 6))])), (n2, .inl (cI2, 5, .inl (aI N)))]) hD hS hA [10, 11] rfl
  refine va_calli (va_runV (As := [.int (iI (sc xs (i + 1)))]) (rest := []) ⟨hx, hb, hml, hown, hw⟩ (kX2_at l dC dI _ x n2 r2 d2 ya yb yc yo cI2 cJ v.1 v.2.1 v.2.2.2.2.2.1 v.2.2.1 N (sc xs (i + 1)) (sc_r _ _)) (cwV 1 hw (gV mA_448 mA_449 mA_450 mA_3 mA_451) rfl rfl rfl (by decide +kernel) ⟨Nat.le_of_ble_eq_true rfl, Nat.le_of_ble_eq_true rfl⟩) ⟨fun a U g mk q => by obtain ⟨q0, q1, qP, qK, qD, qN⟩ := q; exact ⟨q0, q1, qP, va_K.moved (u := U) (U := U.calling g mk a) (Vm.Alike.refl U.vm) qK, qD, nb.same (u := U) rfl qN⟩, va_recv hKc hPc (ci := 2) (q0 := 0) rfl rfl, fun U hU hW => ⟨rfl, by rw [hU], by rw [hU]; exact hPc, va_K.moved hW.alike hKc, hDc.weaken (fun _ _ _ _ => trivial), nb.warm hW hnb⟩⟩ rfl rfl hl.1 rfl (lv_room (Nat.le_of_ble_eq_true rfl)) dL_law_195 ⟨by show _ ≤ 672099; omega, by show _ ≤ 7079807; omega⟩) hS (fun q _ h => hFc q h) hFc (fun r6 v4 t9 H1 locs ht hvm hv5 hB hz1 hk1 hS => ?_)
  obtain ⟨hP1, hK1, hD1⟩ := hB
  rw [ht] at hP1
  obtain ⟨hP, hD⟩ := va_join (wr := [(h, .inr (1, [.ref n, .ref r, .ref d, .ref f, .int (iI u2.2.2.2.2.2.1), .int (iI u2.2.2.2.2.1), .int (iI u2.2.2.2.2.2.2.1)])), (n, .inl (cI, 5, .inl (aI N))), (r, .inl (cI, 5, .inl (aI u2.2.2.1))), (d, .inl (cI, 5, .inl (aI u2.2.2.2.1))), (f, .inl (cF, 4, .inr (.inr (.inr (.inr (q4 u2.2.2.2.2.2.2.2.1.1 u2.2.2.2.2.2.2.2.1.2.1 u2.2.2.2.2.2.2.2.1.2.2.1 u2.2.2.2.2.2.2.2.1.2.2.2)))))), (u2.2.2.2.2.2.2.2.1.1, .inr (0, fl (u2.2.2.2.2.2.2.2.2 0))), (u2.2.2.2.2.2.2.2.1.2.1, .inr (0, fl (u2.2.2.2.2.2.2.2.2 1))), (u2.2.2.2.2.2.2.2.1.2.2.1, .inr (0, fl (u2.2.2.2.2.2.2.2.2 2))), (u2.2.2.2.2.2.2.2.1.2.2.2, .inr (0, fl (u2.2.2.2.2.2.2.2.2 3))), (o, .inl (cO, 1, .inr (.inl (aL u2.2.1)))), (r2, .inl (cJ, 5, .inr (.inl (aL v.2.2.2.1)))), (d2, .inl (cJ, 5, .inr (.inl (aL v.2.2.2.2.1)))), (ya, .inl (cI2, 5, .inl (aI v.2.2.2.2.2.2.1))), (yb, .inl (cI2, 5, .inl (aI v.2.2.2.2.2.2.2.1))), (yc, .inl (cI2, 5, .inl (aI v.2.2.2.2.2.2.2.2.1))), (yo, .inl (cI2, 5, .inl (aI v.2.2.2.2.2.2.2.2.2)))]) (w1 := [(x, .inr (2, [.int (iI v4), .ref n2, .ref r2, .ref d2, .int (iI v.2.1), .int (iI v.2.2.2.2.2.1), .ref ya, .ref yb, .ref yc, .ref yo, .long (lI (v.2.2.1 0)), .long (lI (v.2.2.1 1)), .long (lI (v.2.2.1 2)), .long (lI (v.2.2.1 3)), .long (lI (v.2.2.1 4)), .long (lI (v.2.2.1 5)), .long (lI (v.2.2.1 6))])), (n2, .inl (cI2, 5, .inl (aI N)))]) hP hD [10, 11] [0, 1, 2, 3, 4, 5, 6, 7, 8, 9, 12, 13, 14, 15, 16, 17] rfl rfl (by decide) (by decide) hk1 hFc hP1 hD1
  generalize H1 = H at hP hS ⊢
  have hP := hP.sub (ws' := (lwd h n r d f cI cF N u2.2.2 o cO u2.2.1 x n2 r2 d2 ya yb yc yo cI2 cJ N (v4, v.2))) [0, 1, 2, 3, 4, 5, 6, 7, 8, 9, 16, 17, 10, 11, 12, 13, 14, 15] rfl
  have hD := hD.sub (ws' := (lwd h n r d f cI cF N u2.2.2 o cO u2.2.1 x n2 r2 d2 ya yb yc yo cI2 cJ N (v4, v.2))) [0, 1, 2, 3, 4, 5, 6, 7, 8, 9, 16, 17, 10, 11, 12, 13, 14, 15] (by decide) rfl
  refine lv_istore (lv' := [(6, .int r6), (5, .int (iI u2.1)), (0, .ref b), (1, .ref h), (2, .ref x), (3, .ref o), (4, .int (iI i))]) hx hb dL_law_198 hl (by decide) rfl (fun ls hl => ?_)
  refine lv_aload_n hx hb dL_law_200 rfl (lv_at hl 4 rfl) ?_
  have hPc := hP.sub (ws' := [(x, .inr (2, [.int (iI ((v4, v.2).1)), .ref n2, .ref r2, .ref d2, .int (iI ((v4, v.2).2.1)), .int (iI ((v4, v.2).2.2.2.2.2.1)), .ref ya, .ref yb, .ref yc, .ref yo, .long (lI (((v4, v.2).2.2.1) 0)), .long (lI (((v4, v.2).2.2.1) 1)), .long (lI (((v4, v.2).2.2.1) 2)), .long (lI (((v4, v.2).2.2.1) 3)), .long (lI (((v4, v.2).2.2.1) 4)), .long (lI (((v4, v.2).2.2.1) 5)), .long (lI (((v4, v.2).2.2.1) 6))]))]) [10] rfl
  have hKc := hK.sub (tys' := []) [] rfl
  refine vp_callSi (W.runV (As := []) (rest := []) ⟨hx, hb, hml, hown, hw⟩ (kX2_thrown l dC dI x n2 r2 d2 ya yb yc yo cI2 cJ (v4, v.2).1 (v4, v.2).2.1 (v4, v.2).2.2.2.2.2.1 (v4, v.2).2.2.1) (cwV 0 hw (gV mA_434 mA_435 mA_436 mA_3 mA_437) rfl rfl rfl (by decide +kernel) ⟨Nat.le_of_ble_eq_true rfl, Nat.le_of_ble_eq_true rfl⟩) ⟨fun a U g mk q => by obtain ⟨q0, qP, qK⟩ := q; exact ⟨q0, qP, va_K.moved (u := U) (U := U.calling g mk a) (Vm.Alike.refl U.vm) qK⟩, va_recv hKc hPc (ci := 2) (q0 := 0) rfl rfl, fun U hU hW => ⟨rfl, by rw [hU]; exact hPc, va_K.moved hW.alike hKc⟩⟩ rfl rfl hl.1 rfl (lv_room (Nat.le_of_ble_eq_true rfl)) dL_law_201 ⟨by show _ ≤ 672099; omega, by show _ ≤ 7079807; omega⟩) (fun r7 h8 => ?_)
  subst h8
  refine W.eq (g2 := F0 m 204 ls [.int (iI (v4, v.2).1)]) rfl ?_
  refine lv_iload hx hb dL_law_204 (lv_at hl 1 rfl) ?_
  obtain ⟨g1, g3⟩ := hv5
  obtain ⟨f1, hL2⟩ := L_at (ι := iI) hH g3
  have hL1 : v4 = u2.1 := g1.trans f1
  refine ix_icmp_eq (tgt := 211) hx hb dL_law_206 (by decide) (show r32 (v4, v.2).1 by rw [show (v4, v.2).1 = u2.1 from hL1]; exact ⟨by omega, by omega⟩) ⟨by omega, by omega⟩ (fun _ => ?_) (fun c9 => absurd hL1 c9)
  refine lv_iload hx hb dL_law_211 (lv_at hl 1 rfl) ?_
  refine ix_if_ne (tgt := 228) hx hb dL_law_213 (by decide) ⟨by omega, by omega⟩ (fun c9 => ?_) (fun c9 => ?_)
  · refine lv_goto (tgt := 849) hx hb dL_law_228 (by decide) ?_
    refine W.widen (k := cells + 5) (n := slots + 30) (by omega) (by omega) ?_
    exact kk N u2.2.1 u2.2.2 (v4, v.2) _ _ hH.1 hmi hO1 hP hD hS ls (lv_sub hl [2, 3, 4, 5, 6] rfl)
  · have h0 : u2.1 = 0 := by omega
    have hb9 := hL2 h0
    rw [hb9] at hl
    refine lv_aload_n hx hb dL_law_216 rfl (lv_at hl 5 rfl) ?_
    refine ix_iconst (n := 0) hx hb dL_law_217 ?_
    refine ix_lald (k := 0) hx hb hK hP 9 2 rfl rfl (by decide) (by decide) (by decide) dL_law_218 ?_
    refine lv_iload hx hb dL_law_219 (lv_at hl 0 rfl) ?_
    refine ix_i2l hx hb dL_law_221 ⟨by omega, by omega⟩ ?_
    refine ix_lc_eq (tgt := 228) hx hb dL_law_222 dL_law_223 (by decide) ⟨by have := hO1.1; omega, by have := hO1.2; omega⟩ ⟨by have := hO1.1; omega, by have := hO1.2; omega⟩ (fun _ => ?_) (fun c9 => absurd rfl c9)
    refine lv_goto (tgt := 849) hx hb dL_law_228 (by decide) ?_
    refine W.widen (k := cells + 5) (n := slots + 30) (by omega) (by omega) ?_
    exact kk N u2.2.1 u2.2.2 (v4, v.2) _ _ hH.1 hmi hO1 hP hD hS ls (lv_sub hl [2, 3, 4, 5, 6] rfl)
set_option maxHeartbeats 4000000 in
set_option maxRecDepth 100000 in
theorem lc_change {p : Program} {l : Launch} {e : Env} {s : State} {m : MethodId} {below : List Frame} {meth : Method} {c : Code} {dC : Nat → ClassId} {dI : Nat → Nat → Nat} {b L : Nat} {xs : Nat → Int32} {A : Nat → Prop} {h n r d f o x n2 r2 d2 ya yb yc yo : Nat} {cI cF cO cI2 cJ : ClassId} (hlt : l.stackTraces = false) (hL : L ≤ 2560) (hX : va_X b L xs s s.heap) (hbl : b < s.heap.size) (hbA : ¬ A b) (hA : ∀ q : Nat, s.heap.size ≤ q → A q) (hnb : nb s) (hnc : nc s) (hzt : zt A s) (C0 : cx p s m meth c #[Value.ref b] RL cL_law 7 ret) (hK : va_K (dC, dI) vwCl [(cI, .int), (cF, .object RX0), (cO, .long), (cI2, .int), (cJ, .long)] s) {i : Int} (hi : 0 ≤ i ∧ i + 5 ≤ L) {N O : Int → Int} {u : CS} {v : MT} (hci : CIu N u) (hmi : MI v) (hO : r32 (O 0)) {cells slots : Nat} (hcs : cells + 5 ≤ 672099 ∧ slots + 30 ≤ 7079807)
    (kk : ∀ (N O : Int → Int) (u : CS) (v : MT) (H : Heap) (locs : List Loc), CIu N u → MI v → r32 (O 0) → va_P (dC, dI) vwCl (lwd h n r d f cI cF N u o cO O x n2 r2 d2 ya yb yc yo cI2 cJ N v) H → va_D A (lwd h n r d f cI cF N u o cO O x n2 r2 d2 ya yb yc yo cI2 cJ N v) → va_S A s.heap H locs → ∀ (ls : Array Slot), lv_has ls 7 [(0, .ref b), (1, .ref h), (2, .ref x), (3, .ref o), (4, .int (iI i))] → W p l e room_1 s m #[Value.ref b] below meth c H locs (cells + 5) (slots + 30) (lw_Z below #[Value.ref b] s) (F0 m 849 ls []))
    {H : Heap} {locs : List Loc} (hP : va_P (dC, dI) vwCl (lwd h n r d f cI cF N u o cO O x n2 r2 d2 ya yb yc yo cI2 cJ N v) H) (hD : va_D A (lwd h n r d f cI cF N u o cO O x n2 r2 d2 ya yb yc yo cI2 cJ N v)) (hS : va_S A s.heap H locs) {ls : Array Slot} (hl : lv_has ls 7 [(0, .ref b), (1, .ref h), (2, .ref x), (3, .ref o), (4, .int (iI i))]) : W p l e room_1 s m #[Value.ref b] below meth c H locs cells slots (lw_Z below #[Value.ref b] s) (F0 m 231 ls []) := by
  obtain ⟨hx, hb, hr, hml, hown, hw, hlocks⟩ := C0
  have h5 := hci.1
  have hN := hci.2.1
  refine lv_aload_n hx hb dL_law_231 rfl (lv_at hl 1 rfl) ?_
  refine lv_aload_n hx hb dL_law_232 rfl (lv_at hl 0 rfl) ?_
  refine lv_iload hx hb dL_law_233 (lv_at hl 4 rfl) ?_
  refine ix_iconst (n := 1) hx hb dL_law_235 ?_
  refine ix_iadd hx hb dL_law_236 ?_
  refine ix_sld (k := i + 1) hx hb hX hbl hbA hS (by omega) (by omega) hL dL_law_237 ?_
  refine lv_aload_n hx hb dL_law_238 rfl (lv_at hl 3 rfl) ?_
  have hPc := hP.sub (ws' := (cwou h n r d f cI cF N u o cO O)) [0, 1, 2, 3, 4, 5, 6, 7, 8, 9] rfl
  have hDc := hD.sub (ws' := (cwou h n r d f cI cF N u o cO O)) [0, 1, 2, 3, 4, 5, 6, 7, 8, 9] (by decide) rfl
  have hKc := hK.sub (tys' := [(cI, .int), (cF, .object RX0), (cO, .long)]) [0, 1, 2] rfl
  have hFc := va_free (wc := (cwou h n r d f cI cF N u o cO O)) hD hS hA [0, 1, 2, 3, 4, 5, 6, 7, 8, 9] rfl
  refine va_calli (vx_runSW (As := [.ref h, .int (iI (sc xs (i + 1))), .ref o]) (rest := []) ⟨hx, hb, hml, hown, hw⟩ (kL_change l hlt dC dI _ h n r d f u.2.2.2.2.2.1.1 u.2.2.2.2.2.1.2.1 u.2.2.2.2.2.1.2.2.1 u.2.2.2.2.2.1.2.2.2 o cI cF cO N u.1 u.2.1 u.2.2.1 u.2.2.2.1 u.2.2.2.2.1 u.2.2.2.2.2.2 O hO hci (sc xs (i + 1)) (sc_r _ _)) (vx_cwSW 3 hw (gSW mA_185 mA_186 mA_0 mW_change) rfl rfl rfl (by decide +kernel) ⟨Nat.le_of_ble_eq_true rfl, Nat.le_of_ble_eq_true rfl⟩) ⟨fun a U g mk q => by obtain ⟨q0, q1, qP, qK, qD, qN, qC, qZ⟩ := q; exact ⟨q0, q1, qP, va_K.moved (u := U) (U := U.calling g mk a) (Vm.Alike.refl U.vm) qK, qD, nb.same (u := U) rfl qN, nc.moved (u := U) (U := U.calling g mk a) (Vm.Alike.refl U.vm) qC, zt.go (u := U) qZ (Vm.Alike.refl U.vm) (fun _ q => q) (fun _ _ _ => rfl)⟩, fun U hU hW => ⟨rfl, by rw [hU], by rw [hU]; exact hPc, va_K.moved hW.alike hKc, hDc.weaken (fun _ _ _ _ => trivial), nb.warm hW hnb, nc.moved hW.alike hnc, zt2 hzt hS hU hW.alike hFc⟩⟩ rfl rfl hl.1 rfl (lv_room (Nat.le_of_ble_eq_true rfl)) dL_law_239 ⟨by show _ ≤ 672099; omega, by show _ ≤ 7079807; omega⟩) hS (fun q _ h => hFc q h) hFc (fun r1 u2 t9 H1 locs ht hvm hq3 hB hz1 hk1 hS => ?_)
  obtain ⟨hP1, hK1, hD1⟩ := hB
  rw [ht] at hP1
  obtain ⟨e1, hO1, hH⟩ := hq3
  subst e1
  obtain ⟨hP, hD⟩ := va_join (wr := [(x, .inr (2, [.int (iI v.1), .ref n2, .ref r2, .ref d2, .int (iI v.2.1), .int (iI v.2.2.2.2.2.1), .ref ya, .ref yb, .ref yc, .ref yo, .long (lI (v.2.2.1 0)), .long (lI (v.2.2.1 1)), .long (lI (v.2.2.1 2)), .long (lI (v.2.2.1 3)), .long (lI (v.2.2.1 4)), .long (lI (v.2.2.1 5)), .long (lI (v.2.2.1 6))])), (n2, .inl (cI2, 5, .inl (aI N))), (r2, .inl (cJ, 5, .inr (.inl (aL v.2.2.2.1)))), (d2, .inl (cJ, 5, .inr (.inl (aL v.2.2.2.2.1)))), (ya, .inl (cI2, 5, .inl (aI v.2.2.2.2.2.2.1))), (yb, .inl (cI2, 5, .inl (aI v.2.2.2.2.2.2.2.1))), (yc, .inl (cI2, 5, .inl (aI v.2.2.2.2.2.2.2.2.1))), (yo, .inl (cI2, 5, .inl (aI v.2.2.2.2.2.2.2.2.2)))]) (w1 := (cwou h n r d f cI cF u2.2.2.1 u2.2.2.2 o cO u2.2.1)) hP hD [0, 1, 2, 3, 4, 5, 6, 7, 8, 9] [10, 11, 12, 13, 14, 15, 16, 17] rfl rfl (by decide) (by decide) hk1 hFc hP1 hD1
  generalize H1 = H at hP hS ⊢
  have hP := hP.sub (ws' := (lwd h n r d f cI cF u2.2.2.1 u2.2.2.2 o cO u2.2.1 x n2 r2 d2 ya yb yc yo cI2 cJ N v)) [8, 9, 10, 11, 12, 13, 14, 15, 16, 17, 0, 1, 2, 3, 4, 5, 6, 7] rfl
  have hD := hD.sub (ws' := (lwd h n r d f cI cF u2.2.2.1 u2.2.2.2 o cO u2.2.1 x n2 r2 d2 ya yb yc yo cI2 cJ N v)) [8, 9, 10, 11, 12, 13, 14, 15, 16, 17, 0, 1, 2, 3, 4, 5, 6, 7] (by decide) rfl
  have hkc := R_change hH
  refine lv_istore (lv' := [(5, .int (iI u2.1)), (0, .ref b), (1, .ref h), (2, .ref x), (3, .ref o), (4, .int (iI i))]) hx hb dL_law_242 hl (by decide) rfl (fun ls hl => ?_)
  refine lv_aload_n hx hb dL_law_244 rfl (lv_at hl 3 rfl) ?_
  refine lv_aload_n hx hb dL_law_245 rfl (lv_at hl 1 rfl) ?_
  refine lv_iload hx hb dL_law_246 (lv_at hl 5 rfl) ?_
  refine ix_iconst (n := 1) hx hb dL_law_248 ?_
  refine ix_iadd hx hb dL_law_249 ?_
  refine ix_sld (k := i + 1) hx hb hX hbl hbA hS (by omega) (by omega) hL dL_law_250 ?_
  have hPc := hP.sub (ws' := [(x, .inr (2, [.int (iI v.1), .ref n2, .ref r2, .ref d2, .int (iI v.2.1), .int (iI v.2.2.2.2.2.1), .ref ya, .ref yb, .ref yc, .ref yo, .long (lI (v.2.2.1 0)), .long (lI (v.2.2.1 1)), .long (lI (v.2.2.1 2)), .long (lI (v.2.2.1 3)), .long (lI (v.2.2.1 4)), .long (lI (v.2.2.1 5)), .long (lI (v.2.2.1 6))])), (n2, .inl (cI2, 5, .inl (aI N))), (r2, .inl (cJ, 5, .inr (.inl (aL v.2.2.2.1))))]) [10, 11, 12] rfl
  have hDc := hD.sub (ws' := [(x, .inr (2, [.int (iI v.1), .ref n2, .ref r2, .ref d2, .int (iI v.2.1), .int (iI v.2.2.2.2.2.1), .ref ya, .ref yb, .ref yc, .ref yo, .long (lI (v.2.2.1 0)), .long (lI (v.2.2.1 1)), .long (lI (v.2.2.1 2)), .long (lI (v.2.2.1 3)), .long (lI (v.2.2.1 4)), .long (lI (v.2.2.1 5)), .long (lI (v.2.2.1 6))])), (n2, .inl (cI2, 5, .inl (aI N))), (r2, .inl (cJ, 5, .inr (.inl (aL v.2.2.2.1))))]) [10, 11, 12] (by decide) rfl
  have hKc := hK.sub (tys' := [(cI2, .int), (cJ, .long)]) [3, 4] rfl
  have hFc := va_free (wc := [(x, .inr (2, [.int (iI v.1), .ref n2, .ref r2, .ref d2, .int (iI v.2.1), .int (iI v.2.2.2.2.2.1), .ref ya, .ref yb, .ref yc, .ref yo, .long (lI (v.2.2.1 0)), .long (lI (v.2.2.1 1)), .long (lI (v.2.2.1 2)), .long (lI (v.2.2.1 3)), .long (lI (v.2.2.1 4)), .long (lI (v.2.2.1 5)), .long (lI (v.2.2.1 6))])), (n2, .inl (cI2, 5, .inl (aI N))), (r2, .inl (cJ, 5, .inr (.inl (aL v.2.2.2.1))))]) hD hS hA [10, 11, 12] rfl
  refine va_calli (va_runV (As := [.int (iI (sc xs (i + 1)))]) (rest := []) ⟨hx, hb, hml, hown, hw⟩ (kX2_change l dC dI _ x n2 r2 d2 ya yb yc yo cI2 cJ v.1 v.2.1 v.2.2.2.2.2.1 v.2.2.1 N v.2.2.2.1 hN h5 hmi.1 (sc xs (i + 1)) (sc_r _ _)) (cwV 1 hw (gV mA_456 mA_457 mA_458 mA_3 mA_459) rfl rfl rfl (by decide +kernel) ⟨Nat.le_of_ble_eq_true rfl, Nat.le_of_ble_eq_true rfl⟩) ⟨fun a U g mk q => by obtain ⟨q0, q1, qP, qK, qD, qN⟩ := q; exact ⟨q0, q1, qP, va_K.moved (u := U) (U := U.calling g mk a) (Vm.Alike.refl U.vm) qK, qD, nb.same (u := U) rfl qN⟩, va_recv hKc hPc (ci := 2) (q0 := 0) rfl rfl, fun U hU hW => ⟨rfl, by rw [hU], by rw [hU]; exact hPc, va_K.moved hW.alike hKc, hDc.weaken (fun _ _ _ _ => trivial), nb.warm hW hnb⟩⟩ rfl rfl hl.1 rfl (lv_room (Nat.le_of_ble_eq_true rfl)) dL_law_251 ⟨by show _ ≤ 672099; omega, by show _ ≤ 7079807; omega⟩) hS (fun q _ h => hFc q h) hFc (fun r6 v4 t9 H1 locs ht hvm hv5 hB hz1 hk1 hS => ?_)
  obtain ⟨hP1, hK1, hD1⟩ := hB
  rw [ht] at hP1
  obtain ⟨hP, hD⟩ := va_join (wr := [(h, .inr (1, [.ref n, .ref r, .ref d, .ref f, .int (iI u2.2.2.2.2.2.2.1), .int (iI u2.2.2.2.2.2.1), .int (iI u2.2.2.2.2.2.2.2.1)])), (n, .inl (cI, 5, .inl (aI u2.2.2.1))), (r, .inl (cI, 5, .inl (aI u2.2.2.2.1))), (d, .inl (cI, 5, .inl (aI u2.2.2.2.2.1))), (f, .inl (cF, 4, .inr (.inr (.inr (.inr (q4 u2.2.2.2.2.2.2.2.2.1.1 u2.2.2.2.2.2.2.2.2.1.2.1 u2.2.2.2.2.2.2.2.2.1.2.2.1 u2.2.2.2.2.2.2.2.2.1.2.2.2)))))), (u2.2.2.2.2.2.2.2.2.1.1, .inr (0, fl (u2.2.2.2.2.2.2.2.2.2 0))), (u2.2.2.2.2.2.2.2.2.1.2.1, .inr (0, fl (u2.2.2.2.2.2.2.2.2.2 1))), (u2.2.2.2.2.2.2.2.2.1.2.2.1, .inr (0, fl (u2.2.2.2.2.2.2.2.2.2 2))), (u2.2.2.2.2.2.2.2.2.1.2.2.2, .inr (0, fl (u2.2.2.2.2.2.2.2.2.2 3))), (o, .inl (cO, 1, .inr (.inl (aL u2.2.1)))), (d2, .inl (cJ, 5, .inr (.inl (aL v.2.2.2.2.1)))), (ya, .inl (cI2, 5, .inl (aI v.2.2.2.2.2.2.1))), (yb, .inl (cI2, 5, .inl (aI v.2.2.2.2.2.2.2.1))), (yc, .inl (cI2, 5, .inl (aI v.2.2.2.2.2.2.2.2.1))), (yo, .inl (cI2, 5, .inl (aI v.2.2.2.2.2.2.2.2.2)))]) (w1 := [(x, .inr (2, [.int (iI v4.1), .ref n2, .ref r2, .ref d2, .int (iI v.2.1), .int (iI v.2.2.2.2.2.1), .ref ya, .ref yb, .ref yc, .ref yo, .long (lI (v.2.2.1 0)), .long (lI (v.2.2.1 1)), .long (lI (v.2.2.1 2)), .long (lI (v.2.2.1 3)), .long (lI (v.2.2.1 4)), .long (lI (v.2.2.1 5)), .long (lI (v.2.2.1 6))])), (n2, .inl (cI2, 5, .inl (aI v4.2.1))), (r2, .inl (cJ, 5, .inr (.inl (aL v4.2.2))))]) hP hD [10, 11, 12] [0, 1, 2, 3, 4, 5, 6, 7, 8, 9, 13, 14, 15, 16, 17] rfl rfl (by decide) (by decide) hk1 hFc hP1 hD1
  generalize H1 = H at hP hS ⊢
  have hP := hP.sub (ws' := (lwd h n r d f cI cF u2.2.2.1 u2.2.2.2 o cO u2.2.1 x n2 r2 d2 ya yb yc yo cI2 cJ v4.2.1 (v4.1, v.2.1, v.2.2.1, v4.2.2, v.2.2.2.2))) [0, 1, 2, 3, 4, 5, 6, 7, 8, 9, 15, 16, 17, 10, 11, 12, 13, 14] rfl
  have hD := hD.sub (ws' := (lwd h n r d f cI cF u2.2.2.1 u2.2.2.2 o cO u2.2.1 x n2 r2 d2 ya yb yc yo cI2 cJ v4.2.1 (v4.1, v.2.1, v.2.2.1, v4.2.2, v.2.2.2.2))) [0, 1, 2, 3, 4, 5, 6, 7, 8, 9, 15, 16, 17, 10, 11, 12, 13, 14] (by decide) rfl
  refine lv_istore (lv' := [(6, .int r6), (5, .int (iI u2.1)), (0, .ref b), (1, .ref h), (2, .ref x), (3, .ref o), (4, .int (iI i))]) hx hb dL_law_254 hl (by decide) rfl (fun ls hl => ?_)
  refine lv_aload_n hx hb dL_law_256 rfl (lv_at hl 4 rfl) ?_
  have hPc := hP.sub (ws' := [(x, .inr (2, [.int (iI ((v4.1, v.2.1, v.2.2.1, v4.2.2, v.2.2.2.2).1)), .ref n2, .ref r2, .ref d2, .int (iI ((v4.1, v.2.1, v.2.2.1, v4.2.2, v.2.2.2.2).2.1)), .int (iI ((v4.1, v.2.1, v.2.2.1, v4.2.2, v.2.2.2.2).2.2.2.2.2.1)), .ref ya, .ref yb, .ref yc, .ref yo, .long (lI (((v4.1, v.2.1, v.2.2.1, v4.2.2, v.2.2.2.2).2.2.1) 0)), .long (lI (((v4.1, v.2.1, v.2.2.1, v4.2.2, v.2.2.2.2).2.2.1) 1)), .long (lI (((v4.1, v.2.1, v.2.2.1, v4.2.2, v.2.2.2.2).2.2.1) 2)), .long (lI (((v4.1, v.2.1, v.2.2.1, v4.2.2, v.2.2.2.2).2.2.1) 3)), .long (lI (((v4.1, v.2.1, v.2.2.1, v4.2.2, v.2.2.2.2).2.2.1) 4)), .long (lI (((v4.1, v.2.1, v.2.2.1, v4.2.2, v.2.2.2.2).2.2.1) 5)), .long (lI (((v4.1, v.2.1, v.2.2.1, v4.2.2, v.2.2.2.2).2.2.1) 6))]))]) [10] rfl
  have hKc := hK.sub (tys' := []) [] rfl
  refine vp_callSi (W.runV (As := []) (rest := []) ⟨hx, hb, hml, hown, hw⟩ (kX2_thrown l dC dI x n2 r2 d2 ya yb yc yo cI2 cJ (v4.1, v.2.1, v.2.2.1, v4.2.2, v.2.2.2.2).1 (v4.1, v.2.1, v.2.2.1, v4.2.2, v.2.2.2.2).2.1 (v4.1, v.2.1, v.2.2.1, v4.2.2, v.2.2.2.2).2.2.2.2.2.1 (v4.1, v.2.1, v.2.2.1, v4.2.2, v.2.2.2.2).2.2.1) (cwV 0 hw (gV mA_434 mA_435 mA_436 mA_3 mA_437) rfl rfl rfl (by decide +kernel) ⟨Nat.le_of_ble_eq_true rfl, Nat.le_of_ble_eq_true rfl⟩) ⟨fun a U g mk q => by obtain ⟨q0, qP, qK⟩ := q; exact ⟨q0, qP, va_K.moved (u := U) (U := U.calling g mk a) (Vm.Alike.refl U.vm) qK⟩, va_recv hKc hPc (ci := 2) (q0 := 0) rfl rfl, fun U hU hW => ⟨rfl, by rw [hU]; exact hPc, va_K.moved hW.alike hKc⟩⟩ rfl rfl hl.1 rfl (lv_room (Nat.le_of_ble_eq_true rfl)) dL_law_257 ⟨by show _ ≤ 672099; omega, by show _ ≤ 7079807; omega⟩) (fun r7 h8 => ?_)
  subst h8
  refine W.eq (g2 := F0 m 260 ls [.int (iI (v4.1, v.2.1, v.2.2.1, v4.2.2, v.2.2.2.2).1)]) rfl ?_
  refine lv_iload hx hb dL_law_260 (lv_at hl 1 rfl) ?_
  obtain ⟨g1, g3⟩ := hv5
  obtain ⟨hL1, f2, hL2⟩ := L_change (ι := iI) hH g3
  have eM : v4.2.1 = u2.2.2.1 := f2.symm
  rw [eM] at hP hD
  refine ix_icmp_eq (tgt := 267) hx hb dL_law_262 (by decide) (show r32 (v4.1, v.2.1, v.2.2.1, v4.2.2, v.2.2.2.2).1 by rw [show (v4.1, v.2.1, v.2.2.1, v4.2.2, v.2.2.2.2).1 = u2.1 from hL1]; exact ⟨by omega, by omega⟩) ⟨by omega, by omega⟩ (fun _ => ?_) (fun c9 => absurd hL1 c9)
  refine lv_iload hx hb dL_law_267 (lv_at hl 1 rfl) ?_
  refine ix_if_ne (tgt := 291) hx hb dL_law_269 (by decide) ⟨by omega, by omega⟩ (fun c9 => ?_) (fun c9 => ?_)
  · refine lv_goto (tgt := 849) hx hb dL_law_291 (by decide) ?_
    refine W.widen (k := cells + 5) (n := slots + 30) (by omega) (by omega) ?_
    exact kk u2.2.2.1 u2.2.1 u2.2.2.2 (v4.1, v.2.1, v.2.2.1, v4.2.2, v.2.2.2.2) _ _ hH.1 ⟨g1, hmi.2⟩ hO1 hP hD hS ls (lv_sub hl [2, 3, 4, 5, 6] rfl)
  · have h0 : u2.1 = 0 := by omega
    have hb9 := hL2 h0
    rw [hb9.1] at hl
    refine lv_aload_n hx hb dL_law_272 rfl (lv_at hl 5 rfl) ?_
    refine ix_iconst (n := 0) hx hb dL_law_273 ?_
    refine ix_lald (k := 0) hx hb hK hP 9 2 rfl rfl (by decide) (by decide) (by decide) dL_law_274 ?_
    refine lv_iload hx hb dL_law_275 (lv_at hl 0 rfl) ?_
    refine ix_if_eq (tgt := 284) hx hb dL_law_277 (by decide) hO1 (fun c10 => ?_) (fun c10 => ?_)
    · refine ix_lconst0 hx hb dL_law_284 ?_
      refine ix_lc_eq (tgt := 291) hx hb dL_law_285 dL_law_286 (by decide) ⟨by have := hO1.1; omega, by have := hO1.2; omega⟩ (by decide) (fun _ => ?_) (fun c9 => absurd c10 c9)
      refine lv_goto (tgt := 849) hx hb dL_law_291 (by decide) ?_
      refine W.widen (k := cells + 5) (n := slots + 30) (by omega) (by omega) ?_
      exact kk u2.2.2.1 u2.2.1 u2.2.2.2 (v4.1, v.2.1, v.2.2.1, v4.2.2, v.2.2.2.2) _ _ hH.1 ⟨g1, hmi.2⟩ hO1 hP hD hS ls (lv_sub hl [2, 3, 4, 5, 6] rfl)
    · refine ix_lconst1 hx hb dL_law_280 ?_
      refine lv_goto (tgt := 285) hx hb dL_law_281 (by decide) ?_
      refine ix_lc_eq (tgt := 291) hx hb dL_law_285 dL_law_286 (by decide) ⟨by have := hO1.1; omega, by have := hO1.2; omega⟩ (by decide) (fun _ => ?_) (fun c9 => absurd (hb9.2.resolve_left c10) c9)
      refine lv_goto (tgt := 849) hx hb dL_law_291 (by decide) ?_
      refine W.widen (k := cells + 5) (n := slots + 30) (by omega) (by omega) ?_
      exact kk u2.2.2.1 u2.2.1 u2.2.2.2 (v4.1, v.2.1, v.2.2.1, v4.2.2, v.2.2.2.2) _ _ hH.1 ⟨g1, hmi.2⟩ hO1 hP hD hS ls (lv_sub hl [2, 3, 4, 5, 6] rfl)
set_option maxHeartbeats 4000000 in
set_option maxRecDepth 100000 in
theorem lc_factors {p : Program} {l : Launch} {e : Env} {s : State} {m : MethodId} {below : List Frame} {meth : Method} {c : Code} {dC : Nat → ClassId} {dI : Nat → Nat → Nat} {b L : Nat} {xs : Nat → Int32} {A : Nat → Prop} {h n r d f o x n2 r2 d2 ya yb yc yo : Nat} {cI cF cO cI2 cJ : ClassId} (hlt : l.stackTraces = false) (hL : L ≤ 2560) (hX : va_X b L xs s s.heap) (hbl : b < s.heap.size) (hbA : ¬ A b) (hA : ∀ q : Nat, s.heap.size ≤ q → A q) (hnb : nb s) (hnc : nc s) (hzt : zt A s) (C0 : cx p s m meth c #[Value.ref b] RL cL_law 7 ret) (hK : va_K (dC, dI) vwCl [(cI, .int), (cF, .object RX0), (cO, .long), (cI2, .int), (cJ, .long)] s) {i : Int} (hi : 0 ≤ i ∧ i + 5 ≤ L) {N O : Int → Int} {u : CS} {v : MT} (hci : CIu N u) (hmi : MI v) (hO : r32 (O 0)) {cells slots : Nat} (hcs : cells + 5 ≤ 672099 ∧ slots + 30 ≤ 7079807)
    (kk : ∀ (N O : Int → Int) (u : CS) (v : MT) (H : Heap) (locs : List Loc), CIu N u → MI v → r32 (O 0) → va_P (dC, dI) vwCl (lwd h n r d f cI cF N u o cO O x n2 r2 d2 ya yb yc yo cI2 cJ N v) H → va_D A (lwd h n r d f cI cF N u o cO O x n2 r2 d2 ya yb yc yo cI2 cJ N v) → va_S A s.heap H locs → ∀ (ls : Array Slot), lv_has ls 7 [(0, .ref b), (1, .ref h), (2, .ref x), (3, .ref o), (4, .int (iI i))] → W p l e room_1 s m #[Value.ref b] below meth c H locs (cells + 5) (slots + 30) (lw_Z below #[Value.ref b] s) (F0 m 849 ls []))
    {H : Heap} {locs : List Loc} (hP : va_P (dC, dI) vwCl (lwd h n r d f cI cF N u o cO O x n2 r2 d2 ya yb yc yo cI2 cJ N v) H) (hD : va_D A (lwd h n r d f cI cF N u o cO O x n2 r2 d2 ya yb yc yo cI2 cJ N v)) (hS : va_S A s.heap H locs) {ls : Array Slot} (hl : lv_has ls 7 [(0, .ref b), (1, .ref h), (2, .ref x), (3, .ref o), (4, .int (iI i))]) : W p l e room_1 s m #[Value.ref b] below meth c H locs cells slots (lw_Z below #[Value.ref b] s) (F0 m 294 ls []) := by
  obtain ⟨hx, hb, hr, hml, hown, hw, hlocks⟩ := C0
  have h5 := hci.1
  have hN := hci.2.1
  refine lv_aload_n hx hb dL_law_294 rfl (lv_at hl 1 rfl) ?_
  refine lv_aload_n hx hb dL_law_295 rfl (lv_at hl 3 rfl) ?_
  have hPc := hP.sub (ws' := (cwou h n r d f cI cF N u o cO O)) [0, 1, 2, 3, 4, 5, 6, 7, 8, 9] rfl
  have hDc := hD.sub (ws' := (cwou h n r d f cI cF N u o cO O)) [0, 1, 2, 3, 4, 5, 6, 7, 8, 9] (by decide) rfl
  have hKc := hK.sub (tys' := [(cI, .int), (cF, .object RX0), (cO, .long)]) [0, 1, 2] rfl
  have hFc := va_free (wc := (cwou h n r d f cI cF N u o cO O)) hD hS hA [0, 1, 2, 3, 4, 5, 6, 7, 8, 9] rfl
  refine va_calli (vx_runSW (As := [.ref h, .ref o]) (rest := []) ⟨hx, hb, hml, hown, hw⟩ (kL_factors l hlt dC dI _ h n r d f u.2.2.2.2.2.1.1 u.2.2.2.2.2.1.2.1 u.2.2.2.2.2.1.2.2.1 u.2.2.2.2.2.1.2.2.2 o cI cF cO N u.1 u.2.1 u.2.2.1 u.2.2.2.1 u.2.2.2.2.1 u.2.2.2.2.2.2 O hO hci  ) (vx_cwSW 2 hw (gSW mA_207 mA_208 mA_0 mW_factors) rfl rfl rfl (by decide +kernel) ⟨Nat.le_of_ble_eq_true rfl, Nat.le_of_ble_eq_true rfl⟩) ⟨fun a U g mk q => by obtain ⟨q0, q1, qP, qK, qD, qN, qC, qZ⟩ := q; exact ⟨q0, q1, qP, va_K.moved (u := U) (U := U.calling g mk a) (Vm.Alike.refl U.vm) qK, qD, nb.same (u := U) rfl qN, nc.moved (u := U) (U := U.calling g mk a) (Vm.Alike.refl U.vm) qC, zt.go (u := U) qZ (Vm.Alike.refl U.vm) (fun _ q => q) (fun _ _ _ => rfl)⟩, fun U hU hW => ⟨rfl, by rw [hU], by rw [hU]; exact hPc, va_K.moved hW.alike hKc, hDc.weaken (fun _ _ _ _ => trivial), nb.warm hW hnb, nc.moved hW.alike hnc, zt2 hzt hS hU hW.alike hFc⟩⟩ rfl rfl hl.1 rfl (lv_room (Nat.le_of_ble_eq_true rfl)) dL_law_296 ⟨by show _ ≤ 672099; omega, by show _ ≤ 7079807; omega⟩) hS (fun q _ h => hFc q h) hFc (fun r1 u2 t9 H1 locs ht hvm hq3 hB hz1 hk1 hS => ?_)
  obtain ⟨hP1, hK1, hD1⟩ := hB
  rw [ht] at hP1
  obtain ⟨e1, hO1, hH⟩ := hq3
  subst e1
  obtain ⟨hP, hD⟩ := va_join (wr := [(x, .inr (2, [.int (iI v.1), .ref n2, .ref r2, .ref d2, .int (iI v.2.1), .int (iI v.2.2.2.2.2.1), .ref ya, .ref yb, .ref yc, .ref yo, .long (lI (v.2.2.1 0)), .long (lI (v.2.2.1 1)), .long (lI (v.2.2.1 2)), .long (lI (v.2.2.1 3)), .long (lI (v.2.2.1 4)), .long (lI (v.2.2.1 5)), .long (lI (v.2.2.1 6))])), (n2, .inl (cI2, 5, .inl (aI N))), (r2, .inl (cJ, 5, .inr (.inl (aL v.2.2.2.1)))), (d2, .inl (cJ, 5, .inr (.inl (aL v.2.2.2.2.1)))), (ya, .inl (cI2, 5, .inl (aI v.2.2.2.2.2.2.1))), (yb, .inl (cI2, 5, .inl (aI v.2.2.2.2.2.2.2.1))), (yc, .inl (cI2, 5, .inl (aI v.2.2.2.2.2.2.2.2.1))), (yo, .inl (cI2, 5, .inl (aI v.2.2.2.2.2.2.2.2.2)))]) (w1 := (cwou h n r d f cI cF N u2.2.2 o cO u2.2.1)) hP hD [0, 1, 2, 3, 4, 5, 6, 7, 8, 9] [10, 11, 12, 13, 14, 15, 16, 17] rfl rfl (by decide) (by decide) hk1 hFc hP1 hD1
  generalize H1 = H at hP hS ⊢
  have hP := hP.sub (ws' := (lwd h n r d f cI cF N u2.2.2 o cO u2.2.1 x n2 r2 d2 ya yb yc yo cI2 cJ N v)) [8, 9, 10, 11, 12, 13, 14, 15, 16, 17, 0, 1, 2, 3, 4, 5, 6, 7] rfl
  have hD := hD.sub (ws' := (lwd h n r d f cI cF N u2.2.2 o cO u2.2.1 x n2 r2 d2 ya yb yc yo cI2 cJ N v)) [8, 9, 10, 11, 12, 13, 14, 15, 16, 17, 0, 1, 2, 3, 4, 5, 6, 7] (by decide) rfl
  have hkc := R_factors hH
  refine lv_istore (lv' := [(5, .int (iI u2.1)), (0, .ref b), (1, .ref h), (2, .ref x), (3, .ref o), (4, .int (iI i))]) hx hb dL_law_299 hl (by decide) rfl (fun ls hl => ?_)
  refine lv_aload_n hx hb dL_law_301 rfl (lv_at hl 3 rfl) ?_
  have hPc := hP.sub (ws' := (mwu x n2 r2 d2 ya yb yc yo cI2 cJ N v)) [10, 11, 12, 13, 14, 15, 16, 17] rfl
  have hDc := hD.sub (ws' := (mwu x n2 r2 d2 ya yb yc yo cI2 cJ N v)) [10, 11, 12, 13, 14, 15, 16, 17] (by decide) rfl
  have hKc := hK.sub (tys' := [(cI2, .int), (cJ, .long)]) [3, 4] rfl
  have hFc := va_free (wc := (mwu x n2 r2 d2 ya yb yc yo cI2 cJ N v)) hD hS hA [10, 11, 12, 13, 14, 15, 16, 17] rfl
  refine va_calli (va_runV (As := []) (rest := []) ⟨hx, hb, hml, hown, hw⟩ (kX2_factors l dC dI _ x n2 r2 d2 ya yb yc yo cI2 cJ v.1 v.2.1 v.2.2.2.2.2.1 v.2.2.1 N v.2.2.2.1 v.2.2.2.2.1 v.2.2.2.2.2.2.1 v.2.2.2.2.2.2.2.1 v.2.2.2.2.2.2.2.2.1 v.2.2.2.2.2.2.2.2.2 hN h5 hmi.1 hmi.2  ) (cwV 0 hw (gV mA_466 mA_467 mA_468 mA_3 mA_469) rfl rfl rfl (by decide +kernel) ⟨Nat.le_of_ble_eq_true rfl, Nat.le_of_ble_eq_true rfl⟩) ⟨fun a U g mk q => by obtain ⟨q0, q1, qP, qK, qD, qN⟩ := q; exact ⟨q0, q1, qP, va_K.moved (u := U) (U := U.calling g mk a) (Vm.Alike.refl U.vm) qK, qD, nb.same (u := U) rfl qN⟩, va_recv hKc hPc (ci := 2) (q0 := 0) rfl rfl, fun U hU hW => ⟨rfl, by rw [hU], by rw [hU]; exact hPc, va_K.moved hW.alike hKc, hDc.weaken (fun _ _ _ _ => trivial), nb.warm hW hnb⟩⟩ rfl rfl hl.1 rfl (lv_room (Nat.le_of_ble_eq_true rfl)) dL_law_302 ⟨by show _ ≤ 672099; omega, by show _ ≤ 7079807; omega⟩) hS (fun q _ h => hFc q h) hFc (fun r6 v4 t9 H1 locs ht hvm hv5 hB hz1 hk1 hS => ?_)
  obtain ⟨hP1, hK1, hD1⟩ := hB
  rw [ht] at hP1
  obtain ⟨hP, hD⟩ := va_join (wr := [(h, .inr (1, [.ref n, .ref r, .ref d, .ref f, .int (iI u2.2.2.2.2.2.1), .int (iI u2.2.2.2.2.1), .int (iI u2.2.2.2.2.2.2.1)])), (n, .inl (cI, 5, .inl (aI N))), (r, .inl (cI, 5, .inl (aI u2.2.2.1))), (d, .inl (cI, 5, .inl (aI u2.2.2.2.1))), (f, .inl (cF, 4, .inr (.inr (.inr (.inr (q4 u2.2.2.2.2.2.2.2.1.1 u2.2.2.2.2.2.2.2.1.2.1 u2.2.2.2.2.2.2.2.1.2.2.1 u2.2.2.2.2.2.2.2.1.2.2.2)))))), (u2.2.2.2.2.2.2.2.1.1, .inr (0, fl (u2.2.2.2.2.2.2.2.2 0))), (u2.2.2.2.2.2.2.2.1.2.1, .inr (0, fl (u2.2.2.2.2.2.2.2.2 1))), (u2.2.2.2.2.2.2.2.1.2.2.1, .inr (0, fl (u2.2.2.2.2.2.2.2.2 2))), (u2.2.2.2.2.2.2.2.1.2.2.2, .inr (0, fl (u2.2.2.2.2.2.2.2.2 3))), (o, .inl (cO, 1, .inr (.inl (aL u2.2.1))))]) (w1 := (mwu x n2 r2 d2 ya yb yc yo cI2 cJ N v4)) hP hD [10, 11, 12, 13, 14, 15, 16, 17] [0, 1, 2, 3, 4, 5, 6, 7, 8, 9] rfl rfl (by decide) (by decide) hk1 hFc hP1 hD1
  generalize H1 = H at hP hS ⊢
  have hP := hP.sub (ws' := (lwd h n r d f cI cF N u2.2.2 o cO u2.2.1 x n2 r2 d2 ya yb yc yo cI2 cJ N v4)) [0, 1, 2, 3, 4, 5, 6, 7, 8, 9, 10, 11, 12, 13, 14, 15, 16, 17] rfl
  have hD := hD.sub (ws' := (lwd h n r d f cI cF N u2.2.2 o cO u2.2.1 x n2 r2 d2 ya yb yc yo cI2 cJ N v4)) [0, 1, 2, 3, 4, 5, 6, 7, 8, 9, 10, 11, 12, 13, 14, 15, 16, 17] (by decide) rfl
  refine lv_istore (lv' := [(6, .int r6), (5, .int (iI u2.1)), (0, .ref b), (1, .ref h), (2, .ref x), (3, .ref o), (4, .int (iI i))]) hx hb dL_law_305 hl (by decide) rfl (fun ls hl => ?_)
  refine lv_aload_n hx hb dL_law_307 rfl (lv_at hl 4 rfl) ?_
  have hPc := hP.sub (ws' := [(x, .inr (2, [.int (iI v4.1), .ref n2, .ref r2, .ref d2, .int (iI v4.2.1), .int (iI v4.2.2.2.2.2.1), .ref ya, .ref yb, .ref yc, .ref yo, .long (lI (v4.2.2.1 0)), .long (lI (v4.2.2.1 1)), .long (lI (v4.2.2.1 2)), .long (lI (v4.2.2.1 3)), .long (lI (v4.2.2.1 4)), .long (lI (v4.2.2.1 5)), .long (lI (v4.2.2.1 6))]))]) [10] rfl
  have hKc := hK.sub (tys' := []) [] rfl
  refine vp_callSi (W.runV (As := []) (rest := []) ⟨hx, hb, hml, hown, hw⟩ (kX2_thrown l dC dI x n2 r2 d2 ya yb yc yo cI2 cJ v4.1 v4.2.1 v4.2.2.2.2.2.1 v4.2.2.1) (cwV 0 hw (gV mA_434 mA_435 mA_436 mA_3 mA_437) rfl rfl rfl (by decide +kernel) ⟨Nat.le_of_ble_eq_true rfl, Nat.le_of_ble_eq_true rfl⟩) ⟨fun a U g mk q => by obtain ⟨q0, qP, qK⟩ := q; exact ⟨q0, qP, va_K.moved (u := U) (U := U.calling g mk a) (Vm.Alike.refl U.vm) qK⟩, va_recv hKc hPc (ci := 2) (q0 := 0) rfl rfl, fun U hU hW => ⟨rfl, by rw [hU]; exact hPc, va_K.moved hW.alike hKc⟩⟩ rfl rfl hl.1 rfl (lv_room (Nat.le_of_ble_eq_true rfl)) dL_law_308 ⟨by show _ ≤ 672099; omega, by show _ ≤ 7079807; omega⟩) (fun r7 h8 => ?_)
  subst h8
  refine W.eq (g2 := F0 m 311 ls [.int (iI v4.1)]) rfl ?_
  refine lv_iload hx hb dL_law_311 (lv_at hl 1 rfl) ?_
  obtain ⟨g1, g3⟩ := hv5
  obtain ⟨hL1, hL2⟩ := L_factors (ι := iI)  hH g3
  refine ix_icmp_eq (tgt := 318) hx hb dL_law_313 (by decide) (show r32 v4.1 by rw [show v4.1 = u2.1 from hL1]; exact ⟨by omega, by omega⟩) ⟨by omega, by omega⟩ (fun _ => ?_) (fun c9 => absurd hL1 c9)
  refine lv_iload hx hb dL_law_318 (lv_at hl 1 rfl) ?_
  refine ix_if_ne (tgt := 335) hx hb dL_law_320 (by decide) ⟨by omega, by omega⟩ (fun c9 => ?_) (fun c9 => ?_)
  · refine lv_goto (tgt := 849) hx hb dL_law_335 (by decide) ?_
    refine W.widen (k := cells + 5) (n := slots + 30) (by omega) (by omega) ?_
    exact kk N u2.2.1 u2.2.2 v4 _ _ hH.1 g1 hO1 hP hD hS ls (lv_sub hl [2, 3, 4, 5, 6] rfl)
  · have h0 : u2.1 = 0 := by omega
    have hb9 := hL2 h0
    rw [hb9] at hl
    refine lv_aload_n hx hb dL_law_323 rfl (lv_at hl 5 rfl) ?_
    refine ix_iconst (n := 0) hx hb dL_law_324 ?_
    refine ix_lald (k := 0) hx hb hK hP 9 2 rfl rfl (by decide) (by decide) (by decide) dL_law_325 ?_
    refine lv_iload hx hb dL_law_326 (lv_at hl 0 rfl) ?_
    refine ix_i2l hx hb dL_law_328 ⟨by omega, by omega⟩ ?_
    refine ix_lc_eq (tgt := 335) hx hb dL_law_329 dL_law_330 (by decide) ⟨by have := hO1.1; omega, by have := hO1.2; omega⟩ ⟨by have := hO1.1; omega, by have := hO1.2; omega⟩ (fun _ => ?_) (fun c9 => absurd rfl c9)
    refine lv_goto (tgt := 849) hx hb dL_law_335 (by decide) ?_
    refine W.widen (k := cells + 5) (n := slots + 30) (by omega) (by omega) ?_
    exact kk N u2.2.1 u2.2.2 v4 _ _ hH.1 g1 hO1 hP hD hS ls (lv_sub hl [2, 3, 4, 5, 6] rfl)
