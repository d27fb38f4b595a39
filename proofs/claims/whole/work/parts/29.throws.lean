abbrev EIOB : String := "java/lang/IndexOutOfBoundsException"
theorem atIOB_g : ∀ w ∈ (vx_atS RX1 139 EIOB ["java/lang/RuntimeException", "java/lang/Exception"]).filter goodWord, w ∈ wsA := fun w h => List.mem_filter.mpr ⟨(by decide +kernel : ∀ w ∈ (vx_atS RX1 139 EIOB ["java/lang/RuntimeException", "java/lang/Exception"]).filter goodWord, w ∈ lw_tbl) w h, (List.mem_filter.mp h).2⟩
theorem atIOB_b : ∀ w ∈ (vx_atS RX1 139 EIOB ["java/lang/RuntimeException", "java/lang/Exception"]).filter (fun w => !goodWord w), w ∈ wsN := by decide +kernel
theorem atIOB_o : ∀ w ∈ Cond.classLink RX1 135 EIOB :: Cond.initialized EIOB :: vx_atS RX1 139 EIOB ["java/lang/RuntimeException", "java/lang/Exception"], vx_ot w = true := by decide +kernel
theorem thIOB {p : Program} {l : Launch} {e : Env} {R : Room} {s : State} {m : MethodId} {args : Array Value} {below : List Frame} {meth : Method} {c : Code} {H : Heap} {locs : List Loc} {cells slots mc ms : Nat} {ls : Array Slot} {rest : List Value} {Qc : Array Value → State → Outcome → State → Prop} {XC : String → State → State → Prop} {free : Addr → Prop} {cc : ByteArray} {pc : Nat} {A : Nat → Prop} {is : Nat} {tx : String} (hx : p.tables.exec = Jvm.exec) (hb : c.code = cc) (hl : l.stackTraces = false) (hown : s.vm.findClass RX1 = some m.cls) (hw : ∀ w ∈ wsA, w.before args s = true) (hnb : nb s) (ht : (is, tx) ∈ wsT) (hzt : zt A s) (hS : va_S A s.heap H locs) (hsize : ls.size = c.maxLocals)
    (d0 : decode cc pc = .ok (.new 135, 3)) (d3 : decode cc (pc + 3) = .ok (.dup, 1)) (d4 : decode cc (pc + 4) = .ok (.ldc is, 2)) (d6 : decode cc (pc + 6) = .ok (.invokespecial 139, 3)) (d9 : decode cc (pc + 9) = .ok (.athrow, 1))
    (hout : ∀ x ∈ c.exceptionTable.toList, False) (hRframes : 5 < R.frames) (hRlocals : (rest.map fun v => v.category).sum + 82 ≤ R.locals) (hRcells : cells + 1 ≤ R.cells) (hRslots : slots + 6 ≤ R.slots) (hlocks : meth.locks = false)
    (hxc : ∀ t : State, s.vm.Alike t.vm → H.size ≤ t.heap.size → (∀ q : Nat, q < H.size → t.heap[q]? = H[q]?) → XC EIOB s t) (hf : ∀ z ∈ locs, free z.base) (hc : cells + 1 ≤ mc) (hs : slots + 6 ≤ ms) : W p l e R s m args below meth c H locs cells slots (vx_MQ below Qc XC args s mc ms free) (F0 m pc ls rest) := by
  obtain ⟨sa, hsa⟩ := hnb.2.2 _ ht
  exact vx_throwS hx hb hl (names := ["java/lang/RuntimeException", "java/lang/Exception"]) hown (by decide +kernel) (by decide +kernel) (hw _ mA_91) (hw _ mA_7) hsa (vx_hat (B := wsN) (fun w h => hw w (atIOB_g w h)) atIOB_b (fun w h => hnb.use h)) atIOB_o hzt.1 hzt.2 hS hsize d0 d3 d4 d6 d9 (fun x h => (hout x h).elim) hRframes hRlocals hRcells hRslots hlocks hxc hf hc hs
abbrev EIAE : String := "java/lang/IllegalArgumentException"
theorem atIAE_g : ∀ w ∈ (vx_atS RX1 38 EIAE ["java/lang/RuntimeException", "java/lang/Exception"]).filter goodWord, w ∈ wsA := fun w h => List.mem_filter.mpr ⟨(by decide +kernel : ∀ w ∈ (vx_atS RX1 38 EIAE ["java/lang/RuntimeException", "java/lang/Exception"]).filter goodWord, w ∈ lw_tbl) w h, (List.mem_filter.mp h).2⟩
theorem atIAE_b : ∀ w ∈ (vx_atS RX1 38 EIAE ["java/lang/RuntimeException", "java/lang/Exception"]).filter (fun w => !goodWord w), w ∈ wsN := by decide +kernel
theorem atIAE_o : ∀ w ∈ Cond.classLink RX1 34 EIAE :: Cond.initialized EIAE :: vx_atS RX1 38 EIAE ["java/lang/RuntimeException", "java/lang/Exception"], vx_ot w = true := by decide +kernel
theorem thIAE {p : Program} {l : Launch} {e : Env} {R : Room} {s : State} {m : MethodId} {args : Array Value} {below : List Frame} {meth : Method} {c : Code} {H : Heap} {locs : List Loc} {cells slots mc ms : Nat} {ls : Array Slot} {rest : List Value} {Qc : Array Value → State → Outcome → State → Prop} {XC : String → State → State → Prop} {free : Addr → Prop} {cc : ByteArray} {pc : Nat} {A : Nat → Prop} {is : Nat} {tx : String} (hx : p.tables.exec = Jvm.exec) (hb : c.code = cc) (hl : l.stackTraces = false) (hown : s.vm.findClass RX1 = some m.cls) (hw : ∀ w ∈ wsA, w.before args s = true) (hnb : nb s) (ht : (is, tx) ∈ wsT) (hzt : zt A s) (hS : va_S A s.heap H locs) (hsize : ls.size = c.maxLocals)
    (d0 : decode cc pc = .ok (.new 34, 3)) (d3 : decode cc (pc + 3) = .ok (.dup, 1)) (d4 : decode cc (pc + 4) = .ok (.ldc is, 2)) (d6 : decode cc (pc + 6) = .ok (.invokespecial 38, 3)) (d9 : decode cc (pc + 9) = .ok (.athrow, 1))
    (hout : ∀ x ∈ c.exceptionTable.toList, False) (hRframes : 5 < R.frames) (hRlocals : (rest.map fun v => v.category).sum + 82 ≤ R.locals) (hRcells : cells + 1 ≤ R.cells) (hRslots : slots + 6 ≤ R.slots) (hlocks : meth.locks = false)
    (hxc : ∀ t : State, s.vm.Alike t.vm → H.size ≤ t.heap.size → (∀ q : Nat, q < H.size → t.heap[q]? = H[q]?) → XC EIAE s t) (hf : ∀ z ∈ locs, free z.base) (hc : cells + 1 ≤ mc) (hs : slots + 6 ≤ ms) : W p l e R s m args below meth c H locs cells slots (vx_MQ below Qc XC args s mc ms free) (F0 m pc ls rest) := by
  obtain ⟨sa, hsa⟩ := hnb.2.2 _ ht
  exact vx_throwS hx hb hl (names := ["java/lang/RuntimeException", "java/lang/Exception"]) hown (by decide +kernel) (by decide +kernel) (hw _ mA_162) (hw _ mA_8) hsa (vx_hat (B := wsN) (fun w h => hw w (atIAE_g w h)) atIAE_b (fun w h => hnb.use h)) atIAE_o hzt.1 hzt.2 hS hsize d0 d3 d4 d6 d9 (fun x h => (hout x h).elim) hRframes hRlocals hRcells hRslots hlocks hxc hf hc hs
abbrev EISE : String := "java/lang/IllegalStateException"
theorem atISE_g : ∀ w ∈ (vx_atS RX1 151 EISE ["java/lang/RuntimeException", "java/lang/Exception"]).filter goodWord, w ∈ wsA := fun w h => List.mem_filter.mpr ⟨(by decide +kernel : ∀ w ∈ (vx_atS RX1 151 EISE ["java/lang/RuntimeException", "java/lang/Exception"]).filter goodWord, w ∈ lw_tbl) w h, (List.mem_filter.mp h).2⟩
theorem atISE_b : ∀ w ∈ (vx_atS RX1 151 EISE ["java/lang/RuntimeException", "java/lang/Exception"]).filter (fun w => !goodWord w), w ∈ wsN := by decide +kernel
theorem atISE_o : ∀ w ∈ Cond.classLink RX1 147 EISE :: Cond.initialized EISE :: vx_atS RX1 151 EISE ["java/lang/RuntimeException", "java/lang/Exception"], vx_ot w = true := by decide +kernel
theorem thISE {p : Program} {l : Launch} {e : Env} {R : Room} {s : State} {m : MethodId} {args : Array Value} {below : List Frame} {meth : Method} {c : Code} {H : Heap} {locs : List Loc} {cells slots mc ms : Nat} {ls : Array Slot} {rest : List Value} {Qc : Array Value → State → Outcome → State → Prop} {XC : String → State → State → Prop} {free : Addr → Prop} {cc : ByteArray} {pc : Nat} {A : Nat → Prop} {is : Nat} {tx : String} (hx : p.tables.exec = Jvm.exec) (hb : c.code = cc) (hl : l.stackTraces = false) (hown : s.vm.findClass RX1 = some m.cls) (hw : ∀ w ∈ wsA, w.before args s = true) (hnb : nb s) (ht : (is, tx) ∈ wsT) (hzt : zt A s) (hS : va_S A s.heap H locs) (hsize : ls.size = c.maxLocals)
    (d0 : decode cc pc = .ok (.new 147, 3)) (d3 : decode cc (pc + 3) = .ok (.dup, 1)) (d4 : decode cc (pc + 4) = .ok (.ldc is, 2)) (d6 : decode cc (pc + 6) = .ok (.invokespecial 151, 3)) (d9 : decode cc (pc + 9) = .ok (.athrow, 1))
    (hout : ∀ x ∈ c.exceptionTable.toList, False) (hRframes : 5 < R.frames) (hRlocals : (rest.map fun v => v.category).sum + 82 ≤ R.locals) (hRcells : cells + 1 ≤ R.cells) (hRslots : slots + 6 ≤ R.slots) (hlocks : meth.locks = false)
    (hxc : ∀ t : State, s.vm.Alike t.vm → H.size ≤ t.heap.size → (∀ q : Nat, q < H.size → t.heap[q]? = H[q]?) → XC EISE s t) (hf : ∀ z ∈ locs, free z.base) (hc : cells + 1 ≤ mc) (hs : slots + 6 ≤ ms) : W p l e R s m args below meth c H locs cells slots (vx_MQ below Qc XC args s mc ms free) (F0 m pc ls rest) := by
  obtain ⟨sa, hsa⟩ := hnb.2.2 _ ht
  exact vx_throwS hx hb hl (names := ["java/lang/RuntimeException", "java/lang/Exception"]) hown (by decide +kernel) (by decide +kernel) (hw _ mA_219) (hw _ mA_10) hsa (vx_hat (B := wsN) (fun w h => hw w (atISE_g w h)) atISE_b (fun w h => hnb.use h)) atISE_o hzt.1 hzt.2 hS hsize d0 d3 d4 d6 d9 (fun x h => (hout x h).elim) hRframes hRlocals hRcells hRslots hlocks hxc hf hc hs
/-- nothing old has changed -/
theorem vF0 {s t : State} (h1 : s.heap.size ≤ t.heap.size) (h2 : ∀ q : Nat, q < s.heap.size → t.heap[q]? = s.heap[q]?) : va_F (fun _ => False) s t := ⟨h1, fun q a _ => h2 q a⟩
set_option maxHeartbeats 4000000 in
set_option maxRecDepth 100000 in
/-- 0 .. 4, or it throws -/
theorem kX1_checkPower (l : Launch) (hlt : l.stackTraces = false) (A : Nat → Prop) (v : Int) (h : r32 v) : vx_Met l yX1_checkPower (.code yX1_checkPower cX1_checkPower 1 none :: wsA) ({ frames := 6, cells := 1, slots := 6, locals := 82 }) (fun a9 U => a9 = ([.int (iI v)] : List Value).toArray ∧ nb U ∧ zt A U) (va_Qv (fun _ : Unit => 0 ≤ v ∧ v ≤ 4) (fun _ _ => True) (fun _ => False)) (vx_X (fun _ : Unit => ¬ (0 ≤ v ∧ v ≤ 4)) (fun E _ _ => E = EIOB) (fun _ => False)) 1 6 (fun q => False) := by
  refine vx_ofW (cc := cX1_checkPower) (maxL := 1) (ret := none) (by decide) rfl ?_
  intro p e s m args below meth c s₁ B hml hout hv
  obtain ⟨rfl, hnb, hzt⟩ := hv
  have hx := B.exec
  have hb := B.bytes
  have hr := B.returns
  have hts := atoms_spec (ws := .code yX1_checkPower cX1_checkPower 1 none :: wsA) B.pre
  have hw : ∀ w ∈ wsA, w.before _ s = true := fun w h => hts w (List.mem_cons_of_mem _ h)
  have hown : s.vm.findClass RX1 = some m.cls := findClass_of_methodNamed B.named
  have hlocks := B.notSynchronized
  have hl := lv_entry ([.int (iI v)]) (n := 1) (Nat.le_of_ble_eq_true rfl)
  rw [lg_entry_eq]
  generalize (lg_sl ([.int (iI v)]) ++ List.replicate (1 - (lg_sl ([.int (iI v)])).length) Slot.unset).toArray = ls at hl ⊢
  have hl : lv_has ls 1 [(0, .int (iI v))] := hl
  have hS : va_S A s.heap s.heap [] := va_S.rf
  refine lv_iload_n hx hb dX1_checkPower_0 rfl (lv_at hl 0 rfl) ?_
  refine ix_if_lt (tgt := 9) hx hb dX1_checkPower_1 (by decide) (by omega) (fun c1 => ?_) (fun c1 => ?_)
  · exact thIOB (is := 137) hx hb hlt hown hw hnb (List.mem_of_getElem? (i := 0) rfl) hzt hS (by rw [hml]; exact hl.1) dX1_checkPower_9 dX1_checkPower_12 dX1_checkPower_13 dX1_checkPower_15 dX1_checkPower_18 hout (show 6 ≤ _ from Nat.le_of_ble_eq_true rfl) (Nat.le_of_ble_eq_true rfl) (Nat.le_of_ble_eq_true rfl) (Nat.le_of_ble_eq_true rfl) hlocks (fun t _ t1 t2 => ⟨(), by omega, rfl, vF0 t1 t2⟩) (fun z hz => nomatch hz) (Nat.le_of_ble_eq_true rfl) (Nat.le_of_ble_eq_true rfl)
  · refine lv_iload_n hx hb dX1_checkPower_4 rfl (lv_at hl 0 rfl) ?_
    refine ix_iconst (n := 4) hx hb dX1_checkPower_5 ?_
    refine ix_icmp_le (tgt := 19) hx hb dX1_checkPower_6 (by decide) (by omega) (by decide) (fun c2 => ?_) (fun c2 => ?_)
    · refine vx_ret (W.widen (k := 1) (n := 6) (Nat.le_of_ble_eq_true rfl) (Nat.le_of_ble_eq_true rfl) ?_)
      exact W.vret hx hb hr (fun t ht _ => ⟨⟨(), rfl, by omega, trivial⟩, vF0 (by rw [ht]; exact Nat.le_refl _) (fun q _ => by rw [ht])⟩) (fun z hz => nomatch hz) dX1_checkPower_19
    · exact thIOB (is := 137) hx hb hlt hown hw hnb (List.mem_of_getElem? (i := 0) rfl) hzt hS (by rw [hml]; exact hl.1) dX1_checkPower_9 dX1_checkPower_12 dX1_checkPower_13 dX1_checkPower_15 dX1_checkPower_18 hout (show 6 ≤ _ from Nat.le_of_ble_eq_true rfl) (Nat.le_of_ble_eq_true rfl) (Nat.le_of_ble_eq_true rfl) (Nat.le_of_ble_eq_true rfl) hlocks (fun t _ t1 t2 => ⟨(), by omega, rfl, vF0 t1 t2⟩) (fun z hz => nomatch hz) (Nat.le_of_ble_eq_true rfl) (Nat.le_of_ble_eq_true rfl)
