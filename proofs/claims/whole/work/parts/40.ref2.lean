def g_pc (k v : Int) : Int := if ¬ (0 ≤ k ∧ k ≤ 4) then 1 else if -20 ≤ v ∧ v ≤ 20 then 0 else 2
def g_ac (k : Int) : Int := if 0 ≤ k ∧ k ≤ 4 then 0 else 1
/-- seven longs, two of them new -/
def g_low (a b : Int) (X : Int → Int) : Int → Int := iu (iu X 5 (if b < 0 then -(Int.tdiv a (f_gcd a b)) else Int.tdiv a (f_gcd a b))) 6 (if b < 0 then -(Int.tdiv b (f_gcd a b)) else Int.tdiv b (f_gcd a b))
set_option maxHeartbeats 4000000 in
set_option maxRecDepth 100000 in
theorem kX2_raise (l : Launch) (dC : Nat → ClassId) (dI : Nat → Nat → Nat) (sz : Nat) (x n r d ya yb yc yo : Nat) (cI cJ : ClassId) (cd cn fc : Int) (X : Int → Int) (v : Int) : Met l yX2_raise (.code yX2_raise cX2_raise 2 (some .int) :: wsA) ({ frames := 0, cells := 0, slots := 0, locals := 0 }) (va_Pc [.ref x, .int (iI v)] (fun U => U.heap.size = sz ∧ va_P (dC, dI) vwCl [(x, .inr (2, [.int (iI cd), .ref n, .ref r, .ref d, .int (iI cn), .int (iI fc), .ref ya, .ref yb, .ref yc, .ref yo, .long (lI (X 0)), .long (lI (X 1)), .long (lI (X 2)), .long (lI (X 3)), .long (lI (X 4)), .long (lI (X 5)), .long (lI (X 6))]))] U.heap ∧ va_K (dC, dI) vwCl [] U ∧ va_D (fun _ => True) [(x, .inr (2, [.int (iI cd), .ref n, .ref r, .ref d, .int (iI cn), .int (iI fc), .ref ya, .ref yb, .ref yc, .ref yo, .long (lI (X 0)), .long (lI (X 1)), .long (lI (X 2)), .long (lI (X 3)), .long (lI (X 4)), .long (lI (X 5)), .long (lI (X 6))]))] ∧ nb U)) (va_Qi (fun r9 _ => r9 = iI 0) (fun (u : Unit) t9 => va_P (dC, dI) vwCl [(x, .inr (2, [.int (iI v), .ref n, .ref r, .ref d, .int (iI cn), .int (iI fc), .ref ya, .ref yb, .ref yc, .ref yo, .long (lI (X 0)), .long (lI (X 1)), .long (lI (X 2)), .long (lI (X 3)), .long (lI (X 4)), .long (lI (X 5)), .long (lI (X 6))]))] t9.heap ∧ va_K (dC, dI) vwCl [] t9 ∧ va_D (va_A [(x, .inr (2, [.int (iI cd), .ref n, .ref r, .ref d, .int (iI cn), .int (iI fc), .ref ya, .ref yb, .ref yc, .ref yo, .long (lI (X 0)), .long (lI (X 1)), .long (lI (X 2)), .long (lI (X 3)), .long (lI (X 4)), .long (lI (X 5)), .long (lI (X 6))]))] sz) [(x, .inr (2, [.int (iI v), .ref n, .ref r, .ref d, .int (iI cn), .int (iI fc), .ref ya, .ref yb, .ref yc, .ref yo, .long (lI (X 0)), .long (lI (X 1)), .long (lI (X 2)), .long (lI (X 3)), .long (lI (X 4)), .long (lI (X 5)), .long (lI (X 6))]))]) (va_A [(x, .inr (2, [.int (iI cd), .ref n, .ref r, .ref d, .int (iI cn), .int (iI fc), .ref ya, .ref yb, .ref yc, .ref yo, .long (lI (X 0)), .long (lI (X 1)), .long (lI (X 2)), .long (lI (X 3)), .long (lI (X 4)), .long (lI (X 5)), .long (lI (X 6))]))] sz)) 0 0 (va_A [(x, .inr (2, [.int (iI cd), .ref n, .ref r, .ref d, .int (iI cn), .int (iI fc), .ref ya, .ref yb, .ref yc, .ref yo, .long (lI (X 0)), .long (lI (X 1)), .long (lI (X 2)), .long (lI (X 3)), .long (lI (X 4)), .long (lI (X 5)), .long (lI (X 6))]))] sz) := by
  refine Met.ofW (cc := cX2_raise) (maxL := 2) (ret := (some .int)) (by decide) rfl ?_
  intro p e s m args below meth c s₁ B hml hv
  obtain ⟨rfl, hsz, hP, hK, hD0, hnb⟩ := hv
  have hx := B.exec
  have hb := B.bytes
  have hr := B.returns
  have hts := atoms_spec (ws := .code yX2_raise cX2_raise 2 (some .int) :: wsA) B.pre
  have hw : ∀ w ∈ wsA, w.before _ s = true := fun w h => hts w (List.mem_cons_of_mem _ h)
  have hown : s.vm.findClass RX2 = some m.cls := findClass_of_methodNamed B.named
  have hlocks := B.notSynchronized
  subst hsz
  have hD := hD0.self (sz := s.heap.size)
  generalize hAe : va_A [(x, .inr (2, [.int (iI cd), .ref n, .ref r, .ref d, .int (iI cn), .int (iI fc), .ref ya, .ref yb, .ref yc, .ref yo, .long (lI (X 0)), .long (lI (X 1)), .long (lI (X 2)), .long (lI (X 3)), .long (lI (X 4)), .long (lI (X 5)), .long (lI (X 6))]))] s.heap.size = A at hD ⊢
  have hA : ∀ q : Nat, s.heap.size ≤ q → A q := fun q h => by rw [← hAe]; exact Or.inr h
  have hS : va_S A s.heap s.heap [] := va_S.rf
  have hP : va_P (dC, dI) vwCl [(x, .inr (2, [.int (iI cd), .ref n, .ref r, .ref d, .int (iI cn), .int (iI fc), .ref ya, .ref yb, .ref yc, .ref yo, .long (lI (X 0)), .long (lI (X 1)), .long (lI (X 2)), .long (lI (X 3)), .long (lI (X 4)), .long (lI (X 5)), .long (lI (X 6))]))] s.heap := hP
  have hl := lv_entry ([.ref x, .int (iI v)]) (n := 2) (Nat.le_of_ble_eq_true rfl)
  rw [lg_entry_eq]
  generalize (lg_sl ([.ref x, .int (iI v)]) ++ List.replicate (2 - (lg_sl ([.ref x, .int (iI v)])).length) Slot.unset).toArray = ls at hl ⊢
  have hl : lv_has ls 2 [(0, .ref x), (1, .int (iI v))] := hl
  refine lv_aload_n hx hb dX2_raise_0 rfl (lv_at hl 0 rfl) ?_
  refine lv_iload_n hx hb dX2_raise_1 rfl (lv_at hl 1 rfl) ?_
  refine va_put (D := (dC, dI)) (ci := 2) (v := .int (iI v)) (ty := .int) (C := RX2) (T := TX2) (N := 17) hx hb hw inX2 tyX2 tyX2_ok nmX2 hown hK hP hD hS 0 rfl rfl 0 (by decide) (hw _ mA_381) (fun _ h9 => h9) rfl (by decide +kernel) rfl rfl (Nat.le_of_ble_eq_true rfl) dX2_raise_2 (fun H locs hP hD hS => ?_)
  have hP : va_P (dC, dI) vwCl [(x, .inr (2, [.int (iI v), .ref n, .ref r, .ref d, .int (iI cn), .int (iI fc), .ref ya, .ref yb, .ref yc, .ref yo, .long (lI (X 0)), .long (lI (X 1)), .long (lI (X 2)), .long (lI (X 3)), .long (lI (X 4)), .long (lI (X 5)), .long (lI (X 6))]))] H := hP
  have hD : va_D A [(x, .inr (2, [.int (iI v), .ref n, .ref r, .ref d, .int (iI cn), .int (iI fc), .ref ya, .ref yb, .ref yc, .ref yo, .long (lI (X 0)), .long (lI (X 1)), .long (lI (X 2)), .long (lI (X 3)), .long (lI (X 4)), .long (lI (X 5)), .long (lI (X 6))]))] := hD
  refine ix_iconst (n := 0) hx hb dX2_raise_5 ?_
  have hP9 := hP.sub (ws' := [(x, .inr (2, [.int (iI v), .ref n, .ref r, .ref d, .int (iI cn), .int (iI fc), .ref ya, .ref yb, .ref yc, .ref yo, .long (lI (X 0)), .long (lI (X 1)), .long (lI (X 2)), .long (lI (X 3)), .long (lI (X 4)), .long (lI (X 5)), .long (lI (X 6))]))]) [0] rfl
  have hD9 := hD.sub (ws' := [(x, .inr (2, [.int (iI v), .ref n, .ref r, .ref d, .int (iI cn), .int (iI fc), .ref ya, .ref yb, .ref yc, .ref yo, .long (lI (X 0)), .long (lI (X 1)), .long (lI (X 2)), .long (lI (X 3)), .long (lI (X 4)), .long (lI (X 5)), .long (lI (X 6))]))]) [0] (by decide) rfl
  have hK9 := hK.sub (tys' := []) [] rfl
  exact W.iret (v := iI 0) hx hb hr (fun t ht hW => ⟨⟨iI 0, (), rfl, rfl, by rw [ht]; exact hP9, va_K.moved hW.alike hK9, hD9⟩, hS.F ht⟩) hS.2.2 dX2_raise_6
set_option maxHeartbeats 4000000 in
set_option maxRecDepth 100000 in
theorem kX2_put (l : Launch) (dC : Nat → ClassId) (dI : Nat → Nat → Nat) (sz : Nat) (x n r d ya yb yc yo : Nat) (cI cJ : ClassId) (cd cn fc : Int) (X : Int → Int) (N : Int → Int) (hN : ∀ j, -20 ≤ N j ∧ N j ≤ 20) (k v : Int) (hk : r32 k) (hv : r32 v) : Met l yX2_put (.code yX2_put cX2_put 4 (some .boolean) :: wsA) ({ frames := 1, cells := 0, slots := 0, locals := 40 }) (va_Pc [.ref x, .int (iI k), .int (iI v)] (fun U => U.heap.size = sz ∧ va_P (dC, dI) vwCl [(x, .inr (2, [.int (iI cd), .ref n, .ref r, .ref d, .int (iI cn), .int (iI fc), .ref ya, .ref yb, .ref yc, .ref yo, .long (lI (X 0)), .long (lI (X 1)), .long (lI (X 2)), .long (lI (X 3)), .long (lI (X 4)), .long (lI (X 5)), .long (lI (X 6))])), (n, .inl (cI, 5, .inl (aI N)))] U.heap ∧ va_K (dC, dI) vwCl [(cI, .int)] U ∧ va_D (fun _ => True) [(x, .inr (2, [.int (iI cd), .ref n, .ref r, .ref d, .int (iI cn), .int (iI fc), .ref ya, .ref yb, .ref yc, .ref yo, .long (lI (X 0)), .long (lI (X 1)), .long (lI (X 2)), .long (lI (X 3)), .long (lI (X 4)), .long (lI (X 5)), .long (lI (X 6))])), (n, .inl (cI, 5, .inl (aI N)))] ∧ nb U)) (va_Qi (fun r9 u => u.1 = g_pc k v ∧ u.2 = (if g_pc k v = 0 then iu N k v else N) ∧ r9 = iI (if g_pc k v = 0 then (if N k = v then 0 else 1) else 0)) (fun (u : Int × (Int → Int)) t9 => va_P (dC, dI) vwCl [(x, .inr (2, [.int (iI u.1), .ref n, .ref r, .ref d, .int (iI cn), .int (iI fc), .ref ya, .ref yb, .ref yc, .ref yo, .long (lI (X 0)), .long (lI (X 1)), .long (lI (X 2)), .long (lI (X 3)), .long (lI (X 4)), .long (lI (X 5)), .long (lI (X 6))])), (n, .inl (cI, 5, .inl (aI u.2)))] t9.heap ∧ va_K (dC, dI) vwCl [(cI, .int)] t9 ∧ va_D (va_A [(x, .inr (2, [.int (iI cd), .ref n, .ref r, .ref d, .int (iI cn), .int (iI fc), .ref ya, .ref yb, .ref yc, .ref yo, .long (lI (X 0)), .long (lI (X 1)), .long (lI (X 2)), .long (lI (X 3)), .long (lI (X 4)), .long (lI (X 5)), .long (lI (X 6))])), (n, .inl (cI, 5, .inl (aI N)))] sz) [(x, .inr (2, [.int (iI u.1), .ref n, .ref r, .ref d, .int (iI cn), .int (iI fc), .ref ya, .ref yb, .ref yc, .ref yo, .long (lI (X 0)), .long (lI (X 1)), .long (lI (X 2)), .long (lI (X 3)), .long (lI (X 4)), .long (lI (X 5)), .long (lI (X 6))])), (n, .inl (cI, 5, .inl (aI u.2)))]) (va_A [(x, .inr (2, [.int (iI cd), .ref n, .ref r, .ref d, .int (iI cn), .int (iI fc), .ref ya, .ref yb, .ref yc, .ref yo, .long (lI (X 0)), .long (lI (X 1)), .long (lI (X 2)), .long (lI (X 3)), .long (lI (X 4)), .long (lI (X 5)), .long (lI (X 6))])), (n, .inl (cI, 5, .inl (aI N)))] sz)) 0 0 (va_A [(x, .inr (2, [.int (iI cd), .ref n, .ref r, .ref d, .int (iI cn), .int (iI fc), .ref ya, .ref yb, .ref yc, .ref yo, .long (lI (X 0)), .long (lI (X 1)), .long (lI (X 2)), .long (lI (X 3)), .long (lI (X 4)), .long (lI (X 5)), .long (lI (X 6))])), (n, .inl (cI, 5, .inl (aI N)))] sz) := by
  refine Met.ofW (cc := cX2_put) (maxL := 4) (ret := (some .boolean)) (by decide) rfl ?_
  intro p e s m args below meth c s₁ B hml hv
  obtain ⟨rfl, hsz, hP, hK, hD0, hnb⟩ := hv
  have hx := B.exec
  have hb := B.bytes
  have hr := B.returns
  have hts := atoms_spec (ws := .code yX2_put cX2_put 4 (some .boolean) :: wsA) B.pre
  have hw : ∀ w ∈ wsA, w.before _ s = true := fun w h => hts w (List.mem_cons_of_mem _ h)
  have hown : s.vm.findClass RX2 = some m.cls := findClass_of_methodNamed B.named
  have hlocks := B.notSynchronized
  subst hsz
  have hD := hD0.self (sz := s.heap.size)
  generalize hAe : va_A [(x, .inr (2, [.int (iI cd), .ref n, .ref r, .ref d, .int (iI cn), .int (iI fc), .ref ya, .ref yb, .ref yc, .ref yo, .long (lI (X 0)), .long (lI (X 1)), .long (lI (X 2)), .long (lI (X 3)), .long (lI (X 4)), .long (lI (X 5)), .long (lI (X 6))])), (n, .inl (cI, 5, .inl (aI N)))] s.heap.size = A at hD ⊢
  have hA : ∀ q : Nat, s.heap.size ≤ q → A q := fun q h => by rw [← hAe]; exact Or.inr h
  have hS : va_S A s.heap s.heap [] := va_S.rf
  have hP : va_P (dC, dI) vwCl [(x, .inr (2, [.int (iI cd), .ref n, .ref r, .ref d, .int (iI cn), .int (iI fc), .ref ya, .ref yb, .ref yc, .ref yo, .long (lI (X 0)), .long (lI (X 1)), .long (lI (X 2)), .long (lI (X 3)), .long (lI (X 4)), .long (lI (X 5)), .long (lI (X 6))])), (n, .inl (cI, 5, .inl (aI N)))] s.heap := hP
  have hl := lv_entry ([.ref x, .int (iI k), .int (iI v)]) (n := 4) (Nat.le_of_ble_eq_true rfl)
  rw [lg_entry_eq]
  generalize (lg_sl ([.ref x, .int (iI k), .int (iI v)]) ++ List.replicate (4 - (lg_sl ([.ref x, .int (iI k), .int (iI v)])).length) Slot.unset).toArray = ls at hl ⊢
  have hl : lv_has ls 4 [(0, .ref x), (1, .int (iI k)), (2, .int (iI v))] := hl
  refine lv_aload_n hx hb dX2_put_0 rfl (lv_at hl 0 rfl) ?_
  refine lv_iload_n hx hb dX2_put_1 rfl (lv_at hl 1 rfl) ?_
  refine ix_i2l hx hb dX2_put_2 (by omega) ?_
  refine ix_lconst0 hx hb dX2_put_3 ?_
  refine ix_ldc2 (z := 4) hx hb hown (hw _ mA_442) rfl dX2_put_4 ?_
  refine vp_callSi (W.runS (As := [.long (lI k), .long (lI 0), .long (lI 4)]) (rest := [.ref x]) ⟨hx, hb, hml, hown, hw⟩ (kX2_in l k 0 4 ⟨by omega, by omega⟩ (by decide) (by decide)) (cwS 3 hw (gS mA_443 mA_444 mA_3 mA_445) rfl rfl rfl (by decide +kernel) ⟨Nat.le_of_ble_eq_true rfl, Nat.le_of_ble_eq_true rfl⟩) preEq rfl rfl hl.1 rfl (lv_room (Nat.le_of_ble_eq_true rfl)) dX2_put_7 ⟨Nat.le_of_ble_eq_true rfl, Nat.le_of_ble_eq_true rfl⟩) (fun r1 h2 => ?_)
  subst h2
  have hin3 : f_in k 0 4 = if 0 ≤ k ∧ k ≤ 4 then 1 else 0 := rfl
  refine ix_if_ne (tgt := 17) hx hb dX2_put_10 (by decide) (by unfold f_in; grind) (fun c4 => ?_) (fun c4 => ?_)
  · refine lv_iload_n hx hb dX2_put_17 rfl (lv_at hl 2 rfl) ?_
    refine ix_i2l hx hb dX2_put_18 (by omega) ?_
    refine ix_ldc2 (z := (-20)) hx hb hown (hw _ mA_446) rfl dX2_put_19 ?_
    refine ix_ldc2 (z := 20) hx hb hown (hw _ mA_447) rfl dX2_put_22 ?_
    refine vp_callSi (W.runS (As := [.long (lI v), .long (lI (-20)), .long (lI 20)]) (rest := [.ref x]) ⟨hx, hb, hml, hown, hw⟩ (kX2_in l v (-20) 20 ⟨by omega, by omega⟩ (by decide) (by decide)) (cwS 3 hw (gS mA_443 mA_444 mA_3 mA_445) rfl rfl rfl (by decide +kernel) ⟨Nat.le_of_ble_eq_true rfl, Nat.le_of_ble_eq_true rfl⟩) preEq rfl rfl hl.1 rfl (lv_room (Nat.le_of_ble_eq_true rfl)) dX2_put_25 ⟨Nat.le_of_ble_eq_true rfl, Nat.le_of_ble_eq_true rfl⟩) (fun r5 h6 => ?_)
    subst h6
    have hin7 : f_in v (-20) 20 = if (-20) ≤ v ∧ v ≤ 20 then 1 else 0 := rfl
    refine ix_if_eq (tgt := 35) hx hb dX2_put_28 (by decide) (by unfold f_in; grind) (fun c8 => ?_) (fun c8 => ?_)
    · refine ix_iconst (n := 2) hx hb dX2_put_35 ?_
      refine va_put (D := (dC, dI)) (ci := 2) (v := .int (iI 2)) (ty := .int) (C := RX2) (T := TX2) (N := 17) hx hb hw inX2 tyX2 tyX2_ok nmX2 hown hK hP hD hS 0 rfl rfl 0 (by decide) (hw _ mA_381) (fun _ h9 => h9) rfl (by decide +kernel) rfl rfl (Nat.le_of_ble_eq_true rfl) dX2_put_36 (fun H locs hP hD hS => ?_)
      have hP : va_P (dC, dI) vwCl [(x, .inr (2, [.int (iI 2), .ref n, .ref r, .ref d, .int (iI cn), .int (iI fc), .ref ya, .ref yb, .ref yc, .ref yo, .long (lI (X 0)), .long (lI (X 1)), .long (lI (X 2)), .long (lI (X 3)), .long (lI (X 4)), .long (lI (X 5)), .long (lI (X 6))])), (n, .inl (cI, 5, .inl (aI N)))] H := hP
      have hD : va_D A [(x, .inr (2, [.int (iI 2), .ref n, .ref r, .ref d, .int (iI cn), .int (iI fc), .ref ya, .ref yb, .ref yc, .ref yo, .long (lI (X 0)), .long (lI (X 1)), .long (lI (X 2)), .long (lI (X 3)), .long (lI (X 4)), .long (lI (X 5)), .long (lI (X 6))])), (n, .inl (cI, 5, .inl (aI N)))] := hD
      refine lv_aload_n hx hb dX2_put_39 rfl (lv_at hl 0 rfl) ?_
      refine va_get (D := (dC, dI)) (ci := 2) (v := .int (iI 2)) (C := RX2) (T := TX2) (N := 17) hx hb hw inX2 hown hK hP 0 rfl rfl 0 (by decide) (hw _ mA_381) (fun _ h9 => h9) rfl dX2_put_40 ?_
      refine ix_if_le (tgt := 48) hx hb dX2_put_43 (by decide) (by decide) (fun c9 => absurd c9 (by decide)) (fun _ => ?_)
      refine ix_iconst (n := 0) hx hb dX2_put_46 ?_
      have ec : g_pc k v = 2 := by unfold g_pc; grind
      have hP9 := hP.sub (ws' := [(x, .inr (2, [.int (iI 2), .ref n, .ref r, .ref d, .int (iI cn), .int (iI fc), .ref ya, .ref yb, .ref yc, .ref yo, .long (lI (X 0)), .long (lI (X 1)), .long (lI (X 2)), .long (lI (X 3)), .long (lI (X 4)), .long (lI (X 5)), .long (lI (X 6))])), (n, .inl (cI, 5, .inl (aI N)))]) [0, 1] rfl
      have hD9 := hD.sub (ws' := [(x, .inr (2, [.int (iI 2), .ref n, .ref r, .ref d, .int (iI cn), .int (iI fc), .ref ya, .ref yb, .ref yc, .ref yo, .long (lI (X 0)), .long (lI (X 1)), .long (lI (X 2)), .long (lI (X 3)), .long (lI (X 4)), .long (lI (X 5)), .long (lI (X 6))])), (n, .inl (cI, 5, .inl (aI N)))]) [0, 1] (by decide) rfl
      have hK9 := hK.sub (tys' := [(cI, .int)]) [0] rfl
      exact W.zret (v := iI 0) hx hb hr (by decide) (fun t ht hW => ⟨⟨iI 0, (2, N), rfl, ⟨ec.symm, by rw [ec]; rfl, by rw [ec]; rfl⟩, by rw [ht]; exact hP9, va_K.moved hW.alike hK9, hD9⟩, hS.F ht⟩) hS.2.2 dX2_put_47
    · refine ix_iconst (n := 0) hx hb dX2_put_31 ?_
      refine lv_goto (tgt := 36) hx hb dX2_put_32 (by decide) ?_
      refine va_put (D := (dC, dI)) (ci := 2) (v := .int (iI 0)) (ty := .int) (C := RX2) (T := TX2) (N := 17) hx hb hw inX2 tyX2 tyX2_ok nmX2 hown hK hP hD hS 0 rfl rfl 0 (by decide) (hw _ mA_381) (fun _ h9 => h9) rfl (by decide +kernel) rfl rfl (Nat.le_of_ble_eq_true rfl) dX2_put_36 (fun H locs hP hD hS => ?_)
      have hP : va_P (dC, dI) vwCl [(x, .inr (2, [.int (iI 0), .ref n, .ref r, .ref d, .int (iI cn), .int (iI fc), .ref ya, .ref yb, .ref yc, .ref yo, .long (lI (X 0)), .long (lI (X 1)), .long (lI (X 2)), .long (lI (X 3)), .long (lI (X 4)), .long (lI (X 5)), .long (lI (X 6))])), (n, .inl (cI, 5, .inl (aI N)))] H := hP
      have hD : va_D A [(x, .inr (2, [.int (iI 0), .ref n, .ref r, .ref d, .int (iI cn), .int (iI fc), .ref ya, .ref yb, .ref yc, .ref yo, .long (lI (X 0)), .long (lI (X 1)), .long (lI (X 2)), .long (lI (X 3)), .long (lI (X 4)), .long (lI (X 5)), .long (lI (X 6))])), (n, .inl (cI, 5, .inl (aI N)))] := hD
      refine lv_aload_n hx hb dX2_put_39 rfl (lv_at hl 0 rfl) ?_
      refine va_get (D := (dC, dI)) (ci := 2) (v := .int (iI 0)) (C := RX2) (T := TX2) (N := 17) hx hb hw inX2 hown hK hP 0 rfl rfl 0 (by decide) (hw _ mA_381) (fun _ h9 => h9) rfl dX2_put_40 ?_
      refine ix_if_le (tgt := 48) hx hb dX2_put_43 (by decide) (by decide) (fun _ => ?_) (fun c10 => absurd c10 (by decide))
      refine lv_aload_n hx hb dX2_put_48 rfl (lv_at hl 0 rfl) ?_
      refine va_get (D := (dC, dI)) (ci := 2) (v := .ref n) (C := RX2) (T := TX2) (N := 17) hx hb hw inX2 hown hK hP 0 rfl rfl 1 (by decide) (hw _ mA_382) (fun _ h9 => h9) rfl dX2_put_49 ?_
      refine lv_iload_n hx hb dX2_put_52 rfl (lv_at hl 1 rfl) ?_
      refine ix_iald (k := k) hx hb hK hP 1 0 rfl rfl (by omega) (by omega) (by decide) dX2_put_53 ?_
      refine lv_iload_n hx hb dX2_put_54 rfl (lv_at hl 2 rfl) ?_
      refine ix_icmp_eq (tgt := 62) hx hb dX2_put_55 (by decide) (by have := hN k; omega) (by omega) (fun c11 => ?_) (fun c11 => ?_)
      · refine ix_iconst (n := 0) hx hb dX2_put_62 ?_
        refine lv_istore_n (lv' := [(3, .int (iI 0)), (0, .ref x), (1, .int (iI k)), (2, .int (iI v))]) hx hb dX2_put_63 rfl hl (by decide) rfl (fun ls hl => ?_)
        refine lv_aload_n hx hb dX2_put_64 rfl (lv_at hl 1 rfl) ?_
        refine va_get (D := (dC, dI)) (ci := 2) (v := .ref n) (C := RX2) (T := TX2) (N := 17) hx hb hw inX2 hown hK hP 0 rfl rfl 1 (by decide) (hw _ mA_382) (fun _ h9 => h9) rfl dX2_put_65 ?_
        refine lv_iload_n hx hb dX2_put_68 rfl (lv_at hl 2 rfl) ?_
        refine lv_iload_n hx hb dX2_put_69 rfl (lv_at hl 3 rfl) ?_
        refine ix_iast (k := k) (x := v) hx hb hK hP hD hS 1 0 rfl rfl (by omega) (by omega) (by decide) dX2_put_70 (fun H locs hP hD hS => ?_)
        have hP : va_P (dC, dI) vwCl [(x, .inr (2, [.int (iI 0), .ref n, .ref r, .ref d, .int (iI cn), .int (iI fc), .ref ya, .ref yb, .ref yc, .ref yo, .long (lI (X 0)), .long (lI (X 1)), .long (lI (X 2)), .long (lI (X 3)), .long (lI (X 4)), .long (lI (X 5)), .long (lI (X 6))])), (n, .inl (cI, 5, .inl (aI (iu N k v))))] H := hP
        have hD : va_D A [(x, .inr (2, [.int (iI 0), .ref n, .ref r, .ref d, .int (iI cn), .int (iI fc), .ref ya, .ref yb, .ref yc, .ref yo, .long (lI (X 0)), .long (lI (X 1)), .long (lI (X 2)), .long (lI (X 3)), .long (lI (X 4)), .long (lI (X 5)), .long (lI (X 6))])), (n, .inl (cI, 5, .inl (aI (iu N k v))))] := hD
        refine lv_iload_n hx hb dX2_put_71 rfl (lv_at hl 0 rfl) ?_
        have ec : g_pc k v = 0 := by unfold g_pc; grind
        have hP9 := hP.sub (ws' := [(x, .inr (2, [.int (iI 0), .ref n, .ref r, .ref d, .int (iI cn), .int (iI fc), .ref ya, .ref yb, .ref yc, .ref yo, .long (lI (X 0)), .long (lI (X 1)), .long (lI (X 2)), .long (lI (X 3)), .long (lI (X 4)), .long (lI (X 5)), .long (lI (X 6))])), (n, .inl (cI, 5, .inl (aI (iu N k v))))]) [0, 1] rfl
        have hD9 := hD.sub (ws' := [(x, .inr (2, [.int (iI 0), .ref n, .ref r, .ref d, .int (iI cn), .int (iI fc), .ref ya, .ref yb, .ref yc, .ref yo, .long (lI (X 0)), .long (lI (X 1)), .long (lI (X 2)), .long (lI (X 3)), .long (lI (X 4)), .long (lI (X 5)), .long (lI (X 6))])), (n, .inl (cI, 5, .inl (aI (iu N k v))))]) [0, 1] (by decide) rfl
        have hK9 := hK.sub (tys' := [(cI, .int)]) [0] rfl
        exact W.zret (v := iI 0) hx hb hr (by decide) (fun t ht hW => ⟨⟨iI 0, (0, iu N k v), rfl, ⟨ec.symm, by rw [ec]; rfl, by rw [ec]; show _ = iI (if N k = v then 0 else 1); grind⟩, by rw [ht]; exact hP9, va_K.moved hW.alike hK9, hD9⟩, hS.F ht⟩) hS.2.2 dX2_put_72
      · refine ix_iconst (n := 1) hx hb dX2_put_58 ?_
        refine lv_goto (tgt := 63) hx hb dX2_put_59 (by decide) ?_
        refine lv_istore_n (lv' := [(3, .int (iI 1)), (0, .ref x), (1, .int (iI k)), (2, .int (iI v))]) hx hb dX2_put_63 rfl hl (by decide) rfl (fun ls hl => ?_)
        refine lv_aload_n hx hb dX2_put_64 rfl (lv_at hl 1 rfl) ?_
        refine va_get (D := (dC, dI)) (ci := 2) (v := .ref n) (C := RX2) (T := TX2) (N := 17) hx hb hw inX2 hown hK hP 0 rfl rfl 1 (by decide) (hw _ mA_382) (fun _ h9 => h9) rfl dX2_put_65 ?_
        refine lv_iload_n hx hb dX2_put_68 rfl (lv_at hl 2 rfl) ?_
        refine lv_iload_n hx hb dX2_put_69 rfl (lv_at hl 3 rfl) ?_
        refine ix_iast (k := k) (x := v) hx hb hK hP hD hS 1 0 rfl rfl (by omega) (by omega) (by decide) dX2_put_70 (fun H locs hP hD hS => ?_)
        have hP : va_P (dC, dI) vwCl [(x, .inr (2, [.int (iI 0), .ref n, .ref r, .ref d, .int (iI cn), .int (iI fc), .ref ya, .ref yb, .ref yc, .ref yo, .long (lI (X 0)), .long (lI (X 1)), .long (lI (X 2)), .long (lI (X 3)), .long (lI (X 4)), .long (lI (X 5)), .long (lI (X 6))])), (n, .inl (cI, 5, .inl (aI (iu N k v))))] H := hP
        have hD : va_D A [(x, .inr (2, [.int (iI 0), .ref n, .ref r, .ref d, .int (iI cn), .int (iI fc), .ref ya, .ref yb, .ref yc, .ref yo, .long (lI (X 0)), .long (lI (X 1)), .long (lI (X 2)), .long (lI (X 3)), .long (lI (X 4)), .long (lI (X 5)), .long (lI (X 6))])), (n, .inl (cI, 5, .inl (aI (iu N k v))))] := hD
        refine lv_iload_n hx hb dX2_put_71 rfl (lv_at hl 0 rfl) ?_
        have ec : g_pc k v = 0 := by unfold g_pc; grind
        have hP9 := hP.sub (ws' := [(x, .inr (2, [.int (iI 0), .ref n, .ref r, .ref d, .int (iI cn), .int (iI fc), .ref ya, .ref yb, .ref yc, .ref yo, .long (lI (X 0)), .long (lI (X 1)), .long (lI (X 2)), .long (lI (X 3)), .long (lI (X 4)), .long (lI (X 5)), .long (lI (X 6))])), (n, .inl (cI, 5, .inl (aI (iu N k v))))]) [0, 1] rfl
        have hD9 := hD.sub (ws' := [(x, .inr (2, [.int (iI 0), .ref n, .ref r, .ref d, .int (iI cn), .int (iI fc), .ref ya, .ref yb, .ref yc, .ref yo, .long (lI (X 0)), .long (lI (X 1)), .long (lI (X 2)), .long (lI (X 3)), .long (lI (X 4)), .long (lI (X 5)), .long (lI (X 6))])), (n, .inl (cI, 5, .inl (aI (iu N k v))))]) [0, 1] (by decide) rfl
        have hK9 := hK.sub (tys' := [(cI, .int)]) [0] rfl
        exact W.zret (v := iI 1) hx hb hr (by decide) (fun t ht hW => ⟨⟨iI 1, (0, iu N k v), rfl, ⟨ec.symm, by rw [ec]; rfl, by rw [ec]; show _ = iI (if N k = v then 0 else 1); grind⟩, by rw [ht]; exact hP9, va_K.moved hW.alike hK9, hD9⟩, hS.F ht⟩) hS.2.2 dX2_put_72
  · refine ix_iconst (n := 1) hx hb dX2_put_13 ?_
    refine lv_goto (tgt := 36) hx hb dX2_put_14 (by decide) ?_
    refine va_put (D := (dC, dI)) (ci := 2) (v := .int (iI 1)) (ty := .int) (C := RX2) (T := TX2) (N := 17) hx hb hw inX2 tyX2 tyX2_ok nmX2 hown hK hP hD hS 0 rfl rfl 0 (by decide) (hw _ mA_381) (fun _ h9 => h9) rfl (by decide +kernel) rfl rfl (Nat.le_of_ble_eq_true rfl) dX2_put_36 (fun H locs hP hD hS => ?_)
    have hP : va_P (dC, dI) vwCl [(x, .inr (2, [.int (iI 1), .ref n, .ref r, .ref d, .int (iI cn), .int (iI fc), .ref ya, .ref yb, .ref yc, .ref yo, .long (lI (X 0)), .long (lI (X 1)), .long (lI (X 2)), .long (lI (X 3)), .long (lI (X 4)), .long (lI (X 5)), .long (lI (X 6))])), (n, .inl (cI, 5, .inl (aI N)))] H := hP
    have hD : va_D A [(x, .inr (2, [.int (iI 1), .ref n, .ref r, .ref d, .int (iI cn), .int (iI fc), .ref ya, .ref yb, .ref yc, .ref yo, .long (lI (X 0)), .long (lI (X 1)), .long (lI (X 2)), .long (lI (X 3)), .long (lI (X 4)), .long (lI (X 5)), .long (lI (X 6))])), (n, .inl (cI, 5, .inl (aI N)))] := hD
    refine lv_aload_n hx hb dX2_put_39 rfl (lv_at hl 0 rfl) ?_
    refine va_get (D := (dC, dI)) (ci := 2) (v := .int (iI 1)) (C := RX2) (T := TX2) (N := 17) hx hb hw inX2 hown hK hP 0 rfl rfl 0 (by decide) (hw _ mA_381) (fun _ h9 => h9) rfl dX2_put_40 ?_
    refine ix_if_le (tgt := 48) hx hb dX2_put_43 (by decide) (by decide) (fun c12 => absurd c12 (by decide)) (fun _ => ?_)
    refine ix_iconst (n := 0) hx hb dX2_put_46 ?_
    have ec : g_pc k v = 1 := by unfold g_pc; grind
    have hP9 := hP.sub (ws' := [(x, .inr (2, [.int (iI 1), .ref n, .ref r, .ref d, .int (iI cn), .int (iI fc), .ref ya, .ref yb, .ref yc, .ref yo, .long (lI (X 0)), .long (lI (X 1)), .long (lI (X 2)), .long (lI (X 3)), .long (lI (X 4)), .long (lI (X 5)), .long (lI (X 6))])), (n, .inl (cI, 5, .inl (aI N)))]) [0, 1] rfl
    have hD9 := hD.sub (ws' := [(x, .inr (2, [.int (iI 1), .ref n, .ref r, .ref d, .int (iI cn), .int (iI fc), .ref ya, .ref yb, .ref yc, .ref yo, .long (lI (X 0)), .long (lI (X 1)), .long (lI (X 2)), .long (lI (X 3)), .long (lI (X 4)), .long (lI (X 5)), .long (lI (X 6))])), (n, .inl (cI, 5, .inl (aI N)))]) [0, 1] (by decide) rfl
    have hK9 := hK.sub (tys' := [(cI, .int)]) [0] rfl
    exact W.zret (v := iI 0) hx hb hr (by decide) (fun t ht hW => ⟨⟨iI 0, (1, N), rfl, ⟨ec.symm, by rw [ec]; rfl, by rw [ec]; rfl⟩, by rw [ht]; exact hP9, va_K.moved hW.alike hK9, hD9⟩, hS.F ht⟩) hS.2.2 dX2_put_47
set_option maxHeartbeats 4000000 in
set_option maxRecDepth 100000 in
theorem kX2_at (l : Launch) (dC : Nat → ClassId) (dI : Nat → Nat → Nat) (sz : Nat) (x n r d ya yb yc yo : Nat) (cI cJ : ClassId) (cd cn fc : Int) (X : Int → Int) (N : Int → Int) (k : Int) (hk : r32 k) : Met l yX2_at (.code yX2_at cX2_at 2 (some .int) :: wsA) ({ frames := 1, cells := 0, slots := 0, locals := 40 }) (va_Pc [.ref x, .int (iI k)] (fun U => U.heap.size = sz ∧ va_P (dC, dI) vwCl [(x, .inr (2, [.int (iI cd), .ref n, .ref r, .ref d, .int (iI cn), .int (iI fc), .ref ya, .ref yb, .ref yc, .ref yo, .long (lI (X 0)), .long (lI (X 1)), .long (lI (X 2)), .long (lI (X 3)), .long (lI (X 4)), .long (lI (X 5)), .long (lI (X 6))])), (n, .inl (cI, 5, .inl (aI N)))] U.heap ∧ va_K (dC, dI) vwCl [(cI, .int)] U ∧ va_D (fun _ => True) [(x, .inr (2, [.int (iI cd), .ref n, .ref r, .ref d, .int (iI cn), .int (iI fc), .ref ya, .ref yb, .ref yc, .ref yo, .long (lI (X 0)), .long (lI (X 1)), .long (lI (X 2)), .long (lI (X 3)), .long (lI (X 4)), .long (lI (X 5)), .long (lI (X 6))])), (n, .inl (cI, 5, .inl (aI N)))] ∧ nb U)) (va_Qi (fun r9 u => u = g_ac k ∧ r9 = iI (if g_ac k = 0 then N k else 0)) (fun (u : Int) t9 => va_P (dC, dI) vwCl [(x, .inr (2, [.int (iI u), .ref n, .ref r, .ref d, .int (iI cn), .int (iI fc), .ref ya, .ref yb, .ref yc, .ref yo, .long (lI (X 0)), .long (lI (X 1)), .long (lI (X 2)), .long (lI (X 3)), .long (lI (X 4)), .long (lI (X 5)), .long (lI (X 6))])), (n, .inl (cI, 5, .inl (aI N)))] t9.heap ∧ va_K (dC, dI) vwCl [(cI, .int)] t9 ∧ va_D (va_A [(x, .inr (2, [.int (iI cd), .ref n, .ref r, .ref d, .int (iI cn), .int (iI fc), .ref ya, .ref yb, .ref yc, .ref yo, .long (lI (X 0)), .long (lI (X 1)), .long (lI (X 2)), .long (lI (X 3)), .long (lI (X 4)), .long (lI (X 5)), .long (lI (X 6))])), (n, .inl (cI, 5, .inl (aI N)))] sz) [(x, .inr (2, [.int (iI u), .ref n, .ref r, .ref d, .int (iI cn), .int (iI fc), .ref ya, .ref yb, .ref yc, .ref yo, .long (lI (X 0)), .long (lI (X 1)), .long (lI (X 2)), .long (lI (X 3)), .long (lI (X 4)), .long (lI (X 5)), .long (lI (X 6))])), (n, .inl (cI, 5, .inl (aI N)))]) (va_A [(x, .inr (2, [.int (iI cd), .ref n, .ref r, .ref d, .int (iI cn), .int (iI fc), .ref ya, .ref yb, .ref yc, .ref yo, .long (lI (X 0)), .long (lI (X 1)), .long (lI (X 2)), .long (lI (X 3)), .long (lI (X 4)), .long (lI (X 5)), .long (lI (X 6))])), (n, .inl (cI, 5, .inl (aI N)))] sz)) 0 0 (va_A [(x, .inr (2, [.int (iI cd), .ref n, .ref r, .ref d, .int (iI cn), .int (iI fc), .ref ya, .ref yb, .ref yc, .ref yo, .long (lI (X 0)), .long (lI (X 1)), .long (lI (X 2)), .long (lI (X 3)), .long (lI (X 4)), .long (lI (X 5)), .long (lI (X 6))])), (n, .inl (cI, 5, .inl (aI N)))] sz) := by
  refine Met.ofW (cc := cX2_at) (maxL := 2) (ret := (some .int)) (by decide) rfl ?_
  intro p e s m args below meth c s₁ B hml hv
  obtain ⟨rfl, hsz, hP, hK, hD0, hnb⟩ := hv
  have hx := B.exec
  have hb := B.bytes
  have hr := B.returns
  have hts := atoms_spec (ws := .code yX2_at cX2_at 2 (some .int) :: wsA) B.pre
  have hw : ∀ w ∈ wsA, w.before _ s = true := fun w h => hts w (List.mem_cons_of_mem _ h)
  have hown : s.vm.findClass RX2 = some m.cls := findClass_of_methodNamed B.named
  have hlocks := B.notSynchronized
  subst hsz
  have hD := hD0.self (sz := s.heap.size)
  generalize hAe : va_A [(x, .inr (2, [.int (iI cd), .ref n, .ref r, .ref d, .int (iI cn), .int (iI fc), .ref ya, .ref yb, .ref yc, .ref yo, .long (lI (X 0)), .long (lI (X 1)), .long (lI (X 2)), .long (lI (X 3)), .long (lI (X 4)), .long (lI (X 5)), .long (lI (X 6))])), (n, .inl (cI, 5, .inl (aI N)))] s.heap.size = A at hD ⊢
  have hA : ∀ q : Nat, s.heap.size ≤ q → A q := fun q h => by rw [← hAe]; exact Or.inr h
  have hS : va_S A s.heap s.heap [] := va_S.rf
  have hP : va_P (dC, dI) vwCl [(x, .inr (2, [.int (iI cd), .ref n, .ref r, .ref d, .int (iI cn), .int (iI fc), .ref ya, .ref yb, .ref yc, .ref yo, .long (lI (X 0)), .long (lI (X 1)), .long (lI (X 2)), .long (lI (X 3)), .long (lI (X 4)), .long (lI (X 5)), .long (lI (X 6))])), (n, .inl (cI, 5, .inl (aI N)))] s.heap := hP
  have hl := lv_entry ([.ref x, .int (iI k)]) (n := 2) (Nat.le_of_ble_eq_true rfl)
  rw [lg_entry_eq]
  generalize (lg_sl ([.ref x, .int (iI k)]) ++ List.replicate (2 - (lg_sl ([.ref x, .int (iI k)])).length) Slot.unset).toArray = ls at hl ⊢
  have hl : lv_has ls 2 [(0, .ref x), (1, .int (iI k))] := hl
  refine lv_aload_n hx hb dX2_at_0 rfl (lv_at hl 0 rfl) ?_
  refine lv_iload_n hx hb dX2_at_1 rfl (lv_at hl 1 rfl) ?_
  refine ix_i2l hx hb dX2_at_2 (by omega) ?_
  refine ix_lconst0 hx hb dX2_at_3 ?_
  refine ix_ldc2 (z := 4) hx hb hown (hw _ mA_442) rfl dX2_at_4 ?_
  refine vp_callSi (W.runS (As := [.long (lI k), .long (lI 0), .long (lI 4)]) (rest := [.ref x]) ⟨hx, hb, hml, hown, hw⟩ (kX2_in l k 0 4 ⟨by omega, by omega⟩ (by decide) (by decide)) (cwS 3 hw (gS mA_443 mA_444 mA_3 mA_445) rfl rfl rfl (by decide +kernel) ⟨Nat.le_of_ble_eq_true rfl, Nat.le_of_ble_eq_true rfl⟩) preEq rfl rfl hl.1 rfl (lv_room (Nat.le_of_ble_eq_true rfl)) dX2_at_7 ⟨Nat.le_of_ble_eq_true rfl, Nat.le_of_ble_eq_true rfl⟩) (fun r1 h2 => ?_)
  subst h2
  have hin3 : f_in k 0 4 = if 0 ≤ k ∧ k ≤ 4 then 1 else 0 := rfl
  refine ix_if_eq (tgt := 17) hx hb dX2_at_10 (by decide) (by unfold f_in; grind) (fun c4 => ?_) (fun c4 => ?_)
  · refine ix_iconst (n := 1) hx hb dX2_at_17 ?_
    refine va_put (D := (dC, dI)) (ci := 2) (v := .int (iI 1)) (ty := .int) (C := RX2) (T := TX2) (N := 17) hx hb hw inX2 tyX2 tyX2_ok nmX2 hown hK hP hD hS 0 rfl rfl 0 (by decide) (hw _ mA_381) (fun _ h9 => h9) rfl (by decide +kernel) rfl rfl (Nat.le_of_ble_eq_true rfl) dX2_at_18 (fun H locs hP hD hS => ?_)
    have hP : va_P (dC, dI) vwCl [(x, .inr (2, [.int (iI 1), .ref n, .ref r, .ref d, .int (iI cn), .int (iI fc), .ref ya, .ref yb, .ref yc, .ref yo, .long (lI (X 0)), .long (lI (X 1)), .long (lI (X 2)), .long (lI (X 3)), .long (lI (X 4)), .long (lI (X 5)), .long (lI (X 6))])), (n, .inl (cI, 5, .inl (aI N)))] H := hP
    have hD : va_D A [(x, .inr (2, [.int (iI 1), .ref n, .ref r, .ref d, .int (iI cn), .int (iI fc), .ref ya, .ref yb, .ref yc, .ref yo, .long (lI (X 0)), .long (lI (X 1)), .long (lI (X 2)), .long (lI (X 3)), .long (lI (X 4)), .long (lI (X 5)), .long (lI (X 6))])), (n, .inl (cI, 5, .inl (aI N)))] := hD
    refine lv_aload_n hx hb dX2_at_21 rfl (lv_at hl 0 rfl) ?_
    refine va_get (D := (dC, dI)) (ci := 2) (v := .int (iI 1)) (C := RX2) (T := TX2) (N := 17) hx hb hw inX2 hown hK hP 0 rfl rfl 0 (by decide) (hw _ mA_381) (fun _ h9 => h9) rfl dX2_at_22 ?_
    refine ix_if_le (tgt := 32) hx hb dX2_at_25 (by decide) (by decide) (fun c5 => absurd c5 (by decide)) (fun _ => ?_)
    refine ix_iconst (n := 0) hx hb dX2_at_28 ?_
    refine lv_goto (tgt := 38) hx hb dX2_at_29 (by decide) ?_
    have ec : g_ac k = 1 := by unfold g_ac; grind
    have hP9 := hP.sub (ws' := [(x, .inr (2, [.int (iI 1), .ref n, .ref r, .ref d, .int (iI cn), .int (iI fc), .ref ya, .ref yb, .ref yc, .ref yo, .long (lI (X 0)), .long (lI (X 1)), .long (lI (X 2)), .long (lI (X 3)), .long (lI (X 4)), .long (lI (X 5)), .long (lI (X 6))])), (n, .inl (cI, 5, .inl (aI N)))]) [0, 1] rfl
    have hD9 := hD.sub (ws' := [(x, .inr (2, [.int (iI 1), .ref n, .ref r, .ref d, .int (iI cn), .int (iI fc), .ref ya, .ref yb, .ref yc, .ref yo, .long (lI (X 0)), .long (lI (X 1)), .long (lI (X 2)), .long (lI (X 3)), .long (lI (X 4)), .long (lI (X 5)), .long (lI (X 6))])), (n, .inl (cI, 5, .inl (aI N)))]) [0, 1] (by decide) rfl
    have hK9 := hK.sub (tys' := [(cI, .int)]) [0] rfl
    exact W.iret (v := iI 0) hx hb hr (fun t ht hW => ⟨⟨iI 0, 1, rfl, ⟨ec.symm, by rw [ec]; rfl⟩, by rw [ht]; exact hP9, va_K.moved hW.alike hK9, hD9⟩, hS.F ht⟩) hS.2.2 dX2_at_38
  · refine ix_iconst (n := 0) hx hb dX2_at_13 ?_
    refine lv_goto (tgt := 18) hx hb dX2_at_14 (by decide) ?_
    refine va_put (D := (dC, dI)) (ci := 2) (v := .int (iI 0)) (ty := .int) (C := RX2) (T := TX2) (N := 17) hx hb hw inX2 tyX2 tyX2_ok nmX2 hown hK hP hD hS 0 rfl rfl 0 (by decide) (hw _ mA_381) (fun _ h9 => h9) rfl (by decide +kernel) rfl rfl (Nat.le_of_ble_eq_true rfl) dX2_at_18 (fun H locs hP hD hS => ?_)
    have hP : va_P (dC, dI) vwCl [(x, .inr (2, [.int (iI 0), .ref n, .ref r, .ref d, .int (iI cn), .int (iI fc), .ref ya, .ref yb, .ref yc, .ref yo, .long (lI (X 0)), .long (lI (X 1)), .long (lI (X 2)), .long (lI (X 3)), .long (lI (X 4)), .long (lI (X 5)), .long (lI (X 6))])), (n, .inl (cI, 5, .inl (aI N)))] H := hP
    have hD : va_D A [(x, .inr (2, [.int (iI 0), .ref n, .ref r, .ref d, .int (iI cn), .int (iI fc), .ref ya, .ref yb, .ref yc, .ref yo, .long (lI (X 0)), .long (lI (X 1)), .long (lI (X 2)), .long (lI (X 3)), .long (lI (X 4)), .long (lI (X 5)), .long (lI (X 6))])), (n, .inl (cI, 5, .inl (aI N)))] := hD
    refine lv_aload_n hx hb dX2_at_21 rfl (lv_at hl 0 rfl) ?_
    refine va_get (D := (dC, dI)) (ci := 2) (v := .int (iI 0)) (C := RX2) (T := TX2) (N := 17) hx hb hw inX2 hown hK hP 0 rfl rfl 0 (by decide) (hw _ mA_381) (fun _ h9 => h9) rfl dX2_at_22 ?_
    refine ix_if_le (tgt := 32) hx hb dX2_at_25 (by decide) (by decide) (fun _ => ?_) (fun c6 => absurd c6 (by decide))
    refine lv_aload_n hx hb dX2_at_32 rfl (lv_at hl 0 rfl) ?_
    refine va_get (D := (dC, dI)) (ci := 2) (v := .ref n) (C := RX2) (T := TX2) (N := 17) hx hb hw inX2 hown hK hP 0 rfl rfl 1 (by decide) (hw _ mA_382) (fun _ h9 => h9) rfl dX2_at_33 ?_
    refine lv_iload_n hx hb dX2_at_36 rfl (lv_at hl 1 rfl) ?_
    refine ix_iald (k := k) hx hb hK hP 1 0 rfl rfl (by omega) (by omega) (by decide) dX2_at_37 ?_
    have ec : g_ac k = 0 := by unfold g_ac; grind
    have hP9 := hP.sub (ws' := [(x, .inr (2, [.int (iI 0), .ref n, .ref r, .ref d, .int (iI cn), .int (iI fc), .ref ya, .ref yb, .ref yc, .ref yo, .long (lI (X 0)), .long (lI (X 1)), .long (lI (X 2)), .long (lI (X 3)), .long (lI (X 4)), .long (lI (X 5)), .long (lI (X 6))])), (n, .inl (cI, 5, .inl (aI N)))]) [0, 1] rfl
    have hD9 := hD.sub (ws' := [(x, .inr (2, [.int (iI 0), .ref n, .ref r, .ref d, .int (iI cn), .int (iI fc), .ref ya, .ref yb, .ref yc, .ref yo, .long (lI (X 0)), .long (lI (X 1)), .long (lI (X 2)), .long (lI (X 3)), .long (lI (X 4)), .long (lI (X 5)), .long (lI (X 6))])), (n, .inl (cI, 5, .inl (aI N)))]) [0, 1] (by decide) rfl
    have hK9 := hK.sub (tys' := [(cI, .int)]) [0] rfl
    exact W.iret (v := iI (N k)) hx hb hr (fun t ht hW => ⟨⟨iI (N k), 0, rfl, ⟨ec.symm, by rw [ec]; rfl⟩, by rw [ht]; exact hP9, va_K.moved hW.alike hK9, hD9⟩, hS.F ht⟩) hS.2.2 dX2_at_38
set_option maxHeartbeats 4000000 in
set_option maxRecDepth 100000 in
theorem kX2_clear (l : Launch) (dC : Nat → ClassId) (dI : Nat → Nat → Nat) (sz : Nat) (x n r d ya yb yc yo : Nat) (cI cJ : ClassId) (cd cn fc : Int) (X : Int → Int) (N : Int → Int) (h5 : n5 N) : Met l yX2_clear (.code yX2_clear cX2_clear 2 none :: wsA) ({ frames := 0, cells := 0, slots := 0, locals := 0 }) (va_Pc [.ref x] (fun U => U.heap.size = sz ∧ va_P (dC, dI) vwCl [(x, .inr (2, [.int (iI cd), .ref n, .ref r, .ref d, .int (iI cn), .int (iI fc), .ref ya, .ref yb, .ref yc, .ref yo, .long (lI (X 0)), .long (lI (X 1)), .long (lI (X 2)), .long (lI (X 3)), .long (lI (X 4)), .long (lI (X 5)), .long (lI (X 6))])), (n, .inl (cI, 5, .inl (aI N)))] U.heap ∧ va_K (dC, dI) vwCl [(cI, .int)] U ∧ va_D (fun _ => True) [(x, .inr (2, [.int (iI cd), .ref n, .ref r, .ref d, .int (iI cn), .int (iI fc), .ref ya, .ref yb, .ref yc, .ref yo, .long (lI (X 0)), .long (lI (X 1)), .long (lI (X 2)), .long (lI (X 3)), .long (lI (X 4)), .long (lI (X 5)), .long (lI (X 6))])), (n, .inl (cI, 5, .inl (aI N)))] ∧ nb U)) (va_Qv (fun _ => True) (fun (u : Unit) t9 => va_P (dC, dI) vwCl [(x, .inr (2, [.int (iI 0), .ref n, .ref r, .ref d, .int (iI cn), .int (iI fc), .ref ya, .ref yb, .ref yc, .ref yo, .long (lI (X 0)), .long (lI (X 1)), .long (lI (X 2)), .long (lI (X 3)), .long (lI (X 4)), .long (lI (X 5)), .long (lI (X 6))])), (n, .inl (cI, 5, .inl (aI (fun _ => 0))))] t9.heap ∧ va_K (dC, dI) vwCl [(cI, .int)] t9 ∧ va_D (va_A [(x, .inr (2, [.int (iI cd), .ref n, .ref r, .ref d, .int (iI cn), .int (iI fc), .ref ya, .ref yb, .ref yc, .ref yo, .long (lI (X 0)), .long (lI (X 1)), .long (lI (X 2)), .long (lI (X 3)), .long (lI (X 4)), .long (lI (X 5)), .long (lI (X 6))])), (n, .inl (cI, 5, .inl (aI N)))] sz) [(x, .inr (2, [.int (iI 0), .ref n, .ref r, .ref d, .int (iI cn), .int (iI fc), .ref ya, .ref yb, .ref yc, .ref yo, .long (lI (X 0)), .long (lI (X 1)), .long (lI (X 2)), .long (lI (X 3)), .long (lI (X 4)), .long (lI (X 5)), .long (lI (X 6))])), (n, .inl (cI, 5, .inl (aI (fun _ => 0))))]) (va_A [(x, .inr (2, [.int (iI cd), .ref n, .ref r, .ref d, .int (iI cn), .int (iI fc), .ref ya, .ref yb, .ref yc, .ref yo, .long (lI (X 0)), .long (lI (X 1)), .long (lI (X 2)), .long (lI (X 3)), .long (lI (X 4)), .long (lI (X 5)), .long (lI (X 6))])), (n, .inl (cI, 5, .inl (aI N)))] sz)) 0 0 (va_A [(x, .inr (2, [.int (iI cd), .ref n, .ref r, .ref d, .int (iI cn), .int (iI fc), .ref ya, .ref yb, .ref yc, .ref yo, .long (lI (X 0)), .long (lI (X 1)), .long (lI (X 2)), .long (lI (X 3)), .long (lI (X 4)), .long (lI (X 5)), .long (lI (X 6))])), (n, .inl (cI, 5, .inl (aI N)))] sz) := by
  refine Met.ofW (cc := cX2_clear) (maxL := 2) (ret := none) (by decide) rfl ?_
  intro p e s m args below meth c s₁ B hml hv
  obtain ⟨rfl, hsz, hP, hK, hD0, hnb⟩ := hv
  have hx := B.exec
  have hb := B.bytes
  have hr := B.returns
  have hts := atoms_spec (ws := .code yX2_clear cX2_clear 2 none :: wsA) B.pre
  have hw : ∀ w ∈ wsA, w.before _ s = true := fun w h => hts w (List.mem_cons_of_mem _ h)
  have hown : s.vm.findClass RX2 = some m.cls := findClass_of_methodNamed B.named
  have hlocks := B.notSynchronized
  subst hsz
  have hD := hD0.self (sz := s.heap.size)
  generalize hAe : va_A [(x, .inr (2, [.int (iI cd), .ref n, .ref r, .ref d, .int (iI cn), .int (iI fc), .ref ya, .ref yb, .ref yc, .ref yo, .long (lI (X 0)), .long (lI (X 1)), .long (lI (X 2)), .long (lI (X 3)), .long (lI (X 4)), .long (lI (X 5)), .long (lI (X 6))])), (n, .inl (cI, 5, .inl (aI N)))] s.heap.size = A at hD ⊢
  have hA : ∀ q : Nat, s.heap.size ≤ q → A q := fun q h => by rw [← hAe]; exact Or.inr h
  have hS : va_S A s.heap s.heap [] := va_S.rf
  have hP : va_P (dC, dI) vwCl [(x, .inr (2, [.int (iI cd), .ref n, .ref r, .ref d, .int (iI cn), .int (iI fc), .ref ya, .ref yb, .ref yc, .ref yo, .long (lI (X 0)), .long (lI (X 1)), .long (lI (X 2)), .long (lI (X 3)), .long (lI (X 4)), .long (lI (X 5)), .long (lI (X 6))])), (n, .inl (cI, 5, .inl (aI N)))] s.heap := hP
  have hl := lv_entry ([.ref x]) (n := 2) (Nat.le_of_ble_eq_true rfl)
  rw [lg_entry_eq]
  generalize (lg_sl ([.ref x]) ++ List.replicate (2 - (lg_sl ([.ref x])).length) Slot.unset).toArray = ls at hl ⊢
  have hl : lv_has ls 2 [(0, .ref x)] := hl
  refine lv_aload_n hx hb dX2_clear_0 rfl (lv_at hl 0 rfl) ?_
  refine ix_iconst (n := 0) hx hb dX2_clear_1 ?_
  refine va_put (D := (dC, dI)) (ci := 2) (v := .int (iI 0)) (ty := .int) (C := RX2) (T := TX2) (N := 17) hx hb hw inX2 tyX2 tyX2_ok nmX2 hown hK hP hD hS 0 rfl rfl 0 (by decide) (hw _ mA_381) (fun _ h9 => h9) rfl (by decide +kernel) rfl rfl (Nat.le_of_ble_eq_true rfl) dX2_clear_2 (fun H locs hP hD hS => ?_)
  have hP : va_P (dC, dI) vwCl [(x, .inr (2, [.int (iI 0), .ref n, .ref r, .ref d, .int (iI cn), .int (iI fc), .ref ya, .ref yb, .ref yc, .ref yo, .long (lI (X 0)), .long (lI (X 1)), .long (lI (X 2)), .long (lI (X 3)), .long (lI (X 4)), .long (lI (X 5)), .long (lI (X 6))])), (n, .inl (cI, 5, .inl (aI N)))] H := hP
  have hD : va_D A [(x, .inr (2, [.int (iI 0), .ref n, .ref r, .ref d, .int (iI cn), .int (iI fc), .ref ya, .ref yb, .ref yc, .ref yo, .long (lI (X 0)), .long (lI (X 1)), .long (lI (X 2)), .long (lI (X 3)), .long (lI (X 4)), .long (lI (X 5)), .long (lI (X 6))])), (n, .inl (cI, 5, .inl (aI N)))] := hD
  refine ix_iconst (n := 0) hx hb dX2_clear_5 ?_
  refine lv_istore_n (lv' := [(1, .int (iI 0)), (0, .ref x)]) hx hb dX2_clear_6 rfl hl (by decide) rfl (fun ls hl => ?_)
  refine lv_iload_n hx hb dX2_clear_7 rfl (lv_at hl 0 rfl) ?_
  refine ix_iconst (n := 5) hx hb dX2_clear_8 ?_
  refine ix_icmp_ge (tgt := 25) hx hb dX2_clear_9 (by decide) (by decide) (by decide) (fun c1 => absurd c1 (by decide)) (fun _ => ?_)
  refine lv_aload_n hx hb dX2_clear_12 rfl (lv_at hl 1 rfl) ?_
  refine va_get (D := (dC, dI)) (ci := 2) (v := .ref n) (C := RX2) (T := TX2) (N := 17) hx hb hw inX2 hown hK hP 0 rfl rfl 1 (by decide) (hw _ mA_382) (fun _ h9 => h9) rfl dX2_clear_13 ?_
  refine lv_iload_n hx hb dX2_clear_16 rfl (lv_at hl 0 rfl) ?_
  refine ix_iconst (n := 0) hx hb dX2_clear_17 ?_
  refine ix_iast (k := 0) (x := 0) hx hb hK hP hD hS 1 0 rfl rfl (by decide) (by decide) (by decide) dX2_clear_18 (fun H locs hP hD hS => ?_)
  have hP : va_P (dC, dI) vwCl [(x, .inr (2, [.int (iI 0), .ref n, .ref r, .ref d, .int (iI cn), .int (iI fc), .ref ya, .ref yb, .ref yc, .ref yo, .long (lI (X 0)), .long (lI (X 1)), .long (lI (X 2)), .long (lI (X 3)), .long (lI (X 4)), .long (lI (X 5)), .long (lI (X 6))])), (n, .inl (cI, 5, .inl (aI (iu N 0 0))))] H := hP
  have hD : va_D A [(x, .inr (2, [.int (iI 0), .ref n, .ref r, .ref d, .int (iI cn), .int (iI fc), .ref ya, .ref yb, .ref yc, .ref yo, .long (lI (X 0)), .long (lI (X 1)), .long (lI (X 2)), .long (lI (X 3)), .long (lI (X 4)), .long (lI (X 5)), .long (lI (X 6))])), (n, .inl (cI, 5, .inl (aI (iu N 0 0))))] := hD
  refine ix_iinc (k := 0) (lv2 := [(1, .int (iI 1)), (0, .ref x)]) hx hb dX2_clear_19 hl rfl (by decide) rfl (fun ls hl => ?_)
  refine lv_goto (tgt := 7) hx hb dX2_clear_22 (by decide) ?_
  refine lv_iload_n hx hb dX2_clear_7 rfl (lv_at hl 0 rfl) ?_
  refine ix_iconst (n := 5) hx hb dX2_clear_8 ?_
  refine ix_icmp_ge (tgt := 25) hx hb dX2_clear_9 (by decide) (by decide) (by decide) (fun c2 => absurd c2 (by decide)) (fun _ => ?_)
  refine lv_aload_n hx hb dX2_clear_12 rfl (lv_at hl 1 rfl) ?_
  refine va_get (D := (dC, dI)) (ci := 2) (v := .ref n) (C := RX2) (T := TX2) (N := 17) hx hb hw inX2 hown hK hP 0 rfl rfl 1 (by decide) (hw _ mA_382) (fun _ h9 => h9) rfl dX2_clear_13 ?_
  refine lv_iload_n hx hb dX2_clear_16 rfl (lv_at hl 0 rfl) ?_
  refine ix_iconst (n := 0) hx hb dX2_clear_17 ?_
  refine ix_iast (k := 1) (x := 0) hx hb hK hP hD hS 1 0 rfl rfl (by decide) (by decide) (by decide) dX2_clear_18 (fun H locs hP hD hS => ?_)
  have hP : va_P (dC, dI) vwCl [(x, .inr (2, [.int (iI 0), .ref n, .ref r, .ref d, .int (iI cn), .int (iI fc), .ref ya, .ref yb, .ref yc, .ref yo, .long (lI (X 0)), .long (lI (X 1)), .long (lI (X 2)), .long (lI (X 3)), .long (lI (X 4)), .long (lI (X 5)), .long (lI (X 6))])), (n, .inl (cI, 5, .inl (aI (iu (iu N 0 0) 1 0))))] H := hP
  have hD : va_D A [(x, .inr (2, [.int (iI 0), .ref n, .ref r, .ref d, .int (iI cn), .int (iI fc), .ref ya, .ref yb, .ref yc, .ref yo, .long (lI (X 0)), .long (lI (X 1)), .long (lI (X 2)), .long (lI (X 3)), .long (lI (X 4)), .long (lI (X 5)), .long (lI (X 6))])), (n, .inl (cI, 5, .inl (aI (iu (iu N 0 0) 1 0))))] := hD
  refine ix_iinc (k := 0) (lv2 := [(1, .int (iI 2)), (0, .ref x)]) hx hb dX2_clear_19 hl rfl (by decide) rfl (fun ls hl => ?_)
  refine lv_goto (tgt := 7) hx hb dX2_clear_22 (by decide) ?_
  refine lv_iload_n hx hb dX2_clear_7 rfl (lv_at hl 0 rfl) ?_
  refine ix_iconst (n := 5) hx hb dX2_clear_8 ?_
  refine ix_icmp_ge (tgt := 25) hx hb dX2_clear_9 (by decide) (by decide) (by decide) (fun c3 => absurd c3 (by decide)) (fun _ => ?_)
  refine lv_aload_n hx hb dX2_clear_12 rfl (lv_at hl 1 rfl) ?_
  refine va_get (D := (dC, dI)) (ci := 2) (v := .ref n) (C := RX2) (T := TX2) (N := 17) hx hb hw inX2 hown hK hP 0 rfl rfl 1 (by decide) (hw _ mA_382) (fun _ h9 => h9) rfl dX2_clear_13 ?_
  refine lv_iload_n hx hb dX2_clear_16 rfl (lv_at hl 0 rfl) ?_
  refine ix_iconst (n := 0) hx hb dX2_clear_17 ?_
  refine ix_iast (k := 2) (x := 0) hx hb hK hP hD hS 1 0 rfl rfl (by decide) (by decide) (by decide) dX2_clear_18 (fun H locs hP hD hS => ?_)
  have hP : va_P (dC, dI) vwCl [(x, .inr (2, [.int (iI 0), .ref n, .ref r, .ref d, .int (iI cn), .int (iI fc), .ref ya, .ref yb, .ref yc, .ref yo, .long (lI (X 0)), .long (lI (X 1)), .long (lI (X 2)), .long (lI (X 3)), .long (lI (X 4)), .long (lI (X 5)), .long (lI (X 6))])), (n, .inl (cI, 5, .inl (aI (iu (iu (iu N 0 0) 1 0) 2 0))))] H := hP
  have hD : va_D A [(x, .inr (2, [.int (iI 0), .ref n, .ref r, .ref d, .int (iI cn), .int (iI fc), .ref ya, .ref yb, .ref yc, .ref yo, .long (lI (X 0)), .long (lI (X 1)), .long (lI (X 2)), .long (lI (X 3)), .long (lI (X 4)), .long (lI (X 5)), .long (lI (X 6))])), (n, .inl (cI, 5, .inl (aI (iu (iu (iu N 0 0) 1 0) 2 0))))] := hD
  refine ix_iinc (k := 0) (lv2 := [(1, .int (iI 3)), (0, .ref x)]) hx hb dX2_clear_19 hl rfl (by decide) rfl (fun ls hl => ?_)
  refine lv_goto (tgt := 7) hx hb dX2_clear_22 (by decide) ?_
  refine lv_iload_n hx hb dX2_clear_7 rfl (lv_at hl 0 rfl) ?_
  refine ix_iconst (n := 5) hx hb dX2_clear_8 ?_
  refine ix_icmp_ge (tgt := 25) hx hb dX2_clear_9 (by decide) (by decide) (by decide) (fun c4 => absurd c4 (by decide)) (fun _ => ?_)
  refine lv_aload_n hx hb dX2_clear_12 rfl (lv_at hl 1 rfl) ?_
  refine va_get (D := (dC, dI)) (ci := 2) (v := .ref n) (C := RX2) (T := TX2) (N := 17) hx hb hw inX2 hown hK hP 0 rfl rfl 1 (by decide) (hw _ mA_382) (fun _ h9 => h9) rfl dX2_clear_13 ?_
  refine lv_iload_n hx hb dX2_clear_16 rfl (lv_at hl 0 rfl) ?_
  refine ix_iconst (n := 0) hx hb dX2_clear_17 ?_
  refine ix_iast (k := 3) (x := 0) hx hb hK hP hD hS 1 0 rfl rfl (by decide) (by decide) (by decide) dX2_clear_18 (fun H locs hP hD hS => ?_)
  have hP : va_P (dC, dI) vwCl [(x, .inr (2, [.int (iI 0), .ref n, .ref r, .ref d, .int (iI cn), .int (iI fc), .ref ya, .ref yb, .ref yc, .ref yo, .long (lI (X 0)), .long (lI (X 1)), .long (lI (X 2)), .long (lI (X 3)), .long (lI (X 4)), .long (lI (X 5)), .long (lI (X 6))])), (n, .inl (cI, 5, .inl (aI (iu (iu (iu (iu N 0 0) 1 0) 2 0) 3 0))))] H := hP
  have hD : va_D A [(x, .inr (2, [.int (iI 0), .ref n, .ref r, .ref d, .int (iI cn), .int (iI fc), .ref ya, .ref yb, .ref yc, .ref yo, .long (lI (X 0)), .long (lI (X 1)), .long (lI (X 2)), .long (lI (X 3)), .long (lI (X 4)), .long (lI (X 5)), .long (lI (X 6))])), (n, .inl (cI, 5, .inl (aI (iu (iu (iu (iu N 0 0) 1 0) 2 0) 3 0))))] := hD
  refine ix_iinc (k := 0) (lv2 := [(1, .int (iI 4)), (0, .ref x)]) hx hb dX2_clear_19 hl rfl (by decide) rfl (fun ls hl => ?_)
  refine lv_goto (tgt := 7) hx hb dX2_clear_22 (by decide) ?_
  refine lv_iload_n hx hb dX2_clear_7 rfl (lv_at hl 0 rfl) ?_
  refine ix_iconst (n := 5) hx hb dX2_clear_8 ?_
  refine ix_icmp_ge (tgt := 25) hx hb dX2_clear_9 (by decide) (by decide) (by decide) (fun c5 => absurd c5 (by decide)) (fun _ => ?_)
  refine lv_aload_n hx hb dX2_clear_12 rfl (lv_at hl 1 rfl) ?_
  refine va_get (D := (dC, dI)) (ci := 2) (v := .ref n) (C := RX2) (T := TX2) (N := 17) hx hb hw inX2 hown hK hP 0 rfl rfl 1 (by decide) (hw _ mA_382) (fun _ h9 => h9) rfl dX2_clear_13 ?_
  refine lv_iload_n hx hb dX2_clear_16 rfl (lv_at hl 0 rfl) ?_
  refine ix_iconst (n := 0) hx hb dX2_clear_17 ?_
  refine ix_iast (k := 4) (x := 0) hx hb hK hP hD hS 1 0 rfl rfl (by decide) (by decide) (by decide) dX2_clear_18 (fun H locs hP hD hS => ?_)
  have hP : va_P (dC, dI) vwCl [(x, .inr (2, [.int (iI 0), .ref n, .ref r, .ref d, .int (iI cn), .int (iI fc), .ref ya, .ref yb, .ref yc, .ref yo, .long (lI (X 0)), .long (lI (X 1)), .long (lI (X 2)), .long (lI (X 3)), .long (lI (X 4)), .long (lI (X 5)), .long (lI (X 6))])), (n, .inl (cI, 5, .inl (aI (iu (iu (iu (iu (iu N 0 0) 1 0) 2 0) 3 0) 4 0))))] H := hP
  have hD : va_D A [(x, .inr (2, [.int (iI 0), .ref n, .ref r, .ref d, .int (iI cn), .int (iI fc), .ref ya, .ref yb, .ref yc, .ref yo, .long (lI (X 0)), .long (lI (X 1)), .long (lI (X 2)), .long (lI (X 3)), .long (lI (X 4)), .long (lI (X 5)), .long (lI (X 6))])), (n, .inl (cI, 5, .inl (aI (iu (iu (iu (iu (iu N 0 0) 1 0) 2 0) 3 0) 4 0))))] := hD
  refine ix_iinc (k := 0) (lv2 := [(1, .int (iI 5)), (0, .ref x)]) hx hb dX2_clear_19 hl rfl (by decide) rfl (fun ls hl => ?_)
  refine lv_goto (tgt := 7) hx hb dX2_clear_22 (by decide) ?_
  refine lv_iload_n hx hb dX2_clear_7 rfl (lv_at hl 0 rfl) ?_
  refine ix_iconst (n := 5) hx hb dX2_clear_8 ?_
  refine ix_icmp_ge (tgt := 25) hx hb dX2_clear_9 (by decide) (by decide) (by decide) (fun _ => ?_) (fun c6 => absurd c6 (by decide))
  have e9 : iu (iu (iu (iu (iu N 0 0) 1 0) 2 0) 3 0) 4 0 = fun _ => 0 := by funext j; unfold iu; by_cases z : 0 ≤ j ∧ j ≤ 4; grind; rw [h5 j (by omega)]; grind
  rw [e9] at hP hD
  have hP9 := hP.sub (ws' := [(x, .inr (2, [.int (iI 0), .ref n, .ref r, .ref d, .int (iI cn), .int (iI fc), .ref ya, .ref yb, .ref yc, .ref yo, .long (lI (X 0)), .long (lI (X 1)), .long (lI (X 2)), .long (lI (X 3)), .long (lI (X 4)), .long (lI (X 5)), .long (lI (X 6))])), (n, .inl (cI, 5, .inl (aI (fun _ => 0))))]) [0, 1] rfl
  have hD9 := hD.sub (ws' := [(x, .inr (2, [.int (iI 0), .ref n, .ref r, .ref d, .int (iI cn), .int (iI fc), .ref ya, .ref yb, .ref yc, .ref yo, .long (lI (X 0)), .long (lI (X 1)), .long (lI (X 2)), .long (lI (X 3)), .long (lI (X 4)), .long (lI (X 5)), .long (lI (X 6))])), (n, .inl (cI, 5, .inl (aI (fun _ => 0))))]) [0, 1] (by decide) rfl
  have hK9 := hK.sub (tys' := [(cI, .int)]) [0] rfl
  exact W.vret hx hb hr (fun t ht hW => ⟨⟨(), rfl, trivial, by rw [ht]; exact hP9, va_K.moved hW.alike hK9, hD9⟩, hS.F ht⟩) hS.2.2 dX2_clear_25
set_option maxHeartbeats 4000000 in
set_option maxRecDepth 100000 in
theorem kX2_lowest (l : Launch) (dC : Nat → ClassId) (dI : Nat → Nat → Nat) (sz : Nat) (x n r d ya yb yc yo : Nat) (cI cJ : ClassId) (cd cn fc : Int) (X : Int → Int) (a b : Int) (ha : -1002000 ≤ a ∧ a ≤ 1002000) (hb9 : -1002000 ≤ b ∧ b ≤ 1002000) (hb0 : b ≠ 0) : Met l yX2_lowest (.code yX2_lowest cX2_lowest 7 none :: wsA) ({ frames := 2, cells := 0, slots := 0, locals := 80 }) (va_Pc [.ref x, .long (lI a), .long (lI b)] (fun U => U.heap.size = sz ∧ va_P (dC, dI) vwCl [(x, .inr (2, [.int (iI cd), .ref n, .ref r, .ref d, .int (iI cn), .int (iI fc), .ref ya, .ref yb, .ref yc, .ref yo, .long (lI (X 0)), .long (lI (X 1)), .long (lI (X 2)), .long (lI (X 3)), .long (lI (X 4)), .long (lI (X 5)), .long (lI (X 6))]))] U.heap ∧ va_K (dC, dI) vwCl [] U ∧ va_D (fun _ => True) [(x, .inr (2, [.int (iI cd), .ref n, .ref r, .ref d, .int (iI cn), .int (iI fc), .ref ya, .ref yb, .ref yc, .ref yo, .long (lI (X 0)), .long (lI (X 1)), .long (lI (X 2)), .long (lI (X 3)), .long (lI (X 4)), .long (lI (X 5)), .long (lI (X 6))]))] ∧ nb U)) (va_Qv (fun _ => True) (fun (u : Unit) t9 => va_P (dC, dI) vwCl [(x, .inr (2, [.int (iI cd), .ref n, .ref r, .ref d, .int (iI cn), .int (iI fc), .ref ya, .ref yb, .ref yc, .ref yo, .long (lI ((g_low a b X) 0)), .long (lI ((g_low a b X) 1)), .long (lI ((g_low a b X) 2)), .long (lI ((g_low a b X) 3)), .long (lI ((g_low a b X) 4)), .long (lI ((g_low a b X) 5)), .long (lI ((g_low a b X) 6))]))] t9.heap ∧ va_K (dC, dI) vwCl [] t9 ∧ va_D (va_A [(x, .inr (2, [.int (iI cd), .ref n, .ref r, .ref d, .int (iI cn), .int (iI fc), .ref ya, .ref yb, .ref yc, .ref yo, .long (lI (X 0)), .long (lI (X 1)), .long (lI (X 2)), .long (lI (X 3)), .long (lI (X 4)), .long (lI (X 5)), .long (lI (X 6))]))] sz) [(x, .inr (2, [.int (iI cd), .ref n, .ref r, .ref d, .int (iI cn), .int (iI fc), .ref ya, .ref yb, .ref yc, .ref yo, .long (lI ((g_low a b X) 0)), .long (lI ((g_low a b X) 1)), .long (lI ((g_low a b X) 2)), .long (lI ((g_low a b X) 3)), .long (lI ((g_low a b X) 4)), .long (lI ((g_low a b X) 5)), .long (lI ((g_low a b X) 6))]))]) (va_A [(x, .inr (2, [.int (iI cd), .ref n, .ref r, .ref d, .int (iI cn), .int (iI fc), .ref ya, .ref yb, .ref yc, .ref yo, .long (lI (X 0)), .long (lI (X 1)), .long (lI (X 2)), .long (lI (X 3)), .long (lI (X 4)), .long (lI (X 5)), .long (lI (X 6))]))] sz)) 0 0 (va_A [(x, .inr (2, [.int (iI cd), .ref n, .ref r, .ref d, .int (iI cn), .int (iI fc), .ref ya, .ref yb, .ref yc, .ref yo, .long (lI (X 0)), .long (lI (X 1)), .long (lI (X 2)), .long (lI (X 3)), .long (lI (X 4)), .long (lI (X 5)), .long (lI (X 6))]))] sz) := by
  refine Met.ofW (cc := cX2_lowest) (maxL := 7) (ret := none) (by decide) rfl ?_
  intro p e s m args below meth c s₁ B hml hv
  obtain ⟨rfl, hsz, hP, hK, hD0, hnb⟩ := hv
  have hx := B.exec
  have hb := B.bytes
  have hr := B.returns
  have hts := atoms_spec (ws := .code yX2_lowest cX2_lowest 7 none :: wsA) B.pre
  have hw : ∀ w ∈ wsA, w.before _ s = true := fun w h => hts w (List.mem_cons_of_mem _ h)
  have hown : s.vm.findClass RX2 = some m.cls := findClass_of_methodNamed B.named
  have hlocks := B.notSynchronized
  subst hsz
  have hD := hD0.self (sz := s.heap.size)
  generalize hAe : va_A [(x, .inr (2, [.int (iI cd), .ref n, .ref r, .ref d, .int (iI cn), .int (iI fc), .ref ya, .ref yb, .ref yc, .ref yo, .long (lI (X 0)), .long (lI (X 1)), .long (lI (X 2)), .long (lI (X 3)), .long (lI (X 4)), .long (lI (X 5)), .long (lI (X 6))]))] s.heap.size = A at hD ⊢
  have hA : ∀ q : Nat, s.heap.size ≤ q → A q := fun q h => by rw [← hAe]; exact Or.inr h
  have hS : va_S A s.heap s.heap [] := va_S.rf
  have hP : va_P (dC, dI) vwCl [(x, .inr (2, [.int (iI cd), .ref n, .ref r, .ref d, .int (iI cn), .int (iI fc), .ref ya, .ref yb, .ref yc, .ref yo, .long (lI (X 0)), .long (lI (X 1)), .long (lI (X 2)), .long (lI (X 3)), .long (lI (X 4)), .long (lI (X 5)), .long (lI (X 6))]))] s.heap := hP
  have hl := lv_entry ([.ref x, .long (lI a), .long (lI b)]) (n := 7) (Nat.le_of_ble_eq_true rfl)
  rw [lg_entry_eq]
  generalize (lg_sl ([.ref x, .long (lI a), .long (lI b)]) ++ List.replicate (7 - (lg_sl ([.ref x, .long (lI a), .long (lI b)])).length) Slot.unset).toArray = ls at hl ⊢
  have hl : lv_has ls 7 [(0, .ref x), (1, .long (lI a)), (3, .long (lI b))] := hl
  refine lv_lload_n hx hb dX2_lowest_0 rfl (lv_at hl 1 rfl) ?_
  refine lv_lload_n hx hb dX2_lowest_1 rfl (lv_at hl 2 rfl) ?_
  refine vp_callSl (W.runS (As := [.long (lI a), .long (lI b)]) (rest := []) ⟨hx, hb, hml, hown, hw⟩ (kX2_divisor l a b ⟨by omega, by omega⟩ ⟨by omega, by omega⟩) (cwS 2 hw (gS mA_482 mA_483 mA_3 mA_484) rfl rfl rfl (by decide +kernel) ⟨Nat.le_of_ble_eq_true rfl, Nat.le_of_ble_eq_true rfl⟩) preEq rfl rfl hl.1 rfl (lv_room (Nat.le_of_ble_eq_true rfl)) dX2_lowest_2 ⟨Nat.le_of_ble_eq_true rfl, Nat.le_of_ble_eq_true rfl⟩) (fun r1 h2 => ?_)
  subst h2
  have hg9 := gcd_bd (a := a) (b := b) ha hb9
  have hg1 : f_gcd a b ≠ 0 := fun q => hb0 (Int.zero_dvd.mp (by have := gcd_dr a b; rw [q] at this; exact this))
  refine lv_lstore (lv' := [(5, .long (lI (f_gcd a b))), (0, .ref x), (1, .long (lI a)), (3, .long (lI b))]) hx hb dX2_lowest_5 hl (by decide) rfl (fun ls hl => ?_)
  refine lv_aload_n hx hb dX2_lowest_7 rfl (lv_at hl 1 rfl) ?_
  refine lv_lload_n hx hb dX2_lowest_8 rfl (lv_at hl 3 rfl) ?_
  refine ix_lconst0 hx hb dX2_lowest_9 ?_
  refine ix_lc_ge (tgt := 22) hx hb dX2_lowest_10 dX2_lowest_11 (by decide) ⟨by omega, by omega⟩ (by decide) (fun c3 => ?_) (fun c3 => ?_)
  · refine lv_lload_n hx hb dX2_lowest_22 rfl (lv_at hl 2 rfl) ?_
    refine lv_lload hx hb dX2_lowest_23 (lv_at hl 0 rfl) ?_
    refine ix_ldiv hx hb dX2_lowest_25 ⟨by omega, by omega⟩ ⟨by omega, by omega⟩ (by omega) (by omega) ?_
    refine va_put (D := (dC, dI)) (ci := 2) (v := .long (lI (Int.tdiv a (f_gcd a b)))) (ty := .long) (C := RX2) (T := TX2) (N := 17) hx hb hw inX2 tyX2 tyX2_ok nmX2 hown hK hP hD hS 0 rfl rfl 15 (by decide) (hw _ mA_396) (fun _ h9 => h9) rfl (by decide +kernel) rfl rfl (Nat.le_of_ble_eq_true rfl) dX2_lowest_26 (fun H locs hP hD hS => ?_)
    have hP : va_P (dC, dI) vwCl [(x, .inr (2, [.int (iI cd), .ref n, .ref r, .ref d, .int (iI cn), .int (iI fc), .ref ya, .ref yb, .ref yc, .ref yo, .long (lI (X 0)), .long (lI (X 1)), .long (lI (X 2)), .long (lI (X 3)), .long (lI (X 4)), .long (lI (Int.tdiv a (f_gcd a b))), .long (lI (X 6))]))] H := hP
    have hD : va_D A [(x, .inr (2, [.int (iI cd), .ref n, .ref r, .ref d, .int (iI cn), .int (iI fc), .ref ya, .ref yb, .ref yc, .ref yo, .long (lI (X 0)), .long (lI (X 1)), .long (lI (X 2)), .long (lI (X 3)), .long (lI (X 4)), .long (lI (Int.tdiv a (f_gcd a b))), .long (lI (X 6))]))] := hD
    refine lv_aload_n hx hb dX2_lowest_29 rfl (lv_at hl 1 rfl) ?_
    refine lv_lload_n hx hb dX2_lowest_30 rfl (lv_at hl 3 rfl) ?_
    refine ix_lconst0 hx hb dX2_lowest_31 ?_
    refine ix_lc_ge (tgt := 44) hx hb dX2_lowest_32 dX2_lowest_33 (by decide) ⟨by omega, by omega⟩ (by decide) (fun c4 => ?_) (fun c4 => ?_)
    · refine lv_lload_n hx hb dX2_lowest_44 rfl (lv_at hl 3 rfl) ?_
      refine lv_lload hx hb dX2_lowest_45 (lv_at hl 0 rfl) ?_
      refine ix_ldiv hx hb dX2_lowest_47 ⟨by omega, by omega⟩ ⟨by omega, by omega⟩ (by omega) (by omega) ?_
      refine va_put (D := (dC, dI)) (ci := 2) (v := .long (lI (Int.tdiv b (f_gcd a b)))) (ty := .long) (C := RX2) (T := TX2) (N := 17) hx hb hw inX2 tyX2 tyX2_ok nmX2 hown hK hP hD hS 0 rfl rfl 16 (by decide) (hw _ mA_397) (fun _ h9 => h9) rfl (by decide +kernel) rfl rfl (Nat.le_of_ble_eq_true rfl) dX2_lowest_48 (fun H locs hP hD hS => ?_)
      have hP : va_P (dC, dI) vwCl [(x, .inr (2, [.int (iI cd), .ref n, .ref r, .ref d, .int (iI cn), .int (iI fc), .ref ya, .ref yb, .ref yc, .ref yo, .long (lI (X 0)), .long (lI (X 1)), .long (lI (X 2)), .long (lI (X 3)), .long (lI (X 4)), .long (lI (Int.tdiv a (f_gcd a b))), .long (lI (Int.tdiv b (f_gcd a b)))]))] H := hP
      have hD : va_D A [(x, .inr (2, [.int (iI cd), .ref n, .ref r, .ref d, .int (iI cn), .int (iI fc), .ref ya, .ref yb, .ref yc, .ref yo, .long (lI (X 0)), .long (lI (X 1)), .long (lI (X 2)), .long (lI (X 3)), .long (lI (X 4)), .long (lI (Int.tdiv a (f_gcd a b))), .long (lI (Int.tdiv b (f_gcd a b)))]))] := hD
      have e5 : Int.tdiv a (f_gcd a b) = (g_low a b X) 5 := by unfold g_low iu; grind
      have e6 : Int.tdiv b (f_gcd a b) = (g_low a b X) 6 := by unfold g_low iu; grind
      have eW : ([.int (iI cd), .ref n, .ref r, .ref d, .int (iI cn), .int (iI fc), .ref ya, .ref yb, .ref yc, .ref yo, .long (lI (X 0)), .long (lI (X 1)), .long (lI (X 2)), .long (lI (X 3)), .long (lI (X 4)), .long (lI (Int.tdiv a (f_gcd a b))), .long (lI (Int.tdiv b (f_gcd a b)))] : List Value) = [.int (iI cd), .ref n, .ref r, .ref d, .int (iI cn), .int (iI fc), .ref ya, .ref yb, .ref yc, .ref yo, .long (lI ((g_low a b X) 0)), .long (lI ((g_low a b X) 1)), .long (lI ((g_low a b X) 2)), .long (lI ((g_low a b X) 3)), .long (lI ((g_low a b X) 4)), .long (lI ((g_low a b X) 5)), .long (lI ((g_low a b X) 6))] := by rw [← e5, ← e6]; rfl
      rw [eW] at hP hD
      have hP9 := hP.sub (ws' := [(x, .inr (2, [.int (iI cd), .ref n, .ref r, .ref d, .int (iI cn), .int (iI fc), .ref ya, .ref yb, .ref yc, .ref yo, .long (lI ((g_low a b X) 0)), .long (lI ((g_low a b X) 1)), .long (lI ((g_low a b X) 2)), .long (lI ((g_low a b X) 3)), .long (lI ((g_low a b X) 4)), .long (lI ((g_low a b X) 5)), .long (lI ((g_low a b X) 6))]))]) [0] rfl
      have hD9 := hD.sub (ws' := [(x, .inr (2, [.int (iI cd), .ref n, .ref r, .ref d, .int (iI cn), .int (iI fc), .ref ya, .ref yb, .ref yc, .ref yo, .long (lI ((g_low a b X) 0)), .long (lI ((g_low a b X) 1)), .long (lI ((g_low a b X) 2)), .long (lI ((g_low a b X) 3)), .long (lI ((g_low a b X) 4)), .long (lI ((g_low a b X) 5)), .long (lI ((g_low a b X) 6))]))]) [0] (by decide) rfl
      have hK9 := hK.sub (tys' := []) [] rfl
      exact W.vret hx hb hr (fun t ht hW => ⟨⟨(), rfl, trivial, by rw [ht]; exact hP9, va_K.moved hW.alike hK9, hD9⟩, hS.F ht⟩) hS.2.2 dX2_lowest_51
    · refine lv_lload_n hx hb dX2_lowest_36 rfl (lv_at hl 3 rfl) ?_
      refine lv_lload hx hb dX2_lowest_37 (lv_at hl 0 rfl) ?_
      refine ix_ldiv hx hb dX2_lowest_39 ⟨by omega, by omega⟩ ⟨by omega, by omega⟩ (by omega) (by omega) ?_
      refine ix_lneg hx hb dX2_lowest_40 ?_
      refine lv_goto (tgt := 48) hx hb dX2_lowest_41 (by decide) ?_
      refine va_put (D := (dC, dI)) (ci := 2) (v := .long (lI (-(Int.tdiv b (f_gcd a b))))) (ty := .long) (C := RX2) (T := TX2) (N := 17) hx hb hw inX2 tyX2 tyX2_ok nmX2 hown hK hP hD hS 0 rfl rfl 16 (by decide) (hw _ mA_397) (fun _ h9 => h9) rfl (by decide +kernel) rfl rfl (Nat.le_of_ble_eq_true rfl) dX2_lowest_48 (fun H locs hP hD hS => ?_)
      have hP : va_P (dC, dI) vwCl [(x, .inr (2, [.int (iI cd), .ref n, .ref r, .ref d, .int (iI cn), .int (iI fc), .ref ya, .ref yb, .ref yc, .ref yo, .long (lI (X 0)), .long (lI (X 1)), .long (lI (X 2)), .long (lI (X 3)), .long (lI (X 4)), .long (lI (Int.tdiv a (f_gcd a b))), .long (lI (-(Int.tdiv b (f_gcd a b))))]))] H := hP
      have hD : va_D A [(x, .inr (2, [.int (iI cd), .ref n, .ref r, .ref d, .int (iI cn), .int (iI fc), .ref ya, .ref yb, .ref yc, .ref yo, .long (lI (X 0)), .long (lI (X 1)), .long (lI (X 2)), .long (lI (X 3)), .long (lI (X 4)), .long (lI (Int.tdiv a (f_gcd a b))), .long (lI (-(Int.tdiv b (f_gcd a b))))]))] := hD
      have e5 : Int.tdiv a (f_gcd a b) = (g_low a b X) 5 := by unfold g_low iu; grind
      have e6 : -(Int.tdiv b (f_gcd a b)) = (g_low a b X) 6 := by unfold g_low iu; grind
      have eW : ([.int (iI cd), .ref n, .ref r, .ref d, .int (iI cn), .int (iI fc), .ref ya, .ref yb, .ref yc, .ref yo, .long (lI (X 0)), .long (lI (X 1)), .long (lI (X 2)), .long (lI (X 3)), .long (lI (X 4)), .long (lI (Int.tdiv a (f_gcd a b))), .long (lI (-(Int.tdiv b (f_gcd a b))))] : List Value) = [.int (iI cd), .ref n, .ref r, .ref d, .int (iI cn), .int (iI fc), .ref ya, .ref yb, .ref yc, .ref yo, .long (lI ((g_low a b X) 0)), .long (lI ((g_low a b X) 1)), .long (lI ((g_low a b X) 2)), .long (lI ((g_low a b X) 3)), .long (lI ((g_low a b X) 4)), .long (lI ((g_low a b X) 5)), .long (lI ((g_low a b X) 6))] := by rw [← e5, ← e6]; rfl
      rw [eW] at hP hD
      have hP9 := hP.sub (ws' := [(x, .inr (2, [.int (iI cd), .ref n, .ref r, .ref d, .int (iI cn), .int (iI fc), .ref ya, .ref yb, .ref yc, .ref yo, .long (lI ((g_low a b X) 0)), .long (lI ((g_low a b X) 1)), .long (lI ((g_low a b X) 2)), .long (lI ((g_low a b X) 3)), .long (lI ((g_low a b X) 4)), .long (lI ((g_low a b X) 5)), .long (lI ((g_low a b X) 6))]))]) [0] rfl
      have hD9 := hD.sub (ws' := [(x, .inr (2, [.int (iI cd), .ref n, .ref r, .ref d, .int (iI cn), .int (iI fc), .ref ya, .ref yb, .ref yc, .ref yo, .long (lI ((g_low a b X) 0)), .long (lI ((g_low a b X) 1)), .long (lI ((g_low a b X) 2)), .long (lI ((g_low a b X) 3)), .long (lI ((g_low a b X) 4)), .long (lI ((g_low a b X) 5)), .long (lI ((g_low a b X) 6))]))]) [0] (by decide) rfl
      have hK9 := hK.sub (tys' := []) [] rfl
      exact W.vret hx hb hr (fun t ht hW => ⟨⟨(), rfl, trivial, by rw [ht]; exact hP9, va_K.moved hW.alike hK9, hD9⟩, hS.F ht⟩) hS.2.2 dX2_lowest_51
  · refine lv_lload_n hx hb dX2_lowest_14 rfl (lv_at hl 2 rfl) ?_
    refine lv_lload hx hb dX2_lowest_15 (lv_at hl 0 rfl) ?_
    refine ix_ldiv hx hb dX2_lowest_17 ⟨by omega, by omega⟩ ⟨by omega, by omega⟩ (by omega) (by omega) ?_
    refine ix_lneg hx hb dX2_lowest_18 ?_
    refine lv_goto (tgt := 26) hx hb dX2_lowest_19 (by decide) ?_
    refine va_put (D := (dC, dI)) (ci := 2) (v := .long (lI (-(Int.tdiv a (f_gcd a b))))) (ty := .long) (C := RX2) (T := TX2) (N := 17) hx hb hw inX2 tyX2 tyX2_ok nmX2 hown hK hP hD hS 0 rfl rfl 15 (by decide) (hw _ mA_396) (fun _ h9 => h9) rfl (by decide +kernel) rfl rfl (Nat.le_of_ble_eq_true rfl) dX2_lowest_26 (fun H locs hP hD hS => ?_)
    have hP : va_P (dC, dI) vwCl [(x, .inr (2, [.int (iI cd), .ref n, .ref r, .ref d, .int (iI cn), .int (iI fc), .ref ya, .ref yb, .ref yc, .ref yo, .long (lI (X 0)), .long (lI (X 1)), .long (lI (X 2)), .long (lI (X 3)), .long (lI (X 4)), .long (lI (-(Int.tdiv a (f_gcd a b)))), .long (lI (X 6))]))] H := hP
    have hD : va_D A [(x, .inr (2, [.int (iI cd), .ref n, .ref r, .ref d, .int (iI cn), .int (iI fc), .ref ya, .ref yb, .ref yc, .ref yo, .long (lI (X 0)), .long (lI (X 1)), .long (lI (X 2)), .long (lI (X 3)), .long (lI (X 4)), .long (lI (-(Int.tdiv a (f_gcd a b)))), .long (lI (X 6))]))] := hD
    refine lv_aload_n hx hb dX2_lowest_29 rfl (lv_at hl 1 rfl) ?_
    refine lv_lload_n hx hb dX2_lowest_30 rfl (lv_at hl 3 rfl) ?_
    refine ix_lconst0 hx hb dX2_lowest_31 ?_
    refine ix_lc_ge (tgt := 44) hx hb dX2_lowest_32 dX2_lowest_33 (by decide) ⟨by omega, by omega⟩ (by decide) (fun c5 => ?_) (fun c5 => ?_)
    · refine lv_lload_n hx hb dX2_lowest_44 rfl (lv_at hl 3 rfl) ?_
      refine lv_lload hx hb dX2_lowest_45 (lv_at hl 0 rfl) ?_
      refine ix_ldiv hx hb dX2_lowest_47 ⟨by omega, by omega⟩ ⟨by omega, by omega⟩ (by omega) (by omega) ?_
      refine va_put (D := (dC, dI)) (ci := 2) (v := .long (lI (Int.tdiv b (f_gcd a b)))) (ty := .long) (C := RX2) (T := TX2) (N := 17) hx hb hw inX2 tyX2 tyX2_ok nmX2 hown hK hP hD hS 0 rfl rfl 16 (by decide) (hw _ mA_397) (fun _ h9 => h9) rfl (by decide +kernel) rfl rfl (Nat.le_of_ble_eq_true rfl) dX2_lowest_48 (fun H locs hP hD hS => ?_)
      have hP : va_P (dC, dI) vwCl [(x, .inr (2, [.int (iI cd), .ref n, .ref r, .ref d, .int (iI cn), .int (iI fc), .ref ya, .ref yb, .ref yc, .ref yo, .long (lI (X 0)), .long (lI (X 1)), .long (lI (X 2)), .long (lI (X 3)), .long (lI (X 4)), .long (lI (-(Int.tdiv a (f_gcd a b)))), .long (lI (Int.tdiv b (f_gcd a b)))]))] H := hP
      have hD : va_D A [(x, .inr (2, [.int (iI cd), .ref n, .ref r, .ref d, .int (iI cn), .int (iI fc), .ref ya, .ref yb, .ref yc, .ref yo, .long (lI (X 0)), .long (lI (X 1)), .long (lI (X 2)), .long (lI (X 3)), .long (lI (X 4)), .long (lI (-(Int.tdiv a (f_gcd a b)))), .long (lI (Int.tdiv b (f_gcd a b)))]))] := hD
      have e5 : -(Int.tdiv a (f_gcd a b)) = (g_low a b X) 5 := by unfold g_low iu; grind
      have e6 : Int.tdiv b (f_gcd a b) = (g_low a b X) 6 := by unfold g_low iu; grind
      have eW : ([.int (iI cd), .ref n, .ref r, .ref d, .int (iI cn), .int (iI fc), .ref ya, .ref yb, .ref yc, .ref yo, .long (lI (X 0)), .long (lI (X 1)), .long (lI (X 2)), .long (lI (X 3)), .long (lI (X 4)), .long (lI (-(Int.tdiv a (f_gcd a b)))), .long (lI (Int.tdiv b (f_gcd a b)))] : List Value) = [.int (iI cd), .ref n, .ref r, .ref d, .int (iI cn), .int (iI fc), .ref ya, .ref yb, .ref yc, .ref yo, .long (lI ((g_low a b X) 0)), .long (lI ((g_low a b X) 1)), .long (lI ((g_low a b X) 2)), .long (lI ((g_low a b X) 3)), .long (lI ((g_low a b X) 4)), .long (lI ((g_low a b X) 5)), .long (lI ((g_low a b X) 6))] := by rw [← e5, ← e6]; rfl
      rw [eW] at hP hD
      have hP9 := hP.sub (ws' := [(x, .inr (2, [.int (iI cd), .ref n, .ref r, .ref d, .int (iI cn), .int (iI fc), .ref ya, .ref yb, .ref yc, .ref yo, .long (lI ((g_low a b X) 0)), .long (lI ((g_low a b X) 1)), .long (lI ((g_low a b X) 2)), .long (lI ((g_low a b X) 3)), .long (lI ((g_low a b X) 4)), .long (lI ((g_low a b X) 5)), .long (lI ((g_low a b X) 6))]))]) [0] rfl
      have hD9 := hD.sub (ws' := [(x, .inr (2, [.int (iI cd), .ref n, .ref r, .ref d, .int (iI cn), .int (iI fc), .ref ya, .ref yb, .ref yc, .ref yo, .long (lI ((g_low a b X) 0)), .long (lI ((g_low a b X) 1)), .long (lI ((g_low a b X) 2)), .long (lI ((g_low a b X) 3)), .long (lI ((g_low a b X) 4)), .long (lI ((g_low a b X) 5)), .long (lI ((g_low a b X) 6))]))]) [0] (by decide) rfl
      have hK9 := hK.sub (tys' := []) [] rfl
      exact W.vret hx hb hr (fun t ht hW => ⟨⟨(), rfl, trivial, by rw [ht]; exact hP9, va_K.moved hW.alike hK9, hD9⟩, hS.F ht⟩) hS.2.2 dX2_lowest_51
    · refine lv_lload_n hx hb dX2_lowest_36 rfl (lv_at hl 3 rfl) ?_
      refine lv_lload hx hb dX2_lowest_37 (lv_at hl 0 rfl) ?_
      refine ix_ldiv hx hb dX2_lowest_39 ⟨by omega, by omega⟩ ⟨by omega, by omega⟩ (by omega) (by omega) ?_
      refine ix_lneg hx hb dX2_lowest_40 ?_
      refine lv_goto (tgt := 48) hx hb dX2_lowest_41 (by decide) ?_
      refine va_put (D := (dC, dI)) (ci := 2) (v := .long (lI (-(Int.tdiv b (f_gcd a b))))) (ty := .long) (C := RX2) (T := TX2) (N := 17) hx hb hw inX2 tyX2 tyX2_ok nmX2 hown hK hP hD hS 0 rfl rfl 16 (by decide) (hw _ mA_397) (fun _ h9 => h9) rfl (by decide +kernel) rfl rfl (Nat.le_of_ble_eq_true rfl) dX2_lowest_48 (fun H locs hP hD hS => ?_)
      have hP : va_P (dC, dI) vwCl [(x, .inr (2, [.int (iI cd), .ref n, .ref r, .ref d, .int (iI cn), .int (iI fc), .ref ya, .ref yb, .ref yc, .ref yo, .long (lI (X 0)), .long (lI (X 1)), .long (lI (X 2)), .long (lI (X 3)), .long (lI (X 4)), .long (lI (-(Int.tdiv a (f_gcd a b)))), .long (lI (-(Int.tdiv b (f_gcd a b))))]))] H := hP
      have hD : va_D A [(x, .inr (2, [.int (iI cd), .ref n, .ref r, .ref d, .int (iI cn), .int (iI fc), .ref ya, .ref yb, .ref yc, .ref yo, .long (lI (X 0)), .long (lI (X 1)), .long (lI (X 2)), .long (lI (X 3)), .long (lI (X 4)), .long (lI (-(Int.tdiv a (f_gcd a b)))), .long (lI (-(Int.tdiv b (f_gcd a b))))]))] := hD
      have e5 : -(Int.tdiv a (f_gcd a b)) = (g_low a b X) 5 := by unfold g_low iu; grind
      have e6 : -(Int.tdiv b (f_gcd a b)) = (g_low a b X) 6 := by unfold g_low iu; grind
      have eW : ([.int (iI cd), .ref n, .ref r, .ref d, .int (iI cn), .int (iI fc), .ref ya, .ref yb, .ref yc, .ref yo, .long (lI (X 0)), .long (lI (X 1)), .long (lI (X 2)), .long (lI (X 3)), .long (lI (X 4)), .long (lI (-(Int.tdiv a (f_gcd a b)))), .long (lI (-(Int.tdiv b (f_gcd a b))))] : List Value) = [.int (iI cd), .ref n, .ref r, .ref d, .int (iI cn), .int (iI fc), .ref ya, .ref yb, .ref yc, .ref yo, .long (lI ((g_low a b X) 0)), .long (lI ((g_low a b X) 1)), .long (lI ((g_low a b X) 2)), .long (lI ((g_low a b X) 3)), .long (lI ((g_low a b X) 4)), .long (lI ((g_low a b X) 5)), .long (lI ((g_low a b X) 6))] := by rw [← e5, ← e6]; rfl
      rw [eW] at hP hD
      have hP9 := hP.sub (ws' := [(x, .inr (2, [.int (iI cd), .ref n, .ref r, .ref d, .int (iI cn), .int (iI fc), .ref ya, .ref yb, .ref yc, .ref yo, .long (lI ((g_low a b X) 0)), .long (lI ((g_low a b X) 1)), .long (lI ((g_low a b X) 2)), .long (lI ((g_low a b X) 3)), .long (lI ((g_low a b X) 4)), .long (lI ((g_low a b X) 5)), .long (lI ((g_low a b X) 6))]))]) [0] rfl
      have hD9 := hD.sub (ws' := [(x, .inr (2, [.int (iI cd), .ref n, .ref r, .ref d, .int (iI cn), .int (iI fc), .ref ya, .ref yb, .ref yc, .ref yo, .long (lI ((g_low a b X) 0)), .long (lI ((g_low a b X) 1)), .long (lI ((g_low a b X) 2)), .long (lI ((g_low a b X) 3)), .long (lI ((g_low a b X) 4)), .long (lI ((g_low a b X) 5)), .long (lI ((g_low a b X) 6))]))]) [0] (by decide) rfl
      have hK9 := hK.sub (tys' := []) [] rfl
      exact W.vret hx hb hr (fun t ht hW => ⟨⟨(), rfl, trivial, by rw [ht]; exact hP9, va_K.moved hW.alike hK9, hD9⟩, hS.F ht⟩) hS.2.2 dX2_lowest_51
/-- the cells of an object of the reference -/
abbrev mw (x n r d ya yb yc yo : Nat) (cI cJ : ClassId) (cd : Int) (N R D : Int → Int) (cn fc : Int) (As Bs Cs Os X : Int → Int) : va_W := [(x, .inr (2, [.int (iI cd), .ref n, .ref r, .ref d, .int (iI cn), .int (iI fc), .ref ya, .ref yb, .ref yc, .ref yo, .long (lI (X 0)), .long (lI (X 1)), .long (lI (X 2)), .long (lI (X 3)), .long (lI (X 4)), .long (lI (X 5)), .long (lI (X 6))])), (n, .inl (cI, 5, .inl (aI N))), (r, .inl (cJ, 5, .inr (.inl (aL R)))), (d, .inl (cJ, 5, .inr (.inl (aL D)))), (ya, .inl (cI, 5, .inl (aI As))), (yb, .inl (cI, 5, .inl (aI Bs))), (yc, .inl (cI, 5, .inl (aI Cs))), (yo, .inl (cI, 5, .inl (aI Os)))]
set_option maxHeartbeats 4000000 in
set_option maxRecDepth 100000 in
/-- a new reference -/
theorem kX2_init (l : Launch) (dC : Nat → ClassId) (dI : Nat → Nat → Nat) (sz : Nat) (x : Nat) : Met l yX2_init (.code yX2_init cX2_init 1 none :: wsA) ({ frames := 1, cells := 7, slots := 35, locals := 40 }) (va_Pc [.ref x] (fun U => U.heap.size = sz ∧ va_P (dC, dI) vwCl [(x, .inr (2, [.int (iI 0), .null, .null, .null, .int (iI 0), .int (iI 0), .null, .null, .null, .null, .long (lI 0), .long (lI 0), .long (lI 0), .long (lI 0), .long (lI 0), .long (lI 0), .long (lI 0)]))] U.heap ∧ va_K (dC, dI) vwCl [] U ∧ va_D (fun _ => True) [(x, .inr (2, [.int (iI 0), .null, .null, .null, .int (iI 0), .int (iI 0), .null, .null, .null, .null, .long (lI 0), .long (lI 0), .long (lI 0), .long (lI 0), .long (lI 0), .long (lI 0), .long (lI 0)]))] ∧ nb U)) (va_Qv (fun _ => True) (fun (u : Nat × Nat × Nat × Nat × Nat × Nat × Nat × ClassId × ClassId) t9 => va_P (dC, dI) vwCl (mw x u.1 u.2.1 u.2.2.1 u.2.2.2.1 u.2.2.2.2.1 u.2.2.2.2.2.1 u.2.2.2.2.2.2.1 u.2.2.2.2.2.2.2.1 u.2.2.2.2.2.2.2.2 0 (fun _ => 0) (fun _ => 0) (fun _ => 0) 0 0 (fun _ => 0) (fun _ => 0) (fun _ => 0) (fun _ => 0) (fun _ => 0)) t9.heap ∧ va_K (dC, dI) vwCl [(u.2.2.2.2.2.2.2.1, .int), (u.2.2.2.2.2.2.2.2, .long)] t9 ∧ va_D (va_A [(x, .inr (2, [.int (iI 0), .null, .null, .null, .int (iI 0), .int (iI 0), .null, .null, .null, .null, .long (lI 0), .long (lI 0), .long (lI 0), .long (lI 0), .long (lI 0), .long (lI 0), .long (lI 0)]))] sz) (mw x u.1 u.2.1 u.2.2.1 u.2.2.2.1 u.2.2.2.2.1 u.2.2.2.2.2.1 u.2.2.2.2.2.2.1 u.2.2.2.2.2.2.2.1 u.2.2.2.2.2.2.2.2 0 (fun _ => 0) (fun _ => 0) (fun _ => 0) 0 0 (fun _ => 0) (fun _ => 0) (fun _ => 0) (fun _ => 0) (fun _ => 0))) (va_A [(x, .inr (2, [.int (iI 0), .null, .null, .null, .int (iI 0), .int (iI 0), .null, .null, .null, .null, .long (lI 0), .long (lI 0), .long (lI 0), .long (lI 0), .long (lI 0), .long (lI 0), .long (lI 0)]))] sz)) 7 35 (va_A [(x, .inr (2, [.int (iI 0), .null, .null, .null, .int (iI 0), .int (iI 0), .null, .null, .null, .null, .long (lI 0), .long (lI 0), .long (lI 0), .long (lI 0), .long (lI 0), .long (lI 0), .long (lI 0)]))] sz) := by
  refine Met.ofW (cc := cX2_init) (maxL := 1) (ret := none) (by decide) rfl ?_
  intro p e s m args below meth c s₁ B hml hv
  obtain ⟨rfl, hsz, hP, hK, hD0, hnb⟩ := hv
  have hx := B.exec
  have hb := B.bytes
  have hr := B.returns
  have hts := atoms_spec (ws := .code yX2_init cX2_init 1 none :: wsA) B.pre
  have hw : ∀ w ∈ wsA, w.before _ s = true := fun w h => hts w (List.mem_cons_of_mem _ h)
  have hown : s.vm.findClass RX2 = some m.cls := findClass_of_methodNamed B.named
  have hlocks := B.notSynchronized
  have hin : meth.name = "<init>" := (name_of_methodNamed B.named B.method).1
  subst hsz
  have hD := hD0.self (sz := s.heap.size)
  generalize hAe : va_A [(x, .inr (2, [.int (iI 0), .null, .null, .null, .int (iI 0), .int (iI 0), .null, .null, .null, .null, .long (lI 0), .long (lI 0), .long (lI 0), .long (lI 0), .long (lI 0), .long (lI 0), .long (lI 0)]))] s.heap.size = A at hD ⊢
  have hA : ∀ q : Nat, s.heap.size ≤ q → A q := fun q h => by rw [← hAe]; exact Or.inr h
  have hS : va_S A s.heap s.heap [] := va_S.rf
  have hP : va_P (dC, dI) vwCl [(x, .inr (2, [.int (iI 0), .null, .null, .null, .int (iI 0), .int (iI 0), .null, .null, .null, .null, .long (lI 0), .long (lI 0), .long (lI 0), .long (lI 0), .long (lI 0), .long (lI 0), .long (lI 0)]))] s.heap := hP
  have hl := lv_entry ([.ref x]) (n := 1) (Nat.le_of_ble_eq_true rfl)
  rw [lg_entry_eq]
  generalize (lg_sl ([.ref x]) ++ List.replicate (1 - (lg_sl ([.ref x])).length) Slot.unset).toArray = ls at hl ⊢
  have hl : lv_has ls 1 [(0, .ref x)] := hl
  refine lv_aload_n hx hb dX2_init_0 rfl (lv_at hl 0 rfl) ?_
  refine W.objInit hx hb hown (hw _ mA_380) (hw _ mA_18) (hw _ mA_19) rfl (by rw [hml]; exact hl.1) rfl dX2_init_1 (Nat.le_of_ble_eq_true rfl) (Nat.le_of_ble_eq_true rfl) ?_
  refine W.eq (g2 := F0 m 4 ls []) rfl ?_
  refine lv_aload_n hx hb dX2_init_4 rfl (lv_at hl 0 rfl) ?_
  refine ix_iconst (n := 5) hx hb dX2_init_5 ?_
  refine va_newa (atype := .int) (N' := 5) (ty := .int) (a0 := (5, .inl (aI (fun _ => 0)))) hx hb (hw _ mA_52) rfl hK hP hD hS hA (fun _ => rfl) (by decide) (by decide) (by decide) (Nat.le_of_ble_eq_true rfl) (Nat.le_of_ble_eq_true rfl) dX2_init_6 (fun n cI H hK hP hD hS => ?_)
  have hK := hK.sub (tys' := [(cI, .int)]) [0] rfl
  have hP : va_P (dC, dI) vwCl [(x, .inr (2, [.int (iI 0), .null, .null, .null, .int (iI 0), .int (iI 0), .null, .null, .null, .null, .long (lI 0), .long (lI 0), .long (lI 0), .long (lI 0), .long (lI 0), .long (lI 0), .long (lI 0)])), (n, .inl (cI, 5, .inl (aI (fun _ => 0))))] H := hP
  have hD : va_D A [(x, .inr (2, [.int (iI 0), .null, .null, .null, .int (iI 0), .int (iI 0), .null, .null, .null, .null, .long (lI 0), .long (lI 0), .long (lI 0), .long (lI 0), .long (lI 0), .long (lI 0), .long (lI 0)])), (n, .inl (cI, 5, .inl (aI (fun _ => 0))))] := hD
  refine va_putF (D := (dC, dI)) (ci := 2) (v := .ref n) (ty := .array .int) (C := RX2) (T := TX2) (N := 17) hx hb hw inX2 tyX2 tyX2_ok nmX2 hown hK hP hD hS 0 rfl rfl 1 (by decide) (hw _ mA_382) (fun _ h9 => h9) rfl hin rfl (by decide +kernel) rfl rfl (Nat.le_of_ble_eq_true rfl) dX2_init_8 (fun H locs hP hD hS => ?_)
  have hP : va_P (dC, dI) vwCl [(x, .inr (2, [.int (iI 0), .ref n, .null, .null, .int (iI 0), .int (iI 0), .null, .null, .null, .null, .long (lI 0), .long (lI 0), .long (lI 0), .long (lI 0), .long (lI 0), .long (lI 0), .long (lI 0)])), (n, .inl (cI, 5, .inl (aI (fun _ => 0))))] H := hP
  have hD : va_D A [(x, .inr (2, [.int (iI 0), .ref n, .null, .null, .int (iI 0), .int (iI 0), .null, .null, .null, .null, .long (lI 0), .long (lI 0), .long (lI 0), .long (lI 0), .long (lI 0), .long (lI 0), .long (lI 0)])), (n, .inl (cI, 5, .inl (aI (fun _ => 0))))] := hD
  refine lv_aload_n hx hb dX2_init_11 rfl (lv_at hl 0 rfl) ?_
  refine ix_iconst (n := 5) hx hb dX2_init_12 ?_
  refine va_newa (atype := .long) (N' := 5) (ty := .long) (a0 := (5, .inr (.inl (aL (fun _ => 0))))) hx hb (hw _ mA_433) rfl hK hP hD hS hA (fun _ => rfl) (by decide) (by decide) (by decide) (Nat.le_of_ble_eq_true rfl) (Nat.le_of_ble_eq_true rfl) dX2_init_13 (fun r cJ H hK hP hD hS => ?_)
  have hK := hK.sub (tys' := [(cI, .int), (cJ, .long)]) [0, 1] rfl
  have hP : va_P (dC, dI) vwCl [(x, .inr (2, [.int (iI 0), .ref n, .null, .null, .int (iI 0), .int (iI 0), .null, .null, .null, .null, .long (lI 0), .long (lI 0), .long (lI 0), .long (lI 0), .long (lI 0), .long (lI 0), .long (lI 0)])), (n, .inl (cI, 5, .inl (aI (fun _ => 0)))), (r, .inl (cJ, 5, .inr (.inl (aL (fun _ => 0)))))] H := hP
  have hD : va_D A [(x, .inr (2, [.int (iI 0), .ref n, .null, .null, .int (iI 0), .int (iI 0), .null, .null, .null, .null, .long (lI 0), .long (lI 0), .long (lI 0), .long (lI 0), .long (lI 0), .long (lI 0), .long (lI 0)])), (n, .inl (cI, 5, .inl (aI (fun _ => 0)))), (r, .inl (cJ, 5, .inr (.inl (aL (fun _ => 0)))))] := hD
  refine va_putF (D := (dC, dI)) (ci := 2) (v := .ref r) (ty := .array .long) (C := RX2) (T := TX2) (N := 17) hx hb hw inX2 tyX2 tyX2_ok nmX2 hown hK hP hD hS 0 rfl rfl 2 (by decide) (hw _ mA_383) (fun _ h9 => h9) rfl hin rfl (by decide +kernel) rfl rfl (Nat.le_of_ble_eq_true rfl) dX2_init_15 (fun H locs hP hD hS => ?_)
  have hP : va_P (dC, dI) vwCl [(x, .inr (2, [.int (iI 0), .ref n, .ref r, .null, .int (iI 0), .int (iI 0), .null, .null, .null, .null, .long (lI 0), .long (lI 0), .long (lI 0), .long (lI 0), .long (lI 0), .long (lI 0), .long (lI 0)])), (n, .inl (cI, 5, .inl (aI (fun _ => 0)))), (r, .inl (cJ, 5, .inr (.inl (aL (fun _ => 0)))))] H := hP
  have hD : va_D A [(x, .inr (2, [.int (iI 0), .ref n, .ref r, .null, .int (iI 0), .int (iI 0), .null, .null, .null, .null, .long (lI 0), .long (lI 0), .long (lI 0), .long (lI 0), .long (lI 0), .long (lI 0), .long (lI 0)])), (n, .inl (cI, 5, .inl (aI (fun _ => 0)))), (r, .inl (cJ, 5, .inr (.inl (aL (fun _ => 0)))))] := hD
  refine lv_aload_n hx hb dX2_init_18 rfl (lv_at hl 0 rfl) ?_
  refine ix_iconst (n := 5) hx hb dX2_init_19 ?_
  refine va_newa (atype := .long) (N' := 5) (ty := .long) (a0 := (5, .inr (.inl (aL (fun _ => 0))))) hx hb (hw _ mA_433) rfl hK hP hD hS hA (fun _ => rfl) (by decide) (by decide) (by decide) (Nat.le_of_ble_eq_true rfl) (Nat.le_of_ble_eq_true rfl) dX2_init_20 (fun d cc1 H hK hP hD hS => ?_)
  have ec : cJ = cc1 := Option.some.inj ((hK.2 1 _ rfl).2.symm.trans (hK.2 2 _ rfl).2)
  subst ec
  have hK := hK.sub (tys' := [(cI, .int), (cJ, .long)]) [0, 1] rfl
  have hP : va_P (dC, dI) vwCl [(x, .inr (2, [.int (iI 0), .ref n, .ref r, .null, .int (iI 0), .int (iI 0), .null, .null, .null, .null, .long (lI 0), .long (lI 0), .long (lI 0), .long (lI 0), .long (lI 0), .long (lI 0), .long (lI 0)])), (n, .inl (cI, 5, .inl (aI (fun _ => 0)))), (r, .inl (cJ, 5, .inr (.inl (aL (fun _ => 0))))), (d, .inl (cJ, 5, .inr (.inl (aL (fun _ => 0)))))] H := hP
  have hD : va_D A [(x, .inr (2, [.int (iI 0), .ref n, .ref r, .null, .int (iI 0), .int (iI 0), .null, .null, .null, .null, .long (lI 0), .long (lI 0), .long (lI 0), .long (lI 0), .long (lI 0), .long (lI 0), .long (lI 0)])), (n, .inl (cI, 5, .inl (aI (fun _ => 0)))), (r, .inl (cJ, 5, .inr (.inl (aL (fun _ => 0))))), (d, .inl (cJ, 5, .inr (.inl (aL (fun _ => 0)))))] := hD
  refine va_putF (D := (dC, dI)) (ci := 2) (v := .ref d) (ty := .array .long) (C := RX2) (T := TX2) (N := 17) hx hb hw inX2 tyX2 tyX2_ok nmX2 hown hK hP hD hS 0 rfl rfl 3 (by decide) (hw _ mA_384) (fun _ h9 => h9) rfl hin rfl (by decide +kernel) rfl rfl (Nat.le_of_ble_eq_true rfl) dX2_init_22 (fun H locs hP hD hS => ?_)
  have hP : va_P (dC, dI) vwCl [(x, .inr (2, [.int (iI 0), .ref n, .ref r, .ref d, .int (iI 0), .int (iI 0), .null, .null, .null, .null, .long (lI 0), .long (lI 0), .long (lI 0), .long (lI 0), .long (lI 0), .long (lI 0), .long (lI 0)])), (n, .inl (cI, 5, .inl (aI (fun _ => 0)))), (r, .inl (cJ, 5, .inr (.inl (aL (fun _ => 0))))), (d, .inl (cJ, 5, .inr (.inl (aL (fun _ => 0)))))] H := hP
  have hD : va_D A [(x, .inr (2, [.int (iI 0), .ref n, .ref r, .ref d, .int (iI 0), .int (iI 0), .null, .null, .null, .null, .long (lI 0), .long (lI 0), .long (lI 0), .long (lI 0), .long (lI 0), .long (lI 0), .long (lI 0)])), (n, .inl (cI, 5, .inl (aI (fun _ => 0)))), (r, .inl (cJ, 5, .inr (.inl (aL (fun _ => 0))))), (d, .inl (cJ, 5, .inr (.inl (aL (fun _ => 0)))))] := hD
  refine lv_aload_n hx hb dX2_init_25 rfl (lv_at hl 0 rfl) ?_
  refine ix_iconst (n := 5) hx hb dX2_init_26 ?_
  refine va_newa (atype := .int) (N' := 5) (ty := .int) (a0 := (5, .inl (aI (fun _ => 0)))) hx hb (hw _ mA_52) rfl hK hP hD hS hA (fun _ => rfl) (by decide) (by decide) (by decide) (Nat.le_of_ble_eq_true rfl) (Nat.le_of_ble_eq_true rfl) dX2_init_27 (fun ya cc2 H hK hP hD hS => ?_)
  have ec : cI = cc2 := Option.some.inj ((hK.2 0 _ rfl).2.symm.trans (hK.2 2 _ rfl).2)
  subst ec
  have hK := hK.sub (tys' := [(cI, .int), (cJ, .long)]) [0, 1] rfl
  have hP : va_P (dC, dI) vwCl [(x, .inr (2, [.int (iI 0), .ref n, .ref r, .ref d, .int (iI 0), .int (iI 0), .null, .null, .null, .null, .long (lI 0), .long (lI 0), .long (lI 0), .long (lI 0), .long (lI 0), .long (lI 0), .long (lI 0)])), (n, .inl (cI, 5, .inl (aI (fun _ => 0)))), (r, .inl (cJ, 5, .inr (.inl (aL (fun _ => 0))))), (d, .inl (cJ, 5, .inr (.inl (aL (fun _ => 0))))), (ya, .inl (cI, 5, .inl (aI (fun _ => 0))))] H := hP
  have hD : va_D A [(x, .inr (2, [.int (iI 0), .ref n, .ref r, .ref d, .int (iI 0), .int (iI 0), .null, .null, .null, .null, .long (lI 0), .long (lI 0), .long (lI 0), .long (lI 0), .long (lI 0), .long (lI 0), .long (lI 0)])), (n, .inl (cI, 5, .inl (aI (fun _ => 0)))), (r, .inl (cJ, 5, .inr (.inl (aL (fun _ => 0))))), (d, .inl (cJ, 5, .inr (.inl (aL (fun _ => 0))))), (ya, .inl (cI, 5, .inl (aI (fun _ => 0))))] := hD
  refine va_putF (D := (dC, dI)) (ci := 2) (v := .ref ya) (ty := .array .int) (C := RX2) (T := TX2) (N := 17) hx hb hw inX2 tyX2 tyX2_ok nmX2 hown hK hP hD hS 0 rfl rfl 6 (by decide) (hw _ mA_387) (fun _ h9 => h9) rfl hin rfl (by decide +kernel) rfl rfl (Nat.le_of_ble_eq_true rfl) dX2_init_29 (fun H locs hP hD hS => ?_)
  have hP : va_P (dC, dI) vwCl [(x, .inr (2, [.int (iI 0), .ref n, .ref r, .ref d, .int (iI 0), .int (iI 0), .ref ya, .null, .null, .null, .long (lI 0), .long (lI 0), .long (lI 0), .long (lI 0), .long (lI 0), .long (lI 0), .long (lI 0)])), (n, .inl (cI, 5, .inl (aI (fun _ => 0)))), (r, .inl (cJ, 5, .inr (.inl (aL (fun _ => 0))))), (d, .inl (cJ, 5, .inr (.inl (aL (fun _ => 0))))), (ya, .inl (cI, 5, .inl (aI (fun _ => 0))))] H := hP
  have hD : va_D A [(x, .inr (2, [.int (iI 0), .ref n, .ref r, .ref d, .int (iI 0), .int (iI 0), .ref ya, .null, .null, .null, .long (lI 0), .long (lI 0), .long (lI 0), .long (lI 0), .long (lI 0), .long (lI 0), .long (lI 0)])), (n, .inl (cI, 5, .inl (aI (fun _ => 0)))), (r, .inl (cJ, 5, .inr (.inl (aL (fun _ => 0))))), (d, .inl (cJ, 5, .inr (.inl (aL (fun _ => 0))))), (ya, .inl (cI, 5, .inl (aI (fun _ => 0))))] := hD
  refine lv_aload_n hx hb dX2_init_32 rfl (lv_at hl 0 rfl) ?_
  refine ix_iconst (n := 5) hx hb dX2_init_33 ?_
  refine va_newa (atype := .int) (N' := 5) (ty := .int) (a0 := (5, .inl (aI (fun _ => 0)))) hx hb (hw _ mA_52) rfl hK hP hD hS hA (fun _ => rfl) (by decide) (by decide) (by decide) (Nat.le_of_ble_eq_true rfl) (Nat.le_of_ble_eq_true rfl) dX2_init_34 (fun yb cc3 H hK hP hD hS => ?_)
  have ec : cI = cc3 := Option.some.inj ((hK.2 0 _ rfl).2.symm.trans (hK.2 2 _ rfl).2)
  subst ec
  have hK := hK.sub (tys' := [(cI, .int), (cJ, .long)]) [0, 1] rfl
  have hP : va_P (dC, dI) vwCl [(x, .inr (2, [.int (iI 0), .ref n, .ref r, .ref d, .int (iI 0), .int (iI 0), .ref ya, .null, .null, .null, .long (lI 0), .long (lI 0), .long (lI 0), .long (lI 0), .long (lI 0), .long (lI 0), .long (lI 0)])), (n, .inl (cI, 5, .inl (aI (fun _ => 0)))), (r, .inl (cJ, 5, .inr (.inl (aL (fun _ => 0))))), (d, .inl (cJ, 5, .inr (.inl (aL (fun _ => 0))))), (ya, .inl (cI, 5, .inl (aI (fun _ => 0)))), (yb, .inl (cI, 5, .inl (aI (fun _ => 0))))] H := hP
  have hD : va_D A [(x, .inr (2, [.int (iI 0), .ref n, .ref r, .ref d, .int (iI 0), .int (iI 0), .ref ya, .null, .null, .null, .long (lI 0), .long (lI 0), .long (lI 0), .long (lI 0), .long (lI 0), .long (lI 0), .long (lI 0)])), (n, .inl (cI, 5, .inl (aI (fun _ => 0)))), (r, .inl (cJ, 5, .inr (.inl (aL (fun _ => 0))))), (d, .inl (cJ, 5, .inr (.inl (aL (fun _ => 0))))), (ya, .inl (cI, 5, .inl (aI (fun _ => 0)))), (yb, .inl (cI, 5, .inl (aI (fun _ => 0))))] := hD
  refine va_putF (D := (dC, dI)) (ci := 2) (v := .ref yb) (ty := .array .int) (C := RX2) (T := TX2) (N := 17) hx hb hw inX2 tyX2 tyX2_ok nmX2 hown hK hP hD hS 0 rfl rfl 7 (by decide) (hw _ mA_388) (fun _ h9 => h9) rfl hin rfl (by decide +kernel) rfl rfl (Nat.le_of_ble_eq_true rfl) dX2_init_36 (fun H locs hP hD hS => ?_)
  have hP : va_P (dC, dI) vwCl [(x, .inr (2, [.int (iI 0), .ref n, .ref r, .ref d, .int (iI 0), .int (iI 0), .ref ya, .ref yb, .null, .null, .long (lI 0), .long (lI 0), .long (lI 0), .long (lI 0), .long (lI 0), .long (lI 0), .long (lI 0)])), (n, .inl (cI, 5, .inl (aI (fun _ => 0)))), (r, .inl (cJ, 5, .inr (.inl (aL (fun _ => 0))))), (d, .inl (cJ, 5, .inr (.inl (aL (fun _ => 0))))), (ya, .inl (cI, 5, .inl (aI (fun _ => 0)))), (yb, .inl (cI, 5, .inl (aI (fun _ => 0))))] H := hP
  have hD : va_D A [(x, .inr (2, [.int (iI 0), .ref n, .ref r, .ref d, .int (iI 0), .int (iI 0), .ref ya, .ref yb, .null, .null, .long (lI 0), .long (lI 0), .long (lI 0), .long (lI 0), .long (lI 0), .long (lI 0), .long (lI 0)])), (n, .inl (cI, 5, .inl (aI (fun _ => 0)))), (r, .inl (cJ, 5, .inr (.inl (aL (fun _ => 0))))), (d, .inl (cJ, 5, .inr (.inl (aL (fun _ => 0))))), (ya, .inl (cI, 5, .inl (aI (fun _ => 0)))), (yb, .inl (cI, 5, .inl (aI (fun _ => 0))))] := hD
  refine lv_aload_n hx hb dX2_init_39 rfl (lv_at hl 0 rfl) ?_
  refine ix_iconst (n := 5) hx hb dX2_init_40 ?_
  refine va_newa (atype := .int) (N' := 5) (ty := .int) (a0 := (5, .inl (aI (fun _ => 0)))) hx hb (hw _ mA_52) rfl hK hP hD hS hA (fun _ => rfl) (by decide) (by decide) (by decide) (Nat.le_of_ble_eq_true rfl) (Nat.le_of_ble_eq_true rfl) dX2_init_41 (fun yc cc4 H hK hP hD hS => ?_)
  have ec : cI = cc4 := Option.some.inj ((hK.2 0 _ rfl).2.symm.trans (hK.2 2 _ rfl).2)
  subst ec
  have hK := hK.sub (tys' := [(cI, .int), (cJ, .long)]) [0, 1] rfl
  have hP : va_P (dC, dI) vwCl [(x, .inr (2, [.int (iI 0), .ref n, .ref r, .ref d, .int (iI 0), .int (iI 0), .ref ya, .ref yb, .null, .null, .long (lI 0), .long (lI 0), .long (lI 0), .long (lI 0), .long (lI 0), .long (lI 0), .long (lI 0)])), (n, .inl (cI, 5, .inl (aI (fun _ => 0)))), (r, .inl (cJ, 5, .inr (.inl (aL (fun _ => 0))))), (d, .inl (cJ, 5, .inr (.inl (aL (fun _ => 0))))), (ya, .inl (cI, 5, .inl (aI (fun _ => 0)))), (yb, .inl (cI, 5, .inl (aI (fun _ => 0)))), (yc, .inl (cI, 5, .inl (aI (fun _ => 0))))] H := hP
  have hD : va_D A [(x, .inr (2, [.int (iI 0), .ref n, .ref r, .ref d, .int (iI 0), .int (iI 0), .ref ya, .ref yb, .null, .null, .long (lI 0), .long (lI 0), .long (lI 0), .long (lI 0), .long (lI 0), .long (lI 0), .long (lI 0)])), (n, .inl (cI, 5, .inl (aI (fun _ => 0)))), (r, .inl (cJ, 5, .inr (.inl (aL (fun _ => 0))))), (d, .inl (cJ, 5, .inr (.inl (aL (fun _ => 0))))), (ya, .inl (cI, 5, .inl (aI (fun _ => 0)))), (yb, .inl (cI, 5, .inl (aI (fun _ => 0)))), (yc, .inl (cI, 5, .inl (aI (fun _ => 0))))] := hD
  refine va_putF (D := (dC, dI)) (ci := 2) (v := .ref yc) (ty := .array .int) (C := RX2) (T := TX2) (N := 17) hx hb hw inX2 tyX2 tyX2_ok nmX2 hown hK hP hD hS 0 rfl rfl 8 (by decide) (hw _ mA_389) (fun _ h9 => h9) rfl hin rfl (by decide +kernel) rfl rfl (Nat.le_of_ble_eq_true rfl) dX2_init_43 (fun H locs hP hD hS => ?_)
  have hP : va_P (dC, dI) vwCl [(x, .inr (2, [.int (iI 0), .ref n, .ref r, .ref d, .int (iI 0), .int (iI 0), .ref ya, .ref yb, .ref yc, .null, .long (lI 0), .long (lI 0), .long (lI 0), .long (lI 0), .long (lI 0), .long (lI 0), .long (lI 0)])), (n, .inl (cI, 5, .inl (aI (fun _ => 0)))), (r, .inl (cJ, 5, .inr (.inl (aL (fun _ => 0))))), (d, .inl (cJ, 5, .inr (.inl (aL (fun _ => 0))))), (ya, .inl (cI, 5, .inl (aI (fun _ => 0)))), (yb, .inl (cI, 5, .inl (aI (fun _ => 0)))), (yc, .inl (cI, 5, .inl (aI (fun _ => 0))))] H := hP
  have hD : va_D A [(x, .inr (2, [.int (iI 0), .ref n, .ref r, .ref d, .int (iI 0), .int (iI 0), .ref ya, .ref yb, .ref yc, .null, .long (lI 0), .long (lI 0), .long (lI 0), .long (lI 0), .long (lI 0), .long (lI 0), .long (lI 0)])), (n, .inl (cI, 5, .inl (aI (fun _ => 0)))), (r, .inl (cJ, 5, .inr (.inl (aL (fun _ => 0))))), (d, .inl (cJ, 5, .inr (.inl (aL (fun _ => 0))))), (ya, .inl (cI, 5, .inl (aI (fun _ => 0)))), (yb, .inl (cI, 5, .inl (aI (fun _ => 0)))), (yc, .inl (cI, 5, .inl (aI (fun _ => 0))))] := hD
  refine lv_aload_n hx hb dX2_init_46 rfl (lv_at hl 0 rfl) ?_
  refine ix_iconst (n := 5) hx hb dX2_init_47 ?_
  refine va_newa (atype := .int) (N' := 5) (ty := .int) (a0 := (5, .inl (aI (fun _ => 0)))) hx hb (hw _ mA_52) rfl hK hP hD hS hA (fun _ => rfl) (by decide) (by decide) (by decide) (Nat.le_of_ble_eq_true rfl) (Nat.le_of_ble_eq_true rfl) dX2_init_48 (fun yo cc5 H hK hP hD hS => ?_)
  have ec : cI = cc5 := Option.some.inj ((hK.2 0 _ rfl).2.symm.trans (hK.2 2 _ rfl).2)
  subst ec
  have hK := hK.sub (tys' := [(cI, .int), (cJ, .long)]) [0, 1] rfl
  have hP : va_P (dC, dI) vwCl [(x, .inr (2, [.int (iI 0), .ref n, .ref r, .ref d, .int (iI 0), .int (iI 0), .ref ya, .ref yb, .ref yc, .null, .long (lI 0), .long (lI 0), .long (lI 0), .long (lI 0), .long (lI 0), .long (lI 0), .long (lI 0)])), (n, .inl (cI, 5, .inl (aI (fun _ => 0)))), (r, .inl (cJ, 5, .inr (.inl (aL (fun _ => 0))))), (d, .inl (cJ, 5, .inr (.inl (aL (fun _ => 0))))), (ya, .inl (cI, 5, .inl (aI (fun _ => 0)))), (yb, .inl (cI, 5, .inl (aI (fun _ => 0)))), (yc, .inl (cI, 5, .inl (aI (fun _ => 0)))), (yo, .inl (cI, 5, .inl (aI (fun _ => 0))))] H := hP
  have hD : va_D A [(x, .inr (2, [.int (iI 0), .ref n, .ref r, .ref d, .int (iI 0), .int (iI 0), .ref ya, .ref yb, .ref yc, .null, .long (lI 0), .long (lI 0), .long (lI 0), .long (lI 0), .long (lI 0), .long (lI 0), .long (lI 0)])), (n, .inl (cI, 5, .inl (aI (fun _ => 0)))), (r, .inl (cJ, 5, .inr (.inl (aL (fun _ => 0))))), (d, .inl (cJ, 5, .inr (.inl (aL (fun _ => 0))))), (ya, .inl (cI, 5, .inl (aI (fun _ => 0)))), (yb, .inl (cI, 5, .inl (aI (fun _ => 0)))), (yc, .inl (cI, 5, .inl (aI (fun _ => 0)))), (yo, .inl (cI, 5, .inl (aI (fun _ => 0))))] := hD
  refine va_putF (D := (dC, dI)) (ci := 2) (v := .ref yo) (ty := .array .int) (C := RX2) (T := TX2) (N := 17) hx hb hw inX2 tyX2 tyX2_ok nmX2 hown hK hP hD hS 0 rfl rfl 9 (by decide) (hw _ mA_390) (fun _ h9 => h9) rfl hin rfl (by decide +kernel) rfl rfl (Nat.le_of_ble_eq_true rfl) dX2_init_50 (fun H locs hP hD hS => ?_)
  have hP : va_P (dC, dI) vwCl [(x, .inr (2, [.int (iI 0), .ref n, .ref r, .ref d, .int (iI 0), .int (iI 0), .ref ya, .ref yb, .ref yc, .ref yo, .long (lI 0), .long (lI 0), .long (lI 0), .long (lI 0), .long (lI 0), .long (lI 0), .long (lI 0)])), (n, .inl (cI, 5, .inl (aI (fun _ => 0)))), (r, .inl (cJ, 5, .inr (.inl (aL (fun _ => 0))))), (d, .inl (cJ, 5, .inr (.inl (aL (fun _ => 0))))), (ya, .inl (cI, 5, .inl (aI (fun _ => 0)))), (yb, .inl (cI, 5, .inl (aI (fun _ => 0)))), (yc, .inl (cI, 5, .inl (aI (fun _ => 0)))), (yo, .inl (cI, 5, .inl (aI (fun _ => 0))))] H := hP
  have hD : va_D A [(x, .inr (2, [.int (iI 0), .ref n, .ref r, .ref d, .int (iI 0), .int (iI 0), .ref ya, .ref yb, .ref yc, .ref yo, .long (lI 0), .long (lI 0), .long (lI 0), .long (lI 0), .long (lI 0), .long (lI 0), .long (lI 0)])), (n, .inl (cI, 5, .inl (aI (fun _ => 0)))), (r, .inl (cJ, 5, .inr (.inl (aL (fun _ => 0))))), (d, .inl (cJ, 5, .inr (.inl (aL (fun _ => 0))))), (ya, .inl (cI, 5, .inl (aI (fun _ => 0)))), (yb, .inl (cI, 5, .inl (aI (fun _ => 0)))), (yc, .inl (cI, 5, .inl (aI (fun _ => 0)))), (yo, .inl (cI, 5, .inl (aI (fun _ => 0))))] := hD
  have hP9 := hP.sub (ws' := (mw x n r d ya yb yc yo cI cJ 0 (fun _ => 0) (fun _ => 0) (fun _ => 0) 0 0 (fun _ => 0) (fun _ => 0) (fun _ => 0) (fun _ => 0) (fun _ => 0))) [0, 1, 2, 3, 4, 5, 6, 7] rfl
  have hD9 := hD.sub (ws' := (mw x n r d ya yb yc yo cI cJ 0 (fun _ => 0) (fun _ => 0) (fun _ => 0) 0 0 (fun _ => 0) (fun _ => 0) (fun _ => 0) (fun _ => 0) (fun _ => 0))) [0, 1, 2, 3, 4, 5, 6, 7] (by decide) rfl
  exact W.vret hx hb hr (fun t ht hW => ⟨⟨(n, r, d, ya, yb, yc, yo, cI, cJ), rfl, trivial, by rw [ht]; exact hP9, va_K.moved hW.alike hK, hD9⟩, hS.F ht⟩) hS.2.2 dX2_init_53
