def f_nn (N : Int → Int) : Int := if f_deg N < 0 then 1 else 0
def g_lead (a b : Int) : Int := if a = 0 then b else a
def g_mid (a b c : Int) : Int := if a = 0 then 2 * c else b
def g_und (a b c : Int) : Int := if a = 0 then 0 else b * b - 4 * a * c
def g_real (a b c : Int) : Int := if a = 0 ∨ 4 * a * c < b * b then 1 else 0
/-- the sign of an answer less p -/
def g_sign (a b c up p : Int) : Int := if a = 0 then (if 0 < -c * 1 - p * b then 1 else if -c * 1 - p * b < 0 then -1 else 0) else if a * p * p + b * p * 1 + c * 1 * 1 < 0 then (if up = 0 then -1 else 1) else if 2 * a * p + b * 1 < 0 then 1 else -1
/-- the numbers of factors that are there -/
def okf (fc : Int) (As Bs Cs : Int → Int) : Prop := ∀ i, 0 ≤ i → i < fc → (0 ≤ As i ∧ As i ≤ 20) ∧ (-240 ≤ Bs i ∧ Bs i ≤ 240) ∧ (-20 ≤ Cs i ∧ Cs i ≤ 20) ∧ (As i = 0 → 1 ≤ Bs i ∧ Bs i ≤ 20)
set_option maxHeartbeats 4000000 in
set_option maxRecDepth 100000 in
theorem kX2_degree (l : Launch) (dC : Nat → ClassId) (dI : Nat → Nat → Nat) (x n r d ya yb yc yo : Nat) (cI cJ : ClassId) (cd cn fc : Int) (X : Int → Int) (N : Int → Int) (hN : ∀ j, -20 ≤ N j ∧ N j ≤ 20) : Met l yX2_degree (.code yX2_degree cX2_degree 2 (some .int) :: wsA) ({ frames := 0, cells := 0, slots := 0, locals := 0 }) (va_Pc [.ref x] (fun U => va_P (dC, dI) vwCl [(x, .inr (2, [.int (iI cd), .ref n, .ref r, .ref d, .int (iI cn), .int (iI fc), .ref ya, .ref yb, .ref yc, .ref yo, .long (lI (X 0)), .long (lI (X 1)), .long (lI (X 2)), .long (lI (X 3)), .long (lI (X 4)), .long (lI (X 5)), .long (lI (X 6))])), (n, .inl (cI, 5, .inl (aI N)))] U.heap ∧ va_K (dC, dI) vwCl [(cI, .int)] U)) (vp_Si (fun r => r = iI (f_deg N))) 0 0 (fun _ => False) := by
  refine Met.ofW (cc := cX2_degree) (maxL := 2) (ret := (some .int)) (by decide) rfl ?_
  intro p e s m args below meth c s₁ B hml hv
  obtain ⟨rfl, hP, hK⟩ := hv
  have hx := B.exec
  have hb := B.bytes
  have hr := B.returns
  have hts := atoms_spec (ws := .code yX2_degree cX2_degree 2 (some .int) :: wsA) B.pre
  have hw : ∀ w ∈ wsA, w.before _ s = true := fun w h => hts w (List.mem_cons_of_mem _ h)
  have hown : s.vm.findClass RX2 = some m.cls := findClass_of_methodNamed B.named
  have hlocks := B.notSynchronized
  have hl := lv_entry ([.ref x]) (n := 2) (Nat.le_of_ble_eq_true rfl)
  rw [lg_entry_eq]
  generalize (lg_sl ([.ref x]) ++ List.replicate (2 - (lg_sl ([.ref x])).length) Slot.unset).toArray = ls at hl ⊢
  have hl : lv_has ls 2 [(0, .ref x)] := hl
  refine ix_iconst (n := 4) hx hb dX2_degree_0 ?_
  refine lv_istore_n (lv' := [(1, .int (iI 4)), (0, .ref x)]) hx hb dX2_degree_1 rfl hl (by decide) rfl (fun ls hl => ?_)
  refine lv_iload_n hx hb dX2_degree_2 rfl (lv_at hl 0 rfl) ?_
  refine ix_if_lt (tgt := 21) hx hb dX2_degree_3 (by decide) (by decide) (fun c1 => absurd c1 (by decide)) (fun _ => ?_)
  refine lv_aload_n hx hb dX2_degree_6 rfl (lv_at hl 1 rfl) ?_
  refine va_get (D := (dC, dI)) (ci := 2) (v := .ref n) (C := RX2) (T := TX2) (N := 17) hx hb hw inX2 hown hK hP 0 rfl rfl 1 (by decide) (hw _ mA_382) (fun _ h9 => h9) rfl dX2_degree_7 ?_
  refine lv_iload_n hx hb dX2_degree_10 rfl (lv_at hl 0 rfl) ?_
  refine ix_iald (k := 4) hx hb hK hP 1 0 rfl rfl (by decide) (by decide) (by decide) dX2_degree_11 ?_
  refine ix_if_ne (tgt := 21) hx hb dX2_degree_12 (by decide) (by have := hN 4; omega) (fun c2 => ?_) (fun c2 => ?_)
  · refine lv_iload_n hx hb dX2_degree_21 rfl (lv_at hl 0 rfl) ?_
    exact W.iret (v := iI 4) hx hb hr (fun t ht _ => ⟨_, rfl, congrArg iI (by unfold f_deg; grind), ht⟩) (fun q h => nomatch h) dX2_degree_22
  · refine ix_iinc (k := 0) (lv2 := [(1, .int (iI 3)), (0, .ref x)]) hx hb dX2_degree_15 hl rfl (by decide) rfl (fun ls hl => ?_)
    refine lv_goto (tgt := 2) hx hb dX2_degree_18 (by decide) ?_
    refine lv_iload_n hx hb dX2_degree_2 rfl (lv_at hl 0 rfl) ?_
    refine ix_if_lt (tgt := 21) hx hb dX2_degree_3 (by decide) (by decide) (fun c3 => absurd c3 (by decide)) (fun _ => ?_)
    refine lv_aload_n hx hb dX2_degree_6 rfl (lv_at hl 1 rfl) ?_
    refine va_get (D := (dC, dI)) (ci := 2) (v := .ref n) (C := RX2) (T := TX2) (N := 17) hx hb hw inX2 hown hK hP 0 rfl rfl 1 (by decide) (hw _ mA_382) (fun _ h9 => h9) rfl dX2_degree_7 ?_
    refine lv_iload_n hx hb dX2_degree_10 rfl (lv_at hl 0 rfl) ?_
    refine ix_iald (k := 3) hx hb hK hP 1 0 rfl rfl (by decide) (by decide) (by decide) dX2_degree_11 ?_
    refine ix_if_ne (tgt := 21) hx hb dX2_degree_12 (by decide) (by have := hN 3; omega) (fun c4 => ?_) (fun c4 => ?_)
    · refine lv_iload_n hx hb dX2_degree_21 rfl (lv_at hl 0 rfl) ?_
      exact W.iret (v := iI 3) hx hb hr (fun t ht _ => ⟨_, rfl, congrArg iI (by unfold f_deg; grind), ht⟩) (fun q h => nomatch h) dX2_degree_22
    · refine ix_iinc (k := 0) (lv2 := [(1, .int (iI 2)), (0, .ref x)]) hx hb dX2_degree_15 hl rfl (by decide) rfl (fun ls hl => ?_)
      refine lv_goto (tgt := 2) hx hb dX2_degree_18 (by decide) ?_
      refine lv_iload_n hx hb dX2_degree_2 rfl (lv_at hl 0 rfl) ?_
      refine ix_if_lt (tgt := 21) hx hb dX2_degree_3 (by decide) (by decide) (fun c5 => absurd c5 (by decide)) (fun _ => ?_)
      refine lv_aload_n hx hb dX2_degree_6 rfl (lv_at hl 1 rfl) ?_
      refine va_get (D := (dC, dI)) (ci := 2) (v := .ref n) (C := RX2) (T := TX2) (N := 17) hx hb hw inX2 hown hK hP 0 rfl rfl 1 (by decide) (hw _ mA_382) (fun _ h9 => h9) rfl dX2_degree_7 ?_
      refine lv_iload_n hx hb dX2_degree_10 rfl (lv_at hl 0 rfl) ?_
      refine ix_iald (k := 2) hx hb hK hP 1 0 rfl rfl (by decide) (by decide) (by decide) dX2_degree_11 ?_
      refine ix_if_ne (tgt := 21) hx hb dX2_degree_12 (by decide) (by have := hN 2; omega) (fun c6 => ?_) (fun c6 => ?_)
      · refine lv_iload_n hx hb dX2_degree_21 rfl (lv_at hl 0 rfl) ?_
        exact W.iret (v := iI 2) hx hb hr (fun t ht _ => ⟨_, rfl, congrArg iI (by unfold f_deg; grind), ht⟩) (fun q h => nomatch h) dX2_degree_22
      · refine ix_iinc (k := 0) (lv2 := [(1, .int (iI 1)), (0, .ref x)]) hx hb dX2_degree_15 hl rfl (by decide) rfl (fun ls hl => ?_)
        refine lv_goto (tgt := 2) hx hb dX2_degree_18 (by decide) ?_
        refine lv_iload_n hx hb dX2_degree_2 rfl (lv_at hl 0 rfl) ?_
        refine ix_if_lt (tgt := 21) hx hb dX2_degree_3 (by decide) (by decide) (fun c7 => absurd c7 (by decide)) (fun _ => ?_)
        refine lv_aload_n hx hb dX2_degree_6 rfl (lv_at hl 1 rfl) ?_
        refine va_get (D := (dC, dI)) (ci := 2) (v := .ref n) (C := RX2) (T := TX2) (N := 17) hx hb hw inX2 hown hK hP 0 rfl rfl 1 (by decide) (hw _ mA_382) (fun _ h9 => h9) rfl dX2_degree_7 ?_
        refine lv_iload_n hx hb dX2_degree_10 rfl (lv_at hl 0 rfl) ?_
        refine ix_iald (k := 1) hx hb hK hP 1 0 rfl rfl (by decide) (by decide) (by decide) dX2_degree_11 ?_
        refine ix_if_ne (tgt := 21) hx hb dX2_degree_12 (by decide) (by have := hN 1; omega) (fun c8 => ?_) (fun c8 => ?_)
        · refine lv_iload_n hx hb dX2_degree_21 rfl (lv_at hl 0 rfl) ?_
          exact W.iret (v := iI 1) hx hb hr (fun t ht _ => ⟨_, rfl, congrArg iI (by unfold f_deg; grind), ht⟩) (fun q h => nomatch h) dX2_degree_22
        · refine ix_iinc (k := 0) (lv2 := [(1, .int (iI 0)), (0, .ref x)]) hx hb dX2_degree_15 hl rfl (by decide) rfl (fun ls hl => ?_)
          refine lv_goto (tgt := 2) hx hb dX2_degree_18 (by decide) ?_
          refine lv_iload_n hx hb dX2_degree_2 rfl (lv_at hl 0 rfl) ?_
          refine ix_if_lt (tgt := 21) hx hb dX2_degree_3 (by decide) (by decide) (fun c9 => absurd c9 (by decide)) (fun _ => ?_)
          refine lv_aload_n hx hb dX2_degree_6 rfl (lv_at hl 1 rfl) ?_
          refine va_get (D := (dC, dI)) (ci := 2) (v := .ref n) (C := RX2) (T := TX2) (N := 17) hx hb hw inX2 hown hK hP 0 rfl rfl 1 (by decide) (hw _ mA_382) (fun _ h9 => h9) rfl dX2_degree_7 ?_
          refine lv_iload_n hx hb dX2_degree_10 rfl (lv_at hl 0 rfl) ?_
          refine ix_iald (k := 0) hx hb hK hP 1 0 rfl rfl (by decide) (by decide) (by decide) dX2_degree_11 ?_
          refine ix_if_ne (tgt := 21) hx hb dX2_degree_12 (by decide) (by have := hN 0; omega) (fun c10 => ?_) (fun c10 => ?_)
          · refine lv_iload_n hx hb dX2_degree_21 rfl (lv_at hl 0 rfl) ?_
            exact W.iret (v := iI 0) hx hb hr (fun t ht _ => ⟨_, rfl, congrArg iI (by unfold f_deg; grind), ht⟩) (fun q h => nomatch h) dX2_degree_22
          · refine ix_iinc (k := 0) (lv2 := [(1, .int (iI (-1))), (0, .ref x)]) hx hb dX2_degree_15 hl rfl (by decide) rfl (fun ls hl => ?_)
            refine lv_goto (tgt := 2) hx hb dX2_degree_18 (by decide) ?_
            refine lv_iload_n hx hb dX2_degree_2 rfl (lv_at hl 0 rfl) ?_
            refine ix_if_lt (tgt := 21) hx hb dX2_degree_3 (by decide) (by decide) (fun _ => ?_) (fun c11 => absurd c11 (by decide))
            refine lv_iload_n hx hb dX2_degree_21 rfl (lv_at hl 0 rfl) ?_
            exact W.iret (v := iI (-1)) hx hb hr (fun t ht _ => ⟨_, rfl, congrArg iI (by unfold f_deg; grind), ht⟩) (fun q h => nomatch h) dX2_degree_22
set_option maxHeartbeats 4000000 in
set_option maxRecDepth 100000 in
theorem kX2_restDegree (l : Launch) (dC : Nat → ClassId) (dI : Nat → Nat → Nat) (x n r d ya yb yc yo : Nat) (cI cJ : ClassId) (cd cn fc : Int) (X : Int → Int) (R : Int → Int) (hR : ∀ j, r64 (R j)) (h0 : 0 ≤ f_deg R) : Met l yX2_restDegree (.code yX2_restDegree cX2_restDegree 2 (some .int) :: wsA) ({ frames := 0, cells := 0, slots := 0, locals := 0 }) (va_Pc [.ref x] (fun U => va_P (dC, dI) vwCl [(x, .inr (2, [.int (iI cd), .ref n, .ref r, .ref d, .int (iI cn), .int (iI fc), .ref ya, .ref yb, .ref yc, .ref yo, .long (lI (X 0)), .long (lI (X 1)), .long (lI (X 2)), .long (lI (X 3)), .long (lI (X 4)), .long (lI (X 5)), .long (lI (X 6))])), (r, .inl (cJ, 5, .inr (.inl (aL R))))] U.heap ∧ va_K (dC, dI) vwCl [(cJ, .long)] U)) (vp_Si (fun r => r = iI (f_deg R))) 0 0 (fun _ => False) := by
  refine Met.ofW (cc := cX2_restDegree) (maxL := 2) (ret := (some .int)) (by decide) rfl ?_
  intro p e s m args below meth c s₁ B hml hv
  obtain ⟨rfl, hP, hK⟩ := hv
  have hx := B.exec
  have hb := B.bytes
  have hr := B.returns
  have hts := atoms_spec (ws := .code yX2_restDegree cX2_restDegree 2 (some .int) :: wsA) B.pre
  have hw : ∀ w ∈ wsA, w.before _ s = true := fun w h => hts w (List.mem_cons_of_mem _ h)
  have hown : s.vm.findClass RX2 = some m.cls := findClass_of_methodNamed B.named
  have hlocks := B.notSynchronized
  have hl := lv_entry ([.ref x]) (n := 2) (Nat.le_of_ble_eq_true rfl)
  rw [lg_entry_eq]
  generalize (lg_sl ([.ref x]) ++ List.replicate (2 - (lg_sl ([.ref x])).length) Slot.unset).toArray = ls at hl ⊢
  have hl : lv_has ls 2 [(0, .ref x)] := hl
  refine ix_iconst (n := 4) hx hb dX2_restDegree_0 ?_
  refine lv_istore_n (lv' := [(1, .int (iI 4)), (0, .ref x)]) hx hb dX2_restDegree_1 rfl hl (by decide) rfl (fun ls hl => ?_)
  refine lv_aload_n hx hb dX2_restDegree_2 rfl (lv_at hl 1 rfl) ?_
  refine va_get (D := (dC, dI)) (ci := 2) (v := .ref r) (C := RX2) (T := TX2) (N := 17) hx hb hw inX2 hown hK hP 0 rfl rfl 2 (by decide) (hw _ mA_383) (fun _ h9 => h9) rfl dX2_restDegree_3 ?_
  refine lv_iload_n hx hb dX2_restDegree_6 rfl (lv_at hl 0 rfl) ?_
  refine ix_lald (k := 4) hx hb hK hP 1 0 rfl rfl (by decide) (by decide) (by decide) dX2_restDegree_7 ?_
  refine ix_lconst0 hx hb dX2_restDegree_8 ?_
  refine ix_lc_ne (tgt := 19) hx hb dX2_restDegree_9 dX2_restDegree_10 (by decide) (hR _) (by decide) (fun c1 => ?_) (fun c1 => ?_)
  · refine lv_iload_n hx hb dX2_restDegree_19 rfl (lv_at hl 0 rfl) ?_
    exact W.iret (v := iI 4) hx hb hr (fun t ht _ => ⟨_, rfl, congrArg iI (by unfold f_deg; grind), ht⟩) (fun q h => nomatch h) dX2_restDegree_20
  · refine ix_iinc (k := 0) (lv2 := [(1, .int (iI 3)), (0, .ref x)]) hx hb dX2_restDegree_13 hl rfl (by decide) rfl (fun ls hl => ?_)
    refine lv_goto (tgt := 2) hx hb dX2_restDegree_16 (by decide) ?_
    refine lv_aload_n hx hb dX2_restDegree_2 rfl (lv_at hl 1 rfl) ?_
    refine va_get (D := (dC, dI)) (ci := 2) (v := .ref r) (C := RX2) (T := TX2) (N := 17) hx hb hw inX2 hown hK hP 0 rfl rfl 2 (by decide) (hw _ mA_383) (fun _ h9 => h9) rfl dX2_restDegree_3 ?_
    refine lv_iload_n hx hb dX2_restDegree_6 rfl (lv_at hl 0 rfl) ?_
    refine ix_lald (k := 3) hx hb hK hP 1 0 rfl rfl (by decide) (by decide) (by decide) dX2_restDegree_7 ?_
    refine ix_lconst0 hx hb dX2_restDegree_8 ?_
    refine ix_lc_ne (tgt := 19) hx hb dX2_restDegree_9 dX2_restDegree_10 (by decide) (hR _) (by decide) (fun c2 => ?_) (fun c2 => ?_)
    · refine lv_iload_n hx hb dX2_restDegree_19 rfl (lv_at hl 0 rfl) ?_
      exact W.iret (v := iI 3) hx hb hr (fun t ht _ => ⟨_, rfl, congrArg iI (by unfold f_deg; grind), ht⟩) (fun q h => nomatch h) dX2_restDegree_20
    · refine ix_iinc (k := 0) (lv2 := [(1, .int (iI 2)), (0, .ref x)]) hx hb dX2_restDegree_13 hl rfl (by decide) rfl (fun ls hl => ?_)
      refine lv_goto (tgt := 2) hx hb dX2_restDegree_16 (by decide) ?_
      refine lv_aload_n hx hb dX2_restDegree_2 rfl (lv_at hl 1 rfl) ?_
      refine va_get (D := (dC, dI)) (ci := 2) (v := .ref r) (C := RX2) (T := TX2) (N := 17) hx hb hw inX2 hown hK hP 0 rfl rfl 2 (by decide) (hw _ mA_383) (fun _ h9 => h9) rfl dX2_restDegree_3 ?_
      refine lv_iload_n hx hb dX2_restDegree_6 rfl (lv_at hl 0 rfl) ?_
      refine ix_lald (k := 2) hx hb hK hP 1 0 rfl rfl (by decide) (by decide) (by decide) dX2_restDegree_7 ?_
      refine ix_lconst0 hx hb dX2_restDegree_8 ?_
      refine ix_lc_ne (tgt := 19) hx hb dX2_restDegree_9 dX2_restDegree_10 (by decide) (hR _) (by decide) (fun c3 => ?_) (fun c3 => ?_)
      · refine lv_iload_n hx hb dX2_restDegree_19 rfl (lv_at hl 0 rfl) ?_
        exact W.iret (v := iI 2) hx hb hr (fun t ht _ => ⟨_, rfl, congrArg iI (by unfold f_deg; grind), ht⟩) (fun q h => nomatch h) dX2_restDegree_20
      · refine ix_iinc (k := 0) (lv2 := [(1, .int (iI 1)), (0, .ref x)]) hx hb dX2_restDegree_13 hl rfl (by decide) rfl (fun ls hl => ?_)
        refine lv_goto (tgt := 2) hx hb dX2_restDegree_16 (by decide) ?_
        refine lv_aload_n hx hb dX2_restDegree_2 rfl (lv_at hl 1 rfl) ?_
        refine va_get (D := (dC, dI)) (ci := 2) (v := .ref r) (C := RX2) (T := TX2) (N := 17) hx hb hw inX2 hown hK hP 0 rfl rfl 2 (by decide) (hw _ mA_383) (fun _ h9 => h9) rfl dX2_restDegree_3 ?_
        refine lv_iload_n hx hb dX2_restDegree_6 rfl (lv_at hl 0 rfl) ?_
        refine ix_lald (k := 1) hx hb hK hP 1 0 rfl rfl (by decide) (by decide) (by decide) dX2_restDegree_7 ?_
        refine ix_lconst0 hx hb dX2_restDegree_8 ?_
        refine ix_lc_ne (tgt := 19) hx hb dX2_restDegree_9 dX2_restDegree_10 (by decide) (hR _) (by decide) (fun c4 => ?_) (fun c4 => ?_)
        · refine lv_iload_n hx hb dX2_restDegree_19 rfl (lv_at hl 0 rfl) ?_
          exact W.iret (v := iI 1) hx hb hr (fun t ht _ => ⟨_, rfl, congrArg iI (by unfold f_deg; grind), ht⟩) (fun q h => nomatch h) dX2_restDegree_20
        · refine ix_iinc (k := 0) (lv2 := [(1, .int (iI 0)), (0, .ref x)]) hx hb dX2_restDegree_13 hl rfl (by decide) rfl (fun ls hl => ?_)
          refine lv_goto (tgt := 2) hx hb dX2_restDegree_16 (by decide) ?_
          refine lv_aload_n hx hb dX2_restDegree_2 rfl (lv_at hl 1 rfl) ?_
          refine va_get (D := (dC, dI)) (ci := 2) (v := .ref r) (C := RX2) (T := TX2) (N := 17) hx hb hw inX2 hown hK hP 0 rfl rfl 2 (by decide) (hw _ mA_383) (fun _ h9 => h9) rfl dX2_restDegree_3 ?_
          refine lv_iload_n hx hb dX2_restDegree_6 rfl (lv_at hl 0 rfl) ?_
          refine ix_lald (k := 0) hx hb hK hP 1 0 rfl rfl (by decide) (by decide) (by decide) dX2_restDegree_7 ?_
          refine ix_lconst0 hx hb dX2_restDegree_8 ?_
          refine ix_lc_ne (tgt := 19) hx hb dX2_restDegree_9 dX2_restDegree_10 (by decide) (hR _) (by decide) (fun c5 => ?_) (fun c5 => ?_)
          · refine lv_iload_n hx hb dX2_restDegree_19 rfl (lv_at hl 0 rfl) ?_
            exact W.iret (v := iI 0) hx hb hr (fun t ht _ => ⟨_, rfl, congrArg iI (by unfold f_deg; grind), ht⟩) (fun q h => nomatch h) dX2_restDegree_20
          · refine ix_iinc (k := 0) (lv2 := [(1, .int (iI (-1))), (0, .ref x)]) hx hb dX2_restDegree_13 hl rfl (by decide) rfl (fun ls hl => ?_)
            refine lv_goto (tgt := 2) hx hb dX2_restDegree_16 (by decide) ?_
            exact absurd h0 (by unfold f_deg; grind)
set_option maxHeartbeats 4000000 in
set_option maxRecDepth 100000 in
theorem kX2_isNone (l : Launch) (dC : Nat → ClassId) (dI : Nat → Nat → Nat) (x n r d ya yb yc yo : Nat) (cI cJ : ClassId) (cd cn fc : Int) (X : Int → Int) (N : Int → Int) (hN : ∀ j, -20 ≤ N j ∧ N j ≤ 20) : Met l yX2_isNone (.code yX2_isNone cX2_isNone 1 (some .boolean) :: wsA) ({ frames := 1, cells := 0, slots := 0, locals := 40 }) (va_Pc [.ref x] (fun U => va_P (dC, dI) vwCl [(x, .inr (2, [.int (iI cd), .ref n, .ref r, .ref d, .int (iI cn), .int (iI fc), .ref ya, .ref yb, .ref yc, .ref yo, .long (lI (X 0)), .long (lI (X 1)), .long (lI (X 2)), .long (lI (X 3)), .long (lI (X 4)), .long (lI (X 5)), .long (lI (X 6))])), (n, .inl (cI, 5, .inl (aI N)))] U.heap ∧ va_K (dC, dI) vwCl [(cI, .int)] U)) (vp_Si (fun r => r = iI (f_nn N))) 0 0 (fun _ => False) := by
  refine Met.ofW (cc := cX2_isNone) (maxL := 1) (ret := (some .boolean)) (by decide) rfl ?_
  intro p e s m args below meth c s₁ B hml hv
  obtain ⟨rfl, hP, hK⟩ := hv
  have hx := B.exec
  have hb := B.bytes
  have hr := B.returns
  have hts := atoms_spec (ws := .code yX2_isNone cX2_isNone 1 (some .boolean) :: wsA) B.pre
  have hw : ∀ w ∈ wsA, w.before _ s = true := fun w h => hts w (List.mem_cons_of_mem _ h)
  have hown : s.vm.findClass RX2 = some m.cls := findClass_of_methodNamed B.named
  have hlocks := B.notSynchronized
  have hl := lv_entry ([.ref x]) (n := 1) (Nat.le_of_ble_eq_true rfl)
  rw [lg_entry_eq]
  generalize (lg_sl ([.ref x]) ++ List.replicate (1 - (lg_sl ([.ref x])).length) Slot.unset).toArray = ls at hl ⊢
  have hl : lv_has ls 1 [(0, .ref x)] := hl
  refine lv_aload_n hx hb dX2_isNone_0 rfl (lv_at hl 0 rfl) ?_
  have hPc := hP.sub (ws' := [(x, .inr (2, [.int (iI cd), .ref n, .ref r, .ref d, .int (iI cn), .int (iI fc), .ref ya, .ref yb, .ref yc, .ref yo, .long (lI (X 0)), .long (lI (X 1)), .long (lI (X 2)), .long (lI (X 3)), .long (lI (X 4)), .long (lI (X 5)), .long (lI (X 6))])), (n, .inl (cI, 5, .inl (aI N)))]) [0, 1] rfl
  have hKc := hK.sub (tys' := [(cI, .int)]) [0] rfl
  refine vp_callSi (W.runV (As := []) (rest := []) ⟨hx, hb, hml, hown, hw⟩ (kX2_degree l dC dI x n r d ya yb yc yo cI cJ cd cn fc X N hN) (cwV 0 hw (gV mA_462 mA_464 mP_18 mA_3 mA_465) rfl rfl rfl (by decide +kernel) ⟨Nat.le_of_ble_eq_true rfl, Nat.le_of_ble_eq_true rfl⟩) ⟨fun a U g mk q => by obtain ⟨q0, qP, qK⟩ := q; exact ⟨q0, qP, va_K.moved (u := U) (U := U.calling g mk a) (Vm.Alike.refl U.vm) qK⟩, va_recv hKc hPc (ci := 2) (q0 := 0) rfl rfl, fun U hU hW => ⟨rfl, by rw [hU]; exact hPc, va_K.moved hW.alike hKc⟩⟩ rfl rfl hl.1 rfl (lv_room (Nat.le_of_ble_eq_true rfl)) dX2_isNone_1 ⟨Nat.le_of_ble_eq_true rfl, Nat.le_of_ble_eq_true rfl⟩) (fun r1 h2 => ?_)
  subst h2
  have hdc := deg_c N
  refine ix_if_ge (tgt := 11) hx hb dX2_isNone_4 (by decide) ⟨by omega, by omega⟩ (fun c3 => ?_) (fun c3 => ?_)
  · refine ix_iconst (n := 0) hx hb dX2_isNone_11 ?_
    exact W.zret (v := iI 0) hx hb hr (by decide) (fun t ht _ => ⟨_, rfl, congrArg iI (by unfold f_nn; grind), ht⟩) (fun q h => nomatch h) dX2_isNone_12
  · refine ix_iconst (n := 1) hx hb dX2_isNone_7 ?_
    refine lv_goto (tgt := 12) hx hb dX2_isNone_8 (by decide) ?_
    exact W.zret (v := iI 1) hx hb hr (by decide) (fun t ht _ => ⟨_, rfl, congrArg iI (by unfold f_nn; grind), ht⟩) (fun q h => nomatch h) dX2_isNone_12
set_option maxHeartbeats 4000000 in
set_option maxRecDepth 100000 in
theorem kX2_thrown (l : Launch) (dC : Nat → ClassId) (dI : Nat → Nat → Nat) (x n r d ya yb yc yo : Nat) (cI cJ : ClassId) (cd cn fc : Int) (X : Int → Int) : Met l yX2_thrown (.code yX2_thrown cX2_thrown 1 (some .int) :: wsA) ({ frames := 0, cells := 0, slots := 0, locals := 0 }) (va_Pc [.ref x] (fun U => va_P (dC, dI) vwCl [(x, .inr (2, [.int (iI cd), .ref n, .ref r, .ref d, .int (iI cn), .int (iI fc), .ref ya, .ref yb, .ref yc, .ref yo, .long (lI (X 0)), .long (lI (X 1)), .long (lI (X 2)), .long (lI (X 3)), .long (lI (X 4)), .long (lI (X 5)), .long (lI (X 6))]))] U.heap ∧ va_K (dC, dI) vwCl [] U)) (vp_Si (fun r => r = iI (id cd))) 0 0 (fun _ => False) := by
  refine Met.ofW (cc := cX2_thrown) (maxL := 1) (ret := (some .int)) (by decide) rfl ?_
  intro p e s m args below meth c s₁ B hml hv
  obtain ⟨rfl, hP, hK⟩ := hv
  have hx := B.exec
  have hb := B.bytes
  have hr := B.returns
  have hts := atoms_spec (ws := .code yX2_thrown cX2_thrown 1 (some .int) :: wsA) B.pre
  have hw : ∀ w ∈ wsA, w.before _ s = true := fun w h => hts w (List.mem_cons_of_mem _ h)
  have hown : s.vm.findClass RX2 = some m.cls := findClass_of_methodNamed B.named
  have hlocks := B.notSynchronized
  have hl := lv_entry ([.ref x]) (n := 1) (Nat.le_of_ble_eq_true rfl)
  rw [lg_entry_eq]
  generalize (lg_sl ([.ref x]) ++ List.replicate (1 - (lg_sl ([.ref x])).length) Slot.unset).toArray = ls at hl ⊢
  have hl : lv_has ls 1 [(0, .ref x)] := hl
  refine lv_aload_n hx hb dX2_thrown_0 rfl (lv_at hl 0 rfl) ?_
  refine va_get (D := (dC, dI)) (ci := 2) (v := .int (iI cd)) (C := RX2) (T := TX2) (N := 17) hx hb hw inX2 hown hK hP 0 rfl rfl 0 (by decide) (hw _ mA_381) (fun _ h9 => h9) rfl dX2_thrown_1 ?_
  exact W.iret (v := iI cd) hx hb hr (fun t ht _ => ⟨_, rfl, congrArg iI rfl, ht⟩) (fun q h => nomatch h) dX2_thrown_4
set_option maxHeartbeats 4000000 in
set_option maxRecDepth 100000 in
theorem kX2_leading (l : Launch) (dC : Nat → ClassId) (dI : Nat → Nat → Nat) (x n r d ya yb yc yo : Nat) (cI cJ : ClassId) (cd cn fc : Int) (X : Int → Int) (As Bs Cs : Int → Int) (k : Int) (hk : 0 ≤ k ∧ k ≤ 4) (hf : (0 ≤ As k ∧ As k ≤ 20) ∧ (-240 ≤ Bs k ∧ Bs k ≤ 240) ∧ (-20 ≤ Cs k ∧ Cs k ≤ 20)) : Met l yX2_leading (.code yX2_leading cX2_leading 2 (some .long) :: wsA) ({ frames := 0, cells := 0, slots := 0, locals := 0 }) (va_Pc [.ref x, .int (iI k)] (fun U => va_P (dC, dI) vwCl [(x, .inr (2, [.int (iI cd), .ref n, .ref r, .ref d, .int (iI cn), .int (iI fc), .ref ya, .ref yb, .ref yc, .ref yo, .long (lI (X 0)), .long (lI (X 1)), .long (lI (X 2)), .long (lI (X 3)), .long (lI (X 4)), .long (lI (X 5)), .long (lI (X 6))])), (ya, .inl (cI, 5, .inl (aI As))), (yb, .inl (cI, 5, .inl (aI Bs)))] U.heap ∧ va_K (dC, dI) vwCl [(cI, .int)] U)) (vp_Sl (fun r => r = lI (g_lead (As k) (Bs k)))) 0 0 (fun _ => False) := by
  refine Met.ofW (cc := cX2_leading) (maxL := 2) (ret := (some .long)) (by decide) rfl ?_
  intro p e s m args below meth c s₁ B hml hv
  obtain ⟨rfl, hP, hK⟩ := hv
  have hx := B.exec
  have hb := B.bytes
  have hr := B.returns
  have hts := atoms_spec (ws := .code yX2_leading cX2_leading 2 (some .long) :: wsA) B.pre
  have hw : ∀ w ∈ wsA, w.before _ s = true := fun w h => hts w (List.mem_cons_of_mem _ h)
  have hown : s.vm.findClass RX2 = some m.cls := findClass_of_methodNamed B.named
  have hlocks := B.notSynchronized
  have hl := lv_entry ([.ref x, .int (iI k)]) (n := 2) (Nat.le_of_ble_eq_true rfl)
  rw [lg_entry_eq]
  generalize (lg_sl ([.ref x, .int (iI k)]) ++ List.replicate (2 - (lg_sl ([.ref x, .int (iI k)])).length) Slot.unset).toArray = ls at hl ⊢
  have hl : lv_has ls 2 [(0, .ref x), (1, .int (iI k))] := hl
  refine lv_aload_n hx hb dX2_leading_0 rfl (lv_at hl 0 rfl) ?_
  refine va_get (D := (dC, dI)) (ci := 2) (v := .ref ya) (C := RX2) (T := TX2) (N := 17) hx hb hw inX2 hown hK hP 0 rfl rfl 6 (by decide) (hw _ mA_387) (fun _ h9 => h9) rfl dX2_leading_1 ?_
  refine lv_iload_n hx hb dX2_leading_4 rfl (lv_at hl 1 rfl) ?_
  refine ix_iald (k := k) hx hb hK hP 1 0 rfl rfl (by omega) (by omega) (by decide) dX2_leading_5 ?_
  refine ix_if_ne (tgt := 19) hx hb dX2_leading_6 (by decide) (by omega) (fun c1 => ?_) (fun c1 => ?_)
  · refine lv_aload_n hx hb dX2_leading_19 rfl (lv_at hl 0 rfl) ?_
    refine va_get (D := (dC, dI)) (ci := 2) (v := .ref ya) (C := RX2) (T := TX2) (N := 17) hx hb hw inX2 hown hK hP 0 rfl rfl 6 (by decide) (hw _ mA_387) (fun _ h9 => h9) rfl dX2_leading_20 ?_
    refine lv_iload_n hx hb dX2_leading_23 rfl (lv_at hl 1 rfl) ?_
    refine ix_iald (k := k) hx hb hK hP 1 0 rfl rfl (by omega) (by omega) (by decide) dX2_leading_24 ?_
    refine ix_i2l hx hb dX2_leading_25 (by omega) ?_
    exact W.lret (v := lI (As k)) hx hb hr (fun t ht _ => ⟨_, rfl, congrArg lI (by unfold g_lead; grind), ht⟩) (fun q h => nomatch h) dX2_leading_26
  · refine lv_aload_n hx hb dX2_leading_9 rfl (lv_at hl 0 rfl) ?_
    refine va_get (D := (dC, dI)) (ci := 2) (v := .ref yb) (C := RX2) (T := TX2) (N := 17) hx hb hw inX2 hown hK hP 0 rfl rfl 7 (by decide) (hw _ mA_388) (fun _ h9 => h9) rfl dX2_leading_10 ?_
    refine lv_iload_n hx hb dX2_leading_13 rfl (lv_at hl 1 rfl) ?_
    refine ix_iald (k := k) hx hb hK hP 2 0 rfl rfl (by omega) (by omega) (by decide) dX2_leading_14 ?_
    refine ix_i2l hx hb dX2_leading_15 (by omega) ?_
    refine lv_goto (tgt := 26) hx hb dX2_leading_16 (by decide) ?_
    exact W.lret (v := lI (Bs k)) hx hb hr (fun t ht _ => ⟨_, rfl, congrArg lI (by unfold g_lead; grind), ht⟩) (fun q h => nomatch h) dX2_leading_26
set_option maxHeartbeats 4000000 in
set_option maxRecDepth 100000 in
theorem kX2_middle (l : Launch) (dC : Nat → ClassId) (dI : Nat → Nat → Nat) (x n r d ya yb yc yo : Nat) (cI cJ : ClassId) (cd cn fc : Int) (X : Int → Int) (As Bs Cs : Int → Int) (k : Int) (hk : 0 ≤ k ∧ k ≤ 4) (hf : (0 ≤ As k ∧ As k ≤ 20) ∧ (-240 ≤ Bs k ∧ Bs k ≤ 240) ∧ (-20 ≤ Cs k ∧ Cs k ≤ 20)) : Met l yX2_middle (.code yX2_middle cX2_middle 2 (some .long) :: wsA) ({ frames := 0, cells := 0, slots := 0, locals := 0 }) (va_Pc [.ref x, .int (iI k)] (fun U => va_P (dC, dI) vwCl [(x, .inr (2, [.int (iI cd), .ref n, .ref r, .ref d, .int (iI cn), .int (iI fc), .ref ya, .ref yb, .ref yc, .ref yo, .long (lI (X 0)), .long (lI (X 1)), .long (lI (X 2)), .long (lI (X 3)), .long (lI (X 4)), .long (lI (X 5)), .long (lI (X 6))])), (ya, .inl (cI, 5, .inl (aI As))), (yb, .inl (cI, 5, .inl (aI Bs))), (yc, .inl (cI, 5, .inl (aI Cs)))] U.heap ∧ va_K (dC, dI) vwCl [(cI, .int)] U)) (vp_Sl (fun r => r = lI (g_mid (As k) (Bs k) (Cs k)))) 0 0 (fun _ => False) := by
  refine Met.ofW (cc := cX2_middle) (maxL := 2) (ret := (some .long)) (by decide) rfl ?_
  intro p e s m args below meth c s₁ B hml hv
  obtain ⟨rfl, hP, hK⟩ := hv
  have hx := B.exec
  have hb := B.bytes
  have hr := B.returns
  have hts := atoms_spec (ws := .code yX2_middle cX2_middle 2 (some .long) :: wsA) B.pre
  have hw : ∀ w ∈ wsA, w.before _ s = true := fun w h => hts w (List.mem_cons_of_mem _ h)
  have hown : s.vm.findClass RX2 = some m.cls := findClass_of_methodNamed B.named
  have hlocks := B.notSynchronized
  have hl := lv_entry ([.ref x, .int (iI k)]) (n := 2) (Nat.le_of_ble_eq_true rfl)
  rw [lg_entry_eq]
  generalize (lg_sl ([.ref x, .int (iI k)]) ++ List.replicate (2 - (lg_sl ([.ref x, .int (iI k)])).length) Slot.unset).toArray = ls at hl ⊢
  have hl : lv_has ls 2 [(0, .ref x), (1, .int (iI k))] := hl
  refine lv_aload_n hx hb dX2_middle_0 rfl (lv_at hl 0 rfl) ?_
  refine va_get (D := (dC, dI)) (ci := 2) (v := .ref ya) (C := RX2) (T := TX2) (N := 17) hx hb hw inX2 hown hK hP 0 rfl rfl 6 (by decide) (hw _ mA_387) (fun _ h9 => h9) rfl dX2_middle_1 ?_
  refine lv_iload_n hx hb dX2_middle_4 rfl (lv_at hl 1 rfl) ?_
  refine ix_iald (k := k) hx hb hK hP 1 0 rfl rfl (by omega) (by omega) (by decide) dX2_middle_5 ?_
  refine ix_if_ne (tgt := 23) hx hb dX2_middle_6 (by decide) (by omega) (fun c1 => ?_) (fun c1 => ?_)
  · refine lv_aload_n hx hb dX2_middle_23 rfl (lv_at hl 0 rfl) ?_
    refine va_get (D := (dC, dI)) (ci := 2) (v := .ref yb) (C := RX2) (T := TX2) (N := 17) hx hb hw inX2 hown hK hP 0 rfl rfl 7 (by decide) (hw _ mA_388) (fun _ h9 => h9) rfl dX2_middle_24 ?_
    refine lv_iload_n hx hb dX2_middle_27 rfl (lv_at hl 1 rfl) ?_
    refine ix_iald (k := k) hx hb hK hP 2 0 rfl rfl (by omega) (by omega) (by decide) dX2_middle_28 ?_
    refine ix_i2l hx hb dX2_middle_29 (by omega) ?_
    exact W.lret (v := lI (Bs k)) hx hb hr (fun t ht _ => ⟨_, rfl, congrArg lI (by unfold g_mid; grind), ht⟩) (fun q h => nomatch h) dX2_middle_30
  · refine ix_ldc2 (z := 2) hx hb hown (hw _ mA_461) rfl dX2_middle_9 ?_
    refine lv_aload_n hx hb dX2_middle_12 rfl (lv_at hl 0 rfl) ?_
    refine va_get (D := (dC, dI)) (ci := 2) (v := .ref yc) (C := RX2) (T := TX2) (N := 17) hx hb hw inX2 hown hK hP 0 rfl rfl 8 (by decide) (hw _ mA_389) (fun _ h9 => h9) rfl dX2_middle_13 ?_
    refine lv_iload_n hx hb dX2_middle_16 rfl (lv_at hl 1 rfl) ?_
    refine ix_iald (k := k) hx hb hK hP 3 0 rfl rfl (by omega) (by omega) (by decide) dX2_middle_17 ?_
    refine ix_i2l hx hb dX2_middle_18 (by omega) ?_
    refine ix_lmul hx hb dX2_middle_19 ?_
    refine lv_goto (tgt := 30) hx hb dX2_middle_20 (by decide) ?_
    exact W.lret (v := lI (2 * (Cs k))) hx hb hr (fun t ht _ => ⟨_, rfl, congrArg lI (by unfold g_mid; grind), ht⟩) (fun q h => nomatch h) dX2_middle_30
set_option maxHeartbeats 4000000 in
set_option maxRecDepth 100000 in
theorem kX2_under (l : Launch) (dC : Nat → ClassId) (dI : Nat → Nat → Nat) (x n r d ya yb yc yo : Nat) (cI cJ : ClassId) (cd cn fc : Int) (X : Int → Int) (As Bs Cs : Int → Int) (k : Int) (hk : 0 ≤ k ∧ k ≤ 4) (hf : (0 ≤ As k ∧ As k ≤ 20) ∧ (-240 ≤ Bs k ∧ Bs k ≤ 240) ∧ (-20 ≤ Cs k ∧ Cs k ≤ 20)) : Met l yX2_under (.code yX2_under cX2_under 2 (some .long) :: wsA) ({ frames := 0, cells := 0, slots := 0, locals := 0 }) (va_Pc [.ref x, .int (iI k)] (fun U => va_P (dC, dI) vwCl [(x, .inr (2, [.int (iI cd), .ref n, .ref r, .ref d, .int (iI cn), .int (iI fc), .ref ya, .ref yb, .ref yc, .ref yo, .long (lI (X 0)), .long (lI (X 1)), .long (lI (X 2)), .long (lI (X 3)), .long (lI (X 4)), .long (lI (X 5)), .long (lI (X 6))])), (ya, .inl (cI, 5, .inl (aI As))), (yb, .inl (cI, 5, .inl (aI Bs))), (yc, .inl (cI, 5, .inl (aI Cs)))] U.heap ∧ va_K (dC, dI) vwCl [(cI, .int)] U)) (vp_Sl (fun r => r = lI (g_und (As k) (Bs k) (Cs k)))) 0 0 (fun _ => False) := by
  refine Met.ofW (cc := cX2_under) (maxL := 2) (ret := (some .long)) (by decide) rfl ?_
  intro p e s m args below meth c s₁ B hml hv
  obtain ⟨rfl, hP, hK⟩ := hv
  have hx := B.exec
  have hb := B.bytes
  have hr := B.returns
  have hts := atoms_spec (ws := .code yX2_under cX2_under 2 (some .long) :: wsA) B.pre
  have hw : ∀ w ∈ wsA, w.before _ s = true := fun w h => hts w (List.mem_cons_of_mem _ h)
  have hown : s.vm.findClass RX2 = some m.cls := findClass_of_methodNamed B.named
  have hlocks := B.notSynchronized
  have hl := lv_entry ([.ref x, .int (iI k)]) (n := 2) (Nat.le_of_ble_eq_true rfl)
  rw [lg_entry_eq]
  generalize (lg_sl ([.ref x, .int (iI k)]) ++ List.replicate (2 - (lg_sl ([.ref x, .int (iI k)])).length) Slot.unset).toArray = ls at hl ⊢
  have hl : lv_has ls 2 [(0, .ref x), (1, .int (iI k))] := hl
  refine lv_aload_n hx hb dX2_under_0 rfl (lv_at hl 0 rfl) ?_
  refine va_get (D := (dC, dI)) (ci := 2) (v := .ref ya) (C := RX2) (T := TX2) (N := 17) hx hb hw inX2 hown hK hP 0 rfl rfl 6 (by decide) (hw _ mA_387) (fun _ h9 => h9) rfl dX2_under_1 ?_
  refine lv_iload_n hx hb dX2_under_4 rfl (lv_at hl 1 rfl) ?_
  refine ix_iald (k := k) hx hb hK hP 1 0 rfl rfl (by omega) (by omega) (by decide) dX2_under_5 ?_
  refine ix_if_ne (tgt := 13) hx hb dX2_under_6 (by decide) (by omega) (fun c1 => ?_) (fun c1 => ?_)
  · refine lv_aload_n hx hb dX2_under_13 rfl (lv_at hl 0 rfl) ?_
    refine va_get (D := (dC, dI)) (ci := 2) (v := .ref yb) (C := RX2) (T := TX2) (N := 17) hx hb hw inX2 hown hK hP 0 rfl rfl 7 (by decide) (hw _ mA_388) (fun _ h9 => h9) rfl dX2_under_14 ?_
    refine lv_iload_n hx hb dX2_under_17 rfl (lv_at hl 1 rfl) ?_
    refine ix_iald (k := k) hx hb hK hP 2 0 rfl rfl (by omega) (by omega) (by decide) dX2_under_18 ?_
    refine ix_i2l hx hb dX2_under_19 (by omega) ?_
    refine lv_aload_n hx hb dX2_under_20 rfl (lv_at hl 0 rfl) ?_
    refine va_get (D := (dC, dI)) (ci := 2) (v := .ref yb) (C := RX2) (T := TX2) (N := 17) hx hb hw inX2 hown hK hP 0 rfl rfl 7 (by decide) (hw _ mA_388) (fun _ h9 => h9) rfl dX2_under_21 ?_
    refine lv_iload_n hx hb dX2_under_24 rfl (lv_at hl 1 rfl) ?_
    refine ix_iald (k := k) hx hb hK hP 2 0 rfl rfl (by omega) (by omega) (by decide) dX2_under_25 ?_
    refine ix_i2l hx hb dX2_under_26 (by omega) ?_
    refine ix_lmul hx hb dX2_under_27 ?_
    refine ix_ldc2 (z := 4) hx hb hown (hw _ mA_442) rfl dX2_under_28 ?_
    refine lv_aload_n hx hb dX2_under_31 rfl (lv_at hl 0 rfl) ?_
    refine va_get (D := (dC, dI)) (ci := 2) (v := .ref ya) (C := RX2) (T := TX2) (N := 17) hx hb hw inX2 hown hK hP 0 rfl rfl 6 (by decide) (hw _ mA_387) (fun _ h9 => h9) rfl dX2_under_32 ?_
    refine lv_iload_n hx hb dX2_under_35 rfl (lv_at hl 1 rfl) ?_
    refine ix_iald (k := k) hx hb hK hP 1 0 rfl rfl (by omega) (by omega) (by decide) dX2_under_36 ?_
    refine ix_i2l hx hb dX2_under_37 (by omega) ?_
    refine ix_lmul hx hb dX2_under_38 ?_
    refine lv_aload_n hx hb dX2_under_39 rfl (lv_at hl 0 rfl) ?_
    refine va_get (D := (dC, dI)) (ci := 2) (v := .ref yc) (C := RX2) (T := TX2) (N := 17) hx hb hw inX2 hown hK hP 0 rfl rfl 8 (by decide) (hw _ mA_389) (fun _ h9 => h9) rfl dX2_under_40 ?_
    refine lv_iload_n hx hb dX2_under_43 rfl (lv_at hl 1 rfl) ?_
    refine ix_iald (k := k) hx hb hK hP 3 0 rfl rfl (by omega) (by omega) (by decide) dX2_under_44 ?_
    refine ix_i2l hx hb dX2_under_45 (by omega) ?_
    refine ix_lmul hx hb dX2_under_46 ?_
    refine ix_lsub hx hb dX2_under_47 ?_
    exact W.lret (v := lI (((Bs k) * (Bs k)) - ((4 * (As k)) * (Cs k)))) hx hb hr (fun t ht _ => ⟨_, rfl, congrArg lI (by unfold g_und; grind), ht⟩) (fun q h => nomatch h) dX2_under_48
  · refine ix_lconst0 hx hb dX2_under_9 ?_
    refine lv_goto (tgt := 48) hx hb dX2_under_10 (by decide) ?_
    exact W.lret (v := lI 0) hx hb hr (fun t ht _ => ⟨_, rfl, congrArg lI (by unfold g_und; grind), ht⟩) (fun q h => nomatch h) dX2_under_48
set_option maxHeartbeats 4000000 in
set_option maxRecDepth 100000 in
theorem kX2_isReal (l : Launch) (dC : Nat → ClassId) (dI : Nat → Nat → Nat) (x n r d ya yb yc yo : Nat) (cI cJ : ClassId) (cd cn fc : Int) (X : Int → Int) (As Bs Cs : Int → Int) (k : Int) (hk : 0 ≤ k ∧ k ≤ 4) (hf : (0 ≤ As k ∧ As k ≤ 20) ∧ (-240 ≤ Bs k ∧ Bs k ≤ 240) ∧ (-20 ≤ Cs k ∧ Cs k ≤ 20)) : Met l yX2_isReal (.code yX2_isReal cX2_isReal 2 (some .boolean) :: wsA) ({ frames := 0, cells := 0, slots := 0, locals := 0 }) (va_Pc [.ref x, .int (iI k)] (fun U => va_P (dC, dI) vwCl [(x, .inr (2, [.int (iI cd), .ref n, .ref r, .ref d, .int (iI cn), .int (iI fc), .ref ya, .ref yb, .ref yc, .ref yo, .long (lI (X 0)), .long (lI (X 1)), .long (lI (X 2)), .long (lI (X 3)), .long (lI (X 4)), .long (lI (X 5)), .long (lI (X 6))])), (ya, .inl (cI, 5, .inl (aI As))), (yb, .inl (cI, 5, .inl (aI Bs))), (yc, .inl (cI, 5, .inl (aI Cs)))] U.heap ∧ va_K (dC, dI) vwCl [(cI, .int)] U)) (vp_Si (fun r => r = iI (g_real (As k) (Bs k) (Cs k)))) 0 0 (fun _ => False) := by
  refine Met.ofW (cc := cX2_isReal) (maxL := 2) (ret := (some .boolean)) (by decide) rfl ?_
  intro p e s m args below meth c s₁ B hml hv
  obtain ⟨rfl, hP, hK⟩ := hv
  have hx := B.exec
  have hb := B.bytes
  have hr := B.returns
  have hts := atoms_spec (ws := .code yX2_isReal cX2_isReal 2 (some .boolean) :: wsA) B.pre
  have hw : ∀ w ∈ wsA, w.before _ s = true := fun w h => hts w (List.mem_cons_of_mem _ h)
  have hown : s.vm.findClass RX2 = some m.cls := findClass_of_methodNamed B.named
  have hlocks := B.notSynchronized
  have hl := lv_entry ([.ref x, .int (iI k)]) (n := 2) (Nat.le_of_ble_eq_true rfl)
  rw [lg_entry_eq]
  generalize (lg_sl ([.ref x, .int (iI k)]) ++ List.replicate (2 - (lg_sl ([.ref x, .int (iI k)])).length) Slot.unset).toArray = ls at hl ⊢
  have hl : lv_has ls 2 [(0, .ref x), (1, .int (iI k))] := hl
  have pb := mul_in hf.2.1 hf.2.1 (by decide) (by decide)
  have pa := mul_in (x := As k) (y := Cs k) (A := 20) (B := 20) ⟨by omega, by omega⟩ hf.2.2 (by decide) (by decide)
  have ea : 4 * As k * Cs k = 4 * (As k * Cs k) := Int.mul_assoc _ _ _
  refine lv_aload_n hx hb dX2_isReal_0 rfl (lv_at hl 0 rfl) ?_
  refine va_get (D := (dC, dI)) (ci := 2) (v := .ref ya) (C := RX2) (T := TX2) (N := 17) hx hb hw inX2 hown hK hP 0 rfl rfl 6 (by decide) (hw _ mA_387) (fun _ h9 => h9) rfl dX2_isReal_1 ?_
  refine lv_iload_n hx hb dX2_isReal_4 rfl (lv_at hl 1 rfl) ?_
  refine ix_iald (k := k) hx hb hK hP 1 0 rfl rfl (by omega) (by omega) (by decide) dX2_isReal_5 ?_
  refine ix_if_eq (tgt := 47) hx hb dX2_isReal_6 (by decide) (by omega) (fun c1 => ?_) (fun c1 => ?_)
  · refine ix_iconst (n := 1) hx hb dX2_isReal_47 ?_
    refine lv_goto (tgt := 52) hx hb dX2_isReal_48 (by decide) ?_
    exact W.zret (v := iI 1) hx hb hr (by decide) (fun t ht _ => ⟨_, rfl, congrArg iI (by unfold g_real; grind), ht⟩) (fun q h => nomatch h) dX2_isReal_52
  · refine lv_aload_n hx hb dX2_isReal_9 rfl (lv_at hl 0 rfl) ?_
    refine va_get (D := (dC, dI)) (ci := 2) (v := .ref yb) (C := RX2) (T := TX2) (N := 17) hx hb hw inX2 hown hK hP 0 rfl rfl 7 (by decide) (hw _ mA_388) (fun _ h9 => h9) rfl dX2_isReal_10 ?_
    refine lv_iload_n hx hb dX2_isReal_13 rfl (lv_at hl 1 rfl) ?_
    refine ix_iald (k := k) hx hb hK hP 2 0 rfl rfl (by omega) (by omega) (by decide) dX2_isReal_14 ?_
    refine ix_i2l hx hb dX2_isReal_15 (by omega) ?_
    refine lv_aload_n hx hb dX2_isReal_16 rfl (lv_at hl 0 rfl) ?_
    refine va_get (D := (dC, dI)) (ci := 2) (v := .ref yb) (C := RX2) (T := TX2) (N := 17) hx hb hw inX2 hown hK hP 0 rfl rfl 7 (by decide) (hw _ mA_388) (fun _ h9 => h9) rfl dX2_isReal_17 ?_
    refine lv_iload_n hx hb dX2_isReal_20 rfl (lv_at hl 1 rfl) ?_
    refine ix_iald (k := k) hx hb hK hP 2 0 rfl rfl (by omega) (by omega) (by decide) dX2_isReal_21 ?_
    refine ix_i2l hx hb dX2_isReal_22 (by omega) ?_
    refine ix_lmul hx hb dX2_isReal_23 ?_
    refine ix_ldc2 (z := 4) hx hb hown (hw _ mA_442) rfl dX2_isReal_24 ?_
    refine lv_aload_n hx hb dX2_isReal_27 rfl (lv_at hl 0 rfl) ?_
    refine va_get (D := (dC, dI)) (ci := 2) (v := .ref ya) (C := RX2) (T := TX2) (N := 17) hx hb hw inX2 hown hK hP 0 rfl rfl 6 (by decide) (hw _ mA_387) (fun _ h9 => h9) rfl dX2_isReal_28 ?_
    refine lv_iload_n hx hb dX2_isReal_31 rfl (lv_at hl 1 rfl) ?_
    refine ix_iald (k := k) hx hb hK hP 1 0 rfl rfl (by omega) (by omega) (by decide) dX2_isReal_32 ?_
    refine ix_i2l hx hb dX2_isReal_33 (by omega) ?_
    refine ix_lmul hx hb dX2_isReal_34 ?_
    refine lv_aload_n hx hb dX2_isReal_35 rfl (lv_at hl 0 rfl) ?_
    refine va_get (D := (dC, dI)) (ci := 2) (v := .ref yc) (C := RX2) (T := TX2) (N := 17) hx hb hw inX2 hown hK hP 0 rfl rfl 8 (by decide) (hw _ mA_389) (fun _ h9 => h9) rfl dX2_isReal_36 ?_
    refine lv_iload_n hx hb dX2_isReal_39 rfl (lv_at hl 1 rfl) ?_
    refine ix_iald (k := k) hx hb hK hP 3 0 rfl rfl (by omega) (by omega) (by decide) dX2_isReal_40 ?_
    refine ix_i2l hx hb dX2_isReal_41 (by omega) ?_
    refine ix_lmul hx hb dX2_isReal_42 ?_
    refine ix_lc_le (tgt := 51) hx hb dX2_isReal_43 dX2_isReal_44 (by decide) (by omega) (by omega) (fun c2 => ?_) (fun c2 => ?_)
    · refine ix_iconst (n := 0) hx hb dX2_isReal_51 ?_
      exact W.zret (v := iI 0) hx hb hr (by decide) (fun t ht _ => ⟨_, rfl, congrArg iI (by unfold g_real; grind), ht⟩) (fun q h => nomatch h) dX2_isReal_52
    · refine ix_iconst (n := 1) hx hb dX2_isReal_47 ?_
      refine lv_goto (tgt := 52) hx hb dX2_isReal_48 (by decide) ?_
      exact W.zret (v := iI 1) hx hb hr (by decide) (fun t ht _ => ⟨_, rfl, congrArg iI (by unfold g_real; grind), ht⟩) (fun q h => nomatch h) dX2_isReal_52
set_option maxHeartbeats 4000000 in
set_option maxRecDepth 100000 in
theorem kX2_sign (l : Launch) (dC : Nat → ClassId) (dI : Nat → Nat → Nat) (x n r d ya yb yc yo : Nat) (cI cJ : ClassId) (cd cn fc : Int) (X : Int → Int) (As Bs Cs : Int → Int) (k : Int) (hk : 0 ≤ k ∧ k ≤ 4) (hf : (0 ≤ As k ∧ As k ≤ 20) ∧ (-240 ≤ Bs k ∧ Bs k ≤ 240) ∧ (-20 ≤ Cs k ∧ Cs k ≤ 20)) (up v : Int) (hup : up = 0 ∨ up = 1) (hp : -2000 ≤ v ∧ v ≤ 2000)  : Met l yX2_sign (.code yX2_sign cX2_sign 15 (some .int) :: wsA) ({ frames := 0, cells := 0, slots := 0, locals := 0 }) (va_Pc [.ref x, .int (iI k), .int (iI up), .long (lI v), .long (lI 1)] (fun U => va_P (dC, dI) vwCl [(x, .inr (2, [.int (iI cd), .ref n, .ref r, .ref d, .int (iI cn), .int (iI fc), .ref ya, .ref yb, .ref yc, .ref yo, .long (lI (X 0)), .long (lI (X 1)), .long (lI (X 2)), .long (lI (X 3)), .long (lI (X 4)), .long (lI (X 5)), .long (lI (X 6))])), (ya, .inl (cI, 5, .inl (aI As))), (yb, .inl (cI, 5, .inl (aI Bs))), (yc, .inl (cI, 5, .inl (aI Cs)))] U.heap ∧ va_K (dC, dI) vwCl [(cI, .int)] U)) (vp_Si (fun r => r = iI (g_sign (As k) (Bs k) (Cs k) up v))) 0 0 (fun _ => False) := by
  refine Met.ofW (cc := cX2_sign) (maxL := 15) (ret := (some .int)) (by decide) rfl ?_
  intro p e s m args below meth c s₁ B hml hv
  obtain ⟨rfl, hP, hK⟩ := hv
  have hx := B.exec
  have hb := B.bytes
  have hr := B.returns
  have hts := atoms_spec (ws := .code yX2_sign cX2_sign 15 (some .int) :: wsA) B.pre
  have hw : ∀ w ∈ wsA, w.before _ s = true := fun w h => hts w (List.mem_cons_of_mem _ h)
  have hown : s.vm.findClass RX2 = some m.cls := findClass_of_methodNamed B.named
  have hlocks := B.notSynchronized
  have hl := lv_entry ([.ref x, .int (iI k), .int (iI up), .long (lI v), .long (lI 1)]) (n := 15) (Nat.le_of_ble_eq_true rfl)
  rw [lg_entry_eq]
  generalize (lg_sl ([.ref x, .int (iI k), .int (iI up), .long (lI v), .long (lI 1)]) ++ List.replicate (15 - (lg_sl ([.ref x, .int (iI k), .int (iI up), .long (lI v), .long (lI 1)])).length) Slot.unset).toArray = ls at hl ⊢
  have hl : lv_has ls 15 [(0, .ref x), (1, .int (iI k)), (2, .int (iI up)), (3, .long (lI v)), (5, .long (lI 1))] := hl
  have q1 := mul_in (x := v) (y := Bs k) (A := 2000) (B := 240) hp hf.2.1 (by decide) (by decide)
  have q1c : Bs k * v = v * Bs k := Int.mul_comm _ _
  have q2 := mul_in (x := As k) (y := v) (A := 20) (B := 2000) ⟨by omega, by omega⟩ hp (by decide) (by decide)
  have q3 := mul_in (x := As k * v) (y := v) (A := 40000) (B := 2000) q2 hp (by decide) (by decide)
  have q4 : 2 * As k * v = 2 * (As k * v) := Int.mul_assoc _ _ _
  refine lv_aload_n hx hb dX2_sign_0 rfl (lv_at hl 0 rfl) ?_
  refine va_get (D := (dC, dI)) (ci := 2) (v := .ref ya) (C := RX2) (T := TX2) (N := 17) hx hb hw inX2 hown hK hP 0 rfl rfl 6 (by decide) (hw _ mA_387) (fun _ h9 => h9) rfl dX2_sign_1 ?_
  refine lv_iload_n hx hb dX2_sign_4 rfl (lv_at hl 1 rfl) ?_
  refine ix_iald (k := k) hx hb hK hP 1 0 rfl rfl (by omega) (by omega) (by decide) dX2_sign_5 ?_
  refine ix_i2l hx hb dX2_sign_6 (by omega) ?_
  refine lv_lstore (lv' := [(7, .long (lI (As k))), (0, .ref x), (1, .int (iI k)), (2, .int (iI up)), (3, .long (lI v)), (5, .long (lI 1))]) hx hb dX2_sign_7 hl (by decide) rfl (fun ls hl => ?_)
  refine lv_aload_n hx hb dX2_sign_9 rfl (lv_at hl 1 rfl) ?_
  refine va_get (D := (dC, dI)) (ci := 2) (v := .ref yb) (C := RX2) (T := TX2) (N := 17) hx hb hw inX2 hown hK hP 0 rfl rfl 7 (by decide) (hw _ mA_388) (fun _ h9 => h9) rfl dX2_sign_10 ?_
  refine lv_iload_n hx hb dX2_sign_13 rfl (lv_at hl 2 rfl) ?_
  refine ix_iald (k := k) hx hb hK hP 2 0 rfl rfl (by omega) (by omega) (by decide) dX2_sign_14 ?_
  refine ix_i2l hx hb dX2_sign_15 (by omega) ?_
  refine lv_lstore (lv' := [(9, .long (lI (Bs k))), (7, .long (lI (As k))), (0, .ref x), (1, .int (iI k)), (2, .int (iI up)), (3, .long (lI v)), (5, .long (lI 1))]) hx hb dX2_sign_16 hl (by decide) rfl (fun ls hl => ?_)
  refine lv_aload_n hx hb dX2_sign_18 rfl (lv_at hl 2 rfl) ?_
  refine va_get (D := (dC, dI)) (ci := 2) (v := .ref yc) (C := RX2) (T := TX2) (N := 17) hx hb hw inX2 hown hK hP 0 rfl rfl 8 (by decide) (hw _ mA_389) (fun _ h9 => h9) rfl dX2_sign_19 ?_
  refine lv_iload_n hx hb dX2_sign_22 rfl (lv_at hl 3 rfl) ?_
  refine ix_iald (k := k) hx hb hK hP 3 0 rfl rfl (by omega) (by omega) (by decide) dX2_sign_23 ?_
  refine ix_i2l hx hb dX2_sign_24 (by omega) ?_
  refine lv_lstore (lv' := [(11, .long (lI (Cs k))), (9, .long (lI (Bs k))), (7, .long (lI (As k))), (0, .ref x), (1, .int (iI k)), (2, .int (iI up)), (3, .long (lI v)), (5, .long (lI 1))]) hx hb dX2_sign_25 hl (by decide) rfl (fun ls hl => ?_)
  refine lv_lload hx hb dX2_sign_27 (lv_at hl 2 rfl) ?_
  refine ix_lconst0 hx hb dX2_sign_29 ?_
  refine ix_lc_ne (tgt := 71) hx hb dX2_sign_30 dX2_sign_31 (by decide) (by omega) (by decide) (fun c1 => ?_) (fun c1 => ?_)
  · refine lv_lload hx hb dX2_sign_71 (lv_at hl 2 rfl) ?_
    refine lv_lload_n hx hb dX2_sign_73 rfl (lv_at hl 6 rfl) ?_
    refine ix_lmul hx hb dX2_sign_74 ?_
    refine lv_lload_n hx hb dX2_sign_75 rfl (lv_at hl 6 rfl) ?_
    refine ix_lmul hx hb dX2_sign_76 ?_
    refine lv_lload hx hb dX2_sign_77 (lv_at hl 1 rfl) ?_
    refine lv_lload_n hx hb dX2_sign_79 rfl (lv_at hl 6 rfl) ?_
    refine ix_lmul hx hb dX2_sign_80 ?_
    refine lv_lload hx hb dX2_sign_81 (lv_at hl 7 rfl) ?_
    refine ix_lmul hx hb dX2_sign_83 ?_
    refine ix_ladd hx hb dX2_sign_84 ?_
    refine lv_lload hx hb dX2_sign_85 (lv_at hl 0 rfl) ?_
    refine lv_lload hx hb dX2_sign_87 (lv_at hl 7 rfl) ?_
    refine ix_lmul hx hb dX2_sign_89 ?_
    refine lv_lload hx hb dX2_sign_90 (lv_at hl 7 rfl) ?_
    refine ix_lmul hx hb dX2_sign_92 ?_
    refine ix_ladd hx hb dX2_sign_93 ?_
    refine lv_lstore (lv' := [(13, .long (lI (((((As k) * v) * v) + (((Bs k) * v) * 1)) + (((Cs k) * 1) * 1)))), (11, .long (lI (Cs k))), (9, .long (lI (Bs k))), (7, .long (lI (As k))), (0, .ref x), (1, .int (iI k)), (2, .int (iI up)), (3, .long (lI v)), (5, .long (lI 1))]) hx hb dX2_sign_94 hl (by decide) rfl (fun ls hl => ?_)
    refine lv_lload hx hb dX2_sign_96 (lv_at hl 0 rfl) ?_
    refine ix_lconst0 hx hb dX2_sign_98 ?_
    refine ix_lc_ge (tgt := 113) hx hb dX2_sign_99 dX2_sign_100 (by decide) (by omega) (by decide) (fun c2 => ?_) (fun c2 => ?_)
    · refine ix_ldc2 (z := 2) hx hb hown (hw _ mA_461) rfl dX2_sign_113 ?_
      refine lv_lload hx hb dX2_sign_116 (lv_at hl 3 rfl) ?_
      refine ix_lmul hx hb dX2_sign_118 ?_
      refine lv_lload_n hx hb dX2_sign_119 rfl (lv_at hl 7 rfl) ?_
      refine ix_lmul hx hb dX2_sign_120 ?_
      refine lv_lload hx hb dX2_sign_121 (lv_at hl 2 rfl) ?_
      refine lv_lload hx hb dX2_sign_123 (lv_at hl 8 rfl) ?_
      refine ix_lmul hx hb dX2_sign_125 ?_
      refine ix_ladd hx hb dX2_sign_126 ?_
      refine ix_lconst0 hx hb dX2_sign_127 ?_
      refine ix_lc_ge (tgt := 136) hx hb dX2_sign_128 dX2_sign_129 (by decide) (by omega) (by decide) (fun c3 => ?_) (fun c3 => ?_)
      · refine ix_iconst (n := (-1)) hx hb dX2_sign_136 ?_
        exact W.iret (v := iI (-1)) hx hb hr (fun t ht _ => ⟨_, rfl, congrArg iI (by unfold g_sign; grind), ht⟩) (fun q h => nomatch h) dX2_sign_137
      · refine ix_iconst (n := 1) hx hb dX2_sign_132 ?_
        refine lv_goto (tgt := 137) hx hb dX2_sign_133 (by decide) ?_
        exact W.iret (v := iI 1) hx hb hr (fun t ht _ => ⟨_, rfl, congrArg iI (by unfold g_sign; grind), ht⟩) (fun q h => nomatch h) dX2_sign_137
    · refine lv_iload_n hx hb dX2_sign_103 rfl (lv_at hl 6 rfl) ?_
      refine ix_if_eq (tgt := 111) hx hb dX2_sign_104 (by decide) (by omega) (fun c4 => ?_) (fun c4 => ?_)
      · refine ix_iconst (n := (-1)) hx hb dX2_sign_111 ?_
        exact W.iret (v := iI (-1)) hx hb hr (fun t ht _ => ⟨_, rfl, congrArg iI (by unfold g_sign; grind), ht⟩) (fun q h => nomatch h) dX2_sign_112
      · refine ix_iconst (n := 1) hx hb dX2_sign_107 ?_
        refine lv_goto (tgt := 112) hx hb dX2_sign_108 (by decide) ?_
        exact W.iret (v := iI 1) hx hb hr (fun t ht _ => ⟨_, rfl, congrArg iI (by unfold g_sign; grind), ht⟩) (fun q h => nomatch h) dX2_sign_112
  · refine lv_lload hx hb dX2_sign_34 (lv_at hl 0 rfl) ?_
    refine ix_lneg hx hb dX2_sign_36 ?_
    refine lv_lload hx hb dX2_sign_37 (lv_at hl 7 rfl) ?_
    refine ix_lmul hx hb dX2_sign_39 ?_
    refine lv_lload_n hx hb dX2_sign_40 rfl (lv_at hl 6 rfl) ?_
    refine lv_lload hx hb dX2_sign_41 (lv_at hl 1 rfl) ?_
    refine ix_lmul hx hb dX2_sign_43 ?_
    refine ix_lsub hx hb dX2_sign_44 ?_
    refine lv_lstore (lv' := [(13, .long (lI (((-(Cs k)) * 1) - (v * (Bs k))))), (11, .long (lI (Cs k))), (9, .long (lI (Bs k))), (7, .long (lI (As k))), (0, .ref x), (1, .int (iI k)), (2, .int (iI up)), (3, .long (lI v)), (5, .long (lI 1))]) hx hb dX2_sign_45 hl (by decide) rfl (fun ls hl => ?_)
    refine lv_lload hx hb dX2_sign_47 (lv_at hl 0 rfl) ?_
    refine ix_lconst0 hx hb dX2_sign_49 ?_
    refine ix_lc_le (tgt := 58) hx hb dX2_sign_50 dX2_sign_51 (by decide) (by omega) (by decide) (fun c5 => ?_) (fun c5 => ?_)
    · refine lv_lload hx hb dX2_sign_58 (lv_at hl 0 rfl) ?_
      refine ix_lconst0 hx hb dX2_sign_60 ?_
      refine ix_lc_ge (tgt := 69) hx hb dX2_sign_61 dX2_sign_62 (by decide) (by omega) (by decide) (fun c6 => ?_) (fun c6 => ?_)
      · refine ix_iconst (n := 0) hx hb dX2_sign_69 ?_
        exact W.iret (v := iI 0) hx hb hr (fun t ht _ => ⟨_, rfl, congrArg iI (by unfold g_sign; grind), ht⟩) (fun q h => nomatch h) dX2_sign_70
      · refine ix_iconst (n := (-1)) hx hb dX2_sign_65 ?_
        refine lv_goto (tgt := 70) hx hb dX2_sign_66 (by decide) ?_
        exact W.iret (v := iI (-1)) hx hb hr (fun t ht _ => ⟨_, rfl, congrArg iI (by unfold g_sign; grind), ht⟩) (fun q h => nomatch h) dX2_sign_70
    · refine ix_iconst (n := 1) hx hb dX2_sign_54 ?_
      refine lv_goto (tgt := 70) hx hb dX2_sign_55 (by decide) ?_
      exact W.iret (v := iI 1) hx hb hr (fun t ht _ => ⟨_, rfl, congrArg iI (by unfold g_sign; grind), ht⟩) (fun q h => nomatch h) dX2_sign_70
