theorem cp_fun {N M : Int → Int} (hN : n5 N) (hM : n5 M) : iu (iu (iu (iu (iu N 0 (M 0)) 1 (M 1)) 2 (M 2)) 3 (M 3)) 4 (M 4) = M := by
  funext j
  by_cases z : 0 ≤ j ∧ j ≤ 4
  · unfold iu; grind
  · have h1 := hN j (by omega)
    have h2 := hM j (by omega)
    unfold iu; grind
set_option maxHeartbeats 4000000 in
set_option maxRecDepth 100000 in
theorem lp_chT {p : Program} {l : Launch} {e : Env} {s : State} {m : MethodId} {args : Array Value} {below : List Frame} {meth : Method} {c : Code} {dC : Nat → ClassId} {dI : Nat → Nat → Nat} {A : Nat → Prop} {x n r d ya yb yc yo : Nat} {cI cJ : ClassId} {cn fc : Int} {X N : Int → Int} {how : Int} (h5 : n5 N) (hdeg : 0 ≤ f_deg N) (hh : -1 ≤ how ∧ how ≤ 2) (hA : ∀ q : Nat, s.heap.size ≤ q → A q) (hnb : nb s) (C0 : cx p s m meth c args RX2 cX2_change 5 (some .boolean)) : ∀ (n9 : Nat) (M : Int → Int), M = f_chg N how (f_deg N) → n5 M → (∀ j, -20480 ≤ M j ∧ M j ≤ 20480) → 0 < n9 → ∀ (H : Heap) (locs : List Loc), va_K (dC, dI) vwCl [(cI, .int), (cJ, .long)] s → va_P (dC, dI) vwCl [(x, .inr (2, [.int (iI 0), .ref n, .ref r, .ref d, .int (iI cn), .int (iI fc), .ref ya, .ref yb, .ref yc, .ref yo, .long (lI (X 0)), .long (lI (X 1)), .long (lI (X 2)), .long (lI (X 3)), .long (lI (X 4)), .long (lI (X 5)), .long (lI (X 6))])), (n, .inl (cI, 5, .inl (aI N))), (r, .inl (cJ, 5, .inr (.inl (aL M))))] H → va_D A [(x, .inr (2, [.int (iI 0), .ref n, .ref r, .ref d, .int (iI cn), .int (iI fc), .ref ya, .ref yb, .ref yc, .ref yo, .long (lI (X 0)), .long (lI (X 1)), .long (lI (X 2)), .long (lI (X 3)), .long (lI (X 4)), .long (lI (X 5)), .long (lI (X 6))])), (n, .inl (cI, 5, .inl (aI N))), (r, .inl (cJ, 5, .inr (.inl (aL M))))] → va_S A s.heap H locs → ∀ (ls : Array Slot), lv_has ls 5 [(0, .ref x), (1, .int (iI how)), (2, .int (iI (f_deg N)))] → W p l e ({ frames := 2, cells := 0, slots := 0, locals := 80 } : Room) s m args below meth c H locs 0 0 (MQ below (va_Qi (fun r9 u => n5 u.2.2 ∧ ((¬ (-1 ≤ how ∧ how ≤ 2) ∧ u.1 = 1 ∧ u.2.1 = N) ∨ ((-1 ≤ how ∧ how ≤ 2) ∧ u.1 = 0 ∧ u.2.1 = f_cnew N how ∧ r9 = iI (f_cok N how)))) (fun (u : Int × (Int → Int) × (Int → Int)) t9 => va_P (dC, dI) vwCl [(x, .inr (2, [.int (iI u.1), .ref n, .ref r, .ref d, .int (iI cn), .int (iI fc), .ref ya, .ref yb, .ref yc, .ref yo, .long (lI (X 0)), .long (lI (X 1)), .long (lI (X 2)), .long (lI (X 3)), .long (lI (X 4)), .long (lI (X 5)), .long (lI (X 6))])), (n, .inl (cI, 5, .inl (aI u.2.1))), (r, .inl (cJ, 5, .inr (.inl (aL u.2.2))))] t9.heap ∧ va_K (dC, dI) vwCl [(cI, .int), (cJ, .long)] t9 ∧ va_D A [(x, .inr (2, [.int (iI u.1), .ref n, .ref r, .ref d, .int (iI cn), .int (iI fc), .ref ya, .ref yb, .ref yc, .ref yo, .long (lI (X 0)), .long (lI (X 1)), .long (lI (X 2)), .long (lI (X 3)), .long (lI (X 4)), .long (lI (X 5)), .long (lI (X 6))])), (n, .inl (cI, 5, .inl (aI u.2.1))), (r, .inl (cJ, 5, .inr (.inl (aL u.2.2))))]) A) args s 0 0 A) (F0 m 171 ls []) := by
  obtain ⟨hx, hb, hr, hml, hown, hw, hlocks⟩ := C0
  intro n9
  induction n9 with
  | zero => intro M _ _ _ hmu; exact absurd hmu (Nat.not_lt_zero _)
  | succ n9 ih =>
    intro M hM hM5 hMb hmu H locs hK hP hD hS ls hl
    refine ix_iconst (n := 0) hx hb dX2_change_171 ?_
    refine lv_istore_n (lv' := [(3, .int (iI 0)), (0, .ref x), (1, .int (iI how)), (2, .int (iI (f_deg N)))]) hx hb dX2_change_172 rfl hl (by decide) rfl (fun ls hl => ?_)
    refine lv_iload_n hx hb dX2_change_173 rfl (lv_at hl 0 rfl) ?_
    refine ix_iconst (n := 5) hx hb dX2_change_174 ?_
    refine ix_icmp_ge (tgt := 204) hx hb dX2_change_175 (by decide) (by decide) (by decide) (fun c1 => absurd c1 (by decide)) (fun _ => ?_)
    refine lv_aload_n hx hb dX2_change_178 rfl (lv_at hl 1 rfl) ?_
    refine va_get (D := (dC, dI)) (ci := 2) (v := .ref r) (C := RX2) (T := TX2) (N := 17) hx hb hw inX2 hown hK hP 0 rfl rfl 2 (by decide) (hw _ mA_383) (fun _ h9 => h9) rfl dX2_change_179 ?_
    refine lv_iload_n hx hb dX2_change_182 rfl (lv_at hl 0 rfl) ?_
    refine ix_lald (k := 0) hx hb hK hP 2 1 rfl rfl (by decide) (by decide) (by decide) dX2_change_183 ?_
    refine ix_ldc2 (z := (-20)) hx hb hown (hw _ mA_446) rfl dX2_change_184 ?_
    refine ix_ldc2 (z := 20) hx hb hown (hw _ mA_447) rfl dX2_change_187 ?_
    have hb0 := hMb 0
    refine vp_callSi (W.runS (As := [.long (lI (M 0)), .long (lI (-20)), .long (lI 20)]) (rest := []) ⟨hx, hb, hml, hown, hw⟩ (kX2_in l (M 0) (-20) 20 ⟨by omega, by omega⟩ (by decide) (by decide)) (cwS 3 hw (gS mA_443 mA_444 mA_3 mA_445) rfl rfl rfl (by decide +kernel) ⟨Nat.le_of_ble_eq_true rfl, Nat.le_of_ble_eq_true rfl⟩) preEq rfl rfl hl.1 rfl (lv_room (Nat.le_of_ble_eq_true rfl)) dX2_change_190 ⟨Nat.le_of_ble_eq_true rfl, Nat.le_of_ble_eq_true rfl⟩) (fun r2 h3 => ?_)
    subst h3
    have hin4 : f_in (M 0) (-20) 20 = if (-20) ≤ M 0 ∧ M 0 ≤ 20 then 1 else 0 := rfl
    refine ix_if_ne (tgt := 198) hx hb dX2_change_193 (by decide) (by unfold f_in; grind) (fun c5 => ?_) (fun c5 => ?_)
    · refine ix_iinc (k := 0) (lv2 := [(3, .int (iI 1)), (0, .ref x), (1, .int (iI how)), (2, .int (iI (f_deg N)))]) hx hb dX2_change_198 hl rfl (by decide) rfl (fun ls hl => ?_)
      refine lv_goto (tgt := 173) hx hb dX2_change_201 (by decide) ?_
      refine lv_iload_n hx hb dX2_change_173 rfl (lv_at hl 0 rfl) ?_
      refine ix_iconst (n := 5) hx hb dX2_change_174 ?_
      refine ix_icmp_ge (tgt := 204) hx hb dX2_change_175 (by decide) (by decide) (by decide) (fun c6 => absurd c6 (by decide)) (fun _ => ?_)
      refine lv_aload_n hx hb dX2_change_178 rfl (lv_at hl 1 rfl) ?_
      refine va_get (D := (dC, dI)) (ci := 2) (v := .ref r) (C := RX2) (T := TX2) (N := 17) hx hb hw inX2 hown hK hP 0 rfl rfl 2 (by decide) (hw _ mA_383) (fun _ h9 => h9) rfl dX2_change_179 ?_
      refine lv_iload_n hx hb dX2_change_182 rfl (lv_at hl 0 rfl) ?_
      refine ix_lald (k := 1) hx hb hK hP 2 1 rfl rfl (by decide) (by decide) (by decide) dX2_change_183 ?_
      refine ix_ldc2 (z := (-20)) hx hb hown (hw _ mA_446) rfl dX2_change_184 ?_
      refine ix_ldc2 (z := 20) hx hb hown (hw _ mA_447) rfl dX2_change_187 ?_
      have hb1 := hMb 1
      refine vp_callSi (W.runS (As := [.long (lI (M 1)), .long (lI (-20)), .long (lI 20)]) (rest := []) ⟨hx, hb, hml, hown, hw⟩ (kX2_in l (M 1) (-20) 20 ⟨by omega, by omega⟩ (by decide) (by decide)) (cwS 3 hw (gS mA_443 mA_444 mA_3 mA_445) rfl rfl rfl (by decide +kernel) ⟨Nat.le_of_ble_eq_true rfl, Nat.le_of_ble_eq_true rfl⟩) preEq rfl rfl hl.1 rfl (lv_room (Nat.le_of_ble_eq_true rfl)) dX2_change_190 ⟨Nat.le_of_ble_eq_true rfl, Nat.le_of_ble_eq_true rfl⟩) (fun r7 h8 => ?_)
      subst h8
      have hin9 : f_in (M 1) (-20) 20 = if (-20) ≤ M 1 ∧ M 1 ≤ 20 then 1 else 0 := rfl
      refine ix_if_ne (tgt := 198) hx hb dX2_change_193 (by decide) (by unfold f_in; grind) (fun c10 => ?_) (fun c10 => ?_)
      · refine ix_iinc (k := 0) (lv2 := [(3, .int (iI 2)), (0, .ref x), (1, .int (iI how)), (2, .int (iI (f_deg N)))]) hx hb dX2_change_198 hl rfl (by decide) rfl (fun ls hl => ?_)
        refine lv_goto (tgt := 173) hx hb dX2_change_201 (by decide) ?_
        refine lv_iload_n hx hb dX2_change_173 rfl (lv_at hl 0 rfl) ?_
        refine ix_iconst (n := 5) hx hb dX2_change_174 ?_
        refine ix_icmp_ge (tgt := 204) hx hb dX2_change_175 (by decide) (by decide) (by decide) (fun c11 => absurd c11 (by decide)) (fun _ => ?_)
        refine lv_aload_n hx hb dX2_change_178 rfl (lv_at hl 1 rfl) ?_
        refine va_get (D := (dC, dI)) (ci := 2) (v := .ref r) (C := RX2) (T := TX2) (N := 17) hx hb hw inX2 hown hK hP 0 rfl rfl 2 (by decide) (hw _ mA_383) (fun _ h9 => h9) rfl dX2_change_179 ?_
        refine lv_iload_n hx hb dX2_change_182 rfl (lv_at hl 0 rfl) ?_
        refine ix_lald (k := 2) hx hb hK hP 2 1 rfl rfl (by decide) (by decide) (by decide) dX2_change_183 ?_
        refine ix_ldc2 (z := (-20)) hx hb hown (hw _ mA_446) rfl dX2_change_184 ?_
        refine ix_ldc2 (z := 20) hx hb hown (hw _ mA_447) rfl dX2_change_187 ?_
        have hb2 := hMb 2
        refine vp_callSi (W.runS (As := [.long (lI (M 2)), .long (lI (-20)), .long (lI 20)]) (rest := []) ⟨hx, hb, hml, hown, hw⟩ (kX2_in l (M 2) (-20) 20 ⟨by omega, by omega⟩ (by decide) (by decide)) (cwS 3 hw (gS mA_443 mA_444 mA_3 mA_445) rfl rfl rfl (by decide +kernel) ⟨Nat.le_of_ble_eq_true rfl, Nat.le_of_ble_eq_true rfl⟩) preEq rfl rfl hl.1 rfl (lv_room (Nat.le_of_ble_eq_true rfl)) dX2_change_190 ⟨Nat.le_of_ble_eq_true rfl, Nat.le_of_ble_eq_true rfl⟩) (fun r12 h13 => ?_)
        subst h13
        have hin14 : f_in (M 2) (-20) 20 = if (-20) ≤ M 2 ∧ M 2 ≤ 20 then 1 else 0 := rfl
        refine ix_if_ne (tgt := 198) hx hb dX2_change_193 (by decide) (by unfold f_in; grind) (fun c15 => ?_) (fun c15 => ?_)
        · refine ix_iinc (k := 0) (lv2 := [(3, .int (iI 3)), (0, .ref x), (1, .int (iI how)), (2, .int (iI (f_deg N)))]) hx hb dX2_change_198 hl rfl (by decide) rfl (fun ls hl => ?_)
          refine lv_goto (tgt := 173) hx hb dX2_change_201 (by decide) ?_
          refine lv_iload_n hx hb dX2_change_173 rfl (lv_at hl 0 rfl) ?_
          refine ix_iconst (n := 5) hx hb dX2_change_174 ?_
          refine ix_icmp_ge (tgt := 204) hx hb dX2_change_175 (by decide) (by decide) (by decide) (fun c16 => absurd c16 (by decide)) (fun _ => ?_)
          refine lv_aload_n hx hb dX2_change_178 rfl (lv_at hl 1 rfl) ?_
          refine va_get (D := (dC, dI)) (ci := 2) (v := .ref r) (C := RX2) (T := TX2) (N := 17) hx hb hw inX2 hown hK hP 0 rfl rfl 2 (by decide) (hw _ mA_383) (fun _ h9 => h9) rfl dX2_change_179 ?_
          refine lv_iload_n hx hb dX2_change_182 rfl (lv_at hl 0 rfl) ?_
          refine ix_lald (k := 3) hx hb hK hP 2 1 rfl rfl (by decide) (by decide) (by decide) dX2_change_183 ?_
          refine ix_ldc2 (z := (-20)) hx hb hown (hw _ mA_446) rfl dX2_change_184 ?_
          refine ix_ldc2 (z := 20) hx hb hown (hw _ mA_447) rfl dX2_change_187 ?_
          have hb3 := hMb 3
          refine vp_callSi (W.runS (As := [.long (lI (M 3)), .long (lI (-20)), .long (lI 20)]) (rest := []) ⟨hx, hb, hml, hown, hw⟩ (kX2_in l (M 3) (-20) 20 ⟨by omega, by omega⟩ (by decide) (by decide)) (cwS 3 hw (gS mA_443 mA_444 mA_3 mA_445) rfl rfl rfl (by decide +kernel) ⟨Nat.le_of_ble_eq_true rfl, Nat.le_of_ble_eq_true rfl⟩) preEq rfl rfl hl.1 rfl (lv_room (Nat.le_of_ble_eq_true rfl)) dX2_change_190 ⟨Nat.le_of_ble_eq_true rfl, Nat.le_of_ble_eq_true rfl⟩) (fun r17 h18 => ?_)
          subst h18
          have hin19 : f_in (M 3) (-20) 20 = if (-20) ≤ M 3 ∧ M 3 ≤ 20 then 1 else 0 := rfl
          refine ix_if_ne (tgt := 198) hx hb dX2_change_193 (by decide) (by unfold f_in; grind) (fun c20 => ?_) (fun c20 => ?_)
          · refine ix_iinc (k := 0) (lv2 := [(3, .int (iI 4)), (0, .ref x), (1, .int (iI how)), (2, .int (iI (f_deg N)))]) hx hb dX2_change_198 hl rfl (by decide) rfl (fun ls hl => ?_)
            refine lv_goto (tgt := 173) hx hb dX2_change_201 (by decide) ?_
            refine lv_iload_n hx hb dX2_change_173 rfl (lv_at hl 0 rfl) ?_
            refine ix_iconst (n := 5) hx hb dX2_change_174 ?_
            refine ix_icmp_ge (tgt := 204) hx hb dX2_change_175 (by decide) (by decide) (by decide) (fun c21 => absurd c21 (by decide)) (fun _ => ?_)
            refine lv_aload_n hx hb dX2_change_178 rfl (lv_at hl 1 rfl) ?_
            refine va_get (D := (dC, dI)) (ci := 2) (v := .ref r) (C := RX2) (T := TX2) (N := 17) hx hb hw inX2 hown hK hP 0 rfl rfl 2 (by decide) (hw _ mA_383) (fun _ h9 => h9) rfl dX2_change_179 ?_
            refine lv_iload_n hx hb dX2_change_182 rfl (lv_at hl 0 rfl) ?_
            refine ix_lald (k := 4) hx hb hK hP 2 1 rfl rfl (by decide) (by decide) (by decide) dX2_change_183 ?_
            refine ix_ldc2 (z := (-20)) hx hb hown (hw _ mA_446) rfl dX2_change_184 ?_
            refine ix_ldc2 (z := 20) hx hb hown (hw _ mA_447) rfl dX2_change_187 ?_
            have hb4 := hMb 4
            refine vp_callSi (W.runS (As := [.long (lI (M 4)), .long (lI (-20)), .long (lI 20)]) (rest := []) ⟨hx, hb, hml, hown, hw⟩ (kX2_in l (M 4) (-20) 20 ⟨by omega, by omega⟩ (by decide) (by decide)) (cwS 3 hw (gS mA_443 mA_444 mA_3 mA_445) rfl rfl rfl (by decide +kernel) ⟨Nat.le_of_ble_eq_true rfl, Nat.le_of_ble_eq_true rfl⟩) preEq rfl rfl hl.1 rfl (lv_room (Nat.le_of_ble_eq_true rfl)) dX2_change_190 ⟨Nat.le_of_ble_eq_true rfl, Nat.le_of_ble_eq_true rfl⟩) (fun r22 h23 => ?_)
            subst h23
            have hin24 : f_in (M 4) (-20) 20 = if (-20) ≤ M 4 ∧ M 4 ≤ 20 then 1 else 0 := rfl
            refine ix_if_ne (tgt := 198) hx hb dX2_change_193 (by decide) (by unfold f_in; grind) (fun c25 => ?_) (fun c25 => ?_)
            · refine ix_iinc (k := 0) (lv2 := [(3, .int (iI 5)), (0, .ref x), (1, .int (iI how)), (2, .int (iI (f_deg N)))]) hx hb dX2_change_198 hl rfl (by decide) rfl (fun ls hl => ?_)
              refine lv_goto (tgt := 173) hx hb dX2_change_201 (by decide) ?_
              refine lv_iload_n hx hb dX2_change_173 rfl (lv_at hl 0 rfl) ?_
              refine ix_iconst (n := 5) hx hb dX2_change_174 ?_
              refine ix_icmp_ge (tgt := 204) hx hb dX2_change_175 (by decide) (by decide) (by decide) (fun _ => ?_) (fun c26 => absurd c26 (by decide))
              refine ix_iconst (n := 0) hx hb dX2_change_204 ?_
              refine lv_istore_n (lv' := [(3, .int (iI 0)), (0, .ref x), (1, .int (iI how)), (2, .int (iI (f_deg N)))]) hx hb dX2_change_205 rfl hl (by decide) rfl (fun ls hl => ?_)
              refine lv_iload_n hx hb dX2_change_206 rfl (lv_at hl 0 rfl) ?_
              refine ix_iconst (n := 5) hx hb dX2_change_207 ?_
              refine ix_icmp_ge (tgt := 230) hx hb dX2_change_208 (by decide) (by decide) (by decide) (fun c27 => absurd c27 (by decide)) (fun _ => ?_)
              refine lv_aload_n hx hb dX2_change_211 rfl (lv_at hl 1 rfl) ?_
              refine va_get (D := (dC, dI)) (ci := 2) (v := .ref n) (C := RX2) (T := TX2) (N := 17) hx hb hw inX2 hown hK hP 0 rfl rfl 1 (by decide) (hw _ mA_382) (fun _ h9 => h9) rfl dX2_change_212 ?_
              refine lv_iload_n hx hb dX2_change_215 rfl (lv_at hl 0 rfl) ?_
              refine lv_aload_n hx hb dX2_change_216 rfl (lv_at hl 1 rfl) ?_
              refine va_get (D := (dC, dI)) (ci := 2) (v := .ref r) (C := RX2) (T := TX2) (N := 17) hx hb hw inX2 hown hK hP 0 rfl rfl 2 (by decide) (hw _ mA_383) (fun _ h9 => h9) rfl dX2_change_217 ?_
              refine lv_iload_n hx hb dX2_change_220 rfl (lv_at hl 0 rfl) ?_
              refine ix_lald (k := 0) hx hb hK hP 2 1 rfl rfl (by decide) (by decide) (by decide) dX2_change_221 ?_
              refine ix_l2i hx hb dX2_change_222 ?_
              refine ix_iast (k := 0) (x := M 0) hx hb hK hP hD hS 1 0 rfl rfl (by decide) (by decide) (by decide) dX2_change_223 (fun H locs hP hD hS => ?_)
              have hP : va_P (dC, dI) vwCl [(x, .inr (2, [.int (iI 0), .ref n, .ref r, .ref d, .int (iI cn), .int (iI fc), .ref ya, .ref yb, .ref yc, .ref yo, .long (lI (X 0)), .long (lI (X 1)), .long (lI (X 2)), .long (lI (X 3)), .long (lI (X 4)), .long (lI (X 5)), .long (lI (X 6))])), (n, .inl (cI, 5, .inl (aI (iu N 0 (M 0))))), (r, .inl (cJ, 5, .inr (.inl (aL M))))] H := hP
              have hD : va_D A [(x, .inr (2, [.int (iI 0), .ref n, .ref r, .ref d, .int (iI cn), .int (iI fc), .ref ya, .ref yb, .ref yc, .ref yo, .long (lI (X 0)), .long (lI (X 1)), .long (lI (X 2)), .long (lI (X 3)), .long (lI (X 4)), .long (lI (X 5)), .long (lI (X 6))])), (n, .inl (cI, 5, .inl (aI (iu N 0 (M 0))))), (r, .inl (cJ, 5, .inr (.inl (aL M))))] := hD
              refine ix_iinc (k := 0) (lv2 := [(3, .int (iI 1)), (0, .ref x), (1, .int (iI how)), (2, .int (iI (f_deg N)))]) hx hb dX2_change_224 hl rfl (by decide) rfl (fun ls hl => ?_)
              refine lv_goto (tgt := 206) hx hb dX2_change_227 (by decide) ?_
              refine lv_iload_n hx hb dX2_change_206 rfl (lv_at hl 0 rfl) ?_
              refine ix_iconst (n := 5) hx hb dX2_change_207 ?_
              refine ix_icmp_ge (tgt := 230) hx hb dX2_change_208 (by decide) (by decide) (by decide) (fun c28 => absurd c28 (by decide)) (fun _ => ?_)
              refine lv_aload_n hx hb dX2_change_211 rfl (lv_at hl 1 rfl) ?_
              refine va_get (D := (dC, dI)) (ci := 2) (v := .ref n) (C := RX2) (T := TX2) (N := 17) hx hb hw inX2 hown hK hP 0 rfl rfl 1 (by decide) (hw _ mA_382) (fun _ h9 => h9) rfl dX2_change_212 ?_
              refine lv_iload_n hx hb dX2_change_215 rfl (lv_at hl 0 rfl) ?_
              refine lv_aload_n hx hb dX2_change_216 rfl (lv_at hl 1 rfl) ?_
              refine va_get (D := (dC, dI)) (ci := 2) (v := .ref r) (C := RX2) (T := TX2) (N := 17) hx hb hw inX2 hown hK hP 0 rfl rfl 2 (by decide) (hw _ mA_383) (fun _ h9 => h9) rfl dX2_change_217 ?_
              refine lv_iload_n hx hb dX2_change_220 rfl (lv_at hl 0 rfl) ?_
              refine ix_lald (k := 1) hx hb hK hP 2 1 rfl rfl (by decide) (by decide) (by decide) dX2_change_221 ?_
              refine ix_l2i hx hb dX2_change_222 ?_
              refine ix_iast (k := 1) (x := M 1) hx hb hK hP hD hS 1 0 rfl rfl (by decide) (by decide) (by decide) dX2_change_223 (fun H locs hP hD hS => ?_)
              have hP : va_P (dC, dI) vwCl [(x, .inr (2, [.int (iI 0), .ref n, .ref r, .ref d, .int (iI cn), .int (iI fc), .ref ya, .ref yb, .ref yc, .ref yo, .long (lI (X 0)), .long (lI (X 1)), .long (lI (X 2)), .long (lI (X 3)), .long (lI (X 4)), .long (lI (X 5)), .long (lI (X 6))])), (n, .inl (cI, 5, .inl (aI (iu (iu N 0 (M 0)) 1 (M 1))))), (r, .inl (cJ, 5, .inr (.inl (aL M))))] H := hP
              have hD : va_D A [(x, .inr (2, [.int (iI 0), .ref n, .ref r, .ref d, .int (iI cn), .int (iI fc), .ref ya, .ref yb, .ref yc, .ref yo, .long (lI (X 0)), .long (lI (X 1)), .long (lI (X 2)), .long (lI (X 3)), .long (lI (X 4)), .long (lI (X 5)), .long (lI (X 6))])), (n, .inl (cI, 5, .inl (aI (iu (iu N 0 (M 0)) 1 (M 1))))), (r, .inl (cJ, 5, .inr (.inl (aL M))))] := hD
              refine ix_iinc (k := 0) (lv2 := [(3, .int (iI 2)), (0, .ref x), (1, .int (iI how)), (2, .int (iI (f_deg N)))]) hx hb dX2_change_224 hl rfl (by decide) rfl (fun ls hl => ?_)
              refine lv_goto (tgt := 206) hx hb dX2_change_227 (by decide) ?_
              refine lv_iload_n hx hb dX2_change_206 rfl (lv_at hl 0 rfl) ?_
              refine ix_iconst (n := 5) hx hb dX2_change_207 ?_
              refine ix_icmp_ge (tgt := 230) hx hb dX2_change_208 (by decide) (by decide) (by decide) (fun c29 => absurd c29 (by decide)) (fun _ => ?_)
              refine lv_aload_n hx hb dX2_change_211 rfl (lv_at hl 1 rfl) ?_
              refine va_get (D := (dC, dI)) (ci := 2) (v := .ref n) (C := RX2) (T := TX2) (N := 17) hx hb hw inX2 hown hK hP 0 rfl rfl 1 (by decide) (hw _ mA_382) (fun _ h9 => h9) rfl dX2_change_212 ?_
              refine lv_iload_n hx hb dX2_change_215 rfl (lv_at hl 0 rfl) ?_
              refine lv_aload_n hx hb dX2_change_216 rfl (lv_at hl 1 rfl) ?_
              refine va_get (D := (dC, dI)) (ci := 2) (v := .ref r) (C := RX2) (T := TX2) (N := 17) hx hb hw inX2 hown hK hP 0 rfl rfl 2 (by decide) (hw _ mA_383) (fun _ h9 => h9) rfl dX2_change_217 ?_
              refine lv_iload_n hx hb dX2_change_220 rfl (lv_at hl 0 rfl) ?_
              refine ix_lald (k := 2) hx hb hK hP 2 1 rfl rfl (by decide) (by decide) (by decide) dX2_change_221 ?_
              refine ix_l2i hx hb dX2_change_222 ?_
              refine ix_iast (k := 2) (x := M 2) hx hb hK hP hD hS 1 0 rfl rfl (by decide) (by decide) (by decide) dX2_change_223 (fun H locs hP hD hS => ?_)
              have hP : va_P (dC, dI) vwCl [(x, .inr (2, [.int (iI 0), .ref n, .ref r, .ref d, .int (iI cn), .int (iI fc), .ref ya, .ref yb, .ref yc, .ref yo, .long (lI (X 0)), .long (lI (X 1)), .long (lI (X 2)), .long (lI (X 3)), .long (lI (X 4)), .long (lI (X 5)), .long (lI (X 6))])), (n, .inl (cI, 5, .inl (aI (iu (iu (iu N 0 (M 0)) 1 (M 1)) 2 (M 2))))), (r, .inl (cJ, 5, .inr (.inl (aL M))))] H := hP
              have hD : va_D A [(x, .inr (2, [.int (iI 0), .ref n, .ref r, .ref d, .int (iI cn), .int (iI fc), .ref ya, .ref yb, .ref yc, .ref yo, .long (lI (X 0)), .long (lI (X 1)), .long (lI (X 2)), .long (lI (X 3)), .long (lI (X 4)), .long (lI (X 5)), .long (lI (X 6))])), (n, .inl (cI, 5, .inl (aI (iu (iu (iu N 0 (M 0)) 1 (M 1)) 2 (M 2))))), (r, .inl (cJ, 5, .inr (.inl (aL M))))] := hD
              refine ix_iinc (k := 0) (lv2 := [(3, .int (iI 3)), (0, .ref x), (1, .int (iI how)), (2, .int (iI (f_deg N)))]) hx hb dX2_change_224 hl rfl (by decide) rfl (fun ls hl => ?_)
              refine lv_goto (tgt := 206) hx hb dX2_change_227 (by decide) ?_
              refine lv_iload_n hx hb dX2_change_206 rfl (lv_at hl 0 rfl) ?_
              refine ix_iconst (n := 5) hx hb dX2_change_207 ?_
              refine ix_icmp_ge (tgt := 230) hx hb dX2_change_208 (by decide) (by decide) (by decide) (fun c30 => absurd c30 (by decide)) (fun _ => ?_)
              refine lv_aload_n hx hb dX2_change_211 rfl (lv_at hl 1 rfl) ?_
              refine va_get (D := (dC, dI)) (ci := 2) (v := .ref n) (C := RX2) (T := TX2) (N := 17) hx hb hw inX2 hown hK hP 0 rfl rfl 1 (by decide) (hw _ mA_382) (fun _ h9 => h9) rfl dX2_change_212 ?_
              refine lv_iload_n hx hb dX2_change_215 rfl (lv_at hl 0 rfl) ?_
              refine lv_aload_n hx hb dX2_change_216 rfl (lv_at hl 1 rfl) ?_
              refine va_get (D := (dC, dI)) (ci := 2) (v := .ref r) (C := RX2) (T := TX2) (N := 17) hx hb hw inX2 hown hK hP 0 rfl rfl 2 (by decide) (hw _ mA_383) (fun _ h9 => h9) rfl dX2_change_217 ?_
              refine lv_iload_n hx hb dX2_change_220 rfl (lv_at hl 0 rfl) ?_
              refine ix_lald (k := 3) hx hb hK hP 2 1 rfl rfl (by decide) (by decide) (by decide) dX2_change_221 ?_
              refine ix_l2i hx hb dX2_change_222 ?_
              refine ix_iast (k := 3) (x := M 3) hx hb hK hP hD hS 1 0 rfl rfl (by decide) (by decide) (by decide) dX2_change_223 (fun H locs hP hD hS => ?_)
              have hP : va_P (dC, dI) vwCl [(x, .inr (2, [.int (iI 0), .ref n, .ref r, .ref d, .int (iI cn), .int (iI fc), .ref ya, .ref yb, .ref yc, .ref yo, .long (lI (X 0)), .long (lI (X 1)), .long (lI (X 2)), .long (lI (X 3)), .long (lI (X 4)), .long (lI (X 5)), .long (lI (X 6))])), (n, .inl (cI, 5, .inl (aI (iu (iu (iu (iu N 0 (M 0)) 1 (M 1)) 2 (M 2)) 3 (M 3))))), (r, .inl (cJ, 5, .inr (.inl (aL M))))] H := hP
              have hD : va_D A [(x, .inr (2, [.int (iI 0), .ref n, .ref r, .ref d, .int (iI cn), .int (iI fc), .ref ya, .ref yb, .ref yc, .ref yo, .long (lI (X 0)), .long (lI (X 1)), .long (lI (X 2)), .long (lI (X 3)), .long (lI (X 4)), .long (lI (X 5)), .long (lI (X 6))])), (n, .inl (cI, 5, .inl (aI (iu (iu (iu (iu N 0 (M 0)) 1 (M 1)) 2 (M 2)) 3 (M 3))))), (r, .inl (cJ, 5, .inr (.inl (aL M))))] := hD
              refine ix_iinc (k := 0) (lv2 := [(3, .int (iI 4)), (0, .ref x), (1, .int (iI how)), (2, .int (iI (f_deg N)))]) hx hb dX2_change_224 hl rfl (by decide) rfl (fun ls hl => ?_)
              refine lv_goto (tgt := 206) hx hb dX2_change_227 (by decide) ?_
              refine lv_iload_n hx hb dX2_change_206 rfl (lv_at hl 0 rfl) ?_
              refine ix_iconst (n := 5) hx hb dX2_change_207 ?_
              refine ix_icmp_ge (tgt := 230) hx hb dX2_change_208 (by decide) (by decide) (by decide) (fun c31 => absurd c31 (by decide)) (fun _ => ?_)
              refine lv_aload_n hx hb dX2_change_211 rfl (lv_at hl 1 rfl) ?_
              refine va_get (D := (dC, dI)) (ci := 2) (v := .ref n) (C := RX2) (T := TX2) (N := 17) hx hb hw inX2 hown hK hP 0 rfl rfl 1 (by decide) (hw _ mA_382) (fun _ h9 => h9) rfl dX2_change_212 ?_
              refine lv_iload_n hx hb dX2_change_215 rfl (lv_at hl 0 rfl) ?_
              refine lv_aload_n hx hb dX2_change_216 rfl (lv_at hl 1 rfl) ?_
              refine va_get (D := (dC, dI)) (ci := 2) (v := .ref r) (C := RX2) (T := TX2) (N := 17) hx hb hw inX2 hown hK hP 0 rfl rfl 2 (by decide) (hw _ mA_383) (fun _ h9 => h9) rfl dX2_change_217 ?_
              refine lv_iload_n hx hb dX2_change_220 rfl (lv_at hl 0 rfl) ?_
              refine ix_lald (k := 4) hx hb hK hP 2 1 rfl rfl (by decide) (by decide) (by decide) dX2_change_221 ?_
              refine ix_l2i hx hb dX2_change_222 ?_
              refine ix_iast (k := 4) (x := M 4) hx hb hK hP hD hS 1 0 rfl rfl (by decide) (by decide) (by decide) dX2_change_223 (fun H locs hP hD hS => ?_)
              have hP : va_P (dC, dI) vwCl [(x, .inr (2, [.int (iI 0), .ref n, .ref r, .ref d, .int (iI cn), .int (iI fc), .ref ya, .ref yb, .ref yc, .ref yo, .long (lI (X 0)), .long (lI (X 1)), .long (lI (X 2)), .long (lI (X 3)), .long (lI (X 4)), .long (lI (X 5)), .long (lI (X 6))])), (n, .inl (cI, 5, .inl (aI (iu (iu (iu (iu (iu N 0 (M 0)) 1 (M 1)) 2 (M 2)) 3 (M 3)) 4 (M 4))))), (r, .inl (cJ, 5, .inr (.inl (aL M))))] H := hP
              have hD : va_D A [(x, .inr (2, [.int (iI 0), .ref n, .ref r, .ref d, .int (iI cn), .int (iI fc), .ref ya, .ref yb, .ref yc, .ref yo, .long (lI (X 0)), .long (lI (X 1)), .long (lI (X 2)), .long (lI (X 3)), .long (lI (X 4)), .long (lI (X 5)), .long (lI (X 6))])), (n, .inl (cI, 5, .inl (aI (iu (iu (iu (iu (iu N 0 (M 0)) 1 (M 1)) 2 (M 2)) 3 (M 3)) 4 (M 4))))), (r, .inl (cJ, 5, .inr (.inl (aL M))))] := hD
              refine ix_iinc (k := 0) (lv2 := [(3, .int (iI 5)), (0, .ref x), (1, .int (iI how)), (2, .int (iI (f_deg N)))]) hx hb dX2_change_224 hl rfl (by decide) rfl (fun ls hl => ?_)
              refine lv_goto (tgt := 206) hx hb dX2_change_227 (by decide) ?_
              refine lv_iload_n hx hb dX2_change_206 rfl (lv_at hl 0 rfl) ?_
              refine ix_iconst (n := 5) hx hb dX2_change_207 ?_
              refine ix_icmp_ge (tgt := 230) hx hb dX2_change_208 (by decide) (by decide) (by decide) (fun _ => ?_) (fun c32 => absurd c32 (by decide))
              refine ix_iconst (n := 1) hx hb dX2_change_230 ?_
              have ea : f_all M = 1 := by unfold f_all; grind
              have ek : f_cok N how = 1 := by unfold f_cok; rw [if_neg (by omega), ← hM]; exact ea
              have en : f_cnew N how = M := (if_neg (by rw [ek]; decide)).trans hM.symm
              have e9 : iu (iu (iu (iu (iu N 0 (M 0)) 1 (M 1)) 2 (M 2)) 3 (M 3)) 4 (M 4) = f_cnew N how := (cp_fun h5 hM5).trans en.symm
              rw [e9] at hP hD
              have hP9 := hP.sub (ws' := [(x, .inr (2, [.int (iI 0), .ref n, .ref r, .ref d, .int (iI cn), .int (iI fc), .ref ya, .ref yb, .ref yc, .ref yo, .long (lI (X 0)), .long (lI (X 1)), .long (lI (X 2)), .long (lI (X 3)), .long (lI (X 4)), .long (lI (X 5)), .long (lI (X 6))])), (n, .inl (cI, 5, .inl (aI (f_cnew N how)))), (r, .inl (cJ, 5, .inr (.inl (aL M))))]) [0, 1, 2] rfl
              have hD9 := hD.sub (ws' := [(x, .inr (2, [.int (iI 0), .ref n, .ref r, .ref d, .int (iI cn), .int (iI fc), .ref ya, .ref yb, .ref yc, .ref yo, .long (lI (X 0)), .long (lI (X 1)), .long (lI (X 2)), .long (lI (X 3)), .long (lI (X 4)), .long (lI (X 5)), .long (lI (X 6))])), (n, .inl (cI, 5, .inl (aI (f_cnew N how)))), (r, .inl (cJ, 5, .inr (.inl (aL M))))]) [0, 1, 2] (by decide) rfl
              have hK9 := hK.sub (tys' := [(cI, .int), (cJ, .long)]) [0, 1] rfl
              exact W.zret (v := iI 1) hx hb hr (by decide) (fun t ht hW => ⟨⟨iI 1, (0, f_cnew N how, M), rfl, ⟨hM5, Or.inr ⟨hh, rfl, rfl, by rw [ek]⟩⟩, by rw [ht]; exact hP9, va_K.moved hW.alike hK9, hD9⟩, hS.F ht⟩) hS.2.2 dX2_change_231
            · refine ix_iconst (n := 0) hx hb dX2_change_196 ?_
              have ea : f_all M = 0 := by unfold f_all; grind
              have ek : f_cok N how = 0 := by unfold f_cok; rw [if_neg (by omega), ← hM]; exact ea
              have en : f_cnew N how = N := if_pos ek
              have hP : va_P (dC, dI) vwCl [(x, .inr (2, [.int (iI 0), .ref n, .ref r, .ref d, .int (iI cn), .int (iI fc), .ref ya, .ref yb, .ref yc, .ref yo, .long (lI (X 0)), .long (lI (X 1)), .long (lI (X 2)), .long (lI (X 3)), .long (lI (X 4)), .long (lI (X 5)), .long (lI (X 6))])), (n, .inl (cI, 5, .inl (aI (f_cnew N how)))), (r, .inl (cJ, 5, .inr (.inl (aL M))))] H := by rw [en]; exact hP
              have hD : va_D A [(x, .inr (2, [.int (iI 0), .ref n, .ref r, .ref d, .int (iI cn), .int (iI fc), .ref ya, .ref yb, .ref yc, .ref yo, .long (lI (X 0)), .long (lI (X 1)), .long (lI (X 2)), .long (lI (X 3)), .long (lI (X 4)), .long (lI (X 5)), .long (lI (X 6))])), (n, .inl (cI, 5, .inl (aI (f_cnew N how)))), (r, .inl (cJ, 5, .inr (.inl (aL M))))] := by rw [en]; exact hD
              have hP9 := hP.sub (ws' := [(x, .inr (2, [.int (iI 0), .ref n, .ref r, .ref d, .int (iI cn), .int (iI fc), .ref ya, .ref yb, .ref yc, .ref yo, .long (lI (X 0)), .long (lI (X 1)), .long (lI (X 2)), .long (lI (X 3)), .long (lI (X 4)), .long (lI (X 5)), .long (lI (X 6))])), (n, .inl (cI, 5, .inl (aI (f_cnew N how)))), (r, .inl (cJ, 5, .inr (.inl (aL M))))]) [0, 1, 2] rfl
              have hD9 := hD.sub (ws' := [(x, .inr (2, [.int (iI 0), .ref n, .ref r, .ref d, .int (iI cn), .int (iI fc), .ref ya, .ref yb, .ref yc, .ref yo, .long (lI (X 0)), .long (lI (X 1)), .long (lI (X 2)), .long (lI (X 3)), .long (lI (X 4)), .long (lI (X 5)), .long (lI (X 6))])), (n, .inl (cI, 5, .inl (aI (f_cnew N how)))), (r, .inl (cJ, 5, .inr (.inl (aL M))))]) [0, 1, 2] (by decide) rfl
              have hK9 := hK.sub (tys' := [(cI, .int), (cJ, .long)]) [0, 1] rfl
              exact W.zret (v := iI 0) hx hb hr (by decide) (fun t ht hW => ⟨⟨iI 0, (0, f_cnew N how, M), rfl, ⟨hM5, Or.inr ⟨hh, rfl, rfl, by rw [ek]⟩⟩, by rw [ht]; exact hP9, va_K.moved hW.alike hK9, hD9⟩, hS.F ht⟩) hS.2.2 dX2_change_197
          · refine ix_iconst (n := 0) hx hb dX2_change_196 ?_
            have ea : f_all M = 0 := by unfold f_all; grind
            have ek : f_cok N how = 0 := by unfold f_cok; rw [if_neg (by omega), ← hM]; exact ea
            have en : f_cnew N how = N := if_pos ek
            have hP : va_P (dC, dI) vwCl [(x, .inr (2, [.int (iI 0), .ref n, .ref r, .ref d, .int (iI cn), .int (iI fc), .ref ya, .ref yb, .ref yc, .ref yo, .long (lI (X 0)), .long (lI (X 1)), .long (lI (X 2)), .long (lI (X 3)), .long (lI (X 4)), .long (lI (X 5)), .long (lI (X 6))])), (n, .inl (cI, 5, .inl (aI (f_cnew N how)))), (r, .inl (cJ, 5, .inr (.inl (aL M))))] H := by rw [en]; exact hP
            have hD : va_D A [(x, .inr (2, [.int (iI 0), .ref n, .ref r, .ref d, .int (iI cn), .int (iI fc), .ref ya, .ref yb, .ref yc, .ref yo, .long (lI (X 0)), .long (lI (X 1)), .long (lI (X 2)), .long (lI (X 3)), .long (lI (X 4)), .long (lI (X 5)), .long (lI (X 6))])), (n, .inl (cI, 5, .inl (aI (f_cnew N how)))), (r, .inl (cJ, 5, .inr (.inl (aL M))))] := by rw [en]; exact hD
            have hP9 := hP.sub (ws' := [(x, .inr (2, [.int (iI 0), .ref n, .ref r, .ref d, .int (iI cn), .int (iI fc), .ref ya, .ref yb, .ref yc, .ref yo, .long (lI (X 0)), .long (lI (X 1)), .long (lI (X 2)), .long (lI (X 3)), .long (lI (X 4)), .long (lI (X 5)), .long (lI (X 6))])), (n, .inl (cI, 5, .inl (aI (f_cnew N how)))), (r, .inl (cJ, 5, .inr (.inl (aL M))))]) [0, 1, 2] rfl
            have hD9 := hD.sub (ws' := [(x, .inr (2, [.int (iI 0), .ref n, .ref r, .ref d, .int (iI cn), .int (iI fc), .ref ya, .ref yb, .ref yc, .ref yo, .long (lI (X 0)), .long (lI (X 1)), .long (lI (X 2)), .long (lI (X 3)), .long (lI (X 4)), .long (lI (X 5)), .long (lI (X 6))])), (n, .inl (cI, 5, .inl (aI (f_cnew N how)))), (r, .inl (cJ, 5, .inr (.inl (aL M))))]) [0, 1, 2] (by decide) rfl
            have hK9 := hK.sub (tys' := [(cI, .int), (cJ, .long)]) [0, 1] rfl
            exact W.zret (v := iI 0) hx hb hr (by decide) (fun t ht hW => ⟨⟨iI 0, (0, f_cnew N how, M), rfl, ⟨hM5, Or.inr ⟨hh, rfl, rfl, by rw [ek]⟩⟩, by rw [ht]; exact hP9, va_K.moved hW.alike hK9, hD9⟩, hS.F ht⟩) hS.2.2 dX2_change_197
        · refine ix_iconst (n := 0) hx hb dX2_change_196 ?_
          have ea : f_all M = 0 := by unfold f_all; grind
          have ek : f_cok N how = 0 := by unfold f_cok; rw [if_neg (by omega), ← hM]; exact ea
          have en : f_cnew N how = N := if_pos ek
          have hP : va_P (dC, dI) vwCl [(x, .inr (2, [.int (iI 0), .ref n, .ref r, .ref d, .int (iI cn), .int (iI fc), .ref ya, .ref yb, .ref yc, .ref yo, .long (lI (X 0)), .long (lI (X 1)), .long (lI (X 2)), .long (lI (X 3)), .long (lI (X 4)), .long (lI (X 5)), .long (lI (X 6))])), (n, .inl (cI, 5, .inl (aI (f_cnew N how)))), (r, .inl (cJ, 5, .inr (.inl (aL M))))] H := by rw [en]; exact hP
          have hD : va_D A [(x, .inr (2, [.int (iI 0), .ref n, .ref r, .ref d, .int (iI cn), .int (iI fc), .ref ya, .ref yb, .ref yc, .ref yo, .long (lI (X 0)), .long (lI (X 1)), .long (lI (X 2)), .long (lI (X 3)), .long (lI (X 4)), .long (lI (X 5)), .long (lI (X 6))])), (n, .inl (cI, 5, .inl (aI (f_cnew N how)))), (r, .inl (cJ, 5, .inr (.inl (aL M))))] := by rw [en]; exact hD
          have hP9 := hP.sub (ws' := [(x, .inr (2, [.int (iI 0), .ref n, .ref r, .ref d, .int (iI cn), .int (iI fc), .ref ya, .ref yb, .ref yc, .ref yo, .long (lI (X 0)), .long (lI (X 1)), .long (lI (X 2)), .long (lI (X 3)), .long (lI (X 4)), .long (lI (X 5)), .long (lI (X 6))])), (n, .inl (cI, 5, .inl (aI (f_cnew N how)))), (r, .inl (cJ, 5, .inr (.inl (aL M))))]) [0, 1, 2] rfl
          have hD9 := hD.sub (ws' := [(x, .inr (2, [.int (iI 0), .ref n, .ref r, .ref d, .int (iI cn), .int (iI fc), .ref ya, .ref yb, .ref yc, .ref yo, .long (lI (X 0)), .long (lI (X 1)), .long (lI (X 2)), .long (lI (X 3)), .long (lI (X 4)), .long (lI (X 5)), .long (lI (X 6))])), (n, .inl (cI, 5, .inl (aI (f_cnew N how)))), (r, .inl (cJ, 5, .inr (.inl (aL M))))]) [0, 1, 2] (by decide) rfl
          have hK9 := hK.sub (tys' := [(cI, .int), (cJ, .long)]) [0, 1] rfl
          exact W.zret (v := iI 0) hx hb hr (by decide) (fun t ht hW => ⟨⟨iI 0, (0, f_cnew N how, M), rfl, ⟨hM5, Or.inr ⟨hh, rfl, rfl, by rw [ek]⟩⟩, by rw [ht]; exact hP9, va_K.moved hW.alike hK9, hD9⟩, hS.F ht⟩) hS.2.2 dX2_change_197
      · refine ix_iconst (n := 0) hx hb dX2_change_196 ?_
        have ea : f_all M = 0 := by unfold f_all; grind
        have ek : f_cok N how = 0 := by unfold f_cok; rw [if_neg (by omega), ← hM]; exact ea
        have en : f_cnew N how = N := if_pos ek
        have hP : va_P (dC, dI) vwCl [(x, .inr (2, [.int (iI 0), .ref n, .ref r, .ref d, .int (iI cn), .int (iI fc), .ref ya, .ref yb, .ref yc, .ref yo, .long (lI (X 0)), .long (lI (X 1)), .long (lI (X 2)), .long (lI (X 3)), .long (lI (X 4)), .long (lI (X 5)), .long (lI (X 6))])), (n, .inl (cI, 5, .inl (aI (f_cnew N how)))), (r, .inl (cJ, 5, .inr (.inl (aL M))))] H := by rw [en]; exact hP
        have hD : va_D A [(x, .inr (2, [.int (iI 0), .ref n, .ref r, .ref d, .int (iI cn), .int (iI fc), .ref ya, .ref yb, .ref yc, .ref yo, .long (lI (X 0)), .long (lI (X 1)), .long (lI (X 2)), .long (lI (X 3)), .long (lI (X 4)), .long (lI (X 5)), .long (lI (X 6))])), (n, .inl (cI, 5, .inl (aI (f_cnew N how)))), (r, .inl (cJ, 5, .inr (.inl (aL M))))] := by rw [en]; exact hD
        have hP9 := hP.sub (ws' := [(x, .inr (2, [.int (iI 0), .ref n, .ref r, .ref d, .int (iI cn), .int (iI fc), .ref ya, .ref yb, .ref yc, .ref yo, .long (lI (X 0)), .long (lI (X 1)), .long (lI (X 2)), .long (lI (X 3)), .long (lI (X 4)), .long (lI (X 5)), .long (lI (X 6))])), (n, .inl (cI, 5, .inl (aI (f_cnew N how)))), (r, .inl (cJ, 5, .inr (.inl (aL M))))]) [0, 1, 2] rfl
        have hD9 := hD.sub (ws' := [(x, .inr (2, [.int (iI 0), .ref n, .ref r, .ref d, .int (iI cn), .int (iI fc), .ref ya, .ref yb, .ref yc, .ref yo, .long (lI (X 0)), .long (lI (X 1)), .long (lI (X 2)), .long (lI (X 3)), .long (lI (X 4)), .long (lI (X 5)), .long (lI (X 6))])), (n, .inl (cI, 5, .inl (aI (f_cnew N how)))), (r, .inl (cJ, 5, .inr (.inl (aL M))))]) [0, 1, 2] (by decide) rfl
        have hK9 := hK.sub (tys' := [(cI, .int), (cJ, .long)]) [0, 1] rfl
        exact W.zret (v := iI 0) hx hb hr (by decide) (fun t ht hW => ⟨⟨iI 0, (0, f_cnew N how, M), rfl, ⟨hM5, Or.inr ⟨hh, rfl, rfl, by rw [ek]⟩⟩, by rw [ht]; exact hP9, va_K.moved hW.alike hK9, hD9⟩, hS.F ht⟩) hS.2.2 dX2_change_197
    · refine ix_iconst (n := 0) hx hb dX2_change_196 ?_
      have ea : f_all M = 0 := by unfold f_all; grind
      have ek : f_cok N how = 0 := by unfold f_cok; rw [if_neg (by omega), ← hM]; exact ea
      have en : f_cnew N how = N := if_pos ek
      have hP : va_P (dC, dI) vwCl [(x, .inr (2, [.int (iI 0), .ref n, .ref r, .ref d, .int (iI cn), .int (iI fc), .ref ya, .ref yb, .ref yc, .ref yo, .long (lI (X 0)), .long (lI (X 1)), .long (lI (X 2)), .long (lI (X 3)), .long (lI (X 4)), .long (lI (X 5)), .long (lI (X 6))])), (n, .inl (cI, 5, .inl (aI (f_cnew N how)))), (r, .inl (cJ, 5, .inr (.inl (aL M))))] H := by rw [en]; exact hP
      have hD : va_D A [(x, .inr (2, [.int (iI 0), .ref n, .ref r, .ref d, .int (iI cn), .int (iI fc), .ref ya, .ref yb, .ref yc, .ref yo, .long (lI (X 0)), .long (lI (X 1)), .long (lI (X 2)), .long (lI (X 3)), .long (lI (X 4)), .long (lI (X 5)), .long (lI (X 6))])), (n, .inl (cI, 5, .inl (aI (f_cnew N how)))), (r, .inl (cJ, 5, .inr (.inl (aL M))))] := by rw [en]; exact hD
      have hP9 := hP.sub (ws' := [(x, .inr (2, [.int (iI 0), .ref n, .ref r, .ref d, .int (iI cn), .int (iI fc), .ref ya, .ref yb, .ref yc, .ref yo, .long (lI (X 0)), .long (lI (X 1)), .long (lI (X 2)), .long (lI (X 3)), .long (lI (X 4)), .long (lI (X 5)), .long (lI (X 6))])), (n, .inl (cI, 5, .inl (aI (f_cnew N how)))), (r, .inl (cJ, 5, .inr (.inl (aL M))))]) [0, 1, 2] rfl
      have hD9 := hD.sub (ws' := [(x, .inr (2, [.int (iI 0), .ref n, .ref r, .ref d, .int (iI cn), .int (iI fc), .ref ya, .ref yb, .ref yc, .ref yo, .long (lI (X 0)), .long (lI (X 1)), .long (lI (X 2)), .long (lI (X 3)), .long (lI (X 4)), .long (lI (X 5)), .long (lI (X 6))])), (n, .inl (cI, 5, .inl (aI (f_cnew N how)))), (r, .inl (cJ, 5, .inr (.inl (aL M))))]) [0, 1, 2] (by decide) rfl
      have hK9 := hK.sub (tys' := [(cI, .int), (cJ, .long)]) [0, 1] rfl
      exact W.zret (v := iI 0) hx hb hr (by decide) (fun t ht hW => ⟨⟨iI 0, (0, f_cnew N how, M), rfl, ⟨hM5, Or.inr ⟨hh, rfl, rfl, by rw [ek]⟩⟩, by rw [ht]; exact hP9, va_K.moved hW.alike hK9, hD9⟩, hS.F ht⟩) hS.2.2 dX2_change_197
set_option maxHeartbeats 4000000 in
set_option maxRecDepth 100000 in
theorem kX2_change (l : Launch) (dC : Nat → ClassId) (dI : Nat → Nat → Nat) (sz : Nat) (x n r d ya yb yc yo : Nat) (cI cJ : ClassId) (cd cn fc : Int) (X : Int → Int) (N R : Int → Int) (hN : ∀ j, -20 ≤ N j ∧ N j ≤ 20) (h5 : n5 N) (hR5 : n5 R) (how : Int) (hh9 : r32 how) : Met l yX2_change (.code yX2_change cX2_change 5 (some .boolean) :: wsA) ({ frames := 2, cells := 0, slots := 0, locals := 80 }) (va_Pc [.ref x, .int (iI how)] (fun U => U.heap.size = sz ∧ va_P (dC, dI) vwCl [(x, .inr (2, [.int (iI cd), .ref n, .ref r, .ref d, .int (iI cn), .int (iI fc), .ref ya, .ref yb, .ref yc, .ref yo, .long (lI (X 0)), .long (lI (X 1)), .long (lI (X 2)), .long (lI (X 3)), .long (lI (X 4)), .long (lI (X 5)), .long (lI (X 6))])), (n, .inl (cI, 5, .inl (aI N))), (r, .inl (cJ, 5, .inr (.inl (aL R))))] U.heap ∧ va_K (dC, dI) vwCl [(cI, .int), (cJ, .long)] U ∧ va_D (fun _ => True) [(x, .inr (2, [.int (iI cd), .ref n, .ref r, .ref d, .int (iI cn), .int (iI fc), .ref ya, .ref yb, .ref yc, .ref yo, .long (lI (X 0)), .long (lI (X 1)), .long (lI (X 2)), .long (lI (X 3)), .long (lI (X 4)), .long (lI (X 5)), .long (lI (X 6))])), (n, .inl (cI, 5, .inl (aI N))), (r, .inl (cJ, 5, .inr (.inl (aL R))))] ∧ nb U)) (va_Qi (fun r9 u => n5 u.2.2 ∧ ((¬ (-1 ≤ how ∧ how ≤ 2) ∧ u.1 = 1 ∧ u.2.1 = N) ∨ ((-1 ≤ how ∧ how ≤ 2) ∧ u.1 = 0 ∧ u.2.1 = f_cnew N how ∧ r9 = iI (f_cok N how)))) (fun (u : Int × (Int → Int) × (Int → Int)) t9 => va_P (dC, dI) vwCl [(x, .inr (2, [.int (iI u.1), .ref n, .ref r, .ref d, .int (iI cn), .int (iI fc), .ref ya, .ref yb, .ref yc, .ref yo, .long (lI (X 0)), .long (lI (X 1)), .long (lI (X 2)), .long (lI (X 3)), .long (lI (X 4)), .long (lI (X 5)), .long (lI (X 6))])), (n, .inl (cI, 5, .inl (aI u.2.1))), (r, .inl (cJ, 5, .inr (.inl (aL u.2.2))))] t9.heap ∧ va_K (dC, dI) vwCl [(cI, .int), (cJ, .long)] t9 ∧ va_D (va_A [(x, .inr (2, [.int (iI cd), .ref n, .ref r, .ref d, .int (iI cn), .int (iI fc), .ref ya, .ref yb, .ref yc, .ref yo, .long (lI (X 0)), .long (lI (X 1)), .long (lI (X 2)), .long (lI (X 3)), .long (lI (X 4)), .long (lI (X 5)), .long (lI (X 6))])), (n, .inl (cI, 5, .inl (aI N))), (r, .inl (cJ, 5, .inr (.inl (aL R))))] sz) [(x, .inr (2, [.int (iI u.1), .ref n, .ref r, .ref d, .int (iI cn), .int (iI fc), .ref ya, .ref yb, .ref yc, .ref yo, .long (lI (X 0)), .long (lI (X 1)), .long (lI (X 2)), .long (lI (X 3)), .long (lI (X 4)), .long (lI (X 5)), .long (lI (X 6))])), (n, .inl (cI, 5, .inl (aI u.2.1))), (r, .inl (cJ, 5, .inr (.inl (aL u.2.2))))]) (va_A [(x, .inr (2, [.int (iI cd), .ref n, .ref r, .ref d, .int (iI cn), .int (iI fc), .ref ya, .ref yb, .ref yc, .ref yo, .long (lI (X 0)), .long (lI (X 1)), .long (lI (X 2)), .long (lI (X 3)), .long (lI (X 4)), .long (lI (X 5)), .long (lI (X 6))])), (n, .inl (cI, 5, .inl (aI N))), (r, .inl (cJ, 5, .inr (.inl (aL R))))] sz)) 0 0 (va_A [(x, .inr (2, [.int (iI cd), .ref n, .ref r, .ref d, .int (iI cn), .int (iI fc), .ref ya, .ref yb, .ref yc, .ref yo, .long (lI (X 0)), .long (lI (X 1)), .long (lI (X 2)), .long (lI (X 3)), .long (lI (X 4)), .long (lI (X 5)), .long (lI (X 6))])), (n, .inl (cI, 5, .inl (aI N))), (r, .inl (cJ, 5, .inr (.inl (aL R))))] sz) := by
  refine Met.ofW (cc := cX2_change) (maxL := 5) (ret := (some .boolean)) (by decide) rfl ?_
  intro p e s m args below meth c s₁ B hml hv
  obtain ⟨rfl, hsz, hP, hK, hD0, hnb⟩ := hv
  have hx := B.exec
  have hb := B.bytes
  have hr := B.returns
  have hts := atoms_spec (ws := .code yX2_change cX2_change 5 (some .boolean) :: wsA) B.pre
  have hw : ∀ w ∈ wsA, w.before _ s = true := fun w h => hts w (List.mem_cons_of_mem _ h)
  have hown : s.vm.findClass RX2 = some m.cls := findClass_of_methodNamed B.named
  have hlocks := B.notSynchronized
  subst hsz
  have hD := hD0.self (sz := s.heap.size)
  generalize hAe : va_A [(x, .inr (2, [.int (iI cd), .ref n, .ref r, .ref d, .int (iI cn), .int (iI fc), .ref ya, .ref yb, .ref yc, .ref yo, .long (lI (X 0)), .long (lI (X 1)), .long (lI (X 2)), .long (lI (X 3)), .long (lI (X 4)), .long (lI (X 5)), .long (lI (X 6))])), (n, .inl (cI, 5, .inl (aI N))), (r, .inl (cJ, 5, .inr (.inl (aL R))))] s.heap.size = A at hD ⊢
  have hA : ∀ q : Nat, s.heap.size ≤ q → A q := fun q h => by rw [← hAe]; exact Or.inr h
  have hS : va_S A s.heap s.heap [] := va_S.rf
  have hP : va_P (dC, dI) vwCl [(x, .inr (2, [.int (iI cd), .ref n, .ref r, .ref d, .int (iI cn), .int (iI fc), .ref ya, .ref yb, .ref yc, .ref yo, .long (lI (X 0)), .long (lI (X 1)), .long (lI (X 2)), .long (lI (X 3)), .long (lI (X 4)), .long (lI (X 5)), .long (lI (X 6))])), (n, .inl (cI, 5, .inl (aI N))), (r, .inl (cJ, 5, .inr (.inl (aL R))))] s.heap := hP
  have hl := lv_entry ([.ref x, .int (iI how)]) (n := 5) (Nat.le_of_ble_eq_true rfl)
  rw [lg_entry_eq]
  generalize (lg_sl ([.ref x, .int (iI how)]) ++ List.replicate (5 - (lg_sl ([.ref x, .int (iI how)])).length) Slot.unset).toArray = ls at hl ⊢
  have hl : lv_has ls 5 [(0, .ref x), (1, .int (iI how))] := hl
  refine lv_aload_n hx hb dX2_change_0 rfl (lv_at hl 0 rfl) ?_
  refine lv_iload_n hx hb dX2_change_1 rfl (lv_at hl 1 rfl) ?_
  refine ix_i2l hx hb dX2_change_2 (by omega) ?_
  refine ix_ldc2 (z := (-1)) hx hb hown (hw _ mA_460) rfl dX2_change_3 ?_
  refine ix_ldc2 (z := 2) hx hb hown (hw _ mA_461) rfl dX2_change_6 ?_
  refine vp_callSi (W.runS (As := [.long (lI how), .long (lI (-1)), .long (lI 2)]) (rest := [.ref x]) ⟨hx, hb, hml, hown, hw⟩ (kX2_in l how (-1) 2 ⟨by omega, by omega⟩ (by decide) (by decide)) (cwS 3 hw (gS mA_443 mA_444 mA_3 mA_445) rfl rfl rfl (by decide +kernel) ⟨Nat.le_of_ble_eq_true rfl, Nat.le_of_ble_eq_true rfl⟩) preEq rfl rfl hl.1 rfl (lv_room (Nat.le_of_ble_eq_true rfl)) dX2_change_9 ⟨Nat.le_of_ble_eq_true rfl, Nat.le_of_ble_eq_true rfl⟩) (fun r1 h2 => ?_)
  subst h2
  have hin3 : f_in how (-1) 2 = if (-1) ≤ how ∧ how ≤ 2 then 1 else 0 := rfl
  refine ix_if_eq (tgt := 19) hx hb dX2_change_12 (by decide) (by unfold f_in; grind) (fun c4 => ?_) (fun c4 => ?_)
  · refine ix_iconst (n := 1) hx hb dX2_change_19 ?_
    refine va_put (D := (dC, dI)) (ci := 2) (v := .int (iI 1)) (ty := .int) (C := RX2) (T := TX2) (N := 17) hx hb hw inX2 tyX2 tyX2_ok nmX2 hown hK hP hD hS 0 rfl rfl 0 (by decide) (hw _ mA_381) (fun _ h9 => h9) rfl (by decide +kernel) rfl rfl (Nat.le_of_ble_eq_true rfl) dX2_change_20 (fun H locs hP hD hS => ?_)
    have hP : va_P (dC, dI) vwCl [(x, .inr (2, [.int (iI 1), .ref n, .ref r, .ref d, .int (iI cn), .int (iI fc), .ref ya, .ref yb, .ref yc, .ref yo, .long (lI (X 0)), .long (lI (X 1)), .long (lI (X 2)), .long (lI (X 3)), .long (lI (X 4)), .long (lI (X 5)), .long (lI (X 6))])), (n, .inl (cI, 5, .inl (aI N))), (r, .inl (cJ, 5, .inr (.inl (aL R))))] H := hP
    have hD : va_D A [(x, .inr (2, [.int (iI 1), .ref n, .ref r, .ref d, .int (iI cn), .int (iI fc), .ref ya, .ref yb, .ref yc, .ref yo, .long (lI (X 0)), .long (lI (X 1)), .long (lI (X 2)), .long (lI (X 3)), .long (lI (X 4)), .long (lI (X 5)), .long (lI (X 6))])), (n, .inl (cI, 5, .inl (aI N))), (r, .inl (cJ, 5, .inr (.inl (aL R))))] := hD
    refine lv_aload_n hx hb dX2_change_23 rfl (lv_at hl 0 rfl) ?_
    have hPc := hP.sub (ws' := [(x, .inr (2, [.int (iI 1), .ref n, .ref r, .ref d, .int (iI cn), .int (iI fc), .ref ya, .ref yb, .ref yc, .ref yo, .long (lI (X 0)), .long (lI (X 1)), .long (lI (X 2)), .long (lI (X 3)), .long (lI (X 4)), .long (lI (X 5)), .long (lI (X 6))])), (n, .inl (cI, 5, .inl (aI N)))]) [0, 1] rfl
    have hKc := hK.sub (tys' := [(cI, .int)]) [0] rfl
    refine vp_callSi (W.runV (As := []) (rest := []) ⟨hx, hb, hml, hown, hw⟩ (kX2_degree l dC dI x n r d ya yb yc yo cI cJ 1 cn fc X N hN) (cwV 0 hw (gV mA_462 mA_464 mP_18 mA_3 mA_465) rfl rfl rfl (by decide +kernel) ⟨Nat.le_of_ble_eq_true rfl, Nat.le_of_ble_eq_true rfl⟩) ⟨fun a U g mk q => by obtain ⟨q0, qP, qK⟩ := q; exact ⟨q0, qP, va_K.moved (u := U) (U := U.calling g mk a) (Vm.Alike.refl U.vm) qK⟩, va_recv hKc hPc (ci := 2) (q0 := 0) rfl rfl, fun U hU hW => ⟨rfl, by rw [hU]; exact hPc, va_K.moved hW.alike hKc⟩⟩ rfl rfl hl.1 rfl (lv_room (Nat.le_of_ble_eq_true rfl)) dX2_change_24 ⟨Nat.le_of_ble_eq_true rfl, Nat.le_of_ble_eq_true rfl⟩) (fun r5 h6 => ?_)
    subst h6
    have hdc := deg_c N
    refine lv_istore_n (lv' := [(2, .int (iI (f_deg N))), (0, .ref x), (1, .int (iI how))]) hx hb dX2_change_27 rfl hl (by decide) rfl (fun ls hl => ?_)
    refine lv_aload_n hx hb dX2_change_28 rfl (lv_at hl 1 rfl) ?_
    refine va_get (D := (dC, dI)) (ci := 2) (v := .int (iI 1)) (C := RX2) (T := TX2) (N := 17) hx hb hw inX2 hown hK hP 0 rfl rfl 0 (by decide) (hw _ mA_381) (fun _ h9 => h9) rfl dX2_change_29 ?_
    refine ix_if_gt (tgt := 39) hx hb dX2_change_32 (by decide) (by decide) (fun _ => ?_) (fun c7 => absurd c7 (by decide))
    refine ix_iconst (n := 0) hx hb dX2_change_39 ?_
    have hP9 := hP.sub (ws' := [(x, .inr (2, [.int (iI 1), .ref n, .ref r, .ref d, .int (iI cn), .int (iI fc), .ref ya, .ref yb, .ref yc, .ref yo, .long (lI (X 0)), .long (lI (X 1)), .long (lI (X 2)), .long (lI (X 3)), .long (lI (X 4)), .long (lI (X 5)), .long (lI (X 6))])), (n, .inl (cI, 5, .inl (aI N))), (r, .inl (cJ, 5, .inr (.inl (aL R))))]) [0, 1, 2] rfl
    have hD9 := hD.sub (ws' := [(x, .inr (2, [.int (iI 1), .ref n, .ref r, .ref d, .int (iI cn), .int (iI fc), .ref ya, .ref yb, .ref yc, .ref yo, .long (lI (X 0)), .long (lI (X 1)), .long (lI (X 2)), .long (lI (X 3)), .long (lI (X 4)), .long (lI (X 5)), .long (lI (X 6))])), (n, .inl (cI, 5, .inl (aI N))), (r, .inl (cJ, 5, .inr (.inl (aL R))))]) [0, 1, 2] (by decide) rfl
    have hK9 := hK.sub (tys' := [(cI, .int), (cJ, .long)]) [0, 1] rfl
    exact W.zret (v := iI 0) hx hb hr (by decide) (fun t ht hW => ⟨⟨iI 0, (1, N, R), rfl, ⟨hR5, Or.inl ⟨by omega, rfl, rfl⟩⟩, by rw [ht]; exact hP9, va_K.moved hW.alike hK9, hD9⟩, hS.F ht⟩) hS.2.2 dX2_change_40
  · refine ix_iconst (n := 0) hx hb dX2_change_15 ?_
    refine lv_goto (tgt := 20) hx hb dX2_change_16 (by decide) ?_
    refine va_put (D := (dC, dI)) (ci := 2) (v := .int (iI 0)) (ty := .int) (C := RX2) (T := TX2) (N := 17) hx hb hw inX2 tyX2 tyX2_ok nmX2 hown hK hP hD hS 0 rfl rfl 0 (by decide) (hw _ mA_381) (fun _ h9 => h9) rfl (by decide +kernel) rfl rfl (Nat.le_of_ble_eq_true rfl) dX2_change_20 (fun H locs hP hD hS => ?_)
    have hP : va_P (dC, dI) vwCl [(x, .inr (2, [.int (iI 0), .ref n, .ref r, .ref d, .int (iI cn), .int (iI fc), .ref ya, .ref yb, .ref yc, .ref yo, .long (lI (X 0)), .long (lI (X 1)), .long (lI (X 2)), .long (lI (X 3)), .long (lI (X 4)), .long (lI (X 5)), .long (lI (X 6))])), (n, .inl (cI, 5, .inl (aI N))), (r, .inl (cJ, 5, .inr (.inl (aL R))))] H := hP
    have hD : va_D A [(x, .inr (2, [.int (iI 0), .ref n, .ref r, .ref d, .int (iI cn), .int (iI fc), .ref ya, .ref yb, .ref yc, .ref yo, .long (lI (X 0)), .long (lI (X 1)), .long (lI (X 2)), .long (lI (X 3)), .long (lI (X 4)), .long (lI (X 5)), .long (lI (X 6))])), (n, .inl (cI, 5, .inl (aI N))), (r, .inl (cJ, 5, .inr (.inl (aL R))))] := hD
    refine lv_aload_n hx hb dX2_change_23 rfl (lv_at hl 0 rfl) ?_
    have hPc := hP.sub (ws' := [(x, .inr (2, [.int (iI 0), .ref n, .ref r, .ref d, .int (iI cn), .int (iI fc), .ref ya, .ref yb, .ref yc, .ref yo, .long (lI (X 0)), .long (lI (X 1)), .long (lI (X 2)), .long (lI (X 3)), .long (lI (X 4)), .long (lI (X 5)), .long (lI (X 6))])), (n, .inl (cI, 5, .inl (aI N)))]) [0, 1] rfl
    have hKc := hK.sub (tys' := [(cI, .int)]) [0] rfl
    refine vp_callSi (W.runV (As := []) (rest := []) ⟨hx, hb, hml, hown, hw⟩ (kX2_degree l dC dI x n r d ya yb yc yo cI cJ 0 cn fc X N hN) (cwV 0 hw (gV mA_462 mA_464 mP_18 mA_3 mA_465) rfl rfl rfl (by decide +kernel) ⟨Nat.le_of_ble_eq_true rfl, Nat.le_of_ble_eq_true rfl⟩) ⟨fun a U g mk q => by obtain ⟨q0, qP, qK⟩ := q; exact ⟨q0, qP, va_K.moved (u := U) (U := U.calling g mk a) (Vm.Alike.refl U.vm) qK⟩, va_recv hKc hPc (ci := 2) (q0 := 0) rfl rfl, fun U hU hW => ⟨rfl, by rw [hU]; exact hPc, va_K.moved hW.alike hKc⟩⟩ rfl rfl hl.1 rfl (lv_room (Nat.le_of_ble_eq_true rfl)) dX2_change_24 ⟨Nat.le_of_ble_eq_true rfl, Nat.le_of_ble_eq_true rfl⟩) (fun r8 h9 => ?_)
    subst h9
    have hdc := deg_c N
    refine lv_istore_n (lv' := [(2, .int (iI (f_deg N))), (0, .ref x), (1, .int (iI how))]) hx hb dX2_change_27 rfl hl (by decide) rfl (fun ls hl => ?_)
    refine lv_aload_n hx hb dX2_change_28 rfl (lv_at hl 1 rfl) ?_
    refine va_get (D := (dC, dI)) (ci := 2) (v := .int (iI 0)) (C := RX2) (T := TX2) (N := 17) hx hb hw inX2 hown hK hP 0 rfl rfl 0 (by decide) (hw _ mA_381) (fun _ h9 => h9) rfl dX2_change_29 ?_
    refine ix_if_gt (tgt := 39) hx hb dX2_change_32 (by decide) (by decide) (fun c10 => absurd c10 (by decide)) (fun _ => ?_)
    refine lv_iload_n hx hb dX2_change_35 rfl (lv_at hl 0 rfl) ?_
    refine ix_if_ge (tgt := 41) hx hb dX2_change_36 (by decide) (by omega) (fun c11 => ?_) (fun c11 => ?_)
    · refine ix_iconst (n := 0) hx hb dX2_change_41 ?_
      refine lv_istore_n (lv' := [(3, .int (iI 0)), (2, .int (iI (f_deg N))), (0, .ref x), (1, .int (iI how))]) hx hb dX2_change_42 rfl hl (by decide) rfl (fun ls hl => ?_)
      have hdeg : 0 ≤ f_deg N := by omega
      have hh : -1 ≤ how ∧ how ≤ 2 := by omega
      rcases (show how = 2 ∨ how = 0 ∨ how = 1 ∨ how = -1 by omega) with rfl | rfl | rfl | rfl
      · rcases (show f_deg N = 0 ∨ f_deg N = 1 ∨ f_deg N = 2 ∨ f_deg N = 3 ∨ f_deg N = 4 by omega) with hg | hg | hg | hg | hg
        · rw [hg] at hl
          refine lv_iload_n hx hb dX2_change_43 rfl (lv_at hl 0 rfl) ?_
          refine ix_iconst (n := 5) hx hb dX2_change_44 ?_
          refine ix_icmp_ge (tgt := 111) hx hb dX2_change_45 (by decide) (by decide) (by decide) (fun c12 => absurd c12 (by decide)) (fun _ => ?_)
          refine lv_aload_n hx hb dX2_change_48 rfl (lv_at hl 2 rfl) ?_
          refine va_get (D := (dC, dI)) (ci := 2) (v := .ref r) (C := RX2) (T := TX2) (N := 17) hx hb hw inX2 hown hK hP 0 rfl rfl 2 (by decide) (hw _ mA_383) (fun _ h9 => h9) rfl dX2_change_49 ?_
          refine lv_iload_n hx hb dX2_change_52 rfl (lv_at hl 0 rfl) ?_
          refine lv_iload_n hx hb dX2_change_53 rfl (lv_at hl 3 rfl) ?_
          refine ix_iconst (n := 2) hx hb dX2_change_54 ?_
          refine ix_icmp_ne (tgt := 75) hx hb dX2_change_55 (by decide) (by decide) (by decide) (fun c13 => absurd c13 (by decide)) (fun _ => ?_)
          refine lv_iload_n hx hb dX2_change_58 rfl (lv_at hl 0 rfl) ?_
          refine lv_iload_n hx hb dX2_change_59 rfl (lv_at hl 1 rfl) ?_
          refine ix_icmp_gt (tgt := 75) hx hb dX2_change_60 (by decide) (by decide) (by decide) (fun c14 => absurd c14 (by decide)) (fun _ => ?_)
          refine lv_aload_n hx hb dX2_change_63 rfl (lv_at hl 2 rfl) ?_
          refine va_get (D := (dC, dI)) (ci := 2) (v := .ref n) (C := RX2) (T := TX2) (N := 17) hx hb hw inX2 hown hK hP 0 rfl rfl 1 (by decide) (hw _ mA_382) (fun _ h9 => h9) rfl dX2_change_64 ?_
          refine lv_iload_n hx hb dX2_change_67 rfl (lv_at hl 1 rfl) ?_
          refine lv_iload_n hx hb dX2_change_68 rfl (lv_at hl 0 rfl) ?_
          refine ix_isub hx hb dX2_change_69 ?_
          refine ix_z (y := 0) rfl ?_
          refine ix_iald (k := 0) hx hb hK hP 1 0 rfl rfl (by decide) (by decide) (by decide) dX2_change_70 ?_
          refine ix_i2l hx hb dX2_change_71 (by have := hN 0; omega) ?_
          refine lv_goto (tgt := 104) hx hb dX2_change_72 (by decide) ?_
          refine ix_last (k := 0) (x := N 0) hx hb hK hP hD hS 2 1 rfl rfl (by decide) (by decide) (by decide) dX2_change_104 (fun H locs hP hD hS => ?_)
          have hP : va_P (dC, dI) vwCl [(x, .inr (2, [.int (iI 0), .ref n, .ref r, .ref d, .int (iI cn), .int (iI fc), .ref ya, .ref yb, .ref yc, .ref yo, .long (lI (X 0)), .long (lI (X 1)), .long (lI (X 2)), .long (lI (X 3)), .long (lI (X 4)), .long (lI (X 5)), .long (lI (X 6))])), (n, .inl (cI, 5, .inl (aI N))), (r, .inl (cJ, 5, .inr (.inl (aL (iu R 0 (N 0))))))] H := hP
          have hD : va_D A [(x, .inr (2, [.int (iI 0), .ref n, .ref r, .ref d, .int (iI cn), .int (iI fc), .ref ya, .ref yb, .ref yc, .ref yo, .long (lI (X 0)), .long (lI (X 1)), .long (lI (X 2)), .long (lI (X 3)), .long (lI (X 4)), .long (lI (X 5)), .long (lI (X 6))])), (n, .inl (cI, 5, .inl (aI N))), (r, .inl (cJ, 5, .inr (.inl (aL (iu R 0 (N 0))))))] := hD
          refine ix_iinc (k := 0) (lv2 := [(3, .int (iI 1)), (2, .int (iI 0)), (0, .ref x), (1, .int (iI 2))]) hx hb dX2_change_105 hl rfl (by decide) rfl (fun ls hl => ?_)
          refine lv_goto (tgt := 43) hx hb dX2_change_108 (by decide) ?_
          refine lv_iload_n hx hb dX2_change_43 rfl (lv_at hl 0 rfl) ?_
          refine ix_iconst (n := 5) hx hb dX2_change_44 ?_
          refine ix_icmp_ge (tgt := 111) hx hb dX2_change_45 (by decide) (by decide) (by decide) (fun c15 => absurd c15 (by decide)) (fun _ => ?_)
          refine lv_aload_n hx hb dX2_change_48 rfl (lv_at hl 2 rfl) ?_
          refine va_get (D := (dC, dI)) (ci := 2) (v := .ref r) (C := RX2) (T := TX2) (N := 17) hx hb hw inX2 hown hK hP 0 rfl rfl 2 (by decide) (hw _ mA_383) (fun _ h9 => h9) rfl dX2_change_49 ?_
          refine lv_iload_n hx hb dX2_change_52 rfl (lv_at hl 0 rfl) ?_
          refine lv_iload_n hx hb dX2_change_53 rfl (lv_at hl 3 rfl) ?_
          refine ix_iconst (n := 2) hx hb dX2_change_54 ?_
          refine ix_icmp_ne (tgt := 75) hx hb dX2_change_55 (by decide) (by decide) (by decide) (fun c16 => absurd c16 (by decide)) (fun _ => ?_)
          refine lv_iload_n hx hb dX2_change_58 rfl (lv_at hl 0 rfl) ?_
          refine lv_iload_n hx hb dX2_change_59 rfl (lv_at hl 1 rfl) ?_
          refine ix_icmp_gt (tgt := 75) hx hb dX2_change_60 (by decide) (by decide) (by decide) (fun _ => ?_) (fun c17 => absurd c17 (by decide))
          refine lv_iload_n hx hb dX2_change_75 rfl (lv_at hl 3 rfl) ?_
          refine ix_if_ne (tgt := 97) hx hb dX2_change_76 (by decide) (by decide) (fun _ => ?_) (fun c18 => absurd c18 (by decide))
          refine lv_aload_n hx hb dX2_change_97 rfl (lv_at hl 2 rfl) ?_
          refine va_get (D := (dC, dI)) (ci := 2) (v := .ref n) (C := RX2) (T := TX2) (N := 17) hx hb hw inX2 hown hK hP 0 rfl rfl 1 (by decide) (hw _ mA_382) (fun _ h9 => h9) rfl dX2_change_98 ?_
          refine lv_iload_n hx hb dX2_change_101 rfl (lv_at hl 0 rfl) ?_
          refine ix_iald (k := 1) hx hb hK hP 1 0 rfl rfl (by decide) (by decide) (by decide) dX2_change_102 ?_
          refine ix_i2l hx hb dX2_change_103 (by have := hN 1; omega) ?_
          refine ix_last (k := 1) (x := N 1) hx hb hK hP hD hS 2 1 rfl rfl (by decide) (by decide) (by decide) dX2_change_104 (fun H locs hP hD hS => ?_)
          have hP : va_P (dC, dI) vwCl [(x, .inr (2, [.int (iI 0), .ref n, .ref r, .ref d, .int (iI cn), .int (iI fc), .ref ya, .ref yb, .ref yc, .ref yo, .long (lI (X 0)), .long (lI (X 1)), .long (lI (X 2)), .long (lI (X 3)), .long (lI (X 4)), .long (lI (X 5)), .long (lI (X 6))])), (n, .inl (cI, 5, .inl (aI N))), (r, .inl (cJ, 5, .inr (.inl (aL (iu (iu R 0 (N 0)) 1 (N 1))))))] H := hP
          have hD : va_D A [(x, .inr (2, [.int (iI 0), .ref n, .ref r, .ref d, .int (iI cn), .int (iI fc), .ref ya, .ref yb, .ref yc, .ref yo, .long (lI (X 0)), .long (lI (X 1)), .long (lI (X 2)), .long (lI (X 3)), .long (lI (X 4)), .long (lI (X 5)), .long (lI (X 6))])), (n, .inl (cI, 5, .inl (aI N))), (r, .inl (cJ, 5, .inr (.inl (aL (iu (iu R 0 (N 0)) 1 (N 1))))))] := hD
          refine ix_iinc (k := 0) (lv2 := [(3, .int (iI 2)), (2, .int (iI 0)), (0, .ref x), (1, .int (iI 2))]) hx hb dX2_change_105 hl rfl (by decide) rfl (fun ls hl => ?_)
          refine lv_goto (tgt := 43) hx hb dX2_change_108 (by decide) ?_
          refine lv_iload_n hx hb dX2_change_43 rfl (lv_at hl 0 rfl) ?_
          refine ix_iconst (n := 5) hx hb dX2_change_44 ?_
          refine ix_icmp_ge (tgt := 111) hx hb dX2_change_45 (by decide) (by decide) (by decide) (fun c19 => absurd c19 (by decide)) (fun _ => ?_)
          refine lv_aload_n hx hb dX2_change_48 rfl (lv_at hl 2 rfl) ?_
          refine va_get (D := (dC, dI)) (ci := 2) (v := .ref r) (C := RX2) (T := TX2) (N := 17) hx hb hw inX2 hown hK hP 0 rfl rfl 2 (by decide) (hw _ mA_383) (fun _ h9 => h9) rfl dX2_change_49 ?_
          refine lv_iload_n hx hb dX2_change_52 rfl (lv_at hl 0 rfl) ?_
          refine lv_iload_n hx hb dX2_change_53 rfl (lv_at hl 3 rfl) ?_
          refine ix_iconst (n := 2) hx hb dX2_change_54 ?_
          refine ix_icmp_ne (tgt := 75) hx hb dX2_change_55 (by decide) (by decide) (by decide) (fun c20 => absurd c20 (by decide)) (fun _ => ?_)
          refine lv_iload_n hx hb dX2_change_58 rfl (lv_at hl 0 rfl) ?_
          refine lv_iload_n hx hb dX2_change_59 rfl (lv_at hl 1 rfl) ?_
          refine ix_icmp_gt (tgt := 75) hx hb dX2_change_60 (by decide) (by decide) (by decide) (fun _ => ?_) (fun c21 => absurd c21 (by decide))
          refine lv_iload_n hx hb dX2_change_75 rfl (lv_at hl 3 rfl) ?_
          refine ix_if_ne (tgt := 97) hx hb dX2_change_76 (by decide) (by decide) (fun _ => ?_) (fun c22 => absurd c22 (by decide))
          refine lv_aload_n hx hb dX2_change_97 rfl (lv_at hl 2 rfl) ?_
          refine va_get (D := (dC, dI)) (ci := 2) (v := .ref n) (C := RX2) (T := TX2) (N := 17) hx hb hw inX2 hown hK hP 0 rfl rfl 1 (by decide) (hw _ mA_382) (fun _ h9 => h9) rfl dX2_change_98 ?_
          refine lv_iload_n hx hb dX2_change_101 rfl (lv_at hl 0 rfl) ?_
          refine ix_iald (k := 2) hx hb hK hP 1 0 rfl rfl (by decide) (by decide) (by decide) dX2_change_102 ?_
          refine ix_i2l hx hb dX2_change_103 (by have := hN 2; omega) ?_
          refine ix_last (k := 2) (x := N 2) hx hb hK hP hD hS 2 1 rfl rfl (by decide) (by decide) (by decide) dX2_change_104 (fun H locs hP hD hS => ?_)
          have hP : va_P (dC, dI) vwCl [(x, .inr (2, [.int (iI 0), .ref n, .ref r, .ref d, .int (iI cn), .int (iI fc), .ref ya, .ref yb, .ref yc, .ref yo, .long (lI (X 0)), .long (lI (X 1)), .long (lI (X 2)), .long (lI (X 3)), .long (lI (X 4)), .long (lI (X 5)), .long (lI (X 6))])), (n, .inl (cI, 5, .inl (aI N))), (r, .inl (cJ, 5, .inr (.inl (aL (iu (iu (iu R 0 (N 0)) 1 (N 1)) 2 (N 2))))))] H := hP
          have hD : va_D A [(x, .inr (2, [.int (iI 0), .ref n, .ref r, .ref d, .int (iI cn), .int (iI fc), .ref ya, .ref yb, .ref yc, .ref yo, .long (lI (X 0)), .long (lI (X 1)), .long (lI (X 2)), .long (lI (X 3)), .long (lI (X 4)), .long (lI (X 5)), .long (lI (X 6))])), (n, .inl (cI, 5, .inl (aI N))), (r, .inl (cJ, 5, .inr (.inl (aL (iu (iu (iu R 0 (N 0)) 1 (N 1)) 2 (N 2))))))] := hD
          refine ix_iinc (k := 0) (lv2 := [(3, .int (iI 3)), (2, .int (iI 0)), (0, .ref x), (1, .int (iI 2))]) hx hb dX2_change_105 hl rfl (by decide) rfl (fun ls hl => ?_)
          refine lv_goto (tgt := 43) hx hb dX2_change_108 (by decide) ?_
          refine lv_iload_n hx hb dX2_change_43 rfl (lv_at hl 0 rfl) ?_
          refine ix_iconst (n := 5) hx hb dX2_change_44 ?_
          refine ix_icmp_ge (tgt := 111) hx hb dX2_change_45 (by decide) (by decide) (by decide) (fun c23 => absurd c23 (by decide)) (fun _ => ?_)
          refine lv_aload_n hx hb dX2_change_48 rfl (lv_at hl 2 rfl) ?_
          refine va_get (D := (dC, dI)) (ci := 2) (v := .ref r) (C := RX2) (T := TX2) (N := 17) hx hb hw inX2 hown hK hP 0 rfl rfl 2 (by decide) (hw _ mA_383) (fun _ h9 => h9) rfl dX2_change_49 ?_
          refine lv_iload_n hx hb dX2_change_52 rfl (lv_at hl 0 rfl) ?_
          refine lv_iload_n hx hb dX2_change_53 rfl (lv_at hl 3 rfl) ?_
          refine ix_iconst (n := 2) hx hb dX2_change_54 ?_
          refine ix_icmp_ne (tgt := 75) hx hb dX2_change_55 (by decide) (by decide) (by decide) (fun c24 => absurd c24 (by decide)) (fun _ => ?_)
          refine lv_iload_n hx hb dX2_change_58 rfl (lv_at hl 0 rfl) ?_
          refine lv_iload_n hx hb dX2_change_59 rfl (lv_at hl 1 rfl) ?_
          refine ix_icmp_gt (tgt := 75) hx hb dX2_change_60 (by decide) (by decide) (by decide) (fun _ => ?_) (fun c25 => absurd c25 (by decide))
          refine lv_iload_n hx hb dX2_change_75 rfl (lv_at hl 3 rfl) ?_
          refine ix_if_ne (tgt := 97) hx hb dX2_change_76 (by decide) (by decide) (fun _ => ?_) (fun c26 => absurd c26 (by decide))
          refine lv_aload_n hx hb dX2_change_97 rfl (lv_at hl 2 rfl) ?_
          refine va_get (D := (dC, dI)) (ci := 2) (v := .ref n) (C := RX2) (T := TX2) (N := 17) hx hb hw inX2 hown hK hP 0 rfl rfl 1 (by decide) (hw _ mA_382) (fun _ h9 => h9) rfl dX2_change_98 ?_
          refine lv_iload_n hx hb dX2_change_101 rfl (lv_at hl 0 rfl) ?_
          refine ix_iald (k := 3) hx hb hK hP 1 0 rfl rfl (by decide) (by decide) (by decide) dX2_change_102 ?_
          refine ix_i2l hx hb dX2_change_103 (by have := hN 3; omega) ?_
          refine ix_last (k := 3) (x := N 3) hx hb hK hP hD hS 2 1 rfl rfl (by decide) (by decide) (by decide) dX2_change_104 (fun H locs hP hD hS => ?_)
          have hP : va_P (dC, dI) vwCl [(x, .inr (2, [.int (iI 0), .ref n, .ref r, .ref d, .int (iI cn), .int (iI fc), .ref ya, .ref yb, .ref yc, .ref yo, .long (lI (X 0)), .long (lI (X 1)), .long (lI (X 2)), .long (lI (X 3)), .long (lI (X 4)), .long (lI (X 5)), .long (lI (X 6))])), (n, .inl (cI, 5, .inl (aI N))), (r, .inl (cJ, 5, .inr (.inl (aL (iu (iu (iu (iu R 0 (N 0)) 1 (N 1)) 2 (N 2)) 3 (N 3))))))] H := hP
          have hD : va_D A [(x, .inr (2, [.int (iI 0), .ref n, .ref r, .ref d, .int (iI cn), .int (iI fc), .ref ya, .ref yb, .ref yc, .ref yo, .long (lI (X 0)), .long (lI (X 1)), .long (lI (X 2)), .long (lI (X 3)), .long (lI (X 4)), .long (lI (X 5)), .long (lI (X 6))])), (n, .inl (cI, 5, .inl (aI N))), (r, .inl (cJ, 5, .inr (.inl (aL (iu (iu (iu (iu R 0 (N 0)) 1 (N 1)) 2 (N 2)) 3 (N 3))))))] := hD
          refine ix_iinc (k := 0) (lv2 := [(3, .int (iI 4)), (2, .int (iI 0)), (0, .ref x), (1, .int (iI 2))]) hx hb dX2_change_105 hl rfl (by decide) rfl (fun ls hl => ?_)
          refine lv_goto (tgt := 43) hx hb dX2_change_108 (by decide) ?_
          refine lv_iload_n hx hb dX2_change_43 rfl (lv_at hl 0 rfl) ?_
          refine ix_iconst (n := 5) hx hb dX2_change_44 ?_
          refine ix_icmp_ge (tgt := 111) hx hb dX2_change_45 (by decide) (by decide) (by decide) (fun c27 => absurd c27 (by decide)) (fun _ => ?_)
          refine lv_aload_n hx hb dX2_change_48 rfl (lv_at hl 2 rfl) ?_
          refine va_get (D := (dC, dI)) (ci := 2) (v := .ref r) (C := RX2) (T := TX2) (N := 17) hx hb hw inX2 hown hK hP 0 rfl rfl 2 (by decide) (hw _ mA_383) (fun _ h9 => h9) rfl dX2_change_49 ?_
          refine lv_iload_n hx hb dX2_change_52 rfl (lv_at hl 0 rfl) ?_
          refine lv_iload_n hx hb dX2_change_53 rfl (lv_at hl 3 rfl) ?_
          refine ix_iconst (n := 2) hx hb dX2_change_54 ?_
          refine ix_icmp_ne (tgt := 75) hx hb dX2_change_55 (by decide) (by decide) (by decide) (fun c28 => absurd c28 (by decide)) (fun _ => ?_)
          refine lv_iload_n hx hb dX2_change_58 rfl (lv_at hl 0 rfl) ?_
          refine lv_iload_n hx hb dX2_change_59 rfl (lv_at hl 1 rfl) ?_
          refine ix_icmp_gt (tgt := 75) hx hb dX2_change_60 (by decide) (by decide) (by decide) (fun _ => ?_) (fun c29 => absurd c29 (by decide))
          refine lv_iload_n hx hb dX2_change_75 rfl (lv_at hl 3 rfl) ?_
          refine ix_if_ne (tgt := 97) hx hb dX2_change_76 (by decide) (by decide) (fun _ => ?_) (fun c30 => absurd c30 (by decide))
          refine lv_aload_n hx hb dX2_change_97 rfl (lv_at hl 2 rfl) ?_
          refine va_get (D := (dC, dI)) (ci := 2) (v := .ref n) (C := RX2) (T := TX2) (N := 17) hx hb hw inX2 hown hK hP 0 rfl rfl 1 (by decide) (hw _ mA_382) (fun _ h9 => h9) rfl dX2_change_98 ?_
          refine lv_iload_n hx hb dX2_change_101 rfl (lv_at hl 0 rfl) ?_
          refine ix_iald (k := 4) hx hb hK hP 1 0 rfl rfl (by decide) (by decide) (by decide) dX2_change_102 ?_
          refine ix_i2l hx hb dX2_change_103 (by have := hN 4; omega) ?_
          refine ix_last (k := 4) (x := N 4) hx hb hK hP hD hS 2 1 rfl rfl (by decide) (by decide) (by decide) dX2_change_104 (fun H locs hP hD hS => ?_)
          have hP : va_P (dC, dI) vwCl [(x, .inr (2, [.int (iI 0), .ref n, .ref r, .ref d, .int (iI cn), .int (iI fc), .ref ya, .ref yb, .ref yc, .ref yo, .long (lI (X 0)), .long (lI (X 1)), .long (lI (X 2)), .long (lI (X 3)), .long (lI (X 4)), .long (lI (X 5)), .long (lI (X 6))])), (n, .inl (cI, 5, .inl (aI N))), (r, .inl (cJ, 5, .inr (.inl (aL (iu (iu (iu (iu (iu R 0 (N 0)) 1 (N 1)) 2 (N 2)) 3 (N 3)) 4 (N 4))))))] H := hP
          have hD : va_D A [(x, .inr (2, [.int (iI 0), .ref n, .ref r, .ref d, .int (iI cn), .int (iI fc), .ref ya, .ref yb, .ref yc, .ref yo, .long (lI (X 0)), .long (lI (X 1)), .long (lI (X 2)), .long (lI (X 3)), .long (lI (X 4)), .long (lI (X 5)), .long (lI (X 6))])), (n, .inl (cI, 5, .inl (aI N))), (r, .inl (cJ, 5, .inr (.inl (aL (iu (iu (iu (iu (iu R 0 (N 0)) 1 (N 1)) 2 (N 2)) 3 (N 3)) 4 (N 4))))))] := hD
          refine ix_iinc (k := 0) (lv2 := [(3, .int (iI 5)), (2, .int (iI 0)), (0, .ref x), (1, .int (iI 2))]) hx hb dX2_change_105 hl rfl (by decide) rfl (fun ls hl => ?_)
          refine lv_goto (tgt := 43) hx hb dX2_change_108 (by decide) ?_
          refine lv_iload_n hx hb dX2_change_43 rfl (lv_at hl 0 rfl) ?_
          refine ix_iconst (n := 5) hx hb dX2_change_44 ?_
          refine ix_icmp_ge (tgt := 111) hx hb dX2_change_45 (by decide) (by decide) (by decide) (fun _ => ?_) (fun c31 => absurd c31 (by decide))
          have e9 : iu (iu (iu (iu (iu R 0 (N 0)) 1 (N 1)) 2 (N 2)) 3 (N 3)) 4 (N 4) = f_chg N 2 0 := by funext j; by_cases z : 0 ≤ j ∧ j ≤ 4; rw [chg_2]; unfold iu; grind; rw [chg_5 h5 (by omega) j (by omega)]; have := hR5 j (by omega); unfold iu; grind
          rw [e9] at hP hD
          refine lv_iload_n hx hb dX2_change_111 rfl (lv_at hl 3 rfl) ?_
          refine ix_iconst (n := 1) hx hb dX2_change_112 ?_
          refine ix_icmp_eq (tgt := 121) hx hb dX2_change_113 (by decide) (by decide) (by decide) (fun c32 => absurd c32 (by decide)) (fun _ => ?_)
          refine lv_iload_n hx hb dX2_change_116 rfl (lv_at hl 3 rfl) ?_
          refine ix_iconst (n := (-1)) hx hb dX2_change_117 ?_
          refine ix_icmp_ne (tgt := 171) hx hb dX2_change_118 (by decide) (by decide) (by decide) (fun _ => ?_) (fun c33 => absurd c33 (by decide))
          have e7 : f_chg N 2 0 = f_chg N 2 (f_deg N) := by rw [hg]
          rw [e7] at hP hD
          have hl2 : lv_has ls 5 [(0, .ref x), (1, .int (iI 2)), (2, .int (iI (f_deg N)))] := by rw [hg]; exact lv_sub hl [2, 3, 1] rfl
          exact lp_chT h5 hdeg hh hA hnb ⟨hx, hb, hr, hml, hown, hw, hlocks⟩ 1 (f_chg N 2 (f_deg N)) rfl (chg_5 h5 (by omega)) (chg_b hh hN) (by decide) _ _ hK hP hD hS ls hl2
        · rw [hg] at hl
          refine lv_iload_n hx hb dX2_change_43 rfl (lv_at hl 0 rfl) ?_
          refine ix_iconst (n := 5) hx hb dX2_change_44 ?_
          refine ix_icmp_ge (tgt := 111) hx hb dX2_change_45 (by decide) (by decide) (by decide) (fun c34 => absurd c34 (by decide)) (fun _ => ?_)
          refine lv_aload_n hx hb dX2_change_48 rfl (lv_at hl 2 rfl) ?_
          refine va_get (D := (dC, dI)) (ci := 2) (v := .ref r) (C := RX2) (T := TX2) (N := 17) hx hb hw inX2 hown hK hP 0 rfl rfl 2 (by decide) (hw _ mA_383) (fun _ h9 => h9) rfl dX2_change_49 ?_
          refine lv_iload_n hx hb dX2_change_52 rfl (lv_at hl 0 rfl) ?_
          refine lv_iload_n hx hb dX2_change_53 rfl (lv_at hl 3 rfl) ?_
          refine ix_iconst (n := 2) hx hb dX2_change_54 ?_
          refine ix_icmp_ne (tgt := 75) hx hb dX2_change_55 (by decide) (by decide) (by decide) (fun c35 => absurd c35 (by decide)) (fun _ => ?_)
          refine lv_iload_n hx hb dX2_change_58 rfl (lv_at hl 0 rfl) ?_
          refine lv_iload_n hx hb dX2_change_59 rfl (lv_at hl 1 rfl) ?_
          refine ix_icmp_gt (tgt := 75) hx hb dX2_change_60 (by decide) (by decide) (by decide) (fun c36 => absurd c36 (by decide)) (fun _ => ?_)
          refine lv_aload_n hx hb dX2_change_63 rfl (lv_at hl 2 rfl) ?_
          refine va_get (D := (dC, dI)) (ci := 2) (v := .ref n) (C := RX2) (T := TX2) (N := 17) hx hb hw inX2 hown hK hP 0 rfl rfl 1 (by decide) (hw _ mA_382) (fun _ h9 => h9) rfl dX2_change_64 ?_
          refine lv_iload_n hx hb dX2_change_67 rfl (lv_at hl 1 rfl) ?_
          refine lv_iload_n hx hb dX2_change_68 rfl (lv_at hl 0 rfl) ?_
          refine ix_isub hx hb dX2_change_69 ?_
          refine ix_z (y := 1) rfl ?_
          refine ix_iald (k := 1) hx hb hK hP 1 0 rfl rfl (by decide) (by decide) (by decide) dX2_change_70 ?_
          refine ix_i2l hx hb dX2_change_71 (by have := hN 1; omega) ?_
          refine lv_goto (tgt := 104) hx hb dX2_change_72 (by decide) ?_
          refine ix_last (k := 0) (x := N 1) hx hb hK hP hD hS 2 1 rfl rfl (by decide) (by decide) (by decide) dX2_change_104 (fun H locs hP hD hS => ?_)
          have hP : va_P (dC, dI) vwCl [(x, .inr (2, [.int (iI 0), .ref n, .ref r, .ref d, .int (iI cn), .int (iI fc), .ref ya, .ref yb, .ref yc, .ref yo, .long (lI (X 0)), .long (lI (X 1)), .long (lI (X 2)), .long (lI (X 3)), .long (lI (X 4)), .long (lI (X 5)), .long (lI (X 6))])), (n, .inl (cI, 5, .inl (aI N))), (r, .inl (cJ, 5, .inr (.inl (aL (iu R 0 (N 1))))))] H := hP
          have hD : va_D A [(x, .inr (2, [.int (iI 0), .ref n, .ref r, .ref d, .int (iI cn), .int (iI fc), .ref ya, .ref yb, .ref yc, .ref yo, .long (lI (X 0)), .long (lI (X 1)), .long (lI (X 2)), .long (lI (X 3)), .long (lI (X 4)), .long (lI (X 5)), .long (lI (X 6))])), (n, .inl (cI, 5, .inl (aI N))), (r, .inl (cJ, 5, .inr (.inl (aL (iu R 0 (N 1))))))] := hD
          refine ix_iinc (k := 0) (lv2 := [(3, .int (iI 1)), (2, .int (iI 1)), (0, .ref x), (1, .int (iI 2))]) hx hb dX2_change_105 hl rfl (by decide) rfl (fun ls hl => ?_)
          refine lv_goto (tgt := 43) hx hb dX2_change_108 (by decide) ?_
          refine lv_iload_n hx hb dX2_change_43 rfl (lv_at hl 0 rfl) ?_
          refine ix_iconst (n := 5) hx hb dX2_change_44 ?_
          refine ix_icmp_ge (tgt := 111) hx hb dX2_change_45 (by decide) (by decide) (by decide) (fun c37 => absurd c37 (by decide)) (fun _ => ?_)
          refine lv_aload_n hx hb dX2_change_48 rfl (lv_at hl 2 rfl) ?_
          refine va_get (D := (dC, dI)) (ci := 2) (v := .ref r) (C := RX2) (T := TX2) (N := 17) hx hb hw inX2 hown hK hP 0 rfl rfl 2 (by decide) (hw _ mA_383) (fun _ h9 => h9) rfl dX2_change_49 ?_
          refine lv_iload_n hx hb dX2_change_52 rfl (lv_at hl 0 rfl) ?_
          refine lv_iload_n hx hb dX2_change_53 rfl (lv_at hl 3 rfl) ?_
          refine ix_iconst (n := 2) hx hb dX2_change_54 ?_
          refine ix_icmp_ne (tgt := 75) hx hb dX2_change_55 (by decide) (by decide) (by decide) (fun c38 => absurd c38 (by decide)) (fun _ => ?_)
          refine lv_iload_n hx hb dX2_change_58 rfl (lv_at hl 0 rfl) ?_
          refine lv_iload_n hx hb dX2_change_59 rfl (lv_at hl 1 rfl) ?_
          refine ix_icmp_gt (tgt := 75) hx hb dX2_change_60 (by decide) (by decide) (by decide) (fun c39 => absurd c39 (by decide)) (fun _ => ?_)
          refine lv_aload_n hx hb dX2_change_63 rfl (lv_at hl 2 rfl) ?_
          refine va_get (D := (dC, dI)) (ci := 2) (v := .ref n) (C := RX2) (T := TX2) (N := 17) hx hb hw inX2 hown hK hP 0 rfl rfl 1 (by decide) (hw _ mA_382) (fun _ h9 => h9) rfl dX2_change_64 ?_
          refine lv_iload_n hx hb dX2_change_67 rfl (lv_at hl 1 rfl) ?_
          refine lv_iload_n hx hb dX2_change_68 rfl (lv_at hl 0 rfl) ?_
          refine ix_isub hx hb dX2_change_69 ?_
          refine ix_z (y := 0) rfl ?_
          refine ix_iald (k := 0) hx hb hK hP 1 0 rfl rfl (by decide) (by decide) (by decide) dX2_change_70 ?_
          refine ix_i2l hx hb dX2_change_71 (by have := hN 0; omega) ?_
          refine lv_goto (tgt := 104) hx hb dX2_change_72 (by decide) ?_
          refine ix_last (k := 1) (x := N 0) hx hb hK hP hD hS 2 1 rfl rfl (by decide) (by decide) (by decide) dX2_change_104 (fun H locs hP hD hS => ?_)
          have hP : va_P (dC, dI) vwCl [(x, .inr (2, [.int (iI 0), .ref n, .ref r, .ref d, .int (iI cn), .int (iI fc), .ref ya, .ref yb, .ref yc, .ref yo, .long (lI (X 0)), .long (lI (X 1)), .long (lI (X 2)), .long (lI (X 3)), .long (lI (X 4)), .long (lI (X 5)), .long (lI (X 6))])), (n, .inl (cI, 5, .inl (aI N))), (r, .inl (cJ, 5, .inr (.inl (aL (iu (iu R 0 (N 1)) 1 (N 0))))))] H := hP
          have hD : va_D A [(x, .inr (2, [.int (iI 0), .ref n, .ref r, .ref d, .int (iI cn), .int (iI fc), .ref ya, .ref yb, .ref yc, .ref yo, .long (lI (X 0)), .long (lI (X 1)), .long (lI (X 2)), .long (lI (X 3)), .long (lI (X 4)), .long (lI (X 5)), .long (lI (X 6))])), (n, .inl (cI, 5, .inl (aI N))), (r, .inl (cJ, 5, .inr (.inl (aL (iu (iu R 0 (N 1)) 1 (N 0))))))] := hD
          refine ix_iinc (k := 0) (lv2 := [(3, .int (iI 2)), (2, .int (iI 1)), (0, .ref x), (1, .int (iI 2))]) hx hb dX2_change_105 hl rfl (by decide) rfl (fun ls hl => ?_)
          refine lv_goto (tgt := 43) hx hb dX2_change_108 (by decide) ?_
          refine lv_iload_n hx hb dX2_change_43 rfl (lv_at hl 0 rfl) ?_
          refine ix_iconst (n := 5) hx hb dX2_change_44 ?_
          refine ix_icmp_ge (tgt := 111) hx hb dX2_change_45 (by decide) (by decide) (by decide) (fun c40 => absurd c40 (by decide)) (fun _ => ?_)
          refine lv_aload_n hx hb dX2_change_48 rfl (lv_at hl 2 rfl) ?_
          refine va_get (D := (dC, dI)) (ci := 2) (v := .ref r) (C := RX2) (T := TX2) (N := 17) hx hb hw inX2 hown hK hP 0 rfl rfl 2 (by decide) (hw _ mA_383) (fun _ h9 => h9) rfl dX2_change_49 ?_
          refine lv_iload_n hx hb dX2_change_52 rfl (lv_at hl 0 rfl) ?_
          refine lv_iload_n hx hb dX2_change_53 rfl (lv_at hl 3 rfl) ?_
          refine ix_iconst (n := 2) hx hb dX2_change_54 ?_
          refine ix_icmp_ne (tgt := 75) hx hb dX2_change_55 (by decide) (by decide) (by decide) (fun c41 => absurd c41 (by decide)) (fun _ => ?_)
          refine lv_iload_n hx hb dX2_change_58 rfl (lv_at hl 0 rfl) ?_
          refine lv_iload_n hx hb dX2_change_59 rfl (lv_at hl 1 rfl) ?_
          refine ix_icmp_gt (tgt := 75) hx hb dX2_change_60 (by decide) (by decide) (by decide) (fun _ => ?_) (fun c42 => absurd c42 (by decide))
          refine lv_iload_n hx hb dX2_change_75 rfl (lv_at hl 3 rfl) ?_
          refine ix_if_ne (tgt := 97) hx hb dX2_change_76 (by decide) (by decide) (fun _ => ?_) (fun c43 => absurd c43 (by decide))
          refine lv_aload_n hx hb dX2_change_97 rfl (lv_at hl 2 rfl) ?_
          refine va_get (D := (dC, dI)) (ci := 2) (v := .ref n) (C := RX2) (T := TX2) (N := 17) hx hb hw inX2 hown hK hP 0 rfl rfl 1 (by decide) (hw _ mA_382) (fun _ h9 => h9) rfl dX2_change_98 ?_
          refine lv_iload_n hx hb dX2_change_101 rfl (lv_at hl 0 rfl) ?_
          refine ix_iald (k := 2) hx hb hK hP 1 0 rfl rfl (by decide) (by decide) (by decide) dX2_change_102 ?_
          refine ix_i2l hx hb dX2_change_103 (by have := hN 2; omega) ?_
          refine ix_last (k := 2) (x := N 2) hx hb hK hP hD hS 2 1 rfl rfl (by decide) (by decide) (by decide) dX2_change_104 (fun H locs hP hD hS => ?_)
          have hP : va_P (dC, dI) vwCl [(x, .inr (2, [.int (iI 0), .ref n, .ref r, .ref d, .int (iI cn), .int (iI fc), .ref ya, .ref yb, .ref yc, .ref yo, .long (lI (X 0)), .long (lI (X 1)), .long (lI (X 2)), .long (lI (X 3)), .long (lI (X 4)), .long (lI (X 5)), .long (lI (X 6))])), (n, .inl (cI, 5, .inl (aI N))), (r, .inl (cJ, 5, .inr (.inl (aL (iu (iu (iu R 0 (N 1)) 1 (N 0)) 2 (N 2))))))] H := hP
          have hD : va_D A [(x, .inr (2, [.int (iI 0), .ref n, .ref r, .ref d, .int (iI cn), .int (iI fc), .ref ya, .ref yb, .ref yc, .ref yo, .long (lI (X 0)), .long (lI (X 1)), .long (lI (X 2)), .long (lI (X 3)), .long (lI (X 4)), .long (lI (X 5)), .long (lI (X 6))])), (n, .inl (cI, 5, .inl (aI N))), (r, .inl (cJ, 5, .inr (.inl (aL (iu (iu (iu R 0 (N 1)) 1 (N 0)) 2 (N 2))))))] := hD
          refine ix_iinc (k := 0) (lv2 := [(3, .int (iI 3)), (2, .int (iI 1)), (0, .ref x), (1, .int (iI 2))]) hx hb dX2_change_105 hl rfl (by decide) rfl (fun ls hl => ?_)
          refine lv_goto (tgt := 43) hx hb dX2_change_108 (by decide) ?_
          refine lv_iload_n hx hb dX2_change_43 rfl (lv_at hl 0 rfl) ?_
          refine ix_iconst (n := 5) hx hb dX2_change_44 ?_
          refine ix_icmp_ge (tgt := 111) hx hb dX2_change_45 (by decide) (by decide) (by decide) (fun c44 => absurd c44 (by decide)) (fun _ => ?_)
          refine lv_aload_n hx hb dX2_change_48 rfl (lv_at hl 2 rfl) ?_
          refine va_get (D := (dC, dI)) (ci := 2) (v := .ref r) (C := RX2) (T := TX2) (N := 17) hx hb hw inX2 hown hK hP 0 rfl rfl 2 (by decide) (hw _ mA_383) (fun _ h9 => h9) rfl dX2_change_49 ?_
          refine lv_iload_n hx hb dX2_change_52 rfl (lv_at hl 0 rfl) ?_
          refine lv_iload_n hx hb dX2_change_53 rfl (lv_at hl 3 rfl) ?_
          refine ix_iconst (n := 2) hx hb dX2_change_54 ?_
          refine ix_icmp_ne (tgt := 75) hx hb dX2_change_55 (by decide) (by decide) (by decide) (fun c45 => absurd c45 (by decide)) (fun _ => ?_)
          refine lv_iload_n hx hb dX2_change_58 rfl (lv_at hl 0 rfl) ?_
          refine lv_iload_n hx hb dX2_change_59 rfl (lv_at hl 1 rfl) ?_
          refine ix_icmp_gt (tgt := 75) hx hb dX2_change_60 (by decide) (by decide) (by decide) (fun _ => ?_) (fun c46 => absurd c46 (by decide))
          refine lv_iload_n hx hb dX2_change_75 rfl (lv_at hl 3 rfl) ?_
          refine ix_if_ne (tgt := 97) hx hb dX2_change_76 (by decide) (by decide) (fun _ => ?_) (fun c47 => absurd c47 (by decide))
          refine lv_aload_n hx hb dX2_change_97 rfl (lv_at hl 2 rfl) ?_
          refine va_get (D := (dC, dI)) (ci := 2) (v := .ref n) (C := RX2) (T := TX2) (N := 17) hx hb hw inX2 hown hK hP 0 rfl rfl 1 (by decide) (hw _ mA_382) (fun _ h9 => h9) rfl dX2_change_98 ?_
          refine lv_iload_n hx hb dX2_change_101 rfl (lv_at hl 0 rfl) ?_
          refine ix_iald (k := 3) hx hb hK hP 1 0 rfl rfl (by decide) (by decide) (by decide) dX2_change_102 ?_
          refine ix_i2l hx hb dX2_change_103 (by have := hN 3; omega) ?_
          refine ix_last (k := 3) (x := N 3) hx hb hK hP hD hS 2 1 rfl rfl (by decide) (by decide) (by decide) dX2_change_104 (fun H locs hP hD hS => ?_)
          have hP : va_P (dC, dI) vwCl [(x, .inr (2, [.int (iI 0), .ref n, .ref r, .ref d, .int (iI cn), .int (iI fc), .ref ya, .ref yb, .ref yc, .ref yo, .long (lI (X 0)), .long (lI (X 1)), .long (lI (X 2)), .long (lI (X 3)), .long (lI (X 4)), .long (lI (X 5)), .long (lI (X 6))])), (n, .inl (cI, 5, .inl (aI N))), (r, .inl (cJ, 5, .inr (.inl (aL (iu (iu (iu (iu R 0 (N 1)) 1 (N 0)) 2 (N 2)) 3 (N 3))))))] H := hP
          have hD : va_D A [(x, .inr (2, [.int (iI 0), .ref n, .ref r, .ref d, .int (iI cn), .int (iI fc), .ref ya, .ref yb, .ref yc, .ref yo, .long (lI (X 0)), .long (lI (X 1)), .long (lI (X 2)), .long (lI (X 3)), .long (lI (X 4)), .long (lI (X 5)), .long (lI (X 6))])), (n, .inl (cI, 5, .inl (aI N))), (r, .inl (cJ, 5, .inr (.inl (aL (iu (iu (iu (iu R 0 (N 1)) 1 (N 0)) 2 (N 2)) 3 (N 3))))))] := hD
          refine ix_iinc (k := 0) (lv2 := [(3, .int (iI 4)), (2, .int (iI 1)), (0, .ref x), (1, .int (iI 2))]) hx hb dX2_change_105 hl rfl (by decide) rfl (fun ls hl => ?_)
          refine lv_goto (tgt := 43) hx hb dX2_change_108 (by decide) ?_
          refine lv_iload_n hx hb dX2_change_43 rfl (lv_at hl 0 rfl) ?_
          refine ix_iconst (n := 5) hx hb dX2_change_44 ?_
          refine ix_icmp_ge (tgt := 111) hx hb dX2_change_45 (by decide) (by decide) (by decide) (fun c48 => absurd c48 (by decide)) (fun _ => ?_)
          refine lv_aload_n hx hb dX2_change_48 rfl (lv_at hl 2 rfl) ?_
          refine va_get (D := (dC, dI)) (ci := 2) (v := .ref r) (C := RX2) (T := TX2) (N := 17) hx hb hw inX2 hown hK hP 0 rfl rfl 2 (by decide) (hw _ mA_383) (fun _ h9 => h9) rfl dX2_change_49 ?_
          refine lv_iload_n hx hb dX2_change_52 rfl (lv_at hl 0 rfl) ?_
          refine lv_iload_n hx hb dX2_change_53 rfl (lv_at hl 3 rfl) ?_
          refine ix_iconst (n := 2) hx hb dX2_change_54 ?_
          refine ix_icmp_ne (tgt := 75) hx hb dX2_change_55 (by decide) (by decide) (by decide) (fun c49 => absurd c49 (by decide)) (fun _ => ?_)
          refine lv_iload_n hx hb dX2_change_58 rfl (lv_at hl 0 rfl) ?_
          refine lv_iload_n hx hb dX2_change_59 rfl (lv_at hl 1 rfl) ?_
          refine ix_icmp_gt (tgt := 75) hx hb dX2_change_60 (by decide) (by decide) (by decide) (fun _ => ?_) (fun c50 => absurd c50 (by decide))
          refine lv_iload_n hx hb dX2_change_75 rfl (lv_at hl 3 rfl) ?_
          refine ix_if_ne (tgt := 97) hx hb dX2_change_76 (by decide) (by decide) (fun _ => ?_) (fun c51 => absurd c51 (by decide))
          refine lv_aload_n hx hb dX2_change_97 rfl (lv_at hl 2 rfl) ?_
          refine va_get (D := (dC, dI)) (ci := 2) (v := .ref n) (C := RX2) (T := TX2) (N := 17) hx hb hw inX2 hown hK hP 0 rfl rfl 1 (by decide) (hw _ mA_382) (fun _ h9 => h9) rfl dX2_change_98 ?_
          refine lv_iload_n hx hb dX2_change_101 rfl (lv_at hl 0 rfl) ?_
          refine ix_iald (k := 4) hx hb hK hP 1 0 rfl rfl (by decide) (by decide) (by decide) dX2_change_102 ?_
          refine ix_i2l hx hb dX2_change_103 (by have := hN 4; omega) ?_
          refine ix_last (k := 4) (x := N 4) hx hb hK hP hD hS 2 1 rfl rfl (by decide) (by decide) (by decide) dX2_change_104 (fun H locs hP hD hS => ?_)
          have hP : va_P (dC, dI) vwCl [(x, .inr (2, [.int (iI 0), .ref n, .ref r, .ref d, .int (iI cn), .int (iI fc), .ref ya, .ref yb, .ref yc, .ref yo, .long (lI (X 0)), .long (lI (X 1)), .long (lI (X 2)), .long (lI (X 3)), .long (lI (X 4)), .long (lI (X 5)), .long (lI (X 6))])), (n, .inl (cI, 5, .inl (aI N))), (r, .inl (cJ, 5, .inr (.inl (aL (iu (iu (iu (iu (iu R 0 (N 1)) 1 (N 0)) 2 (N 2)) 3 (N 3)) 4 (N 4))))))] H := hP
          have hD : va_D A [(x, .inr (2, [.int (iI 0), .ref n, .ref r, .ref d, .int (iI cn), .int (iI fc), .ref ya, .ref yb, .ref yc, .ref yo, .long (lI (X 0)), .long (lI (X 1)), .long (lI (X 2)), .long (lI (X 3)), .long (lI (X 4)), .long (lI (X 5)), .long (lI (X 6))])), (n, .inl (cI, 5, .inl (aI N))), (r, .inl (cJ, 5, .inr (.inl (aL (iu (iu (iu (iu (iu R 0 (N 1)) 1 (N 0)) 2 (N 2)) 3 (N 3)) 4 (N 4))))))] := hD
          refine ix_iinc (k := 0) (lv2 := [(3, .int (iI 5)), (2, .int (iI 1)), (0, .ref x), (1, .int (iI 2))]) hx hb dX2_change_105 hl rfl (by decide) rfl (fun ls hl => ?_)
          refine lv_goto (tgt := 43) hx hb dX2_change_108 (by decide) ?_
          refine lv_iload_n hx hb dX2_change_43 rfl (lv_at hl 0 rfl) ?_
          refine ix_iconst (n := 5) hx hb dX2_change_44 ?_
          refine ix_icmp_ge (tgt := 111) hx hb dX2_change_45 (by decide) (by decide) (by decide) (fun _ => ?_) (fun c52 => absurd c52 (by decide))
          have e9 : iu (iu (iu (iu (iu R 0 (N 1)) 1 (N 0)) 2 (N 2)) 3 (N 3)) 4 (N 4) = f_chg N 2 1 := by funext j; by_cases z : 0 ≤ j ∧ j ≤ 4; rw [chg_2]; unfold iu; grind; rw [chg_5 h5 (by omega) j (by omega)]; have := hR5 j (by omega); unfold iu; grind
          rw [e9] at hP hD
          refine lv_iload_n hx hb dX2_change_111 rfl (lv_at hl 3 rfl) ?_
          refine ix_iconst (n := 1) hx hb dX2_change_112 ?_
          refine ix_icmp_eq (tgt := 121) hx hb dX2_change_113 (by decide) (by decide) (by decide) (fun c53 => absurd c53 (by decide)) (fun _ => ?_)
          refine lv_iload_n hx hb dX2_change_116 rfl (lv_at hl 3 rfl) ?_
          refine ix_iconst (n := (-1)) hx hb dX2_change_117 ?_
          refine ix_icmp_ne (tgt := 171) hx hb dX2_change_118 (by decide) (by decide) (by decide) (fun _ => ?_) (fun c54 => absurd c54 (by decide))
          have e7 : f_chg N 2 1 = f_chg N 2 (f_deg N) := by rw [hg]
          rw [e7] at hP hD
          have hl2 : lv_has ls 5 [(0, .ref x), (1, .int (iI 2)), (2, .int (iI (f_deg N)))] := by rw [hg]; exact lv_sub hl [2, 3, 1] rfl
          exact lp_chT h5 hdeg hh hA hnb ⟨hx, hb, hr, hml, hown, hw, hlocks⟩ 1 (f_chg N 2 (f_deg N)) rfl (chg_5 h5 (by omega)) (chg_b hh hN) (by decide) _ _ hK hP hD hS ls hl2
        · rw [hg] at hl
          refine lv_iload_n hx hb dX2_change_43 rfl (lv_at hl 0 rfl) ?_
          refine ix_iconst (n := 5) hx hb dX2_change_44 ?_
          refine ix_icmp_ge (tgt := 111) hx hb dX2_change_45 (by decide) (by decide) (by decide) (fun c55 => absurd c55 (by decide)) (fun _ => ?_)
          refine lv_aload_n hx hb dX2_change_48 rfl (lv_at hl 2 rfl) ?_
          refine va_get (D := (dC, dI)) (ci := 2) (v := .ref r) (C := RX2) (T := TX2) (N := 17) hx hb hw inX2 hown hK hP 0 rfl rfl 2 (by decide) (hw _ mA_383) (fun _ h9 => h9) rfl dX2_change_49 ?_
          refine lv_iload_n hx hb dX2_change_52 rfl (lv_at hl 0 rfl) ?_
          refine lv_iload_n hx hb dX2_change_53 rfl (lv_at hl 3 rfl) ?_
          refine ix_iconst (n := 2) hx hb dX2_change_54 ?_
          refine ix_icmp_ne (tgt := 75) hx hb dX2_change_55 (by decide) (by decide) (by decide) (fun c56 => absurd c56 (by decide)) (fun _ => ?_)
          refine lv_iload_n hx hb dX2_change_58 rfl (lv_at hl 0 rfl) ?_
          refine lv_iload_n hx hb dX2_change_59 rfl (lv_at hl 1 rfl) ?_
          refine ix_icmp_gt (tgt := 75) hx hb dX2_change_60 (by decide) (by decide) (by decide) (fun c57 => absurd c57 (by decide)) (fun _ => ?_)
          refine lv_aload_n hx hb dX2_change_63 rfl (lv_at hl 2 rfl) ?_
          refine va_get (D := (dC, dI)) (ci := 2) (v := .ref n) (C := RX2) (T := TX2) (N := 17) hx hb hw inX2 hown hK hP 0 rfl rfl 1 (by decide) (hw _ mA_382) (fun _ h9 => h9) rfl dX2_change_64 ?_
          refine lv_iload_n hx hb dX2_change_67 rfl (lv_at hl 1 rfl) ?_
          refine lv_iload_n hx hb dX2_change_68 rfl (lv_at hl 0 rfl) ?_
          refine ix_isub hx hb dX2_change_69 ?_
          refine ix_z (y := 2) rfl ?_
          refine ix_iald (k := 2) hx hb hK hP 1 0 rfl rfl (by decide) (by decide) (by decide) dX2_change_70 ?_
          refine ix_i2l hx hb dX2_change_71 (by have := hN 2; omega) ?_
          refine lv_goto (tgt := 104) hx hb dX2_change_72 (by decide) ?_
          refine ix_last (k := 0) (x := N 2) hx hb hK hP hD hS 2 1 rfl rfl (by decide) (by decide) (by decide) dX2_change_104 (fun H locs hP hD hS => ?_)
          have hP : va_P (dC, dI) vwCl [(x, .inr (2, [.int (iI 0), .ref n, .ref r, .ref d, .int (iI cn), .int (iI fc), .ref ya, .ref yb, .ref yc, .ref yo, .long (lI (X 0)), .long (lI (X 1)), .long (lI (X 2)), .long (lI (X 3)), .long (lI (X 4)), .long (lI (X 5)), .long (lI (X 6))])), (n, .inl (cI, 5, .inl (aI N))), (r, .inl (cJ, 5, .inr (.inl (aL (iu R 0 (N 2))))))] H := hP
          have hD : va_D A [(x, .inr (2, [.int (iI 0), .ref n, .ref r, .ref d, .int (iI cn), .int (iI fc), .ref ya, .ref yb, .ref yc, .ref yo, .long (lI (X 0)), .long (lI (X 1)), .long (lI (X 2)), .long (lI (X 3)), .long (lI (X 4)), .long (lI (X 5)), .long (lI (X 6))])), (n, .inl (cI, 5, .inl (aI N))), (r, .inl (cJ, 5, .inr (.inl (aL (iu R 0 (N 2))))))] := hD
          refine ix_iinc (k := 0) (lv2 := [(3, .int (iI 1)), (2, .int (iI 2)), (0, .ref x), (1, .int (iI 2))]) hx hb dX2_change_105 hl rfl (by decide) rfl (fun ls hl => ?_)
          refine lv_goto (tgt := 43) hx hb dX2_change_108 (by decide) ?_
          refine lv_iload_n hx hb dX2_change_43 rfl (lv_at hl 0 rfl) ?_
          refine ix_iconst (n := 5) hx hb dX2_change_44 ?_
          refine ix_icmp_ge (tgt := 111) hx hb dX2_change_45 (by decide) (by decide) (by decide) (fun c58 => absurd c58 (by decide)) (fun _ => ?_)
          refine lv_aload_n hx hb dX2_change_48 rfl (lv_at hl 2 rfl) ?_
          refine va_get (D := (dC, dI)) (ci := 2) (v := .ref r) (C := RX2) (T := TX2) (N := 17) hx hb hw inX2 hown hK hP 0 rfl rfl 2 (by decide) (hw _ mA_383) (fun _ h9 => h9) rfl dX2_change_49 ?_
          refine lv_iload_n hx hb dX2_change_52 rfl (lv_at hl 0 rfl) ?_
          refine lv_iload_n hx hb dX2_change_53 rfl (lv_at hl 3 rfl) ?_
          refine ix_iconst (n := 2) hx hb dX2_change_54 ?_
          refine ix_icmp_ne (tgt := 75) hx hb dX2_change_55 (by decide) (by decide) (by decide) (fun c59 => absurd c59 (by decide)) (fun _ => ?_)
          refine lv_iload_n hx hb dX2_change_58 rfl (lv_at hl 0 rfl) ?_
          refine lv_iload_n hx hb dX2_change_59 rfl (lv_at hl 1 rfl) ?_
          refine ix_icmp_gt (tgt := 75) hx hb dX2_change_60 (by decide) (by decide) (by decide) (fun c60 => absurd c60 (by decide)) (fun _ => ?_)
          refine lv_aload_n hx hb dX2_change_63 rfl (lv_at hl 2 rfl) ?_
          refine va_get (D := (dC, dI)) (ci := 2) (v := .ref n) (C := RX2) (T := TX2) (N := 17) hx hb hw inX2 hown hK hP 0 rfl rfl 1 (by decide) (hw _ mA_382) (fun _ h9 => h9) rfl dX2_change_64 ?_
          refine lv_iload_n hx hb dX2_change_67 rfl (lv_at hl 1 rfl) ?_
          refine lv_iload_n hx hb dX2_change_68 rfl (lv_at hl 0 rfl) ?_
          refine ix_isub hx hb dX2_change_69 ?_
          refine ix_z (y := 1) rfl ?_
          refine ix_iald (k := 1) hx hb hK hP 1 0 rfl rfl (by decide) (by decide) (by decide) dX2_change_70 ?_
          refine ix_i2l hx hb dX2_change_71 (by have := hN 1; omega) ?_
          refine lv_goto (tgt := 104) hx hb dX2_change_72 (by decide) ?_
          refine ix_last (k := 1) (x := N 1) hx hb hK hP hD hS 2 1 rfl rfl (by decide) (by decide) (by decide) dX2_change_104 (fun H locs hP hD hS => ?_)
          have hP : va_P (dC, dI) vwCl [(x, .inr (2, [.int (iI 0), .ref n, .ref r, .ref d, .int (iI cn), .int (iI fc), .ref ya, .ref yb, .ref yc, .ref yo, .long (lI (X 0)), .long (lI (X 1)), .long (lI (X 2)), .long (lI (X 3)), .long (lI (X 4)), .long (lI (X 5)), .long (lI (X 6))])), (n, .inl (cI, 5, .inl (aI N))), (r, .inl (cJ, 5, .inr (.inl (aL (iu (iu R 0 (N 2)) 1 (N 1))))))] H := hP
          have hD : va_D A [(x, .inr (2, [.int (iI 0), .ref n, .ref r, .ref d, .int (iI cn), .int (iI fc), .ref ya, .ref yb, .ref yc, .ref yo, .long (lI (X 0)), .long (lI (X 1)), .long (lI (X 2)), .long (lI (X 3)), .long (lI (X 4)), .long (lI (X 5)), .long (lI (X 6))])), (n, .inl (cI, 5, .inl (aI N))), (r, .inl (cJ, 5, .inr (.inl (aL (iu (iu R 0 (N 2)) 1 (N 1))))))] := hD
          refine ix_iinc (k := 0) (lv2 := [(3, .int (iI 2)), (2, .int (iI 2)), (0, .ref x), (1, .int (iI 2))]) hx hb dX2_change_105 hl rfl (by decide) rfl (fun ls hl => ?_)
          refine lv_goto (tgt := 43) hx hb dX2_change_108 (by decide) ?_
          refine lv_iload_n hx hb dX2_change_43 rfl (lv_at hl 0 rfl) ?_
          refine ix_iconst (n := 5) hx hb dX2_change_44 ?_
          refine ix_icmp_ge (tgt := 111) hx hb dX2_change_45 (by decide) (by decide) (by decide) (fun c61 => absurd c61 (by decide)) (fun _ => ?_)
          refine lv_aload_n hx hb dX2_change_48 rfl (lv_at hl 2 rfl) ?_
          refine va_get (D := (dC, dI)) (ci := 2) (v := .ref r) (C := RX2) (T := TX2) (N := 17) hx hb hw inX2 hown hK hP 0 rfl rfl 2 (by decide) (hw _ mA_383) (fun _ h9 => h9) rfl dX2_change_49 ?_
          refine lv_iload_n hx hb dX2_change_52 rfl (lv_at hl 0 rfl) ?_
          refine lv_iload_n hx hb dX2_change_53 rfl (lv_at hl 3 rfl) ?_
          refine ix_iconst (n := 2) hx hb dX2_change_54 ?_
          refine ix_icmp_ne (tgt := 75) hx hb dX2_change_55 (by decide) (by decide) (by decide) (fun c62 => absurd c62 (by decide)) (fun _ => ?_)
          refine lv_iload_n hx hb dX2_change_58 rfl (lv_at hl 0 rfl) ?_
          refine lv_iload_n hx hb dX2_change_59 rfl (lv_at hl 1 rfl) ?_
          refine ix_icmp_gt (tgt := 75) hx hb dX2_change_60 (by decide) (by decide) (by decide) (fun c63 => absurd c63 (by decide)) (fun _ => ?_)
          refine lv_aload_n hx hb dX2_change_63 rfl (lv_at hl 2 rfl) ?_
          refine va_get (D := (dC, dI)) (ci := 2) (v := .ref n) (C := RX2) (T := TX2) (N := 17) hx hb hw inX2 hown hK hP 0 rfl rfl 1 (by decide) (hw _ mA_382) (fun _ h9 => h9) rfl dX2_change_64 ?_
          refine lv_iload_n hx hb dX2_change_67 rfl (lv_at hl 1 rfl) ?_
          refine lv_iload_n hx hb dX2_change_68 rfl (lv_at hl 0 rfl) ?_
          refine ix_isub hx hb dX2_change_69 ?_
          refine ix_z (y := 0) rfl ?_
          refine ix_iald (k := 0) hx hb hK hP 1 0 rfl rfl (by decide) (by decide) (by decide) dX2_change_70 ?_
          refine ix_i2l hx hb dX2_change_71 (by have := hN 0; omega) ?_
          refine lv_goto (tgt := 104) hx hb dX2_change_72 (by decide) ?_
          refine ix_last (k := 2) (x := N 0) hx hb hK hP hD hS 2 1 rfl rfl (by decide) (by decide) (by decide) dX2_change_104 (fun H locs hP hD hS => ?_)
          have hP : va_P (dC, dI) vwCl [(x, .inr (2, [.int (iI 0), .ref n, .ref r, .ref d, .int (iI cn), .int (iI fc), .ref ya, .ref yb, .ref yc, .ref yo, .long (lI (X 0)), .long (lI (X 1)), .long (lI (X 2)), .long (lI (X 3)), .long (lI (X 4)), .long (lI (X 5)), .long (lI (X 6))])), (n, .inl (cI, 5, .inl (aI N))), (r, .inl (cJ, 5, .inr (.inl (aL (iu (iu (iu R 0 (N 2)) 1 (N 1)) 2 (N 0))))))] H := hP
          have hD : va_D A [(x, .inr (2, [.int (iI 0), .ref n, .ref r, .ref d, .int (iI cn), .int (iI fc), .ref ya, .ref yb, .ref yc, .ref yo, .long (lI (X 0)), .long (lI (X 1)), .long (lI (X 2)), .long (lI (X 3)), .long (lI (X 4)), .long (lI (X 5)), .long (lI (X 6))])), (n, .inl (cI, 5, .inl (aI N))), (r, .inl (cJ, 5, .inr (.inl (aL (iu (iu (iu R 0 (N 2)) 1 (N 1)) 2 (N 0))))))] := hD
          refine ix_iinc (k := 0) (lv2 := [(3, .int (iI 3)), (2, .int (iI 2)), (0, .ref x), (1, .int (iI 2))]) hx hb dX2_change_105 hl rfl (by decide) rfl (fun ls hl => ?_)
          refine lv_goto (tgt := 43) hx hb dX2_change_108 (by decide) ?_
          refine lv_iload_n hx hb dX2_change_43 rfl (lv_at hl 0 rfl) ?_
          refine ix_iconst (n := 5) hx hb dX2_change_44 ?_
          refine ix_icmp_ge (tgt := 111) hx hb dX2_change_45 (by decide) (by decide) (by decide) (fun c64 => absurd c64 (by decide)) (fun _ => ?_)
          refine lv_aload_n hx hb dX2_change_48 rfl (lv_at hl 2 rfl) ?_
          refine va_get (D := (dC, dI)) (ci := 2) (v := .ref r) (C := RX2) (T := TX2) (N := 17) hx hb hw inX2 hown hK hP 0 rfl rfl 2 (by decide) (hw _ mA_383) (fun _ h9 => h9) rfl dX2_change_49 ?_
          refine lv_iload_n hx hb dX2_change_52 rfl (lv_at hl 0 rfl) ?_
          refine lv_iload_n hx hb dX2_change_53 rfl (lv_at hl 3 rfl) ?_
          refine ix_iconst (n := 2) hx hb dX2_change_54 ?_
          refine ix_icmp_ne (tgt := 75) hx hb dX2_change_55 (by decide) (by decide) (by decide) (fun c65 => absurd c65 (by decide)) (fun _ => ?_)
          refine lv_iload_n hx hb dX2_change_58 rfl (lv_at hl 0 rfl) ?_
          refine lv_iload_n hx hb dX2_change_59 rfl (lv_at hl 1 rfl) ?_
          refine ix_icmp_gt (tgt := 75) hx hb dX2_change_60 (by decide) (by decide) (by decide) (fun _ => ?_) (fun c66 => absurd c66 (by decide))
          refine lv_iload_n hx hb dX2_change_75 rfl (lv_at hl 3 rfl) ?_
          refine ix_if_ne (tgt := 97) hx hb dX2_change_76 (by decide) (by decide) (fun _ => ?_) (fun c67 => absurd c67 (by decide))
          refine lv_aload_n hx hb dX2_change_97 rfl (lv_at hl 2 rfl) ?_
          refine va_get (D := (dC, dI)) (ci := 2) (v := .ref n) (C := RX2) (T := TX2) (N := 17) hx hb hw inX2 hown hK hP 0 rfl rfl 1 (by decide) (hw _ mA_382) (fun _ h9 => h9) rfl dX2_change_98 ?_
          refine lv_iload_n hx hb dX2_change_101 rfl (lv_at hl 0 rfl) ?_
          refine ix_iald (k := 3) hx hb hK hP 1 0 rfl rfl (by decide) (by decide) (by decide) dX2_change_102 ?_
          refine ix_i2l hx hb dX2_change_103 (by have := hN 3; omega) ?_
          refine ix_last (k := 3) (x := N 3) hx hb hK hP hD hS 2 1 rfl rfl (by decide) (by decide) (by decide) dX2_change_104 (fun H locs hP hD hS => ?_)
          have hP : va_P (dC, dI) vwCl [(x, .inr (2, [.int (iI 0), .ref n, .ref r, .ref d, .int (iI cn), .int (iI fc), .ref ya, .ref yb, .ref yc, .ref yo, .long (lI (X 0)), .long (lI (X 1)), .long (lI (X 2)), .long (lI (X 3)), .long (lI (X 4)), .long (lI (X 5)), .long (lI (X 6))])), (n, .inl (cI, 5, .inl (aI N))), (r, .inl (cJ, 5, .inr (.inl (aL (iu (iu (iu (iu R 0 (N 2)) 1 (N 1)) 2 (N 0)) 3 (N 3))))))] H := hP
          have hD : va_D A [(x, .inr (2, [.int (iI 0), .ref n, .ref r, .ref d, .int (iI cn), .int (iI fc), .ref ya, .ref yb, .ref yc, .ref yo, .long (lI (X 0)), .long (lI (X 1)), .long (lI (X 2)), .long (lI (X 3)), .long (lI (X 4)), .long (lI (X 5)), .long (lI (X 6))])), (n, .inl (cI, 5, .inl (aI N))), (r, .inl (cJ, 5, .inr (.inl (aL (iu (iu (iu (iu R 0 (N 2)) 1 (N 1)) 2 (N 0)) 3 (N 3))))))] := hD
          refine ix_iinc (k := 0) (lv2 := [(3, .int (iI 4)), (2, .int (iI 2)), (0, .ref x), (1, .int (iI 2))]) hx hb dX2_change_105 hl rfl (by decide) rfl (fun ls hl => ?_)
          refine lv_goto (tgt := 43) hx hb dX2_change_108 (by decide) ?_
          refine lv_iload_n hx hb dX2_change_43 rfl (lv_at hl 0 rfl) ?_
          refine ix_iconst (n := 5) hx hb dX2_change_44 ?_
          refine ix_icmp_ge (tgt := 111) hx hb dX2_change_45 (by decide) (by decide) (by decide) (fun c68 => absurd c68 (by decide)) (fun _ => ?_)
          refine lv_aload_n hx hb dX2_change_48 rfl (lv_at hl 2 rfl) ?_
          refine va_get (D := (dC, dI)) (ci := 2) (v := .ref r) (C := RX2) (T := TX2) (N := 17) hx hb hw inX2 hown hK hP 0 rfl rfl 2 (by decide) (hw _ mA_383) (fun _ h9 => h9) rfl dX2_change_49 ?_
          refine lv_iload_n hx hb dX2_change_52 rfl (lv_at hl 0 rfl) ?_
          refine lv_iload_n hx hb dX2_change_53 rfl (lv_at hl 3 rfl) ?_
          refine ix_iconst (n := 2) hx hb dX2_change_54 ?_
          refine ix_icmp_ne (tgt := 75) hx hb dX2_change_55 (by decide) (by decide) (by decide) (fun c69 => absurd c69 (by decide)) (fun _ => ?_)
          refine lv_iload_n hx hb dX2_change_58 rfl (lv_at hl 0 rfl) ?_
          refine lv_iload_n hx hb dX2_change_59 rfl (lv_at hl 1 rfl) ?_
          refine ix_icmp_gt (tgt := 75) hx hb dX2_change_60 (by decide) (by decide) (by decide) (fun _ => ?_) (fun c70 => absurd c70 (by decide))
          refine lv_iload_n hx hb dX2_change_75 rfl (lv_at hl 3 rfl) ?_
          refine ix_if_ne (tgt := 97) hx hb dX2_change_76 (by decide) (by decide) (fun _ => ?_) (fun c71 => absurd c71 (by decide))
          refine lv_aload_n hx hb dX2_change_97 rfl (lv_at hl 2 rfl) ?_
          refine va_get (D := (dC, dI)) (ci := 2) (v := .ref n) (C := RX2) (T := TX2) (N := 17) hx hb hw inX2 hown hK hP 0 rfl rfl 1 (by decide) (hw _ mA_382) (fun _ h9 => h9) rfl dX2_change_98 ?_
          refine lv_iload_n hx hb dX2_change_101 rfl (lv_at hl 0 rfl) ?_
          refine ix_iald (k := 4) hx hb hK hP 1 0 rfl rfl (by decide) (by decide) (by decide) dX2_change_102 ?_
          refine ix_i2l hx hb dX2_change_103 (by have := hN 4; omega) ?_
          refine ix_last (k := 4) (x := N 4) hx hb hK hP hD hS 2 1 rfl rfl (by decide) (by decide) (by decide) dX2_change_104 (fun H locs hP hD hS => ?_)
          have hP : va_P (dC, dI) vwCl [(x, .inr (2, [.int (iI 0), .ref n, .ref r, .ref d, .int (iI cn), .int (iI fc), .ref ya, .ref yb, .ref yc, .ref yo, .long (lI (X 0)), .long (lI (X 1)), .long (lI (X 2)), .long (lI (X 3)), .long (lI (X 4)), .long (lI (X 5)), .long (lI (X 6))])), (n, .inl (cI, 5, .inl (aI N))), (r, .inl (cJ, 5, .inr (.inl (aL (iu (iu (iu (iu (iu R 0 (N 2)) 1 (N 1)) 2 (N 0)) 3 (N 3)) 4 (N 4))))))] H := hP
          have hD : va_D A [(x, .inr (2, [.int (iI 0), .ref n, .ref r, .ref d, .int (iI cn), .int (iI fc), .ref ya, .ref yb, .ref yc, .ref yo, .long (lI (X 0)), .long (lI (X 1)), .long (lI (X 2)), .long (lI (X 3)), .long (lI (X 4)), .long (lI (X 5)), .long (lI (X 6))])), (n, .inl (cI, 5, .inl (aI N))), (r, .inl (cJ, 5, .inr (.inl (aL (iu (iu (iu (iu (iu R 0 (N 2)) 1 (N 1)) 2 (N 0)) 3 (N 3)) 4 (N 4))))))] := hD
          refine ix_iinc (k := 0) (lv2 := [(3, .int (iI 5)), (2, .int (iI 2)), (0, .ref x), (1, .int (iI 2))]) hx hb dX2_change_105 hl rfl (by decide) rfl (fun ls hl => ?_)
          refine lv_goto (tgt := 43) hx hb dX2_change_108 (by decide) ?_
          refine lv_iload_n hx hb dX2_change_43 rfl (lv_at hl 0 rfl) ?_
          refine ix_iconst (n := 5) hx hb dX2_change_44 ?_
          refine ix_icmp_ge (tgt := 111) hx hb dX2_change_45 (by decide) (by decide) (by decide) (fun _ => ?_) (fun c72 => absurd c72 (by decide))
          have e9 : iu (iu (iu (iu (iu R 0 (N 2)) 1 (N 1)) 2 (N 0)) 3 (N 3)) 4 (N 4) = f_chg N 2 2 := by funext j; by_cases z : 0 ≤ j ∧ j ≤ 4; rw [chg_2]; unfold iu; grind; rw [chg_5 h5 (by omega) j (by omega)]; have := hR5 j (by omega); unfold iu; grind
          rw [e9] at hP hD
          refine lv_iload_n hx hb dX2_change_111 rfl (lv_at hl 3 rfl) ?_
          refine ix_iconst (n := 1) hx hb dX2_change_112 ?_
          refine ix_icmp_eq (tgt := 121) hx hb dX2_change_113 (by decide) (by decide) (by decide) (fun c73 => absurd c73 (by decide)) (fun _ => ?_)
          refine lv_iload_n hx hb dX2_change_116 rfl (lv_at hl 3 rfl) ?_
          refine ix_iconst (n := (-1)) hx hb dX2_change_117 ?_
          refine ix_icmp_ne (tgt := 171) hx hb dX2_change_118 (by decide) (by decide) (by decide) (fun _ => ?_) (fun c74 => absurd c74 (by decide))
          have e7 : f_chg N 2 2 = f_chg N 2 (f_deg N) := by rw [hg]
          rw [e7] at hP hD
          have hl2 : lv_has ls 5 [(0, .ref x), (1, .int (iI 2)), (2, .int (iI (f_deg N)))] := by rw [hg]; exact lv_sub hl [2, 3, 1] rfl
          exact lp_chT h5 hdeg hh hA hnb ⟨hx, hb, hr, hml, hown, hw, hlocks⟩ 1 (f_chg N 2 (f_deg N)) rfl (chg_5 h5 (by omega)) (chg_b hh hN) (by decide) _ _ hK hP hD hS ls hl2
        · rw [hg] at hl
          refine lv_iload_n hx hb dX2_change_43 rfl (lv_at hl 0 rfl) ?_
          refine ix_iconst (n := 5) hx hb dX2_change_44 ?_
          refine ix_icmp_ge (tgt := 111) hx hb dX2_change_45 (by decide) (by decide) (by decide) (fun c75 => absurd c75 (by decide)) (fun _ => ?_)
          refine lv_aload_n hx hb dX2_change_48 rfl (lv_at hl 2 rfl) ?_
          refine va_get (D := (dC, dI)) (ci := 2) (v := .ref r) (C := RX2) (T := TX2) (N := 17) hx hb hw inX2 hown hK hP 0 rfl rfl 2 (by decide) (hw _ mA_383) (fun _ h9 => h9) rfl dX2_change_49 ?_
          refine lv_iload_n hx hb dX2_change_52 rfl (lv_at hl 0 rfl) ?_
          refine lv_iload_n hx hb dX2_change_53 rfl (lv_at hl 3 rfl) ?_
          refine ix_iconst (n := 2) hx hb dX2_change_54 ?_
          refine ix_icmp_ne (tgt := 75) hx hb dX2_change_55 (by decide) (by decide) (by decide) (fun c76 => absurd c76 (by decide)) (fun _ => ?_)
          refine lv_iload_n hx hb dX2_change_58 rfl (lv_at hl 0 rfl) ?_
          refine lv_iload_n hx hb dX2_change_59 rfl (lv_at hl 1 rfl) ?_
          refine ix_icmp_gt (tgt := 75) hx hb dX2_change_60 (by decide) (by decide) (by decide) (fun c77 => absurd c77 (by decide)) (fun _ => ?_)
          refine lv_aload_n hx hb dX2_change_63 rfl (lv_at hl 2 rfl) ?_
          refine va_get (D := (dC, dI)) (ci := 2) (v := .ref n) (C := RX2) (T := TX2) (N := 17) hx hb hw inX2 hown hK hP 0 rfl rfl 1 (by decide) (hw _ mA_382) (fun _ h9 => h9) rfl dX2_change_64 ?_
          refine lv_iload_n hx hb dX2_change_67 rfl (lv_at hl 1 rfl) ?_
          refine lv_iload_n hx hb dX2_change_68 rfl (lv_at hl 0 rfl) ?_
          refine ix_isub hx hb dX2_change_69 ?_
          refine ix_z (y := 3) rfl ?_
          refine ix_iald (k := 3) hx hb hK hP 1 0 rfl rfl (by decide) (by decide) (by decide) dX2_change_70 ?_
          refine ix_i2l hx hb dX2_change_71 (by have := hN 3; omega) ?_
          refine lv_goto (tgt := 104) hx hb dX2_change_72 (by decide) ?_
          refine ix_last (k := 0) (x := N 3) hx hb hK hP hD hS 2 1 rfl rfl (by decide) (by decide) (by decide) dX2_change_104 (fun H locs hP hD hS => ?_)
          have hP : va_P (dC, dI) vwCl [(x, .inr (2, [.int (iI 0), .ref n, .ref r, .ref d, .int (iI cn), .int (iI fc), .ref ya, .ref yb, .ref yc, .ref yo, .long (lI (X 0)), .long (lI (X 1)), .long (lI (X 2)), .long (lI (X 3)), .long (lI (X 4)), .long (lI (X 5)), .long (lI (X 6))])), (n, .inl (cI, 5, .inl (aI N))), (r, .inl (cJ, 5, .inr (.inl (aL (iu R 0 (N 3))))))] H := hP
          have hD : va_D A [(x, .inr (2, [.int (iI 0), .ref n, .ref r, .ref d, .int (iI cn), .int (iI fc), .ref ya, .ref yb, .ref yc, .ref yo, .long (lI (X 0)), .long (lI (X 1)), .long (lI (X 2)), .long (lI (X 3)), .long (lI (X 4)), .long (lI (X 5)), .long (lI (X 6))])), (n, .inl (cI, 5, .inl (aI N))), (r, .inl (cJ, 5, .inr (.inl (aL (iu R 0 (N 3))))))] := hD
          refine ix_iinc (k := 0) (lv2 := [(3, .int (iI 1)), (2, .int (iI 3)), (0, .ref x), (1, .int (iI 2))]) hx hb dX2_change_105 hl rfl (by decide) rfl (fun ls hl => ?_)
          refine lv_goto (tgt := 43) hx hb dX2_change_108 (by decide) ?_
          refine lv_iload_n hx hb dX2_change_43 rfl (lv_at hl 0 rfl) ?_
          refine ix_iconst (n := 5) hx hb dX2_change_44 ?_
          refine ix_icmp_ge (tgt := 111) hx hb dX2_change_45 (by decide) (by decide) (by decide) (fun c78 => absurd c78 (by decide)) (fun _ => ?_)
          refine lv_aload_n hx hb dX2_change_48 rfl (lv_at hl 2 rfl) ?_
          refine va_get (D := (dC, dI)) (ci := 2) (v := .ref r) (C := RX2) (T := TX2) (N := 17) hx hb hw inX2 hown hK hP 0 rfl rfl 2 (by decide) (hw _ mA_383) (fun _ h9 => h9) rfl dX2_change_49 ?_
          refine lv_iload_n hx hb dX2_change_52 rfl (lv_at hl 0 rfl) ?_
          refine lv_iload_n hx hb dX2_change_53 rfl (lv_at hl 3 rfl) ?_
          refine ix_iconst (n := 2) hx hb dX2_change_54 ?_
          refine ix_icmp_ne (tgt := 75) hx hb dX2_change_55 (by decide) (by decide) (by decide) (fun c79 => absurd c79 (by decide)) (fun _ => ?_)
          refine lv_iload_n hx hb dX2_change_58 rfl (lv_at hl 0 rfl) ?_
          refine lv_iload_n hx hb dX2_change_59 rfl (lv_at hl 1 rfl) ?_
          refine ix_icmp_gt (tgt := 75) hx hb dX2_change_60 (by decide) (by decide) (by decide) (fun c80 => absurd c80 (by decide)) (fun _ => ?_)
          refine lv_aload_n hx hb dX2_change_63 rfl (lv_at hl 2 rfl) ?_
          refine va_get (D := (dC, dI)) (ci := 2) (v := .ref n) (C := RX2) (T := TX2) (N := 17) hx hb hw inX2 hown hK hP 0 rfl rfl 1 (by decide) (hw _ mA_382) (fun _ h9 => h9) rfl dX2_change_64 ?_
          refine lv_iload_n hx hb dX2_change_67 rfl (lv_at hl 1 rfl) ?_
          refine lv_iload_n hx hb dX2_change_68 rfl (lv_at hl 0 rfl) ?_
          refine ix_isub hx hb dX2_change_69 ?_
          refine ix_z (y := 2) rfl ?_
          refine ix_iald (k := 2) hx hb hK hP 1 0 rfl rfl (by decide) (by decide) (by decide) dX2_change_70 ?_
          refine ix_i2l hx hb dX2_change_71 (by have := hN 2; omega) ?_
          refine lv_goto (tgt := 104) hx hb dX2_change_72 (by decide) ?_
          refine ix_last (k := 1) (x := N 2) hx hb hK hP hD hS 2 1 rfl rfl (by decide) (by decide) (by decide) dX2_change_104 (fun H locs hP hD hS => ?_)
          have hP : va_P (dC, dI) vwCl [(x, .inr (2, [.int (iI 0), .ref n, .ref r, .ref d, .int (iI cn), .int (iI fc), .ref ya, .ref yb, .ref yc, .ref yo, .long (lI (X 0)), .long (lI (X 1)), .long (lI (X 2)), .long (lI (X 3)), .long (lI (X 4)), .long (lI (X 5)), .long (lI (X 6))])), (n, .inl (cI, 5, .inl (aI N))), (r, .inl (cJ, 5, .inr (.inl (aL (iu (iu R 0 (N 3)) 1 (N 2))))))] H := hP
          have hD : va_D A [(x, .inr (2, [.int (iI 0), .ref n, .ref r, .ref d, .int (iI cn), .int (iI fc), .ref ya, .ref yb, .ref yc, .ref yo, .long (lI (X 0)), .long (lI (X 1)), .long (lI (X 2)), .long (lI (X 3)), .long (lI (X 4)), .long (lI (X 5)), .long (lI (X 6))])), (n, .inl (cI, 5, .inl (aI N))), (r, .inl (cJ, 5, .inr (.inl (aL (iu (iu R 0 (N 3)) 1 (N 2))))))] := hD
          refine ix_iinc (k := 0) (lv2 := [(3, .int (iI 2)), (2, .int (iI 3)), (0, .ref x), (1, .int (iI 2))]) hx hb dX2_change_105 hl rfl (by decide) rfl (fun ls hl => ?_)
          refine lv_goto (tgt := 43) hx hb dX2_change_108 (by decide) ?_
          refine lv_iload_n hx hb dX2_change_43 rfl (lv_at hl 0 rfl) ?_
          refine ix_iconst (n := 5) hx hb dX2_change_44 ?_
          refine ix_icmp_ge (tgt := 111) hx hb dX2_change_45 (by decide) (by decide) (by decide) (fun c81 => absurd c81 (by decide)) (fun _ => ?_)
          refine lv_aload_n hx hb dX2_change_48 rfl (lv_at hl 2 rfl) ?_
          refine va_get (D := (dC, dI)) (ci := 2) (v := .ref r) (C := RX2) (T := TX2) (N := 17) hx hb hw inX2 hown hK hP 0 rfl rfl 2 (by decide) (hw _ mA_383) (fun _ h9 => h9) rfl dX2_change_49 ?_
          refine lv_iload_n hx hb dX2_change_52 rfl (lv_at hl 0 rfl) ?_
          refine lv_iload_n hx hb dX2_change_53 rfl (lv_at hl 3 rfl) ?_
          refine ix_iconst (n := 2) hx hb dX2_change_54 ?_
          refine ix_icmp_ne (tgt := 75) hx hb dX2_change_55 (by decide) (by decide) (by decide) (fun c82 => absurd c82 (by decide)) (fun _ => ?_)
          refine lv_iload_n hx hb dX2_change_58 rfl (lv_at hl 0 rfl) ?_
          refine lv_iload_n hx hb dX2_change_59 rfl (lv_at hl 1 rfl) ?_
          refine ix_icmp_gt (tgt := 75) hx hb dX2_change_60 (by decide) (by decide) (by decide) (fun c83 => absurd c83 (by decide)) (fun _ => ?_)
          refine lv_aload_n hx hb dX2_change_63 rfl (lv_at hl 2 rfl) ?_
          refine va_get (D := (dC, dI)) (ci := 2) (v := .ref n) (C := RX2) (T := TX2) (N := 17) hx hb hw inX2 hown hK hP 0 rfl rfl 1 (by decide) (hw _ mA_382) (fun _ h9 => h9) rfl dX2_change_64 ?_
          refine lv_iload_n hx hb dX2_change_67 rfl (lv_at hl 1 rfl) ?_
          refine lv_iload_n hx hb dX2_change_68 rfl (lv_at hl 0 rfl) ?_
          refine ix_isub hx hb dX2_change_69 ?_
          refine ix_z (y := 1) rfl ?_
          refine ix_iald (k := 1) hx hb hK hP 1 0 rfl rfl (by decide) (by decide) (by decide) dX2_change_70 ?_
          refine ix_i2l hx hb dX2_change_71 (by have := hN 1; omega) ?_
          refine lv_goto (tgt := 104) hx hb dX2_change_72 (by decide) ?_
          refine ix_last (k := 2) (x := N 1) hx hb hK hP hD hS 2 1 rfl rfl (by decide) (by decide) (by decide) dX2_change_104 (fun H locs hP hD hS => ?_)
          have hP : va_P (dC, dI) vwCl [(x, .inr (2, [.int (iI 0), .ref n, .ref r, .ref d, .int (iI cn), .int (iI fc), .ref ya, .ref yb, .ref yc, .ref yo, .long (lI (X 0)), .long (lI (X 1)), .long (lI (X 2)), .long (lI (X 3)), .long (lI (X 4)), .long (lI (X 5)), .long (lI (X 6))])), (n, .inl (cI, 5, .inl (aI N))), (r, .inl (cJ, 5, .inr (.inl (aL (iu (iu (iu R 0 (N 3)) 1 (N 2)) 2 (N 1))))))] H := hP
          have hD : va_D A [(x, .inr (2, [.int (iI 0), .ref n, .ref r, .ref d, .int (iI cn), .int (iI fc), .ref ya, .ref yb, .ref yc, .ref yo, .long (lI (X 0)), .long (lI (X 1)), .long (lI (X 2)), .long (lI (X 3)), .long (lI (X 4)), .long (lI (X 5)), .long (lI (X 6))])), (n, .inl (cI, 5, .inl (aI N))), (r, .inl (cJ, 5, .inr (.inl (aL (iu (iu (iu R 0 (N 3)) 1 (N 2)) 2 (N 1))))))] := hD
          refine ix_iinc (k := 0) (lv2 := [(3, .int (iI 3)), (2, .int (iI 3)), (0, .ref x), (1, .int (iI 2))]) hx hb dX2_change_105 hl rfl (by decide) rfl (fun ls hl => ?_)
          refine lv_goto (tgt := 43) hx hb dX2_change_108 (by decide) ?_
          refine lv_iload_n hx hb dX2_change_43 rfl (lv_at hl 0 rfl) ?_
          refine ix_iconst (n := 5) hx hb dX2_change_44 ?_
          refine ix_icmp_ge (tgt := 111) hx hb dX2_change_45 (by decide) (by decide) (by decide) (fun c84 => absurd c84 (by decide)) (fun _ => ?_)
          refine lv_aload_n hx hb dX2_change_48 rfl (lv_at hl 2 rfl) ?_
          refine va_get (D := (dC, dI)) (ci := 2) (v := .ref r) (C := RX2) (T := TX2) (N := 17) hx hb hw inX2 hown hK hP 0 rfl rfl 2 (by decide) (hw _ mA_383) (fun _ h9 => h9) rfl dX2_change_49 ?_
          refine lv_iload_n hx hb dX2_change_52 rfl (lv_at hl 0 rfl) ?_
          refine lv_iload_n hx hb dX2_change_53 rfl (lv_at hl 3 rfl) ?_
          refine ix_iconst (n := 2) hx hb dX2_change_54 ?_
          refine ix_icmp_ne (tgt := 75) hx hb dX2_change_55 (by decide) (by decide) (by decide) (fun c85 => absurd c85 (by decide)) (fun _ => ?_)
          refine lv_iload_n hx hb dX2_change_58 rfl (lv_at hl 0 rfl) ?_
          refine lv_iload_n hx hb dX2_change_59 rfl (lv_at hl 1 rfl) ?_
          refine ix_icmp_gt (tgt := 75) hx hb dX2_change_60 (by decide) (by decide) (by decide) (fun c86 => absurd c86 (by decide)) (fun _ => ?_)
          refine lv_aload_n hx hb dX2_change_63 rfl (lv_at hl 2 rfl) ?_
          refine va_get (D := (dC, dI)) (ci := 2) (v := .ref n) (C := RX2) (T := TX2) (N := 17) hx hb hw inX2 hown hK hP 0 rfl rfl 1 (by decide) (hw _ mA_382) (fun _ h9 => h9) rfl dX2_change_64 ?_
          refine lv_iload_n hx hb dX2_change_67 rfl (lv_at hl 1 rfl) ?_
          refine lv_iload_n hx hb dX2_change_68 rfl (lv_at hl 0 rfl) ?_
          refine ix_isub hx hb dX2_change_69 ?_
          refine ix_z (y := 0) rfl ?_
          refine ix_iald (k := 0) hx hb hK hP 1 0 rfl rfl (by decide) (by decide) (by decide) dX2_change_70 ?_
          refine ix_i2l hx hb dX2_change_71 (by have := hN 0; omega) ?_
          refine lv_goto (tgt := 104) hx hb dX2_change_72 (by decide) ?_
          refine ix_last (k := 3) (x := N 0) hx hb hK hP hD hS 2 1 rfl rfl (by decide) (by decide) (by decide) dX2_change_104 (fun H locs hP hD hS => ?_)
          have hP : va_P (dC, dI) vwCl [(x, .inr (2, [.int (iI 0), .ref n, .ref r, .ref d, .int (iI cn), .int (iI fc), .ref ya, .ref yb, .ref yc, .ref yo, .long (lI (X 0)), .long (lI (X 1)), .long (lI (X 2)), .long (lI (X 3)), .long (lI (X 4)), .long (lI (X 5)), .long (lI (X 6))])), (n, .inl (cI, 5, .inl (aI N))), (r, .inl (cJ, 5, .inr (.inl (aL (iu (iu (iu (iu R 0 (N 3)) 1 (N 2)) 2 (N 1)) 3 (N 0))))))] H := hP
          have hD : va_D A [(x, .inr (2, [.int (iI 0), .ref n, .ref r, .ref d, .int (iI cn), .int (iI fc), .ref ya, .ref yb, .ref yc, .ref yo, .long (lI (X 0)), .long (lI (X 1)), .long (lI (X 2)), .long (lI (X 3)), .long (lI (X 4)), .long (lI (X 5)), .long (lI (X 6))])), (n, .inl (cI, 5, .inl (aI N))), (r, .inl (cJ, 5, .inr (.inl (aL (iu (iu (iu (iu R 0 (N 3)) 1 (N 2)) 2 (N 1)) 3 (N 0))))))] := hD
          refine ix_iinc (k := 0) (lv2 := [(3, .int (iI 4)), (2, .int (iI 3)), (0, .ref x), (1, .int (iI 2))]) hx hb dX2_change_105 hl rfl (by decide) rfl (fun ls hl => ?_)
          refine lv_goto (tgt := 43) hx hb dX2_change_108 (by decide) ?_
          refine lv_iload_n hx hb dX2_change_43 rfl (lv_at hl 0 rfl) ?_
          refine ix_iconst (n := 5) hx hb dX2_change_44 ?_
          refine ix_icmp_ge (tgt := 111) hx hb dX2_change_45 (by decide) (by decide) (by decide) (fun c87 => absurd c87 (by decide)) (fun _ => ?_)
          refine lv_aload_n hx hb dX2_change_48 rfl (lv_at hl 2 rfl) ?_
          refine va_get (D := (dC, dI)) (ci := 2) (v := .ref r) (C := RX2) (T := TX2) (N := 17) hx hb hw inX2 hown hK hP 0 rfl rfl 2 (by decide) (hw _ mA_383) (fun _ h9 => h9) rfl dX2_change_49 ?_
          refine lv_iload_n hx hb dX2_change_52 rfl (lv_at hl 0 rfl) ?_
          refine lv_iload_n hx hb dX2_change_53 rfl (lv_at hl 3 rfl) ?_
          refine ix_iconst (n := 2) hx hb dX2_change_54 ?_
          refine ix_icmp_ne (tgt := 75) hx hb dX2_change_55 (by decide) (by decide) (by decide) (fun c88 => absurd c88 (by decide)) (fun _ => ?_)
          refine lv_iload_n hx hb dX2_change_58 rfl (lv_at hl 0 rfl) ?_
          refine lv_iload_n hx hb dX2_change_59 rfl (lv_at hl 1 rfl) ?_
          refine ix_icmp_gt (tgt := 75) hx hb dX2_change_60 (by decide) (by decide) (by decide) (fun _ => ?_) (fun c89 => absurd c89 (by decide))
          refine lv_iload_n hx hb dX2_change_75 rfl (lv_at hl 3 rfl) ?_
          refine ix_if_ne (tgt := 97) hx hb dX2_change_76 (by decide) (by decide) (fun _ => ?_) (fun c90 => absurd c90 (by decide))
          refine lv_aload_n hx hb dX2_change_97 rfl (lv_at hl 2 rfl) ?_
          refine va_get (D := (dC, dI)) (ci := 2) (v := .ref n) (C := RX2) (T := TX2) (N := 17) hx hb hw inX2 hown hK hP 0 rfl rfl 1 (by decide) (hw _ mA_382) (fun _ h9 => h9) rfl dX2_change_98 ?_
          refine lv_iload_n hx hb dX2_change_101 rfl (lv_at hl 0 rfl) ?_
          refine ix_iald (k := 4) hx hb hK hP 1 0 rfl rfl (by decide) (by decide) (by decide) dX2_change_102 ?_
          refine ix_i2l hx hb dX2_change_103 (by have := hN 4; omega) ?_
          refine ix_last (k := 4) (x := N 4) hx hb hK hP hD hS 2 1 rfl rfl (by decide) (by decide) (by decide) dX2_change_104 (fun H locs hP hD hS => ?_)
          have hP : va_P (dC, dI) vwCl [(x, .inr (2, [.int (iI 0), .ref n, .ref r, .ref d, .int (iI cn), .int (iI fc), .ref ya, .ref yb, .ref yc, .ref yo, .long (lI (X 0)), .long (lI (X 1)), .long (lI (X 2)), .long (lI (X 3)), .long (lI (X 4)), .long (lI (X 5)), .long (lI (X 6))])), (n, .inl (cI, 5, .inl (aI N))), (r, .inl (cJ, 5, .inr (.inl (aL (iu (iu (iu (iu (iu R 0 (N 3)) 1 (N 2)) 2 (N 1)) 3 (N 0)) 4 (N 4))))))] H := hP
          have hD : va_D A [(x, .inr (2, [.int (iI 0), .ref n, .ref r, .ref d, .int (iI cn), .int (iI fc), .ref ya, .ref yb, .ref yc, .ref yo, .long (lI (X 0)), .long (lI (X 1)), .long (lI (X 2)), .long (lI (X 3)), .long (lI (X 4)), .long (lI (X 5)), .long (lI (X 6))])), (n, .inl (cI, 5, .inl (aI N))), (r, .inl (cJ, 5, .inr (.inl (aL (iu (iu (iu (iu (iu R 0 (N 3)) 1 (N 2)) 2 (N 1)) 3 (N 0)) 4 (N 4))))))] := hD
          refine ix_iinc (k := 0) (lv2 := [(3, .int (iI 5)), (2, .int (iI 3)), (0, .ref x), (1, .int (iI 2))]) hx hb dX2_change_105 hl rfl (by decide) rfl (fun ls hl => ?_)
          refine lv_goto (tgt := 43) hx hb dX2_change_108 (by decide) ?_
          refine lv_iload_n hx hb dX2_change_43 rfl (lv_at hl 0 rfl) ?_
          refine ix_iconst (n := 5) hx hb dX2_change_44 ?_
          refine ix_icmp_ge (tgt := 111) hx hb dX2_change_45 (by decide) (by decide) (by decide) (fun _ => ?_) (fun c91 => absurd c91 (by decide))
          have e9 : iu (iu (iu (iu (iu R 0 (N 3)) 1 (N 2)) 2 (N 1)) 3 (N 0)) 4 (N 4) = f_chg N 2 3 := by funext j; by_cases z : 0 ≤ j ∧ j ≤ 4; rw [chg_2]; unfold iu; grind; rw [chg_5 h5 (by omega) j (by omega)]; have := hR5 j (by omega); unfold iu; grind
          rw [e9] at hP hD
          refine lv_iload_n hx hb dX2_change_111 rfl (lv_at hl 3 rfl) ?_
          refine ix_iconst (n := 1) hx hb dX2_change_112 ?_
          refine ix_icmp_eq (tgt := 121) hx hb dX2_change_113 (by decide) (by decide) (by decide) (fun c92 => absurd c92 (by decide)) (fun _ => ?_)
          refine lv_iload_n hx hb dX2_change_116 rfl (lv_at hl 3 rfl) ?_
          refine ix_iconst (n := (-1)) hx hb dX2_change_117 ?_
          refine ix_icmp_ne (tgt := 171) hx hb dX2_change_118 (by decide) (by decide) (by decide) (fun _ => ?_) (fun c93 => absurd c93 (by decide))
          have e7 : f_chg N 2 3 = f_chg N 2 (f_deg N) := by rw [hg]
          rw [e7] at hP hD
          have hl2 : lv_has ls 5 [(0, .ref x), (1, .int (iI 2)), (2, .int (iI (f_deg N)))] := by rw [hg]; exact lv_sub hl [2, 3, 1] rfl
          exact lp_chT h5 hdeg hh hA hnb ⟨hx, hb, hr, hml, hown, hw, hlocks⟩ 1 (f_chg N 2 (f_deg N)) rfl (chg_5 h5 (by omega)) (chg_b hh hN) (by decide) _ _ hK hP hD hS ls hl2
        · rw [hg] at hl
          refine lv_iload_n hx hb dX2_change_43 rfl (lv_at hl 0 rfl) ?_
          refine ix_iconst (n := 5) hx hb dX2_change_44 ?_
          refine ix_icmp_ge (tgt := 111) hx hb dX2_change_45 (by decide) (by decide) (by decide) (fun c94 => absurd c94 (by decide)) (fun _ => ?_)
          refine lv_aload_n hx hb dX2_change_48 rfl (lv_at hl 2 rfl) ?_
          refine va_get (D := (dC, dI)) (ci := 2) (v := .ref r) (C := RX2) (T := TX2) (N := 17) hx hb hw inX2 hown hK hP 0 rfl rfl 2 (by decide) (hw _ mA_383) (fun _ h9 => h9) rfl dX2_change_49 ?_
          refine lv_iload_n hx hb dX2_change_52 rfl (lv_at hl 0 rfl) ?_
          refine lv_iload_n hx hb dX2_change_53 rfl (lv_at hl 3 rfl) ?_
          refine ix_iconst (n := 2) hx hb dX2_change_54 ?_
          refine ix_icmp_ne (tgt := 75) hx hb dX2_change_55 (by decide) (by decide) (by decide) (fun c95 => absurd c95 (by decide)) (fun _ => ?_)
          refine lv_iload_n hx hb dX2_change_58 rfl (lv_at hl 0 rfl) ?_
          refine lv_iload_n hx hb dX2_change_59 rfl (lv_at hl 1 rfl) ?_
          refine ix_icmp_gt (tgt := 75) hx hb dX2_change_60 (by decide) (by decide) (by decide) (fun c96 => absurd c96 (by decide)) (fun _ => ?_)
          refine lv_aload_n hx hb dX2_change_63 rfl (lv_at hl 2 rfl) ?_
          refine va_get (D := (dC, dI)) (ci := 2) (v := .ref n) (C := RX2) (T := TX2) (N := 17) hx hb hw inX2 hown hK hP 0 rfl rfl 1 (by decide) (hw _ mA_382) (fun _ h9 => h9) rfl dX2_change_64 ?_
          refine lv_iload_n hx hb dX2_change_67 rfl (lv_at hl 1 rfl) ?_
          refine lv_iload_n hx hb dX2_change_68 rfl (lv_at hl 0 rfl) ?_
          refine ix_isub hx hb dX2_change_69 ?_
          refine ix_z (y := 4) rfl ?_
          refine ix_iald (k := 4) hx hb hK hP 1 0 rfl rfl (by decide) (by decide) (by decide) dX2_change_70 ?_
          refine ix_i2l hx hb dX2_change_71 (by have := hN 4; omega) ?_
          refine lv_goto (tgt := 104) hx hb dX2_change_72 (by decide) ?_
          refine ix_last (k := 0) (x := N 4) hx hb hK hP hD hS 2 1 rfl rfl (by decide) (by decide) (by decide) dX2_change_104 (fun H locs hP hD hS => ?_)
          have hP : va_P (dC, dI) vwCl [(x, .inr (2, [.int (iI 0), .ref n, .ref r, .ref d, .int (iI cn), .int (iI fc), .ref ya, .ref yb, .ref yc, .ref yo, .long (lI (X 0)), .long (lI (X 1)), .long (lI (X 2)), .long (lI (X 3)), .long (lI (X 4)), .long (lI (X 5)), .long (lI (X 6))])), (n, .inl (cI, 5, .inl (aI N))), (r, .inl (cJ, 5, .inr (.inl (aL (iu R 0 (N 4))))))] H := hP
          have hD : va_D A [(x, .inr (2, [.int (iI 0), .ref n, .ref r, .ref d, .int (iI cn), .int (iI fc), .ref ya, .ref yb, .ref yc, .ref yo, .long (lI (X 0)), .long (lI (X 1)), .long (lI (X 2)), .long (lI (X 3)), .long (lI (X 4)), .long (lI (X 5)), .long (lI (X 6))])), (n, .inl (cI, 5, .inl (aI N))), (r, .inl (cJ, 5, .inr (.inl (aL (iu R 0 (N 4))))))] := hD
          refine ix_iinc (k := 0) (lv2 := [(3, .int (iI 1)), (2, .int (iI 4)), (0, .ref x), (1, .int (iI 2))]) hx hb dX2_change_105 hl rfl (by decide) rfl (fun ls hl => ?_)
          refine lv_goto (tgt := 43) hx hb dX2_change_108 (by decide) ?_
          refine lv_iload_n hx hb dX2_change_43 rfl (lv_at hl 0 rfl) ?_
          refine ix_iconst (n := 5) hx hb dX2_change_44 ?_
          refine ix_icmp_ge (tgt := 111) hx hb dX2_change_45 (by decide) (by decide) (by decide) (fun c97 => absurd c97 (by decide)) (fun _ => ?_)
          refine lv_aload_n hx hb dX2_change_48 rfl (lv_at hl 2 rfl) ?_
          refine va_get (D := (dC, dI)) (ci := 2) (v := .ref r) (C := RX2) (T := TX2) (N := 17) hx hb hw inX2 hown hK hP 0 rfl rfl 2 (by decide) (hw _ mA_383) (fun _ h9 => h9) rfl dX2_change_49 ?_
          refine lv_iload_n hx hb dX2_change_52 rfl (lv_at hl 0 rfl) ?_
          refine lv_iload_n hx hb dX2_change_53 rfl (lv_at hl 3 rfl) ?_
          refine ix_iconst (n := 2) hx hb dX2_change_54 ?_
          refine ix_icmp_ne (tgt := 75) hx hb dX2_change_55 (by decide) (by decide) (by decide) (fun c98 => absurd c98 (by decide)) (fun _ => ?_)
          refine lv_iload_n hx hb dX2_change_58 rfl (lv_at hl 0 rfl) ?_
          refine lv_iload_n hx hb dX2_change_59 rfl (lv_at hl 1 rfl) ?_
          refine ix_icmp_gt (tgt := 75) hx hb dX2_change_60 (by decide) (by decide) (by decide) (fun c99 => absurd c99 (by decide)) (fun _ => ?_)
          refine lv_aload_n hx hb dX2_change_63 rfl (lv_at hl 2 rfl) ?_
          refine va_get (D := (dC, dI)) (ci := 2) (v := .ref n) (C := RX2) (T := TX2) (N := 17) hx hb hw inX2 hown hK hP 0 rfl rfl 1 (by decide) (hw _ mA_382) (fun _ h9 => h9) rfl dX2_change_64 ?_
          refine lv_iload_n hx hb dX2_change_67 rfl (lv_at hl 1 rfl) ?_
          refine lv_iload_n hx hb dX2_change_68 rfl (lv_at hl 0 rfl) ?_
          refine ix_isub hx hb dX2_change_69 ?_
          refine ix_z (y := 3) rfl ?_
          refine ix_iald (k := 3) hx hb hK hP 1 0 rfl rfl (by decide) (by decide) (by decide) dX2_change_70 ?_
          refine ix_i2l hx hb dX2_change_71 (by have := hN 3; omega) ?_
          refine lv_goto (tgt := 104) hx hb dX2_change_72 (by decide) ?_
          refine ix_last (k := 1) (x := N 3) hx hb hK hP hD hS 2 1 rfl rfl (by decide) (by decide) (by decide) dX2_change_104 (fun H locs hP hD hS => ?_)
          have hP : va_P (dC, dI) vwCl [(x, .inr (2, [.int (iI 0), .ref n, .ref r, .ref d, .int (iI cn), .int (iI fc), .ref ya, .ref yb, .ref yc, .ref yo, .long (lI (X 0)), .long (lI (X 1)), .long (lI (X 2)), .long (lI (X 3)), .long (lI (X 4)), .long (lI (X 5)), .long (lI (X 6))])), (n, .inl (cI, 5, .inl (aI N))), (r, .inl (cJ, 5, .inr (.inl (aL (iu (iu R 0 (N 4)) 1 (N 3))))))] H := hP
          have hD : va_D A [(x, .inr (2, [.int (iI 0), .ref n, .ref r, .ref d, .int (iI cn), .int (iI fc), .ref ya, .ref yb, .ref yc, .ref yo, .long (lI (X 0)), .long (lI (X 1)), .long (lI (X 2)), .long (lI (X 3)), .long (lI (X 4)), .long (lI (X 5)), .long (lI (X 6))])), (n, .inl (cI, 5, .inl (aI N))), (r, .inl (cJ, 5, .inr (.inl (aL (iu (iu R 0 (N 4)) 1 (N 3))))))] := hD
          refine ix_iinc (k := 0) (lv2 := [(3, .int (iI 2)), (2, .int (iI 4)), (0, .ref x), (1, .int (iI 2))]) hx hb dX2_change_105 hl rfl (by decide) rfl (fun ls hl => ?_)
          refine lv_goto (tgt := 43) hx hb dX2_change_108 (by decide) ?_
          refine lv_iload_n hx hb dX2_change_43 rfl (lv_at hl 0 rfl) ?_
          refine ix_iconst (n := 5) hx hb dX2_change_44 ?_
          refine ix_icmp_ge (tgt := 111) hx hb dX2_change_45 (by decide) (by decide) (by decide) (fun c100 => absurd c100 (by decide)) (fun _ => ?_)
          refine lv_aload_n hx hb dX2_change_48 rfl (lv_at hl 2 rfl) ?_
          refine va_get (D := (dC, dI)) (ci := 2) (v := .ref r) (C := RX2) (T := TX2) (N := 17) hx hb hw inX2 hown hK hP 0 rfl rfl 2 (by decide) (hw _ mA_383) (fun _ h9 => h9) rfl dX2_change_49 ?_
          refine lv_iload_n hx hb dX2_change_52 rfl (lv_at hl 0 rfl) ?_
          refine lv_iload_n hx hb dX2_change_53 rfl (lv_at hl 3 rfl) ?_
          refine ix_iconst (n := 2) hx hb dX2_change_54 ?_
          refine ix_icmp_ne (tgt := 75) hx hb dX2_change_55 (by decide) (by decide) (by decide) (fun c101 => absurd c101 (by decide)) (fun _ => ?_)
          refine lv_iload_n hx hb dX2_change_58 rfl (lv_at hl 0 rfl) ?_
          refine lv_iload_n hx hb dX2_change_59 rfl (lv_at hl 1 rfl) ?_
          refine ix_icmp_gt (tgt := 75) hx hb dX2_change_60 (by decide) (by decide) (by decide) (fun c102 => absurd c102 (by decide)) (fun _ => ?_)
          refine lv_aload_n hx hb dX2_change_63 rfl (lv_at hl 2 rfl) ?_
          refine va_get (D := (dC, dI)) (ci := 2) (v := .ref n) (C := RX2) (T := TX2) (N := 17) hx hb hw inX2 hown hK hP 0 rfl rfl 1 (by decide) (hw _ mA_382) (fun _ h9 => h9) rfl dX2_change_64 ?_
          refine lv_iload_n hx hb dX2_change_67 rfl (lv_at hl 1 rfl) ?_
          refine lv_iload_n hx hb dX2_change_68 rfl (lv_at hl 0 rfl) ?_
          refine ix_isub hx hb dX2_change_69 ?_
          refine ix_z (y := 2) rfl ?_
          refine ix_iald (k := 2) hx hb hK hP 1 0 rfl rfl (by decide) (by decide) (by decide) dX2_change_70 ?_
          refine ix_i2l hx hb dX2_change_71 (by have := hN 2; omega) ?_
          refine lv_goto (tgt := 104) hx hb dX2_change_72 (by decide) ?_
          refine ix_last (k := 2) (x := N 2) hx hb hK hP hD hS 2 1 rfl rfl (by decide) (by decide) (by decide) dX2_change_104 (fun H locs hP hD hS => ?_)
          have hP : va_P (dC, dI) vwCl [(x, .inr (2, [.int (iI 0), .ref n, .ref r, .ref d, .int (iI cn), .int (iI fc), .ref ya, .ref yb, .ref yc, .ref yo, .long (lI (X 0)), .long (lI (X 1)), .long (lI (X 2)), .long (lI (X 3)), .long (lI (X 4)), .long (lI (X 5)), .long (lI (X 6))])), (n, .inl (cI, 5, .inl (aI N))), (r, .inl (cJ, 5, .inr (.inl (aL (iu (iu (iu R 0 (N 4)) 1 (N 3)) 2 (N 2))))))] H := hP
          have hD : va_D A [(x, .inr (2, [.int (iI 0), .ref n, .ref r, .ref d, .int (iI cn), .int (iI fc), .ref ya, .ref yb, .ref yc, .ref yo, .long (lI (X 0)), .long (lI (X 1)), .long (lI (X 2)), .long (lI (X 3)), .long (lI (X 4)), .long (lI (X 5)), .long (lI (X 6))])), (n, .inl (cI, 5, .inl (aI N))), (r, .inl (cJ, 5, .inr (.inl (aL (iu (iu (iu R 0 (N 4)) 1 (N 3)) 2 (N 2))))))] := hD
          refine ix_iinc (k := 0) (lv2 := [(3, .int (iI 3)), (2, .int (iI 4)), (0, .ref x), (1, .int (iI 2))]) hx hb dX2_change_105 hl rfl (by decide) rfl (fun ls hl => ?_)
          refine lv_goto (tgt := 43) hx hb dX2_change_108 (by decide) ?_
          refine lv_iload_n hx hb dX2_change_43 rfl (lv_at hl 0 rfl) ?_
          refine ix_iconst (n := 5) hx hb dX2_change_44 ?_
          refine ix_icmp_ge (tgt := 111) hx hb dX2_change_45 (by decide) (by decide) (by decide) (fun c103 => absurd c103 (by decide)) (fun _ => ?_)
          refine lv_aload_n hx hb dX2_change_48 rfl (lv_at hl 2 rfl) ?_
          refine va_get (D := (dC, dI)) (ci := 2) (v := .ref r) (C := RX2) (T := TX2) (N := 17) hx hb hw inX2 hown hK hP 0 rfl rfl 2 (by decide) (hw _ mA_383) (fun _ h9 => h9) rfl dX2_change_49 ?_
          refine lv_iload_n hx hb dX2_change_52 rfl (lv_at hl 0 rfl) ?_
          refine lv_iload_n hx hb dX2_change_53 rfl (lv_at hl 3 rfl) ?_
          refine ix_iconst (n := 2) hx hb dX2_change_54 ?_
          refine ix_icmp_ne (tgt := 75) hx hb dX2_change_55 (by decide) (by decide) (by decide) (fun c104 => absurd c104 (by decide)) (fun _ => ?_)
          refine lv_iload_n hx hb dX2_change_58 rfl (lv_at hl 0 rfl) ?_
          refine lv_iload_n hx hb dX2_change_59 rfl (lv_at hl 1 rfl) ?_
          refine ix_icmp_gt (tgt := 75) hx hb dX2_change_60 (by decide) (by decide) (by decide) (fun c105 => absurd c105 (by decide)) (fun _ => ?_)
          refine lv_aload_n hx hb dX2_change_63 rfl (lv_at hl 2 rfl) ?_
          refine va_get (D := (dC, dI)) (ci := 2) (v := .ref n) (C := RX2) (T := TX2) (N := 17) hx hb hw inX2 hown hK hP 0 rfl rfl 1 (by decide) (hw _ mA_382) (fun _ h9 => h9) rfl dX2_change_64 ?_
          refine lv_iload_n hx hb dX2_change_67 rfl (lv_at hl 1 rfl) ?_
          refine lv_iload_n hx hb dX2_change_68 rfl (lv_at hl 0 rfl) ?_
          refine ix_isub hx hb dX2_change_69 ?_
          refine ix_z (y := 1) rfl ?_
          refine ix_iald (k := 1) hx hb hK hP 1 0 rfl rfl (by decide) (by decide) (by decide) dX2_change_70 ?_
          refine ix_i2l hx hb dX2_change_71 (by have := hN 1; omega) ?_
          refine lv_goto (tgt := 104) hx hb dX2_change_72 (by decide) ?_
          refine ix_last (k := 3) (x := N 1) hx hb hK hP hD hS 2 1 rfl rfl (by decide) (by decide) (by decide) dX2_change_104 (fun H locs hP hD hS => ?_)
          have hP : va_P (dC, dI) vwCl [(x, .inr (2, [.int (iI 0), .ref n, .ref r, .ref d, .int (iI cn), .int (iI fc), .ref ya, .ref yb, .ref yc, .ref yo, .long (lI (X 0)), .long (lI (X 1)), .long (lI (X 2)), .long (lI (X 3)), .long (lI (X 4)), .long (lI (X 5)), .long (lI (X 6))])), (n, .inl (cI, 5, .inl (aI N))), (r, .inl (cJ, 5, .inr (.inl (aL (iu (iu (iu (iu R 0 (N 4)) 1 (N 3)) 2 (N 2)) 3 (N 1))))))] H := hP
          have hD : va_D A [(x, .inr (2, [.int (iI 0), .ref n, .ref r, .ref d, .int (iI cn), .int (iI fc), .ref ya, .ref yb, .ref yc, .ref yo, .long (lI (X 0)), .long (lI (X 1)), .long (lI (X 2)), .long (lI (X 3)), .long (lI (X 4)), .long (lI (X 5)), .long (lI (X 6))])), (n, .inl (cI, 5, .inl (aI N))), (r, .inl (cJ, 5, .inr (.inl (aL (iu (iu (iu (iu R 0 (N 4)) 1 (N 3)) 2 (N 2)) 3 (N 1))))))] := hD
          refine ix_iinc (k := 0) (lv2 := [(3, .int (iI 4)), (2, .int (iI 4)), (0, .ref x), (1, .int (iI 2))]) hx hb dX2_change_105 hl rfl (by decide) rfl (fun ls hl => ?_)
          refine lv_goto (tgt := 43) hx hb dX2_change_108 (by decide) ?_
          refine lv_iload_n hx hb dX2_change_43 rfl (lv_at hl 0 rfl) ?_
          refine ix_iconst (n := 5) hx hb dX2_change_44 ?_
          refine ix_icmp_ge (tgt := 111) hx hb dX2_change_45 (by decide) (by decide) (by decide) (fun c106 => absurd c106 (by decide)) (fun _ => ?_)
          refine lv_aload_n hx hb dX2_change_48 rfl (lv_at hl 2 rfl) ?_
          refine va_get (D := (dC, dI)) (ci := 2) (v := .ref r) (C := RX2) (T := TX2) (N := 17) hx hb hw inX2 hown hK hP 0 rfl rfl 2 (by decide) (hw _ mA_383) (fun _ h9 => h9) rfl dX2_change_49 ?_
          refine lv_iload_n hx hb dX2_change_52 rfl (lv_at hl 0 rfl) ?_
          refine lv_iload_n hx hb dX2_change_53 rfl (lv_at hl 3 rfl) ?_
          refine ix_iconst (n := 2) hx hb dX2_change_54 ?_
          refine ix_icmp_ne (tgt := 75) hx hb dX2_change_55 (by decide) (by decide) (by decide) (fun c107 => absurd c107 (by decide)) (fun _ => ?_)
          refine lv_iload_n hx hb dX2_change_58 rfl (lv_at hl 0 rfl) ?_
          refine lv_iload_n hx hb dX2_change_59 rfl (lv_at hl 1 rfl) ?_
          refine ix_icmp_gt (tgt := 75) hx hb dX2_change_60 (by decide) (by decide) (by decide) (fun c108 => absurd c108 (by decide)) (fun _ => ?_)
          refine lv_aload_n hx hb dX2_change_63 rfl (lv_at hl 2 rfl) ?_
          refine va_get (D := (dC, dI)) (ci := 2) (v := .ref n) (C := RX2) (T := TX2) (N := 17) hx hb hw inX2 hown hK hP 0 rfl rfl 1 (by decide) (hw _ mA_382) (fun _ h9 => h9) rfl dX2_change_64 ?_
          refine lv_iload_n hx hb dX2_change_67 rfl (lv_at hl 1 rfl) ?_
          refine lv_iload_n hx hb dX2_change_68 rfl (lv_at hl 0 rfl) ?_
          refine ix_isub hx hb dX2_change_69 ?_
          refine ix_z (y := 0) rfl ?_
          refine ix_iald (k := 0) hx hb hK hP 1 0 rfl rfl (by decide) (by decide) (by decide) dX2_change_70 ?_
          refine ix_i2l hx hb dX2_change_71 (by have := hN 0; omega) ?_
          refine lv_goto (tgt := 104) hx hb dX2_change_72 (by decide) ?_
          refine ix_last (k := 4) (x := N 0) hx hb hK hP hD hS 2 1 rfl rfl (by decide) (by decide) (by decide) dX2_change_104 (fun H locs hP hD hS => ?_)
          have hP : va_P (dC, dI) vwCl [(x, .inr (2, [.int (iI 0), .ref n, .ref r, .ref d, .int (iI cn), .int (iI fc), .ref ya, .ref yb, .ref yc, .ref yo, .long (lI (X 0)), .long (lI (X 1)), .long (lI (X 2)), .long (lI (X 3)), .long (lI (X 4)), .long (lI (X 5)), .long (lI (X 6))])), (n, .inl (cI, 5, .inl (aI N))), (r, .inl (cJ, 5, .inr (.inl (aL (iu (iu (iu (iu (iu R 0 (N 4)) 1 (N 3)) 2 (N 2)) 3 (N 1)) 4 (N 0))))))] H := hP
          have hD : va_D A [(x, .inr (2, [.int (iI 0), .ref n, .ref r, .ref d, .int (iI cn), .int (iI fc), .ref ya, .ref yb, .ref yc, .ref yo, .long (lI (X 0)), .long (lI (X 1)), .long (lI (X 2)), .long (lI (X 3)), .long (lI (X 4)), .long (lI (X 5)), .long (lI (X 6))])), (n, .inl (cI, 5, .inl (aI N))), (r, .inl (cJ, 5, .inr (.inl (aL (iu (iu (iu (iu (iu R 0 (N 4)) 1 (N 3)) 2 (N 2)) 3 (N 1)) 4 (N 0))))))] := hD
          refine ix_iinc (k := 0) (lv2 := [(3, .int (iI 5)), (2, .int (iI 4)), (0, .ref x), (1, .int (iI 2))]) hx hb dX2_change_105 hl rfl (by decide) rfl (fun ls hl => ?_)
          refine lv_goto (tgt := 43) hx hb dX2_change_108 (by decide) ?_
          refine lv_iload_n hx hb dX2_change_43 rfl (lv_at hl 0 rfl) ?_
          refine ix_iconst (n := 5) hx hb dX2_change_44 ?_
          refine ix_icmp_ge (tgt := 111) hx hb dX2_change_45 (by decide) (by decide) (by decide) (fun _ => ?_) (fun c109 => absurd c109 (by decide))
          have e9 : iu (iu (iu (iu (iu R 0 (N 4)) 1 (N 3)) 2 (N 2)) 3 (N 1)) 4 (N 0) = f_chg N 2 4 := by funext j; by_cases z : 0 ≤ j ∧ j ≤ 4; rw [chg_2]; unfold iu; grind; rw [chg_5 h5 (by omega) j (by omega)]; have := hR5 j (by omega); unfold iu; grind
          rw [e9] at hP hD
          refine lv_iload_n hx hb dX2_change_111 rfl (lv_at hl 3 rfl) ?_
          refine ix_iconst (n := 1) hx hb dX2_change_112 ?_
          refine ix_icmp_eq (tgt := 121) hx hb dX2_change_113 (by decide) (by decide) (by decide) (fun c110 => absurd c110 (by decide)) (fun _ => ?_)
          refine lv_iload_n hx hb dX2_change_116 rfl (lv_at hl 3 rfl) ?_
          refine ix_iconst (n := (-1)) hx hb dX2_change_117 ?_
          refine ix_icmp_ne (tgt := 171) hx hb dX2_change_118 (by decide) (by decide) (by decide) (fun _ => ?_) (fun c111 => absurd c111 (by decide))
          have e7 : f_chg N 2 4 = f_chg N 2 (f_deg N) := by rw [hg]
          rw [e7] at hP hD
          have hl2 : lv_has ls 5 [(0, .ref x), (1, .int (iI 2)), (2, .int (iI (f_deg N)))] := by rw [hg]; exact lv_sub hl [2, 3, 1] rfl
          exact lp_chT h5 hdeg hh hA hnb ⟨hx, hb, hr, hml, hown, hw, hlocks⟩ 1 (f_chg N 2 (f_deg N)) rfl (chg_5 h5 (by omega)) (chg_b hh hN) (by decide) _ _ hK hP hD hS ls hl2
      · refine lv_iload_n hx hb dX2_change_43 rfl (lv_at hl 0 rfl) ?_
        refine ix_iconst (n := 5) hx hb dX2_change_44 ?_
        refine ix_icmp_ge (tgt := 111) hx hb dX2_change_45 (by decide) (by decide) (by decide) (fun c112 => absurd c112 (by decide)) (fun _ => ?_)
        refine lv_aload_n hx hb dX2_change_48 rfl (lv_at hl 2 rfl) ?_
        refine va_get (D := (dC, dI)) (ci := 2) (v := .ref r) (C := RX2) (T := TX2) (N := 17) hx hb hw inX2 hown hK hP 0 rfl rfl 2 (by decide) (hw _ mA_383) (fun _ h9 => h9) rfl dX2_change_49 ?_
        refine lv_iload_n hx hb dX2_change_52 rfl (lv_at hl 0 rfl) ?_
        refine lv_iload_n hx hb dX2_change_53 rfl (lv_at hl 3 rfl) ?_
        refine ix_iconst (n := 2) hx hb dX2_change_54 ?_
        refine ix_icmp_ne (tgt := 75) hx hb dX2_change_55 (by decide) (by decide) (by decide) (fun _ => ?_) (fun c113 => absurd c113 (by decide))
        refine lv_iload_n hx hb dX2_change_75 rfl (lv_at hl 3 rfl) ?_
        refine ix_if_ne (tgt := 97) hx hb dX2_change_76 (by decide) (by decide) (fun c114 => absurd c114 (by decide)) (fun _ => ?_)
        refine lv_iload_n hx hb dX2_change_79 rfl (lv_at hl 0 rfl) ?_
        refine ix_iconst (n := 2) hx hb dX2_change_80 ?_
        refine ix_irem hx hb dX2_change_81 (by decide) (by decide) (by decide) ?_
        refine ix_z (y := 0) rfl ?_
        refine ix_iconst (n := 1) hx hb dX2_change_82 ?_
        refine ix_icmp_ne (tgt := 97) hx hb dX2_change_83 (by decide) (by decide) (by decide) (fun _ => ?_) (fun c115 => absurd c115 (by decide))
        refine lv_aload_n hx hb dX2_change_97 rfl (lv_at hl 2 rfl) ?_
        refine va_get (D := (dC, dI)) (ci := 2) (v := .ref n) (C := RX2) (T := TX2) (N := 17) hx hb hw inX2 hown hK hP 0 rfl rfl 1 (by decide) (hw _ mA_382) (fun _ h9 => h9) rfl dX2_change_98 ?_
        refine lv_iload_n hx hb dX2_change_101 rfl (lv_at hl 0 rfl) ?_
        refine ix_iald (k := 0) hx hb hK hP 1 0 rfl rfl (by decide) (by decide) (by decide) dX2_change_102 ?_
        refine ix_i2l hx hb dX2_change_103 (by have := hN 0; omega) ?_
        refine ix_last (k := 0) (x := N 0) hx hb hK hP hD hS 2 1 rfl rfl (by decide) (by decide) (by decide) dX2_change_104 (fun H locs hP hD hS => ?_)
        have hP : va_P (dC, dI) vwCl [(x, .inr (2, [.int (iI 0), .ref n, .ref r, .ref d, .int (iI cn), .int (iI fc), .ref ya, .ref yb, .ref yc, .ref yo, .long (lI (X 0)), .long (lI (X 1)), .long (lI (X 2)), .long (lI (X 3)), .long (lI (X 4)), .long (lI (X 5)), .long (lI (X 6))])), (n, .inl (cI, 5, .inl (aI N))), (r, .inl (cJ, 5, .inr (.inl (aL (iu R 0 (N 0))))))] H := hP
        have hD : va_D A [(x, .inr (2, [.int (iI 0), .ref n, .ref r, .ref d, .int (iI cn), .int (iI fc), .ref ya, .ref yb, .ref yc, .ref yo, .long (lI (X 0)), .long (lI (X 1)), .long (lI (X 2)), .long (lI (X 3)), .long (lI (X 4)), .long (lI (X 5)), .long (lI (X 6))])), (n, .inl (cI, 5, .inl (aI N))), (r, .inl (cJ, 5, .inr (.inl (aL (iu R 0 (N 0))))))] := hD
        refine ix_iinc (k := 0) (lv2 := [(3, .int (iI 1)), (2, .int (iI (f_deg N))), (0, .ref x), (1, .int (iI 0))]) hx hb dX2_change_105 hl rfl (by decide) rfl (fun ls hl => ?_)
        refine lv_goto (tgt := 43) hx hb dX2_change_108 (by decide) ?_
        refine lv_iload_n hx hb dX2_change_43 rfl (lv_at hl 0 rfl) ?_
        refine ix_iconst (n := 5) hx hb dX2_change_44 ?_
        refine ix_icmp_ge (tgt := 111) hx hb dX2_change_45 (by decide) (by decide) (by decide) (fun c116 => absurd c116 (by decide)) (fun _ => ?_)
        refine lv_aload_n hx hb dX2_change_48 rfl (lv_at hl 2 rfl) ?_
        refine va_get (D := (dC, dI)) (ci := 2) (v := .ref r) (C := RX2) (T := TX2) (N := 17) hx hb hw inX2 hown hK hP 0 rfl rfl 2 (by decide) (hw _ mA_383) (fun _ h9 => h9) rfl dX2_change_49 ?_
        refine lv_iload_n hx hb dX2_change_52 rfl (lv_at hl 0 rfl) ?_
        refine lv_iload_n hx hb dX2_change_53 rfl (lv_at hl 3 rfl) ?_
        refine ix_iconst (n := 2) hx hb dX2_change_54 ?_
        refine ix_icmp_ne (tgt := 75) hx hb dX2_change_55 (by decide) (by decide) (by decide) (fun _ => ?_) (fun c117 => absurd c117 (by decide))
        refine lv_iload_n hx hb dX2_change_75 rfl (lv_at hl 3 rfl) ?_
        refine ix_if_ne (tgt := 97) hx hb dX2_change_76 (by decide) (by decide) (fun c118 => absurd c118 (by decide)) (fun _ => ?_)
        refine lv_iload_n hx hb dX2_change_79 rfl (lv_at hl 0 rfl) ?_
        refine ix_iconst (n := 2) hx hb dX2_change_80 ?_
        refine ix_irem hx hb dX2_change_81 (by decide) (by decide) (by decide) ?_
        refine ix_z (y := 1) rfl ?_
        refine ix_iconst (n := 1) hx hb dX2_change_82 ?_
        refine ix_icmp_ne (tgt := 97) hx hb dX2_change_83 (by decide) (by decide) (by decide) (fun c119 => absurd c119 (by decide)) (fun _ => ?_)
        refine lv_aload_n hx hb dX2_change_86 rfl (lv_at hl 2 rfl) ?_
        refine va_get (D := (dC, dI)) (ci := 2) (v := .ref n) (C := RX2) (T := TX2) (N := 17) hx hb hw inX2 hown hK hP 0 rfl rfl 1 (by decide) (hw _ mA_382) (fun _ h9 => h9) rfl dX2_change_87 ?_
        refine lv_iload_n hx hb dX2_change_90 rfl (lv_at hl 0 rfl) ?_
        refine ix_iald (k := 1) hx hb hK hP 1 0 rfl rfl (by decide) (by decide) (by decide) dX2_change_91 ?_
        refine ix_ineg hx hb dX2_change_92 ?_
        refine ix_i2l hx hb dX2_change_93 (by have := hN 1; omega) ?_
        refine lv_goto (tgt := 104) hx hb dX2_change_94 (by decide) ?_
        refine ix_last (k := 1) (x := -(N 1)) hx hb hK hP hD hS 2 1 rfl rfl (by decide) (by decide) (by decide) dX2_change_104 (fun H locs hP hD hS => ?_)
        have hP : va_P (dC, dI) vwCl [(x, .inr (2, [.int (iI 0), .ref n, .ref r, .ref d, .int (iI cn), .int (iI fc), .ref ya, .ref yb, .ref yc, .ref yo, .long (lI (X 0)), .long (lI (X 1)), .long (lI (X 2)), .long (lI (X 3)), .long (lI (X 4)), .long (lI (X 5)), .long (lI (X 6))])), (n, .inl (cI, 5, .inl (aI N))), (r, .inl (cJ, 5, .inr (.inl (aL (iu (iu R 0 (N 0)) 1 (-(N 1)))))))] H := hP
        have hD : va_D A [(x, .inr (2, [.int (iI 0), .ref n, .ref r, .ref d, .int (iI cn), .int (iI fc), .ref ya, .ref yb, .ref yc, .ref yo, .long (lI (X 0)), .long (lI (X 1)), .long (lI (X 2)), .long (lI (X 3)), .long (lI (X 4)), .long (lI (X 5)), .long (lI (X 6))])), (n, .inl (cI, 5, .inl (aI N))), (r, .inl (cJ, 5, .inr (.inl (aL (iu (iu R 0 (N 0)) 1 (-(N 1)))))))] := hD
        refine ix_iinc (k := 0) (lv2 := [(3, .int (iI 2)), (2, .int (iI (f_deg N))), (0, .ref x), (1, .int (iI 0))]) hx hb dX2_change_105 hl rfl (by decide) rfl (fun ls hl => ?_)
        refine lv_goto (tgt := 43) hx hb dX2_change_108 (by decide) ?_
        refine lv_iload_n hx hb dX2_change_43 rfl (lv_at hl 0 rfl) ?_
        refine ix_iconst (n := 5) hx hb dX2_change_44 ?_
        refine ix_icmp_ge (tgt := 111) hx hb dX2_change_45 (by decide) (by decide) (by decide) (fun c120 => absurd c120 (by decide)) (fun _ => ?_)
        refine lv_aload_n hx hb dX2_change_48 rfl (lv_at hl 2 rfl) ?_
        refine va_get (D := (dC, dI)) (ci := 2) (v := .ref r) (C := RX2) (T := TX2) (N := 17) hx hb hw inX2 hown hK hP 0 rfl rfl 2 (by decide) (hw _ mA_383) (fun _ h9 => h9) rfl dX2_change_49 ?_
        refine lv_iload_n hx hb dX2_change_52 rfl (lv_at hl 0 rfl) ?_
        refine lv_iload_n hx hb dX2_change_53 rfl (lv_at hl 3 rfl) ?_
        refine ix_iconst (n := 2) hx hb dX2_change_54 ?_
        refine ix_icmp_ne (tgt := 75) hx hb dX2_change_55 (by decide) (by decide) (by decide) (fun _ => ?_) (fun c121 => absurd c121 (by decide))
        refine lv_iload_n hx hb dX2_change_75 rfl (lv_at hl 3 rfl) ?_
        refine ix_if_ne (tgt := 97) hx hb dX2_change_76 (by decide) (by decide) (fun c122 => absurd c122 (by decide)) (fun _ => ?_)
        refine lv_iload_n hx hb dX2_change_79 rfl (lv_at hl 0 rfl) ?_
        refine ix_iconst (n := 2) hx hb dX2_change_80 ?_
        refine ix_irem hx hb dX2_change_81 (by decide) (by decide) (by decide) ?_
        refine ix_z (y := 0) rfl ?_
        refine ix_iconst (n := 1) hx hb dX2_change_82 ?_
        refine ix_icmp_ne (tgt := 97) hx hb dX2_change_83 (by decide) (by decide) (by decide) (fun _ => ?_) (fun c123 => absurd c123 (by decide))
        refine lv_aload_n hx hb dX2_change_97 rfl (lv_at hl 2 rfl) ?_
        refine va_get (D := (dC, dI)) (ci := 2) (v := .ref n) (C := RX2) (T := TX2) (N := 17) hx hb hw inX2 hown hK hP 0 rfl rfl 1 (by decide) (hw _ mA_382) (fun _ h9 => h9) rfl dX2_change_98 ?_
        refine lv_iload_n hx hb dX2_change_101 rfl (lv_at hl 0 rfl) ?_
        refine ix_iald (k := 2) hx hb hK hP 1 0 rfl rfl (by decide) (by decide) (by decide) dX2_change_102 ?_
        refine ix_i2l hx hb dX2_change_103 (by have := hN 2; omega) ?_
        refine ix_last (k := 2) (x := N 2) hx hb hK hP hD hS 2 1 rfl rfl (by decide) (by decide) (by decide) dX2_change_104 (fun H locs hP hD hS => ?_)
        have hP : va_P (dC, dI) vwCl [(x, .inr (2, [.int (iI 0), .ref n, .ref r, .ref d, .int (iI cn), .int (iI fc), .ref ya, .ref yb, .ref yc, .ref yo, .long (lI (X 0)), .long (lI (X 1)), .long (lI (X 2)), .long (lI (X 3)), .long (lI (X 4)), .long (lI (X 5)), .long (lI (X 6))])), (n, .inl (cI, 5, .inl (aI N))), (r, .inl (cJ, 5, .inr (.inl (aL (iu (iu (iu R 0 (N 0)) 1 (-(N 1))) 2 (N 2))))))] H := hP
        have hD : va_D A [(x, .inr (2, [.int (iI 0), .ref n, .ref r, .ref d, .int (iI cn), .int (iI fc), .ref ya, .ref yb, .ref yc, .ref yo, .long (lI (X 0)), .long (lI (X 1)), .long (lI (X 2)), .long (lI (X 3)), .long (lI (X 4)), .long (lI (X 5)), .long (lI (X 6))])), (n, .inl (cI, 5, .inl (aI N))), (r, .inl (cJ, 5, .inr (.inl (aL (iu (iu (iu R 0 (N 0)) 1 (-(N 1))) 2 (N 2))))))] := hD
        refine ix_iinc (k := 0) (lv2 := [(3, .int (iI 3)), (2, .int (iI (f_deg N))), (0, .ref x), (1, .int (iI 0))]) hx hb dX2_change_105 hl rfl (by decide) rfl (fun ls hl => ?_)
        refine lv_goto (tgt := 43) hx hb dX2_change_108 (by decide) ?_
        refine lv_iload_n hx hb dX2_change_43 rfl (lv_at hl 0 rfl) ?_
        refine ix_iconst (n := 5) hx hb dX2_change_44 ?_
        refine ix_icmp_ge (tgt := 111) hx hb dX2_change_45 (by decide) (by decide) (by decide) (fun c124 => absurd c124 (by decide)) (fun _ => ?_)
        refine lv_aload_n hx hb dX2_change_48 rfl (lv_at hl 2 rfl) ?_
        refine va_get (D := (dC, dI)) (ci := 2) (v := .ref r) (C := RX2) (T := TX2) (N := 17) hx hb hw inX2 hown hK hP 0 rfl rfl 2 (by decide) (hw _ mA_383) (fun _ h9 => h9) rfl dX2_change_49 ?_
        refine lv_iload_n hx hb dX2_change_52 rfl (lv_at hl 0 rfl) ?_
        refine lv_iload_n hx hb dX2_change_53 rfl (lv_at hl 3 rfl) ?_
        refine ix_iconst (n := 2) hx hb dX2_change_54 ?_
        refine ix_icmp_ne (tgt := 75) hx hb dX2_change_55 (by decide) (by decide) (by decide) (fun _ => ?_) (fun c125 => absurd c125 (by decide))
        refine lv_iload_n hx hb dX2_change_75 rfl (lv_at hl 3 rfl) ?_
        refine ix_if_ne (tgt := 97) hx hb dX2_change_76 (by decide) (by decide) (fun c126 => absurd c126 (by decide)) (fun _ => ?_)
        refine lv_iload_n hx hb dX2_change_79 rfl (lv_at hl 0 rfl) ?_
        refine ix_iconst (n := 2) hx hb dX2_change_80 ?_
        refine ix_irem hx hb dX2_change_81 (by decide) (by decide) (by decide) ?_
        refine ix_z (y := 1) rfl ?_
        refine ix_iconst (n := 1) hx hb dX2_change_82 ?_
        refine ix_icmp_ne (tgt := 97) hx hb dX2_change_83 (by decide) (by decide) (by decide) (fun c127 => absurd c127 (by decide)) (fun _ => ?_)
        refine lv_aload_n hx hb dX2_change_86 rfl (lv_at hl 2 rfl) ?_
        refine va_get (D := (dC, dI)) (ci := 2) (v := .ref n) (C := RX2) (T := TX2) (N := 17) hx hb hw inX2 hown hK hP 0 rfl rfl 1 (by decide) (hw _ mA_382) (fun _ h9 => h9) rfl dX2_change_87 ?_
        refine lv_iload_n hx hb dX2_change_90 rfl (lv_at hl 0 rfl) ?_
        refine ix_iald (k := 3) hx hb hK hP 1 0 rfl rfl (by decide) (by decide) (by decide) dX2_change_91 ?_
        refine ix_ineg hx hb dX2_change_92 ?_
        refine ix_i2l hx hb dX2_change_93 (by have := hN 3; omega) ?_
        refine lv_goto (tgt := 104) hx hb dX2_change_94 (by decide) ?_
        refine ix_last (k := 3) (x := -(N 3)) hx hb hK hP hD hS 2 1 rfl rfl (by decide) (by decide) (by decide) dX2_change_104 (fun H locs hP hD hS => ?_)
        have hP : va_P (dC, dI) vwCl [(x, .inr (2, [.int (iI 0), .ref n, .ref r, .ref d, .int (iI cn), .int (iI fc), .ref ya, .ref yb, .ref yc, .ref yo, .long (lI (X 0)), .long (lI (X 1)), .long (lI (X 2)), .long (lI (X 3)), .long (lI (X 4)), .long (lI (X 5)), .long (lI (X 6))])), (n, .inl (cI, 5, .inl (aI N))), (r, .inl (cJ, 5, .inr (.inl (aL (iu (iu (iu (iu R 0 (N 0)) 1 (-(N 1))) 2 (N 2)) 3 (-(N 3)))))))] H := hP
        have hD : va_D A [(x, .inr (2, [.int (iI 0), .ref n, .ref r, .ref d, .int (iI cn), .int (iI fc), .ref ya, .ref yb, .ref yc, .ref yo, .long (lI (X 0)), .long (lI (X 1)), .long (lI (X 2)), .long (lI (X 3)), .long (lI (X 4)), .long (lI (X 5)), .long (lI (X 6))])), (n, .inl (cI, 5, .inl (aI N))), (r, .inl (cJ, 5, .inr (.inl (aL (iu (iu (iu (iu R 0 (N 0)) 1 (-(N 1))) 2 (N 2)) 3 (-(N 3)))))))] := hD
        refine ix_iinc (k := 0) (lv2 := [(3, .int (iI 4)), (2, .int (iI (f_deg N))), (0, .ref x), (1, .int (iI 0))]) hx hb dX2_change_105 hl rfl (by decide) rfl (fun ls hl => ?_)
        refine lv_goto (tgt := 43) hx hb dX2_change_108 (by decide) ?_
        refine lv_iload_n hx hb dX2_change_43 rfl (lv_at hl 0 rfl) ?_
        refine ix_iconst (n := 5) hx hb dX2_change_44 ?_
        refine ix_icmp_ge (tgt := 111) hx hb dX2_change_45 (by decide) (by decide) (by decide) (fun c128 => absurd c128 (by decide)) (fun _ => ?_)
        refine lv_aload_n hx hb dX2_change_48 rfl (lv_at hl 2 rfl) ?_
        refine va_get (D := (dC, dI)) (ci := 2) (v := .ref r) (C := RX2) (T := TX2) (N := 17) hx hb hw inX2 hown hK hP 0 rfl rfl 2 (by decide) (hw _ mA_383) (fun _ h9 => h9) rfl dX2_change_49 ?_
        refine lv_iload_n hx hb dX2_change_52 rfl (lv_at hl 0 rfl) ?_
        refine lv_iload_n hx hb dX2_change_53 rfl (lv_at hl 3 rfl) ?_
        refine ix_iconst (n := 2) hx hb dX2_change_54 ?_
        refine ix_icmp_ne (tgt := 75) hx hb dX2_change_55 (by decide) (by decide) (by decide) (fun _ => ?_) (fun c129 => absurd c129 (by decide))
        refine lv_iload_n hx hb dX2_change_75 rfl (lv_at hl 3 rfl) ?_
        refine ix_if_ne (tgt := 97) hx hb dX2_change_76 (by decide) (by decide) (fun c130 => absurd c130 (by decide)) (fun _ => ?_)
        refine lv_iload_n hx hb dX2_change_79 rfl (lv_at hl 0 rfl) ?_
        refine ix_iconst (n := 2) hx hb dX2_change_80 ?_
        refine ix_irem hx hb dX2_change_81 (by decide) (by decide) (by decide) ?_
        refine ix_z (y := 0) rfl ?_
        refine ix_iconst (n := 1) hx hb dX2_change_82 ?_
        refine ix_icmp_ne (tgt := 97) hx hb dX2_change_83 (by decide) (by decide) (by decide) (fun _ => ?_) (fun c131 => absurd c131 (by decide))
        refine lv_aload_n hx hb dX2_change_97 rfl (lv_at hl 2 rfl) ?_
        refine va_get (D := (dC, dI)) (ci := 2) (v := .ref n) (C := RX2) (T := TX2) (N := 17) hx hb hw inX2 hown hK hP 0 rfl rfl 1 (by decide) (hw _ mA_382) (fun _ h9 => h9) rfl dX2_change_98 ?_
        refine lv_iload_n hx hb dX2_change_101 rfl (lv_at hl 0 rfl) ?_
        refine ix_iald (k := 4) hx hb hK hP 1 0 rfl rfl (by decide) (by decide) (by decide) dX2_change_102 ?_
        refine ix_i2l hx hb dX2_change_103 (by have := hN 4; omega) ?_
        refine ix_last (k := 4) (x := N 4) hx hb hK hP hD hS 2 1 rfl rfl (by decide) (by decide) (by decide) dX2_change_104 (fun H locs hP hD hS => ?_)
        have hP : va_P (dC, dI) vwCl [(x, .inr (2, [.int (iI 0), .ref n, .ref r, .ref d, .int (iI cn), .int (iI fc), .ref ya, .ref yb, .ref yc, .ref yo, .long (lI (X 0)), .long (lI (X 1)), .long (lI (X 2)), .long (lI (X 3)), .long (lI (X 4)), .long (lI (X 5)), .long (lI (X 6))])), (n, .inl (cI, 5, .inl (aI N))), (r, .inl (cJ, 5, .inr (.inl (aL (iu (iu (iu (iu (iu R 0 (N 0)) 1 (-(N 1))) 2 (N 2)) 3 (-(N 3))) 4 (N 4))))))] H := hP
        have hD : va_D A [(x, .inr (2, [.int (iI 0), .ref n, .ref r, .ref d, .int (iI cn), .int (iI fc), .ref ya, .ref yb, .ref yc, .ref yo, .long (lI (X 0)), .long (lI (X 1)), .long (lI (X 2)), .long (lI (X 3)), .long (lI (X 4)), .long (lI (X 5)), .long (lI (X 6))])), (n, .inl (cI, 5, .inl (aI N))), (r, .inl (cJ, 5, .inr (.inl (aL (iu (iu (iu (iu (iu R 0 (N 0)) 1 (-(N 1))) 2 (N 2)) 3 (-(N 3))) 4 (N 4))))))] := hD
        refine ix_iinc (k := 0) (lv2 := [(3, .int (iI 5)), (2, .int (iI (f_deg N))), (0, .ref x), (1, .int (iI 0))]) hx hb dX2_change_105 hl rfl (by decide) rfl (fun ls hl => ?_)
        refine lv_goto (tgt := 43) hx hb dX2_change_108 (by decide) ?_
        refine lv_iload_n hx hb dX2_change_43 rfl (lv_at hl 0 rfl) ?_
        refine ix_iconst (n := 5) hx hb dX2_change_44 ?_
        refine ix_icmp_ge (tgt := 111) hx hb dX2_change_45 (by decide) (by decide) (by decide) (fun _ => ?_) (fun c132 => absurd c132 (by decide))
        have e9 : iu (iu (iu (iu (iu R 0 (N 0)) 1 (-(N 1))) 2 (N 2)) 3 (-(N 3))) 4 (N 4) = f_chg N 0 (f_deg N) := by funext j; by_cases z : 0 ≤ j ∧ j ≤ 4; rw [chg_0]; unfold iu; grind; rw [chg_5 h5 (by omega) j (by omega)]; have := hR5 j (by omega); unfold iu; grind
        rw [e9] at hP hD
        refine lv_iload_n hx hb dX2_change_111 rfl (lv_at hl 3 rfl) ?_
        refine ix_iconst (n := 1) hx hb dX2_change_112 ?_
        refine ix_icmp_eq (tgt := 121) hx hb dX2_change_113 (by decide) (by decide) (by decide) (fun c133 => absurd c133 (by decide)) (fun _ => ?_)
        refine lv_iload_n hx hb dX2_change_116 rfl (lv_at hl 3 rfl) ?_
        refine ix_iconst (n := (-1)) hx hb dX2_change_117 ?_
        refine ix_icmp_ne (tgt := 171) hx hb dX2_change_118 (by decide) (by decide) (by decide) (fun _ => ?_) (fun c134 => absurd c134 (by decide))
        exact lp_chT h5 hdeg hh hA hnb ⟨hx, hb, hr, hml, hown, hw, hlocks⟩ 1 (f_chg N 0 (f_deg N)) rfl (chg_5 h5 (by omega)) (chg_b hh hN) (by decide) _ _ hK hP hD hS ls (lv_sub hl [2, 3, 1] rfl)
      · refine lv_iload_n hx hb dX2_change_43 rfl (lv_at hl 0 rfl) ?_
        refine ix_iconst (n := 5) hx hb dX2_change_44 ?_
        refine ix_icmp_ge (tgt := 111) hx hb dX2_change_45 (by decide) (by decide) (by decide) (fun c135 => absurd c135 (by decide)) (fun _ => ?_)
        refine lv_aload_n hx hb dX2_change_48 rfl (lv_at hl 2 rfl) ?_
        refine va_get (D := (dC, dI)) (ci := 2) (v := .ref r) (C := RX2) (T := TX2) (N := 17) hx hb hw inX2 hown hK hP 0 rfl rfl 2 (by decide) (hw _ mA_383) (fun _ h9 => h9) rfl dX2_change_49 ?_
        refine lv_iload_n hx hb dX2_change_52 rfl (lv_at hl 0 rfl) ?_
        refine lv_iload_n hx hb dX2_change_53 rfl (lv_at hl 3 rfl) ?_
        refine ix_iconst (n := 2) hx hb dX2_change_54 ?_
        refine ix_icmp_ne (tgt := 75) hx hb dX2_change_55 (by decide) (by decide) (by decide) (fun _ => ?_) (fun c136 => absurd c136 (by decide))
        refine lv_iload_n hx hb dX2_change_75 rfl (lv_at hl 3 rfl) ?_
        refine ix_if_ne (tgt := 97) hx hb dX2_change_76 (by decide) (by decide) (fun _ => ?_) (fun c137 => absurd c137 (by decide))
        refine lv_aload_n hx hb dX2_change_97 rfl (lv_at hl 2 rfl) ?_
        refine va_get (D := (dC, dI)) (ci := 2) (v := .ref n) (C := RX2) (T := TX2) (N := 17) hx hb hw inX2 hown hK hP 0 rfl rfl 1 (by decide) (hw _ mA_382) (fun _ h9 => h9) rfl dX2_change_98 ?_
        refine lv_iload_n hx hb dX2_change_101 rfl (lv_at hl 0 rfl) ?_
        refine ix_iald (k := 0) hx hb hK hP 1 0 rfl rfl (by decide) (by decide) (by decide) dX2_change_102 ?_
        refine ix_i2l hx hb dX2_change_103 (by have := hN 0; omega) ?_
        refine ix_last (k := 0) (x := N 0) hx hb hK hP hD hS 2 1 rfl rfl (by decide) (by decide) (by decide) dX2_change_104 (fun H locs hP hD hS => ?_)
        have hP : va_P (dC, dI) vwCl [(x, .inr (2, [.int (iI 0), .ref n, .ref r, .ref d, .int (iI cn), .int (iI fc), .ref ya, .ref yb, .ref yc, .ref yo, .long (lI (X 0)), .long (lI (X 1)), .long (lI (X 2)), .long (lI (X 3)), .long (lI (X 4)), .long (lI (X 5)), .long (lI (X 6))])), (n, .inl (cI, 5, .inl (aI N))), (r, .inl (cJ, 5, .inr (.inl (aL (iu R 0 (N 0))))))] H := hP
        have hD : va_D A [(x, .inr (2, [.int (iI 0), .ref n, .ref r, .ref d, .int (iI cn), .int (iI fc), .ref ya, .ref yb, .ref yc, .ref yo, .long (lI (X 0)), .long (lI (X 1)), .long (lI (X 2)), .long (lI (X 3)), .long (lI (X 4)), .long (lI (X 5)), .long (lI (X 6))])), (n, .inl (cI, 5, .inl (aI N))), (r, .inl (cJ, 5, .inr (.inl (aL (iu R 0 (N 0))))))] := hD
        refine ix_iinc (k := 0) (lv2 := [(3, .int (iI 1)), (2, .int (iI (f_deg N))), (0, .ref x), (1, .int (iI 1))]) hx hb dX2_change_105 hl rfl (by decide) rfl (fun ls hl => ?_)
        refine lv_goto (tgt := 43) hx hb dX2_change_108 (by decide) ?_
        refine lv_iload_n hx hb dX2_change_43 rfl (lv_at hl 0 rfl) ?_
        refine ix_iconst (n := 5) hx hb dX2_change_44 ?_
        refine ix_icmp_ge (tgt := 111) hx hb dX2_change_45 (by decide) (by decide) (by decide) (fun c138 => absurd c138 (by decide)) (fun _ => ?_)
        refine lv_aload_n hx hb dX2_change_48 rfl (lv_at hl 2 rfl) ?_
        refine va_get (D := (dC, dI)) (ci := 2) (v := .ref r) (C := RX2) (T := TX2) (N := 17) hx hb hw inX2 hown hK hP 0 rfl rfl 2 (by decide) (hw _ mA_383) (fun _ h9 => h9) rfl dX2_change_49 ?_
        refine lv_iload_n hx hb dX2_change_52 rfl (lv_at hl 0 rfl) ?_
        refine lv_iload_n hx hb dX2_change_53 rfl (lv_at hl 3 rfl) ?_
        refine ix_iconst (n := 2) hx hb dX2_change_54 ?_
        refine ix_icmp_ne (tgt := 75) hx hb dX2_change_55 (by decide) (by decide) (by decide) (fun _ => ?_) (fun c139 => absurd c139 (by decide))
        refine lv_iload_n hx hb dX2_change_75 rfl (lv_at hl 3 rfl) ?_
        refine ix_if_ne (tgt := 97) hx hb dX2_change_76 (by decide) (by decide) (fun _ => ?_) (fun c140 => absurd c140 (by decide))
        refine lv_aload_n hx hb dX2_change_97 rfl (lv_at hl 2 rfl) ?_
        refine va_get (D := (dC, dI)) (ci := 2) (v := .ref n) (C := RX2) (T := TX2) (N := 17) hx hb hw inX2 hown hK hP 0 rfl rfl 1 (by decide) (hw _ mA_382) (fun _ h9 => h9) rfl dX2_change_98 ?_
        refine lv_iload_n hx hb dX2_change_101 rfl (lv_at hl 0 rfl) ?_
        refine ix_iald (k := 1) hx hb hK hP 1 0 rfl rfl (by decide) (by decide) (by decide) dX2_change_102 ?_
        refine ix_i2l hx hb dX2_change_103 (by have := hN 1; omega) ?_
        refine ix_last (k := 1) (x := N 1) hx hb hK hP hD hS 2 1 rfl rfl (by decide) (by decide) (by decide) dX2_change_104 (fun H locs hP hD hS => ?_)
        have hP : va_P (dC, dI) vwCl [(x, .inr (2, [.int (iI 0), .ref n, .ref r, .ref d, .int (iI cn), .int (iI fc), .ref ya, .ref yb, .ref yc, .ref yo, .long (lI (X 0)), .long (lI (X 1)), .long (lI (X 2)), .long (lI (X 3)), .long (lI (X 4)), .long (lI (X 5)), .long (lI (X 6))])), (n, .inl (cI, 5, .inl (aI N))), (r, .inl (cJ, 5, .inr (.inl (aL (iu (iu R 0 (N 0)) 1 (N 1))))))] H := hP
        have hD : va_D A [(x, .inr (2, [.int (iI 0), .ref n, .ref r, .ref d, .int (iI cn), .int (iI fc), .ref ya, .ref yb, .ref yc, .ref yo, .long (lI (X 0)), .long (lI (X 1)), .long (lI (X 2)), .long (lI (X 3)), .long (lI (X 4)), .long (lI (X 5)), .long (lI (X 6))])), (n, .inl (cI, 5, .inl (aI N))), (r, .inl (cJ, 5, .inr (.inl (aL (iu (iu R 0 (N 0)) 1 (N 1))))))] := hD
        refine ix_iinc (k := 0) (lv2 := [(3, .int (iI 2)), (2, .int (iI (f_deg N))), (0, .ref x), (1, .int (iI 1))]) hx hb dX2_change_105 hl rfl (by decide) rfl (fun ls hl => ?_)
        refine lv_goto (tgt := 43) hx hb dX2_change_108 (by decide) ?_
        refine lv_iload_n hx hb dX2_change_43 rfl (lv_at hl 0 rfl) ?_
        refine ix_iconst (n := 5) hx hb dX2_change_44 ?_
        refine ix_icmp_ge (tgt := 111) hx hb dX2_change_45 (by decide) (by decide) (by decide) (fun c141 => absurd c141 (by decide)) (fun _ => ?_)
        refine lv_aload_n hx hb dX2_change_48 rfl (lv_at hl 2 rfl) ?_
        refine va_get (D := (dC, dI)) (ci := 2) (v := .ref r) (C := RX2) (T := TX2) (N := 17) hx hb hw inX2 hown hK hP 0 rfl rfl 2 (by decide) (hw _ mA_383) (fun _ h9 => h9) rfl dX2_change_49 ?_
        refine lv_iload_n hx hb dX2_change_52 rfl (lv_at hl 0 rfl) ?_
        refine lv_iload_n hx hb dX2_change_53 rfl (lv_at hl 3 rfl) ?_
        refine ix_iconst (n := 2) hx hb dX2_change_54 ?_
        refine ix_icmp_ne (tgt := 75) hx hb dX2_change_55 (by decide) (by decide) (by decide) (fun _ => ?_) (fun c142 => absurd c142 (by decide))
        refine lv_iload_n hx hb dX2_change_75 rfl (lv_at hl 3 rfl) ?_
        refine ix_if_ne (tgt := 97) hx hb dX2_change_76 (by decide) (by decide) (fun _ => ?_) (fun c143 => absurd c143 (by decide))
        refine lv_aload_n hx hb dX2_change_97 rfl (lv_at hl 2 rfl) ?_
        refine va_get (D := (dC, dI)) (ci := 2) (v := .ref n) (C := RX2) (T := TX2) (N := 17) hx hb hw inX2 hown hK hP 0 rfl rfl 1 (by decide) (hw _ mA_382) (fun _ h9 => h9) rfl dX2_change_98 ?_
        refine lv_iload_n hx hb dX2_change_101 rfl (lv_at hl 0 rfl) ?_
        refine ix_iald (k := 2) hx hb hK hP 1 0 rfl rfl (by decide) (by decide) (by decide) dX2_change_102 ?_
        refine ix_i2l hx hb dX2_change_103 (by have := hN 2; omega) ?_
        refine ix_last (k := 2) (x := N 2) hx hb hK hP hD hS 2 1 rfl rfl (by decide) (by decide) (by decide) dX2_change_104 (fun H locs hP hD hS => ?_)
        have hP : va_P (dC, dI) vwCl [(x, .inr (2, [.int (iI 0), .ref n, .ref r, .ref d, .int (iI cn), .int (iI fc), .ref ya, .ref yb, .ref yc, .ref yo, .long (lI (X 0)), .long (lI (X 1)), .long (lI (X 2)), .long (lI (X 3)), .long (lI (X 4)), .long (lI (X 5)), .long (lI (X 6))])), (n, .inl (cI, 5, .inl (aI N))), (r, .inl (cJ, 5, .inr (.inl (aL (iu (iu (iu R 0 (N 0)) 1 (N 1)) 2 (N 2))))))] H := hP
        have hD : va_D A [(x, .inr (2, [.int (iI 0), .ref n, .ref r, .ref d, .int (iI cn), .int (iI fc), .ref ya, .ref yb, .ref yc, .ref yo, .long (lI (X 0)), .long (lI (X 1)), .long (lI (X 2)), .long (lI (X 3)), .long (lI (X 4)), .long (lI (X 5)), .long (lI (X 6))])), (n, .inl (cI, 5, .inl (aI N))), (r, .inl (cJ, 5, .inr (.inl (aL (iu (iu (iu R 0 (N 0)) 1 (N 1)) 2 (N 2))))))] := hD
        refine ix_iinc (k := 0) (lv2 := [(3, .int (iI 3)), (2, .int (iI (f_deg N))), (0, .ref x), (1, .int (iI 1))]) hx hb dX2_change_105 hl rfl (by decide) rfl (fun ls hl => ?_)
        refine lv_goto (tgt := 43) hx hb dX2_change_108 (by decide) ?_
        refine lv_iload_n hx hb dX2_change_43 rfl (lv_at hl 0 rfl) ?_
        refine ix_iconst (n := 5) hx hb dX2_change_44 ?_
        refine ix_icmp_ge (tgt := 111) hx hb dX2_change_45 (by decide) (by decide) (by decide) (fun c144 => absurd c144 (by decide)) (fun _ => ?_)
        refine lv_aload_n hx hb dX2_change_48 rfl (lv_at hl 2 rfl) ?_
        refine va_get (D := (dC, dI)) (ci := 2) (v := .ref r) (C := RX2) (T := TX2) (N := 17) hx hb hw inX2 hown hK hP 0 rfl rfl 2 (by decide) (hw _ mA_383) (fun _ h9 => h9) rfl dX2_change_49 ?_
        refine lv_iload_n hx hb dX2_change_52 rfl (lv_at hl 0 rfl) ?_
        refine lv_iload_n hx hb dX2_change_53 rfl (lv_at hl 3 rfl) ?_
        refine ix_iconst (n := 2) hx hb dX2_change_54 ?_
        refine ix_icmp_ne (tgt := 75) hx hb dX2_change_55 (by decide) (by decide) (by decide) (fun _ => ?_) (fun c145 => absurd c145 (by decide))
        refine lv_iload_n hx hb dX2_change_75 rfl (lv_at hl 3 rfl) ?_
        refine ix_if_ne (tgt := 97) hx hb dX2_change_76 (by decide) (by decide) (fun _ => ?_) (fun c146 => absurd c146 (by decide))
        refine lv_aload_n hx hb dX2_change_97 rfl (lv_at hl 2 rfl) ?_
        refine va_get (D := (dC, dI)) (ci := 2) (v := .ref n) (C := RX2) (T := TX2) (N := 17) hx hb hw inX2 hown hK hP 0 rfl rfl 1 (by decide) (hw _ mA_382) (fun _ h9 => h9) rfl dX2_change_98 ?_
        refine lv_iload_n hx hb dX2_change_101 rfl (lv_at hl 0 rfl) ?_
        refine ix_iald (k := 3) hx hb hK hP 1 0 rfl rfl (by decide) (by decide) (by decide) dX2_change_102 ?_
        refine ix_i2l hx hb dX2_change_103 (by have := hN 3; omega) ?_
        refine ix_last (k := 3) (x := N 3) hx hb hK hP hD hS 2 1 rfl rfl (by decide) (by decide) (by decide) dX2_change_104 (fun H locs hP hD hS => ?_)
        have hP : va_P (dC, dI) vwCl [(x, .inr (2, [.int (iI 0), .ref n, .ref r, .ref d, .int (iI cn), .int (iI fc), .ref ya, .ref yb, .ref yc, .ref yo, .long (lI (X 0)), .long (lI (X 1)), .long (lI (X 2)), .long (lI (X 3)), .long (lI (X 4)), .long (lI (X 5)), .long (lI (X 6))])), (n, .inl (cI, 5, .inl (aI N))), (r, .inl (cJ, 5, .inr (.inl (aL (iu (iu (iu (iu R 0 (N 0)) 1 (N 1)) 2 (N 2)) 3 (N 3))))))] H := hP
        have hD : va_D A [(x, .inr (2, [.int (iI 0), .ref n, .ref r, .ref d, .int (iI cn), .int (iI fc), .ref ya, .ref yb, .ref yc, .ref yo, .long (lI (X 0)), .long (lI (X 1)), .long (lI (X 2)), .long (lI (X 3)), .long (lI (X 4)), .long (lI (X 5)), .long (lI (X 6))])), (n, .inl (cI, 5, .inl (aI N))), (r, .inl (cJ, 5, .inr (.inl (aL (iu (iu (iu (iu R 0 (N 0)) 1 (N 1)) 2 (N 2)) 3 (N 3))))))] := hD
        refine ix_iinc (k := 0) (lv2 := [(3, .int (iI 4)), (2, .int (iI (f_deg N))), (0, .ref x), (1, .int (iI 1))]) hx hb dX2_change_105 hl rfl (by decide) rfl (fun ls hl => ?_)
        refine lv_goto (tgt := 43) hx hb dX2_change_108 (by decide) ?_
        refine lv_iload_n hx hb dX2_change_43 rfl (lv_at hl 0 rfl) ?_
        refine ix_iconst (n := 5) hx hb dX2_change_44 ?_
        refine ix_icmp_ge (tgt := 111) hx hb dX2_change_45 (by decide) (by decide) (by decide) (fun c147 => absurd c147 (by decide)) (fun _ => ?_)
        refine lv_aload_n hx hb dX2_change_48 rfl (lv_at hl 2 rfl) ?_
        refine va_get (D := (dC, dI)) (ci := 2) (v := .ref r) (C := RX2) (T := TX2) (N := 17) hx hb hw inX2 hown hK hP 0 rfl rfl 2 (by decide) (hw _ mA_383) (fun _ h9 => h9) rfl dX2_change_49 ?_
        refine lv_iload_n hx hb dX2_change_52 rfl (lv_at hl 0 rfl) ?_
        refine lv_iload_n hx hb dX2_change_53 rfl (lv_at hl 3 rfl) ?_
        refine ix_iconst (n := 2) hx hb dX2_change_54 ?_
        refine ix_icmp_ne (tgt := 75) hx hb dX2_change_55 (by decide) (by decide) (by decide) (fun _ => ?_) (fun c148 => absurd c148 (by decide))
        refine lv_iload_n hx hb dX2_change_75 rfl (lv_at hl 3 rfl) ?_
        refine ix_if_ne (tgt := 97) hx hb dX2_change_76 (by decide) (by decide) (fun _ => ?_) (fun c149 => absurd c149 (by decide))
        refine lv_aload_n hx hb dX2_change_97 rfl (lv_at hl 2 rfl) ?_
        refine va_get (D := (dC, dI)) (ci := 2) (v := .ref n) (C := RX2) (T := TX2) (N := 17) hx hb hw inX2 hown hK hP 0 rfl rfl 1 (by decide) (hw _ mA_382) (fun _ h9 => h9) rfl dX2_change_98 ?_
        refine lv_iload_n hx hb dX2_change_101 rfl (lv_at hl 0 rfl) ?_
        refine ix_iald (k := 4) hx hb hK hP 1 0 rfl rfl (by decide) (by decide) (by decide) dX2_change_102 ?_
        refine ix_i2l hx hb dX2_change_103 (by have := hN 4; omega) ?_
        refine ix_last (k := 4) (x := N 4) hx hb hK hP hD hS 2 1 rfl rfl (by decide) (by decide) (by decide) dX2_change_104 (fun H locs hP hD hS => ?_)
        have hP : va_P (dC, dI) vwCl [(x, .inr (2, [.int (iI 0), .ref n, .ref r, .ref d, .int (iI cn), .int (iI fc), .ref ya, .ref yb, .ref yc, .ref yo, .long (lI (X 0)), .long (lI (X 1)), .long (lI (X 2)), .long (lI (X 3)), .long (lI (X 4)), .long (lI (X 5)), .long (lI (X 6))])), (n, .inl (cI, 5, .inl (aI N))), (r, .inl (cJ, 5, .inr (.inl (aL (iu (iu (iu (iu (iu R 0 (N 0)) 1 (N 1)) 2 (N 2)) 3 (N 3)) 4 (N 4))))))] H := hP
        have hD : va_D A [(x, .inr (2, [.int (iI 0), .ref n, .ref r, .ref d, .int (iI cn), .int (iI fc), .ref ya, .ref yb, .ref yc, .ref yo, .long (lI (X 0)), .long (lI (X 1)), .long (lI (X 2)), .long (lI (X 3)), .long (lI (X 4)), .long (lI (X 5)), .long (lI (X 6))])), (n, .inl (cI, 5, .inl (aI N))), (r, .inl (cJ, 5, .inr (.inl (aL (iu (iu (iu (iu (iu R 0 (N 0)) 1 (N 1)) 2 (N 2)) 3 (N 3)) 4 (N 4))))))] := hD
        refine ix_iinc (k := 0) (lv2 := [(3, .int (iI 5)), (2, .int (iI (f_deg N))), (0, .ref x), (1, .int (iI 1))]) hx hb dX2_change_105 hl rfl (by decide) rfl (fun ls hl => ?_)
        refine lv_goto (tgt := 43) hx hb dX2_change_108 (by decide) ?_
        refine lv_iload_n hx hb dX2_change_43 rfl (lv_at hl 0 rfl) ?_
        refine ix_iconst (n := 5) hx hb dX2_change_44 ?_
        refine ix_icmp_ge (tgt := 111) hx hb dX2_change_45 (by decide) (by decide) (by decide) (fun _ => ?_) (fun c150 => absurd c150 (by decide))
        have e9 : iu (iu (iu (iu (iu R 0 (N 0)) 1 (N 1)) 2 (N 2)) 3 (N 3)) 4 (N 4) = N := cp_fun hR5 h5
        rw [e9] at hP hD
        refine lv_iload_n hx hb dX2_change_111 rfl (lv_at hl 3 rfl) ?_
        refine ix_iconst (n := 1) hx hb dX2_change_112 ?_
        refine ix_icmp_eq (tgt := 121) hx hb dX2_change_113 (by decide) (by decide) (by decide) (fun _ => ?_) (fun c151 => absurd c151 (by decide))
        refine ix_iconst (n := 0) hx hb dX2_change_121 ?_
        refine lv_istore_n (lv' := [(3, .int (iI 0)), (2, .int (iI (f_deg N))), (0, .ref x), (1, .int (iI 1))]) hx hb dX2_change_122 rfl hl (by decide) rfl (fun ls hl => ?_)
        refine lv_iload_n hx hb dX2_change_123 rfl (lv_at hl 0 rfl) ?_
        refine ix_iconst (n := 4) hx hb dX2_change_124 ?_
        refine ix_icmp_ge (tgt := 171) hx hb dX2_change_125 (by decide) (by decide) (by decide) (fun c152 => absurd c152 (by decide)) (fun _ => ?_)
        refine ix_iconst (n := 3) hx hb dX2_change_128 ?_
        refine lv_istore (lv' := [(4, .int (iI 3)), (3, .int (iI 0)), (2, .int (iI (f_deg N))), (0, .ref x), (1, .int (iI 1))]) hx hb dX2_change_129 hl (by decide) rfl (fun ls hl => ?_)
        refine lv_iload hx hb dX2_change_131 (lv_at hl 0 rfl) ?_
        refine lv_iload_n hx hb dX2_change_133 rfl (lv_at hl 1 rfl) ?_
        refine ix_icmp_lt (tgt := 165) hx hb dX2_change_134 (by decide) (by decide) (by decide) (fun c153 => absurd c153 (by decide)) (fun _ => ?_)
        refine lv_aload_n hx hb dX2_change_137 rfl (lv_at hl 3 rfl) ?_
        refine va_get (D := (dC, dI)) (ci := 2) (v := .ref r) (C := RX2) (T := TX2) (N := 17) hx hb hw inX2 hown hK hP 0 rfl rfl 2 (by decide) (hw _ mA_383) (fun _ h9 => h9) rfl dX2_change_138 ?_
        refine lv_iload hx hb dX2_change_141 (lv_at hl 0 rfl) ?_
        refine lv_dup2_11 hx hb dX2_change_143 rfl rfl ?_
        refine ix_lald (k := 3) hx hb hK hP 2 1 rfl rfl (by decide) (by decide) (by decide) dX2_change_144 ?_
        refine lv_iload_n hx hb dX2_change_145 rfl (lv_at hl 4 rfl) ?_
        refine ix_i2l hx hb dX2_change_146 (by decide) ?_
        refine lv_aload_n hx hb dX2_change_147 rfl (lv_at hl 3 rfl) ?_
        refine va_get (D := (dC, dI)) (ci := 2) (v := .ref r) (C := RX2) (T := TX2) (N := 17) hx hb hw inX2 hown hK hP 0 rfl rfl 2 (by decide) (hw _ mA_383) (fun _ h9 => h9) rfl dX2_change_148 ?_
        refine lv_iload hx hb dX2_change_151 (lv_at hl 0 rfl) ?_
        refine ix_iconst (n := 1) hx hb dX2_change_153 ?_
        refine ix_iadd hx hb dX2_change_154 ?_
        refine ix_z (y := 4) rfl ?_
        refine ix_lald (k := 4) hx hb hK hP 2 1 rfl rfl (by decide) (by decide) (by decide) dX2_change_155 ?_
        refine ix_lmul hx hb dX2_change_156 ?_
        refine ix_ladd hx hb dX2_change_157 ?_
        refine ix_last (k := 3) (x := (N 3) + (1 * (N 4))) hx hb hK hP hD hS 2 1 rfl rfl (by decide) (by decide) (by decide) dX2_change_158 (fun H locs hP hD hS => ?_)
        have hP : va_P (dC, dI) vwCl [(x, .inr (2, [.int (iI 0), .ref n, .ref r, .ref d, .int (iI cn), .int (iI fc), .ref ya, .ref yb, .ref yc, .ref yo, .long (lI (X 0)), .long (lI (X 1)), .long (lI (X 2)), .long (lI (X 3)), .long (lI (X 4)), .long (lI (X 5)), .long (lI (X 6))])), (n, .inl (cI, 5, .inl (aI N))), (r, .inl (cJ, 5, .inr (.inl (aL (iu N 3 ((N 3) + (1 * (N 4))))))))] H := hP
        have hD : va_D A [(x, .inr (2, [.int (iI 0), .ref n, .ref r, .ref d, .int (iI cn), .int (iI fc), .ref ya, .ref yb, .ref yc, .ref yo, .long (lI (X 0)), .long (lI (X 1)), .long (lI (X 2)), .long (lI (X 3)), .long (lI (X 4)), .long (lI (X 5)), .long (lI (X 6))])), (n, .inl (cI, 5, .inl (aI N))), (r, .inl (cJ, 5, .inr (.inl (aL (iu N 3 ((N 3) + (1 * (N 4))))))))] := hD
        have hP : va_P (dC, dI) vwCl [(x, .inr (2, [.int (iI 0), .ref n, .ref r, .ref d, .int (iI cn), .int (iI fc), .ref ya, .ref yb, .ref yc, .ref yo, .long (lI (X 0)), .long (lI (X 1)), .long (lI (X 2)), .long (lI (X 3)), .long (lI (X 4)), .long (lI (X 5)), .long (lI (X 6))])), (n, .inl (cI, 5, .inl (aI N))), (r, .inl (cJ, 5, .inr (.inl (aL (shs 1 3 N)))))] H := hP
        have hD : va_D A [(x, .inr (2, [.int (iI 0), .ref n, .ref r, .ref d, .int (iI cn), .int (iI fc), .ref ya, .ref yb, .ref yc, .ref yo, .long (lI (X 0)), .long (lI (X 1)), .long (lI (X 2)), .long (lI (X 3)), .long (lI (X 4)), .long (lI (X 5)), .long (lI (X 6))])), (n, .inl (cI, 5, .inl (aI N))), (r, .inl (cJ, 5, .inr (.inl (aL (shs 1 3 N)))))] := hD
        refine ix_iinc (k := 0) (lv2 := [(4, .int (iI 2)), (3, .int (iI 0)), (2, .int (iI (f_deg N))), (0, .ref x), (1, .int (iI 1))]) hx hb dX2_change_159 hl rfl (by decide) rfl (fun ls hl => ?_)
        refine lv_goto (tgt := 131) hx hb dX2_change_162 (by decide) ?_
        refine lv_iload hx hb dX2_change_131 (lv_at hl 0 rfl) ?_
        refine lv_iload_n hx hb dX2_change_133 rfl (lv_at hl 1 rfl) ?_
        refine ix_icmp_lt (tgt := 165) hx hb dX2_change_134 (by decide) (by decide) (by decide) (fun c154 => absurd c154 (by decide)) (fun _ => ?_)
        refine lv_aload_n hx hb dX2_change_137 rfl (lv_at hl 3 rfl) ?_
        refine va_get (D := (dC, dI)) (ci := 2) (v := .ref r) (C := RX2) (T := TX2) (N := 17) hx hb hw inX2 hown hK hP 0 rfl rfl 2 (by decide) (hw _ mA_383) (fun _ h9 => h9) rfl dX2_change_138 ?_
        refine lv_iload hx hb dX2_change_141 (lv_at hl 0 rfl) ?_
        refine lv_dup2_11 hx hb dX2_change_143 rfl rfl ?_
        refine ix_lald (k := 2) hx hb hK hP 2 1 rfl rfl (by decide) (by decide) (by decide) dX2_change_144 ?_
        refine lv_iload_n hx hb dX2_change_145 rfl (lv_at hl 4 rfl) ?_
        refine ix_i2l hx hb dX2_change_146 (by decide) ?_
        refine lv_aload_n hx hb dX2_change_147 rfl (lv_at hl 3 rfl) ?_
        refine va_get (D := (dC, dI)) (ci := 2) (v := .ref r) (C := RX2) (T := TX2) (N := 17) hx hb hw inX2 hown hK hP 0 rfl rfl 2 (by decide) (hw _ mA_383) (fun _ h9 => h9) rfl dX2_change_148 ?_
        refine lv_iload hx hb dX2_change_151 (lv_at hl 0 rfl) ?_
        refine ix_iconst (n := 1) hx hb dX2_change_153 ?_
        refine ix_iadd hx hb dX2_change_154 ?_
        refine ix_z (y := 3) rfl ?_
        refine ix_lald (k := 3) hx hb hK hP 2 1 rfl rfl (by decide) (by decide) (by decide) dX2_change_155 ?_
        refine ix_lmul hx hb dX2_change_156 ?_
        refine ix_ladd hx hb dX2_change_157 ?_
        refine ix_last (k := 2) (x := ((shs 1 3 N) 2) + (1 * ((shs 1 3 N) 3))) hx hb hK hP hD hS 2 1 rfl rfl (by decide) (by decide) (by decide) dX2_change_158 (fun H locs hP hD hS => ?_)
        have hP : va_P (dC, dI) vwCl [(x, .inr (2, [.int (iI 0), .ref n, .ref r, .ref d, .int (iI cn), .int (iI fc), .ref ya, .ref yb, .ref yc, .ref yo, .long (lI (X 0)), .long (lI (X 1)), .long (lI (X 2)), .long (lI (X 3)), .long (lI (X 4)), .long (lI (X 5)), .long (lI (X 6))])), (n, .inl (cI, 5, .inl (aI N))), (r, .inl (cJ, 5, .inr (.inl (aL (iu (shs 1 3 N) 2 (((shs 1 3 N) 2) + (1 * ((shs 1 3 N) 3))))))))] H := hP
        have hD : va_D A [(x, .inr (2, [.int (iI 0), .ref n, .ref r, .ref d, .int (iI cn), .int (iI fc), .ref ya, .ref yb, .ref yc, .ref yo, .long (lI (X 0)), .long (lI (X 1)), .long (lI (X 2)), .long (lI (X 3)), .long (lI (X 4)), .long (lI (X 5)), .long (lI (X 6))])), (n, .inl (cI, 5, .inl (aI N))), (r, .inl (cJ, 5, .inr (.inl (aL (iu (shs 1 3 N) 2 (((shs 1 3 N) 2) + (1 * ((shs 1 3 N) 3))))))))] := hD
        have hP : va_P (dC, dI) vwCl [(x, .inr (2, [.int (iI 0), .ref n, .ref r, .ref d, .int (iI cn), .int (iI fc), .ref ya, .ref yb, .ref yc, .ref yo, .long (lI (X 0)), .long (lI (X 1)), .long (lI (X 2)), .long (lI (X 3)), .long (lI (X 4)), .long (lI (X 5)), .long (lI (X 6))])), (n, .inl (cI, 5, .inl (aI N))), (r, .inl (cJ, 5, .inr (.inl (aL (shs 1 2 (shs 1 3 N))))))] H := hP
        have hD : va_D A [(x, .inr (2, [.int (iI 0), .ref n, .ref r, .ref d, .int (iI cn), .int (iI fc), .ref ya, .ref yb, .ref yc, .ref yo, .long (lI (X 0)), .long (lI (X 1)), .long (lI (X 2)), .long (lI (X 3)), .long (lI (X 4)), .long (lI (X 5)), .long (lI (X 6))])), (n, .inl (cI, 5, .inl (aI N))), (r, .inl (cJ, 5, .inr (.inl (aL (shs 1 2 (shs 1 3 N))))))] := hD
        refine ix_iinc (k := 0) (lv2 := [(4, .int (iI 1)), (3, .int (iI 0)), (2, .int (iI (f_deg N))), (0, .ref x), (1, .int (iI 1))]) hx hb dX2_change_159 hl rfl (by decide) rfl (fun ls hl => ?_)
        refine lv_goto (tgt := 131) hx hb dX2_change_162 (by decide) ?_
        refine lv_iload hx hb dX2_change_131 (lv_at hl 0 rfl) ?_
        refine lv_iload_n hx hb dX2_change_133 rfl (lv_at hl 1 rfl) ?_
        refine ix_icmp_lt (tgt := 165) hx hb dX2_change_134 (by decide) (by decide) (by decide) (fun c155 => absurd c155 (by decide)) (fun _ => ?_)
        refine lv_aload_n hx hb dX2_change_137 rfl (lv_at hl 3 rfl) ?_
        refine va_get (D := (dC, dI)) (ci := 2) (v := .ref r) (C := RX2) (T := TX2) (N := 17) hx hb hw inX2 hown hK hP 0 rfl rfl 2 (by decide) (hw _ mA_383) (fun _ h9 => h9) rfl dX2_change_138 ?_
        refine lv_iload hx hb dX2_change_141 (lv_at hl 0 rfl) ?_
        refine lv_dup2_11 hx hb dX2_change_143 rfl rfl ?_
        refine ix_lald (k := 1) hx hb hK hP 2 1 rfl rfl (by decide) (by decide) (by decide) dX2_change_144 ?_
        refine lv_iload_n hx hb dX2_change_145 rfl (lv_at hl 4 rfl) ?_
        refine ix_i2l hx hb dX2_change_146 (by decide) ?_
        refine lv_aload_n hx hb dX2_change_147 rfl (lv_at hl 3 rfl) ?_
        refine va_get (D := (dC, dI)) (ci := 2) (v := .ref r) (C := RX2) (T := TX2) (N := 17) hx hb hw inX2 hown hK hP 0 rfl rfl 2 (by decide) (hw _ mA_383) (fun _ h9 => h9) rfl dX2_change_148 ?_
        refine lv_iload hx hb dX2_change_151 (lv_at hl 0 rfl) ?_
        refine ix_iconst (n := 1) hx hb dX2_change_153 ?_
        refine ix_iadd hx hb dX2_change_154 ?_
        refine ix_z (y := 2) rfl ?_
        refine ix_lald (k := 2) hx hb hK hP 2 1 rfl rfl (by decide) (by decide) (by decide) dX2_change_155 ?_
        refine ix_lmul hx hb dX2_change_156 ?_
        refine ix_ladd hx hb dX2_change_157 ?_
        refine ix_last (k := 1) (x := ((shs 1 2 (shs 1 3 N)) 1) + (1 * ((shs 1 2 (shs 1 3 N)) 2))) hx hb hK hP hD hS 2 1 rfl rfl (by decide) (by decide) (by decide) dX2_change_158 (fun H locs hP hD hS => ?_)
        have hP : va_P (dC, dI) vwCl [(x, .inr (2, [.int (iI 0), .ref n, .ref r, .ref d, .int (iI cn), .int (iI fc), .ref ya, .ref yb, .ref yc, .ref yo, .long (lI (X 0)), .long (lI (X 1)), .long (lI (X 2)), .long (lI (X 3)), .long (lI (X 4)), .long (lI (X 5)), .long (lI (X 6))])), (n, .inl (cI, 5, .inl (aI N))), (r, .inl (cJ, 5, .inr (.inl (aL (iu (shs 1 2 (shs 1 3 N)) 1 (((shs 1 2 (shs 1 3 N)) 1) + (1 * ((shs 1 2 (shs 1 3 N)) 2))))))))] H := hP
        have hD : va_D A [(x, .inr (2, [.int (iI 0), .ref n, .ref r, .ref d, .int (iI cn), .int (iI fc), .ref ya, .ref yb, .ref yc, .ref yo, .long (lI (X 0)), .long (lI (X 1)), .long (lI (X 2)), .long (lI (X 3)), .long (lI (X 4)), .long (lI (X 5)), .long (lI (X 6))])), (n, .inl (cI, 5, .inl (aI N))), (r, .inl (cJ, 5, .inr (.inl (aL (iu (shs 1 2 (shs 1 3 N)) 1 (((shs 1 2 (shs 1 3 N)) 1) + (1 * ((shs 1 2 (shs 1 3 N)) 2))))))))] := hD
        have hP : va_P (dC, dI) vwCl [(x, .inr (2, [.int (iI 0), .ref n, .ref r, .ref d, .int (iI cn), .int (iI fc), .ref ya, .ref yb, .ref yc, .ref yo, .long (lI (X 0)), .long (lI (X 1)), .long (lI (X 2)), .long (lI (X 3)), .long (lI (X 4)), .long (lI (X 5)), .long (lI (X 6))])), (n, .inl (cI, 5, .inl (aI N))), (r, .inl (cJ, 5, .inr (.inl (aL (shs 1 1 (shs 1 2 (shs 1 3 N)))))))] H := hP
        have hD : va_D A [(x, .inr (2, [.int (iI 0), .ref n, .ref r, .ref d, .int (iI cn), .int (iI fc), .ref ya, .ref yb, .ref yc, .ref yo, .long (lI (X 0)), .long (lI (X 1)), .long (lI (X 2)), .long (lI (X 3)), .long (lI (X 4)), .long (lI (X 5)), .long (lI (X 6))])), (n, .inl (cI, 5, .inl (aI N))), (r, .inl (cJ, 5, .inr (.inl (aL (shs 1 1 (shs 1 2 (shs 1 3 N)))))))] := hD
        refine ix_iinc (k := 0) (lv2 := [(4, .int (iI 0)), (3, .int (iI 0)), (2, .int (iI (f_deg N))), (0, .ref x), (1, .int (iI 1))]) hx hb dX2_change_159 hl rfl (by decide) rfl (fun ls hl => ?_)
        refine lv_goto (tgt := 131) hx hb dX2_change_162 (by decide) ?_
        refine lv_iload hx hb dX2_change_131 (lv_at hl 0 rfl) ?_
        refine lv_iload_n hx hb dX2_change_133 rfl (lv_at hl 1 rfl) ?_
        refine ix_icmp_lt (tgt := 165) hx hb dX2_change_134 (by decide) (by decide) (by decide) (fun c156 => absurd c156 (by decide)) (fun _ => ?_)
        refine lv_aload_n hx hb dX2_change_137 rfl (lv_at hl 3 rfl) ?_
        refine va_get (D := (dC, dI)) (ci := 2) (v := .ref r) (C := RX2) (T := TX2) (N := 17) hx hb hw inX2 hown hK hP 0 rfl rfl 2 (by decide) (hw _ mA_383) (fun _ h9 => h9) rfl dX2_change_138 ?_
        refine lv_iload hx hb dX2_change_141 (lv_at hl 0 rfl) ?_
        refine lv_dup2_11 hx hb dX2_change_143 rfl rfl ?_
        refine ix_lald (k := 0) hx hb hK hP 2 1 rfl rfl (by decide) (by decide) (by decide) dX2_change_144 ?_
        refine lv_iload_n hx hb dX2_change_145 rfl (lv_at hl 4 rfl) ?_
        refine ix_i2l hx hb dX2_change_146 (by decide) ?_
        refine lv_aload_n hx hb dX2_change_147 rfl (lv_at hl 3 rfl) ?_
        refine va_get (D := (dC, dI)) (ci := 2) (v := .ref r) (C := RX2) (T := TX2) (N := 17) hx hb hw inX2 hown hK hP 0 rfl rfl 2 (by decide) (hw _ mA_383) (fun _ h9 => h9) rfl dX2_change_148 ?_
        refine lv_iload hx hb dX2_change_151 (lv_at hl 0 rfl) ?_
        refine ix_iconst (n := 1) hx hb dX2_change_153 ?_
        refine ix_iadd hx hb dX2_change_154 ?_
        refine ix_z (y := 1) rfl ?_
        refine ix_lald (k := 1) hx hb hK hP 2 1 rfl rfl (by decide) (by decide) (by decide) dX2_change_155 ?_
        refine ix_lmul hx hb dX2_change_156 ?_
        refine ix_ladd hx hb dX2_change_157 ?_
        refine ix_last (k := 0) (x := ((shs 1 1 (shs 1 2 (shs 1 3 N))) 0) + (1 * ((shs 1 1 (shs 1 2 (shs 1 3 N))) 1))) hx hb hK hP hD hS 2 1 rfl rfl (by decide) (by decide) (by decide) dX2_change_158 (fun H locs hP hD hS => ?_)
        have hP : va_P (dC, dI) vwCl [(x, .inr (2, [.int (iI 0), .ref n, .ref r, .ref d, .int (iI cn), .int (iI fc), .ref ya, .ref yb, .ref yc, .ref yo, .long (lI (X 0)), .long (lI (X 1)), .long (lI (X 2)), .long (lI (X 3)), .long (lI (X 4)), .long (lI (X 5)), .long (lI (X 6))])), (n, .inl (cI, 5, .inl (aI N))), (r, .inl (cJ, 5, .inr (.inl (aL (iu (shs 1 1 (shs 1 2 (shs 1 3 N))) 0 (((shs 1 1 (shs 1 2 (shs 1 3 N))) 0) + (1 * ((shs 1 1 (shs 1 2 (shs 1 3 N))) 1))))))))] H := hP
        have hD : va_D A [(x, .inr (2, [.int (iI 0), .ref n, .ref r, .ref d, .int (iI cn), .int (iI fc), .ref ya, .ref yb, .ref yc, .ref yo, .long (lI (X 0)), .long (lI (X 1)), .long (lI (X 2)), .long (lI (X 3)), .long (lI (X 4)), .long (lI (X 5)), .long (lI (X 6))])), (n, .inl (cI, 5, .inl (aI N))), (r, .inl (cJ, 5, .inr (.inl (aL (iu (shs 1 1 (shs 1 2 (shs 1 3 N))) 0 (((shs 1 1 (shs 1 2 (shs 1 3 N))) 0) + (1 * ((shs 1 1 (shs 1 2 (shs 1 3 N))) 1))))))))] := hD
        have hP : va_P (dC, dI) vwCl [(x, .inr (2, [.int (iI 0), .ref n, .ref r, .ref d, .int (iI cn), .int (iI fc), .ref ya, .ref yb, .ref yc, .ref yo, .long (lI (X 0)), .long (lI (X 1)), .long (lI (X 2)), .long (lI (X 3)), .long (lI (X 4)), .long (lI (X 5)), .long (lI (X 6))])), (n, .inl (cI, 5, .inl (aI N))), (r, .inl (cJ, 5, .inr (.inl (aL (shs 1 0 (shs 1 1 (shs 1 2 (shs 1 3 N))))))))] H := hP
        have hD : va_D A [(x, .inr (2, [.int (iI 0), .ref n, .ref r, .ref d, .int (iI cn), .int (iI fc), .ref ya, .ref yb, .ref yc, .ref yo, .long (lI (X 0)), .long (lI (X 1)), .long (lI (X 2)), .long (lI (X 3)), .long (lI (X 4)), .long (lI (X 5)), .long (lI (X 6))])), (n, .inl (cI, 5, .inl (aI N))), (r, .inl (cJ, 5, .inr (.inl (aL (shs 1 0 (shs 1 1 (shs 1 2 (shs 1 3 N))))))))] := hD
        refine ix_iinc (k := 0) (lv2 := [(4, .int (iI (-1))), (3, .int (iI 0)), (2, .int (iI (f_deg N))), (0, .ref x), (1, .int (iI 1))]) hx hb dX2_change_159 hl rfl (by decide) rfl (fun ls hl => ?_)
        refine lv_goto (tgt := 131) hx hb dX2_change_162 (by decide) ?_
        refine lv_iload hx hb dX2_change_131 (lv_at hl 0 rfl) ?_
        refine lv_iload_n hx hb dX2_change_133 rfl (lv_at hl 1 rfl) ?_
        refine ix_icmp_lt (tgt := 165) hx hb dX2_change_134 (by decide) (by decide) (by decide) (fun _ => ?_) (fun c157 => absurd c157 (by decide))
        refine ix_iinc (k := 1) (lv2 := [(3, .int (iI 1)), (4, .int (iI (-1))), (2, .int (iI (f_deg N))), (0, .ref x), (1, .int (iI 1))]) hx hb dX2_change_165 hl rfl (by decide) rfl (fun ls hl => ?_)
        refine lv_goto (tgt := 123) hx hb dX2_change_168 (by decide) ?_
        refine lv_iload_n hx hb dX2_change_123 rfl (lv_at hl 0 rfl) ?_
        refine ix_iconst (n := 4) hx hb dX2_change_124 ?_
        refine ix_icmp_ge (tgt := 171) hx hb dX2_change_125 (by decide) (by decide) (by decide) (fun c158 => absurd c158 (by decide)) (fun _ => ?_)
        refine ix_iconst (n := 3) hx hb dX2_change_128 ?_
        refine lv_istore (lv' := [(4, .int (iI 3)), (3, .int (iI 1)), (2, .int (iI (f_deg N))), (0, .ref x), (1, .int (iI 1))]) hx hb dX2_change_129 hl (by decide) rfl (fun ls hl => ?_)
        refine lv_iload hx hb dX2_change_131 (lv_at hl 0 rfl) ?_
        refine lv_iload_n hx hb dX2_change_133 rfl (lv_at hl 1 rfl) ?_
        refine ix_icmp_lt (tgt := 165) hx hb dX2_change_134 (by decide) (by decide) (by decide) (fun c159 => absurd c159 (by decide)) (fun _ => ?_)
        refine lv_aload_n hx hb dX2_change_137 rfl (lv_at hl 3 rfl) ?_
        refine va_get (D := (dC, dI)) (ci := 2) (v := .ref r) (C := RX2) (T := TX2) (N := 17) hx hb hw inX2 hown hK hP 0 rfl rfl 2 (by decide) (hw _ mA_383) (fun _ h9 => h9) rfl dX2_change_138 ?_
        refine lv_iload hx hb dX2_change_141 (lv_at hl 0 rfl) ?_
        refine lv_dup2_11 hx hb dX2_change_143 rfl rfl ?_
        refine ix_lald (k := 3) hx hb hK hP 2 1 rfl rfl (by decide) (by decide) (by decide) dX2_change_144 ?_
        refine lv_iload_n hx hb dX2_change_145 rfl (lv_at hl 4 rfl) ?_
        refine ix_i2l hx hb dX2_change_146 (by decide) ?_
        refine lv_aload_n hx hb dX2_change_147 rfl (lv_at hl 3 rfl) ?_
        refine va_get (D := (dC, dI)) (ci := 2) (v := .ref r) (C := RX2) (T := TX2) (N := 17) hx hb hw inX2 hown hK hP 0 rfl rfl 2 (by decide) (hw _ mA_383) (fun _ h9 => h9) rfl dX2_change_148 ?_
        refine lv_iload hx hb dX2_change_151 (lv_at hl 0 rfl) ?_
        refine ix_iconst (n := 1) hx hb dX2_change_153 ?_
        refine ix_iadd hx hb dX2_change_154 ?_
        refine ix_z (y := 4) rfl ?_
        refine ix_lald (k := 4) hx hb hK hP 2 1 rfl rfl (by decide) (by decide) (by decide) dX2_change_155 ?_
        refine ix_lmul hx hb dX2_change_156 ?_
        refine ix_ladd hx hb dX2_change_157 ?_
        refine ix_last (k := 3) (x := ((shs 1 0 (shs 1 1 (shs 1 2 (shs 1 3 N)))) 3) + (1 * ((shs 1 0 (shs 1 1 (shs 1 2 (shs 1 3 N)))) 4))) hx hb hK hP hD hS 2 1 rfl rfl (by decide) (by decide) (by decide) dX2_change_158 (fun H locs hP hD hS => ?_)
        have hP : va_P (dC, dI) vwCl [(x, .inr (2, [.int (iI 0), .ref n, .ref r, .ref d, .int (iI cn), .int (iI fc), .ref ya, .ref yb, .ref yc, .ref yo, .long (lI (X 0)), .long (lI (X 1)), .long (lI (X 2)), .long (lI (X 3)), .long (lI (X 4)), .long (lI (X 5)), .long (lI (X 6))])), (n, .inl (cI, 5, .inl (aI N))), (r, .inl (cJ, 5, .inr (.inl (aL (iu (shs 1 0 (shs 1 1 (shs 1 2 (shs 1 3 N)))) 3 (((shs 1 0 (shs 1 1 (shs 1 2 (shs 1 3 N)))) 3) + (1 * ((shs 1 0 (shs 1 1 (shs 1 2 (shs 1 3 N)))) 4))))))))] H := hP
        have hD : va_D A [(x, .inr (2, [.int (iI 0), .ref n, .ref r, .ref d, .int (iI cn), .int (iI fc), .ref ya, .ref yb, .ref yc, .ref yo, .long (lI (X 0)), .long (lI (X 1)), .long (lI (X 2)), .long (lI (X 3)), .long (lI (X 4)), .long (lI (X 5)), .long (lI (X 6))])), (n, .inl (cI, 5, .inl (aI N))), (r, .inl (cJ, 5, .inr (.inl (aL (iu (shs 1 0 (shs 1 1 (shs 1 2 (shs 1 3 N)))) 3 (((shs 1 0 (shs 1 1 (shs 1 2 (shs 1 3 N)))) 3) + (1 * ((shs 1 0 (shs 1 1 (shs 1 2 (shs 1 3 N)))) 4))))))))] := hD
        have hP : va_P (dC, dI) vwCl [(x, .inr (2, [.int (iI 0), .ref n, .ref r, .ref d, .int (iI cn), .int (iI fc), .ref ya, .ref yb, .ref yc, .ref yo, .long (lI (X 0)), .long (lI (X 1)), .long (lI (X 2)), .long (lI (X 3)), .long (lI (X 4)), .long (lI (X 5)), .long (lI (X 6))])), (n, .inl (cI, 5, .inl (aI N))), (r, .inl (cJ, 5, .inr (.inl (aL (shs 1 3 (shs 1 0 (shs 1 1 (shs 1 2 (shs 1 3 N)))))))))] H := hP
        have hD : va_D A [(x, .inr (2, [.int (iI 0), .ref n, .ref r, .ref d, .int (iI cn), .int (iI fc), .ref ya, .ref yb, .ref yc, .ref yo, .long (lI (X 0)), .long (lI (X 1)), .long (lI (X 2)), .long (lI (X 3)), .long (lI (X 4)), .long (lI (X 5)), .long (lI (X 6))])), (n, .inl (cI, 5, .inl (aI N))), (r, .inl (cJ, 5, .inr (.inl (aL (shs 1 3 (shs 1 0 (shs 1 1 (shs 1 2 (shs 1 3 N)))))))))] := hD
        refine ix_iinc (k := 0) (lv2 := [(4, .int (iI 2)), (3, .int (iI 1)), (2, .int (iI (f_deg N))), (0, .ref x), (1, .int (iI 1))]) hx hb dX2_change_159 hl rfl (by decide) rfl (fun ls hl => ?_)
        refine lv_goto (tgt := 131) hx hb dX2_change_162 (by decide) ?_
        refine lv_iload hx hb dX2_change_131 (lv_at hl 0 rfl) ?_
        refine lv_iload_n hx hb dX2_change_133 rfl (lv_at hl 1 rfl) ?_
        refine ix_icmp_lt (tgt := 165) hx hb dX2_change_134 (by decide) (by decide) (by decide) (fun c160 => absurd c160 (by decide)) (fun _ => ?_)
        refine lv_aload_n hx hb dX2_change_137 rfl (lv_at hl 3 rfl) ?_
        refine va_get (D := (dC, dI)) (ci := 2) (v := .ref r) (C := RX2) (T := TX2) (N := 17) hx hb hw inX2 hown hK hP 0 rfl rfl 2 (by decide) (hw _ mA_383) (fun _ h9 => h9) rfl dX2_change_138 ?_
        refine lv_iload hx hb dX2_change_141 (lv_at hl 0 rfl) ?_
        refine lv_dup2_11 hx hb dX2_change_143 rfl rfl ?_
        refine ix_lald (k := 2) hx hb hK hP 2 1 rfl rfl (by decide) (by decide) (by decide) dX2_change_144 ?_
        refine lv_iload_n hx hb dX2_change_145 rfl (lv_at hl 4 rfl) ?_
        refine ix_i2l hx hb dX2_change_146 (by decide) ?_
        refine lv_aload_n hx hb dX2_change_147 rfl (lv_at hl 3 rfl) ?_
        refine va_get (D := (dC, dI)) (ci := 2) (v := .ref r) (C := RX2) (T := TX2) (N := 17) hx hb hw inX2 hown hK hP 0 rfl rfl 2 (by decide) (hw _ mA_383) (fun _ h9 => h9) rfl dX2_change_148 ?_
        refine lv_iload hx hb dX2_change_151 (lv_at hl 0 rfl) ?_
        refine ix_iconst (n := 1) hx hb dX2_change_153 ?_
        refine ix_iadd hx hb dX2_change_154 ?_
        refine ix_z (y := 3) rfl ?_
        refine ix_lald (k := 3) hx hb hK hP 2 1 rfl rfl (by decide) (by decide) (by decide) dX2_change_155 ?_
        refine ix_lmul hx hb dX2_change_156 ?_
        refine ix_ladd hx hb dX2_change_157 ?_
        refine ix_last (k := 2) (x := ((shs 1 3 (shs 1 0 (shs 1 1 (shs 1 2 (shs 1 3 N))))) 2) + (1 * ((shs 1 3 (shs 1 0 (shs 1 1 (shs 1 2 (shs 1 3 N))))) 3))) hx hb hK hP hD hS 2 1 rfl rfl (by decide) (by decide) (by decide) dX2_change_158 (fun H locs hP hD hS => ?_)
        have hP : va_P (dC, dI) vwCl [(x, .inr (2, [.int (iI 0), .ref n, .ref r, .ref d, .int (iI cn), .int (iI fc), .ref ya, .ref yb, .ref yc, .ref yo, .long (lI (X 0)), .long (lI (X 1)), .long (lI (X 2)), .long (lI (X 3)), .long (lI (X 4)), .long (lI (X 5)), .long (lI (X 6))])), (n, .inl (cI, 5, .inl (aI N))), (r, .inl (cJ, 5, .inr (.inl (aL (iu (shs 1 3 (shs 1 0 (shs 1 1 (shs 1 2 (shs 1 3 N))))) 2 (((shs 1 3 (shs 1 0 (shs 1 1 (shs 1 2 (shs 1 3 N))))) 2) + (1 * ((shs 1 3 (shs 1 0 (shs 1 1 (shs 1 2 (shs 1 3 N))))) 3))))))))] H := hP
        have hD : va_D A [(x, .inr (2, [.int (iI 0), .ref n, .ref r, .ref d, .int (iI cn), .int (iI fc), .ref ya, .ref yb, .ref yc, .ref yo, .long (lI (X 0)), .long (lI (X 1)), .long (lI (X 2)), .long (lI (X 3)), .long (lI (X 4)), .long (lI (X 5)), .long (lI (X 6))])), (n, .inl (cI, 5, .inl (aI N))), (r, .inl (cJ, 5, .inr (.inl (aL (iu (shs 1 3 (shs 1 0 (shs 1 1 (shs 1 2 (shs 1 3 N))))) 2 (((shs 1 3 (shs 1 0 (shs 1 1 (shs 1 2 (shs 1 3 N))))) 2) + (1 * ((shs 1 3 (shs 1 0 (shs 1 1 (shs 1 2 (shs 1 3 N))))) 3))))))))] := hD
        have hP : va_P (dC, dI) vwCl [(x, .inr (2, [.int (iI 0), .ref n, .ref r, .ref d, .int (iI cn), .int (iI fc), .ref ya, .ref yb, .ref yc, .ref yo, .long (lI (X 0)), .long (lI (X 1)), .long (lI (X 2)), .long (lI (X 3)), .long (lI (X 4)), .long (lI (X 5)), .long (lI (X 6))])), (n, .inl (cI, 5, .inl (aI N))), (r, .inl (cJ, 5, .inr (.inl (aL (shs 1 2 (shs 1 3 (shs 1 0 (shs 1 1 (shs 1 2 (shs 1 3 N))))))))))] H := hP
        have hD : va_D A [(x, .inr (2, [.int (iI 0), .ref n, .ref r, .ref d, .int (iI cn), .int (iI fc), .ref ya, .ref yb, .ref yc, .ref yo, .long (lI (X 0)), .long (lI (X 1)), .long (lI (X 2)), .long (lI (X 3)), .long (lI (X 4)), .long (lI (X 5)), .long (lI (X 6))])), (n, .inl (cI, 5, .inl (aI N))), (r, .inl (cJ, 5, .inr (.inl (aL (shs 1 2 (shs 1 3 (shs 1 0 (shs 1 1 (shs 1 2 (shs 1 3 N))))))))))] := hD
        refine ix_iinc (k := 0) (lv2 := [(4, .int (iI 1)), (3, .int (iI 1)), (2, .int (iI (f_deg N))), (0, .ref x), (1, .int (iI 1))]) hx hb dX2_change_159 hl rfl (by decide) rfl (fun ls hl => ?_)
        refine lv_goto (tgt := 131) hx hb dX2_change_162 (by decide) ?_
        refine lv_iload hx hb dX2_change_131 (lv_at hl 0 rfl) ?_
        refine lv_iload_n hx hb dX2_change_133 rfl (lv_at hl 1 rfl) ?_
        refine ix_icmp_lt (tgt := 165) hx hb dX2_change_134 (by decide) (by decide) (by decide) (fun c161 => absurd c161 (by decide)) (fun _ => ?_)
        refine lv_aload_n hx hb dX2_change_137 rfl (lv_at hl 3 rfl) ?_
        refine va_get (D := (dC, dI)) (ci := 2) (v := .ref r) (C := RX2) (T := TX2) (N := 17) hx hb hw inX2 hown hK hP 0 rfl rfl 2 (by decide) (hw _ mA_383) (fun _ h9 => h9) rfl dX2_change_138 ?_
        refine lv_iload hx hb dX2_change_141 (lv_at hl 0 rfl) ?_
        refine lv_dup2_11 hx hb dX2_change_143 rfl rfl ?_
        refine ix_lald (k := 1) hx hb hK hP 2 1 rfl rfl (by decide) (by decide) (by decide) dX2_change_144 ?_
        refine lv_iload_n hx hb dX2_change_145 rfl (lv_at hl 4 rfl) ?_
        refine ix_i2l hx hb dX2_change_146 (by decide) ?_
        refine lv_aload_n hx hb dX2_change_147 rfl (lv_at hl 3 rfl) ?_
        refine va_get (D := (dC, dI)) (ci := 2) (v := .ref r) (C := RX2) (T := TX2) (N := 17) hx hb hw inX2 hown hK hP 0 rfl rfl 2 (by decide) (hw _ mA_383) (fun _ h9 => h9) rfl dX2_change_148 ?_
        refine lv_iload hx hb dX2_change_151 (lv_at hl 0 rfl) ?_
        refine ix_iconst (n := 1) hx hb dX2_change_153 ?_
        refine ix_iadd hx hb dX2_change_154 ?_
        refine ix_z (y := 2) rfl ?_
        refine ix_lald (k := 2) hx hb hK hP 2 1 rfl rfl (by decide) (by decide) (by decide) dX2_change_155 ?_
        refine ix_lmul hx hb dX2_change_156 ?_
        refine ix_ladd hx hb dX2_change_157 ?_
        refine ix_last (k := 1) (x := ((shs 1 2 (shs 1 3 (shs 1 0 (shs 1 1 (shs 1 2 (shs 1 3 N)))))) 1) + (1 * ((shs 1 2 (shs 1 3 (shs 1 0 (shs 1 1 (shs 1 2 (shs 1 3 N)))))) 2))) hx hb hK hP hD hS 2 1 rfl rfl (by decide) (by decide) (by decide) dX2_change_158 (fun H locs hP hD hS => ?_)
        have hP : va_P (dC, dI) vwCl [(x, .inr (2, [.int (iI 0), .ref n, .ref r, .ref d, .int (iI cn), .int (iI fc), .ref ya, .ref yb, .ref yc, .ref yo, .long (lI (X 0)), .long (lI (X 1)), .long (lI (X 2)), .long (lI (X 3)), .long (lI (X 4)), .long (lI (X 5)), .long (lI (X 6))])), (n, .inl (cI, 5, .inl (aI N))), (r, .inl (cJ, 5, .inr (.inl (aL (iu (shs 1 2 (shs 1 3 (shs 1 0 (shs 1 1 (shs 1 2 (shs 1 3 N)))))) 1 (((shs 1 2 (shs 1 3 (shs 1 0 (shs 1 1 (shs 1 2 (shs 1 3 N)))))) 1) + (1 * ((shs 1 2 (shs 1 3 (shs 1 0 (shs 1 1 (shs 1 2 (shs 1 3 N)))))) 2))))))))] H := hP
        have hD : va_D A [(x, .inr (2, [.int (iI 0), .ref n, .ref r, .ref d, .int (iI cn), .int (iI fc), .ref ya, .ref yb, .ref yc, .ref yo, .long (lI (X 0)), .long (lI (X 1)), .long (lI (X 2)), .long (lI (X 3)), .long (lI (X 4)), .long (lI (X 5)), .long (lI (X 6))])), (n, .inl (cI, 5, .inl (aI N))), (r, .inl (cJ, 5, .inr (.inl (aL (iu (shs 1 2 (shs 1 3 (shs 1 0 (shs 1 1 (shs 1 2 (shs 1 3 N)))))) 1 (((shs 1 2 (shs 1 3 (shs 1 0 (shs 1 1 (shs 1 2 (shs 1 3 N)))))) 1) + (1 * ((shs 1 2 (shs 1 3 (shs 1 0 (shs 1 1 (shs 1 2 (shs 1 3 N)))))) 2))))))))] := hD
        have hP : va_P (dC, dI) vwCl [(x, .inr (2, [.int (iI 0), .ref n, .ref r, .ref d, .int (iI cn), .int (iI fc), .ref ya, .ref yb, .ref yc, .ref yo, .long (lI (X 0)), .long (lI (X 1)), .long (lI (X 2)), .long (lI (X 3)), .long (lI (X 4)), .long (lI (X 5)), .long (lI (X 6))])), (n, .inl (cI, 5, .inl (aI N))), (r, .inl (cJ, 5, .inr (.inl (aL (shs 1 1 (shs 1 2 (shs 1 3 (shs 1 0 (shs 1 1 (shs 1 2 (shs 1 3 N)))))))))))] H := hP
        have hD : va_D A [(x, .inr (2, [.int (iI 0), .ref n, .ref r, .ref d, .int (iI cn), .int (iI fc), .ref ya, .ref yb, .ref yc, .ref yo, .long (lI (X 0)), .long (lI (X 1)), .long (lI (X 2)), .long (lI (X 3)), .long (lI (X 4)), .long (lI (X 5)), .long (lI (X 6))])), (n, .inl (cI, 5, .inl (aI N))), (r, .inl (cJ, 5, .inr (.inl (aL (shs 1 1 (shs 1 2 (shs 1 3 (shs 1 0 (shs 1 1 (shs 1 2 (shs 1 3 N)))))))))))] := hD
        refine ix_iinc (k := 0) (lv2 := [(4, .int (iI 0)), (3, .int (iI 1)), (2, .int (iI (f_deg N))), (0, .ref x), (1, .int (iI 1))]) hx hb dX2_change_159 hl rfl (by decide) rfl (fun ls hl => ?_)
        refine lv_goto (tgt := 131) hx hb dX2_change_162 (by decide) ?_
        refine lv_iload hx hb dX2_change_131 (lv_at hl 0 rfl) ?_
        refine lv_iload_n hx hb dX2_change_133 rfl (lv_at hl 1 rfl) ?_
        refine ix_icmp_lt (tgt := 165) hx hb dX2_change_134 (by decide) (by decide) (by decide) (fun _ => ?_) (fun c162 => absurd c162 (by decide))
        refine ix_iinc (k := 1) (lv2 := [(3, .int (iI 2)), (4, .int (iI 0)), (2, .int (iI (f_deg N))), (0, .ref x), (1, .int (iI 1))]) hx hb dX2_change_165 hl rfl (by decide) rfl (fun ls hl => ?_)
        refine lv_goto (tgt := 123) hx hb dX2_change_168 (by decide) ?_
        refine lv_iload_n hx hb dX2_change_123 rfl (lv_at hl 0 rfl) ?_
        refine ix_iconst (n := 4) hx hb dX2_change_124 ?_
        refine ix_icmp_ge (tgt := 171) hx hb dX2_change_125 (by decide) (by decide) (by decide) (fun c163 => absurd c163 (by decide)) (fun _ => ?_)
        refine ix_iconst (n := 3) hx hb dX2_change_128 ?_
        refine lv_istore (lv' := [(4, .int (iI 3)), (3, .int (iI 2)), (2, .int (iI (f_deg N))), (0, .ref x), (1, .int (iI 1))]) hx hb dX2_change_129 hl (by decide) rfl (fun ls hl => ?_)
        refine lv_iload hx hb dX2_change_131 (lv_at hl 0 rfl) ?_
        refine lv_iload_n hx hb dX2_change_133 rfl (lv_at hl 1 rfl) ?_
        refine ix_icmp_lt (tgt := 165) hx hb dX2_change_134 (by decide) (by decide) (by decide) (fun c164 => absurd c164 (by decide)) (fun _ => ?_)
        refine lv_aload_n hx hb dX2_change_137 rfl (lv_at hl 3 rfl) ?_
        refine va_get (D := (dC, dI)) (ci := 2) (v := .ref r) (C := RX2) (T := TX2) (N := 17) hx hb hw inX2 hown hK hP 0 rfl rfl 2 (by decide) (hw _ mA_383) (fun _ h9 => h9) rfl dX2_change_138 ?_
        refine lv_iload hx hb dX2_change_141 (lv_at hl 0 rfl) ?_
        refine lv_dup2_11 hx hb dX2_change_143 rfl rfl ?_
        refine ix_lald (k := 3) hx hb hK hP 2 1 rfl rfl (by decide) (by decide) (by decide) dX2_change_144 ?_
        refine lv_iload_n hx hb dX2_change_145 rfl (lv_at hl 4 rfl) ?_
        refine ix_i2l hx hb dX2_change_146 (by decide) ?_
        refine lv_aload_n hx hb dX2_change_147 rfl (lv_at hl 3 rfl) ?_
        refine va_get (D := (dC, dI)) (ci := 2) (v := .ref r) (C := RX2) (T := TX2) (N := 17) hx hb hw inX2 hown hK hP 0 rfl rfl 2 (by decide) (hw _ mA_383) (fun _ h9 => h9) rfl dX2_change_148 ?_
        refine lv_iload hx hb dX2_change_151 (lv_at hl 0 rfl) ?_
        refine ix_iconst (n := 1) hx hb dX2_change_153 ?_
        refine ix_iadd hx hb dX2_change_154 ?_
        refine ix_z (y := 4) rfl ?_
        refine ix_lald (k := 4) hx hb hK hP 2 1 rfl rfl (by decide) (by decide) (by decide) dX2_change_155 ?_
        refine ix_lmul hx hb dX2_change_156 ?_
        refine ix_ladd hx hb dX2_change_157 ?_
        refine ix_last (k := 3) (x := ((shs 1 1 (shs 1 2 (shs 1 3 (shs 1 0 (shs 1 1 (shs 1 2 (shs 1 3 N))))))) 3) + (1 * ((shs 1 1 (shs 1 2 (shs 1 3 (shs 1 0 (shs 1 1 (shs 1 2 (shs 1 3 N))))))) 4))) hx hb hK hP hD hS 2 1 rfl rfl (by decide) (by decide) (by decide) dX2_change_158 (fun H locs hP hD hS => ?_)
        have hP : va_P (dC, dI) vwCl [(x, .inr (2, [.int (iI 0), .ref n, .ref r, .ref d, .int (iI cn), .int (iI fc), .ref ya, .ref yb, .ref yc, .ref yo, .long (lI (X 0)), .long (lI (X 1)), .long (lI (X 2)), .long (lI (X 3)), .long (lI (X 4)), .long (lI (X 5)), .long (lI (X 6))])), (n, .inl (cI, 5, .inl (aI N))), (r, .inl (cJ, 5, .inr (.inl (aL (iu (shs 1 1 (shs 1 2 (shs 1 3 (shs 1 0 (shs 1 1 (shs 1 2 (shs 1 3 N))))))) 3 (((shs 1 1 (shs 1 2 (shs 1 3 (shs 1 0 (shs 1 1 (shs 1 2 (shs 1 3 N))))))) 3) + (1 * ((shs 1 1 (shs 1 2 (shs 1 3 (shs 1 0 (shs 1 1 (shs 1 2 (shs 1 3 N))))))) 4))))))))] H := hP
        have hD : va_D A [(x, .inr (2, [.int (iI 0), .ref n, .ref r, .ref d, .int (iI cn), .int (iI fc), .ref ya, .ref yb, .ref yc, .ref yo, .long (lI (X 0)), .long (lI (X 1)), .long (lI (X 2)), .long (lI (X 3)), .long (lI (X 4)), .long (lI (X 5)), .long (lI (X 6))])), (n, .inl (cI, 5, .inl (aI N))), (r, .inl (cJ, 5, .inr (.inl (aL (iu (shs 1 1 (shs 1 2 (shs 1 3 (shs 1 0 (shs 1 1 (shs 1 2 (shs 1 3 N))))))) 3 (((shs 1 1 (shs 1 2 (shs 1 3 (shs 1 0 (shs 1 1 (shs 1 2 (shs 1 3 N))))))) 3) + (1 * ((shs 1 1 (shs 1 2 (shs 1 3 (shs 1 0 (shs 1 1 (shs 1 2 (shs 1 3 N))))))) 4))))))))] := hD
        have hP : va_P (dC, dI) vwCl [(x, .inr (2, [.int (iI 0), .ref n, .ref r, .ref d, .int (iI cn), .int (iI fc), .ref ya, .ref yb, .ref yc, .ref yo, .long (lI (X 0)), .long (lI (X 1)), .long (lI (X 2)), .long (lI (X 3)), .long (lI (X 4)), .long (lI (X 5)), .long (lI (X 6))])), (n, .inl (cI, 5, .inl (aI N))), (r, .inl (cJ, 5, .inr (.inl (aL (shs 1 3 (shs 1 1 (shs 1 2 (shs 1 3 (shs 1 0 (shs 1 1 (shs 1 2 (shs 1 3 N))))))))))))] H := hP
        have hD : va_D A [(x, .inr (2, [.int (iI 0), .ref n, .ref r, .ref d, .int (iI cn), .int (iI fc), .ref ya, .ref yb, .ref yc, .ref yo, .long (lI (X 0)), .long (lI (X 1)), .long (lI (X 2)), .long (lI (X 3)), .long (lI (X 4)), .long (lI (X 5)), .long (lI (X 6))])), (n, .inl (cI, 5, .inl (aI N))), (r, .inl (cJ, 5, .inr (.inl (aL (shs 1 3 (shs 1 1 (shs 1 2 (shs 1 3 (shs 1 0 (shs 1 1 (shs 1 2 (shs 1 3 N))))))))))))] := hD
        refine ix_iinc (k := 0) (lv2 := [(4, .int (iI 2)), (3, .int (iI 2)), (2, .int (iI (f_deg N))), (0, .ref x), (1, .int (iI 1))]) hx hb dX2_change_159 hl rfl (by decide) rfl (fun ls hl => ?_)
        refine lv_goto (tgt := 131) hx hb dX2_change_162 (by decide) ?_
        refine lv_iload hx hb dX2_change_131 (lv_at hl 0 rfl) ?_
        refine lv_iload_n hx hb dX2_change_133 rfl (lv_at hl 1 rfl) ?_
        refine ix_icmp_lt (tgt := 165) hx hb dX2_change_134 (by decide) (by decide) (by decide) (fun c165 => absurd c165 (by decide)) (fun _ => ?_)
        refine lv_aload_n hx hb dX2_change_137 rfl (lv_at hl 3 rfl) ?_
        refine va_get (D := (dC, dI)) (ci := 2) (v := .ref r) (C := RX2) (T := TX2) (N := 17) hx hb hw inX2 hown hK hP 0 rfl rfl 2 (by decide) (hw _ mA_383) (fun _ h9 => h9) rfl dX2_change_138 ?_
        refine lv_iload hx hb dX2_change_141 (lv_at hl 0 rfl) ?_
        refine lv_dup2_11 hx hb dX2_change_143 rfl rfl ?_
        refine ix_lald (k := 2) hx hb hK hP 2 1 rfl rfl (by decide) (by decide) (by decide) dX2_change_144 ?_
        refine lv_iload_n hx hb dX2_change_145 rfl (lv_at hl 4 rfl) ?_
        refine ix_i2l hx hb dX2_change_146 (by decide) ?_
        refine lv_aload_n hx hb dX2_change_147 rfl (lv_at hl 3 rfl) ?_
        refine va_get (D := (dC, dI)) (ci := 2) (v := .ref r) (C := RX2) (T := TX2) (N := 17) hx hb hw inX2 hown hK hP 0 rfl rfl 2 (by decide) (hw _ mA_383) (fun _ h9 => h9) rfl dX2_change_148 ?_
        refine lv_iload hx hb dX2_change_151 (lv_at hl 0 rfl) ?_
        refine ix_iconst (n := 1) hx hb dX2_change_153 ?_
        refine ix_iadd hx hb dX2_change_154 ?_
        refine ix_z (y := 3) rfl ?_
        refine ix_lald (k := 3) hx hb hK hP 2 1 rfl rfl (by decide) (by decide) (by decide) dX2_change_155 ?_
        refine ix_lmul hx hb dX2_change_156 ?_
        refine ix_ladd hx hb dX2_change_157 ?_
        refine ix_last (k := 2) (x := ((shs 1 3 (shs 1 1 (shs 1 2 (shs 1 3 (shs 1 0 (shs 1 1 (shs 1 2 (shs 1 3 N)))))))) 2) + (1 * ((shs 1 3 (shs 1 1 (shs 1 2 (shs 1 3 (shs 1 0 (shs 1 1 (shs 1 2 (shs 1 3 N)))))))) 3))) hx hb hK hP hD hS 2 1 rfl rfl (by decide) (by decide) (by decide) dX2_change_158 (fun H locs hP hD hS => ?_)
        have hP : va_P (dC, dI) vwCl [(x, .inr (2, [.int (iI 0), .ref n, .ref r, .ref d, .int (iI cn), .int (iI fc), .ref ya, .ref yb, .ref yc, .ref yo, .long (lI (X 0)), .long (lI (X 1)), .long (lI (X 2)), .long (lI (X 3)), .long (lI (X 4)), .long (lI (X 5)), .long (lI (X 6))])), (n, .inl (cI, 5, .inl (aI N))), (r, .inl (cJ, 5, .inr (.inl (aL (iu (shs 1 3 (shs 1 1 (shs 1 2 (shs 1 3 (shs 1 0 (shs 1 1 (shs 1 2 (shs 1 3 N)))))))) 2 (((shs 1 3 (shs 1 1 (shs 1 2 (shs 1 3 (shs 1 0 (shs 1 1 (shs 1 2 (shs 1 3 N)))))))) 2) + (1 * ((shs 1 3 (shs 1 1 (shs 1 2 (shs 1 3 (shs 1 0 (shs 1 1 (shs 1 2 (shs 1 3 N)))))))) 3))))))))] H := hP
        have hD : va_D A [(x, .inr (2, [.int (iI 0), .ref n, .ref r, .ref d, .int (iI cn), .int (iI fc), .ref ya, .ref yb, .ref yc, .ref yo, .long (lI (X 0)), .long (lI (X 1)), .long (lI (X 2)), .long (lI (X 3)), .long (lI (X 4)), .long (lI (X 5)), .long (lI (X 6))])), (n, .inl (cI, 5, .inl (aI N))), (r, .inl (cJ, 5, .inr (.inl (aL (iu (shs 1 3 (shs 1 1 (shs 1 2 (shs 1 3 (shs 1 0 (shs 1 1 (shs 1 2 (shs 1 3 N)))))))) 2 (((shs 1 3 (shs 1 1 (shs 1 2 (shs 1 3 (shs 1 0 (shs 1 1 (shs 1 2 (shs 1 3 N)))))))) 2) + (1 * ((shs 1 3 (shs 1 1 (shs 1 2 (shs 1 3 (shs 1 0 (shs 1 1 (shs 1 2 (shs 1 3 N)))))))) 3))))))))] := hD
        have hP : va_P (dC, dI) vwCl [(x, .inr (2, [.int (iI 0), .ref n, .ref r, .ref d, .int (iI cn), .int (iI fc), .ref ya, .ref yb, .ref yc, .ref yo, .long (lI (X 0)), .long (lI (X 1)), .long (lI (X 2)), .long (lI (X 3)), .long (lI (X 4)), .long (lI (X 5)), .long (lI (X 6))])), (n, .inl (cI, 5, .inl (aI N))), (r, .inl (cJ, 5, .inr (.inl (aL (shs 1 2 (shs 1 3 (shs 1 1 (shs 1 2 (shs 1 3 (shs 1 0 (shs 1 1 (shs 1 2 (shs 1 3 N)))))))))))))] H := hP
        have hD : va_D A [(x, .inr (2, [.int (iI 0), .ref n, .ref r, .ref d, .int (iI cn), .int (iI fc), .ref ya, .ref yb, .ref yc, .ref yo, .long (lI (X 0)), .long (lI (X 1)), .long (lI (X 2)), .long (lI (X 3)), .long (lI (X 4)), .long (lI (X 5)), .long (lI (X 6))])), (n, .inl (cI, 5, .inl (aI N))), (r, .inl (cJ, 5, .inr (.inl (aL (shs 1 2 (shs 1 3 (shs 1 1 (shs 1 2 (shs 1 3 (shs 1 0 (shs 1 1 (shs 1 2 (shs 1 3 N)))))))))))))] := hD
        refine ix_iinc (k := 0) (lv2 := [(4, .int (iI 1)), (3, .int (iI 2)), (2, .int (iI (f_deg N))), (0, .ref x), (1, .int (iI 1))]) hx hb dX2_change_159 hl rfl (by decide) rfl (fun ls hl => ?_)
        refine lv_goto (tgt := 131) hx hb dX2_change_162 (by decide) ?_
        refine lv_iload hx hb dX2_change_131 (lv_at hl 0 rfl) ?_
        refine lv_iload_n hx hb dX2_change_133 rfl (lv_at hl 1 rfl) ?_
        refine ix_icmp_lt (tgt := 165) hx hb dX2_change_134 (by decide) (by decide) (by decide) (fun _ => ?_) (fun c166 => absurd c166 (by decide))
        refine ix_iinc (k := 1) (lv2 := [(3, .int (iI 3)), (4, .int (iI 1)), (2, .int (iI (f_deg N))), (0, .ref x), (1, .int (iI 1))]) hx hb dX2_change_165 hl rfl (by decide) rfl (fun ls hl => ?_)
        refine lv_goto (tgt := 123) hx hb dX2_change_168 (by decide) ?_
        refine lv_iload_n hx hb dX2_change_123 rfl (lv_at hl 0 rfl) ?_
        refine ix_iconst (n := 4) hx hb dX2_change_124 ?_
        refine ix_icmp_ge (tgt := 171) hx hb dX2_change_125 (by decide) (by decide) (by decide) (fun c167 => absurd c167 (by decide)) (fun _ => ?_)
        refine ix_iconst (n := 3) hx hb dX2_change_128 ?_
        refine lv_istore (lv' := [(4, .int (iI 3)), (3, .int (iI 3)), (2, .int (iI (f_deg N))), (0, .ref x), (1, .int (iI 1))]) hx hb dX2_change_129 hl (by decide) rfl (fun ls hl => ?_)
        refine lv_iload hx hb dX2_change_131 (lv_at hl 0 rfl) ?_
        refine lv_iload_n hx hb dX2_change_133 rfl (lv_at hl 1 rfl) ?_
        refine ix_icmp_lt (tgt := 165) hx hb dX2_change_134 (by decide) (by decide) (by decide) (fun c168 => absurd c168 (by decide)) (fun _ => ?_)
        refine lv_aload_n hx hb dX2_change_137 rfl (lv_at hl 3 rfl) ?_
        refine va_get (D := (dC, dI)) (ci := 2) (v := .ref r) (C := RX2) (T := TX2) (N := 17) hx hb hw inX2 hown hK hP 0 rfl rfl 2 (by decide) (hw _ mA_383) (fun _ h9 => h9) rfl dX2_change_138 ?_
        refine lv_iload hx hb dX2_change_141 (lv_at hl 0 rfl) ?_
        refine lv_dup2_11 hx hb dX2_change_143 rfl rfl ?_
        refine ix_lald (k := 3) hx hb hK hP 2 1 rfl rfl (by decide) (by decide) (by decide) dX2_change_144 ?_
        refine lv_iload_n hx hb dX2_change_145 rfl (lv_at hl 4 rfl) ?_
        refine ix_i2l hx hb dX2_change_146 (by decide) ?_
        refine lv_aload_n hx hb dX2_change_147 rfl (lv_at hl 3 rfl) ?_
        refine va_get (D := (dC, dI)) (ci := 2) (v := .ref r) (C := RX2) (T := TX2) (N := 17) hx hb hw inX2 hown hK hP 0 rfl rfl 2 (by decide) (hw _ mA_383) (fun _ h9 => h9) rfl dX2_change_148 ?_
        refine lv_iload hx hb dX2_change_151 (lv_at hl 0 rfl) ?_
        refine ix_iconst (n := 1) hx hb dX2_change_153 ?_
        refine ix_iadd hx hb dX2_change_154 ?_
        refine ix_z (y := 4) rfl ?_
        refine ix_lald (k := 4) hx hb hK hP 2 1 rfl rfl (by decide) (by decide) (by decide) dX2_change_155 ?_
        refine ix_lmul hx hb dX2_change_156 ?_
        refine ix_ladd hx hb dX2_change_157 ?_
        refine ix_last (k := 3) (x := ((shs 1 2 (shs 1 3 (shs 1 1 (shs 1 2 (shs 1 3 (shs 1 0 (shs 1 1 (shs 1 2 (shs 1 3 N))))))))) 3) + (1 * ((shs 1 2 (shs 1 3 (shs 1 1 (shs 1 2 (shs 1 3 (shs 1 0 (shs 1 1 (shs 1 2 (shs 1 3 N))))))))) 4))) hx hb hK hP hD hS 2 1 rfl rfl (by decide) (by decide) (by decide) dX2_change_158 (fun H locs hP hD hS => ?_)
        have hP : va_P (dC, dI) vwCl [(x, .inr (2, [.int (iI 0), .ref n, .ref r, .ref d, .int (iI cn), .int (iI fc), .ref ya, .ref yb, .ref yc, .ref yo, .long (lI (X 0)), .long (lI (X 1)), .long (lI (X 2)), .long (lI (X 3)), .long (lI (X 4)), .long (lI (X 5)), .long (lI (X 6))])), (n, .inl (cI, 5, .inl (aI N))), (r, .inl (cJ, 5, .inr (.inl (aL (iu (shs 1 2 (shs 1 3 (shs 1 1 (shs 1 2 (shs 1 3 (shs 1 0 (shs 1 1 (shs 1 2 (shs 1 3 N))))))))) 3 (((shs 1 2 (shs 1 3 (shs 1 1 (shs 1 2 (shs 1 3 (shs 1 0 (shs 1 1 (shs 1 2 (shs 1 3 N))))))))) 3) + (1 * ((shs 1 2 (shs 1 3 (shs 1 1 (shs 1 2 (shs 1 3 (shs 1 0 (shs 1 1 (shs 1 2 (shs 1 3 N))))))))) 4))))))))] H := hP
        have hD : va_D A [(x, .inr (2, [.int (iI 0), .ref n, .ref r, .ref d, .int (iI cn), .int (iI fc), .ref ya, .ref yb, .ref yc, .ref yo, .long (lI (X 0)), .long (lI (X 1)), .long (lI (X 2)), .long (lI (X 3)), .long (lI (X 4)), .long (lI (X 5)), .long (lI (X 6))])), (n, .inl (cI, 5, .inl (aI N))), (r, .inl (cJ, 5, .inr (.inl (aL (iu (shs 1 2 (shs 1 3 (shs 1 1 (shs 1 2 (shs 1 3 (shs 1 0 (shs 1 1 (shs 1 2 (shs 1 3 N))))))))) 3 (((shs 1 2 (shs 1 3 (shs 1 1 (shs 1 2 (shs 1 3 (shs 1 0 (shs 1 1 (shs 1 2 (shs 1 3 N))))))))) 3) + (1 * ((shs 1 2 (shs 1 3 (shs 1 1 (shs 1 2 (shs 1 3 (shs 1 0 (shs 1 1 (shs 1 2 (shs 1 3 N))))))))) 4))))))))] := hD
        have hP : va_P (dC, dI) vwCl [(x, .inr (2, [.int (iI 0), .ref n, .ref r, .ref d, .int (iI cn), .int (iI fc), .ref ya, .ref yb, .ref yc, .ref yo, .long (lI (X 0)), .long (lI (X 1)), .long (lI (X 2)), .long (lI (X 3)), .long (lI (X 4)), .long (lI (X 5)), .long (lI (X 6))])), (n, .inl (cI, 5, .inl (aI N))), (r, .inl (cJ, 5, .inr (.inl (aL (shs 1 3 (shs 1 2 (shs 1 3 (shs 1 1 (shs 1 2 (shs 1 3 (shs 1 0 (shs 1 1 (shs 1 2 (shs 1 3 N))))))))))))))] H := hP
        have hD : va_D A [(x, .inr (2, [.int (iI 0), .ref n, .ref r, .ref d, .int (iI cn), .int (iI fc), .ref ya, .ref yb, .ref yc, .ref yo, .long (lI (X 0)), .long (lI (X 1)), .long (lI (X 2)), .long (lI (X 3)), .long (lI (X 4)), .long (lI (X 5)), .long (lI (X 6))])), (n, .inl (cI, 5, .inl (aI N))), (r, .inl (cJ, 5, .inr (.inl (aL (shs 1 3 (shs 1 2 (shs 1 3 (shs 1 1 (shs 1 2 (shs 1 3 (shs 1 0 (shs 1 1 (shs 1 2 (shs 1 3 N))))))))))))))] := hD
        refine ix_iinc (k := 0) (lv2 := [(4, .int (iI 2)), (3, .int (iI 3)), (2, .int (iI (f_deg N))), (0, .ref x), (1, .int (iI 1))]) hx hb dX2_change_159 hl rfl (by decide) rfl (fun ls hl => ?_)
        refine lv_goto (tgt := 131) hx hb dX2_change_162 (by decide) ?_
        refine lv_iload hx hb dX2_change_131 (lv_at hl 0 rfl) ?_
        refine lv_iload_n hx hb dX2_change_133 rfl (lv_at hl 1 rfl) ?_
        refine ix_icmp_lt (tgt := 165) hx hb dX2_change_134 (by decide) (by decide) (by decide) (fun _ => ?_) (fun c169 => absurd c169 (by decide))
        refine ix_iinc (k := 1) (lv2 := [(3, .int (iI 4)), (4, .int (iI 2)), (2, .int (iI (f_deg N))), (0, .ref x), (1, .int (iI 1))]) hx hb dX2_change_165 hl rfl (by decide) rfl (fun ls hl => ?_)
        refine lv_goto (tgt := 123) hx hb dX2_change_168 (by decide) ?_
        refine lv_iload_n hx hb dX2_change_123 rfl (lv_at hl 0 rfl) ?_
        refine ix_iconst (n := 4) hx hb dX2_change_124 ?_
        refine ix_icmp_ge (tgt := 171) hx hb dX2_change_125 (by decide) (by decide) (by decide) (fun _ => ?_) (fun c170 => absurd c170 (by decide))
        have e8 : shs 1 3 (shs 1 2 (shs 1 3 (shs 1 1 (shs 1 2 (shs 1 3 (shs 1 0 (shs 1 1 (shs 1 2 (shs 1 3 N))))))))) = f_chg N 1 (f_deg N) := (chg_s N (f_deg N) (by decide) (by decide)).symm
        rw [e8] at hP hD
        exact lp_chT h5 hdeg hh hA hnb ⟨hx, hb, hr, hml, hown, hw, hlocks⟩ 1 (f_chg N 1 (f_deg N)) rfl (chg_5 h5 (by omega)) (chg_b hh hN) (by decide) _ _ hK hP hD hS ls (lv_sub hl [3, 4, 2] rfl)
      · refine lv_iload_n hx hb dX2_change_43 rfl (lv_at hl 0 rfl) ?_
        refine ix_iconst (n := 5) hx hb dX2_change_44 ?_
        refine ix_icmp_ge (tgt := 111) hx hb dX2_change_45 (by decide) (by decide) (by decide) (fun c171 => absurd c171 (by decide)) (fun _ => ?_)
        refine lv_aload_n hx hb dX2_change_48 rfl (lv_at hl 2 rfl) ?_
        refine va_get (D := (dC, dI)) (ci := 2) (v := .ref r) (C := RX2) (T := TX2) (N := 17) hx hb hw inX2 hown hK hP 0 rfl rfl 2 (by decide) (hw _ mA_383) (fun _ h9 => h9) rfl dX2_change_49 ?_
        refine lv_iload_n hx hb dX2_change_52 rfl (lv_at hl 0 rfl) ?_
        refine lv_iload_n hx hb dX2_change_53 rfl (lv_at hl 3 rfl) ?_
        refine ix_iconst (n := 2) hx hb dX2_change_54 ?_
        refine ix_icmp_ne (tgt := 75) hx hb dX2_change_55 (by decide) (by decide) (by decide) (fun _ => ?_) (fun c172 => absurd c172 (by decide))
        refine lv_iload_n hx hb dX2_change_75 rfl (lv_at hl 3 rfl) ?_
        refine ix_if_ne (tgt := 97) hx hb dX2_change_76 (by decide) (by decide) (fun _ => ?_) (fun c173 => absurd c173 (by decide))
        refine lv_aload_n hx hb dX2_change_97 rfl (lv_at hl 2 rfl) ?_
        refine va_get (D := (dC, dI)) (ci := 2) (v := .ref n) (C := RX2) (T := TX2) (N := 17) hx hb hw inX2 hown hK hP 0 rfl rfl 1 (by decide) (hw _ mA_382) (fun _ h9 => h9) rfl dX2_change_98 ?_
        refine lv_iload_n hx hb dX2_change_101 rfl (lv_at hl 0 rfl) ?_
        refine ix_iald (k := 0) hx hb hK hP 1 0 rfl rfl (by decide) (by decide) (by decide) dX2_change_102 ?_
        refine ix_i2l hx hb dX2_change_103 (by have := hN 0; omega) ?_
        refine ix_last (k := 0) (x := N 0) hx hb hK hP hD hS 2 1 rfl rfl (by decide) (by decide) (by decide) dX2_change_104 (fun H locs hP hD hS => ?_)
        have hP : va_P (dC, dI) vwCl [(x, .inr (2, [.int (iI 0), .ref n, .ref r, .ref d, .int (iI cn), .int (iI fc), .ref ya, .ref yb, .ref yc, .ref yo, .long (lI (X 0)), .long (lI (X 1)), .long (lI (X 2)), .long (lI (X 3)), .long (lI (X 4)), .long (lI (X 5)), .long (lI (X 6))])), (n, .inl (cI, 5, .inl (aI N))), (r, .inl (cJ, 5, .inr (.inl (aL (iu R 0 (N 0))))))] H := hP
        have hD : va_D A [(x, .inr (2, [.int (iI 0), .ref n, .ref r, .ref d, .int (iI cn), .int (iI fc), .ref ya, .ref yb, .ref yc, .ref yo, .long (lI (X 0)), .long (lI (X 1)), .long (lI (X 2)), .long (lI (X 3)), .long (lI (X 4)), .long (lI (X 5)), .long (lI (X 6))])), (n, .inl (cI, 5, .inl (aI N))), (r, .inl (cJ, 5, .inr (.inl (aL (iu R 0 (N 0))))))] := hD
        refine ix_iinc (k := 0) (lv2 := [(3, .int (iI 1)), (2, .int (iI (f_deg N))), (0, .ref x), (1, .int (iI (-1)))]) hx hb dX2_change_105 hl rfl (by decide) rfl (fun ls hl => ?_)
        refine lv_goto (tgt := 43) hx hb dX2_change_108 (by decide) ?_
        refine lv_iload_n hx hb dX2_change_43 rfl (lv_at hl 0 rfl) ?_
        refine ix_iconst (n := 5) hx hb dX2_change_44 ?_
        refine ix_icmp_ge (tgt := 111) hx hb dX2_change_45 (by decide) (by decide) (by decide) (fun c174 => absurd c174 (by decide)) (fun _ => ?_)
        refine lv_aload_n hx hb dX2_change_48 rfl (lv_at hl 2 rfl) ?_
        refine va_get (D := (dC, dI)) (ci := 2) (v := .ref r) (C := RX2) (T := TX2) (N := 17) hx hb hw inX2 hown hK hP 0 rfl rfl 2 (by decide) (hw _ mA_383) (fun _ h9 => h9) rfl dX2_change_49 ?_
        refine lv_iload_n hx hb dX2_change_52 rfl (lv_at hl 0 rfl) ?_
        refine lv_iload_n hx hb dX2_change_53 rfl (lv_at hl 3 rfl) ?_
        refine ix_iconst (n := 2) hx hb dX2_change_54 ?_
        refine ix_icmp_ne (tgt := 75) hx hb dX2_change_55 (by decide) (by decide) (by decide) (fun _ => ?_) (fun c175 => absurd c175 (by decide))
        refine lv_iload_n hx hb dX2_change_75 rfl (lv_at hl 3 rfl) ?_
        refine ix_if_ne (tgt := 97) hx hb dX2_change_76 (by decide) (by decide) (fun _ => ?_) (fun c176 => absurd c176 (by decide))
        refine lv_aload_n hx hb dX2_change_97 rfl (lv_at hl 2 rfl) ?_
        refine va_get (D := (dC, dI)) (ci := 2) (v := .ref n) (C := RX2) (T := TX2) (N := 17) hx hb hw inX2 hown hK hP 0 rfl rfl 1 (by decide) (hw _ mA_382) (fun _ h9 => h9) rfl dX2_change_98 ?_
        refine lv_iload_n hx hb dX2_change_101 rfl (lv_at hl 0 rfl) ?_
        refine ix_iald (k := 1) hx hb hK hP 1 0 rfl rfl (by decide) (by decide) (by decide) dX2_change_102 ?_
        refine ix_i2l hx hb dX2_change_103 (by have := hN 1; omega) ?_
        refine ix_last (k := 1) (x := N 1) hx hb hK hP hD hS 2 1 rfl rfl (by decide) (by decide) (by decide) dX2_change_104 (fun H locs hP hD hS => ?_)
        have hP : va_P (dC, dI) vwCl [(x, .inr (2, [.int (iI 0), .ref n, .ref r, .ref d, .int (iI cn), .int (iI fc), .ref ya, .ref yb, .ref yc, .ref yo, .long (lI (X 0)), .long (lI (X 1)), .long (lI (X 2)), .long (lI (X 3)), .long (lI (X 4)), .long (lI (X 5)), .long (lI (X 6))])), (n, .inl (cI, 5, .inl (aI N))), (r, .inl (cJ, 5, .inr (.inl (aL (iu (iu R 0 (N 0)) 1 (N 1))))))] H := hP
        have hD : va_D A [(x, .inr (2, [.int (iI 0), .ref n, .ref r, .ref d, .int (iI cn), .int (iI fc), .ref ya, .ref yb, .ref yc, .ref yo, .long (lI (X 0)), .long (lI (X 1)), .long (lI (X 2)), .long (lI (X 3)), .long (lI (X 4)), .long (lI (X 5)), .long (lI (X 6))])), (n, .inl (cI, 5, .inl (aI N))), (r, .inl (cJ, 5, .inr (.inl (aL (iu (iu R 0 (N 0)) 1 (N 1))))))] := hD
        refine ix_iinc (k := 0) (lv2 := [(3, .int (iI 2)), (2, .int (iI (f_deg N))), (0, .ref x), (1, .int (iI (-1)))]) hx hb dX2_change_105 hl rfl (by decide) rfl (fun ls hl => ?_)
        refine lv_goto (tgt := 43) hx hb dX2_change_108 (by decide) ?_
        refine lv_iload_n hx hb dX2_change_43 rfl (lv_at hl 0 rfl) ?_
        refine ix_iconst (n := 5) hx hb dX2_change_44 ?_
        refine ix_icmp_ge (tgt := 111) hx hb dX2_change_45 (by decide) (by decide) (by decide) (fun c177 => absurd c177 (by decide)) (fun _ => ?_)
        refine lv_aload_n hx hb dX2_change_48 rfl (lv_at hl 2 rfl) ?_
        refine va_get (D := (dC, dI)) (ci := 2) (v := .ref r) (C := RX2) (T := TX2) (N := 17) hx hb hw inX2 hown hK hP 0 rfl rfl 2 (by decide) (hw _ mA_383) (fun _ h9 => h9) rfl dX2_change_49 ?_
        refine lv_iload_n hx hb dX2_change_52 rfl (lv_at hl 0 rfl) ?_
        refine lv_iload_n hx hb dX2_change_53 rfl (lv_at hl 3 rfl) ?_
        refine ix_iconst (n := 2) hx hb dX2_change_54 ?_
        refine ix_icmp_ne (tgt := 75) hx hb dX2_change_55 (by decide) (by decide) (by decide) (fun _ => ?_) (fun c178 => absurd c178 (by decide))
        refine lv_iload_n hx hb dX2_change_75 rfl (lv_at hl 3 rfl) ?_
        refine ix_if_ne (tgt := 97) hx hb dX2_change_76 (by decide) (by decide) (fun _ => ?_) (fun c179 => absurd c179 (by decide))
        refine lv_aload_n hx hb dX2_change_97 rfl (lv_at hl 2 rfl) ?_
        refine va_get (D := (dC, dI)) (ci := 2) (v := .ref n) (C := RX2) (T := TX2) (N := 17) hx hb hw inX2 hown hK hP 0 rfl rfl 1 (by decide) (hw _ mA_382) (fun _ h9 => h9) rfl dX2_change_98 ?_
        refine lv_iload_n hx hb dX2_change_101 rfl (lv_at hl 0 rfl) ?_
        refine ix_iald (k := 2) hx hb hK hP 1 0 rfl rfl (by decide) (by decide) (by decide) dX2_change_102 ?_
        refine ix_i2l hx hb dX2_change_103 (by have := hN 2; omega) ?_
        refine ix_last (k := 2) (x := N 2) hx hb hK hP hD hS 2 1 rfl rfl (by decide) (by decide) (by decide) dX2_change_104 (fun H locs hP hD hS => ?_)
        have hP : va_P (dC, dI) vwCl [(x, .inr (2, [.int (iI 0), .ref n, .ref r, .ref d, .int (iI cn), .int (iI fc), .ref ya, .ref yb, .ref yc, .ref yo, .long (lI (X 0)), .long (lI (X 1)), .long (lI (X 2)), .long (lI (X 3)), .long (lI (X 4)), .long (lI (X 5)), .long (lI (X 6))])), (n, .inl (cI, 5, .inl (aI N))), (r, .inl (cJ, 5, .inr (.inl (aL (iu (iu (iu R 0 (N 0)) 1 (N 1)) 2 (N 2))))))] H := hP
        have hD : va_D A [(x, .inr (2, [.int (iI 0), .ref n, .ref r, .ref d, .int (iI cn), .int (iI fc), .ref ya, .ref yb, .ref yc, .ref yo, .long (lI (X 0)), .long (lI (X 1)), .long (lI (X 2)), .long (lI (X 3)), .long (lI (X 4)), .long (lI (X 5)), .long (lI (X 6))])), (n, .inl (cI, 5, .inl (aI N))), (r, .inl (cJ, 5, .inr (.inl (aL (iu (iu (iu R 0 (N 0)) 1 (N 1)) 2 (N 2))))))] := hD
        refine ix_iinc (k := 0) (lv2 := [(3, .int (iI 3)), (2, .int (iI (f_deg N))), (0, .ref x), (1, .int (iI (-1)))]) hx hb dX2_change_105 hl rfl (by decide) rfl (fun ls hl => ?_)
        refine lv_goto (tgt := 43) hx hb dX2_change_108 (by decide) ?_
        refine lv_iload_n hx hb dX2_change_43 rfl (lv_at hl 0 rfl) ?_
        refine ix_iconst (n := 5) hx hb dX2_change_44 ?_
        refine ix_icmp_ge (tgt := 111) hx hb dX2_change_45 (by decide) (by decide) (by decide) (fun c180 => absurd c180 (by decide)) (fun _ => ?_)
        refine lv_aload_n hx hb dX2_change_48 rfl (lv_at hl 2 rfl) ?_
        refine va_get (D := (dC, dI)) (ci := 2) (v := .ref r) (C := RX2) (T := TX2) (N := 17) hx hb hw inX2 hown hK hP 0 rfl rfl 2 (by decide) (hw _ mA_383) (fun _ h9 => h9) rfl dX2_change_49 ?_
        refine lv_iload_n hx hb dX2_change_52 rfl (lv_at hl 0 rfl) ?_
        refine lv_iload_n hx hb dX2_change_53 rfl (lv_at hl 3 rfl) ?_
        refine ix_iconst (n := 2) hx hb dX2_change_54 ?_
        refine ix_icmp_ne (tgt := 75) hx hb dX2_change_55 (by decide) (by decide) (by decide) (fun _ => ?_) (fun c181 => absurd c181 (by decide))
        refine lv_iload_n hx hb dX2_change_75 rfl (lv_at hl 3 rfl) ?_
        refine ix_if_ne (tgt := 97) hx hb dX2_change_76 (by decide) (by decide) (fun _ => ?_) (fun c182 => absurd c182 (by decide))
        refine lv_aload_n hx hb dX2_change_97 rfl (lv_at hl 2 rfl) ?_
        refine va_get (D := (dC, dI)) (ci := 2) (v := .ref n) (C := RX2) (T := TX2) (N := 17) hx hb hw inX2 hown hK hP 0 rfl rfl 1 (by decide) (hw _ mA_382) (fun _ h9 => h9) rfl dX2_change_98 ?_
        refine lv_iload_n hx hb dX2_change_101 rfl (lv_at hl 0 rfl) ?_
        refine ix_iald (k := 3) hx hb hK hP 1 0 rfl rfl (by decide) (by decide) (by decide) dX2_change_102 ?_
        refine ix_i2l hx hb dX2_change_103 (by have := hN 3; omega) ?_
        refine ix_last (k := 3) (x := N 3) hx hb hK hP hD hS 2 1 rfl rfl (by decide) (by decide) (by decide) dX2_change_104 (fun H locs hP hD hS => ?_)
        have hP : va_P (dC, dI) vwCl [(x, .inr (2, [.int (iI 0), .ref n, .ref r, .ref d, .int (iI cn), .int (iI fc), .ref ya, .ref yb, .ref yc, .ref yo, .long (lI (X 0)), .long (lI (X 1)), .long (lI (X 2)), .long (lI (X 3)), .long (lI (X 4)), .long (lI (X 5)), .long (lI (X 6))])), (n, .inl (cI, 5, .inl (aI N))), (r, .inl (cJ, 5, .inr (.inl (aL (iu (iu (iu (iu R 0 (N 0)) 1 (N 1)) 2 (N 2)) 3 (N 3))))))] H := hP
        have hD : va_D A [(x, .inr (2, [.int (iI 0), .ref n, .ref r, .ref d, .int (iI cn), .int (iI fc), .ref ya, .ref yb, .ref yc, .ref yo, .long (lI (X 0)), .long (lI (X 1)), .long (lI (X 2)), .long (lI (X 3)), .long (lI (X 4)), .long (lI (X 5)), .long (lI (X 6))])), (n, .inl (cI, 5, .inl (aI N))), (r, .inl (cJ, 5, .inr (.inl (aL (iu (iu (iu (iu R 0 (N 0)) 1 (N 1)) 2 (N 2)) 3 (N 3))))))] := hD
        refine ix_iinc (k := 0) (lv2 := [(3, .int (iI 4)), (2, .int (iI (f_deg N))), (0, .ref x), (1, .int (iI (-1)))]) hx hb dX2_change_105 hl rfl (by decide) rfl (fun ls hl => ?_)
        refine lv_goto (tgt := 43) hx hb dX2_change_108 (by decide) ?_
        refine lv_iload_n hx hb dX2_change_43 rfl (lv_at hl 0 rfl) ?_
        refine ix_iconst (n := 5) hx hb dX2_change_44 ?_
        refine ix_icmp_ge (tgt := 111) hx hb dX2_change_45 (by decide) (by decide) (by decide) (fun c183 => absurd c183 (by decide)) (fun _ => ?_)
        refine lv_aload_n hx hb dX2_change_48 rfl (lv_at hl 2 rfl) ?_
        refine va_get (D := (dC, dI)) (ci := 2) (v := .ref r) (C := RX2) (T := TX2) (N := 17) hx hb hw inX2 hown hK hP 0 rfl rfl 2 (by decide) (hw _ mA_383) (fun _ h9 => h9) rfl dX2_change_49 ?_
        refine lv_iload_n hx hb dX2_change_52 rfl (lv_at hl 0 rfl) ?_
        refine lv_iload_n hx hb dX2_change_53 rfl (lv_at hl 3 rfl) ?_
        refine ix_iconst (n := 2) hx hb dX2_change_54 ?_
        refine ix_icmp_ne (tgt := 75) hx hb dX2_change_55 (by decide) (by decide) (by decide) (fun _ => ?_) (fun c184 => absurd c184 (by decide))
        refine lv_iload_n hx hb dX2_change_75 rfl (lv_at hl 3 rfl) ?_
        refine ix_if_ne (tgt := 97) hx hb dX2_change_76 (by decide) (by decide) (fun _ => ?_) (fun c185 => absurd c185 (by decide))
        refine lv_aload_n hx hb dX2_change_97 rfl (lv_at hl 2 rfl) ?_
        refine va_get (D := (dC, dI)) (ci := 2) (v := .ref n) (C := RX2) (T := TX2) (N := 17) hx hb hw inX2 hown hK hP 0 rfl rfl 1 (by decide) (hw _ mA_382) (fun _ h9 => h9) rfl dX2_change_98 ?_
        refine lv_iload_n hx hb dX2_change_101 rfl (lv_at hl 0 rfl) ?_
        refine ix_iald (k := 4) hx hb hK hP 1 0 rfl rfl (by decide) (by decide) (by decide) dX2_change_102 ?_
        refine ix_i2l hx hb dX2_change_103 (by have := hN 4; omega) ?_
        refine ix_last (k := 4) (x := N 4) hx hb hK hP hD hS 2 1 rfl rfl (by decide) (by decide) (by decide) dX2_change_104 (fun H locs hP hD hS => ?_)
        have hP : va_P (dC, dI) vwCl [(x, .inr (2, [.int (iI 0), .ref n, .ref r, .ref d, .int (iI cn), .int (iI fc), .ref ya, .ref yb, .ref yc, .ref yo, .long (lI (X 0)), .long (lI (X 1)), .long (lI (X 2)), .long (lI (X 3)), .long (lI (X 4)), .long (lI (X 5)), .long (lI (X 6))])), (n, .inl (cI, 5, .inl (aI N))), (r, .inl (cJ, 5, .inr (.inl (aL (iu (iu (iu (iu (iu R 0 (N 0)) 1 (N 1)) 2 (N 2)) 3 (N 3)) 4 (N 4))))))] H := hP
        have hD : va_D A [(x, .inr (2, [.int (iI 0), .ref n, .ref r, .ref d, .int (iI cn), .int (iI fc), .ref ya, .ref yb, .ref yc, .ref yo, .long (lI (X 0)), .long (lI (X 1)), .long (lI (X 2)), .long (lI (X 3)), .long (lI (X 4)), .long (lI (X 5)), .long (lI (X 6))])), (n, .inl (cI, 5, .inl (aI N))), (r, .inl (cJ, 5, .inr (.inl (aL (iu (iu (iu (iu (iu R 0 (N 0)) 1 (N 1)) 2 (N 2)) 3 (N 3)) 4 (N 4))))))] := hD
        refine ix_iinc (k := 0) (lv2 := [(3, .int (iI 5)), (2, .int (iI (f_deg N))), (0, .ref x), (1, .int (iI (-1)))]) hx hb dX2_change_105 hl rfl (by decide) rfl (fun ls hl => ?_)
        refine lv_goto (tgt := 43) hx hb dX2_change_108 (by decide) ?_
        refine lv_iload_n hx hb dX2_change_43 rfl (lv_at hl 0 rfl) ?_
        refine ix_iconst (n := 5) hx hb dX2_change_44 ?_
        refine ix_icmp_ge (tgt := 111) hx hb dX2_change_45 (by decide) (by decide) (by decide) (fun _ => ?_) (fun c186 => absurd c186 (by decide))
        have e9 : iu (iu (iu (iu (iu R 0 (N 0)) 1 (N 1)) 2 (N 2)) 3 (N 3)) 4 (N 4) = N := cp_fun hR5 h5
        rw [e9] at hP hD
        refine lv_iload_n hx hb dX2_change_111 rfl (lv_at hl 3 rfl) ?_
        refine ix_iconst (n := 1) hx hb dX2_change_112 ?_
        refine ix_icmp_eq (tgt := 121) hx hb dX2_change_113 (by decide) (by decide) (by decide) (fun c187 => absurd c187 (by decide)) (fun _ => ?_)
        refine lv_iload_n hx hb dX2_change_116 rfl (lv_at hl 3 rfl) ?_
        refine ix_iconst (n := (-1)) hx hb dX2_change_117 ?_
        refine ix_icmp_ne (tgt := 171) hx hb dX2_change_118 (by decide) (by decide) (by decide) (fun c188 => absurd c188 (by decide)) (fun _ => ?_)
        refine ix_iconst (n := 0) hx hb dX2_change_121 ?_
        refine lv_istore_n (lv' := [(3, .int (iI 0)), (2, .int (iI (f_deg N))), (0, .ref x), (1, .int (iI (-1)))]) hx hb dX2_change_122 rfl hl (by decide) rfl (fun ls hl => ?_)
        refine lv_iload_n hx hb dX2_change_123 rfl (lv_at hl 0 rfl) ?_
        refine ix_iconst (n := 4) hx hb dX2_change_124 ?_
        refine ix_icmp_ge (tgt := 171) hx hb dX2_change_125 (by decide) (by decide) (by decide) (fun c189 => absurd c189 (by decide)) (fun _ => ?_)
        refine ix_iconst (n := 3) hx hb dX2_change_128 ?_
        refine lv_istore (lv' := [(4, .int (iI 3)), (3, .int (iI 0)), (2, .int (iI (f_deg N))), (0, .ref x), (1, .int (iI (-1)))]) hx hb dX2_change_129 hl (by decide) rfl (fun ls hl => ?_)
        refine lv_iload hx hb dX2_change_131 (lv_at hl 0 rfl) ?_
        refine lv_iload_n hx hb dX2_change_133 rfl (lv_at hl 1 rfl) ?_
        refine ix_icmp_lt (tgt := 165) hx hb dX2_change_134 (by decide) (by decide) (by decide) (fun c190 => absurd c190 (by decide)) (fun _ => ?_)
        refine lv_aload_n hx hb dX2_change_137 rfl (lv_at hl 3 rfl) ?_
        refine va_get (D := (dC, dI)) (ci := 2) (v := .ref r) (C := RX2) (T := TX2) (N := 17) hx hb hw inX2 hown hK hP 0 rfl rfl 2 (by decide) (hw _ mA_383) (fun _ h9 => h9) rfl dX2_change_138 ?_
        refine lv_iload hx hb dX2_change_141 (lv_at hl 0 rfl) ?_
        refine lv_dup2_11 hx hb dX2_change_143 rfl rfl ?_
        refine ix_lald (k := 3) hx hb hK hP 2 1 rfl rfl (by decide) (by decide) (by decide) dX2_change_144 ?_
        refine lv_iload_n hx hb dX2_change_145 rfl (lv_at hl 4 rfl) ?_
        refine ix_i2l hx hb dX2_change_146 (by decide) ?_
        refine lv_aload_n hx hb dX2_change_147 rfl (lv_at hl 3 rfl) ?_
        refine va_get (D := (dC, dI)) (ci := 2) (v := .ref r) (C := RX2) (T := TX2) (N := 17) hx hb hw inX2 hown hK hP 0 rfl rfl 2 (by decide) (hw _ mA_383) (fun _ h9 => h9) rfl dX2_change_148 ?_
        refine lv_iload hx hb dX2_change_151 (lv_at hl 0 rfl) ?_
        refine ix_iconst (n := 1) hx hb dX2_change_153 ?_
        refine ix_iadd hx hb dX2_change_154 ?_
        refine ix_z (y := 4) rfl ?_
        refine ix_lald (k := 4) hx hb hK hP 2 1 rfl rfl (by decide) (by decide) (by decide) dX2_change_155 ?_
        refine ix_lmul hx hb dX2_change_156 ?_
        refine ix_ladd hx hb dX2_change_157 ?_
        refine ix_last (k := 3) (x := (N 3) + ((-1) * (N 4))) hx hb hK hP hD hS 2 1 rfl rfl (by decide) (by decide) (by decide) dX2_change_158 (fun H locs hP hD hS => ?_)
        have hP : va_P (dC, dI) vwCl [(x, .inr (2, [.int (iI 0), .ref n, .ref r, .ref d, .int (iI cn), .int (iI fc), .ref ya, .ref yb, .ref yc, .ref yo, .long (lI (X 0)), .long (lI (X 1)), .long (lI (X 2)), .long (lI (X 3)), .long (lI (X 4)), .long (lI (X 5)), .long (lI (X 6))])), (n, .inl (cI, 5, .inl (aI N))), (r, .inl (cJ, 5, .inr (.inl (aL (iu N 3 ((N 3) + ((-1) * (N 4))))))))] H := hP
        have hD : va_D A [(x, .inr (2, [.int (iI 0), .ref n, .ref r, .ref d, .int (iI cn), .int (iI fc), .ref ya, .ref yb, .ref yc, .ref yo, .long (lI (X 0)), .long (lI (X 1)), .long (lI (X 2)), .long (lI (X 3)), .long (lI (X 4)), .long (lI (X 5)), .long (lI (X 6))])), (n, .inl (cI, 5, .inl (aI N))), (r, .inl (cJ, 5, .inr (.inl (aL (iu N 3 ((N 3) + ((-1) * (N 4))))))))] := hD
        have hP : va_P (dC, dI) vwCl [(x, .inr (2, [.int (iI 0), .ref n, .ref r, .ref d, .int (iI cn), .int (iI fc), .ref ya, .ref yb, .ref yc, .ref yo, .long (lI (X 0)), .long (lI (X 1)), .long (lI (X 2)), .long (lI (X 3)), .long (lI (X 4)), .long (lI (X 5)), .long (lI (X 6))])), (n, .inl (cI, 5, .inl (aI N))), (r, .inl (cJ, 5, .inr (.inl (aL (shs (-1) 3 N)))))] H := hP
        have hD : va_D A [(x, .inr (2, [.int (iI 0), .ref n, .ref r, .ref d, .int (iI cn), .int (iI fc), .ref ya, .ref yb, .ref yc, .ref yo, .long (lI (X 0)), .long (lI (X 1)), .long (lI (X 2)), .long (lI (X 3)), .long (lI (X 4)), .long (lI (X 5)), .long (lI (X 6))])), (n, .inl (cI, 5, .inl (aI N))), (r, .inl (cJ, 5, .inr (.inl (aL (shs (-1) 3 N)))))] := hD
        refine ix_iinc (k := 0) (lv2 := [(4, .int (iI 2)), (3, .int (iI 0)), (2, .int (iI (f_deg N))), (0, .ref x), (1, .int (iI (-1)))]) hx hb dX2_change_159 hl rfl (by decide) rfl (fun ls hl => ?_)
        refine lv_goto (tgt := 131) hx hb dX2_change_162 (by decide) ?_
        refine lv_iload hx hb dX2_change_131 (lv_at hl 0 rfl) ?_
        refine lv_iload_n hx hb dX2_change_133 rfl (lv_at hl 1 rfl) ?_
        refine ix_icmp_lt (tgt := 165) hx hb dX2_change_134 (by decide) (by decide) (by decide) (fun c191 => absurd c191 (by decide)) (fun _ => ?_)
        refine lv_aload_n hx hb dX2_change_137 rfl (lv_at hl 3 rfl) ?_
        refine va_get (D := (dC, dI)) (ci := 2) (v := .ref r) (C := RX2) (T := TX2) (N := 17) hx hb hw inX2 hown hK hP 0 rfl rfl 2 (by decide) (hw _ mA_383) (fun _ h9 => h9) rfl dX2_change_138 ?_
        refine lv_iload hx hb dX2_change_141 (lv_at hl 0 rfl) ?_
        refine lv_dup2_11 hx hb dX2_change_143 rfl rfl ?_
        refine ix_lald (k := 2) hx hb hK hP 2 1 rfl rfl (by decide) (by decide) (by decide) dX2_change_144 ?_
        refine lv_iload_n hx hb dX2_change_145 rfl (lv_at hl 4 rfl) ?_
        refine ix_i2l hx hb dX2_change_146 (by decide) ?_
        refine lv_aload_n hx hb dX2_change_147 rfl (lv_at hl 3 rfl) ?_
        refine va_get (D := (dC, dI)) (ci := 2) (v := .ref r) (C := RX2) (T := TX2) (N := 17) hx hb hw inX2 hown hK hP 0 rfl rfl 2 (by decide) (hw _ mA_383) (fun _ h9 => h9) rfl dX2_change_148 ?_
        refine lv_iload hx hb dX2_change_151 (lv_at hl 0 rfl) ?_
        refine ix_iconst (n := 1) hx hb dX2_change_153 ?_
        refine ix_iadd hx hb dX2_change_154 ?_
        refine ix_z (y := 3) rfl ?_
        refine ix_lald (k := 3) hx hb hK hP 2 1 rfl rfl (by decide) (by decide) (by decide) dX2_change_155 ?_
        refine ix_lmul hx hb dX2_change_156 ?_
        refine ix_ladd hx hb dX2_change_157 ?_
        refine ix_last (k := 2) (x := ((shs (-1) 3 N) 2) + ((-1) * ((shs (-1) 3 N) 3))) hx hb hK hP hD hS 2 1 rfl rfl (by decide) (by decide) (by decide) dX2_change_158 (fun H locs hP hD hS => ?_)
        have hP : va_P (dC, dI) vwCl [(x, .inr (2, [.int (iI 0), .ref n, .ref r, .ref d, .int (iI cn), .int (iI fc), .ref ya, .ref yb, .ref yc, .ref yo, .long (lI (X 0)), .long (lI (X 1)), .long (lI (X 2)), .long (lI (X 3)), .long (lI (X 4)), .long (lI (X 5)), .long (lI (X 6))])), (n, .inl (cI, 5, .inl (aI N))), (r, .inl (cJ, 5, .inr (.inl (aL (iu (shs (-1) 3 N) 2 (((shs (-1) 3 N) 2) + ((-1) * ((shs (-1) 3 N) 3))))))))] H := hP
        have hD : va_D A [(x, .inr (2, [.int (iI 0), .ref n, .ref r, .ref d, .int (iI cn), .int (iI fc), .ref ya, .ref yb, .ref yc, .ref yo, .long (lI (X 0)), .long (lI (X 1)), .long (lI (X 2)), .long (lI (X 3)), .long (lI (X 4)), .long (lI (X 5)), .long (lI (X 6))])), (n, .inl (cI, 5, .inl (aI N))), (r, .inl (cJ, 5, .inr (.inl (aL (iu (shs (-1) 3 N) 2 (((shs (-1) 3 N) 2) + ((-1) * ((shs (-1) 3 N) 3))))))))] := hD
        have hP : va_P (dC, dI) vwCl [(x, .inr (2, [.int (iI 0), .ref n, .ref r, .ref d, .int (iI cn), .int (iI fc), .ref ya, .ref yb, .ref yc, .ref yo, .long (lI (X 0)), .long (lI (X 1)), .long (lI (X 2)), .long (lI (X 3)), .long (lI (X 4)), .long (lI (X 5)), .long (lI (X 6))])), (n, .inl (cI, 5, .inl (aI N))), (r, .inl (cJ, 5, .inr (.inl (aL (shs (-1) 2 (shs (-1) 3 N))))))] H := hP
        have hD : va_D A [(x, .inr (2, [.int (iI 0), .ref n, .ref r, .ref d, .int (iI cn), .int (iI fc), .ref ya, .ref yb, .ref yc, .ref yo, .long (lI (X 0)), .long (lI (X 1)), .long (lI (X 2)), .long (lI (X 3)), .long (lI (X 4)), .long (lI (X 5)), .long (lI (X 6))])), (n, .inl (cI, 5, .inl (aI N))), (r, .inl (cJ, 5, .inr (.inl (aL (shs (-1) 2 (shs (-1) 3 N))))))] := hD
        refine ix_iinc (k := 0) (lv2 := [(4, .int (iI 1)), (3, .int (iI 0)), (2, .int (iI (f_deg N))), (0, .ref x), (1, .int (iI (-1)))]) hx hb dX2_change_159 hl rfl (by decide) rfl (fun ls hl => ?_)
        refine lv_goto (tgt := 131) hx hb dX2_change_162 (by decide) ?_
        refine lv_iload hx hb dX2_change_131 (lv_at hl 0 rfl) ?_
        refine lv_iload_n hx hb dX2_change_133 rfl (lv_at hl 1 rfl) ?_
        refine ix_icmp_lt (tgt := 165) hx hb dX2_change_134 (by decide) (by decide) (by decide) (fun c192 => absurd c192 (by decide)) (fun _ => ?_)
        refine lv_aload_n hx hb dX2_change_137 rfl (lv_at hl 3 rfl) ?_
        refine va_get (D := (dC, dI)) (ci := 2) (v := .ref r) (C := RX2) (T := TX2) (N := 17) hx hb hw inX2 hown hK hP 0 rfl rfl 2 (by decide) (hw _ mA_383) (fun _ h9 => h9) rfl dX2_change_138 ?_
        refine lv_iload hx hb dX2_change_141 (lv_at hl 0 rfl) ?_
        refine lv_dup2_11 hx hb dX2_change_143 rfl rfl ?_
        refine ix_lald (k := 1) hx hb hK hP 2 1 rfl rfl (by decide) (by decide) (by decide) dX2_change_144 ?_
        refine lv_iload_n hx hb dX2_change_145 rfl (lv_at hl 4 rfl) ?_
        refine ix_i2l hx hb dX2_change_146 (by decide) ?_
        refine lv_aload_n hx hb dX2_change_147 rfl (lv_at hl 3 rfl) ?_
        refine va_get (D := (dC, dI)) (ci := 2) (v := .ref r) (C := RX2) (T := TX2) (N := 17) hx hb hw inX2 hown hK hP 0 rfl rfl 2 (by decide) (hw _ mA_383) (fun _ h9 => h9) rfl dX2_change_148 ?_
        refine lv_iload hx hb dX2_change_151 (lv_at hl 0 rfl) ?_
        refine ix_iconst (n := 1) hx hb dX2_change_153 ?_
        refine ix_iadd hx hb dX2_change_154 ?_
        refine ix_z (y := 2) rfl ?_
        refine ix_lald (k := 2) hx hb hK hP 2 1 rfl rfl (by decide) (by decide) (by decide) dX2_change_155 ?_
        refine ix_lmul hx hb dX2_change_156 ?_
        refine ix_ladd hx hb dX2_change_157 ?_
        refine ix_last (k := 1) (x := ((shs (-1) 2 (shs (-1) 3 N)) 1) + ((-1) * ((shs (-1) 2 (shs (-1) 3 N)) 2))) hx hb hK hP hD hS 2 1 rfl rfl (by decide) (by decide) (by decide) dX2_change_158 (fun H locs hP hD hS => ?_)
        have hP : va_P (dC, dI) vwCl [(x, .inr (2, [.int (iI 0), .ref n, .ref r, .ref d, .int (iI cn), .int (iI fc), .ref ya, .ref yb, .ref yc, .ref yo, .long (lI (X 0)), .long (lI (X 1)), .long (lI (X 2)), .long (lI (X 3)), .long (lI (X 4)), .long (lI (X 5)), .long (lI (X 6))])), (n, .inl (cI, 5, .inl (aI N))), (r, .inl (cJ, 5, .inr (.inl (aL (iu (shs (-1) 2 (shs (-1) 3 N)) 1 (((shs (-1) 2 (shs (-1) 3 N)) 1) + ((-1) * ((shs (-1) 2 (shs (-1) 3 N)) 2))))))))] H := hP
        have hD : va_D A [(x, .inr (2, [.int (iI 0), .ref n, .ref r, .ref d, .int (iI cn), .int (iI fc), .ref ya, .ref yb, .ref yc, .ref yo, .long (lI (X 0)), .long (lI (X 1)), .long (lI (X 2)), .long (lI (X 3)), .long (lI (X 4)), .long (lI (X 5)), .long (lI (X 6))])), (n, .inl (cI, 5, .inl (aI N))), (r, .inl (cJ, 5, .inr (.inl (aL (iu (shs (-1) 2 (shs (-1) 3 N)) 1 (((shs (-1) 2 (shs (-1) 3 N)) 1) + ((-1) * ((shs (-1) 2 (shs (-1) 3 N)) 2))))))))] := hD
        have hP : va_P (dC, dI) vwCl [(x, .inr (2, [.int (iI 0), .ref n, .ref r, .ref d, .int (iI cn), .int (iI fc), .ref ya, .ref yb, .ref yc, .ref yo, .long (lI (X 0)), .long (lI (X 1)), .long (lI (X 2)), .long (lI (X 3)), .long (lI (X 4)), .long (lI (X 5)), .long (lI (X 6))])), (n, .inl (cI, 5, .inl (aI N))), (r, .inl (cJ, 5, .inr (.inl (aL (shs (-1) 1 (shs (-1) 2 (shs (-1) 3 N)))))))] H := hP
        have hD : va_D A [(x, .inr (2, [.int (iI 0), .ref n, .ref r, .ref d, .int (iI cn), .int (iI fc), .ref ya, .ref yb, .ref yc, .ref yo, .long (lI (X 0)), .long (lI (X 1)), .long (lI (X 2)), .long (lI (X 3)), .long (lI (X 4)), .long (lI (X 5)), .long (lI (X 6))])), (n, .inl (cI, 5, .inl (aI N))), (r, .inl (cJ, 5, .inr (.inl (aL (shs (-1) 1 (shs (-1) 2 (shs (-1) 3 N)))))))] := hD
        refine ix_iinc (k := 0) (lv2 := [(4, .int (iI 0)), (3, .int (iI 0)), (2, .int (iI (f_deg N))), (0, .ref x), (1, .int (iI (-1)))]) hx hb dX2_change_159 hl rfl (by decide) rfl (fun ls hl => ?_)
        refine lv_goto (tgt := 131) hx hb dX2_change_162 (by decide) ?_
        refine lv_iload hx hb dX2_change_131 (lv_at hl 0 rfl) ?_
        refine lv_iload_n hx hb dX2_change_133 rfl (lv_at hl 1 rfl) ?_
        refine ix_icmp_lt (tgt := 165) hx hb dX2_change_134 (by decide) (by decide) (by decide) (fun c193 => absurd c193 (by decide)) (fun _ => ?_)
        refine lv_aload_n hx hb dX2_change_137 rfl (lv_at hl 3 rfl) ?_
        refine va_get (D := (dC, dI)) (ci := 2) (v := .ref r) (C := RX2) (T := TX2) (N := 17) hx hb hw inX2 hown hK hP 0 rfl rfl 2 (by decide) (hw _ mA_383) (fun _ h9 => h9) rfl dX2_change_138 ?_
        refine lv_iload hx hb dX2_change_141 (lv_at hl 0 rfl) ?_
        refine lv_dup2_11 hx hb dX2_change_143 rfl rfl ?_
        refine ix_lald (k := 0) hx hb hK hP 2 1 rfl rfl (by decide) (by decide) (by decide) dX2_change_144 ?_
        refine lv_iload_n hx hb dX2_change_145 rfl (lv_at hl 4 rfl) ?_
        refine ix_i2l hx hb dX2_change_146 (by decide) ?_
        refine lv_aload_n hx hb dX2_change_147 rfl (lv_at hl 3 rfl) ?_
        refine va_get (D := (dC, dI)) (ci := 2) (v := .ref r) (C := RX2) (T := TX2) (N := 17) hx hb hw inX2 hown hK hP 0 rfl rfl 2 (by decide) (hw _ mA_383) (fun _ h9 => h9) rfl dX2_change_148 ?_
        refine lv_iload hx hb dX2_change_151 (lv_at hl 0 rfl) ?_
        refine ix_iconst (n := 1) hx hb dX2_change_153 ?_
        refine ix_iadd hx hb dX2_change_154 ?_
        refine ix_z (y := 1) rfl ?_
        refine ix_lald (k := 1) hx hb hK hP 2 1 rfl rfl (by decide) (by decide) (by decide) dX2_change_155 ?_
        refine ix_lmul hx hb dX2_change_156 ?_
        refine ix_ladd hx hb dX2_change_157 ?_
        refine ix_last (k := 0) (x := ((shs (-1) 1 (shs (-1) 2 (shs (-1) 3 N))) 0) + ((-1) * ((shs (-1) 1 (shs (-1) 2 (shs (-1) 3 N))) 1))) hx hb hK hP hD hS 2 1 rfl rfl (by decide) (by decide) (by decide) dX2_change_158 (fun H locs hP hD hS => ?_)
        have hP : va_P (dC, dI) vwCl [(x, .inr (2, [.int (iI 0), .ref n, .ref r, .ref d, .int (iI cn), .int (iI fc), .ref ya, .ref yb, .ref yc, .ref yo, .long (lI (X 0)), .long (lI (X 1)), .long (lI (X 2)), .long (lI (X 3)), .long (lI (X 4)), .long (lI (X 5)), .long (lI (X 6))])), (n, .inl (cI, 5, .inl (aI N))), (r, .inl (cJ, 5, .inr (.inl (aL (iu (shs (-1) 1 (shs (-1) 2 (shs (-1) 3 N))) 0 (((shs (-1) 1 (shs (-1) 2 (shs (-1) 3 N))) 0) + ((-1) * ((shs (-1) 1 (shs (-1) 2 (shs (-1) 3 N))) 1))))))))] H := hP
        have hD : va_D A [(x, .inr (2, [.int (iI 0), .ref n, .ref r, .ref d, .int (iI cn), .int (iI fc), .ref ya, .ref yb, .ref yc, .ref yo, .long (lI (X 0)), .long (lI (X 1)), .long (lI (X 2)), .long (lI (X 3)), .long (lI (X 4)), .long (lI (X 5)), .long (lI (X 6))])), (n, .inl (cI, 5, .inl (aI N))), (r, .inl (cJ, 5, .inr (.inl (aL (iu (shs (-1) 1 (shs (-1) 2 (shs (-1) 3 N))) 0 (((shs (-1) 1 (shs (-1) 2 (shs (-1) 3 N))) 0) + ((-1) * ((shs (-1) 1 (shs (-1) 2 (shs (-1) 3 N))) 1))))))))] := hD
        have hP : va_P (dC, dI) vwCl [(x, .inr (2, [.int (iI 0), .ref n, .ref r, .ref d, .int (iI cn), .int (iI fc), .ref ya, .ref yb, .ref yc, .ref yo, .long (lI (X 0)), .long (lI (X 1)), .long (lI (X 2)), .long (lI (X 3)), .long (lI (X 4)), .long (lI (X 5)), .long (lI (X 6))])), (n, .inl (cI, 5, .inl (aI N))), (r, .inl (cJ, 5, .inr (.inl (aL (shs (-1) 0 (shs (-1) 1 (shs (-1) 2 (shs (-1) 3 N))))))))] H := hP
        have hD : va_D A [(x, .inr (2, [.int (iI 0), .ref n, .ref r, .ref d, .int (iI cn), .int (iI fc), .ref ya, .ref yb, .ref yc, .ref yo, .long (lI (X 0)), .long (lI (X 1)), .long (lI (X 2)), .long (lI (X 3)), .long (lI (X 4)), .long (lI (X 5)), .long (lI (X 6))])), (n, .inl (cI, 5, .inl (aI N))), (r, .inl (cJ, 5, .inr (.inl (aL (shs (-1) 0 (shs (-1) 1 (shs (-1) 2 (shs (-1) 3 N))))))))] := hD
        refine ix_iinc (k := 0) (lv2 := [(4, .int (iI (-1))), (3, .int (iI 0)), (2, .int (iI (f_deg N))), (0, .ref x), (1, .int (iI (-1)))]) hx hb dX2_change_159 hl rfl (by decide) rfl (fun ls hl => ?_)
        refine lv_goto (tgt := 131) hx hb dX2_change_162 (by decide) ?_
        refine lv_iload hx hb dX2_change_131 (lv_at hl 0 rfl) ?_
        refine lv_iload_n hx hb dX2_change_133 rfl (lv_at hl 1 rfl) ?_
        refine ix_icmp_lt (tgt := 165) hx hb dX2_change_134 (by decide) (by decide) (by decide) (fun _ => ?_) (fun c194 => absurd c194 (by decide))
        refine ix_iinc (k := 1) (lv2 := [(3, .int (iI 1)), (4, .int (iI (-1))), (2, .int (iI (f_deg N))), (0, .ref x), (1, .int (iI (-1)))]) hx hb dX2_change_165 hl rfl (by decide) rfl (fun ls hl => ?_)
        refine lv_goto (tgt := 123) hx hb dX2_change_168 (by decide) ?_
        refine lv_iload_n hx hb dX2_change_123 rfl (lv_at hl 0 rfl) ?_
        refine ix_iconst (n := 4) hx hb dX2_change_124 ?_
        refine ix_icmp_ge (tgt := 171) hx hb dX2_change_125 (by decide) (by decide) (by decide) (fun c195 => absurd c195 (by decide)) (fun _ => ?_)
        refine ix_iconst (n := 3) hx hb dX2_change_128 ?_
        refine lv_istore (lv' := [(4, .int (iI 3)), (3, .int (iI 1)), (2, .int (iI (f_deg N))), (0, .ref x), (1, .int (iI (-1)))]) hx hb dX2_change_129 hl (by decide) rfl (fun ls hl => ?_)
        refine lv_iload hx hb dX2_change_131 (lv_at hl 0 rfl) ?_
        refine lv_iload_n hx hb dX2_change_133 rfl (lv_at hl 1 rfl) ?_
        refine ix_icmp_lt (tgt := 165) hx hb dX2_change_134 (by decide) (by decide) (by decide) (fun c196 => absurd c196 (by decide)) (fun _ => ?_)
        refine lv_aload_n hx hb dX2_change_137 rfl (lv_at hl 3 rfl) ?_
        refine va_get (D := (dC, dI)) (ci := 2) (v := .ref r) (C := RX2) (T := TX2) (N := 17) hx hb hw inX2 hown hK hP 0 rfl rfl 2 (by decide) (hw _ mA_383) (fun _ h9 => h9) rfl dX2_change_138 ?_
        refine lv_iload hx hb dX2_change_141 (lv_at hl 0 rfl) ?_
        refine lv_dup2_11 hx hb dX2_change_143 rfl rfl ?_
        refine ix_lald (k := 3) hx hb hK hP 2 1 rfl rfl (by decide) (by decide) (by decide) dX2_change_144 ?_
        refine lv_iload_n hx hb dX2_change_145 rfl (lv_at hl 4 rfl) ?_
        refine ix_i2l hx hb dX2_change_146 (by decide) ?_
        refine lv_aload_n hx hb dX2_change_147 rfl (lv_at hl 3 rfl) ?_
        refine va_get (D := (dC, dI)) (ci := 2) (v := .ref r) (C := RX2) (T := TX2) (N := 17) hx hb hw inX2 hown hK hP 0 rfl rfl 2 (by decide) (hw _ mA_383) (fun _ h9 => h9) rfl dX2_change_148 ?_
        refine lv_iload hx hb dX2_change_151 (lv_at hl 0 rfl) ?_
        refine ix_iconst (n := 1) hx hb dX2_change_153 ?_
        refine ix_iadd hx hb dX2_change_154 ?_
        refine ix_z (y := 4) rfl ?_
        refine ix_lald (k := 4) hx hb hK hP 2 1 rfl rfl (by decide) (by decide) (by decide) dX2_change_155 ?_
        refine ix_lmul hx hb dX2_change_156 ?_
        refine ix_ladd hx hb dX2_change_157 ?_
        refine ix_last (k := 3) (x := ((shs (-1) 0 (shs (-1) 1 (shs (-1) 2 (shs (-1) 3 N)))) 3) + ((-1) * ((shs (-1) 0 (shs (-1) 1 (shs (-1) 2 (shs (-1) 3 N)))) 4))) hx hb hK hP hD hS 2 1 rfl rfl (by decide) (by decide) (by decide) dX2_change_158 (fun H locs hP hD hS => ?_)
        have hP : va_P (dC, dI) vwCl [(x, .inr (2, [.int (iI 0), .ref n, .ref r, .ref d, .int (iI cn), .int (iI fc), .ref ya, .ref yb, .ref yc, .ref yo, .long (lI (X 0)), .long (lI (X 1)), .long (lI (X 2)), .long (lI (X 3)), .long (lI (X 4)), .long (lI (X 5)), .long (lI (X 6))])), (n, .inl (cI, 5, .inl (aI N))), (r, .inl (cJ, 5, .inr (.inl (aL (iu (shs (-1) 0 (shs (-1) 1 (shs (-1) 2 (shs (-1) 3 N)))) 3 (((shs (-1) 0 (shs (-1) 1 (shs (-1) 2 (shs (-1) 3 N)))) 3) + ((-1) * ((shs (-1) 0 (shs (-1) 1 (shs (-1) 2 (shs (-1) 3 N)))) 4))))))))] H := hP
        have hD : va_D A [(x, .inr (2, [.int (iI 0), .ref n, .ref r, .ref d, .int (iI cn), .int (iI fc), .ref ya, .ref yb, .ref yc, .ref yo, .long (lI (X 0)), .long (lI (X 1)), .long (lI (X 2)), .long (lI (X 3)), .long (lI (X 4)), .long (lI (X 5)), .long (lI (X 6))])), (n, .inl (cI, 5, .inl (aI N))), (r, .inl (cJ, 5, .inr (.inl (aL (iu (shs (-1) 0 (shs (-1) 1 (shs (-1) 2 (shs (-1) 3 N)))) 3 (((shs (-1) 0 (shs (-1) 1 (shs (-1) 2 (shs (-1) 3 N)))) 3) + ((-1) * ((shs (-1) 0 (shs (-1) 1 (shs (-1) 2 (shs (-1) 3 N)))) 4))))))))] := hD
        have hP : va_P (dC, dI) vwCl [(x, .inr (2, [.int (iI 0), .ref n, .ref r, .ref d, .int (iI cn), .int (iI fc), .ref ya, .ref yb, .ref yc, .ref yo, .long (lI (X 0)), .long (lI (X 1)), .long (lI (X 2)), .long (lI (X 3)), .long (lI (X 4)), .long (lI (X 5)), .long (lI (X 6))])), (n, .inl (cI, 5, .inl (aI N))), (r, .inl (cJ, 5, .inr (.inl (aL (shs (-1) 3 (shs (-1) 0 (shs (-1) 1 (shs (-1) 2 (shs (-1) 3 N)))))))))] H := hP
        have hD : va_D A [(x, .inr (2, [.int (iI 0), .ref n, .ref r, .ref d, .int (iI cn), .int (iI fc), .ref ya, .ref yb, .ref yc, .ref yo, .long (lI (X 0)), .long (lI (X 1)), .long (lI (X 2)), .long (lI (X 3)), .long (lI (X 4)), .long (lI (X 5)), .long (lI (X 6))])), (n, .inl (cI, 5, .inl (aI N))), (r, .inl (cJ, 5, .inr (.inl (aL (shs (-1) 3 (shs (-1) 0 (shs (-1) 1 (shs (-1) 2 (shs (-1) 3 N)))))))))] := hD
        refine ix_iinc (k := 0) (lv2 := [(4, .int (iI 2)), (3, .int (iI 1)), (2, .int (iI (f_deg N))), (0, .ref x), (1, .int (iI (-1)))]) hx hb dX2_change_159 hl rfl (by decide) rfl (fun ls hl => ?_)
        refine lv_goto (tgt := 131) hx hb dX2_change_162 (by decide) ?_
        refine lv_iload hx hb dX2_change_131 (lv_at hl 0 rfl) ?_
        refine lv_iload_n hx hb dX2_change_133 rfl (lv_at hl 1 rfl) ?_
        refine ix_icmp_lt (tgt := 165) hx hb dX2_change_134 (by decide) (by decide) (by decide) (fun c197 => absurd c197 (by decide)) (fun _ => ?_)
        refine lv_aload_n hx hb dX2_change_137 rfl (lv_at hl 3 rfl) ?_
        refine va_get (D := (dC, dI)) (ci := 2) (v := .ref r) (C := RX2) (T := TX2) (N := 17) hx hb hw inX2 hown hK hP 0 rfl rfl 2 (by decide) (hw _ mA_383) (fun _ h9 => h9) rfl dX2_change_138 ?_
        refine lv_iload hx hb dX2_change_141 (lv_at hl 0 rfl) ?_
        refine lv_dup2_11 hx hb dX2_change_143 rfl rfl ?_
        refine ix_lald (k := 2) hx hb hK hP 2 1 rfl rfl (by decide) (by decide) (by decide) dX2_change_144 ?_
        refine lv_iload_n hx hb dX2_change_145 rfl (lv_at hl 4 rfl) ?_
        refine ix_i2l hx hb dX2_change_146 (by decide) ?_
        refine lv_aload_n hx hb dX2_change_147 rfl (lv_at hl 3 rfl) ?_
        refine va_get (D := (dC, dI)) (ci := 2) (v := .ref r) (C := RX2) (T := TX2) (N := 17) hx hb hw inX2 hown hK hP 0 rfl rfl 2 (by decide) (hw _ mA_383) (fun _ h9 => h9) rfl dX2_change_148 ?_
        refine lv_iload hx hb dX2_change_151 (lv_at hl 0 rfl) ?_
        refine ix_iconst (n := 1) hx hb dX2_change_153 ?_
        refine ix_iadd hx hb dX2_change_154 ?_
        refine ix_z (y := 3) rfl ?_
        refine ix_lald (k := 3) hx hb hK hP 2 1 rfl rfl (by decide) (by decide) (by decide) dX2_change_155 ?_
        refine ix_lmul hx hb dX2_change_156 ?_
        refine ix_ladd hx hb dX2_change_157 ?_
        refine ix_last (k := 2) (x := ((shs (-1) 3 (shs (-1) 0 (shs (-1) 1 (shs (-1) 2 (shs (-1) 3 N))))) 2) + ((-1) * ((shs (-1) 3 (shs (-1) 0 (shs (-1) 1 (shs (-1) 2 (shs (-1) 3 N))))) 3))) hx hb hK hP hD hS 2 1 rfl rfl (by decide) (by decide) (by decide) dX2_change_158 (fun H locs hP hD hS => ?_)
        have hP : va_P (dC, dI) vwCl [(x, .inr (2, [.int (iI 0), .ref n, .ref r, .ref d, .int (iI cn), .int (iI fc), .ref ya, .ref yb, .ref yc, .ref yo, .long (lI (X 0)), .long (lI (X 1)), .long (lI (X 2)), .long (lI (X 3)), .long (lI (X 4)), .long (lI (X 5)), .long (lI (X 6))])), (n, .inl (cI, 5, .inl (aI N))), (r, .inl (cJ, 5, .inr (.inl (aL (iu (shs (-1) 3 (shs (-1) 0 (shs (-1) 1 (shs (-1) 2 (shs (-1) 3 N))))) 2 (((shs (-1) 3 (shs (-1) 0 (shs (-1) 1 (shs (-1) 2 (shs (-1) 3 N))))) 2) + ((-1) * ((shs (-1) 3 (shs (-1) 0 (shs (-1) 1 (shs (-1) 2 (shs (-1) 3 N))))) 3))))))))] H := hP
        have hD : va_D A [(x, .inr (2, [.int (iI 0), .ref n, .ref r, .ref d, .int (iI cn), .int (iI fc), .ref ya, .ref yb, .ref yc, .ref yo, .long (lI (X 0)), .long (lI (X 1)), .long (lI (X 2)), .long (lI (X 3)), .long (lI (X 4)), .long (lI (X 5)), .long (lI (X 6))])), (n, .inl (cI, 5, .inl (aI N))), (r, .inl (cJ, 5, .inr (.inl (aL (iu (shs (-1) 3 (shs (-1) 0 (shs (-1) 1 (shs (-1) 2 (shs (-1) 3 N))))) 2 (((shs (-1) 3 (shs (-1) 0 (shs (-1) 1 (shs (-1) 2 (shs (-1) 3 N))))) 2) + ((-1) * ((shs (-1) 3 (shs (-1) 0 (shs (-1) 1 (shs (-1) 2 (shs (-1) 3 N))))) 3))))))))] := hD
        have hP : va_P (dC, dI) vwCl [(x, .inr (2, [.int (iI 0), .ref n, .ref r, .ref d, .int (iI cn), .int (iI fc), .ref ya, .ref yb, .ref yc, .ref yo, .long (lI (X 0)), .long (lI (X 1)), .long (lI (X 2)), .long (lI (X 3)), .long (lI (X 4)), .long (lI (X 5)), .long (lI (X 6))])), (n, .inl (cI, 5, .inl (aI N))), (r, .inl (cJ, 5, .inr (.inl (aL (shs (-1) 2 (shs (-1) 3 (shs (-1) 0 (shs (-1) 1 (shs (-1) 2 (shs (-1) 3 N))))))))))] H := hP
        have hD : va_D A [(x, .inr (2, [.int (iI 0), .ref n, .ref r, .ref d, .int (iI cn), .int (iI fc), .ref ya, .ref yb, .ref yc, .ref yo, .long (lI (X 0)), .long (lI (X 1)), .long (lI (X 2)), .long (lI (X 3)), .long (lI (X 4)), .long (lI (X 5)), .long (lI (X 6))])), (n, .inl (cI, 5, .inl (aI N))), (r, .inl (cJ, 5, .inr (.inl (aL (shs (-1) 2 (shs (-1) 3 (shs (-1) 0 (shs (-1) 1 (shs (-1) 2 (shs (-1) 3 N))))))))))] := hD
        refine ix_iinc (k := 0) (lv2 := [(4, .int (iI 1)), (3, .int (iI 1)), (2, .int (iI (f_deg N))), (0, .ref x), (1, .int (iI (-1)))]) hx hb dX2_change_159 hl rfl (by decide) rfl (fun ls hl => ?_)
        refine lv_goto (tgt := 131) hx hb dX2_change_162 (by decide) ?_
        refine lv_iload hx hb dX2_change_131 (lv_at hl 0 rfl) ?_
        refine lv_iload_n hx hb dX2_change_133 rfl (lv_at hl 1 rfl) ?_
        refine ix_icmp_lt (tgt := 165) hx hb dX2_change_134 (by decide) (by decide) (by decide) (fun c198 => absurd c198 (by decide)) (fun _ => ?_)
        refine lv_aload_n hx hb dX2_change_137 rfl (lv_at hl 3 rfl) ?_
        refine va_get (D := (dC, dI)) (ci := 2) (v := .ref r) (C := RX2) (T := TX2) (N := 17) hx hb hw inX2 hown hK hP 0 rfl rfl 2 (by decide) (hw _ mA_383) (fun _ h9 => h9) rfl dX2_change_138 ?_
        refine lv_iload hx hb dX2_change_141 (lv_at hl 0 rfl) ?_
        refine lv_dup2_11 hx hb dX2_change_143 rfl rfl ?_
        refine ix_lald (k := 1) hx hb hK hP 2 1 rfl rfl (by decide) (by decide) (by decide) dX2_change_144 ?_
        refine lv_iload_n hx hb dX2_change_145 rfl (lv_at hl 4 rfl) ?_
        refine ix_i2l hx hb dX2_change_146 (by decide) ?_
        refine lv_aload_n hx hb dX2_change_147 rfl (lv_at hl 3 rfl) ?_
        refine va_get (D := (dC, dI)) (ci := 2) (v := .ref r) (C := RX2) (T := TX2) (N := 17) hx hb hw inX2 hown hK hP 0 rfl rfl 2 (by decide) (hw _ mA_383) (fun _ h9 => h9) rfl dX2_change_148 ?_
        refine lv_iload hx hb dX2_change_151 (lv_at hl 0 rfl) ?_
        refine ix_iconst (n := 1) hx hb dX2_change_153 ?_
        refine ix_iadd hx hb dX2_change_154 ?_
        refine ix_z (y := 2) rfl ?_
        refine ix_lald (k := 2) hx hb hK hP 2 1 rfl rfl (by decide) (by decide) (by decide) dX2_change_155 ?_
        refine ix_lmul hx hb dX2_change_156 ?_
        refine ix_ladd hx hb dX2_change_157 ?_
        refine ix_last (k := 1) (x := ((shs (-1) 2 (shs (-1) 3 (shs (-1) 0 (shs (-1) 1 (shs (-1) 2 (shs (-1) 3 N)))))) 1) + ((-1) * ((shs (-1) 2 (shs (-1) 3 (shs (-1) 0 (shs (-1) 1 (shs (-1) 2 (shs (-1) 3 N)))))) 2))) hx hb hK hP hD hS 2 1 rfl rfl (by decide) (by decide) (by decide) dX2_change_158 (fun H locs hP hD hS => ?_)
        have hP : va_P (dC, dI) vwCl [(x, .inr (2, [.int (iI 0), .ref n, .ref r, .ref d, .int (iI cn), .int (iI fc), .ref ya, .ref yb, .ref yc, .ref yo, .long (lI (X 0)), .long (lI (X 1)), .long (lI (X 2)), .long (lI (X 3)), .long (lI (X 4)), .long (lI (X 5)), .long (lI (X 6))])), (n, .inl (cI, 5, .inl (aI N))), (r, .inl (cJ, 5, .inr (.inl (aL (iu (shs (-1) 2 (shs (-1) 3 (shs (-1) 0 (shs (-1) 1 (shs (-1) 2 (shs (-1) 3 N)))))) 1 (((shs (-1) 2 (shs (-1) 3 (shs (-1) 0 (shs (-1) 1 (shs (-1) 2 (shs (-1) 3 N)))))) 1) + ((-1) * ((shs (-1) 2 (shs (-1) 3 (shs (-1) 0 (shs (-1) 1 (shs (-1) 2 (shs (-1) 3 N)))))) 2))))))))] H := hP
        have hD : va_D A [(x, .inr (2, [.int (iI 0), .ref n, .ref r, .ref d, .int (iI cn), .int (iI fc), .ref ya, .ref yb, .ref yc, .ref yo, .long (lI (X 0)), .long (lI (X 1)), .long (lI (X 2)), .long (lI (X 3)), .long (lI (X 4)), .long (lI (X 5)), .long (lI (X 6))])), (n, .inl (cI, 5, .inl (aI N))), (r, .inl (cJ, 5, .inr (.inl (aL (iu (shs (-1) 2 (shs (-1) 3 (shs (-1) 0 (shs (-1) 1 (shs (-1) 2 (shs (-1) 3 N)))))) 1 (((shs (-1) 2 (shs (-1) 3 (shs (-1) 0 (shs (-1) 1 (shs (-1) 2 (shs (-1) 3 N)))))) 1) + ((-1) * ((shs (-1) 2 (shs (-1) 3 (shs (-1) 0 (shs (-1) 1 (shs (-1) 2 (shs (-1) 3 N)))))) 2))))))))] := hD
        have hP : va_P (dC, dI) vwCl [(x, .inr (2, [.int (iI 0), .ref n, .ref r, .ref d, .int (iI cn), .int (iI fc), .ref ya, .ref yb, .ref yc, .ref yo, .long (lI (X 0)), .long (lI (X 1)), .long (lI (X 2)), .long (lI (X 3)), .long (lI (X 4)), .long (lI (X 5)), .long (lI (X 6))])), (n, .inl (cI, 5, .inl (aI N))), (r, .inl (cJ, 5, .inr (.inl (aL (shs (-1) 1 (shs (-1) 2 (shs (-1) 3 (shs (-1) 0 (shs (-1) 1 (shs (-1) 2 (shs (-1) 3 N)))))))))))] H := hP
        have hD : va_D A [(x, .inr (2, [.int (iI 0), .ref n, .ref r, .ref d, .int (iI cn), .int (iI fc), .ref ya, .ref yb, .ref yc, .ref yo, .long (lI (X 0)), .long (lI (X 1)), .long (lI (X 2)), .long (lI (X 3)), .long (lI (X 4)), .long (lI (X 5)), .long (lI (X 6))])), (n, .inl (cI, 5, .inl (aI N))), (r, .inl (cJ, 5, .inr (.inl (aL (shs (-1) 1 (shs (-1) 2 (shs (-1) 3 (shs (-1) 0 (shs (-1) 1 (shs (-1) 2 (shs (-1) 3 N)))))))))))] := hD
        refine ix_iinc (k := 0) (lv2 := [(4, .int (iI 0)), (3, .int (iI 1)), (2, .int (iI (f_deg N))), (0, .ref x), (1, .int (iI (-1)))]) hx hb dX2_change_159 hl rfl (by decide) rfl (fun ls hl => ?_)
        refine lv_goto (tgt := 131) hx hb dX2_change_162 (by decide) ?_
        refine lv_iload hx hb dX2_change_131 (lv_at hl 0 rfl) ?_
        refine lv_iload_n hx hb dX2_change_133 rfl (lv_at hl 1 rfl) ?_
        refine ix_icmp_lt (tgt := 165) hx hb dX2_change_134 (by decide) (by decide) (by decide) (fun _ => ?_) (fun c199 => absurd c199 (by decide))
        refine ix_iinc (k := 1) (lv2 := [(3, .int (iI 2)), (4, .int (iI 0)), (2, .int (iI (f_deg N))), (0, .ref x), (1, .int (iI (-1)))]) hx hb dX2_change_165 hl rfl (by decide) rfl (fun ls hl => ?_)
        refine lv_goto (tgt := 123) hx hb dX2_change_168 (by decide) ?_
        refine lv_iload_n hx hb dX2_change_123 rfl (lv_at hl 0 rfl) ?_
        refine ix_iconst (n := 4) hx hb dX2_change_124 ?_
        refine ix_icmp_ge (tgt := 171) hx hb dX2_change_125 (by decide) (by decide) (by decide) (fun c200 => absurd c200 (by decide)) (fun _ => ?_)
        refine ix_iconst (n := 3) hx hb dX2_change_128 ?_
        refine lv_istore (lv' := [(4, .int (iI 3)), (3, .int (iI 2)), (2, .int (iI (f_deg N))), (0, .ref x), (1, .int (iI (-1)))]) hx hb dX2_change_129 hl (by decide) rfl (fun ls hl => ?_)
        refine lv_iload hx hb dX2_change_131 (lv_at hl 0 rfl) ?_
        refine lv_iload_n hx hb dX2_change_133 rfl (lv_at hl 1 rfl) ?_
        refine ix_icmp_lt (tgt := 165) hx hb dX2_change_134 (by decide) (by decide) (by decide) (fun c201 => absurd c201 (by decide)) (fun _ => ?_)
        refine lv_aload_n hx hb dX2_change_137 rfl (lv_at hl 3 rfl) ?_
        refine va_get (D := (dC, dI)) (ci := 2) (v := .ref r) (C := RX2) (T := TX2) (N := 17) hx hb hw inX2 hown hK hP 0 rfl rfl 2 (by decide) (hw _ mA_383) (fun _ h9 => h9) rfl dX2_change_138 ?_
        refine lv_iload hx hb dX2_change_141 (lv_at hl 0 rfl) ?_
        refine lv_dup2_11 hx hb dX2_change_143 rfl rfl ?_
        refine ix_lald (k := 3) hx hb hK hP 2 1 rfl rfl (by decide) (by decide) (by decide) dX2_change_144 ?_
        refine lv_iload_n hx hb dX2_change_145 rfl (lv_at hl 4 rfl) ?_
        refine ix_i2l hx hb dX2_change_146 (by decide) ?_
        refine lv_aload_n hx hb dX2_change_147 rfl (lv_at hl 3 rfl) ?_
        refine va_get (D := (dC, dI)) (ci := 2) (v := .ref r) (C := RX2) (T := TX2) (N := 17) hx hb hw inX2 hown hK hP 0 rfl rfl 2 (by decide) (hw _ mA_383) (fun _ h9 => h9) rfl dX2_change_148 ?_
        refine lv_iload hx hb dX2_change_151 (lv_at hl 0 rfl) ?_
        refine ix_iconst (n := 1) hx hb dX2_change_153 ?_
        refine ix_iadd hx hb dX2_change_154 ?_
        refine ix_z (y := 4) rfl ?_
        refine ix_lald (k := 4) hx hb hK hP 2 1 rfl rfl (by decide) (by decide) (by decide) dX2_change_155 ?_
        refine ix_lmul hx hb dX2_change_156 ?_
        refine ix_ladd hx hb dX2_change_157 ?_
        refine ix_last (k := 3) (x := ((shs (-1) 1 (shs (-1) 2 (shs (-1) 3 (shs (-1) 0 (shs (-1) 1 (shs (-1) 2 (shs (-1) 3 N))))))) 3) + ((-1) * ((shs (-1) 1 (shs (-1) 2 (shs (-1) 3 (shs (-1) 0 (shs (-1) 1 (shs (-1) 2 (shs (-1) 3 N))))))) 4))) hx hb hK hP hD hS 2 1 rfl rfl (by decide) (by decide) (by decide) dX2_change_158 (fun H locs hP hD hS => ?_)
        have hP : va_P (dC, dI) vwCl [(x, .inr (2, [.int (iI 0), .ref n, .ref r, .ref d, .int (iI cn), .int (iI fc), .ref ya, .ref yb, .ref yc, .ref yo, .long (lI (X 0)), .long (lI (X 1)), .long (lI (X 2)), .long (lI (X 3)), .long (lI (X 4)), .long (lI (X 5)), .long (lI (X 6))])), (n, .inl (cI, 5, .inl (aI N))), (r, .inl (cJ, 5, .inr (.inl (aL (iu (shs (-1) 1 (shs (-1) 2 (shs (-1) 3 (shs (-1) 0 (shs (-1) 1 (shs (-1) 2 (shs (-1) 3 N))))))) 3 (((shs (-1) 1 (shs (-1) 2 (shs (-1) 3 (shs (-1) 0 (shs (-1) 1 (shs (-1) 2 (shs (-1) 3 N))))))) 3) + ((-1) * ((shs (-1) 1 (shs (-1) 2 (shs (-1) 3 (shs (-1) 0 (shs (-1) 1 (shs (-1) 2 (shs (-1) 3 N))))))) 4))))))))] H := hP
        have hD : va_D A [(x, .inr (2, [.int (iI 0), .ref n, .ref r, .ref d, .int (iI cn), .int (iI fc), .ref ya, .ref yb, .ref yc, .ref yo, .long (lI (X 0)), .long (lI (X 1)), .long (lI (X 2)), .long (lI (X 3)), .long (lI (X 4)), .long (lI (X 5)), .long (lI (X 6))])), (n, .inl (cI, 5, .inl (aI N))), (r, .inl (cJ, 5, .inr (.inl (aL (iu (shs (-1) 1 (shs (-1) 2 (shs (-1) 3 (shs (-1) 0 (shs (-1) 1 (shs (-1) 2 (shs (-1) 3 N))))))) 3 (((shs (-1) 1 (shs (-1) 2 (shs (-1) 3 (shs (-1) 0 (shs (-1) 1 (shs (-1) 2 (shs (-1) 3 N))))))) 3) + ((-1) * ((shs (-1) 1 (shs (-1) 2 (shs (-1) 3 (shs (-1) 0 (shs (-1) 1 (shs (-1) 2 (shs (-1) 3 N))))))) 4))))))))] := hD
        have hP : va_P (dC, dI) vwCl [(x, .inr (2, [.int (iI 0), .ref n, .ref r, .ref d, .int (iI cn), .int (iI fc), .ref ya, .ref yb, .ref yc, .ref yo, .long (lI (X 0)), .long (lI (X 1)), .long (lI (X 2)), .long (lI (X 3)), .long (lI (X 4)), .long (lI (X 5)), .long (lI (X 6))])), (n, .inl (cI, 5, .inl (aI N))), (r, .inl (cJ, 5, .inr (.inl (aL (shs (-1) 3 (shs (-1) 1 (shs (-1) 2 (shs (-1) 3 (shs (-1) 0 (shs (-1) 1 (shs (-1) 2 (shs (-1) 3 N))))))))))))] H := hP
        have hD : va_D A [(x, .inr (2, [.int (iI 0), .ref n, .ref r, .ref d, .int (iI cn), .int (iI fc), .ref ya, .ref yb, .ref yc, .ref yo, .long (lI (X 0)), .long (lI (X 1)), .long (lI (X 2)), .long (lI (X 3)), .long (lI (X 4)), .long (lI (X 5)), .long (lI (X 6))])), (n, .inl (cI, 5, .inl (aI N))), (r, .inl (cJ, 5, .inr (.inl (aL (shs (-1) 3 (shs (-1) 1 (shs (-1) 2 (shs (-1) 3 (shs (-1) 0 (shs (-1) 1 (shs (-1) 2 (shs (-1) 3 N))))))))))))] := hD
        refine ix_iinc (k := 0) (lv2 := [(4, .int (iI 2)), (3, .int (iI 2)), (2, .int (iI (f_deg N))), (0, .ref x), (1, .int (iI (-1)))]) hx hb dX2_change_159 hl rfl (by decide) rfl (fun ls hl => ?_)
        refine lv_goto (tgt := 131) hx hb dX2_change_162 (by decide) ?_
        refine lv_iload hx hb dX2_change_131 (lv_at hl 0 rfl) ?_
        refine lv_iload_n hx hb dX2_change_133 rfl (lv_at hl 1 rfl) ?_
        refine ix_icmp_lt (tgt := 165) hx hb dX2_change_134 (by decide) (by decide) (by decide) (fun c202 => absurd c202 (by decide)) (fun _ => ?_)
        refine lv_aload_n hx hb dX2_change_137 rfl (lv_at hl 3 rfl) ?_
        refine va_get (D := (dC, dI)) (ci := 2) (v := .ref r) (C := RX2) (T := TX2) (N := 17) hx hb hw inX2 hown hK hP 0 rfl rfl 2 (by decide) (hw _ mA_383) (fun _ h9 => h9) rfl dX2_change_138 ?_
        refine lv_iload hx hb dX2_change_141 (lv_at hl 0 rfl) ?_
        refine lv_dup2_11 hx hb dX2_change_143 rfl rfl ?_
        refine ix_lald (k := 2) hx hb hK hP 2 1 rfl rfl (by decide) (by decide) (by decide) dX2_change_144 ?_
        refine lv_iload_n hx hb dX2_change_145 rfl (lv_at hl 4 rfl) ?_
        refine ix_i2l hx hb dX2_change_146 (by decide) ?_
        refine lv_aload_n hx hb dX2_change_147 rfl (lv_at hl 3 rfl) ?_
        refine va_get (D := (dC, dI)) (ci := 2) (v := .ref r) (C := RX2) (T := TX2) (N := 17) hx hb hw inX2 hown hK hP 0 rfl rfl 2 (by decide) (hw _ mA_383) (fun _ h9 => h9) rfl dX2_change_148 ?_
        refine lv_iload hx hb dX2_change_151 (lv_at hl 0 rfl) ?_
        refine ix_iconst (n := 1) hx hb dX2_change_153 ?_
        refine ix_iadd hx hb dX2_change_154 ?_
        refine ix_z (y := 3) rfl ?_
        refine ix_lald (k := 3) hx hb hK hP 2 1 rfl rfl (by decide) (by decide) (by decide) dX2_change_155 ?_
        refine ix_lmul hx hb dX2_change_156 ?_
        refine ix_ladd hx hb dX2_change_157 ?_
        refine ix_last (k := 2) (x := ((shs (-1) 3 (shs (-1) 1 (shs (-1) 2 (shs (-1) 3 (shs (-1) 0 (shs (-1) 1 (shs (-1) 2 (shs (-1) 3 N)))))))) 2) + ((-1) * ((shs (-1) 3 (shs (-1) 1 (shs (-1) 2 (shs (-1) 3 (shs (-1) 0 (shs (-1) 1 (shs (-1) 2 (shs (-1) 3 N)))))))) 3))) hx hb hK hP hD hS 2 1 rfl rfl (by decide) (by decide) (by decide) dX2_change_158 (fun H locs hP hD hS => ?_)
        have hP : va_P (dC, dI) vwCl [(x, .inr (2, [.int (iI 0), .ref n, .ref r, .ref d, .int (iI cn), .int (iI fc), .ref ya, .ref yb, .ref yc, .ref yo, .long (lI (X 0)), .long (lI (X 1)), .long (lI (X 2)), .long (lI (X 3)), .long (lI (X 4)), .long (lI (X 5)), .long (lI (X 6))])), (n, .inl (cI, 5, .inl (aI N))), (r, .inl (cJ, 5, .inr (.inl (aL (iu (shs (-1) 3 (shs (-1) 1 (shs (-1) 2 (shs (-1) 3 (shs (-1) 0 (shs (-1) 1 (shs (-1) 2 (shs (-1) 3 N)))))))) 2 (((shs (-1) 3 (shs (-1) 1 (shs (-1) 2 (shs (-1) 3 (shs (-1) 0 (shs (-1) 1 (shs (-1) 2 (shs (-1) 3 N)))))))) 2) + ((-1) * ((shs (-1) 3 (shs (-1) 1 (shs (-1) 2 (shs (-1) 3 (shs (-1) 0 (shs (-1) 1 (shs (-1) 2 (shs (-1) 3 N)))))))) 3))))))))] H := hP
        have hD : va_D A [(x, .inr (2, [.int (iI 0), .ref n, .ref r, .ref d, .int (iI cn), .int (iI fc), .ref ya, .ref yb, .ref yc, .ref yo, .long (lI (X 0)), .long (lI (X 1)), .long (lI (X 2)), .long (lI (X 3)), .long (lI (X 4)), .long (lI (X 5)), .long (lI (X 6))])), (n, .inl (cI, 5, .inl (aI N))), (r, .inl (cJ, 5, .inr (.inl (aL (iu (shs (-1) 3 (shs (-1) 1 (shs (-1) 2 (shs (-1) 3 (shs (-1) 0 (shs (-1) 1 (shs (-1) 2 (shs (-1) 3 N)))))))) 2 (((shs (-1) 3 (shs (-1) 1 (shs (-1) 2 (shs (-1) 3 (shs (-1) 0 (shs (-1) 1 (shs (-1) 2 (shs (-1) 3 N)))))))) 2) + ((-1) * ((shs (-1) 3 (shs (-1) 1 (shs (-1) 2 (shs (-1) 3 (shs (-1) 0 (shs (-1) 1 (shs (-1) 2 (shs (-1) 3 N)))))))) 3))))))))] := hD
        have hP : va_P (dC, dI) vwCl [(x, .inr (2, [.int (iI 0), .ref n, .ref r, .ref d, .int (iI cn), .int (iI fc), .ref ya, .ref yb, .ref yc, .ref yo, .long (lI (X 0)), .long (lI (X 1)), .long (lI (X 2)), .long (lI (X 3)), .long (lI (X 4)), .long (lI (X 5)), .long (lI (X 6))])), (n, .inl (cI, 5, .inl (aI N))), (r, .inl (cJ, 5, .inr (.inl (aL (shs (-1) 2 (shs (-1) 3 (shs (-1) 1 (shs (-1) 2 (shs (-1) 3 (shs (-1) 0 (shs (-1) 1 (shs (-1) 2 (shs (-1) 3 N)))))))))))))] H := hP
        have hD : va_D A [(x, .inr (2, [.int (iI 0), .ref n, .ref r, .ref d, .int (iI cn), .int (iI fc), .ref ya, .ref yb, .ref yc, .ref yo, .long (lI (X 0)), .long (lI (X 1)), .long (lI (X 2)), .long (lI (X 3)), .long (lI (X 4)), .long (lI (X 5)), .long (lI (X 6))])), (n, .inl (cI, 5, .inl (aI N))), (r, .inl (cJ, 5, .inr (.inl (aL (shs (-1) 2 (shs (-1) 3 (shs (-1) 1 (shs (-1) 2 (shs (-1) 3 (shs (-1) 0 (shs (-1) 1 (shs (-1) 2 (shs (-1) 3 N)))))))))))))] := hD
        refine ix_iinc (k := 0) (lv2 := [(4, .int (iI 1)), (3, .int (iI 2)), (2, .int (iI (f_deg N))), (0, .ref x), (1, .int (iI (-1)))]) hx hb dX2_change_159 hl rfl (by decide) rfl (fun ls hl => ?_)
        refine lv_goto (tgt := 131) hx hb dX2_change_162 (by decide) ?_
        refine lv_iload hx hb dX2_change_131 (lv_at hl 0 rfl) ?_
        refine lv_iload_n hx hb dX2_change_133 rfl (lv_at hl 1 rfl) ?_
        refine ix_icmp_lt (tgt := 165) hx hb dX2_change_134 (by decide) (by decide) (by decide) (fun _ => ?_) (fun c203 => absurd c203 (by decide))
        refine ix_iinc (k := 1) (lv2 := [(3, .int (iI 3)), (4, .int (iI 1)), (2, .int (iI (f_deg N))), (0, .ref x), (1, .int (iI (-1)))]) hx hb dX2_change_165 hl rfl (by decide) rfl (fun ls hl => ?_)
        refine lv_goto (tgt := 123) hx hb dX2_change_168 (by decide) ?_
        refine lv_iload_n hx hb dX2_change_123 rfl (lv_at hl 0 rfl) ?_
        refine ix_iconst (n := 4) hx hb dX2_change_124 ?_
        refine ix_icmp_ge (tgt := 171) hx hb dX2_change_125 (by decide) (by decide) (by decide) (fun c204 => absurd c204 (by decide)) (fun _ => ?_)
        refine ix_iconst (n := 3) hx hb dX2_change_128 ?_
        refine lv_istore (lv' := [(4, .int (iI 3)), (3, .int (iI 3)), (2, .int (iI (f_deg N))), (0, .ref x), (1, .int (iI (-1)))]) hx hb dX2_change_129 hl (by decide) rfl (fun ls hl => ?_)
        refine lv_iload hx hb dX2_change_131 (lv_at hl 0 rfl) ?_
        refine lv_iload_n hx hb dX2_change_133 rfl (lv_at hl 1 rfl) ?_
        refine ix_icmp_lt (tgt := 165) hx hb dX2_change_134 (by decide) (by decide) (by decide) (fun c205 => absurd c205 (by decide)) (fun _ => ?_)
        refine lv_aload_n hx hb dX2_change_137 rfl (lv_at hl 3 rfl) ?_
        refine va_get (D := (dC, dI)) (ci := 2) (v := .ref r) (C := RX2) (T := TX2) (N := 17) hx hb hw inX2 hown hK hP 0 rfl rfl 2 (by decide) (hw _ mA_383) (fun _ h9 => h9) rfl dX2_change_138 ?_
        refine lv_iload hx hb dX2_change_141 (lv_at hl 0 rfl) ?_
        refine lv_dup2_11 hx hb dX2_change_143 rfl rfl ?_
        refine ix_lald (k := 3) hx hb hK hP 2 1 rfl rfl (by decide) (by decide) (by decide) dX2_change_144 ?_
        refine lv_iload_n hx hb dX2_change_145 rfl (lv_at hl 4 rfl) ?_
        refine ix_i2l hx hb dX2_change_146 (by decide) ?_
        refine lv_aload_n hx hb dX2_change_147 rfl (lv_at hl 3 rfl) ?_
        refine va_get (D := (dC, dI)) (ci := 2) (v := .ref r) (C := RX2) (T := TX2) (N := 17) hx hb hw inX2 hown hK hP 0 rfl rfl 2 (by decide) (hw _ mA_383) (fun _ h9 => h9) rfl dX2_change_148 ?_
        refine lv_iload hx hb dX2_change_151 (lv_at hl 0 rfl) ?_
        refine ix_iconst (n := 1) hx hb dX2_change_153 ?_
        refine ix_iadd hx hb dX2_change_154 ?_
        refine ix_z (y := 4) rfl ?_
        refine ix_lald (k := 4) hx hb hK hP 2 1 rfl rfl (by decide) (by decide) (by decide) dX2_change_155 ?_
        refine ix_lmul hx hb dX2_change_156 ?_
        refine ix_ladd hx hb dX2_change_157 ?_
        refine ix_last (k := 3) (x := ((shs (-1) 2 (shs (-1) 3 (shs (-1) 1 (shs (-1) 2 (shs (-1) 3 (shs (-1) 0 (shs (-1) 1 (shs (-1) 2 (shs (-1) 3 N))))))))) 3) + ((-1) * ((shs (-1) 2 (shs (-1) 3 (shs (-1) 1 (shs (-1) 2 (shs (-1) 3 (shs (-1) 0 (shs (-1) 1 (shs (-1) 2 (shs (-1) 3 N))))))))) 4))) hx hb hK hP hD hS 2 1 rfl rfl (by decide) (by decide) (by decide) dX2_change_158 (fun H locs hP hD hS => ?_)
        have hP : va_P (dC, dI) vwCl [(x, .inr (2, [.int (iI 0), .ref n, .ref r, .ref d, .int (iI cn), .int (iI fc), .ref ya, .ref yb, .ref yc, .ref yo, .long (lI (X 0)), .long (lI (X 1)), .long (lI (X 2)), .long (lI (X 3)), .long (lI (X 4)), .long (lI (X 5)), .long (lI (X 6))])), (n, .inl (cI, 5, .inl (aI N))), (r, .inl (cJ, 5, .inr (.inl (aL (iu (shs (-1) 2 (shs (-1) 3 (shs (-1) 1 (shs (-1) 2 (shs (-1) 3 (shs (-1) 0 (shs (-1) 1 (shs (-1) 2 (shs (-1) 3 N))))))))) 3 (((shs (-1) 2 (shs (-1) 3 (shs (-1) 1 (shs (-1) 2 (shs (-1) 3 (shs (-1) 0 (shs (-1) 1 (shs (-1) 2 (shs (-1) 3 N))))))))) 3) + ((-1) * ((shs (-1) 2 (shs (-1) 3 (shs (-1) 1 (shs (-1) 2 (shs (-1) 3 (shs (-1) 0 (shs (-1) 1 (shs (-1) 2 (shs (-1) 3 N))))))))) 4))))))))] H := hP
        have hD : va_D A [(x, .inr (2, [.int (iI 0), .ref n, .ref r, .ref d, .int (iI cn), .int (iI fc), .ref ya, .ref yb, .ref yc, .ref yo, .long (lI (X 0)), .long (lI (X 1)), .long (lI (X 2)), .long (lI (X 3)), .long (lI (X 4)), .long (lI (X 5)), .long (lI (X 6))])), (n, .inl (cI, 5, .inl (aI N))), (r, .inl (cJ, 5, .inr (.inl (aL (iu (shs (-1) 2 (shs (-1) 3 (shs (-1) 1 (shs (-1) 2 (shs (-1) 3 (shs (-1) 0 (shs (-1) 1 (shs (-1) 2 (shs (-1) 3 N))))))))) 3 (((shs (-1) 2 (shs (-1) 3 (shs (-1) 1 (shs (-1) 2 (shs (-1) 3 (shs (-1) 0 (shs (-1) 1 (shs (-1) 2 (shs (-1) 3 N))))))))) 3) + ((-1) * ((shs (-1) 2 (shs (-1) 3 (shs (-1) 1 (shs (-1) 2 (shs (-1) 3 (shs (-1) 0 (shs (-1) 1 (shs (-1) 2 (shs (-1) 3 N))))))))) 4))))))))] := hD
        have hP : va_P (dC, dI) vwCl [(x, .inr (2, [.int (iI 0), .ref n, .ref r, .ref d, .int (iI cn), .int (iI fc), .ref ya, .ref yb, .ref yc, .ref yo, .long (lI (X 0)), .long (lI (X 1)), .long (lI (X 2)), .long (lI (X 3)), .long (lI (X 4)), .long (lI (X 5)), .long (lI (X 6))])), (n, .inl (cI, 5, .inl (aI N))), (r, .inl (cJ, 5, .inr (.inl (aL (shs (-1) 3 (shs (-1) 2 (shs (-1) 3 (shs (-1) 1 (shs (-1) 2 (shs (-1) 3 (shs (-1) 0 (shs (-1) 1 (shs (-1) 2 (shs (-1) 3 N))))))))))))))] H := hP
        have hD : va_D A [(x, .inr (2, [.int (iI 0), .ref n, .ref r, .ref d, .int (iI cn), .int (iI fc), .ref ya, .ref yb, .ref yc, .ref yo, .long (lI (X 0)), .long (lI (X 1)), .long (lI (X 2)), .long (lI (X 3)), .long (lI (X 4)), .long (lI (X 5)), .long (lI (X 6))])), (n, .inl (cI, 5, .inl (aI N))), (r, .inl (cJ, 5, .inr (.inl (aL (shs (-1) 3 (shs (-1) 2 (shs (-1) 3 (shs (-1) 1 (shs (-1) 2 (shs (-1) 3 (shs (-1) 0 (shs (-1) 1 (shs (-1) 2 (shs (-1) 3 N))))))))))))))] := hD
        refine ix_iinc (k := 0) (lv2 := [(4, .int (iI 2)), (3, .int (iI 3)), (2, .int (iI (f_deg N))), (0, .ref x), (1, .int (iI (-1)))]) hx hb dX2_change_159 hl rfl (by decide) rfl (fun ls hl => ?_)
        refine lv_goto (tgt := 131) hx hb dX2_change_162 (by decide) ?_
        refine lv_iload hx hb dX2_change_131 (lv_at hl 0 rfl) ?_
        refine lv_iload_n hx hb dX2_change_133 rfl (lv_at hl 1 rfl) ?_
        refine ix_icmp_lt (tgt := 165) hx hb dX2_change_134 (by decide) (by decide) (by decide) (fun _ => ?_) (fun c206 => absurd c206 (by decide))
        refine ix_iinc (k := 1) (lv2 := [(3, .int (iI 4)), (4, .int (iI 2)), (2, .int (iI (f_deg N))), (0, .ref x), (1, .int (iI (-1)))]) hx hb dX2_change_165 hl rfl (by decide) rfl (fun ls hl => ?_)
        refine lv_goto (tgt := 123) hx hb dX2_change_168 (by decide) ?_
        refine lv_iload_n hx hb dX2_change_123 rfl (lv_at hl 0 rfl) ?_
        refine ix_iconst (n := 4) hx hb dX2_change_124 ?_
        refine ix_icmp_ge (tgt := 171) hx hb dX2_change_125 (by decide) (by decide) (by decide) (fun _ => ?_) (fun c207 => absurd c207 (by decide))
        have e8 : shs (-1) 3 (shs (-1) 2 (shs (-1) 3 (shs (-1) 1 (shs (-1) 2 (shs (-1) 3 (shs (-1) 0 (shs (-1) 1 (shs (-1) 2 (shs (-1) 3 N))))))))) = f_chg N (-1) (f_deg N) := (chg_s N (f_deg N) (by decide) (by decide)).symm
        rw [e8] at hP hD
        exact lp_chT h5 hdeg hh hA hnb ⟨hx, hb, hr, hml, hown, hw, hlocks⟩ 1 (f_chg N (-1) (f_deg N)) rfl (chg_5 h5 (by omega)) (chg_b hh hN) (by decide) _ _ hK hP hD hS ls (lv_sub hl [3, 4, 2] rfl)
    · refine ix_iconst (n := 0) hx hb dX2_change_39 ?_
      have ek : f_cok N how = 0 := if_pos (by omega)
      have en : f_cnew N how = N := if_pos ek
      have hP : va_P (dC, dI) vwCl [(x, .inr (2, [.int (iI 0), .ref n, .ref r, .ref d, .int (iI cn), .int (iI fc), .ref ya, .ref yb, .ref yc, .ref yo, .long (lI (X 0)), .long (lI (X 1)), .long (lI (X 2)), .long (lI (X 3)), .long (lI (X 4)), .long (lI (X 5)), .long (lI (X 6))])), (n, .inl (cI, 5, .inl (aI (f_cnew N how)))), (r, .inl (cJ, 5, .inr (.inl (aL R))))] H := by rw [en]; exact hP
      have hD : va_D A [(x, .inr (2, [.int (iI 0), .ref n, .ref r, .ref d, .int (iI cn), .int (iI fc), .ref ya, .ref yb, .ref yc, .ref yo, .long (lI (X 0)), .long (lI (X 1)), .long (lI (X 2)), .long (lI (X 3)), .long (lI (X 4)), .long (lI (X 5)), .long (lI (X 6))])), (n, .inl (cI, 5, .inl (aI (f_cnew N how)))), (r, .inl (cJ, 5, .inr (.inl (aL R))))] := by rw [en]; exact hD
      have hP9 := hP.sub (ws' := [(x, .inr (2, [.int (iI 0), .ref n, .ref r, .ref d, .int (iI cn), .int (iI fc), .ref ya, .ref yb, .ref yc, .ref yo, .long (lI (X 0)), .long (lI (X 1)), .long (lI (X 2)), .long (lI (X 3)), .long (lI (X 4)), .long (lI (X 5)), .long (lI (X 6))])), (n, .inl (cI, 5, .inl (aI (f_cnew N how)))), (r, .inl (cJ, 5, .inr (.inl (aL R))))]) [0, 1, 2] rfl
      have hD9 := hD.sub (ws' := [(x, .inr (2, [.int (iI 0), .ref n, .ref r, .ref d, .int (iI cn), .int (iI fc), .ref ya, .ref yb, .ref yc, .ref yo, .long (lI (X 0)), .long (lI (X 1)), .long (lI (X 2)), .long (lI (X 3)), .long (lI (X 4)), .long (lI (X 5)), .long (lI (X 6))])), (n, .inl (cI, 5, .inl (aI (f_cnew N how)))), (r, .inl (cJ, 5, .inr (.inl (aL R))))]) [0, 1, 2] (by decide) rfl
      have hK9 := hK.sub (tys' := [(cI, .int), (cJ, .long)]) [0, 1] rfl
      exact W.zret (v := iI 0) hx hb hr (by decide) (fun t ht hW => ⟨⟨iI 0, (0, f_cnew N how, R), rfl, ⟨hR5, Or.inr ⟨by omega, rfl, rfl, by rw [ek]⟩⟩, by rw [ht]; exact hP9, va_K.moved hW.alike hK9, hD9⟩, hS.F ht⟩) hS.2.2 dX2_change_40
