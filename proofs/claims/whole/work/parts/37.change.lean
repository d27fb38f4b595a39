def shs (y j : Int) (D : Int → Int) : Int → Int := iu D j (D j + y * D (j + 1))
def f_shift (y : Int) (D : Int → Int) : Int → Int := shs y 3 (shs y 2 (shs y 3 (shs y 1 (shs y 2 (shs y 3 (shs y 0 (shs y 1 (shs y 2 (shs y 3 D)))))))))
theorem shs_b {y j M : Int} {D : Int → Int} (hM : 0 ≤ M) (hy : -1 ≤ y ∧ y ≤ 1) (h : ∀ i, -M ≤ D i ∧ D i ≤ M) : ∀ i, -(2 * M) ≤ shs y j D i ∧ shs y j D i ≤ 2 * M := by
  intro i
  have h1 := h j
  have h2 := h (j + 1)
  have h3 := h i
  have h4 := mul_in (x := y) (y := D (j + 1)) (A := 1) (B := M) hy h2 (by decide) hM
  unfold shs iu
  split
  · omega
  · omega
theorem shift_b {y : Int} {D : Int → Int} (hy : -1 ≤ y ∧ y ≤ 1) (h : ∀ i, -20 ≤ D i ∧ D i ≤ 20) : ∀ i, -20480 ≤ f_shift y D i ∧ f_shift y D i ≤ 20480 := by
  have h1 := shs_b (j := 3) (M := 20) (by decide) hy h
  have h2 := shs_b (j := 2) (by decide) hy h1
  have h3 := shs_b (j := 1) (by decide) hy h2
  have h4 := shs_b (j := 0) (by decide) hy h3
  have h5 := shs_b (j := 3) (by decide) hy h4
  have h6 := shs_b (j := 2) (by decide) hy h5
  have h7 := shs_b (j := 1) (by decide) hy h6
  have h8 := shs_b (j := 3) (by decide) hy h7
  have h9 := shs_b (j := 2) (by decide) hy h8
  have h10 := shs_b (j := 3) (by decide) hy h9
  exact h10
theorem shs_5 {y j : Int} {D : Int → Int} (h : n5 D) (h0 : 0 ≤ j) (h4 : j ≤ 4) : n5 (shs y j D) := n5_iu h h0 h4
theorem shift_5 {y : Int} {D : Int → Int} (h : n5 D) : n5 (f_shift y D) :=
  shs_5 (shs_5 (shs_5 (shs_5 (shs_5 (shs_5 (shs_5 (shs_5 (shs_5 (shs_5 h (by decide) (by decide)) (by decide) (by decide)) (by decide) (by decide)) (by decide) (by decide)) (by decide) (by decide)) (by decide) (by decide)) (by decide) (by decide)) (by decide) (by decide)) (by decide) (by decide)) (by decide) (by decide)
def f_chg (N : Int → Int) (how g : Int) : Int → Int := if how = 2 then (fun j => if 0 ≤ j ∧ j ≤ g then N (g - j) else N j) else if how = 0 then (fun j => if j = 1 ∨ j = 3 then -(N j) else N j) else f_shift how N
theorem chg_2 (N : Int → Int) (g : Int) : f_chg N 2 g = fun j => if 0 ≤ j ∧ j ≤ g then N (g - j) else N j := if_pos rfl
theorem chg_0 (N : Int → Int) (g : Int) : f_chg N 0 g = fun j => if j = 1 ∨ j = 3 then -(N j) else N j := by unfold f_chg; rw [if_neg (by decide), if_pos rfl]
theorem chg_s (N : Int → Int) {how : Int} (g : Int) (h2 : ¬ how = 2) (h0 : ¬ how = 0) : f_chg N how g = f_shift how N := by unfold f_chg; rw [if_neg h2, if_neg h0]
theorem chg_5 {N : Int → Int} {how g : Int} (h : n5 N) (hg : g ≤ 4) : n5 (f_chg N how g) := by
  intro j hj
  by_cases h2 : how = 2
  · subst h2; rw [chg_2]; show (if 0 ≤ j ∧ j ≤ g then N (g - j) else N j) = 0; rw [if_neg (by omega)]; exact h j hj
  · by_cases h0 : how = 0
    · subst h0; rw [chg_0]; show (if j = 1 ∨ j = 3 then -(N j) else N j) = 0; rw [if_neg (by omega)]; exact h j hj
    · rw [chg_s N g h2 h0]; exact shift_5 h j hj
theorem chg_b {N : Int → Int} {how g : Int} (hh : -1 ≤ how ∧ how ≤ 2) (h : ∀ j, -20 ≤ N j ∧ N j ≤ 20) : ∀ j, -20480 ≤ f_chg N how g j ∧ f_chg N how g j ≤ 20480 := by
  intro j
  by_cases h2 : how = 2
  · subst h2; rw [chg_2]; show _ ≤ (if 0 ≤ j ∧ j ≤ g then N (g - j) else N j) ∧ (if 0 ≤ j ∧ j ≤ g then N (g - j) else N j) ≤ _; have := h j; have := h (g - j); split <;> omega
  · by_cases h0 : how = 0
    · subst h0; rw [chg_0]; show _ ≤ (if j = 1 ∨ j = 3 then -(N j) else N j) ∧ (if j = 1 ∨ j = 3 then -(N j) else N j) ≤ _; have := h j; split <;> omega
    · rw [chg_s N g h2 h0]; exact shift_b (by omega) h j
def f_all (M : Int → Int) : Int := if (-20 ≤ M 0 ∧ M 0 ≤ 20) ∧ (-20 ≤ M 1 ∧ M 1 ≤ 20) ∧ (-20 ≤ M 2 ∧ M 2 ≤ 20) ∧ (-20 ≤ M 3 ∧ M 3 ≤ 20) ∧ (-20 ≤ M 4 ∧ M 4 ≤ 20) then 1 else 0
/-- what change comes to: the new numbers, and whether it took place -/
def f_cok (N : Int → Int) (how : Int) : Int := if f_deg N < 0 then 0 else f_all (f_chg N how (f_deg N))
def f_cnew (N : Int → Int) (how : Int) : Int → Int := if f_cok N how = 0 then N else f_chg N how (f_deg N)
theorem all_j {M : Int → Int} (h5 : n5 M) (h : f_all M = 1) : ∀ j, -20 ≤ M j ∧ M j ≤ 20 := by
  intro j
  unfold f_all at h
  split at h
  · rename_i q
    obtain ⟨q0, q1, q2, q3, q4⟩ := q
    by_cases c : 0 ≤ j ∧ j ≤ 4
    · rcases (show j = 0 ∨ j = 1 ∨ j = 2 ∨ j = 3 ∨ j = 4 by omega) with rfl | rfl | rfl | rfl | rfl <;> assumption
    · rw [h5 j (by omega)]; decide
  · exact absurd h (by decide)
theorem CI_new {N M R D D2 : Int → Int} {cn fc sp : Int} {Fs : Int → Int → Int} (h : CI N R D cn fc sp Fs) (h5 : n5 M) (hj : ∀ j, -20 ≤ M j ∧ M j ≤ 20) (hD : n5 D2) : CI M R D2 cn fc 0 Fs := ⟨h5, hj, h.2.2.1, hD, h.2.2.2.2.1, Or.inl rfl⟩
theorem CI_d {N R D D2 : Int → Int} {cn fc sp : Int} {Fs : Int → Int → Int} (h : CI N R D cn fc sp Fs) (hD : n5 D2) : CI N R D2 cn fc sp Fs := ⟨h.1, h.2.1, h.2.2.1, hD, h.2.2.2.2.1, h.2.2.2.2.2⟩
set_option maxHeartbeats 4000000 in
set_option maxRecDepth 100000 in
/-- the numbers shifted -/
theorem kX1_draftShift (l : Launch) (dC : Nat → ClassId) (dI : Nat → Nat → Nat) (sz : Nat) (h n r d f : Nat) (cI : ClassId) (fc cn sp : Int) (D : Int → Int) (y : Int) : Met l yX1_draftShift (.code yX1_draftShift cX1_draftShift 4 none :: wsA) ({ frames := 0, cells := 0, slots := 0, locals := 0 }) (va_Pc [.ref h, .int (iI y)] (fun U => U.heap.size = sz ∧ va_P (dC, dI) vwCl [(h, .inr (1, [.ref n, .ref r, .ref d, .ref f, .int (iI fc), .int (iI cn), .int (iI sp)])), (d, .inl (cI, 5, .inl (aI D)))] U.heap ∧ va_K (dC, dI) vwCl [(cI, .int)] U ∧ va_D (fun _ => True) [(h, .inr (1, [.ref n, .ref r, .ref d, .ref f, .int (iI fc), .int (iI cn), .int (iI sp)])), (d, .inl (cI, 5, .inl (aI D)))] ∧ nb U)) (va_Qv (fun _ => True) (fun (u : Unit) t9 => va_P (dC, dI) vwCl [(h, .inr (1, [.ref n, .ref r, .ref d, .ref f, .int (iI fc), .int (iI cn), .int (iI sp)])), (d, .inl (cI, 5, .inl (aI (f_shift y D))))] t9.heap ∧ va_K (dC, dI) vwCl [(cI, .int)] t9 ∧ va_D (va_A [(h, .inr (1, [.ref n, .ref r, .ref d, .ref f, .int (iI fc), .int (iI cn), .int (iI sp)])), (d, .inl (cI, 5, .inl (aI D)))] sz) [(h, .inr (1, [.ref n, .ref r, .ref d, .ref f, .int (iI fc), .int (iI cn), .int (iI sp)])), (d, .inl (cI, 5, .inl (aI (f_shift y D))))]) (va_A [(h, .inr (1, [.ref n, .ref r, .ref d, .ref f, .int (iI fc), .int (iI cn), .int (iI sp)])), (d, .inl (cI, 5, .inl (aI D)))] sz)) 0 0 (va_A [(h, .inr (1, [.ref n, .ref r, .ref d, .ref f, .int (iI fc), .int (iI cn), .int (iI sp)])), (d, .inl (cI, 5, .inl (aI D)))] sz) := by
  refine Met.ofW (cc := cX1_draftShift) (maxL := 4) (ret := none) (by decide) rfl ?_
  intro p e s m args below meth c s₁ B hml hv
  obtain ⟨rfl, hsz, hP, hK, hD0, hnb⟩ := hv
  have hx := B.exec
  have hb := B.bytes
  have hr := B.returns
  have hts := atoms_spec (ws := .code yX1_draftShift cX1_draftShift 4 none :: wsA) B.pre
  have hw : ∀ w ∈ wsA, w.before _ s = true := fun w h => hts w (List.mem_cons_of_mem _ h)
  have hown : s.vm.findClass RX1 = some m.cls := findClass_of_methodNamed B.named
  have hlocks := B.notSynchronized
  subst hsz
  have hD := hD0.self (sz := s.heap.size)
  generalize hAe : va_A [(h, .inr (1, [.ref n, .ref r, .ref d, .ref f, .int (iI fc), .int (iI cn), .int (iI sp)])), (d, .inl (cI, 5, .inl (aI D)))] s.heap.size = A at hD ⊢
  have hA : ∀ q : Nat, s.heap.size ≤ q → A q := fun q h => by rw [← hAe]; exact Or.inr h
  have hS : va_S A s.heap s.heap [] := va_S.rf
  have hP : va_P (dC, dI) vwCl [(h, .inr (1, [.ref n, .ref r, .ref d, .ref f, .int (iI fc), .int (iI cn), .int (iI sp)])), (d, .inl (cI, 5, .inl (aI D)))] s.heap := hP
  have hl := lv_entry ([.ref h, .int (iI y)]) (n := 4) (Nat.le_of_ble_eq_true rfl)
  rw [lg_entry_eq]
  generalize (lg_sl ([.ref h, .int (iI y)]) ++ List.replicate (4 - (lg_sl ([.ref h, .int (iI y)])).length) Slot.unset).toArray = ls at hl ⊢
  have hl : lv_has ls 4 [(0, .ref h), (1, .int (iI y))] := hl
  refine ix_iconst (n := 0) hx hb dX1_draftShift_0 ?_
  refine lv_istore_n (lv' := [(2, .int (iI 0)), (0, .ref h), (1, .int (iI y))]) hx hb dX1_draftShift_1 rfl hl (by decide) rfl (fun ls hl => ?_)
  refine lv_iload_n hx hb dX1_draftShift_2 rfl (lv_at hl 0 rfl) ?_
  refine ix_iconst (n := 4) hx hb dX1_draftShift_3 ?_
  refine ix_icmp_ge (tgt := 45) hx hb dX1_draftShift_4 (by decide) (by decide) (by decide) (fun c1 => absurd c1 (by decide)) (fun _ => ?_)
  refine ix_iconst (n := 3) hx hb dX1_draftShift_7 ?_
  refine lv_istore_n (lv' := [(3, .int (iI 3)), (2, .int (iI 0)), (0, .ref h), (1, .int (iI y))]) hx hb dX1_draftShift_8 rfl hl (by decide) rfl (fun ls hl => ?_)
  refine lv_iload_n hx hb dX1_draftShift_9 rfl (lv_at hl 0 rfl) ?_
  refine lv_iload_n hx hb dX1_draftShift_10 rfl (lv_at hl 1 rfl) ?_
  refine ix_icmp_lt (tgt := 39) hx hb dX1_draftShift_11 (by decide) (by decide) (by decide) (fun c2 => absurd c2 (by decide)) (fun _ => ?_)
  refine lv_aload_n hx hb dX1_draftShift_14 rfl (lv_at hl 2 rfl) ?_
  refine va_get (D := (dC, dI)) (ci := 1) (v := .ref d) (C := RX1) (T := TX1) (N := 7) hx hb hw inX1 hown hK hP 0 rfl rfl 2 (by decide) (hw _ mA_55) (fun _ h9 => h9) rfl dX1_draftShift_15 ?_
  refine lv_iload_n hx hb dX1_draftShift_18 rfl (lv_at hl 0 rfl) ?_
  refine lv_dup2_11 hx hb dX1_draftShift_19 rfl rfl ?_
  refine ix_iald (k := 3) hx hb hK hP 1 0 rfl rfl (by decide) (by decide) (by decide) dX1_draftShift_20 ?_
  refine lv_iload_n hx hb dX1_draftShift_21 rfl (lv_at hl 3 rfl) ?_
  refine lv_aload_n hx hb dX1_draftShift_22 rfl (lv_at hl 2 rfl) ?_
  refine va_get (D := (dC, dI)) (ci := 1) (v := .ref d) (C := RX1) (T := TX1) (N := 7) hx hb hw inX1 hown hK hP 0 rfl rfl 2 (by decide) (hw _ mA_55) (fun _ h9 => h9) rfl dX1_draftShift_23 ?_
  refine lv_iload_n hx hb dX1_draftShift_26 rfl (lv_at hl 0 rfl) ?_
  refine ix_iconst (n := 1) hx hb dX1_draftShift_27 ?_
  refine ix_iadd hx hb dX1_draftShift_28 ?_
  refine ix_z (y := 4) rfl ?_
  refine ix_iald (k := 4) hx hb hK hP 1 0 rfl rfl (by decide) (by decide) (by decide) dX1_draftShift_29 ?_
  refine ix_imul hx hb dX1_draftShift_30 ?_
  refine ix_iadd hx hb dX1_draftShift_31 ?_
  refine ix_iast (k := 3) (x := (D 3) + (y * (D 4))) hx hb hK hP hD hS 1 0 rfl rfl (by decide) (by decide) (by decide) dX1_draftShift_32 (fun H locs hP hD hS => ?_)
  have hP : va_P (dC, dI) vwCl [(h, .inr (1, [.ref n, .ref r, .ref d, .ref f, .int (iI fc), .int (iI cn), .int (iI sp)])), (d, .inl (cI, 5, .inl (aI (iu D 3 ((D 3) + (y * (D 4)))))))] H := hP
  have hD : va_D A [(h, .inr (1, [.ref n, .ref r, .ref d, .ref f, .int (iI fc), .int (iI cn), .int (iI sp)])), (d, .inl (cI, 5, .inl (aI (iu D 3 ((D 3) + (y * (D 4)))))))] := hD
  have hP : va_P (dC, dI) vwCl [(h, .inr (1, [.ref n, .ref r, .ref d, .ref f, .int (iI fc), .int (iI cn), .int (iI sp)])), (d, .inl (cI, 5, .inl (aI (shs y 3 D))))] H := hP
  have hD : va_D A [(h, .inr (1, [.ref n, .ref r, .ref d, .ref f, .int (iI fc), .int (iI cn), .int (iI sp)])), (d, .inl (cI, 5, .inl (aI (shs y 3 D))))] := hD
  refine ix_iinc (k := 0) (lv2 := [(3, .int (iI 2)), (2, .int (iI 0)), (0, .ref h), (1, .int (iI y))]) hx hb dX1_draftShift_33 hl rfl (by decide) rfl (fun ls hl => ?_)
  refine lv_goto (tgt := 9) hx hb dX1_draftShift_36 (by decide) ?_
  refine lv_iload_n hx hb dX1_draftShift_9 rfl (lv_at hl 0 rfl) ?_
  refine lv_iload_n hx hb dX1_draftShift_10 rfl (lv_at hl 1 rfl) ?_
  refine ix_icmp_lt (tgt := 39) hx hb dX1_draftShift_11 (by decide) (by decide) (by decide) (fun c3 => absurd c3 (by decide)) (fun _ => ?_)
  refine lv_aload_n hx hb dX1_draftShift_14 rfl (lv_at hl 2 rfl) ?_
  refine va_get (D := (dC, dI)) (ci := 1) (v := .ref d) (C := RX1) (T := TX1) (N := 7) hx hb hw inX1 hown hK hP 0 rfl rfl 2 (by decide) (hw _ mA_55) (fun _ h9 => h9) rfl dX1_draftShift_15 ?_
  refine lv_iload_n hx hb dX1_draftShift_18 rfl (lv_at hl 0 rfl) ?_
  refine lv_dup2_11 hx hb dX1_draftShift_19 rfl rfl ?_
  refine ix_iald (k := 2) hx hb hK hP 1 0 rfl rfl (by decide) (by decide) (by decide) dX1_draftShift_20 ?_
  refine lv_iload_n hx hb dX1_draftShift_21 rfl (lv_at hl 3 rfl) ?_
  refine lv_aload_n hx hb dX1_draftShift_22 rfl (lv_at hl 2 rfl) ?_
  refine va_get (D := (dC, dI)) (ci := 1) (v := .ref d) (C := RX1) (T := TX1) (N := 7) hx hb hw inX1 hown hK hP 0 rfl rfl 2 (by decide) (hw _ mA_55) (fun _ h9 => h9) rfl dX1_draftShift_23 ?_
  refine lv_iload_n hx hb dX1_draftShift_26 rfl (lv_at hl 0 rfl) ?_
  refine ix_iconst (n := 1) hx hb dX1_draftShift_27 ?_
  refine ix_iadd hx hb dX1_draftShift_28 ?_
  refine ix_z (y := 3) rfl ?_
  refine ix_iald (k := 3) hx hb hK hP 1 0 rfl rfl (by decide) (by decide) (by decide) dX1_draftShift_29 ?_
  refine ix_imul hx hb dX1_draftShift_30 ?_
  refine ix_iadd hx hb dX1_draftShift_31 ?_
  refine ix_iast (k := 2) (x := ((shs y 3 D) 2) + (y * ((shs y 3 D) 3))) hx hb hK hP hD hS 1 0 rfl rfl (by decide) (by decide) (by decide) dX1_draftShift_32 (fun H locs hP hD hS => ?_)
  have hP : va_P (dC, dI) vwCl [(h, .inr (1, [.ref n, .ref r, .ref d, .ref f, .int (iI fc), .int (iI cn), .int (iI sp)])), (d, .inl (cI, 5, .inl (aI (iu (shs y 3 D) 2 (((shs y 3 D) 2) + (y * ((shs y 3 D) 3)))))))] H := hP
  have hD : va_D A [(h, .inr (1, [.ref n, .ref r, .ref d, .ref f, .int (iI fc), .int (iI cn), .int (iI sp)])), (d, .inl (cI, 5, .inl (aI (iu (shs y 3 D) 2 (((shs y 3 D) 2) + (y * ((shs y 3 D) 3)))))))] := hD
  have hP : va_P (dC, dI) vwCl [(h, .inr (1, [.ref n, .ref r, .ref d, .ref f, .int (iI fc), .int (iI cn), .int (iI sp)])), (d, .inl (cI, 5, .inl (aI (shs y 2 (shs y 3 D)))))] H := hP
  have hD : va_D A [(h, .inr (1, [.ref n, .ref r, .ref d, .ref f, .int (iI fc), .int (iI cn), .int (iI sp)])), (d, .inl (cI, 5, .inl (aI (shs y 2 (shs y 3 D)))))] := hD
  refine ix_iinc (k := 0) (lv2 := [(3, .int (iI 1)), (2, .int (iI 0)), (0, .ref h), (1, .int (iI y))]) hx hb dX1_draftShift_33 hl rfl (by decide) rfl (fun ls hl => ?_)
  refine lv_goto (tgt := 9) hx hb dX1_draftShift_36 (by decide) ?_
  refine lv_iload_n hx hb dX1_draftShift_9 rfl (lv_at hl 0 rfl) ?_
  refine lv_iload_n hx hb dX1_draftShift_10 rfl (lv_at hl 1 rfl) ?_
  refine ix_icmp_lt (tgt := 39) hx hb dX1_draftShift_11 (by decide) (by decide) (by decide) (fun c4 => absurd c4 (by decide)) (fun _ => ?_)
  refine lv_aload_n hx hb dX1_draftShift_14 rfl (lv_at hl 2 rfl) ?_
  refine va_get (D := (dC, dI)) (ci := 1) (v := .ref d) (C := RX1) (T := TX1) (N := 7) hx hb hw inX1 hown hK hP 0 rfl rfl 2 (by decide) (hw _ mA_55) (fun _ h9 => h9) rfl dX1_draftShift_15 ?_
  refine lv_iload_n hx hb dX1_draftShift_18 rfl (lv_at hl 0 rfl) ?_
  refine lv_dup2_11 hx hb dX1_draftShift_19 rfl rfl ?_
  refine ix_iald (k := 1) hx hb hK hP 1 0 rfl rfl (by decide) (by decide) (by decide) dX1_draftShift_20 ?_
  refine lv_iload_n hx hb dX1_draftShift_21 rfl (lv_at hl 3 rfl) ?_
  refine lv_aload_n hx hb dX1_draftShift_22 rfl (lv_at hl 2 rfl) ?_
  refine va_get (D := (dC, dI)) (ci := 1) (v := .ref d) (C := RX1) (T := TX1) (N := 7) hx hb hw inX1 hown hK hP 0 rfl rfl 2 (by decide) (hw _ mA_55) (fun _ h9 => h9) rfl dX1_draftShift_23 ?_
  refine lv_iload_n hx hb dX1_draftShift_26 rfl (lv_at hl 0 rfl) ?_
  refine ix_iconst (n := 1) hx hb dX1_draftShift_27 ?_
  refine ix_iadd hx hb dX1_draftShift_28 ?_
  refine ix_z (y := 2) rfl ?_
  refine ix_iald (k := 2) hx hb hK hP 1 0 rfl rfl (by decide) (by decide) (by decide) dX1_draftShift_29 ?_
  refine ix_imul hx hb dX1_draftShift_30 ?_
  refine ix_iadd hx hb dX1_draftShift_31 ?_
  refine ix_iast (k := 1) (x := ((shs y 2 (shs y 3 D)) 1) + (y * ((shs y 2 (shs y 3 D)) 2))) hx hb hK hP hD hS 1 0 rfl rfl (by decide) (by decide) (by decide) dX1_draftShift_32 (fun H locs hP hD hS => ?_)
  have hP : va_P (dC, dI) vwCl [(h, .inr (1, [.ref n, .ref r, .ref d, .ref f, .int (iI fc), .int (iI cn), .int (iI sp)])), (d, .inl (cI, 5, .inl (aI (iu (shs y 2 (shs y 3 D)) 1 (((shs y 2 (shs y 3 D)) 1) + (y * ((shs y 2 (shs y 3 D)) 2)))))))] H := hP
  have hD : va_D A [(h, .inr (1, [.ref n, .ref r, .ref d, .ref f, .int (iI fc), .int (iI cn), .int (iI sp)])), (d, .inl (cI, 5, .inl (aI (iu (shs y 2 (shs y 3 D)) 1 (((shs y 2 (shs y 3 D)) 1) + (y * ((shs y 2 (shs y 3 D)) 2)))))))] := hD
  have hP : va_P (dC, dI) vwCl [(h, .inr (1, [.ref n, .ref r, .ref d, .ref f, .int (iI fc), .int (iI cn), .int (iI sp)])), (d, .inl (cI, 5, .inl (aI (shs y 1 (shs y 2 (shs y 3 D))))))] H := hP
  have hD : va_D A [(h, .inr (1, [.ref n, .ref r, .ref d, .ref f, .int (iI fc), .int (iI cn), .int (iI sp)])), (d, .inl (cI, 5, .inl (aI (shs y 1 (shs y 2 (shs y 3 D))))))] := hD
  refine ix_iinc (k := 0) (lv2 := [(3, .int (iI 0)), (2, .int (iI 0)), (0, .ref h), (1, .int (iI y))]) hx hb dX1_draftShift_33 hl rfl (by decide) rfl (fun ls hl => ?_)
  refine lv_goto (tgt := 9) hx hb dX1_draftShift_36 (by decide) ?_
  refine lv_iload_n hx hb dX1_draftShift_9 rfl (lv_at hl 0 rfl) ?_
  refine lv_iload_n hx hb dX1_draftShift_10 rfl (lv_at hl 1 rfl) ?_
  refine ix_icmp_lt (tgt := 39) hx hb dX1_draftShift_11 (by decide) (by decide) (by decide) (fun c5 => absurd c5 (by decide)) (fun _ => ?_)
  refine lv_aload_n hx hb dX1_draftShift_14 rfl (lv_at hl 2 rfl) ?_
  refine va_get (D := (dC, dI)) (ci := 1) (v := .ref d) (C := RX1) (T := TX1) (N := 7) hx hb hw inX1 hown hK hP 0 rfl rfl 2 (by decide) (hw _ mA_55) (fun _ h9 => h9) rfl dX1_draftShift_15 ?_
  refine lv_iload_n hx hb dX1_draftShift_18 rfl (lv_at hl 0 rfl) ?_
  refine lv_dup2_11 hx hb dX1_draftShift_19 rfl rfl ?_
  refine ix_iald (k := 0) hx hb hK hP 1 0 rfl rfl (by decide) (by decide) (by decide) dX1_draftShift_20 ?_
  refine lv_iload_n hx hb dX1_draftShift_21 rfl (lv_at hl 3 rfl) ?_
  refine lv_aload_n hx hb dX1_draftShift_22 rfl (lv_at hl 2 rfl) ?_
  refine va_get (D := (dC, dI)) (ci := 1) (v := .ref d) (C := RX1) (T := TX1) (N := 7) hx hb hw inX1 hown hK hP 0 rfl rfl 2 (by decide) (hw _ mA_55) (fun _ h9 => h9) rfl dX1_draftShift_23 ?_
  refine lv_iload_n hx hb dX1_draftShift_26 rfl (lv_at hl 0 rfl) ?_
  refine ix_iconst (n := 1) hx hb dX1_draftShift_27 ?_
  refine ix_iadd hx hb dX1_draftShift_28 ?_
  refine ix_z (y := 1) rfl ?_
  refine ix_iald (k := 1) hx hb hK hP 1 0 rfl rfl (by decide) (by decide) (by decide) dX1_draftShift_29 ?_
  refine ix_imul hx hb dX1_draftShift_30 ?_
  refine ix_iadd hx hb dX1_draftShift_31 ?_
  refine ix_iast (k := 0) (x := ((shs y 1 (shs y 2 (shs y 3 D))) 0) + (y * ((shs y 1 (shs y 2 (shs y 3 D))) 1))) hx hb hK hP hD hS 1 0 rfl rfl (by decide) (by decide) (by decide) dX1_draftShift_32 (fun H locs hP hD hS => ?_)
  have hP : va_P (dC, dI) vwCl [(h, .inr (1, [.ref n, .ref r, .ref d, .ref f, .int (iI fc), .int (iI cn), .int (iI sp)])), (d, .inl (cI, 5, .inl (aI (iu (shs y 1 (shs y 2 (shs y 3 D))) 0 (((shs y 1 (shs y 2 (shs y 3 D))) 0) + (y * ((shs y 1 (shs y 2 (shs y 3 D))) 1)))))))] H := hP
  have hD : va_D A [(h, .inr (1, [.ref n, .ref r, .ref d, .ref f, .int (iI fc), .int (iI cn), .int (iI sp)])), (d, .inl (cI, 5, .inl (aI (iu (shs y 1 (shs y 2 (shs y 3 D))) 0 (((shs y 1 (shs y 2 (shs y 3 D))) 0) + (y * ((shs y 1 (shs y 2 (shs y 3 D))) 1)))))))] := hD
  have hP : va_P (dC, dI) vwCl [(h, .inr (1, [.ref n, .ref r, .ref d, .ref f, .int (iI fc), .int (iI cn), .int (iI sp)])), (d, .inl (cI, 5, .inl (aI (shs y 0 (shs y 1 (shs y 2 (shs y 3 D)))))))] H := hP
  have hD : va_D A [(h, .inr (1, [.ref n, .ref r, .ref d, .ref f, .int (iI fc), .int (iI cn), .int (iI sp)])), (d, .inl (cI, 5, .inl (aI (shs y 0 (shs y 1 (shs y 2 (shs y 3 D)))))))] := hD
  refine ix_iinc (k := 0) (lv2 := [(3, .int (iI (-1))), (2, .int (iI 0)), (0, .ref h), (1, .int (iI y))]) hx hb dX1_draftShift_33 hl rfl (by decide) rfl (fun ls hl => ?_)
  refine lv_goto (tgt := 9) hx hb dX1_draftShift_36 (by decide) ?_
  refine lv_iload_n hx hb dX1_draftShift_9 rfl (lv_at hl 0 rfl) ?_
  refine lv_iload_n hx hb dX1_draftShift_10 rfl (lv_at hl 1 rfl) ?_
  refine ix_icmp_lt (tgt := 39) hx hb dX1_draftShift_11 (by decide) (by decide) (by decide) (fun _ => ?_) (fun c6 => absurd c6 (by decide))
  refine ix_iinc (k := 1) (lv2 := [(2, .int (iI 1)), (3, .int (iI (-1))), (0, .ref h), (1, .int (iI y))]) hx hb dX1_draftShift_39 hl rfl (by decide) rfl (fun ls hl => ?_)
  refine lv_goto (tgt := 2) hx hb dX1_draftShift_42 (by decide) ?_
  refine lv_iload_n hx hb dX1_draftShift_2 rfl (lv_at hl 0 rfl) ?_
  refine ix_iconst (n := 4) hx hb dX1_draftShift_3 ?_
  refine ix_icmp_ge (tgt := 45) hx hb dX1_draftShift_4 (by decide) (by decide) (by decide) (fun c7 => absurd c7 (by decide)) (fun _ => ?_)
  refine ix_iconst (n := 3) hx hb dX1_draftShift_7 ?_
  refine lv_istore_n (lv' := [(3, .int (iI 3)), (2, .int (iI 1)), (0, .ref h), (1, .int (iI y))]) hx hb dX1_draftShift_8 rfl hl (by decide) rfl (fun ls hl => ?_)
  refine lv_iload_n hx hb dX1_draftShift_9 rfl (lv_at hl 0 rfl) ?_
  refine lv_iload_n hx hb dX1_draftShift_10 rfl (lv_at hl 1 rfl) ?_
  refine ix_icmp_lt (tgt := 39) hx hb dX1_draftShift_11 (by decide) (by decide) (by decide) (fun c8 => absurd c8 (by decide)) (fun _ => ?_)
  refine lv_aload_n hx hb dX1_draftShift_14 rfl (lv_at hl 2 rfl) ?_
  refine va_get (D := (dC, dI)) (ci := 1) (v := .ref d) (C := RX1) (T := TX1) (N := 7) hx hb hw inX1 hown hK hP 0 rfl rfl 2 (by decide) (hw _ mA_55) (fun _ h9 => h9) rfl dX1_draftShift_15 ?_
  refine lv_iload_n hx hb dX1_draftShift_18 rfl (lv_at hl 0 rfl) ?_
  refine lv_dup2_11 hx hb dX1_draftShift_19 rfl rfl ?_
  refine ix_iald (k := 3) hx hb hK hP 1 0 rfl rfl (by decide) (by decide) (by decide) dX1_draftShift_20 ?_
  refine lv_iload_n hx hb dX1_draftShift_21 rfl (lv_at hl 3 rfl) ?_
  refine lv_aload_n hx hb dX1_draftShift_22 rfl (lv_at hl 2 rfl) ?_
  refine va_get (D := (dC, dI)) (ci := 1) (v := .ref d) (C := RX1) (T := TX1) (N := 7) hx hb hw inX1 hown hK hP 0 rfl rfl 2 (by decide) (hw _ mA_55) (fun _ h9 => h9) rfl dX1_draftShift_23 ?_
  refine lv_iload_n hx hb dX1_draftShift_26 rfl (lv_at hl 0 rfl) ?_
  refine ix_iconst (n := 1) hx hb dX1_draftShift_27 ?_
  refine ix_iadd hx hb dX1_draftShift_28 ?_
  refine ix_z (y := 4) rfl ?_
  refine ix_iald (k := 4) hx hb hK hP 1 0 rfl rfl (by decide) (by decide) (by decide) dX1_draftShift_29 ?_
  refine ix_imul hx hb dX1_draftShift_30 ?_
  refine ix_iadd hx hb dX1_draftShift_31 ?_
  refine ix_iast (k := 3) (x := ((shs y 0 (shs y 1 (shs y 2 (shs y 3 D)))) 3) + (y * ((shs y 0 (shs y 1 (shs y 2 (shs y 3 D)))) 4))) hx hb hK hP hD hS 1 0 rfl rfl (by decide) (by decide) (by decide) dX1_draftShift_32 (fun H locs hP hD hS => ?_)
  have hP : va_P (dC, dI) vwCl [(h, .inr (1, [.ref n, .ref r, .ref d, .ref f, .int (iI fc), .int (iI cn), .int (iI sp)])), (d, .inl (cI, 5, .inl (aI (iu (shs y 0 (shs y 1 (shs y 2 (shs y 3 D)))) 3 (((shs y 0 (shs y 1 (shs y 2 (shs y 3 D)))) 3) + (y * ((shs y 0 (shs y 1 (shs y 2 (shs y 3 D)))) 4)))))))] H := hP
  have hD : va_D A [(h, .inr (1, [.ref n, .ref r, .ref d, .ref f, .int (iI fc), .int (iI cn), .int (iI sp)])), (d, .inl (cI, 5, .inl (aI (iu (shs y 0 (shs y 1 (shs y 2 (shs y 3 D)))) 3 (((shs y 0 (shs y 1 (shs y 2 (shs y 3 D)))) 3) + (y * ((shs y 0 (shs y 1 (shs y 2 (shs y 3 D)))) 4)))))))] := hD
  have hP : va_P (dC, dI) vwCl [(h, .inr (1, [.ref n, .ref r, .ref d, .ref f, .int (iI fc), .int (iI cn), .int (iI sp)])), (d, .inl (cI, 5, .inl (aI (shs y 3 (shs y 0 (shs y 1 (shs y 2 (shs y 3 D))))))))] H := hP
  have hD : va_D A [(h, .inr (1, [.ref n, .ref r, .ref d, .ref f, .int (iI fc), .int (iI cn), .int (iI sp)])), (d, .inl (cI, 5, .inl (aI (shs y 3 (shs y 0 (shs y 1 (shs y 2 (shs y 3 D))))))))] := hD
  refine ix_iinc (k := 0) (lv2 := [(3, .int (iI 2)), (2, .int (iI 1)), (0, .ref h), (1, .int (iI y))]) hx hb dX1_draftShift_33 hl rfl (by decide) rfl (fun ls hl => ?_)
  refine lv_goto (tgt := 9) hx hb dX1_draftShift_36 (by decide) ?_
  refine lv_iload_n hx hb dX1_draftShift_9 rfl (lv_at hl 0 rfl) ?_
  refine lv_iload_n hx hb dX1_draftShift_10 rfl (lv_at hl 1 rfl) ?_
  refine ix_icmp_lt (tgt := 39) hx hb dX1_draftShift_11 (by decide) (by decide) (by decide) (fun c9 => absurd c9 (by decide)) (fun _ => ?_)
  refine lv_aload_n hx hb dX1_draftShift_14 rfl (lv_at hl 2 rfl) ?_
  refine va_get (D := (dC, dI)) (ci := 1) (v := .ref d) (C := RX1) (T := TX1) (N := 7) hx hb hw inX1 hown hK hP 0 rfl rfl 2 (by decide) (hw _ mA_55) (fun _ h9 => h9) rfl dX1_draftShift_15 ?_
  refine lv_iload_n hx hb dX1_draftShift_18 rfl (lv_at hl 0 rfl) ?_
  refine lv_dup2_11 hx hb dX1_draftShift_19 rfl rfl ?_
  refine ix_iald (k := 2) hx hb hK hP 1 0 rfl rfl (by decide) (by decide) (by decide) dX1_draftShift_20 ?_
  refine lv_iload_n hx hb dX1_draftShift_21 rfl (lv_at hl 3 rfl) ?_
  refine lv_aload_n hx hb dX1_draftShift_22 rfl (lv_at hl 2 rfl) ?_
  refine va_get (D := (dC, dI)) (ci := 1) (v := .ref d) (C := RX1) (T := TX1) (N := 7) hx hb hw inX1 hown hK hP 0 rfl rfl 2 (by decide) (hw _ mA_55) (fun _ h9 => h9) rfl dX1_draftShift_23 ?_
  refine lv_iload_n hx hb dX1_draftShift_26 rfl (lv_at hl 0 rfl) ?_
  refine ix_iconst (n := 1) hx hb dX1_draftShift_27 ?_
  refine ix_iadd hx hb dX1_draftShift_28 ?_
  refine ix_z (y := 3) rfl ?_
  refine ix_iald (k := 3) hx hb hK hP 1 0 rfl rfl (by decide) (by decide) (by decide) dX1_draftShift_29 ?_
  refine ix_imul hx hb dX1_draftShift_30 ?_
  refine ix_iadd hx hb dX1_draftShift_31 ?_
  refine ix_iast (k := 2) (x := ((shs y 3 (shs y 0 (shs y 1 (shs y 2 (shs y 3 D))))) 2) + (y * ((shs y 3 (shs y 0 (shs y 1 (shs y 2 (shs y 3 D))))) 3))) hx hb hK hP hD hS 1 0 rfl rfl (by decide) (by decide) (by decide) dX1_draftShift_32 (fun H locs hP hD hS => ?_)
  have hP : va_P (dC, dI) vwCl [(h, .inr (1, [.ref n, .ref r, .ref d, .ref f, .int (iI fc), .int (iI cn), .int (iI sp)])), (d, .inl (cI, 5, .inl (aI (iu (shs y 3 (shs y 0 (shs y 1 (shs y 2 (shs y 3 D))))) 2 (((shs y 3 (shs y 0 (shs y 1 (shs y 2 (shs y 3 D))))) 2) + (y * ((shs y 3 (shs y 0 (shs y 1 (shs y 2 (shs y 3 D))))) 3)))))))] H := hP
  have hD : va_D A [(h, .inr (1, [.ref n, .ref r, .ref d, .ref f, .int (iI fc), .int (iI cn), .int (iI sp)])), (d, .inl (cI, 5, .inl (aI (iu (shs y 3 (shs y 0 (shs y 1 (shs y 2 (shs y 3 D))))) 2 (((shs y 3 (shs y 0 (shs y 1 (shs y 2 (shs y 3 D))))) 2) + (y * ((shs y 3 (shs y 0 (shs y 1 (shs y 2 (shs y 3 D))))) 3)))))))] := hD
  have hP : va_P (dC, dI) vwCl [(h, .inr (1, [.ref n, .ref r, .ref d, .ref f, .int (iI fc), .int (iI cn), .int (iI sp)])), (d, .inl (cI, 5, .inl (aI (shs y 2 (shs y 3 (shs y 0 (shs y 1 (shs y 2 (shs y 3 D)))))))))] H := hP
  have hD : va_D A [(h, .inr (1, [.ref n, .ref r, .ref d, .ref f, .int (iI fc), .int (iI cn), .int (iI sp)])), (d, .inl (cI, 5, .inl (aI (shs y 2 (shs y 3 (shs y 0 (shs y 1 (shs y 2 (shs y 3 D)))))))))] := hD
  refine ix_iinc (k := 0) (lv2 := [(3, .int (iI 1)), (2, .int (iI 1)), (0, .ref h), (1, .int (iI y))]) hx hb dX1_draftShift_33 hl rfl (by decide) rfl (fun ls hl => ?_)
  refine lv_goto (tgt := 9) hx hb dX1_draftShift_36 (by decide) ?_
  refine lv_iload_n hx hb dX1_draftShift_9 rfl (lv_at hl 0 rfl) ?_
  refine lv_iload_n hx hb dX1_draftShift_10 rfl (lv_at hl 1 rfl) ?_
  refine ix_icmp_lt (tgt := 39) hx hb dX1_draftShift_11 (by decide) (by decide) (by decide) (fun c10 => absurd c10 (by decide)) (fun _ => ?_)
  refine lv_aload_n hx hb dX1_draftShift_14 rfl (lv_at hl 2 rfl) ?_
  refine va_get (D := (dC, dI)) (ci := 1) (v := .ref d) (C := RX1) (T := TX1) (N := 7) hx hb hw inX1 hown hK hP 0 rfl rfl 2 (by decide) (hw _ mA_55) (fun _ h9 => h9) rfl dX1_draftShift_15 ?_
  refine lv_iload_n hx hb dX1_draftShift_18 rfl (lv_at hl 0 rfl) ?_
  refine lv_dup2_11 hx hb dX1_draftShift_19 rfl rfl ?_
  refine ix_iald (k := 1) hx hb hK hP 1 0 rfl rfl (by decide) (by decide) (by decide) dX1_draftShift_20 ?_
  refine lv_iload_n hx hb dX1_draftShift_21 rfl (lv_at hl 3 rfl) ?_
  refine lv_aload_n hx hb dX1_draftShift_22 rfl (lv_at hl 2 rfl) ?_
  refine va_get (D := (dC, dI)) (ci := 1) (v := .ref d) (C := RX1) (T := TX1) (N := 7) hx hb hw inX1 hown hK hP 0 rfl rfl 2 (by decide) (hw _ mA_55) (fun _ h9 => h9) rfl dX1_draftShift_23 ?_
  refine lv_iload_n hx hb dX1_draftShift_26 rfl (lv_at hl 0 rfl) ?_
  refine ix_iconst (n := 1) hx hb dX1_draftShift_27 ?_
  refine ix_iadd hx hb dX1_draftShift_28 ?_
  refine ix_z (y := 2) rfl ?_
  refine ix_iald (k := 2) hx hb hK hP 1 0 rfl rfl (by decide) (by decide) (by decide) dX1_draftShift_29 ?_
  refine ix_imul hx hb dX1_draftShift_30 ?_
  refine ix_iadd hx hb dX1_draftShift_31 ?_
  refine ix_iast (k := 1) (x := ((shs y 2 (shs y 3 (shs y 0 (shs y 1 (shs y 2 (shs y 3 D)))))) 1) + (y * ((shs y 2 (shs y 3 (shs y 0 (shs y 1 (shs y 2 (shs y 3 D)))))) 2))) hx hb hK hP hD hS 1 0 rfl rfl (by decide) (by decide) (by decide) dX1_draftShift_32 (fun H locs hP hD hS => ?_)
  have hP : va_P (dC, dI) vwCl [(h, .inr (1, [.ref n, .ref r, .ref d, .ref f, .int (iI fc), .int (iI cn), .int (iI sp)])), (d, .inl (cI, 5, .inl (aI (iu (shs y 2 (shs y 3 (shs y 0 (shs y 1 (shs y 2 (shs y 3 D)))))) 1 (((shs y 2 (shs y 3 (shs y 0 (shs y 1 (shs y 2 (shs y 3 D)))))) 1) + (y * ((shs y 2 (shs y 3 (shs y 0 (shs y 1 (shs y 2 (shs y 3 D)))))) 2)))))))] H := hP
  have hD : va_D A [(h, .inr (1, [.ref n, .ref r, .ref d, .ref f, .int (iI fc), .int (iI cn), .int (iI sp)])), (d, .inl (cI, 5, .inl (aI (iu (shs y 2 (shs y 3 (shs y 0 (shs y 1 (shs y 2 (shs y 3 D)))))) 1 (((shs y 2 (shs y 3 (shs y 0 (shs y 1 (shs y 2 (shs y 3 D)))))) 1) + (y * ((shs y 2 (shs y 3 (shs y 0 (shs y 1 (shs y 2 (shs y 3 D)))))) 2)))))))] := hD
  have hP : va_P (dC, dI) vwCl [(h, .inr (1, [.ref n, .ref r, .ref d, .ref f, .int (iI fc), .int (iI cn), .int (iI sp)])), (d, .inl (cI, 5, .inl (aI (shs y 1 (shs y 2 (shs y 3 (shs y 0 (shs y 1 (shs y 2 (shs y 3 D))))))))))] H := hP
  have hD : va_D A [(h, .inr (1, [.ref n, .ref r, .ref d, .ref f, .int (iI fc), .int (iI cn), .int (iI sp)])), (d, .inl (cI, 5, .inl (aI (shs y 1 (shs y 2 (shs y 3 (shs y 0 (shs y 1 (shs y 2 (shs y 3 D))))))))))] := hD
  refine ix_iinc (k := 0) (lv2 := [(3, .int (iI 0)), (2, .int (iI 1)), (0, .ref h), (1, .int (iI y))]) hx hb dX1_draftShift_33 hl rfl (by decide) rfl (fun ls hl => ?_)
  refine lv_goto (tgt := 9) hx hb dX1_draftShift_36 (by decide) ?_
  refine lv_iload_n hx hb dX1_draftShift_9 rfl (lv_at hl 0 rfl) ?_
  refine lv_iload_n hx hb dX1_draftShift_10 rfl (lv_at hl 1 rfl) ?_
  refine ix_icmp_lt (tgt := 39) hx hb dX1_draftShift_11 (by decide) (by decide) (by decide) (fun _ => ?_) (fun c11 => absurd c11 (by decide))
  refine ix_iinc (k := 1) (lv2 := [(2, .int (iI 2)), (3, .int (iI 0)), (0, .ref h), (1, .int (iI y))]) hx hb dX1_draftShift_39 hl rfl (by decide) rfl (fun ls hl => ?_)
  refine lv_goto (tgt := 2) hx hb dX1_draftShift_42 (by decide) ?_
  refine lv_iload_n hx hb dX1_draftShift_2 rfl (lv_at hl 0 rfl) ?_
  refine ix_iconst (n := 4) hx hb dX1_draftShift_3 ?_
  refine ix_icmp_ge (tgt := 45) hx hb dX1_draftShift_4 (by decide) (by decide) (by decide) (fun c12 => absurd c12 (by decide)) (fun _ => ?_)
  refine ix_iconst (n := 3) hx hb dX1_draftShift_7 ?_
  refine lv_istore_n (lv' := [(3, .int (iI 3)), (2, .int (iI 2)), (0, .ref h), (1, .int (iI y))]) hx hb dX1_draftShift_8 rfl hl (by decide) rfl (fun ls hl => ?_)
  refine lv_iload_n hx hb dX1_draftShift_9 rfl (lv_at hl 0 rfl) ?_
  refine lv_iload_n hx hb dX1_draftShift_10 rfl (lv_at hl 1 rfl) ?_
  refine ix_icmp_lt (tgt := 39) hx hb dX1_draftShift_11 (by decide) (by decide) (by decide) (fun c13 => absurd c13 (by decide)) (fun _ => ?_)
  refine lv_aload_n hx hb dX1_draftShift_14 rfl (lv_at hl 2 rfl) ?_
  refine va_get (D := (dC, dI)) (ci := 1) (v := .ref d) (C := RX1) (T := TX1) (N := 7) hx hb hw inX1 hown hK hP 0 rfl rfl 2 (by decide) (hw _ mA_55) (fun _ h9 => h9) rfl dX1_draftShift_15 ?_
  refine lv_iload_n hx hb dX1_draftShift_18 rfl (lv_at hl 0 rfl) ?_
  refine lv_dup2_11 hx hb dX1_draftShift_19 rfl rfl ?_
  refine ix_iald (k := 3) hx hb hK hP 1 0 rfl rfl (by decide) (by decide) (by decide) dX1_draftShift_20 ?_
  refine lv_iload_n hx hb dX1_draftShift_21 rfl (lv_at hl 3 rfl) ?_
  refine lv_aload_n hx hb dX1_draftShift_22 rfl (lv_at hl 2 rfl) ?_
  refine va_get (D := (dC, dI)) (ci := 1) (v := .ref d) (C := RX1) (T := TX1) (N := 7) hx hb hw inX1 hown hK hP 0 rfl rfl 2 (by decide) (hw _ mA_55) (fun _ h9 => h9) rfl dX1_draftShift_23 ?_
  refine lv_iload_n hx hb dX1_draftShift_26 rfl (lv_at hl 0 rfl) ?_
  refine ix_iconst (n := 1) hx hb dX1_draftShift_27 ?_
  refine ix_iadd hx hb dX1_draftShift_28 ?_
  refine ix_z (y := 4) rfl ?_
  refine ix_iald (k := 4) hx hb hK hP 1 0 rfl rfl (by decide) (by decide) (by decide) dX1_draftShift_29 ?_
  refine ix_imul hx hb dX1_draftShift_30 ?_
  refine ix_iadd hx hb dX1_draftShift_31 ?_
  refine ix_iast (k := 3) (x := ((shs y 1 (shs y 2 (shs y 3 (shs y 0 (shs y 1 (shs y 2 (shs y 3 D))))))) 3) + (y * ((shs y 1 (shs y 2 (shs y 3 (shs y 0 (shs y 1 (shs y 2 (shs y 3 D))))))) 4))) hx hb hK hP hD hS 1 0 rfl rfl (by decide) (by decide) (by decide) dX1_draftShift_32 (fun H locs hP hD hS => ?_)
  have hP : va_P (dC, dI) vwCl [(h, .inr (1, [.ref n, .ref r, .ref d, .ref f, .int (iI fc), .int (iI cn), .int (iI sp)])), (d, .inl (cI, 5, .inl (aI (iu (shs y 1 (shs y 2 (shs y 3 (shs y 0 (shs y 1 (shs y 2 (shs y 3 D))))))) 3 (((shs y 1 (shs y 2 (shs y 3 (shs y 0 (shs y 1 (shs y 2 (shs y 3 D))))))) 3) + (y * ((shs y 1 (shs y 2 (shs y 3 (shs y 0 (shs y 1 (shs y 2 (shs y 3 D))))))) 4)))))))] H := hP
  have hD : va_D A [(h, .inr (1, [.ref n, .ref r, .ref d, .ref f, .int (iI fc), .int (iI cn), .int (iI sp)])), (d, .inl (cI, 5, .inl (aI (iu (shs y 1 (shs y 2 (shs y 3 (shs y 0 (shs y 1 (shs y 2 (shs y 3 D))))))) 3 (((shs y 1 (shs y 2 (shs y 3 (shs y 0 (shs y 1 (shs y 2 (shs y 3 D))))))) 3) + (y * ((shs y 1 (shs y 2 (shs y 3 (shs y 0 (shs y 1 (shs y 2 (shs y 3 D))))))) 4)))))))] := hD
  have hP : va_P (dC, dI) vwCl [(h, .inr (1, [.ref n, .ref r, .ref d, .ref f, .int (iI fc), .int (iI cn), .int (iI sp)])), (d, .inl (cI, 5, .inl (aI (shs y 3 (shs y 1 (shs y 2 (shs y 3 (shs y 0 (shs y 1 (shs y 2 (shs y 3 D)))))))))))] H := hP
  have hD : va_D A [(h, .inr (1, [.ref n, .ref r, .ref d, .ref f, .int (iI fc), .int (iI cn), .int (iI sp)])), (d, .inl (cI, 5, .inl (aI (shs y 3 (shs y 1 (shs y 2 (shs y 3 (shs y 0 (shs y 1 (shs y 2 (shs y 3 D)))))))))))] := hD
  refine ix_iinc (k := 0) (lv2 := [(3, .int (iI 2)), (2, .int (iI 2)), (0, .ref h), (1, .int (iI y))]) hx hb dX1_draftShift_33 hl rfl (by decide) rfl (fun ls hl => ?_)
  refine lv_goto (tgt := 9) hx hb dX1_draftShift_36 (by decide) ?_
  refine lv_iload_n hx hb dX1_draftShift_9 rfl (lv_at hl 0 rfl) ?_
  refine lv_iload_n hx hb dX1_draftShift_10 rfl (lv_at hl 1 rfl) ?_
  refine ix_icmp_lt (tgt := 39) hx hb dX1_draftShift_11 (by decide) (by decide) (by decide) (fun c14 => absurd c14 (by decide)) (fun _ => ?_)
  refine lv_aload_n hx hb dX1_draftShift_14 rfl (lv_at hl 2 rfl) ?_
  refine va_get (D := (dC, dI)) (ci := 1) (v := .ref d) (C := RX1) (T := TX1) (N := 7) hx hb hw inX1 hown hK hP 0 rfl rfl 2 (by decide) (hw _ mA_55) (fun _ h9 => h9) rfl dX1_draftShift_15 ?_
  refine lv_iload_n hx hb dX1_draftShift_18 rfl (lv_at hl 0 rfl) ?_
  refine lv_dup2_11 hx hb dX1_draftShift_19 rfl rfl ?_
  refine ix_iald (k := 2) hx hb hK hP 1 0 rfl rfl (by decide) (by decide) (by decide) dX1_draftShift_20 ?_
  refine lv_iload_n hx hb dX1_draftShift_21 rfl (lv_at hl 3 rfl) ?_
  refine lv_aload_n hx hb dX1_draftShift_22 rfl (lv_at hl 2 rfl) ?_
  refine va_get (D := (dC, dI)) (ci := 1) (v := .ref d) (C := RX1) (T := TX1) (N := 7) hx hb hw inX1 hown hK hP 0 rfl rfl 2 (by decide) (hw _ mA_55) (fun _ h9 => h9) rfl dX1_draftShift_23 ?_
  refine lv_iload_n hx hb dX1_draftShift_26 rfl (lv_at hl 0 rfl) ?_
  refine ix_iconst (n := 1) hx hb dX1_draftShift_27 ?_
  refine ix_iadd hx hb dX1_draftShift_28 ?_
  refine ix_z (y := 3) rfl ?_
  refine ix_iald (k := 3) hx hb hK hP 1 0 rfl rfl (by decide) (by decide) (by decide) dX1_draftShift_29 ?_
  refine ix_imul hx hb dX1_draftShift_30 ?_
  refine ix_iadd hx hb dX1_draftShift_31 ?_
  refine ix_iast (k := 2) (x := ((shs y 3 (shs y 1 (shs y 2 (shs y 3 (shs y 0 (shs y 1 (shs y 2 (shs y 3 D)))))))) 2) + (y * ((shs y 3 (shs y 1 (shs y 2 (shs y 3 (shs y 0 (shs y 1 (shs y 2 (shs y 3 D)))))))) 3))) hx hb hK hP hD hS 1 0 rfl rfl (by decide) (by decide) (by decide) dX1_draftShift_32 (fun H locs hP hD hS => ?_)
  have hP : va_P (dC, dI) vwCl [(h, .inr (1, [.ref n, .ref r, .ref d, .ref f, .int (iI fc), .int (iI cn), .int (iI sp)])), (d, .inl (cI, 5, .inl (aI (iu (shs y 3 (shs y 1 (shs y 2 (shs y 3 (shs y 0 (shs y 1 (shs y 2 (shs y 3 D)))))))) 2 (((shs y 3 (shs y 1 (shs y 2 (shs y 3 (shs y 0 (shs y 1 (shs y 2 (shs y 3 D)))))))) 2) + (y * ((shs y 3 (shs y 1 (shs y 2 (shs y 3 (shs y 0 (shs y 1 (shs y 2 (shs y 3 D)))))))) 3)))))))] H := hP
  have hD : va_D A [(h, .inr (1, [.ref n, .ref r, .ref d, .ref f, .int (iI fc), .int (iI cn), .int (iI sp)])), (d, .inl (cI, 5, .inl (aI (iu (shs y 3 (shs y 1 (shs y 2 (shs y 3 (shs y 0 (shs y 1 (shs y 2 (shs y 3 D)))))))) 2 (((shs y 3 (shs y 1 (shs y 2 (shs y 3 (shs y 0 (shs y 1 (shs y 2 (shs y 3 D)))))))) 2) + (y * ((shs y 3 (shs y 1 (shs y 2 (shs y 3 (shs y 0 (shs y 1 (shs y 2 (shs y 3 D)))))))) 3)))))))] := hD
  have hP : va_P (dC, dI) vwCl [(h, .inr (1, [.ref n, .ref r, .ref d, .ref f, .int (iI fc), .int (iI cn), .int (iI sp)])), (d, .inl (cI, 5, .inl (aI (shs y 2 (shs y 3 (shs y 1 (shs y 2 (shs y 3 (shs y 0 (shs y 1 (shs y 2 (shs y 3 D))))))))))))] H := hP
  have hD : va_D A [(h, .inr (1, [.ref n, .ref r, .ref d, .ref f, .int (iI fc), .int (iI cn), .int (iI sp)])), (d, .inl (cI, 5, .inl (aI (shs y 2 (shs y 3 (shs y 1 (shs y 2 (shs y 3 (shs y 0 (shs y 1 (shs y 2 (shs y 3 D))))))))))))] := hD
  refine ix_iinc (k := 0) (lv2 := [(3, .int (iI 1)), (2, .int (iI 2)), (0, .ref h), (1, .int (iI y))]) hx hb dX1_draftShift_33 hl rfl (by decide) rfl (fun ls hl => ?_)
  refine lv_goto (tgt := 9) hx hb dX1_draftShift_36 (by decide) ?_
  refine lv_iload_n hx hb dX1_draftShift_9 rfl (lv_at hl 0 rfl) ?_
  refine lv_iload_n hx hb dX1_draftShift_10 rfl (lv_at hl 1 rfl) ?_
  refine ix_icmp_lt (tgt := 39) hx hb dX1_draftShift_11 (by decide) (by decide) (by decide) (fun _ => ?_) (fun c15 => absurd c15 (by decide))
  refine ix_iinc (k := 1) (lv2 := [(2, .int (iI 3)), (3, .int (iI 1)), (0, .ref h), (1, .int (iI y))]) hx hb dX1_draftShift_39 hl rfl (by decide) rfl (fun ls hl => ?_)
  refine lv_goto (tgt := 2) hx hb dX1_draftShift_42 (by decide) ?_
  refine lv_iload_n hx hb dX1_draftShift_2 rfl (lv_at hl 0 rfl) ?_
  refine ix_iconst (n := 4) hx hb dX1_draftShift_3 ?_
  refine ix_icmp_ge (tgt := 45) hx hb dX1_draftShift_4 (by decide) (by decide) (by decide) (fun c16 => absurd c16 (by decide)) (fun _ => ?_)
  refine ix_iconst (n := 3) hx hb dX1_draftShift_7 ?_
  refine lv_istore_n (lv' := [(3, .int (iI 3)), (2, .int (iI 3)), (0, .ref h), (1, .int (iI y))]) hx hb dX1_draftShift_8 rfl hl (by decide) rfl (fun ls hl => ?_)
  refine lv_iload_n hx hb dX1_draftShift_9 rfl (lv_at hl 0 rfl) ?_
  refine lv_iload_n hx hb dX1_draftShift_10 rfl (lv_at hl 1 rfl) ?_
  refine ix_icmp_lt (tgt := 39) hx hb dX1_draftShift_11 (by decide) (by decide) (by decide) (fun c17 => absurd c17 (by decide)) (fun _ => ?_)
  refine lv_aload_n hx hb dX1_draftShift_14 rfl (lv_at hl 2 rfl) ?_
  refine va_get (D := (dC, dI)) (ci := 1) (v := .ref d) (C := RX1) (T := TX1) (N := 7) hx hb hw inX1 hown hK hP 0 rfl rfl 2 (by decide) (hw _ mA_55) (fun _ h9 => h9) rfl dX1_draftShift_15 ?_
  refine lv_iload_n hx hb dX1_draftShift_18 rfl (lv_at hl 0 rfl) ?_
  refine lv_dup2_11 hx hb dX1_draftShift_19 rfl rfl ?_
  refine ix_iald (k := 3) hx hb hK hP 1 0 rfl rfl (by decide) (by decide) (by decide) dX1_draftShift_20 ?_
  refine lv_iload_n hx hb dX1_draftShift_21 rfl (lv_at hl 3 rfl) ?_
  refine lv_aload_n hx hb dX1_draftShift_22 rfl (lv_at hl 2 rfl) ?_
  refine va_get (D := (dC, dI)) (ci := 1) (v := .ref d) (C := RX1) (T := TX1) (N := 7) hx hb hw inX1 hown hK hP 0 rfl rfl 2 (by decide) (hw _ mA_55) (fun _ h9 => h9) rfl dX1_draftShift_23 ?_
  refine lv_iload_n hx hb dX1_draftShift_26 rfl (lv_at hl 0 rfl) ?_
  refine ix_iconst (n := 1) hx hb dX1_draftShift_27 ?_
  refine ix_iadd hx hb dX1_draftShift_28 ?_
  refine ix_z (y := 4) rfl ?_
  refine ix_iald (k := 4) hx hb hK hP 1 0 rfl rfl (by decide) (by decide) (by decide) dX1_draftShift_29 ?_
  refine ix_imul hx hb dX1_draftShift_30 ?_
  refine ix_iadd hx hb dX1_draftShift_31 ?_
  refine ix_iast (k := 3) (x := ((shs y 2 (shs y 3 (shs y 1 (shs y 2 (shs y 3 (shs y 0 (shs y 1 (shs y 2 (shs y 3 D))))))))) 3) + (y * ((shs y 2 (shs y 3 (shs y 1 (shs y 2 (shs y 3 (shs y 0 (shs y 1 (shs y 2 (shs y 3 D))))))))) 4))) hx hb hK hP hD hS 1 0 rfl rfl (by decide) (by decide) (by decide) dX1_draftShift_32 (fun H locs hP hD hS => ?_)
  have hP : va_P (dC, dI) vwCl [(h, .inr (1, [.ref n, .ref r, .ref d, .ref f, .int (iI fc), .int (iI cn), .int (iI sp)])), (d, .inl (cI, 5, .inl (aI (iu (shs y 2 (shs y 3 (shs y 1 (shs y 2 (shs y 3 (shs y 0 (shs y 1 (shs y 2 (shs y 3 D))))))))) 3 (((shs y 2 (shs y 3 (shs y 1 (shs y 2 (shs y 3 (shs y 0 (shs y 1 (shs y 2 (shs y 3 D))))))))) 3) + (y * ((shs y 2 (shs y 3 (shs y 1 (shs y 2 (shs y 3 (shs y 0 (shs y 1 (shs y 2 (shs y 3 D))))))))) 4)))))))] H := hP
  have hD : va_D A [(h, .inr (1, [.ref n, .ref r, .ref d, .ref f, .int (iI fc), .int (iI cn), .int (iI sp)])), (d, .inl (cI, 5, .inl (aI (iu (shs y 2 (shs y 3 (shs y 1 (shs y 2 (shs y 3 (shs y 0 (shs y 1 (shs y 2 (shs y 3 D))))))))) 3 (((shs y 2 (shs y 3 (shs y 1 (shs y 2 (shs y 3 (shs y 0 (shs y 1 (shs y 2 (shs y 3 D))))))))) 3) + (y * ((shs y 2 (shs y 3 (shs y 1 (shs y 2 (shs y 3 (shs y 0 (shs y 1 (shs y 2 (shs y 3 D))))))))) 4)))))))] := hD
  have hP : va_P (dC, dI) vwCl [(h, .inr (1, [.ref n, .ref r, .ref d, .ref f, .int (iI fc), .int (iI cn), .int (iI sp)])), (d, .inl (cI, 5, .inl (aI (shs y 3 (shs y 2 (shs y 3 (shs y 1 (shs y 2 (shs y 3 (shs y 0 (shs y 1 (shs y 2 (shs y 3 D)))))))))))))] H := hP
  have hD : va_D A [(h, .inr (1, [.ref n, .ref r, .ref d, .ref f, .int (iI fc), .int (iI cn), .int (iI sp)])), (d, .inl (cI, 5, .inl (aI (shs y 3 (shs y 2 (shs y 3 (shs y 1 (shs y 2 (shs y 3 (shs y 0 (shs y 1 (shs y 2 (shs y 3 D)))))))))))))] := hD
  refine ix_iinc (k := 0) (lv2 := [(3, .int (iI 2)), (2, .int (iI 3)), (0, .ref h), (1, .int (iI y))]) hx hb dX1_draftShift_33 hl rfl (by decide) rfl (fun ls hl => ?_)
  refine lv_goto (tgt := 9) hx hb dX1_draftShift_36 (by decide) ?_
  refine lv_iload_n hx hb dX1_draftShift_9 rfl (lv_at hl 0 rfl) ?_
  refine lv_iload_n hx hb dX1_draftShift_10 rfl (lv_at hl 1 rfl) ?_
  refine ix_icmp_lt (tgt := 39) hx hb dX1_draftShift_11 (by decide) (by decide) (by decide) (fun _ => ?_) (fun c18 => absurd c18 (by decide))
  refine ix_iinc (k := 1) (lv2 := [(2, .int (iI 4)), (3, .int (iI 2)), (0, .ref h), (1, .int (iI y))]) hx hb dX1_draftShift_39 hl rfl (by decide) rfl (fun ls hl => ?_)
  refine lv_goto (tgt := 2) hx hb dX1_draftShift_42 (by decide) ?_
  refine lv_iload_n hx hb dX1_draftShift_2 rfl (lv_at hl 0 rfl) ?_
  refine ix_iconst (n := 4) hx hb dX1_draftShift_3 ?_
  refine ix_icmp_ge (tgt := 45) hx hb dX1_draftShift_4 (by decide) (by decide) (by decide) (fun _ => ?_) (fun c19 => absurd c19 (by decide))
  have hP9 := hP.sub (ws' := [(h, .inr (1, [.ref n, .ref r, .ref d, .ref f, .int (iI fc), .int (iI cn), .int (iI sp)])), (d, .inl (cI, 5, .inl (aI (f_shift y D))))]) [0, 1] rfl
  have hD9 := hD.sub (ws' := [(h, .inr (1, [.ref n, .ref r, .ref d, .ref f, .int (iI fc), .int (iI cn), .int (iI sp)])), (d, .inl (cI, 5, .inl (aI (f_shift y D))))]) [0, 1] (by decide) rfl
  have hK9 := hK.sub (tys' := [(cI, .int)]) [0] rfl
  exact W.vret hx hb hr (fun t ht hW => ⟨⟨(), rfl, trivial, by rw [ht]; exact hP9, va_K.moved hW.alike hK9, hD9⟩, hS.F ht⟩) hS.2.2 dX1_draftShift_45
set_option maxHeartbeats 4000000 in
set_option maxRecDepth 100000 in
/-- the numbers changed -/
theorem kX1_draftChange (l : Launch) (dC : Nat → ClassId) (dI : Nat → Nat → Nat) (sz : Nat) (h n r d f : Nat) (cI : ClassId) (fc cn sp : Int) (N D : Int → Int) (how g : Int) (hN : n5 N) (hD5 : n5 D) (hh : r32 how) (hg : 0 ≤ g ∧ g ≤ 4) : Met l yX1_draftChange (.code yX1_draftChange cX1_draftChange 4 none :: wsA) ({ frames := 1, cells := 0, slots := 0, locals := 60 }) (va_Pc [.ref h, .int (iI how), .int (iI g)] (fun U => U.heap.size = sz ∧ va_P (dC, dI) vwCl [(h, .inr (1, [.ref n, .ref r, .ref d, .ref f, .int (iI fc), .int (iI cn), .int (iI sp)])), (n, .inl (cI, 5, .inl (aI N))), (d, .inl (cI, 5, .inl (aI D)))] U.heap ∧ va_K (dC, dI) vwCl [(cI, .int)] U ∧ va_D (fun _ => True) [(h, .inr (1, [.ref n, .ref r, .ref d, .ref f, .int (iI fc), .int (iI cn), .int (iI sp)])), (n, .inl (cI, 5, .inl (aI N))), (d, .inl (cI, 5, .inl (aI D)))] ∧ nb U)) (va_Qv (fun _ => True) (fun (u : Unit) t9 => va_P (dC, dI) vwCl [(h, .inr (1, [.ref n, .ref r, .ref d, .ref f, .int (iI fc), .int (iI cn), .int (iI sp)])), (n, .inl (cI, 5, .inl (aI N))), (d, .inl (cI, 5, .inl (aI (f_chg N how g))))] t9.heap ∧ va_K (dC, dI) vwCl [(cI, .int)] t9 ∧ va_D (va_A [(h, .inr (1, [.ref n, .ref r, .ref d, .ref f, .int (iI fc), .int (iI cn), .int (iI sp)])), (n, .inl (cI, 5, .inl (aI N))), (d, .inl (cI, 5, .inl (aI D)))] sz) [(h, .inr (1, [.ref n, .ref r, .ref d, .ref f, .int (iI fc), .int (iI cn), .int (iI sp)])), (n, .inl (cI, 5, .inl (aI N))), (d, .inl (cI, 5, .inl (aI (f_chg N how g))))]) (va_A [(h, .inr (1, [.ref n, .ref r, .ref d, .ref f, .int (iI fc), .int (iI cn), .int (iI sp)])), (n, .inl (cI, 5, .inl (aI N))), (d, .inl (cI, 5, .inl (aI D)))] sz)) 0 0 (va_A [(h, .inr (1, [.ref n, .ref r, .ref d, .ref f, .int (iI fc), .int (iI cn), .int (iI sp)])), (n, .inl (cI, 5, .inl (aI N))), (d, .inl (cI, 5, .inl (aI D)))] sz) := by
  refine Met.ofW (cc := cX1_draftChange) (maxL := 4) (ret := none) (by decide) rfl ?_
  intro p e s m args below meth c s₁ B hml hv
  obtain ⟨rfl, hsz, hP, hK, hD0, hnb⟩ := hv
  have hx := B.exec
  have hb := B.bytes
  have hr := B.returns
  have hts := atoms_spec (ws := .code yX1_draftChange cX1_draftChange 4 none :: wsA) B.pre
  have hw : ∀ w ∈ wsA, w.before _ s = true := fun w h => hts w (List.mem_cons_of_mem _ h)
  have hown : s.vm.findClass RX1 = some m.cls := findClass_of_methodNamed B.named
  have hlocks := B.notSynchronized
  subst hsz
  have hD := hD0.self (sz := s.heap.size)
  generalize hAe : va_A [(h, .inr (1, [.ref n, .ref r, .ref d, .ref f, .int (iI fc), .int (iI cn), .int (iI sp)])), (n, .inl (cI, 5, .inl (aI N))), (d, .inl (cI, 5, .inl (aI D)))] s.heap.size = A at hD ⊢
  have hA : ∀ q : Nat, s.heap.size ≤ q → A q := fun q h => by rw [← hAe]; exact Or.inr h
  have hS : va_S A s.heap s.heap [] := va_S.rf
  have hP : va_P (dC, dI) vwCl [(h, .inr (1, [.ref n, .ref r, .ref d, .ref f, .int (iI fc), .int (iI cn), .int (iI sp)])), (n, .inl (cI, 5, .inl (aI N))), (d, .inl (cI, 5, .inl (aI D)))] s.heap := hP
  have hl := lv_entry ([.ref h, .int (iI how), .int (iI g)]) (n := 4) (Nat.le_of_ble_eq_true rfl)
  rw [lg_entry_eq]
  generalize (lg_sl ([.ref h, .int (iI how), .int (iI g)]) ++ List.replicate (4 - (lg_sl ([.ref h, .int (iI how), .int (iI g)])).length) Slot.unset).toArray = ls at hl ⊢
  have hl : lv_has ls 4 [(0, .ref h), (1, .int (iI how)), (2, .int (iI g))] := hl
  refine lv_aload_n hx hb dX1_draftChange_0 rfl (lv_at hl 0 rfl) ?_
  refine va_get (D := (dC, dI)) (ci := 1) (v := .ref n) (C := RX1) (T := TX1) (N := 7) hx hb hw inX1 hown hK hP 0 rfl rfl 0 (by decide) (hw _ mA_53) (fun _ h9 => h9) rfl dX1_draftChange_1 ?_
  refine ix_iconst (n := 0) hx hb dX1_draftChange_4 ?_
  refine lv_aload_n hx hb dX1_draftChange_5 rfl (lv_at hl 0 rfl) ?_
  refine va_get (D := (dC, dI)) (ci := 1) (v := .ref d) (C := RX1) (T := TX1) (N := 7) hx hb hw inX1 hown hK hP 0 rfl rfl 2 (by decide) (hw _ mA_55) (fun _ h9 => h9) rfl dX1_draftChange_6 ?_
  refine ix_iconst (n := 0) hx hb dX1_draftChange_9 ?_
  refine lv_aload_n hx hb dX1_draftChange_10 rfl (lv_at hl 0 rfl) ?_
  refine va_get (D := (dC, dI)) (ci := 1) (v := .ref d) (C := RX1) (T := TX1) (N := 7) hx hb hw inX1 hown hK hP 0 rfl rfl 2 (by decide) (hw _ mA_55) (fun _ h9 => h9) rfl dX1_draftChange_11 ?_
  refine va_alen (v := iI 5) hx hb hK hP 2 0 rfl rfl rfl dX1_draftChange_14 ?_
  refine ix_copy5 hx hb (by rw [hml]; exact hl.1.symm) hown (hw _ mA_200) (hw _ mA_202) (hw _ mA_201) (hw _ mA_9) hK hP hD hS 1 2 0 rfl rfl rfl hN hD5 (Nat.le_of_ble_eq_true rfl) (by decide) dX1_draftChange_15 (fun H locs hP hD hS => ?_)
  have hP : va_P (dC, dI) vwCl [(h, .inr (1, [.ref n, .ref r, .ref d, .ref f, .int (iI fc), .int (iI cn), .int (iI sp)])), (n, .inl (cI, 5, .inl (aI N))), (d, .inl (cI, 5, .inl (aI N)))] H := hP
  have hD : va_D A [(h, .inr (1, [.ref n, .ref r, .ref d, .ref f, .int (iI fc), .int (iI cn), .int (iI sp)])), (n, .inl (cI, 5, .inl (aI N))), (d, .inl (cI, 5, .inl (aI N)))] := hD
  refine lv_iload_n hx hb dX1_draftChange_18 rfl (lv_at hl 1 rfl) ?_
  refine ix_iconst (n := 2) hx hb dX1_draftChange_19 ?_
  refine ix_icmp_ne (tgt := 62) hx hb dX1_draftChange_20 (by decide) (by omega) (by decide) (fun c1 => ?_) (fun c1 => ?_)
  · refine lv_iload_n hx hb dX1_draftChange_62 rfl (lv_at hl 1 rfl) ?_
    refine ix_if_ne (tgt := 99) hx hb dX1_draftChange_63 (by decide) (by omega) (fun c2 => ?_) (fun c2 => ?_)
    · refine lv_aload_n hx hb dX1_draftChange_99 rfl (lv_at hl 0 rfl) ?_
      refine lv_iload_n hx hb dX1_draftChange_100 rfl (lv_at hl 1 rfl) ?_
      have hPc := hP.sub (ws' := [(h, .inr (1, [.ref n, .ref r, .ref d, .ref f, .int (iI fc), .int (iI cn), .int (iI sp)])), (d, .inl (cI, 5, .inl (aI N)))]) [0, 2] rfl
      have hDc := hD.sub (ws' := [(h, .inr (1, [.ref n, .ref r, .ref d, .ref f, .int (iI fc), .int (iI cn), .int (iI sp)])), (d, .inl (cI, 5, .inl (aI N)))]) [0, 2] (by decide) rfl
      have hKc := hK.sub (tys' := [(cI, .int)]) [0] rfl
      have hFc := va_free (wc := [(h, .inr (1, [.ref n, .ref r, .ref d, .ref f, .int (iI fc), .int (iI cn), .int (iI sp)])), (d, .inl (cI, 5, .inl (aI N)))]) hD hS hA [0, 2] rfl
      refine va_callv (va_runV (As := [.int (iI how)]) (rest := []) ⟨hx, hb, hml, hown, hw⟩ (kX1_draftShift l dC dI _ h n r d f cI fc cn sp N how) (cwV 1 hw (gV mA_203 mA_205 mP_2 mA_1 mA_206) rfl rfl rfl (by decide +kernel) ⟨Nat.le_of_ble_eq_true rfl, Nat.le_of_ble_eq_true rfl⟩) ⟨fun a U g mk q => by obtain ⟨q0, q1, qP, qK, qD, qN⟩ := q; exact ⟨q0, q1, qP, va_K.moved (u := U) (U := U.calling g mk a) (Vm.Alike.refl U.vm) qK, qD, nb.same (u := U) rfl qN⟩, va_recv hKc hPc (ci := 1) (q0 := 0) rfl rfl, fun U hU hW => ⟨rfl, by rw [hU], by rw [hU]; exact hPc, va_K.moved hW.alike hKc, hDc.weaken (fun _ _ _ _ => trivial), nb.warm hW hnb⟩⟩ rfl rfl hl.1 rfl (lv_room (Nat.le_of_ble_eq_true rfl)) dX1_draftChange_101 ⟨Nat.le_of_ble_eq_true rfl, Nat.le_of_ble_eq_true rfl⟩) hS (fun q _ h => hFc q h) hFc (fun u3 t9 H1 locs ht hvm hq4 hB hz1 hk1 hS => ?_)
      obtain ⟨hP1, hK1, hD1⟩ := hB
      rw [ht] at hP1
      have hK1 := va_K.moved hvm.symm hK1
      obtain ⟨hP, hD⟩ := va_join (wr := [(n, .inl (cI, 5, .inl (aI N)))]) (w1 := [(h, .inr (1, [.ref n, .ref r, .ref d, .ref f, .int (iI fc), .int (iI cn), .int (iI sp)])), (d, .inl (cI, 5, .inl (aI (f_shift how N))))]) hP hD [0, 2] [1] rfl rfl (by decide) (by decide) hk1 hFc hP1 hD1
      generalize H1 = H at hP hS ⊢
      have hP := hP.sub (ws' := [(h, .inr (1, [.ref n, .ref r, .ref d, .ref f, .int (iI fc), .int (iI cn), .int (iI sp)])), (n, .inl (cI, 5, .inl (aI N))), (d, .inl (cI, 5, .inl (aI (f_shift how N))))]) [1, 0, 2] rfl
      have hD := hD.sub (ws' := [(h, .inr (1, [.ref n, .ref r, .ref d, .ref f, .int (iI fc), .int (iI cn), .int (iI sp)])), (n, .inl (cI, 5, .inl (aI N))), (d, .inl (cI, 5, .inl (aI (f_shift how N))))]) [1, 0, 2] (by decide) rfl
      rw [← chg_s N g c1 c2] at hP hD
      have hP9 := hP.sub (ws' := [(h, .inr (1, [.ref n, .ref r, .ref d, .ref f, .int (iI fc), .int (iI cn), .int (iI sp)])), (n, .inl (cI, 5, .inl (aI N))), (d, .inl (cI, 5, .inl (aI (f_chg N how g))))]) [0, 1, 2] rfl
      have hD9 := hD.sub (ws' := [(h, .inr (1, [.ref n, .ref r, .ref d, .ref f, .int (iI fc), .int (iI cn), .int (iI sp)])), (n, .inl (cI, 5, .inl (aI N))), (d, .inl (cI, 5, .inl (aI (f_chg N how g))))]) [0, 1, 2] (by decide) rfl
      have hK9 := hK.sub (tys' := [(cI, .int)]) [0] rfl
      exact W.vret hx hb hr (fun t ht hW => ⟨⟨(), rfl, trivial, by rw [ht]; exact hP9, va_K.moved hW.alike hK9, hD9⟩, hS.F ht⟩) hS.2.2 dX1_draftChange_104
    · subst c2
      refine ix_iconst (n := 1) hx hb dX1_draftChange_66 ?_
      refine lv_istore_n (lv' := [(3, .int (iI 1)), (0, .ref h), (1, .int (iI 0)), (2, .int (iI g))]) hx hb dX1_draftChange_67 rfl hl (by decide) rfl (fun ls hl => ?_)
      refine lv_iload_n hx hb dX1_draftChange_68 rfl (lv_at hl 0 rfl) ?_
      refine lv_aload_n hx hb dX1_draftChange_69 rfl (lv_at hl 1 rfl) ?_
      refine va_get (D := (dC, dI)) (ci := 1) (v := .ref d) (C := RX1) (T := TX1) (N := 7) hx hb hw inX1 hown hK hP 0 rfl rfl 2 (by decide) (hw _ mA_55) (fun _ h9 => h9) rfl dX1_draftChange_70 ?_
      refine va_alen (v := iI 5) hx hb hK hP 2 0 rfl rfl rfl dX1_draftChange_73 ?_
      refine ix_icmp_ge (tgt := 96) hx hb dX1_draftChange_74 (by decide) (by decide) (by decide) (fun c6 => absurd c6 (by decide)) (fun _ => ?_)
      refine lv_aload_n hx hb dX1_draftChange_77 rfl (lv_at hl 1 rfl) ?_
      refine va_get (D := (dC, dI)) (ci := 1) (v := .ref d) (C := RX1) (T := TX1) (N := 7) hx hb hw inX1 hown hK hP 0 rfl rfl 2 (by decide) (hw _ mA_55) (fun _ h9 => h9) rfl dX1_draftChange_78 ?_
      refine lv_iload_n hx hb dX1_draftChange_81 rfl (lv_at hl 0 rfl) ?_
      refine lv_aload_n hx hb dX1_draftChange_82 rfl (lv_at hl 1 rfl) ?_
      refine va_get (D := (dC, dI)) (ci := 1) (v := .ref d) (C := RX1) (T := TX1) (N := 7) hx hb hw inX1 hown hK hP 0 rfl rfl 2 (by decide) (hw _ mA_55) (fun _ h9 => h9) rfl dX1_draftChange_83 ?_
      refine lv_iload_n hx hb dX1_draftChange_86 rfl (lv_at hl 0 rfl) ?_
      refine ix_iald (k := 1) hx hb hK hP 2 0 rfl rfl (by decide) (by decide) (by decide) dX1_draftChange_87 ?_
      refine ix_ineg hx hb dX1_draftChange_88 ?_
      refine ix_iast (k := 1) (x := -(N 1)) hx hb hK hP hD hS 2 0 rfl rfl (by decide) (by decide) (by decide) dX1_draftChange_89 (fun H locs hP hD hS => ?_)
      have hP : va_P (dC, dI) vwCl [(h, .inr (1, [.ref n, .ref r, .ref d, .ref f, .int (iI fc), .int (iI cn), .int (iI sp)])), (n, .inl (cI, 5, .inl (aI N))), (d, .inl (cI, 5, .inl (aI (iu N 1 (-(N 1))))))] H := hP
      have hD : va_D A [(h, .inr (1, [.ref n, .ref r, .ref d, .ref f, .int (iI fc), .int (iI cn), .int (iI sp)])), (n, .inl (cI, 5, .inl (aI N))), (d, .inl (cI, 5, .inl (aI (iu N 1 (-(N 1))))))] := hD
      refine ix_iinc (k := 0) (lv2 := [(3, .int (iI 3)), (0, .ref h), (1, .int (iI 0)), (2, .int (iI g))]) hx hb dX1_draftChange_90 hl rfl (by decide) rfl (fun ls hl => ?_)
      refine lv_goto (tgt := 68) hx hb dX1_draftChange_93 (by decide) ?_
      refine lv_iload_n hx hb dX1_draftChange_68 rfl (lv_at hl 0 rfl) ?_
      refine lv_aload_n hx hb dX1_draftChange_69 rfl (lv_at hl 1 rfl) ?_
      refine va_get (D := (dC, dI)) (ci := 1) (v := .ref d) (C := RX1) (T := TX1) (N := 7) hx hb hw inX1 hown hK hP 0 rfl rfl 2 (by decide) (hw _ mA_55) (fun _ h9 => h9) rfl dX1_draftChange_70 ?_
      refine va_alen (v := iI 5) hx hb hK hP 2 0 rfl rfl rfl dX1_draftChange_73 ?_
      refine ix_icmp_ge (tgt := 96) hx hb dX1_draftChange_74 (by decide) (by decide) (by decide) (fun c7 => absurd c7 (by decide)) (fun _ => ?_)
      refine lv_aload_n hx hb dX1_draftChange_77 rfl (lv_at hl 1 rfl) ?_
      refine va_get (D := (dC, dI)) (ci := 1) (v := .ref d) (C := RX1) (T := TX1) (N := 7) hx hb hw inX1 hown hK hP 0 rfl rfl 2 (by decide) (hw _ mA_55) (fun _ h9 => h9) rfl dX1_draftChange_78 ?_
      refine lv_iload_n hx hb dX1_draftChange_81 rfl (lv_at hl 0 rfl) ?_
      refine lv_aload_n hx hb dX1_draftChange_82 rfl (lv_at hl 1 rfl) ?_
      refine va_get (D := (dC, dI)) (ci := 1) (v := .ref d) (C := RX1) (T := TX1) (N := 7) hx hb hw inX1 hown hK hP 0 rfl rfl 2 (by decide) (hw _ mA_55) (fun _ h9 => h9) rfl dX1_draftChange_83 ?_
      refine lv_iload_n hx hb dX1_draftChange_86 rfl (lv_at hl 0 rfl) ?_
      refine ix_iald (k := 3) hx hb hK hP 2 0 rfl rfl (by decide) (by decide) (by decide) dX1_draftChange_87 ?_
      refine ix_ineg hx hb dX1_draftChange_88 ?_
      refine ix_iast (k := 3) (x := -((iu N 1 (-(N 1))) 3)) hx hb hK hP hD hS 2 0 rfl rfl (by decide) (by decide) (by decide) dX1_draftChange_89 (fun H locs hP hD hS => ?_)
      have hP : va_P (dC, dI) vwCl [(h, .inr (1, [.ref n, .ref r, .ref d, .ref f, .int (iI fc), .int (iI cn), .int (iI sp)])), (n, .inl (cI, 5, .inl (aI N))), (d, .inl (cI, 5, .inl (aI (iu (iu N 1 (-(N 1))) 3 (-((iu N 1 (-(N 1))) 3))))))] H := hP
      have hD : va_D A [(h, .inr (1, [.ref n, .ref r, .ref d, .ref f, .int (iI fc), .int (iI cn), .int (iI sp)])), (n, .inl (cI, 5, .inl (aI N))), (d, .inl (cI, 5, .inl (aI (iu (iu N 1 (-(N 1))) 3 (-((iu N 1 (-(N 1))) 3))))))] := hD
      refine ix_iinc (k := 0) (lv2 := [(3, .int (iI 5)), (0, .ref h), (1, .int (iI 0)), (2, .int (iI g))]) hx hb dX1_draftChange_90 hl rfl (by decide) rfl (fun ls hl => ?_)
      refine lv_goto (tgt := 68) hx hb dX1_draftChange_93 (by decide) ?_
      refine lv_iload_n hx hb dX1_draftChange_68 rfl (lv_at hl 0 rfl) ?_
      refine lv_aload_n hx hb dX1_draftChange_69 rfl (lv_at hl 1 rfl) ?_
      refine va_get (D := (dC, dI)) (ci := 1) (v := .ref d) (C := RX1) (T := TX1) (N := 7) hx hb hw inX1 hown hK hP 0 rfl rfl 2 (by decide) (hw _ mA_55) (fun _ h9 => h9) rfl dX1_draftChange_70 ?_
      refine va_alen (v := iI 5) hx hb hK hP 2 0 rfl rfl rfl dX1_draftChange_73 ?_
      refine ix_icmp_ge (tgt := 96) hx hb dX1_draftChange_74 (by decide) (by decide) (by decide) (fun _ => ?_) (fun c8 => absurd c8 (by decide))
      refine lv_goto (tgt := 104) hx hb dX1_draftChange_96 (by decide) ?_
      have e9 : iu (iu N 1 (-(N 1))) 3 (-((iu N 1 (-(N 1))) 3)) = f_chg N 0 g := (by funext j; rw [chg_0]; unfold iu; grind)
      rw [e9] at hP hD
      have hP9 := hP.sub (ws' := [(h, .inr (1, [.ref n, .ref r, .ref d, .ref f, .int (iI fc), .int (iI cn), .int (iI sp)])), (n, .inl (cI, 5, .inl (aI N))), (d, .inl (cI, 5, .inl (aI (f_chg N 0 g))))]) [0, 1, 2] rfl
      have hD9 := hD.sub (ws' := [(h, .inr (1, [.ref n, .ref r, .ref d, .ref f, .int (iI fc), .int (iI cn), .int (iI sp)])), (n, .inl (cI, 5, .inl (aI N))), (d, .inl (cI, 5, .inl (aI (f_chg N 0 g))))]) [0, 1, 2] (by decide) rfl
      have hK9 := hK.sub (tys' := [(cI, .int)]) [0] rfl
      exact W.vret hx hb hr (fun t ht hW => ⟨⟨(), rfl, trivial, by rw [ht]; exact hP9, va_K.moved hW.alike hK9, hD9⟩, hS.F ht⟩) hS.2.2 dX1_draftChange_104
  · subst c1
    rcases (show g = 0 ∨ g = 1 ∨ g = 2 ∨ g = 3 ∨ g = 4 by omega) with rfl | rfl | rfl | rfl | rfl
    · refine ix_iconst (n := 0) hx hb dX1_draftChange_23 ?_
      refine lv_istore_n (lv' := [(3, .int (iI 0)), (0, .ref h), (1, .int (iI 2)), (2, .int (iI 0))]) hx hb dX1_draftChange_24 rfl hl (by decide) rfl (fun ls hl => ?_)
      refine lv_iload_n hx hb dX1_draftChange_25 rfl (lv_at hl 0 rfl) ?_
      refine lv_iload_n hx hb dX1_draftChange_26 rfl (lv_at hl 3 rfl) ?_
      refine ix_icmp_gt (tgt := 59) hx hb dX1_draftChange_27 (by decide) (by decide) (by decide) (fun c9 => absurd c9 (by decide)) (fun _ => ?_)
      refine lv_iload_n hx hb dX1_draftChange_30 rfl (lv_at hl 3 rfl) ?_
      refine lv_aload_n hx hb dX1_draftChange_31 rfl (lv_at hl 1 rfl) ?_
      refine va_get (D := (dC, dI)) (ci := 1) (v := .ref d) (C := RX1) (T := TX1) (N := 7) hx hb hw inX1 hown hK hP 0 rfl rfl 2 (by decide) (hw _ mA_55) (fun _ h9 => h9) rfl dX1_draftChange_32 ?_
      refine va_alen (v := iI 5) hx hb hK hP 2 0 rfl rfl rfl dX1_draftChange_35 ?_
      refine ix_icmp_ge (tgt := 59) hx hb dX1_draftChange_36 (by decide) (by decide) (by decide) (fun c10 => absurd c10 (by decide)) (fun _ => ?_)
      refine lv_aload_n hx hb dX1_draftChange_39 rfl (lv_at hl 1 rfl) ?_
      refine va_get (D := (dC, dI)) (ci := 1) (v := .ref d) (C := RX1) (T := TX1) (N := 7) hx hb hw inX1 hown hK hP 0 rfl rfl 2 (by decide) (hw _ mA_55) (fun _ h9 => h9) rfl dX1_draftChange_40 ?_
      refine lv_iload_n hx hb dX1_draftChange_43 rfl (lv_at hl 0 rfl) ?_
      refine lv_aload_n hx hb dX1_draftChange_44 rfl (lv_at hl 1 rfl) ?_
      refine va_get (D := (dC, dI)) (ci := 1) (v := .ref n) (C := RX1) (T := TX1) (N := 7) hx hb hw inX1 hown hK hP 0 rfl rfl 0 (by decide) (hw _ mA_53) (fun _ h9 => h9) rfl dX1_draftChange_45 ?_
      refine lv_iload_n hx hb dX1_draftChange_48 rfl (lv_at hl 3 rfl) ?_
      refine lv_iload_n hx hb dX1_draftChange_49 rfl (lv_at hl 0 rfl) ?_
      refine ix_isub hx hb dX1_draftChange_50 ?_
      refine ix_z (y := 0) rfl ?_
      refine ix_iald (k := 0) hx hb hK hP 1 0 rfl rfl (by decide) (by decide) (by decide) dX1_draftChange_51 ?_
      refine ix_iast (k := 0) (x := N 0) hx hb hK hP hD hS 2 0 rfl rfl (by decide) (by decide) (by decide) dX1_draftChange_52 (fun H locs hP hD hS => ?_)
      have hP : va_P (dC, dI) vwCl [(h, .inr (1, [.ref n, .ref r, .ref d, .ref f, .int (iI fc), .int (iI cn), .int (iI sp)])), (n, .inl (cI, 5, .inl (aI N))), (d, .inl (cI, 5, .inl (aI (iu N 0 (N 0)))))] H := hP
      have hD : va_D A [(h, .inr (1, [.ref n, .ref r, .ref d, .ref f, .int (iI fc), .int (iI cn), .int (iI sp)])), (n, .inl (cI, 5, .inl (aI N))), (d, .inl (cI, 5, .inl (aI (iu N 0 (N 0)))))] := hD
      refine ix_iinc (k := 0) (lv2 := [(3, .int (iI 1)), (0, .ref h), (1, .int (iI 2)), (2, .int (iI 0))]) hx hb dX1_draftChange_53 hl rfl (by decide) rfl (fun ls hl => ?_)
      refine lv_goto (tgt := 25) hx hb dX1_draftChange_56 (by decide) ?_
      refine lv_iload_n hx hb dX1_draftChange_25 rfl (lv_at hl 0 rfl) ?_
      refine lv_iload_n hx hb dX1_draftChange_26 rfl (lv_at hl 3 rfl) ?_
      refine ix_icmp_gt (tgt := 59) hx hb dX1_draftChange_27 (by decide) (by decide) (by decide) (fun _ => ?_) (fun c11 => absurd c11 (by decide))
      refine lv_goto (tgt := 104) hx hb dX1_draftChange_59 (by decide) ?_
      have e9 : iu N 0 (N 0) = f_chg N 2 0 := (by funext j; rw [chg_2]; unfold iu; grind)
      rw [e9] at hP hD
      have hP9 := hP.sub (ws' := [(h, .inr (1, [.ref n, .ref r, .ref d, .ref f, .int (iI fc), .int (iI cn), .int (iI sp)])), (n, .inl (cI, 5, .inl (aI N))), (d, .inl (cI, 5, .inl (aI (f_chg N 2 0))))]) [0, 1, 2] rfl
      have hD9 := hD.sub (ws' := [(h, .inr (1, [.ref n, .ref r, .ref d, .ref f, .int (iI fc), .int (iI cn), .int (iI sp)])), (n, .inl (cI, 5, .inl (aI N))), (d, .inl (cI, 5, .inl (aI (f_chg N 2 0))))]) [0, 1, 2] (by decide) rfl
      have hK9 := hK.sub (tys' := [(cI, .int)]) [0] rfl
      exact W.vret hx hb hr (fun t ht hW => ⟨⟨(), rfl, trivial, by rw [ht]; exact hP9, va_K.moved hW.alike hK9, hD9⟩, hS.F ht⟩) hS.2.2 dX1_draftChange_104
    · refine ix_iconst (n := 0) hx hb dX1_draftChange_23 ?_
      refine lv_istore_n (lv' := [(3, .int (iI 0)), (0, .ref h), (1, .int (iI 2)), (2, .int (iI 1))]) hx hb dX1_draftChange_24 rfl hl (by decide) rfl (fun ls hl => ?_)
      refine lv_iload_n hx hb dX1_draftChange_25 rfl (lv_at hl 0 rfl) ?_
      refine lv_iload_n hx hb dX1_draftChange_26 rfl (lv_at hl 3 rfl) ?_
      refine ix_icmp_gt (tgt := 59) hx hb dX1_draftChange_27 (by decide) (by decide) (by decide) (fun c12 => absurd c12 (by decide)) (fun _ => ?_)
      refine lv_iload_n hx hb dX1_draftChange_30 rfl (lv_at hl 3 rfl) ?_
      refine lv_aload_n hx hb dX1_draftChange_31 rfl (lv_at hl 1 rfl) ?_
      refine va_get (D := (dC, dI)) (ci := 1) (v := .ref d) (C := RX1) (T := TX1) (N := 7) hx hb hw inX1 hown hK hP 0 rfl rfl 2 (by decide) (hw _ mA_55) (fun _ h9 => h9) rfl dX1_draftChange_32 ?_
      refine va_alen (v := iI 5) hx hb hK hP 2 0 rfl rfl rfl dX1_draftChange_35 ?_
      refine ix_icmp_ge (tgt := 59) hx hb dX1_draftChange_36 (by decide) (by decide) (by decide) (fun c13 => absurd c13 (by decide)) (fun _ => ?_)
      refine lv_aload_n hx hb dX1_draftChange_39 rfl (lv_at hl 1 rfl) ?_
      refine va_get (D := (dC, dI)) (ci := 1) (v := .ref d) (C := RX1) (T := TX1) (N := 7) hx hb hw inX1 hown hK hP 0 rfl rfl 2 (by decide) (hw _ mA_55) (fun _ h9 => h9) rfl dX1_draftChange_40 ?_
      refine lv_iload_n hx hb dX1_draftChange_43 rfl (lv_at hl 0 rfl) ?_
      refine lv_aload_n hx hb dX1_draftChange_44 rfl (lv_at hl 1 rfl) ?_
      refine va_get (D := (dC, dI)) (ci := 1) (v := .ref n) (C := RX1) (T := TX1) (N := 7) hx hb hw inX1 hown hK hP 0 rfl rfl 0 (by decide) (hw _ mA_53) (fun _ h9 => h9) rfl dX1_draftChange_45 ?_
      refine lv_iload_n hx hb dX1_draftChange_48 rfl (lv_at hl 3 rfl) ?_
      refine lv_iload_n hx hb dX1_draftChange_49 rfl (lv_at hl 0 rfl) ?_
      refine ix_isub hx hb dX1_draftChange_50 ?_
      refine ix_z (y := 1) rfl ?_
      refine ix_iald (k := 1) hx hb hK hP 1 0 rfl rfl (by decide) (by decide) (by decide) dX1_draftChange_51 ?_
      refine ix_iast (k := 0) (x := N 1) hx hb hK hP hD hS 2 0 rfl rfl (by decide) (by decide) (by decide) dX1_draftChange_52 (fun H locs hP hD hS => ?_)
      have hP : va_P (dC, dI) vwCl [(h, .inr (1, [.ref n, .ref r, .ref d, .ref f, .int (iI fc), .int (iI cn), .int (iI sp)])), (n, .inl (cI, 5, .inl (aI N))), (d, .inl (cI, 5, .inl (aI (iu N 0 (N 1)))))] H := hP
      have hD : va_D A [(h, .inr (1, [.ref n, .ref r, .ref d, .ref f, .int (iI fc), .int (iI cn), .int (iI sp)])), (n, .inl (cI, 5, .inl (aI N))), (d, .inl (cI, 5, .inl (aI (iu N 0 (N 1)))))] := hD
      refine ix_iinc (k := 0) (lv2 := [(3, .int (iI 1)), (0, .ref h), (1, .int (iI 2)), (2, .int (iI 1))]) hx hb dX1_draftChange_53 hl rfl (by decide) rfl (fun ls hl => ?_)
      refine lv_goto (tgt := 25) hx hb dX1_draftChange_56 (by decide) ?_
      refine lv_iload_n hx hb dX1_draftChange_25 rfl (lv_at hl 0 rfl) ?_
      refine lv_iload_n hx hb dX1_draftChange_26 rfl (lv_at hl 3 rfl) ?_
      refine ix_icmp_gt (tgt := 59) hx hb dX1_draftChange_27 (by decide) (by decide) (by decide) (fun c14 => absurd c14 (by decide)) (fun _ => ?_)
      refine lv_iload_n hx hb dX1_draftChange_30 rfl (lv_at hl 3 rfl) ?_
      refine lv_aload_n hx hb dX1_draftChange_31 rfl (lv_at hl 1 rfl) ?_
      refine va_get (D := (dC, dI)) (ci := 1) (v := .ref d) (C := RX1) (T := TX1) (N := 7) hx hb hw inX1 hown hK hP 0 rfl rfl 2 (by decide) (hw _ mA_55) (fun _ h9 => h9) rfl dX1_draftChange_32 ?_
      refine va_alen (v := iI 5) hx hb hK hP 2 0 rfl rfl rfl dX1_draftChange_35 ?_
      refine ix_icmp_ge (tgt := 59) hx hb dX1_draftChange_36 (by decide) (by decide) (by decide) (fun c15 => absurd c15 (by decide)) (fun _ => ?_)
      refine lv_aload_n hx hb dX1_draftChange_39 rfl (lv_at hl 1 rfl) ?_
      refine va_get (D := (dC, dI)) (ci := 1) (v := .ref d) (C := RX1) (T := TX1) (N := 7) hx hb hw inX1 hown hK hP 0 rfl rfl 2 (by decide) (hw _ mA_55) (fun _ h9 => h9) rfl dX1_draftChange_40 ?_
      refine lv_iload_n hx hb dX1_draftChange_43 rfl (lv_at hl 0 rfl) ?_
      refine lv_aload_n hx hb dX1_draftChange_44 rfl (lv_at hl 1 rfl) ?_
      refine va_get (D := (dC, dI)) (ci := 1) (v := .ref n) (C := RX1) (T := TX1) (N := 7) hx hb hw inX1 hown hK hP 0 rfl rfl 0 (by decide) (hw _ mA_53) (fun _ h9 => h9) rfl dX1_draftChange_45 ?_
      refine lv_iload_n hx hb dX1_draftChange_48 rfl (lv_at hl 3 rfl) ?_
      refine lv_iload_n hx hb dX1_draftChange_49 rfl (lv_at hl 0 rfl) ?_
      refine ix_isub hx hb dX1_draftChange_50 ?_
      refine ix_z (y := 0) rfl ?_
      refine ix_iald (k := 0) hx hb hK hP 1 0 rfl rfl (by decide) (by decide) (by decide) dX1_draftChange_51 ?_
      refine ix_iast (k := 1) (x := N 0) hx hb hK hP hD hS 2 0 rfl rfl (by decide) (by decide) (by decide) dX1_draftChange_52 (fun H locs hP hD hS => ?_)
      have hP : va_P (dC, dI) vwCl [(h, .inr (1, [.ref n, .ref r, .ref d, .ref f, .int (iI fc), .int (iI cn), .int (iI sp)])), (n, .inl (cI, 5, .inl (aI N))), (d, .inl (cI, 5, .inl (aI (iu (iu N 0 (N 1)) 1 (N 0)))))] H := hP
      have hD : va_D A [(h, .inr (1, [.ref n, .ref r, .ref d, .ref f, .int (iI fc), .int (iI cn), .int (iI sp)])), (n, .inl (cI, 5, .inl (aI N))), (d, .inl (cI, 5, .inl (aI (iu (iu N 0 (N 1)) 1 (N 0)))))] := hD
      refine ix_iinc (k := 0) (lv2 := [(3, .int (iI 2)), (0, .ref h), (1, .int (iI 2)), (2, .int (iI 1))]) hx hb dX1_draftChange_53 hl rfl (by decide) rfl (fun ls hl => ?_)
      refine lv_goto (tgt := 25) hx hb dX1_draftChange_56 (by decide) ?_
      refine lv_iload_n hx hb dX1_draftChange_25 rfl (lv_at hl 0 rfl) ?_
      refine lv_iload_n hx hb dX1_draftChange_26 rfl (lv_at hl 3 rfl) ?_
      refine ix_icmp_gt (tgt := 59) hx hb dX1_draftChange_27 (by decide) (by decide) (by decide) (fun _ => ?_) (fun c16 => absurd c16 (by decide))
      refine lv_goto (tgt := 104) hx hb dX1_draftChange_59 (by decide) ?_
      have e9 : iu (iu N 0 (N 1)) 1 (N 0) = f_chg N 2 1 := (by funext j; rw [chg_2]; unfold iu; grind)
      rw [e9] at hP hD
      have hP9 := hP.sub (ws' := [(h, .inr (1, [.ref n, .ref r, .ref d, .ref f, .int (iI fc), .int (iI cn), .int (iI sp)])), (n, .inl (cI, 5, .inl (aI N))), (d, .inl (cI, 5, .inl (aI (f_chg N 2 1))))]) [0, 1, 2] rfl
      have hD9 := hD.sub (ws' := [(h, .inr (1, [.ref n, .ref r, .ref d, .ref f, .int (iI fc), .int (iI cn), .int (iI sp)])), (n, .inl (cI, 5, .inl (aI N))), (d, .inl (cI, 5, .inl (aI (f_chg N 2 1))))]) [0, 1, 2] (by decide) rfl
      have hK9 := hK.sub (tys' := [(cI, .int)]) [0] rfl
      exact W.vret hx hb hr (fun t ht hW => ⟨⟨(), rfl, trivial, by rw [ht]; exact hP9, va_K.moved hW.alike hK9, hD9⟩, hS.F ht⟩) hS.2.2 dX1_draftChange_104
    · refine ix_iconst (n := 0) hx hb dX1_draftChange_23 ?_
      refine lv_istore_n (lv' := [(3, .int (iI 0)), (0, .ref h), (1, .int (iI 2)), (2, .int (iI 2))]) hx hb dX1_draftChange_24 rfl hl (by decide) rfl (fun ls hl => ?_)
      refine lv_iload_n hx hb dX1_draftChange_25 rfl (lv_at hl 0 rfl) ?_
      refine lv_iload_n hx hb dX1_draftChange_26 rfl (lv_at hl 3 rfl) ?_
      refine ix_icmp_gt (tgt := 59) hx hb dX1_draftChange_27 (by decide) (by decide) (by decide) (fun c17 => absurd c17 (by decide)) (fun _ => ?_)
      refine lv_iload_n hx hb dX1_draftChange_30 rfl (lv_at hl 3 rfl) ?_
      refine lv_aload_n hx hb dX1_draftChange_31 rfl (lv_at hl 1 rfl) ?_
      refine va_get (D := (dC, dI)) (ci := 1) (v := .ref d) (C := RX1) (T := TX1) (N := 7) hx hb hw inX1 hown hK hP 0 rfl rfl 2 (by decide) (hw _ mA_55) (fun _ h9 => h9) rfl dX1_draftChange_32 ?_
      refine va_alen (v := iI 5) hx hb hK hP 2 0 rfl rfl rfl dX1_draftChange_35 ?_
      refine ix_icmp_ge (tgt := 59) hx hb dX1_draftChange_36 (by decide) (by decide) (by decide) (fun c18 => absurd c18 (by decide)) (fun _ => ?_)
      refine lv_aload_n hx hb dX1_draftChange_39 rfl (lv_at hl 1 rfl) ?_
      refine va_get (D := (dC, dI)) (ci := 1) (v := .ref d) (C := RX1) (T := TX1) (N := 7) hx hb hw inX1 hown hK hP 0 rfl rfl 2 (by decide) (hw _ mA_55) (fun _ h9 => h9) rfl dX1_draftChange_40 ?_
      refine lv_iload_n hx hb dX1_draftChange_43 rfl (lv_at hl 0 rfl) ?_
      refine lv_aload_n hx hb dX1_draftChange_44 rfl (lv_at hl 1 rfl) ?_
      refine va_get (D := (dC, dI)) (ci := 1) (v := .ref n) (C := RX1) (T := TX1) (N := 7) hx hb hw inX1 hown hK hP 0 rfl rfl 0 (by decide) (hw _ mA_53) (fun _ h9 => h9) rfl dX1_draftChange_45 ?_
      refine lv_iload_n hx hb dX1_draftChange_48 rfl (lv_at hl 3 rfl) ?_
      refine lv_iload_n hx hb dX1_draftChange_49 rfl (lv_at hl 0 rfl) ?_
      refine ix_isub hx hb dX1_draftChange_50 ?_
      refine ix_z (y := 2) rfl ?_
      refine ix_iald (k := 2) hx hb hK hP 1 0 rfl rfl (by decide) (by decide) (by decide) dX1_draftChange_51 ?_
      refine ix_iast (k := 0) (x := N 2) hx hb hK hP hD hS 2 0 rfl rfl (by decide) (by decide) (by decide) dX1_draftChange_52 (fun H locs hP hD hS => ?_)
      have hP : va_P (dC, dI) vwCl [(h, .inr (1, [.ref n, .ref r, .ref d, .ref f, .int (iI fc), .int (iI cn), .int (iI sp)])), (n, .inl (cI, 5, .inl (aI N))), (d, .inl (cI, 5, .inl (aI (iu N 0 (N 2)))))] H := hP
      have hD : va_D A [(h, .inr (1, [.ref n, .ref r, .ref d, .ref f, .int (iI fc), .int (iI cn), .int (iI sp)])), (n, .inl (cI, 5, .inl (aI N))), (d, .inl (cI, 5, .inl (aI (iu N 0 (N 2)))))] := hD
      refine ix_iinc (k := 0) (lv2 := [(3, .int (iI 1)), (0, .ref h), (1, .int (iI 2)), (2, .int (iI 2))]) hx hb dX1_draftChange_53 hl rfl (by decide) rfl (fun ls hl => ?_)
      refine lv_goto (tgt := 25) hx hb dX1_draftChange_56 (by decide) ?_
      refine lv_iload_n hx hb dX1_draftChange_25 rfl (lv_at hl 0 rfl) ?_
      refine lv_iload_n hx hb dX1_draftChange_26 rfl (lv_at hl 3 rfl) ?_
      refine ix_icmp_gt (tgt := 59) hx hb dX1_draftChange_27 (by decide) (by decide) (by decide) (fun c19 => absurd c19 (by decide)) (fun _ => ?_)
      refine lv_iload_n hx hb dX1_draftChange_30 rfl (lv_at hl 3 rfl) ?_
      refine lv_aload_n hx hb dX1_draftChange_31 rfl (lv_at hl 1 rfl) ?_
      refine va_get (D := (dC, dI)) (ci := 1) (v := .ref d) (C := RX1) (T := TX1) (N := 7) hx hb hw inX1 hown hK hP 0 rfl rfl 2 (by decide) (hw _ mA_55) (fun _ h9 => h9) rfl dX1_draftChange_32 ?_
      refine va_alen (v := iI 5) hx hb hK hP 2 0 rfl rfl rfl dX1_draftChange_35 ?_
      refine ix_icmp_ge (tgt := 59) hx hb dX1_draftChange_36 (by decide) (by decide) (by decide) (fun c20 => absurd c20 (by decide)) (fun _ => ?_)
      refine lv_aload_n hx hb dX1_draftChange_39 rfl (lv_at hl 1 rfl) ?_
      refine va_get (D := (dC, dI)) (ci := 1) (v := .ref d) (C := RX1) (T := TX1) (N := 7) hx hb hw inX1 hown hK hP 0 rfl rfl 2 (by decide) (hw _ mA_55) (fun _ h9 => h9) rfl dX1_draftChange_40 ?_
      refine lv_iload_n hx hb dX1_draftChange_43 rfl (lv_at hl 0 rfl) ?_
      refine lv_aload_n hx hb dX1_draftChange_44 rfl (lv_at hl 1 rfl) ?_
      refine va_get (D := (dC, dI)) (ci := 1) (v := .ref n) (C := RX1) (T := TX1) (N := 7) hx hb hw inX1 hown hK hP 0 rfl rfl 0 (by decide) (hw _ mA_53) (fun _ h9 => h9) rfl dX1_draftChange_45 ?_
      refine lv_iload_n hx hb dX1_draftChange_48 rfl (lv_at hl 3 rfl) ?_
      refine lv_iload_n hx hb dX1_draftChange_49 rfl (lv_at hl 0 rfl) ?_
      refine ix_isub hx hb dX1_draftChange_50 ?_
      refine ix_z (y := 1) rfl ?_
      refine ix_iald (k := 1) hx hb hK hP 1 0 rfl rfl (by decide) (by decide) (by decide) dX1_draftChange_51 ?_
      refine ix_iast (k := 1) (x := N 1) hx hb hK hP hD hS 2 0 rfl rfl (by decide) (by decide) (by decide) dX1_draftChange_52 (fun H locs hP hD hS => ?_)
      have hP : va_P (dC, dI) vwCl [(h, .inr (1, [.ref n, .ref r, .ref d, .ref f, .int (iI fc), .int (iI cn), .int (iI sp)])), (n, .inl (cI, 5, .inl (aI N))), (d, .inl (cI, 5, .inl (aI (iu (iu N 0 (N 2)) 1 (N 1)))))] H := hP
      have hD : va_D A [(h, .inr (1, [.ref n, .ref r, .ref d, .ref f, .int (iI fc), .int (iI cn), .int (iI sp)])), (n, .inl (cI, 5, .inl (aI N))), (d, .inl (cI, 5, .inl (aI (iu (iu N 0 (N 2)) 1 (N 1)))))] := hD
      refine ix_iinc (k := 0) (lv2 := [(3, .int (iI 2)), (0, .ref h), (1, .int (iI 2)), (2, .int (iI 2))]) hx hb dX1_draftChange_53 hl rfl (by decide) rfl (fun ls hl => ?_)
      refine lv_goto (tgt := 25) hx hb dX1_draftChange_56 (by decide) ?_
      refine lv_iload_n hx hb dX1_draftChange_25 rfl (lv_at hl 0 rfl) ?_
      refine lv_iload_n hx hb dX1_draftChange_26 rfl (lv_at hl 3 rfl) ?_
      refine ix_icmp_gt (tgt := 59) hx hb dX1_draftChange_27 (by decide) (by decide) (by decide) (fun c21 => absurd c21 (by decide)) (fun _ => ?_)
      refine lv_iload_n hx hb dX1_draftChange_30 rfl (lv_at hl 3 rfl) ?_
      refine lv_aload_n hx hb dX1_draftChange_31 rfl (lv_at hl 1 rfl) ?_
      refine va_get (D := (dC, dI)) (ci := 1) (v := .ref d) (C := RX1) (T := TX1) (N := 7) hx hb hw inX1 hown hK hP 0 rfl rfl 2 (by decide) (hw _ mA_55) (fun _ h9 => h9) rfl dX1_draftChange_32 ?_
      refine va_alen (v := iI 5) hx hb hK hP 2 0 rfl rfl rfl dX1_draftChange_35 ?_
      refine ix_icmp_ge (tgt := 59) hx hb dX1_draftChange_36 (by decide) (by decide) (by decide) (fun c22 => absurd c22 (by decide)) (fun _ => ?_)
      refine lv_aload_n hx hb dX1_draftChange_39 rfl (lv_at hl 1 rfl) ?_
      refine va_get (D := (dC, dI)) (ci := 1) (v := .ref d) (C := RX1) (T := TX1) (N := 7) hx hb hw inX1 hown hK hP 0 rfl rfl 2 (by decide) (hw _ mA_55) (fun _ h9 => h9) rfl dX1_draftChange_40 ?_
      refine lv_iload_n hx hb dX1_draftChange_43 rfl (lv_at hl 0 rfl) ?_
      refine lv_aload_n hx hb dX1_draftChange_44 rfl (lv_at hl 1 rfl) ?_
      refine va_get (D := (dC, dI)) (ci := 1) (v := .ref n) (C := RX1) (T := TX1) (N := 7) hx hb hw inX1 hown hK hP 0 rfl rfl 0 (by decide) (hw _ mA_53) (fun _ h9 => h9) rfl dX1_draftChange_45 ?_
      refine lv_iload_n hx hb dX1_draftChange_48 rfl (lv_at hl 3 rfl) ?_
      refine lv_iload_n hx hb dX1_draftChange_49 rfl (lv_at hl 0 rfl) ?_
      refine ix_isub hx hb dX1_draftChange_50 ?_
      refine ix_z (y := 0) rfl ?_
      refine ix_iald (k := 0) hx hb hK hP 1 0 rfl rfl (by decide) (by decide) (by decide) dX1_draftChange_51 ?_
      refine ix_iast (k := 2) (x := N 0) hx hb hK hP hD hS 2 0 rfl rfl (by decide) (by decide) (by decide) dX1_draftChange_52 (fun H locs hP hD hS => ?_)
      have hP : va_P (dC, dI) vwCl [(h, .inr (1, [.ref n, .ref r, .ref d, .ref f, .int (iI fc), .int (iI cn), .int (iI sp)])), (n, .inl (cI, 5, .inl (aI N))), (d, .inl (cI, 5, .inl (aI (iu (iu (iu N 0 (N 2)) 1 (N 1)) 2 (N 0)))))] H := hP
      have hD : va_D A [(h, .inr (1, [.ref n, .ref r, .ref d, .ref f, .int (iI fc), .int (iI cn), .int (iI sp)])), (n, .inl (cI, 5, .inl (aI N))), (d, .inl (cI, 5, .inl (aI (iu (iu (iu N 0 (N 2)) 1 (N 1)) 2 (N 0)))))] := hD
      refine ix_iinc (k := 0) (lv2 := [(3, .int (iI 3)), (0, .ref h), (1, .int (iI 2)), (2, .int (iI 2))]) hx hb dX1_draftChange_53 hl rfl (by decide) rfl (fun ls hl => ?_)
      refine lv_goto (tgt := 25) hx hb dX1_draftChange_56 (by decide) ?_
      refine lv_iload_n hx hb dX1_draftChange_25 rfl (lv_at hl 0 rfl) ?_
      refine lv_iload_n hx hb dX1_draftChange_26 rfl (lv_at hl 3 rfl) ?_
      refine ix_icmp_gt (tgt := 59) hx hb dX1_draftChange_27 (by decide) (by decide) (by decide) (fun _ => ?_) (fun c23 => absurd c23 (by decide))
      refine lv_goto (tgt := 104) hx hb dX1_draftChange_59 (by decide) ?_
      have e9 : iu (iu (iu N 0 (N 2)) 1 (N 1)) 2 (N 0) = f_chg N 2 2 := (by funext j; rw [chg_2]; unfold iu; grind)
      rw [e9] at hP hD
      have hP9 := hP.sub (ws' := [(h, .inr (1, [.ref n, .ref r, .ref d, .ref f, .int (iI fc), .int (iI cn), .int (iI sp)])), (n, .inl (cI, 5, .inl (aI N))), (d, .inl (cI, 5, .inl (aI (f_chg N 2 2))))]) [0, 1, 2] rfl
      have hD9 := hD.sub (ws' := [(h, .inr (1, [.ref n, .ref r, .ref d, .ref f, .int (iI fc), .int (iI cn), .int (iI sp)])), (n, .inl (cI, 5, .inl (aI N))), (d, .inl (cI, 5, .inl (aI (f_chg N 2 2))))]) [0, 1, 2] (by decide) rfl
      have hK9 := hK.sub (tys' := [(cI, .int)]) [0] rfl
      exact W.vret hx hb hr (fun t ht hW => ⟨⟨(), rfl, trivial, by rw [ht]; exact hP9, va_K.moved hW.alike hK9, hD9⟩, hS.F ht⟩) hS.2.2 dX1_draftChange_104
    · refine ix_iconst (n := 0) hx hb dX1_draftChange_23 ?_
      refine lv_istore_n (lv' := [(3, .int (iI 0)), (0, .ref h), (1, .int (iI 2)), (2, .int (iI 3))]) hx hb dX1_draftChange_24 rfl hl (by decide) rfl (fun ls hl => ?_)
      refine lv_iload_n hx hb dX1_draftChange_25 rfl (lv_at hl 0 rfl) ?_
      refine lv_iload_n hx hb dX1_draftChange_26 rfl (lv_at hl 3 rfl) ?_
      refine ix_icmp_gt (tgt := 59) hx hb dX1_draftChange_27 (by decide) (by decide) (by decide) (fun c24 => absurd c24 (by decide)) (fun _ => ?_)
      refine lv_iload_n hx hb dX1_draftChange_30 rfl (lv_at hl 3 rfl) ?_
      refine lv_aload_n hx hb dX1_draftChange_31 rfl (lv_at hl 1 rfl) ?_
      refine va_get (D := (dC, dI)) (ci := 1) (v := .ref d) (C := RX1) (T := TX1) (N := 7) hx hb hw inX1 hown hK hP 0 rfl rfl 2 (by decide) (hw _ mA_55) (fun _ h9 => h9) rfl dX1_draftChange_32 ?_
      refine va_alen (v := iI 5) hx hb hK hP 2 0 rfl rfl rfl dX1_draftChange_35 ?_
      refine ix_icmp_ge (tgt := 59) hx hb dX1_draftChange_36 (by decide) (by decide) (by decide) (fun c25 => absurd c25 (by decide)) (fun _ => ?_)
      refine lv_aload_n hx hb dX1_draftChange_39 rfl (lv_at hl 1 rfl) ?_
      refine va_get (D := (dC, dI)) (ci := 1) (v := .ref d) (C := RX1) (T := TX1) (N := 7) hx hb hw inX1 hown hK hP 0 rfl rfl 2 (by decide) (hw _ mA_55) (fun _ h9 => h9) rfl dX1_draftChange_40 ?_
      refine lv_iload_n hx hb dX1_draftChange_43 rfl (lv_at hl 0 rfl) ?_
      refine lv_aload_n hx hb dX1_draftChange_44 rfl (lv_at hl 1 rfl) ?_
      refine va_get (D := (dC, dI)) (ci := 1) (v := .ref n) (C := RX1) (T := TX1) (N := 7) hx hb hw inX1 hown hK hP 0 rfl rfl 0 (by decide) (hw _ mA_53) (fun _ h9 => h9) rfl dX1_draftChange_45 ?_
      refine lv_iload_n hx hb dX1_draftChange_48 rfl (lv_at hl 3 rfl) ?_
      refine lv_iload_n hx hb dX1_draftChange_49 rfl (lv_at hl 0 rfl) ?_
      refine ix_isub hx hb dX1_draftChange_50 ?_
      refine ix_z (y := 3) rfl ?_
      refine ix_iald (k := 3) hx hb hK hP 1 0 rfl rfl (by decide) (by decide) (by decide) dX1_draftChange_51 ?_
      refine ix_iast (k := 0) (x := N 3) hx hb hK hP hD hS 2 0 rfl rfl (by decide) (by decide) (by decide) dX1_draftChange_52 (fun H locs hP hD hS => ?_)
      have hP : va_P (dC, dI) vwCl [(h, .inr (1, [.ref n, .ref r, .ref d, .ref f, .int (iI fc), .int (iI cn), .int (iI sp)])), (n, .inl (cI, 5, .inl (aI N))), (d, .inl (cI, 5, .inl (aI (iu N 0 (N 3)))))] H := hP
      have hD : va_D A [(h, .inr (1, [.ref n, .ref r, .ref d, .ref f, .int (iI fc), .int (iI cn), .int (iI sp)])), (n, .inl (cI, 5, .inl (aI N))), (d, .inl (cI, 5, .inl (aI (iu N 0 (N 3)))))] := hD
      refine ix_iinc (k := 0) (lv2 := [(3, .int (iI 1)), (0, .ref h), (1, .int (iI 2)), (2, .int (iI 3))]) hx hb dX1_draftChange_53 hl rfl (by decide) rfl (fun ls hl => ?_)
      refine lv_goto (tgt := 25) hx hb dX1_draftChange_56 (by decide) ?_
      refine lv_iload_n hx hb dX1_draftChange_25 rfl (lv_at hl 0 rfl) ?_
      refine lv_iload_n hx hb dX1_draftChange_26 rfl (lv_at hl 3 rfl) ?_
      refine ix_icmp_gt (tgt := 59) hx hb dX1_draftChange_27 (by decide) (by decide) (by decide) (fun c26 => absurd c26 (by decide)) (fun _ => ?_)
      refine lv_iload_n hx hb dX1_draftChange_30 rfl (lv_at hl 3 rfl) ?_
      refine lv_aload_n hx hb dX1_draftChange_31 rfl (lv_at hl 1 rfl) ?_
      refine va_get (D := (dC, dI)) (ci := 1) (v := .ref d) (C := RX1) (T := TX1) (N := 7) hx hb hw inX1 hown hK hP 0 rfl rfl 2 (by decide) (hw _ mA_55) (fun _ h9 => h9) rfl dX1_draftChange_32 ?_
      refine va_alen (v := iI 5) hx hb hK hP 2 0 rfl rfl rfl dX1_draftChange_35 ?_
      refine ix_icmp_ge (tgt := 59) hx hb dX1_draftChange_36 (by decide) (by decide) (by decide) (fun c27 => absurd c27 (by decide)) (fun _ => ?_)
      refine lv_aload_n hx hb dX1_draftChange_39 rfl (lv_at hl 1 rfl) ?_
      refine va_get (D := (dC, dI)) (ci := 1) (v := .ref d) (C := RX1) (T := TX1) (N := 7) hx hb hw inX1 hown hK hP 0 rfl rfl 2 (by decide) (hw _ mA_55) (fun _ h9 => h9) rfl dX1_draftChange_40 ?_
      refine lv_iload_n hx hb dX1_draftChange_43 rfl (lv_at hl 0 rfl) ?_
      refine lv_aload_n hx hb dX1_draftChange_44 rfl (lv_at hl 1 rfl) ?_
      refine va_get (D := (dC, dI)) (ci := 1) (v := .ref n) (C := RX1) (T := TX1) (N := 7) hx hb hw inX1 hown hK hP 0 rfl rfl 0 (by decide) (hw _ mA_53) (fun _ h9 => h9) rfl dX1_draftChange_45 ?_
      refine lv_iload_n hx hb dX1_draftChange_48 rfl (lv_at hl 3 rfl) ?_
      refine lv_iload_n hx hb dX1_draftChange_49 rfl (lv_at hl 0 rfl) ?_
      refine ix_isub hx hb dX1_draftChange_50 ?_
      refine ix_z (y := 2) rfl ?_
      refine ix_iald (k := 2) hx hb hK hP 1 0 rfl rfl (by decide) (by decide) (by decide) dX1_draftChange_51 ?_
      refine ix_iast (k := 1) (x := N 2) hx hb hK hP hD hS 2 0 rfl rfl (by decide) (by decide) (by decide) dX1_draftChange_52 (fun H locs hP hD hS => ?_)
      have hP : va_P (dC, dI) vwCl [(h, .inr (1, [.ref n, .ref r, .ref d, .ref f, .int (iI fc), .int (iI cn), .int (iI sp)])), (n, .inl (cI, 5, .inl (aI N))), (d, .inl (cI, 5, .inl (aI (iu (iu N 0 (N 3)) 1 (N 2)))))] H := hP
      have hD : va_D A [(h, .inr (1, [.ref n, .ref r, .ref d, .ref f, .int (iI fc), .int (iI cn), .int (iI sp)])), (n, .inl (cI, 5, .inl (aI N))), (d, .inl (cI, 5, .inl (aI (iu (iu N 0 (N 3)) 1 (N 2)))))] := hD
      refine ix_iinc (k := 0) (lv2 := [(3, .int (iI 2)), (0, .ref h), (1, .int (iI 2)), (2, .int (iI 3))]) hx hb dX1_draftChange_53 hl rfl (by decide) rfl (fun ls hl => ?_)
      refine lv_goto (tgt := 25) hx hb dX1_draftChange_56 (by decide) ?_
      refine lv_iload_n hx hb dX1_draftChange_25 rfl (lv_at hl 0 rfl) ?_
      refine lv_iload_n hx hb dX1_draftChange_26 rfl (lv_at hl 3 rfl) ?_
      refine ix_icmp_gt (tgt := 59) hx hb dX1_draftChange_27 (by decide) (by decide) (by decide) (fun c28 => absurd c28 (by decide)) (fun _ => ?_)
      refine lv_iload_n hx hb dX1_draftChange_30 rfl (lv_at hl 3 rfl) ?_
      refine lv_aload_n hx hb dX1_draftChange_31 rfl (lv_at hl 1 rfl) ?_
      refine va_get (D := (dC, dI)) (ci := 1) (v := .ref d) (C := RX1) (T := TX1) (N := 7) hx hb hw inX1 hown hK hP 0 rfl rfl 2 (by decide) (hw _ mA_55) (fun _ h9 => h9) rfl dX1_draftChange_32 ?_
      refine va_alen (v := iI 5) hx hb hK hP 2 0 rfl rfl rfl dX1_draftChange_35 ?_
      refine ix_icmp_ge (tgt := 59) hx hb dX1_draftChange_36 (by decide) (by decide) (by decide) (fun c29 => absurd c29 (by decide)) (fun _ => ?_)
      refine lv_aload_n hx hb dX1_draftChange_39 rfl (lv_at hl 1 rfl) ?_
      refine va_get (D := (dC, dI)) (ci := 1) (v := .ref d) (C := RX1) (T := TX1) (N := 7) hx hb hw inX1 hown hK hP 0 rfl rfl 2 (by decide) (hw _ mA_55) (fun _ h9 => h9) rfl dX1_draftChange_40 ?_
      refine lv_iload_n hx hb dX1_draftChange_43 rfl (lv_at hl 0 rfl) ?_
      refine lv_aload_n hx hb dX1_draftChange_44 rfl (lv_at hl 1 rfl) ?_
      refine va_get (D := (dC, dI)) (ci := 1) (v := .ref n) (C := RX1) (T := TX1) (N := 7) hx hb hw inX1 hown hK hP 0 rfl rfl 0 (by decide) (hw _ mA_53) (fun _ h9 => h9) rfl dX1_draftChange_45 ?_
      refine lv_iload_n hx hb dX1_draftChange_48 rfl (lv_at hl 3 rfl) ?_
      refine lv_iload_n hx hb dX1_draftChange_49 rfl (lv_at hl 0 rfl) ?_
      refine ix_isub hx hb dX1_draftChange_50 ?_
      refine ix_z (y := 1) rfl ?_
      refine ix_iald (k := 1) hx hb hK hP 1 0 rfl rfl (by decide) (by decide) (by decide) dX1_draftChange_51 ?_
      refine ix_iast (k := 2) (x := N 1) hx hb hK hP hD hS 2 0 rfl rfl (by decide) (by decide) (by decide) dX1_draftChange_52 (fun H locs hP hD hS => ?_)
      have hP : va_P (dC, dI) vwCl [(h, .inr (1, [.ref n, .ref r, .ref d, .ref f, .int (iI fc), .int (iI cn), .int (iI sp)])), (n, .inl (cI, 5, .inl (aI N))), (d, .inl (cI, 5, .inl (aI (iu (iu (iu N 0 (N 3)) 1 (N 2)) 2 (N 1)))))] H := hP
      have hD : va_D A [(h, .inr (1, [.ref n, .ref r, .ref d, .ref f, .int (iI fc), .int (iI cn), .int (iI sp)])), (n, .inl (cI, 5, .inl (aI N))), (d, .inl (cI, 5, .inl (aI (iu (iu (iu N 0 (N 3)) 1 (N 2)) 2 (N 1)))))] := hD
      refine ix_iinc (k := 0) (lv2 := [(3, .int (iI 3)), (0, .ref h), (1, .int (iI 2)), (2, .int (iI 3))]) hx hb dX1_draftChange_53 hl rfl (by decide) rfl (fun ls hl => ?_)
      refine lv_goto (tgt := 25) hx hb dX1_draftChange_56 (by decide) ?_
      refine lv_iload_n hx hb dX1_draftChange_25 rfl (lv_at hl 0 rfl) ?_
      refine lv_iload_n hx hb dX1_draftChange_26 rfl (lv_at hl 3 rfl) ?_
      refine ix_icmp_gt (tgt := 59) hx hb dX1_draftChange_27 (by decide) (by decide) (by decide) (fun c30 => absurd c30 (by decide)) (fun _ => ?_)
      refine lv_iload_n hx hb dX1_draftChange_30 rfl (lv_at hl 3 rfl) ?_
      refine lv_aload_n hx hb dX1_draftChange_31 rfl (lv_at hl 1 rfl) ?_
      refine va_get (D := (dC, dI)) (ci := 1) (v := .ref d) (C := RX1) (T := TX1) (N := 7) hx hb hw inX1 hown hK hP 0 rfl rfl 2 (by decide) (hw _ mA_55) (fun _ h9 => h9) rfl dX1_draftChange_32 ?_
      refine va_alen (v := iI 5) hx hb hK hP 2 0 rfl rfl rfl dX1_draftChange_35 ?_
      refine ix_icmp_ge (tgt := 59) hx hb dX1_draftChange_36 (by decide) (by decide) (by decide) (fun c31 => absurd c31 (by decide)) (fun _ => ?_)
      refine lv_aload_n hx hb dX1_draftChange_39 rfl (lv_at hl 1 rfl) ?_
      refine va_get (D := (dC, dI)) (ci := 1) (v := .ref d) (C := RX1) (T := TX1) (N := 7) hx hb hw inX1 hown hK hP 0 rfl rfl 2 (by decide) (hw _ mA_55) (fun _ h9 => h9) rfl dX1_draftChange_40 ?_
      refine lv_iload_n hx hb dX1_draftChange_43 rfl (lv_at hl 0 rfl) ?_
      refine lv_aload_n hx hb dX1_draftChange_44 rfl (lv_at hl 1 rfl) ?_
      refine va_get (D := (dC, dI)) (ci := 1) (v := .ref n) (C := RX1) (T := TX1) (N := 7) hx hb hw inX1 hown hK hP 0 rfl rfl 0 (by decide) (hw _ mA_53) (fun _ h9 => h9) rfl dX1_draftChange_45 ?_
      refine lv_iload_n hx hb dX1_draftChange_48 rfl (lv_at hl 3 rfl) ?_
      refine lv_iload_n hx hb dX1_draftChange_49 rfl (lv_at hl 0 rfl) ?_
      refine ix_isub hx hb dX1_draftChange_50 ?_
      refine ix_z (y := 0) rfl ?_
      refine ix_iald (k := 0) hx hb hK hP 1 0 rfl rfl (by decide) (by decide) (by decide) dX1_draftChange_51 ?_
      refine ix_iast (k := 3) (x := N 0) hx hb hK hP hD hS 2 0 rfl rfl (by decide) (by decide) (by decide) dX1_draftChange_52 (fun H locs hP hD hS => ?_)
      have hP : va_P (dC, dI) vwCl [(h, .inr (1, [.ref n, .ref r, .ref d, .ref f, .int (iI fc), .int (iI cn), .int (iI sp)])), (n, .inl (cI, 5, .inl (aI N))), (d, .inl (cI, 5, .inl (aI (iu (iu (iu (iu N 0 (N 3)) 1 (N 2)) 2 (N 1)) 3 (N 0)))))] H := hP
      have hD : va_D A [(h, .inr (1, [.ref n, .ref r, .ref d, .ref f, .int (iI fc), .int (iI cn), .int (iI sp)])), (n, .inl (cI, 5, .inl (aI N))), (d, .inl (cI, 5, .inl (aI (iu (iu (iu (iu N 0 (N 3)) 1 (N 2)) 2 (N 1)) 3 (N 0)))))] := hD
      refine ix_iinc (k := 0) (lv2 := [(3, .int (iI 4)), (0, .ref h), (1, .int (iI 2)), (2, .int (iI 3))]) hx hb dX1_draftChange_53 hl rfl (by decide) rfl (fun ls hl => ?_)
      refine lv_goto (tgt := 25) hx hb dX1_draftChange_56 (by decide) ?_
      refine lv_iload_n hx hb dX1_draftChange_25 rfl (lv_at hl 0 rfl) ?_
      refine lv_iload_n hx hb dX1_draftChange_26 rfl (lv_at hl 3 rfl) ?_
      refine ix_icmp_gt (tgt := 59) hx hb dX1_draftChange_27 (by decide) (by decide) (by decide) (fun _ => ?_) (fun c32 => absurd c32 (by decide))
      refine lv_goto (tgt := 104) hx hb dX1_draftChange_59 (by decide) ?_
      have e9 : iu (iu (iu (iu N 0 (N 3)) 1 (N 2)) 2 (N 1)) 3 (N 0) = f_chg N 2 3 := (by funext j; rw [chg_2]; unfold iu; grind)
      rw [e9] at hP hD
      have hP9 := hP.sub (ws' := [(h, .inr (1, [.ref n, .ref r, .ref d, .ref f, .int (iI fc), .int (iI cn), .int (iI sp)])), (n, .inl (cI, 5, .inl (aI N))), (d, .inl (cI, 5, .inl (aI (f_chg N 2 3))))]) [0, 1, 2] rfl
      have hD9 := hD.sub (ws' := [(h, .inr (1, [.ref n, .ref r, .ref d, .ref f, .int (iI fc), .int (iI cn), .int (iI sp)])), (n, .inl (cI, 5, .inl (aI N))), (d, .inl (cI, 5, .inl (aI (f_chg N 2 3))))]) [0, 1, 2] (by decide) rfl
      have hK9 := hK.sub (tys' := [(cI, .int)]) [0] rfl
      exact W.vret hx hb hr (fun t ht hW => ⟨⟨(), rfl, trivial, by rw [ht]; exact hP9, va_K.moved hW.alike hK9, hD9⟩, hS.F ht⟩) hS.2.2 dX1_draftChange_104
    · refine ix_iconst (n := 0) hx hb dX1_draftChange_23 ?_
      refine lv_istore_n (lv' := [(3, .int (iI 0)), (0, .ref h), (1, .int (iI 2)), (2, .int (iI 4))]) hx hb dX1_draftChange_24 rfl hl (by decide) rfl (fun ls hl => ?_)
      refine lv_iload_n hx hb dX1_draftChange_25 rfl (lv_at hl 0 rfl) ?_
      refine lv_iload_n hx hb dX1_draftChange_26 rfl (lv_at hl 3 rfl) ?_
      refine ix_icmp_gt (tgt := 59) hx hb dX1_draftChange_27 (by decide) (by decide) (by decide) (fun c33 => absurd c33 (by decide)) (fun _ => ?_)
      refine lv_iload_n hx hb dX1_draftChange_30 rfl (lv_at hl 3 rfl) ?_
      refine lv_aload_n hx hb dX1_draftChange_31 rfl (lv_at hl 1 rfl) ?_
      refine va_get (D := (dC, dI)) (ci := 1) (v := .ref d) (C := RX1) (T := TX1) (N := 7) hx hb hw inX1 hown hK hP 0 rfl rfl 2 (by decide) (hw _ mA_55) (fun _ h9 => h9) rfl dX1_draftChange_32 ?_
      refine va_alen (v := iI 5) hx hb hK hP 2 0 rfl rfl rfl dX1_draftChange_35 ?_
      refine ix_icmp_ge (tgt := 59) hx hb dX1_draftChange_36 (by decide) (by decide) (by decide) (fun c34 => absurd c34 (by decide)) (fun _ => ?_)
      refine lv_aload_n hx hb dX1_draftChange_39 rfl (lv_at hl 1 rfl) ?_
      refine va_get (D := (dC, dI)) (ci := 1) (v := .ref d) (C := RX1) (T := TX1) (N := 7) hx hb hw inX1 hown hK hP 0 rfl rfl 2 (by decide) (hw _ mA_55) (fun _ h9 => h9) rfl dX1_draftChange_40 ?_
      refine lv_iload_n hx hb dX1_draftChange_43 rfl (lv_at hl 0 rfl) ?_
      refine lv_aload_n hx hb dX1_draftChange_44 rfl (lv_at hl 1 rfl) ?_
      refine va_get (D := (dC, dI)) (ci := 1) (v := .ref n) (C := RX1) (T := TX1) (N := 7) hx hb hw inX1 hown hK hP 0 rfl rfl 0 (by decide) (hw _ mA_53) (fun _ h9 => h9) rfl dX1_draftChange_45 ?_
      refine lv_iload_n hx hb dX1_draftChange_48 rfl (lv_at hl 3 rfl) ?_
      refine lv_iload_n hx hb dX1_draftChange_49 rfl (lv_at hl 0 rfl) ?_
      refine ix_isub hx hb dX1_draftChange_50 ?_
      refine ix_z (y := 4) rfl ?_
      refine ix_iald (k := 4) hx hb hK hP 1 0 rfl rfl (by decide) (by decide) (by decide) dX1_draftChange_51 ?_
      refine ix_iast (k := 0) (x := N 4) hx hb hK hP hD hS 2 0 rfl rfl (by decide) (by decide) (by decide) dX1_draftChange_52 (fun H locs hP hD hS => ?_)
      have hP : va_P (dC, dI) vwCl [(h, .inr (1, [.ref n, .ref r, .ref d, .ref f, .int (iI fc), .int (iI cn), .int (iI sp)])), (n, .inl (cI, 5, .inl (aI N))), (d, .inl (cI, 5, .inl (aI (iu N 0 (N 4)))))] H := hP
      have hD : va_D A [(h, .inr (1, [.ref n, .ref r, .ref d, .ref f, .int (iI fc), .int (iI cn), .int (iI sp)])), (n, .inl (cI, 5, .inl (aI N))), (d, .inl (cI, 5, .inl (aI (iu N 0 (N 4)))))] := hD
      refine ix_iinc (k := 0) (lv2 := [(3, .int (iI 1)), (0, .ref h), (1, .int (iI 2)), (2, .int (iI 4))]) hx hb dX1_draftChange_53 hl rfl (by decide) rfl (fun ls hl => ?_)
      refine lv_goto (tgt := 25) hx hb dX1_draftChange_56 (by decide) ?_
      refine lv_iload_n hx hb dX1_draftChange_25 rfl (lv_at hl 0 rfl) ?_
      refine lv_iload_n hx hb dX1_draftChange_26 rfl (lv_at hl 3 rfl) ?_
      refine ix_icmp_gt (tgt := 59) hx hb dX1_draftChange_27 (by decide) (by decide) (by decide) (fun c35 => absurd c35 (by decide)) (fun _ => ?_)
      refine lv_iload_n hx hb dX1_draftChange_30 rfl (lv_at hl 3 rfl) ?_
      refine lv_aload_n hx hb dX1_draftChange_31 rfl (lv_at hl 1 rfl) ?_
      refine va_get (D := (dC, dI)) (ci := 1) (v := .ref d) (C := RX1) (T := TX1) (N := 7) hx hb hw inX1 hown hK hP 0 rfl rfl 2 (by decide) (hw _ mA_55) (fun _ h9 => h9) rfl dX1_draftChange_32 ?_
      refine va_alen (v := iI 5) hx hb hK hP 2 0 rfl rfl rfl dX1_draftChange_35 ?_
      refine ix_icmp_ge (tgt := 59) hx hb dX1_draftChange_36 (by decide) (by decide) (by decide) (fun c36 => absurd c36 (by decide)) (fun _ => ?_)
      refine lv_aload_n hx hb dX1_draftChange_39 rfl (lv_at hl 1 rfl) ?_
      refine va_get (D := (dC, dI)) (ci := 1) (v := .ref d) (C := RX1) (T := TX1) (N := 7) hx hb hw inX1 hown hK hP 0 rfl rfl 2 (by decide) (hw _ mA_55) (fun _ h9 => h9) rfl dX1_draftChange_40 ?_
      refine lv_iload_n hx hb dX1_draftChange_43 rfl (lv_at hl 0 rfl) ?_
      refine lv_aload_n hx hb dX1_draftChange_44 rfl (lv_at hl 1 rfl) ?_
      refine va_get (D := (dC, dI)) (ci := 1) (v := .ref n) (C := RX1) (T := TX1) (N := 7) hx hb hw inX1 hown hK hP 0 rfl rfl 0 (by decide) (hw _ mA_53) (fun _ h9 => h9) rfl dX1_draftChange_45 ?_
      refine lv_iload_n hx hb dX1_draftChange_48 rfl (lv_at hl 3 rfl) ?_
      refine lv_iload_n hx hb dX1_draftChange_49 rfl (lv_at hl 0 rfl) ?_
      refine ix_isub hx hb dX1_draftChange_50 ?_
      refine ix_z (y := 3) rfl ?_
      refine ix_iald (k := 3) hx hb hK hP 1 0 rfl rfl (by decide) (by decide) (by decide) dX1_draftChange_51 ?_
      refine ix_iast (k := 1) (x := N 3) hx hb hK hP hD hS 2 0 rfl rfl (by decide) (by decide) (by decide) dX1_draftChange_52 (fun H locs hP hD hS => ?_)
      have hP : va_P (dC, dI) vwCl [(h, .inr (1, [.ref n, .ref r, .ref d, .ref f, .int (iI fc), .int (iI cn), .int (iI sp)])), (n, .inl (cI, 5, .inl (aI N))), (d, .inl (cI, 5, .inl (aI (iu (iu N 0 (N 4)) 1 (N 3)))))] H := hP
      have hD : va_D A [(h, .inr (1, [.ref n, .ref r, .ref d, .ref f, .int (iI fc), .int (iI cn), .int (iI sp)])), (n, .inl (cI, 5, .inl (aI N))), (d, .inl (cI, 5, .inl (aI (iu (iu N 0 (N 4)) 1 (N 3)))))] := hD
      refine ix_iinc (k := 0) (lv2 := [(3, .int (iI 2)), (0, .ref h), (1, .int (iI 2)), (2, .int (iI 4))]) hx hb dX1_draftChange_53 hl rfl (by decide) rfl (fun ls hl => ?_)
      refine lv_goto (tgt := 25) hx hb dX1_draftChange_56 (by decide) ?_
      refine lv_iload_n hx hb dX1_draftChange_25 rfl (lv_at hl 0 rfl) ?_
      refine lv_iload_n hx hb dX1_draftChange_26 rfl (lv_at hl 3 rfl) ?_
      refine ix_icmp_gt (tgt := 59) hx hb dX1_draftChange_27 (by decide) (by decide) (by decide) (fun c37 => absurd c37 (by decide)) (fun _ => ?_)
      refine lv_iload_n hx hb dX1_draftChange_30 rfl (lv_at hl 3 rfl) ?_
      refine lv_aload_n hx hb dX1_draftChange_31 rfl (lv_at hl 1 rfl) ?_
      refine va_get (D := (dC, dI)) (ci := 1) (v := .ref d) (C := RX1) (T := TX1) (N := 7) hx hb hw inX1 hown hK hP 0 rfl rfl 2 (by decide) (hw _ mA_55) (fun _ h9 => h9) rfl dX1_draftChange_32 ?_
      refine va_alen (v := iI 5) hx hb hK hP 2 0 rfl rfl rfl dX1_draftChange_35 ?_
      refine ix_icmp_ge (tgt := 59) hx hb dX1_draftChange_36 (by decide) (by decide) (by decide) (fun c38 => absurd c38 (by decide)) (fun _ => ?_)
      refine lv_aload_n hx hb dX1_draftChange_39 rfl (lv_at hl 1 rfl) ?_
      refine va_get (D := (dC, dI)) (ci := 1) (v := .ref d) (C := RX1) (T := TX1) (N := 7) hx hb hw inX1 hown hK hP 0 rfl rfl 2 (by decide) (hw _ mA_55) (fun _ h9 => h9) rfl dX1_draftChange_40 ?_
      refine lv_iload_n hx hb dX1_draftChange_43 rfl (lv_at hl 0 rfl) ?_
      refine lv_aload_n hx hb dX1_draftChange_44 rfl (lv_at hl 1 rfl) ?_
      refine va_get (D := (dC, dI)) (ci := 1) (v := .ref n) (C := RX1) (T := TX1) (N := 7) hx hb hw inX1 hown hK hP 0 rfl rfl 0 (by decide) (hw _ mA_53) (fun _ h9 => h9) rfl dX1_draftChange_45 ?_
      refine lv_iload_n hx hb dX1_draftChange_48 rfl (lv_at hl 3 rfl) ?_
      refine lv_iload_n hx hb dX1_draftChange_49 rfl (lv_at hl 0 rfl) ?_
      refine ix_isub hx hb dX1_draftChange_50 ?_
      refine ix_z (y := 2) rfl ?_
      refine ix_iald (k := 2) hx hb hK hP 1 0 rfl rfl (by decide) (by decide) (by decide) dX1_draftChange_51 ?_
      refine ix_iast (k := 2) (x := N 2) hx hb hK hP hD hS 2 0 rfl rfl (by decide) (by decide) (by decide) dX1_draftChange_52 (fun H locs hP hD hS => ?_)
      have hP : va_P (dC, dI) vwCl [(h, .inr (1, [.ref n, .ref r, .ref d, .ref f, .int (iI fc), .int (iI cn), .int (iI sp)])), (n, .inl (cI, 5, .inl (aI N))), (d, .inl (cI, 5, .inl (aI (iu (iu (iu N 0 (N 4)) 1 (N 3)) 2 (N 2)))))] H := hP
      have hD : va_D A [(h, .inr (1, [.ref n, .ref r, .ref d, .ref f, .int (iI fc), .int (iI cn), .int (iI sp)])), (n, .inl (cI, 5, .inl (aI N))), (d, .inl (cI, 5, .inl (aI (iu (iu (iu N 0 (N 4)) 1 (N 3)) 2 (N 2)))))] := hD
      refine ix_iinc (k := 0) (lv2 := [(3, .int (iI 3)), (0, .ref h), (1, .int (iI 2)), (2, .int (iI 4))]) hx hb dX1_draftChange_53 hl rfl (by decide) rfl (fun ls hl => ?_)
      refine lv_goto (tgt := 25) hx hb dX1_draftChange_56 (by decide) ?_
      refine lv_iload_n hx hb dX1_draftChange_25 rfl (lv_at hl 0 rfl) ?_
      refine lv_iload_n hx hb dX1_draftChange_26 rfl (lv_at hl 3 rfl) ?_
      refine ix_icmp_gt (tgt := 59) hx hb dX1_draftChange_27 (by decide) (by decide) (by decide) (fun c39 => absurd c39 (by decide)) (fun _ => ?_)
      refine lv_iload_n hx hb dX1_draftChange_30 rfl (lv_at hl 3 rfl) ?_
      refine lv_aload_n hx hb dX1_draftChange_31 rfl (lv_at hl 1 rfl) ?_
      refine va_get (D := (dC, dI)) (ci := 1) (v := .ref d) (C := RX1) (T := TX1) (N := 7) hx hb hw inX1 hown hK hP 0 rfl rfl 2 (by decide) (hw _ mA_55) (fun _ h9 => h9) rfl dX1_draftChange_32 ?_
      refine va_alen (v := iI 5) hx hb hK hP 2 0 rfl rfl rfl dX1_draftChange_35 ?_
      refine ix_icmp_ge (tgt := 59) hx hb dX1_draftChange_36 (by decide) (by decide) (by decide) (fun c40 => absurd c40 (by decide)) (fun _ => ?_)
      refine lv_aload_n hx hb dX1_draftChange_39 rfl (lv_at hl 1 rfl) ?_
      refine va_get (D := (dC, dI)) (ci := 1) (v := .ref d) (C := RX1) (T := TX1) (N := 7) hx hb hw inX1 hown hK hP 0 rfl rfl 2 (by decide) (hw _ mA_55) (fun _ h9 => h9) rfl dX1_draftChange_40 ?_
      refine lv_iload_n hx hb dX1_draftChange_43 rfl (lv_at hl 0 rfl) ?_
      refine lv_aload_n hx hb dX1_draftChange_44 rfl (lv_at hl 1 rfl) ?_
      refine va_get (D := (dC, dI)) (ci := 1) (v := .ref n) (C := RX1) (T := TX1) (N := 7) hx hb hw inX1 hown hK hP 0 rfl rfl 0 (by decide) (hw _ mA_53) (fun _ h9 => h9) rfl dX1_draftChange_45 ?_
      refine lv_iload_n hx hb dX1_draftChange_48 rfl (lv_at hl 3 rfl) ?_
      refine lv_iload_n hx hb dX1_draftChange_49 rfl (lv_at hl 0 rfl) ?_
      refine ix_isub hx hb dX1_draftChange_50 ?_
      refine ix_z (y := 1) rfl ?_
      refine ix_iald (k := 1) hx hb hK hP 1 0 rfl rfl (by decide) (by decide) (by decide) dX1_draftChange_51 ?_
      refine ix_iast (k := 3) (x := N 1) hx hb hK hP hD hS 2 0 rfl rfl (by decide) (by decide) (by decide) dX1_draftChange_52 (fun H locs hP hD hS => ?_)
      have hP : va_P (dC, dI) vwCl [(h, .inr (1, [.ref n, .ref r, .ref d, .ref f, .int (iI fc), .int (iI cn), .int (iI sp)])), (n, .inl (cI, 5, .inl (aI N))), (d, .inl (cI, 5, .inl (aI (iu (iu (iu (iu N 0 (N 4)) 1 (N 3)) 2 (N 2)) 3 (N 1)))))] H := hP
      have hD : va_D A [(h, .inr (1, [.ref n, .ref r, .ref d, .ref f, .int (iI fc), .int (iI cn), .int (iI sp)])), (n, .inl (cI, 5, .inl (aI N))), (d, .inl (cI, 5, .inl (aI (iu (iu (iu (iu N 0 (N 4)) 1 (N 3)) 2 (N 2)) 3 (N 1)))))] := hD
      refine ix_iinc (k := 0) (lv2 := [(3, .int (iI 4)), (0, .ref h), (1, .int (iI 2)), (2, .int (iI 4))]) hx hb dX1_draftChange_53 hl rfl (by decide) rfl (fun ls hl => ?_)
      refine lv_goto (tgt := 25) hx hb dX1_draftChange_56 (by decide) ?_
      refine lv_iload_n hx hb dX1_draftChange_25 rfl (lv_at hl 0 rfl) ?_
      refine lv_iload_n hx hb dX1_draftChange_26 rfl (lv_at hl 3 rfl) ?_
      refine ix_icmp_gt (tgt := 59) hx hb dX1_draftChange_27 (by decide) (by decide) (by decide) (fun c41 => absurd c41 (by decide)) (fun _ => ?_)
      refine lv_iload_n hx hb dX1_draftChange_30 rfl (lv_at hl 3 rfl) ?_
      refine lv_aload_n hx hb dX1_draftChange_31 rfl (lv_at hl 1 rfl) ?_
      refine va_get (D := (dC, dI)) (ci := 1) (v := .ref d) (C := RX1) (T := TX1) (N := 7) hx hb hw inX1 hown hK hP 0 rfl rfl 2 (by decide) (hw _ mA_55) (fun _ h9 => h9) rfl dX1_draftChange_32 ?_
      refine va_alen (v := iI 5) hx hb hK hP 2 0 rfl rfl rfl dX1_draftChange_35 ?_
      refine ix_icmp_ge (tgt := 59) hx hb dX1_draftChange_36 (by decide) (by decide) (by decide) (fun c42 => absurd c42 (by decide)) (fun _ => ?_)
      refine lv_aload_n hx hb dX1_draftChange_39 rfl (lv_at hl 1 rfl) ?_
      refine va_get (D := (dC, dI)) (ci := 1) (v := .ref d) (C := RX1) (T := TX1) (N := 7) hx hb hw inX1 hown hK hP 0 rfl rfl 2 (by decide) (hw _ mA_55) (fun _ h9 => h9) rfl dX1_draftChange_40 ?_
      refine lv_iload_n hx hb dX1_draftChange_43 rfl (lv_at hl 0 rfl) ?_
      refine lv_aload_n hx hb dX1_draftChange_44 rfl (lv_at hl 1 rfl) ?_
      refine va_get (D := (dC, dI)) (ci := 1) (v := .ref n) (C := RX1) (T := TX1) (N := 7) hx hb hw inX1 hown hK hP 0 rfl rfl 0 (by decide) (hw _ mA_53) (fun _ h9 => h9) rfl dX1_draftChange_45 ?_
      refine lv_iload_n hx hb dX1_draftChange_48 rfl (lv_at hl 3 rfl) ?_
      refine lv_iload_n hx hb dX1_draftChange_49 rfl (lv_at hl 0 rfl) ?_
      refine ix_isub hx hb dX1_draftChange_50 ?_
      refine ix_z (y := 0) rfl ?_
      refine ix_iald (k := 0) hx hb hK hP 1 0 rfl rfl (by decide) (by decide) (by decide) dX1_draftChange_51 ?_
      refine ix_iast (k := 4) (x := N 0) hx hb hK hP hD hS 2 0 rfl rfl (by decide) (by decide) (by decide) dX1_draftChange_52 (fun H locs hP hD hS => ?_)
      have hP : va_P (dC, dI) vwCl [(h, .inr (1, [.ref n, .ref r, .ref d, .ref f, .int (iI fc), .int (iI cn), .int (iI sp)])), (n, .inl (cI, 5, .inl (aI N))), (d, .inl (cI, 5, .inl (aI (iu (iu (iu (iu (iu N 0 (N 4)) 1 (N 3)) 2 (N 2)) 3 (N 1)) 4 (N 0)))))] H := hP
      have hD : va_D A [(h, .inr (1, [.ref n, .ref r, .ref d, .ref f, .int (iI fc), .int (iI cn), .int (iI sp)])), (n, .inl (cI, 5, .inl (aI N))), (d, .inl (cI, 5, .inl (aI (iu (iu (iu (iu (iu N 0 (N 4)) 1 (N 3)) 2 (N 2)) 3 (N 1)) 4 (N 0)))))] := hD
      refine ix_iinc (k := 0) (lv2 := [(3, .int (iI 5)), (0, .ref h), (1, .int (iI 2)), (2, .int (iI 4))]) hx hb dX1_draftChange_53 hl rfl (by decide) rfl (fun ls hl => ?_)
      refine lv_goto (tgt := 25) hx hb dX1_draftChange_56 (by decide) ?_
      refine lv_iload_n hx hb dX1_draftChange_25 rfl (lv_at hl 0 rfl) ?_
      refine lv_iload_n hx hb dX1_draftChange_26 rfl (lv_at hl 3 rfl) ?_
      refine ix_icmp_gt (tgt := 59) hx hb dX1_draftChange_27 (by decide) (by decide) (by decide) (fun _ => ?_) (fun c43 => absurd c43 (by decide))
      refine lv_goto (tgt := 104) hx hb dX1_draftChange_59 (by decide) ?_
      have e9 : iu (iu (iu (iu (iu N 0 (N 4)) 1 (N 3)) 2 (N 2)) 3 (N 1)) 4 (N 0) = f_chg N 2 4 := (by funext j; rw [chg_2]; unfold iu; grind)
      rw [e9] at hP hD
      have hP9 := hP.sub (ws' := [(h, .inr (1, [.ref n, .ref r, .ref d, .ref f, .int (iI fc), .int (iI cn), .int (iI sp)])), (n, .inl (cI, 5, .inl (aI N))), (d, .inl (cI, 5, .inl (aI (f_chg N 2 4))))]) [0, 1, 2] rfl
      have hD9 := hD.sub (ws' := [(h, .inr (1, [.ref n, .ref r, .ref d, .ref f, .int (iI fc), .int (iI cn), .int (iI sp)])), (n, .inl (cI, 5, .inl (aI N))), (d, .inl (cI, 5, .inl (aI (f_chg N 2 4))))]) [0, 1, 2] (by decide) rfl
      have hK9 := hK.sub (tys' := [(cI, .int)]) [0] rfl
      exact W.vret hx hb hr (fun t ht hW => ⟨⟨(), rfl, trivial, by rw [ht]; exact hP9, va_K.moved hW.alike hK9, hD9⟩, hS.F ht⟩) hS.2.2 dX1_draftChange_104
set_option maxHeartbeats 4000000 in
set_option maxRecDepth 100000 in
theorem kX1_change (l : Launch) (hlt : l.stackTraces = false) (dC : Nat → ClassId) (dI : Nat → Nat → Nat) (sz : Nat) (h n r d f y0 y1 y2 y3 : Nat) (cI cF : ClassId) (N R D : Int → Int) (cn fc sp : Int) (Fs : Int → Int → Int) (hci : CI N R D cn fc sp Fs) (how : Int) (hh : r32 how) : vx_Met l yX1_change (.code yX1_change cX1_change 7 (some .boolean) :: wsA) ({ frames := 7, cells := 1, slots := 6, locals := 160 }) (va_Pc [.ref h, .int (iI how)] (fun U => U.heap.size = sz ∧ va_P (dC, dI) vwCl (cw h n r d f cI cF N R D cn fc sp y0 y1 y2 y3 Fs) U.heap ∧ va_K (dC, dI) vwCl [(cI, .int), (cF, .object RX0)] U ∧ va_D (fun _ => True) (cw h n r d f cI cF N R D cn fc sp y0 y1 y2 y3 Fs) ∧ nb U ∧ zt (va_A (cw h n r d f cI cF N R D cn fc sp y0 y1 y2 y3 Fs) sz) U)) (va_Qi (fun r9 u => (-1 ≤ how ∧ how ≤ 2) ∧ u.1 = f_cnew N how ∧ CIu u.1 u.2 ∧ r9 = iI (f_cok N how)) (fun (u : (Int → Int) × CS) t9 => va_P (dC, dI) vwCl (cwu h n r d f cI cF u.1 u.2) t9.heap ∧ va_K (dC, dI) vwCl [(cI, .int), (cF, .object RX0)] t9 ∧ va_D (va_A (cw h n r d f cI cF N R D cn fc sp y0 y1 y2 y3 Fs) sz) (cwu h n r d f cI cF u.1 u.2)) (va_A (cw h n r d f cI cF N R D cn fc sp y0 y1 y2 y3 Fs) sz)) (vx_X (fun u : CS => CIu N u) (fun E u t9 => (E = EIAE ∧ ¬ (-1 ≤ how ∧ how ≤ 2)) ∧ va_P (dC, dI) vwCl (cwu h n r d f cI cF N u) t9.heap ∧ va_K (dC, dI) vwCl [(cI, .int), (cF, .object RX0)] t9 ∧ va_D (va_A (cw h n r d f cI cF N R D cn fc sp y0 y1 y2 y3 Fs) sz) (cwu h n r d f cI cF N u)) (va_A (cw h n r d f cI cF N R D cn fc sp y0 y1 y2 y3 Fs) sz)) 1 6 (va_A (cw h n r d f cI cF N R D cn fc sp y0 y1 y2 y3 Fs) sz) := by
  refine vx_ofW (cc := cX1_change) (maxL := 7) (ret := (some .boolean)) (by decide) rfl ?_
  intro p e s m args below meth c s₁ B hml hout hv
  obtain ⟨rfl, hsz, hP, hK, hD0, hnb, hzt⟩ := hv
  have hx := B.exec
  have hb := B.bytes
  have hr := B.returns
  have hts := atoms_spec (ws := .code yX1_change cX1_change 7 (some .boolean) :: wsA) B.pre
  have hw : ∀ w ∈ wsA, w.before _ s = true := fun w h => hts w (List.mem_cons_of_mem _ h)
  have hown : s.vm.findClass RX1 = some m.cls := findClass_of_methodNamed B.named
  have hlocks := B.notSynchronized
  subst hsz
  have hD := hD0.self (sz := s.heap.size)
  generalize hAe : va_A (cw h n r d f cI cF N R D cn fc sp y0 y1 y2 y3 Fs) s.heap.size = A at hD hzt ⊢
  have hA : ∀ q : Nat, s.heap.size ≤ q → A q := fun q h => by rw [← hAe]; exact Or.inr h
  have hS : va_S A s.heap s.heap [] := va_S.rf
  have hP : va_P (dC, dI) vwCl (cw h n r d f cI cF N R D cn fc sp y0 y1 y2 y3 Fs) s.heap := hP
  have hl := lv_entry ([.ref h, .int (iI how)]) (n := 7) (Nat.le_of_ble_eq_true rfl)
  rw [lg_entry_eq]
  generalize (lg_sl ([.ref h, .int (iI how)]) ++ List.replicate (7 - (lg_sl ([.ref h, .int (iI how)])).length) Slot.unset).toArray = ls at hl ⊢
  have hl : lv_has ls 7 [(0, .ref h), (1, .int (iI how))] := hl
  refine lv_iload_n hx hb dX1_change_0 rfl (lv_at hl 1 rfl) ?_
  refine ix_iconst (n := (-1)) hx hb dX1_change_1 ?_
  refine ix_icmp_lt (tgt := 10) hx hb dX1_change_2 (by decide) (by omega) (by decide) (fun c1 => ?_) (fun c1 => ?_)
  · exact thIAE (is := 45) hx hb hlt hown hw hnb (List.mem_of_getElem? (i := 2) rfl) hzt hS (by rw [hml]; exact hl.1) dX1_change_10 dX1_change_13 dX1_change_14 dX1_change_16 dX1_change_19 hout (show 6 ≤ _ from Nat.le_of_ble_eq_true rfl) (Nat.le_of_ble_eq_true rfl) (Nat.le_of_ble_eq_true rfl) (Nat.le_of_ble_eq_true rfl) hlocks (fun t2 hvm2 t3 t4 => ⟨(R, D, cn, fc, sp, (y0, y1, y2, y3), Fs), hci, ⟨⟨rfl, by omega⟩, pkeep hP t4, va_K.moved hvm2 hK, hD⟩, vFx hS t3 t4⟩) hS.2.2 (Nat.le_of_ble_eq_true rfl) (Nat.le_of_ble_eq_true rfl)
  · refine lv_iload_n hx hb dX1_change_5 rfl (lv_at hl 1 rfl) ?_
    refine ix_iconst (n := 2) hx hb dX1_change_6 ?_
    refine ix_icmp_le (tgt := 20) hx hb dX1_change_7 (by decide) (by omega) (by decide) (fun c2 => ?_) (fun c2 => ?_)
    · refine lv_aload_n hx hb dX1_change_20 rfl (lv_at hl 0 rfl) ?_
      refine va_get (D := (dC, dI)) (ci := 1) (v := .ref n) (C := RX1) (T := TX1) (N := 7) hx hb hw inX1 hown hK hP 0 rfl rfl 0 (by decide) (hw _ mA_53) (fun _ h9 => h9) rfl dX1_change_21 ?_
      have hPc := hP.sub (ws' := [(n, .inl (cI, 5, .inl (aI N)))]) [1] rfl
      have hKc := hK.sub (tys' := [(cI, .int)]) [0] rfl
      refine vp_callSi (W.runS (As := [.ref n]) (rest := []) ⟨hx, hb, hml, hown, hw⟩ (kX1_degreeOf l dC dI n cI N (fun j => ⟨by have := (hci.2.1 j).1; omega, by have := (hci.2.1 j).2; omega⟩)) (cwS 1 hw (gS mA_193 mA_194 mA_1 mA_195) rfl rfl rfl (by decide +kernel) ⟨Nat.le_of_ble_eq_true rfl, Nat.le_of_ble_eq_true rfl⟩) ⟨fun a U g mk q => by obtain ⟨q0, qP, qK⟩ := q; exact ⟨q0, qP, va_K.moved (u := U) (U := U.calling g mk a) (Vm.Alike.refl U.vm) qK⟩, fun U hU hW => ⟨rfl, by rw [hU]; exact hPc, va_K.moved hW.alike hKc⟩⟩ rfl rfl hl.1 rfl (lv_room (Nat.le_of_ble_eq_true rfl)) dX1_change_24 ⟨Nat.le_of_ble_eq_true rfl, Nat.le_of_ble_eq_true rfl⟩) (fun r3 h4 => ?_)
      subst h4
      have hdc := deg_c N
      refine lv_istore_n (lv' := [(2, .int (iI (f_deg N))), (0, .ref h), (1, .int (iI how))]) hx hb dX1_change_27 rfl hl (by decide) rfl (fun ls hl => ?_)
      refine lv_iload_n hx hb dX1_change_28 rfl (lv_at hl 0 rfl) ?_
      refine ix_if_ge (tgt := 34) hx hb dX1_change_29 (by decide) (by omega) (fun c5 => ?_) (fun c5 => ?_)
      · refine lv_aload_n hx hb dX1_change_34 rfl (lv_at hl 1 rfl) ?_
        refine lv_iload_n hx hb dX1_change_35 rfl (lv_at hl 2 rfl) ?_
        refine lv_iload_n hx hb dX1_change_36 rfl (lv_at hl 0 rfl) ?_
        have hPc := hP.sub (ws' := [(h, .inr (1, [.ref n, .ref r, .ref d, .ref f, .int (iI fc), .int (iI cn), .int (iI sp)])), (n, .inl (cI, 5, .inl (aI N))), (d, .inl (cI, 5, .inl (aI D)))]) [0, 1, 3] rfl
        have hDc := hD.sub (ws' := [(h, .inr (1, [.ref n, .ref r, .ref d, .ref f, .int (iI fc), .int (iI cn), .int (iI sp)])), (n, .inl (cI, 5, .inl (aI N))), (d, .inl (cI, 5, .inl (aI D)))]) [0, 1, 3] (by decide) rfl
        have hKc := hK.sub (tys' := [(cI, .int)]) [0] rfl
        have hFc := va_free (wc := [(h, .inr (1, [.ref n, .ref r, .ref d, .ref f, .int (iI fc), .int (iI cn), .int (iI sp)])), (n, .inl (cI, 5, .inl (aI N))), (d, .inl (cI, 5, .inl (aI D)))]) hD hS hA [0, 1, 3] rfl
        refine va_callv (va_runV (As := [.int (iI how), .int (iI (f_deg N))]) (rest := []) ⟨hx, hb, hml, hown, hw⟩ (kX1_draftChange l dC dI _ h n r d f cI fc cn sp N D how (f_deg N) hci.1 hci.2.2.2.1 (by omega) ⟨by omega, by omega⟩) (cwV 2 hw (gV mA_196 mA_198 mP_1 mA_1 mA_199) rfl rfl rfl (by decide +kernel) ⟨Nat.le_of_ble_eq_true rfl, Nat.le_of_ble_eq_true rfl⟩) ⟨fun a U g mk q => by obtain ⟨q0, q1, qP, qK, qD, qN⟩ := q; exact ⟨q0, q1, qP, va_K.moved (u := U) (U := U.calling g mk a) (Vm.Alike.refl U.vm) qK, qD, nb.same (u := U) rfl qN⟩, va_recv hKc hPc (ci := 1) (q0 := 0) rfl rfl, fun U hU hW => ⟨rfl, by rw [hU], by rw [hU]; exact hPc, va_K.moved hW.alike hKc, hDc.weaken (fun _ _ _ _ => trivial), nb.warm hW hnb⟩⟩ rfl rfl hl.1 rfl (lv_room (Nat.le_of_ble_eq_true rfl)) dX1_change_37 ⟨Nat.le_of_ble_eq_true rfl, Nat.le_of_ble_eq_true rfl⟩) hS (fun q _ h => hFc q h) hFc (fun u6 t9 H1 locs ht hvm hq7 hB hz1 hk1 hS => ?_)
        obtain ⟨hP1, hK1, hD1⟩ := hB
        rw [ht] at hP1
        have hK1 := va_K.moved hvm.symm hK1
        obtain ⟨hP, hD⟩ := va_join (wr := [(r, .inl (cI, 5, .inl (aI R))), (f, .inl (cF, 4, .inr (.inr (.inr (.inr (q4 y0 y1 y2 y3)))))), (y0, .inr (0, [.int (iI (Fs 0 0)), .int (iI (Fs 0 1)), .int (iI (Fs 0 2)), .int (iI (Fs 0 3)), .int (iI (Fs 0 4)), .int (iI (Fs 0 5))])), (y1, .inr (0, [.int (iI (Fs 1 0)), .int (iI (Fs 1 1)), .int (iI (Fs 1 2)), .int (iI (Fs 1 3)), .int (iI (Fs 1 4)), .int (iI (Fs 1 5))])), (y2, .inr (0, [.int (iI (Fs 2 0)), .int (iI (Fs 2 1)), .int (iI (Fs 2 2)), .int (iI (Fs 2 3)), .int (iI (Fs 2 4)), .int (iI (Fs 2 5))])), (y3, .inr (0, [.int (iI (Fs 3 0)), .int (iI (Fs 3 1)), .int (iI (Fs 3 2)), .int (iI (Fs 3 3)), .int (iI (Fs 3 4)), .int (iI (Fs 3 5))]))]) (w1 := [(h, .inr (1, [.ref n, .ref r, .ref d, .ref f, .int (iI fc), .int (iI cn), .int (iI sp)])), (n, .inl (cI, 5, .inl (aI N))), (d, .inl (cI, 5, .inl (aI (f_chg N how (f_deg N)))))]) hP hD [0, 1, 3] [2, 4, 5, 6, 7, 8] rfl rfl (by decide) (by decide) hk1 hFc hP1 hD1
        generalize H1 = H at hP hS ⊢
        have hP := hP.sub (ws' := (cw h n r d f cI cF N R (f_chg N how (f_deg N)) cn fc sp y0 y1 y2 y3 Fs)) [6, 7, 0, 8, 1, 2, 3, 4, 5] rfl
        have hD := hD.sub (ws' := (cw h n r d f cI cF N R (f_chg N how (f_deg N)) cn fc sp y0 y1 y2 y3 Fs)) [6, 7, 0, 8, 1, 2, 3, 4, 5] (by decide) rfl
        have hc5 : n5 (f_chg N how (f_deg N)) := chg_5 hci.1 (by omega)
        have hcb : ∀ j, -20480 ≤ f_chg N how (f_deg N) j ∧ f_chg N how (f_deg N) j ≤ 20480 := chg_b (by omega) hci.2.1
        refine lv_aload_n hx hb dX1_change_40 rfl (lv_at hl 1 rfl) ?_
        refine va_get (D := (dC, dI)) (ci := 1) (v := .ref d) (C := RX1) (T := TX1) (N := 7) hx hb hw inX1 hown hK hP 0 rfl rfl 2 (by decide) (hw _ mA_55) (fun _ h9 => h9) rfl dX1_change_41 ?_
        refine lv_astore_n (lv' := [(3, .ref d), (2, .int (iI (f_deg N))), (0, .ref h), (1, .int (iI how))]) hx hb dX1_change_44 rfl hl (by decide) rfl (fun ls hl => ?_)
        refine lv_aload_n hx hb dX1_change_45 rfl (lv_at hl 0 rfl) ?_
        refine va_alen (v := iI 5) hx hb hK hP 3 0 rfl rfl rfl dX1_change_46 ?_
        refine lv_istore (lv' := [(4, .int (iI 5)), (3, .ref d), (2, .int (iI (f_deg N))), (0, .ref h), (1, .int (iI how))]) hx hb dX1_change_47 hl (by decide) rfl (fun ls hl => ?_)
        refine ix_iconst (n := 0) hx hb dX1_change_49 ?_
        refine lv_istore (lv' := [(5, .int (iI 0)), (4, .int (iI 5)), (3, .ref d), (2, .int (iI (f_deg N))), (0, .ref h), (1, .int (iI how))]) hx hb dX1_change_50 hl (by decide) rfl (fun ls hl => ?_)
        refine lv_iload hx hb dX1_change_52 (lv_at hl 0 rfl) ?_
        refine lv_iload hx hb dX1_change_54 (lv_at hl 1 rfl) ?_
        refine ix_icmp_ge (tgt := 81) hx hb dX1_change_56 (by decide) (by decide) (by decide) (fun c9 => absurd c9 (by decide)) (fun _ => ?_)
        refine lv_aload_n hx hb dX1_change_59 rfl (lv_at hl 2 rfl) ?_
        refine lv_iload hx hb dX1_change_60 (lv_at hl 0 rfl) ?_
        refine ix_iald (k := 0) hx hb hK hP 3 0 rfl rfl (by decide) (by decide) (by decide) dX1_change_62 ?_
        refine lv_istore (lv' := [(6, .int (iI ((f_chg N how (f_deg N)) 0))), (5, .int (iI 0)), (4, .int (iI 5)), (3, .ref d), (2, .int (iI (f_deg N))), (0, .ref h), (1, .int (iI how))]) hx hb dX1_change_63 hl (by decide) rfl (fun ls hl => ?_)
        refine lv_iload hx hb dX1_change_65 (lv_at hl 0 rfl) ?_
        have hi0 := hcb 0
        refine vp_callSi (W.runS (As := [.int (iI ((f_chg N how (f_deg N)) 0))]) (rest := []) ⟨hx, hb, hml, hown, hw⟩ (kX1_isInLimits l ((f_chg N how (f_deg N)) 0) ⟨by omega, by omega⟩) (cwS 1 hw (gS mA_159 mA_160 mA_1 mA_161) rfl rfl rfl (by decide +kernel) ⟨Nat.le_of_ble_eq_true rfl, Nat.le_of_ble_eq_true rfl⟩) preEq rfl rfl hl.1 rfl (lv_room (Nat.le_of_ble_eq_true rfl)) dX1_change_67 ⟨Nat.le_of_ble_eq_true rfl, Nat.le_of_ble_eq_true rfl⟩) (fun r10 h11 => ?_)
        subst h11
        have hn0 : f_in20 ((f_chg N how (f_deg N)) 0) = if -20 ≤ (f_chg N how (f_deg N)) 0 ∧ (f_chg N how (f_deg N)) 0 ≤ 20 then 1 else 0 := rfl
        refine ix_if_ne (tgt := 75) hx hb dX1_change_70 (by decide) (by unfold f_in20; grind) (fun c12 => ?_) (fun c12 => ?_)
        · refine ix_iinc (k := 1) (lv2 := [(5, .int (iI 1)), (6, .int (iI ((f_chg N how (f_deg N)) 0))), (4, .int (iI 5)), (3, .ref d), (2, .int (iI (f_deg N))), (0, .ref h), (1, .int (iI how))]) hx hb dX1_change_75 hl rfl (by decide) rfl (fun ls hl => ?_)
          refine lv_goto (tgt := 52) hx hb dX1_change_78 (by decide) ?_
          refine lv_iload hx hb dX1_change_52 (lv_at hl 0 rfl) ?_
          refine lv_iload hx hb dX1_change_54 (lv_at hl 2 rfl) ?_
          refine ix_icmp_ge (tgt := 81) hx hb dX1_change_56 (by decide) (by decide) (by decide) (fun c13 => absurd c13 (by decide)) (fun _ => ?_)
          refine lv_aload_n hx hb dX1_change_59 rfl (lv_at hl 3 rfl) ?_
          refine lv_iload hx hb dX1_change_60 (lv_at hl 0 rfl) ?_
          refine ix_iald (k := 1) hx hb hK hP 3 0 rfl rfl (by decide) (by decide) (by decide) dX1_change_62 ?_
          refine lv_istore (lv' := [(6, .int (iI ((f_chg N how (f_deg N)) 1))), (5, .int (iI 1)), (4, .int (iI 5)), (3, .ref d), (2, .int (iI (f_deg N))), (0, .ref h), (1, .int (iI how))]) hx hb dX1_change_63 hl (by decide) rfl (fun ls hl => ?_)
          refine lv_iload hx hb dX1_change_65 (lv_at hl 0 rfl) ?_
          have hi1 := hcb 1
          refine vp_callSi (W.runS (As := [.int (iI ((f_chg N how (f_deg N)) 1))]) (rest := []) ⟨hx, hb, hml, hown, hw⟩ (kX1_isInLimits l ((f_chg N how (f_deg N)) 1) ⟨by omega, by omega⟩) (cwS 1 hw (gS mA_159 mA_160 mA_1 mA_161) rfl rfl rfl (by decide +kernel) ⟨Nat.le_of_ble_eq_true rfl, Nat.le_of_ble_eq_true rfl⟩) preEq rfl rfl hl.1 rfl (lv_room (Nat.le_of_ble_eq_true rfl)) dX1_change_67 ⟨Nat.le_of_ble_eq_true rfl, Nat.le_of_ble_eq_true rfl⟩) (fun r14 h15 => ?_)
          subst h15
          have hn1 : f_in20 ((f_chg N how (f_deg N)) 1) = if -20 ≤ (f_chg N how (f_deg N)) 1 ∧ (f_chg N how (f_deg N)) 1 ≤ 20 then 1 else 0 := rfl
          refine ix_if_ne (tgt := 75) hx hb dX1_change_70 (by decide) (by unfold f_in20; grind) (fun c16 => ?_) (fun c16 => ?_)
          · refine ix_iinc (k := 1) (lv2 := [(5, .int (iI 2)), (6, .int (iI ((f_chg N how (f_deg N)) 1))), (4, .int (iI 5)), (3, .ref d), (2, .int (iI (f_deg N))), (0, .ref h), (1, .int (iI how))]) hx hb dX1_change_75 hl rfl (by decide) rfl (fun ls hl => ?_)
            refine lv_goto (tgt := 52) hx hb dX1_change_78 (by decide) ?_
            refine lv_iload hx hb dX1_change_52 (lv_at hl 0 rfl) ?_
            refine lv_iload hx hb dX1_change_54 (lv_at hl 2 rfl) ?_
            refine ix_icmp_ge (tgt := 81) hx hb dX1_change_56 (by decide) (by decide) (by decide) (fun c17 => absurd c17 (by decide)) (fun _ => ?_)
            refine lv_aload_n hx hb dX1_change_59 rfl (lv_at hl 3 rfl) ?_
            refine lv_iload hx hb dX1_change_60 (lv_at hl 0 rfl) ?_
            refine ix_iald (k := 2) hx hb hK hP 3 0 rfl rfl (by decide) (by decide) (by decide) dX1_change_62 ?_
            refine lv_istore (lv' := [(6, .int (iI ((f_chg N how (f_deg N)) 2))), (5, .int (iI 2)), (4, .int (iI 5)), (3, .ref d), (2, .int (iI (f_deg N))), (0, .ref h), (1, .int (iI how))]) hx hb dX1_change_63 hl (by decide) rfl (fun ls hl => ?_)
            refine lv_iload hx hb dX1_change_65 (lv_at hl 0 rfl) ?_
            have hi2 := hcb 2
            refine vp_callSi (W.runS (As := [.int (iI ((f_chg N how (f_deg N)) 2))]) (rest := []) ⟨hx, hb, hml, hown, hw⟩ (kX1_isInLimits l ((f_chg N how (f_deg N)) 2) ⟨by omega, by omega⟩) (cwS 1 hw (gS mA_159 mA_160 mA_1 mA_161) rfl rfl rfl (by decide +kernel) ⟨Nat.le_of_ble_eq_true rfl, Nat.le_of_ble_eq_true rfl⟩) preEq rfl rfl hl.1 rfl (lv_room (Nat.le_of_ble_eq_true rfl)) dX1_change_67 ⟨Nat.le_of_ble_eq_true rfl, Nat.le_of_ble_eq_true rfl⟩) (fun r18 h19 => ?_)
            subst h19
            have hn2 : f_in20 ((f_chg N how (f_deg N)) 2) = if -20 ≤ (f_chg N how (f_deg N)) 2 ∧ (f_chg N how (f_deg N)) 2 ≤ 20 then 1 else 0 := rfl
            refine ix_if_ne (tgt := 75) hx hb dX1_change_70 (by decide) (by unfold f_in20; grind) (fun c20 => ?_) (fun c20 => ?_)
            · refine ix_iinc (k := 1) (lv2 := [(5, .int (iI 3)), (6, .int (iI ((f_chg N how (f_deg N)) 2))), (4, .int (iI 5)), (3, .ref d), (2, .int (iI (f_deg N))), (0, .ref h), (1, .int (iI how))]) hx hb dX1_change_75 hl rfl (by decide) rfl (fun ls hl => ?_)
              refine lv_goto (tgt := 52) hx hb dX1_change_78 (by decide) ?_
              refine lv_iload hx hb dX1_change_52 (lv_at hl 0 rfl) ?_
              refine lv_iload hx hb dX1_change_54 (lv_at hl 2 rfl) ?_
              refine ix_icmp_ge (tgt := 81) hx hb dX1_change_56 (by decide) (by decide) (by decide) (fun c21 => absurd c21 (by decide)) (fun _ => ?_)
              refine lv_aload_n hx hb dX1_change_59 rfl (lv_at hl 3 rfl) ?_
              refine lv_iload hx hb dX1_change_60 (lv_at hl 0 rfl) ?_
              refine ix_iald (k := 3) hx hb hK hP 3 0 rfl rfl (by decide) (by decide) (by decide) dX1_change_62 ?_
              refine lv_istore (lv' := [(6, .int (iI ((f_chg N how (f_deg N)) 3))), (5, .int (iI 3)), (4, .int (iI 5)), (3, .ref d), (2, .int (iI (f_deg N))), (0, .ref h), (1, .int (iI how))]) hx hb dX1_change_63 hl (by decide) rfl (fun ls hl => ?_)
              refine lv_iload hx hb dX1_change_65 (lv_at hl 0 rfl) ?_
              have hi3 := hcb 3
              refine vp_callSi (W.runS (As := [.int (iI ((f_chg N how (f_deg N)) 3))]) (rest := []) ⟨hx, hb, hml, hown, hw⟩ (kX1_isInLimits l ((f_chg N how (f_deg N)) 3) ⟨by omega, by omega⟩) (cwS 1 hw (gS mA_159 mA_160 mA_1 mA_161) rfl rfl rfl (by decide +kernel) ⟨Nat.le_of_ble_eq_true rfl, Nat.le_of_ble_eq_true rfl⟩) preEq rfl rfl hl.1 rfl (lv_room (Nat.le_of_ble_eq_true rfl)) dX1_change_67 ⟨Nat.le_of_ble_eq_true rfl, Nat.le_of_ble_eq_true rfl⟩) (fun r22 h23 => ?_)
              subst h23
              have hn3 : f_in20 ((f_chg N how (f_deg N)) 3) = if -20 ≤ (f_chg N how (f_deg N)) 3 ∧ (f_chg N how (f_deg N)) 3 ≤ 20 then 1 else 0 := rfl
              refine ix_if_ne (tgt := 75) hx hb dX1_change_70 (by decide) (by unfold f_in20; grind) (fun c24 => ?_) (fun c24 => ?_)
              · refine ix_iinc (k := 1) (lv2 := [(5, .int (iI 4)), (6, .int (iI ((f_chg N how (f_deg N)) 3))), (4, .int (iI 5)), (3, .ref d), (2, .int (iI (f_deg N))), (0, .ref h), (1, .int (iI how))]) hx hb dX1_change_75 hl rfl (by decide) rfl (fun ls hl => ?_)
                refine lv_goto (tgt := 52) hx hb dX1_change_78 (by decide) ?_
                refine lv_iload hx hb dX1_change_52 (lv_at hl 0 rfl) ?_
                refine lv_iload hx hb dX1_change_54 (lv_at hl 2 rfl) ?_
                refine ix_icmp_ge (tgt := 81) hx hb dX1_change_56 (by decide) (by decide) (by decide) (fun c25 => absurd c25 (by decide)) (fun _ => ?_)
                refine lv_aload_n hx hb dX1_change_59 rfl (lv_at hl 3 rfl) ?_
                refine lv_iload hx hb dX1_change_60 (lv_at hl 0 rfl) ?_
                refine ix_iald (k := 4) hx hb hK hP 3 0 rfl rfl (by decide) (by decide) (by decide) dX1_change_62 ?_
                refine lv_istore (lv' := [(6, .int (iI ((f_chg N how (f_deg N)) 4))), (5, .int (iI 4)), (4, .int (iI 5)), (3, .ref d), (2, .int (iI (f_deg N))), (0, .ref h), (1, .int (iI how))]) hx hb dX1_change_63 hl (by decide) rfl (fun ls hl => ?_)
                refine lv_iload hx hb dX1_change_65 (lv_at hl 0 rfl) ?_
                have hi4 := hcb 4
                refine vp_callSi (W.runS (As := [.int (iI ((f_chg N how (f_deg N)) 4))]) (rest := []) ⟨hx, hb, hml, hown, hw⟩ (kX1_isInLimits l ((f_chg N how (f_deg N)) 4) ⟨by omega, by omega⟩) (cwS 1 hw (gS mA_159 mA_160 mA_1 mA_161) rfl rfl rfl (by decide +kernel) ⟨Nat.le_of_ble_eq_true rfl, Nat.le_of_ble_eq_true rfl⟩) preEq rfl rfl hl.1 rfl (lv_room (Nat.le_of_ble_eq_true rfl)) dX1_change_67 ⟨Nat.le_of_ble_eq_true rfl, Nat.le_of_ble_eq_true rfl⟩) (fun r26 h27 => ?_)
                subst h27
                have hn4 : f_in20 ((f_chg N how (f_deg N)) 4) = if -20 ≤ (f_chg N how (f_deg N)) 4 ∧ (f_chg N how (f_deg N)) 4 ≤ 20 then 1 else 0 := rfl
                refine ix_if_ne (tgt := 75) hx hb dX1_change_70 (by decide) (by unfold f_in20; grind) (fun c28 => ?_) (fun c28 => ?_)
                · refine ix_iinc (k := 1) (lv2 := [(5, .int (iI 5)), (6, .int (iI ((f_chg N how (f_deg N)) 4))), (4, .int (iI 5)), (3, .ref d), (2, .int (iI (f_deg N))), (0, .ref h), (1, .int (iI how))]) hx hb dX1_change_75 hl rfl (by decide) rfl (fun ls hl => ?_)
                  refine lv_goto (tgt := 52) hx hb dX1_change_78 (by decide) ?_
                  refine lv_iload hx hb dX1_change_52 (lv_at hl 0 rfl) ?_
                  refine lv_iload hx hb dX1_change_54 (lv_at hl 2 rfl) ?_
                  refine ix_icmp_ge (tgt := 81) hx hb dX1_change_56 (by decide) (by decide) (by decide) (fun _ => ?_) (fun c29 => absurd c29 (by decide))
                  refine lv_aload_n hx hb dX1_change_81 rfl (lv_at hl 5 rfl) ?_
                  refine va_get (D := (dC, dI)) (ci := 1) (v := .ref d) (C := RX1) (T := TX1) (N := 7) hx hb hw inX1 hown hK hP 0 rfl rfl 2 (by decide) (hw _ mA_55) (fun _ h9 => h9) rfl dX1_change_82 ?_
                  refine ix_iconst (n := 0) hx hb dX1_change_85 ?_
                  refine lv_aload_n hx hb dX1_change_86 rfl (lv_at hl 5 rfl) ?_
                  refine va_get (D := (dC, dI)) (ci := 1) (v := .ref n) (C := RX1) (T := TX1) (N := 7) hx hb hw inX1 hown hK hP 0 rfl rfl 0 (by decide) (hw _ mA_53) (fun _ h9 => h9) rfl dX1_change_87 ?_
                  refine ix_iconst (n := 0) hx hb dX1_change_90 ?_
                  refine lv_aload_n hx hb dX1_change_91 rfl (lv_at hl 5 rfl) ?_
                  refine va_get (D := (dC, dI)) (ci := 1) (v := .ref n) (C := RX1) (T := TX1) (N := 7) hx hb hw inX1 hown hK hP 0 rfl rfl 0 (by decide) (hw _ mA_53) (fun _ h9 => h9) rfl dX1_change_92 ?_
                  refine va_alen (v := iI 5) hx hb hK hP 1 0 rfl rfl rfl dX1_change_95 ?_
                  refine ix_copy5 hx hb (by rw [hml]; exact hl.1.symm) hown (hw _ mA_200) (hw _ mA_202) (hw _ mA_201) (hw _ mA_9) hK hP hD hS 3 1 0 rfl rfl rfl hc5 hci.1 (Nat.le_of_ble_eq_true rfl) (by decide) dX1_change_96 (fun H locs hP hD hS => ?_)
                  have hP : va_P (dC, dI) vwCl (cw h n r d f cI cF (f_chg N how (f_deg N)) R (f_chg N how (f_deg N)) cn fc sp y0 y1 y2 y3 Fs) H := hP
                  have hD : va_D A (cw h n r d f cI cF (f_chg N how (f_deg N)) R (f_chg N how (f_deg N)) cn fc sp y0 y1 y2 y3 Fs) := hD
                  refine lv_aload_n hx hb dX1_change_99 rfl (lv_at hl 5 rfl) ?_
                  refine ix_iconst (n := 0) hx hb dX1_change_100 ?_
                  refine va_put (D := (dC, dI)) (ci := 1) (v := .int (iI 0)) (ty := .boolean) (C := RX1) (T := TX1) (N := 7) hx hb hw inX1 tyX1 tyX1_ok nmX1 hown hK hP hD hS 0 rfl rfl 6 (by decide) (hw _ mA_59) (fun _ h9 => h9) rfl (by decide +kernel) (by decide) (by decide) (Nat.le_of_ble_eq_true rfl) dX1_change_101 (fun H locs hP hD hS => ?_)
                  have hP : va_P (dC, dI) vwCl (cw h n r d f cI cF (f_chg N how (f_deg N)) R (f_chg N how (f_deg N)) cn fc 0 y0 y1 y2 y3 Fs) H := hP
                  have hD : va_D A (cw h n r d f cI cF (f_chg N how (f_deg N)) R (f_chg N how (f_deg N)) cn fc 0 y0 y1 y2 y3 Fs) := hD
                  refine ix_iconst (n := 1) hx hb dX1_change_104 ?_
                  have ea : f_all (f_chg N how (f_deg N)) = 1 := by unfold f_all; grind
                  have ek : f_cok N how = 1 := by unfold f_cok; rw [if_neg (by omega)]; exact ea
                  have en : f_cnew N how = f_chg N how (f_deg N) := if_neg (by rw [ek]; decide)
                  have hP : va_P (dC, dI) vwCl (cwu h n r d f cI cF (f_cnew N how) (R, f_chg N how (f_deg N), cn, fc, 0, (y0, y1, y2, y3), Fs)) H := by rw [en]; exact hP
                  have hD : va_D A (cwu h n r d f cI cF (f_cnew N how) (R, f_chg N how (f_deg N), cn, fc, 0, (y0, y1, y2, y3), Fs)) := by rw [en]; exact hD
                  have hP9 := hP.sub (ws' := (cwu h n r d f cI cF (f_cnew N how) (R, f_chg N how (f_deg N), cn, fc, 0, (y0, y1, y2, y3), Fs))) [0, 1, 2, 3, 4, 5, 6, 7, 8] rfl
                  have hD9 := hD.sub (ws' := (cwu h n r d f cI cF (f_cnew N how) (R, f_chg N how (f_deg N), cn, fc, 0, (y0, y1, y2, y3), Fs))) [0, 1, 2, 3, 4, 5, 6, 7, 8] (by decide) rfl
                  have hK9 := hK.sub (tys' := [(cI, .int), (cF, .object RX0)]) [0, 1] rfl
                  refine vx_ret (W.widen (k := 1) (n := 6) (Nat.le_of_ble_eq_true rfl) (Nat.le_of_ble_eq_true rfl) ?_)
                  exact W.zret (v := iI 1) hx hb hr (by decide) (fun t ht hW => ⟨⟨iI 1, (f_cnew N how, (R, f_chg N how (f_deg N), cn, fc, 0, (y0, y1, y2, y3), Fs)), rfl, ⟨⟨by omega, by omega⟩, rfl, by rw [en]; exact CI_new hci hc5 (all_j hc5 ea) hc5, by rw [ek]⟩, by rw [ht]; exact hP9, va_K.moved hW.alike hK9, hD9⟩, hS.F ht⟩) hS.2.2 dX1_change_105
                · refine ix_iconst (n := 0) hx hb dX1_change_73 ?_
                  have ea : f_all (f_chg N how (f_deg N)) = 0 := by unfold f_all; grind
                  have ek : f_cok N how = 0 := by unfold f_cok; rw [if_neg (by omega)]; exact ea
                  have en : f_cnew N how = N := if_pos ek
                  have hP : va_P (dC, dI) vwCl (cwu h n r d f cI cF (f_cnew N how) (R, f_chg N how (f_deg N), cn, fc, sp, (y0, y1, y2, y3), Fs)) H := by rw [en]; exact hP
                  have hD : va_D A (cwu h n r d f cI cF (f_cnew N how) (R, f_chg N how (f_deg N), cn, fc, sp, (y0, y1, y2, y3), Fs)) := by rw [en]; exact hD
                  have hP9 := hP.sub (ws' := (cwu h n r d f cI cF (f_cnew N how) (R, f_chg N how (f_deg N), cn, fc, sp, (y0, y1, y2, y3), Fs))) [0, 1, 2, 3, 4, 5, 6, 7, 8] rfl
                  have hD9 := hD.sub (ws' := (cwu h n r d f cI cF (f_cnew N how) (R, f_chg N how (f_deg N), cn, fc, sp, (y0, y1, y2, y3), Fs))) [0, 1, 2, 3, 4, 5, 6, 7, 8] (by decide) rfl
                  have hK9 := hK.sub (tys' := [(cI, .int), (cF, .object RX0)]) [0, 1] rfl
                  refine vx_ret (W.widen (k := 1) (n := 6) (Nat.le_of_ble_eq_true rfl) (Nat.le_of_ble_eq_true rfl) ?_)
                  exact W.zret (v := iI 0) hx hb hr (by decide) (fun t ht hW => ⟨⟨iI 0, (f_cnew N how, (R, f_chg N how (f_deg N), cn, fc, sp, (y0, y1, y2, y3), Fs)), rfl, ⟨⟨by omega, by omega⟩, rfl, by rw [en]; exact CI_d hci hc5, by rw [ek]⟩, by rw [ht]; exact hP9, va_K.moved hW.alike hK9, hD9⟩, hS.F ht⟩) hS.2.2 dX1_change_74
              · refine ix_iconst (n := 0) hx hb dX1_change_73 ?_
                have ea : f_all (f_chg N how (f_deg N)) = 0 := by unfold f_all; grind
                have ek : f_cok N how = 0 := by unfold f_cok; rw [if_neg (by omega)]; exact ea
                have en : f_cnew N how = N := if_pos ek
                have hP : va_P (dC, dI) vwCl (cwu h n r d f cI cF (f_cnew N how) (R, f_chg N how (f_deg N), cn, fc, sp, (y0, y1, y2, y3), Fs)) H := by rw [en]; exact hP
                have hD : va_D A (cwu h n r d f cI cF (f_cnew N how) (R, f_chg N how (f_deg N), cn, fc, sp, (y0, y1, y2, y3), Fs)) := by rw [en]; exact hD
                have hP9 := hP.sub (ws' := (cwu h n r d f cI cF (f_cnew N how) (R, f_chg N how (f_deg N), cn, fc, sp, (y0, y1, y2, y3), Fs))) [0, 1, 2, 3, 4, 5, 6, 7, 8] rfl
                have hD9 := hD.sub (ws' := (cwu h n r d f cI cF (f_cnew N how) (R, f_chg N how (f_deg N), cn, fc, sp, (y0, y1, y2, y3), Fs))) [0, 1, 2, 3, 4, 5, 6, 7, 8] (by decide) rfl
                have hK9 := hK.sub (tys' := [(cI, .int), (cF, .object RX0)]) [0, 1] rfl
                refine vx_ret (W.widen (k := 1) (n := 6) (Nat.le_of_ble_eq_true rfl) (Nat.le_of_ble_eq_true rfl) ?_)
                exact W.zret (v := iI 0) hx hb hr (by decide) (fun t ht hW => ⟨⟨iI 0, (f_cnew N how, (R, f_chg N how (f_deg N), cn, fc, sp, (y0, y1, y2, y3), Fs)), rfl, ⟨⟨by omega, by omega⟩, rfl, by rw [en]; exact CI_d hci hc5, by rw [ek]⟩, by rw [ht]; exact hP9, va_K.moved hW.alike hK9, hD9⟩, hS.F ht⟩) hS.2.2 dX1_change_74
            · refine ix_iconst (n := 0) hx hb dX1_change_73 ?_
              have ea : f_all (f_chg N how (f_deg N)) = 0 := by unfold f_all; grind
              have ek : f_cok N how = 0 := by unfold f_cok; rw [if_neg (by omega)]; exact ea
              have en : f_cnew N how = N := if_pos ek
              have hP : va_P (dC, dI) vwCl (cwu h n r d f cI cF (f_cnew N how) (R, f_chg N how (f_deg N), cn, fc, sp, (y0, y1, y2, y3), Fs)) H := by rw [en]; exact hP
              have hD : va_D A (cwu h n r d f cI cF (f_cnew N how) (R, f_chg N how (f_deg N), cn, fc, sp, (y0, y1, y2, y3), Fs)) := by rw [en]; exact hD
              have hP9 := hP.sub (ws' := (cwu h n r d f cI cF (f_cnew N how) (R, f_chg N how (f_deg N), cn, fc, sp, (y0, y1, y2, y3), Fs))) [0, 1, 2, 3, 4, 5, 6, 7, 8] rfl
              have hD9 := hD.sub (ws' := (cwu h n r d f cI cF (f_cnew N how) (R, f_chg N how (f_deg N), cn, fc, sp, (y0, y1, y2, y3), Fs))) [0, 1, 2, 3, 4, 5, 6, 7, 8] (by decide) rfl
              have hK9 := hK.sub (tys' := [(cI, .int), (cF, .object RX0)]) [0, 1] rfl
              refine vx_ret (W.widen (k := 1) (n := 6) (Nat.le_of_ble_eq_true rfl) (Nat.le_of_ble_eq_true rfl) ?_)
              exact W.zret (v := iI 0) hx hb hr (by decide) (fun t ht hW => ⟨⟨iI 0, (f_cnew N how, (R, f_chg N how (f_deg N), cn, fc, sp, (y0, y1, y2, y3), Fs)), rfl, ⟨⟨by omega, by omega⟩, rfl, by rw [en]; exact CI_d hci hc5, by rw [ek]⟩, by rw [ht]; exact hP9, va_K.moved hW.alike hK9, hD9⟩, hS.F ht⟩) hS.2.2 dX1_change_74
          · refine ix_iconst (n := 0) hx hb dX1_change_73 ?_
            have ea : f_all (f_chg N how (f_deg N)) = 0 := by unfold f_all; grind
            have ek : f_cok N how = 0 := by unfold f_cok; rw [if_neg (by omega)]; exact ea
            have en : f_cnew N how = N := if_pos ek
            have hP : va_P (dC, dI) vwCl (cwu h n r d f cI cF (f_cnew N how) (R, f_chg N how (f_deg N), cn, fc, sp, (y0, y1, y2, y3), Fs)) H := by rw [en]; exact hP
            have hD : va_D A (cwu h n r d f cI cF (f_cnew N how) (R, f_chg N how (f_deg N), cn, fc, sp, (y0, y1, y2, y3), Fs)) := by rw [en]; exact hD
            have hP9 := hP.sub (ws' := (cwu h n r d f cI cF (f_cnew N how) (R, f_chg N how (f_deg N), cn, fc, sp, (y0, y1, y2, y3), Fs))) [0, 1, 2, 3, 4, 5, 6, 7, 8] rfl
            have hD9 := hD.sub (ws' := (cwu h n r d f cI cF (f_cnew N how) (R, f_chg N how (f_deg N), cn, fc, sp, (y0, y1, y2, y3), Fs))) [0, 1, 2, 3, 4, 5, 6, 7, 8] (by decide) rfl
            have hK9 := hK.sub (tys' := [(cI, .int), (cF, .object RX0)]) [0, 1] rfl
            refine vx_ret (W.widen (k := 1) (n := 6) (Nat.le_of_ble_eq_true rfl) (Nat.le_of_ble_eq_true rfl) ?_)
            exact W.zret (v := iI 0) hx hb hr (by decide) (fun t ht hW => ⟨⟨iI 0, (f_cnew N how, (R, f_chg N how (f_deg N), cn, fc, sp, (y0, y1, y2, y3), Fs)), rfl, ⟨⟨by omega, by omega⟩, rfl, by rw [en]; exact CI_d hci hc5, by rw [ek]⟩, by rw [ht]; exact hP9, va_K.moved hW.alike hK9, hD9⟩, hS.F ht⟩) hS.2.2 dX1_change_74
        · refine ix_iconst (n := 0) hx hb dX1_change_73 ?_
          have ea : f_all (f_chg N how (f_deg N)) = 0 := by unfold f_all; grind
          have ek : f_cok N how = 0 := by unfold f_cok; rw [if_neg (by omega)]; exact ea
          have en : f_cnew N how = N := if_pos ek
          have hP : va_P (dC, dI) vwCl (cwu h n r d f cI cF (f_cnew N how) (R, f_chg N how (f_deg N), cn, fc, sp, (y0, y1, y2, y3), Fs)) H := by rw [en]; exact hP
          have hD : va_D A (cwu h n r d f cI cF (f_cnew N how) (R, f_chg N how (f_deg N), cn, fc, sp, (y0, y1, y2, y3), Fs)) := by rw [en]; exact hD
          have hP9 := hP.sub (ws' := (cwu h n r d f cI cF (f_cnew N how) (R, f_chg N how (f_deg N), cn, fc, sp, (y0, y1, y2, y3), Fs))) [0, 1, 2, 3, 4, 5, 6, 7, 8] rfl
          have hD9 := hD.sub (ws' := (cwu h n r d f cI cF (f_cnew N how) (R, f_chg N how (f_deg N), cn, fc, sp, (y0, y1, y2, y3), Fs))) [0, 1, 2, 3, 4, 5, 6, 7, 8] (by decide) rfl
          have hK9 := hK.sub (tys' := [(cI, .int), (cF, .object RX0)]) [0, 1] rfl
          refine vx_ret (W.widen (k := 1) (n := 6) (Nat.le_of_ble_eq_true rfl) (Nat.le_of_ble_eq_true rfl) ?_)
          exact W.zret (v := iI 0) hx hb hr (by decide) (fun t ht hW => ⟨⟨iI 0, (f_cnew N how, (R, f_chg N how (f_deg N), cn, fc, sp, (y0, y1, y2, y3), Fs)), rfl, ⟨⟨by omega, by omega⟩, rfl, by rw [en]; exact CI_d hci hc5, by rw [ek]⟩, by rw [ht]; exact hP9, va_K.moved hW.alike hK9, hD9⟩, hS.F ht⟩) hS.2.2 dX1_change_74
      · refine ix_iconst (n := 0) hx hb dX1_change_32 ?_
        have ek : f_cok N how = 0 := if_pos (by omega)
        have en : f_cnew N how = N := if_pos ek
        have hP : va_P (dC, dI) vwCl (cwu h n r d f cI cF (f_cnew N how) (R, D, cn, fc, sp, (y0, y1, y2, y3), Fs)) s.heap := by rw [en]; exact hP
        have hD : va_D A (cwu h n r d f cI cF (f_cnew N how) (R, D, cn, fc, sp, (y0, y1, y2, y3), Fs)) := by rw [en]; exact hD
        have hP9 := hP.sub (ws' := (cwu h n r d f cI cF (f_cnew N how) (R, D, cn, fc, sp, (y0, y1, y2, y3), Fs))) [0, 1, 2, 3, 4, 5, 6, 7, 8] rfl
        have hD9 := hD.sub (ws' := (cwu h n r d f cI cF (f_cnew N how) (R, D, cn, fc, sp, (y0, y1, y2, y3), Fs))) [0, 1, 2, 3, 4, 5, 6, 7, 8] (by decide) rfl
        have hK9 := hK.sub (tys' := [(cI, .int), (cF, .object RX0)]) [0, 1] rfl
        refine vx_ret (W.widen (k := 1) (n := 6) (Nat.le_of_ble_eq_true rfl) (Nat.le_of_ble_eq_true rfl) ?_)
        exact W.zret (v := iI 0) hx hb hr (by decide) (fun t ht hW => ⟨⟨iI 0, (f_cnew N how, (R, D, cn, fc, sp, (y0, y1, y2, y3), Fs)), rfl, ⟨⟨by omega, by omega⟩, rfl, by rw [en]; exact hci, by rw [ek]⟩, by rw [ht]; exact hP9, va_K.moved hW.alike hK9, hD9⟩, hS.F ht⟩) hS.2.2 dX1_change_33
    · exact thIAE (is := 45) hx hb hlt hown hw hnb (List.mem_of_getElem? (i := 2) rfl) hzt hS (by rw [hml]; exact hl.1) dX1_change_10 dX1_change_13 dX1_change_14 dX1_change_16 dX1_change_19 hout (show 6 ≤ _ from Nat.le_of_ble_eq_true rfl) (Nat.le_of_ble_eq_true rfl) (Nat.le_of_ble_eq_true rfl) (Nat.le_of_ble_eq_true rfl) hlocks (fun t2 hvm2 t3 t4 => ⟨(R, D, cn, fc, sp, (y0, y1, y2, y3), Fs), hci, ⟨⟨rfl, by omega⟩, pkeep hP t4, va_K.moved hvm2 hK, hD⟩, vFx hS t3 t4⟩) hS.2.2 (Nat.le_of_ble_eq_true rfl) (Nat.le_of_ble_eq_true rfl)
