/-- the greatest common divisor of the five numbers, and the content -/
def G5 (N : Int → Int) : Int := f_gcd (f_gcd (f_gcd (f_gcd (f_gcd 0 (N 0)) (N 1)) (N 2)) (N 3)) (N 4)
def f_cont (N : Int → Int) : Int := if N (f_deg N) < 0 then -(G5 N) else G5 N
def f_rest (N : Int → Int) : Int → Int := fun j => Int.tdiv (N j) (f_cont N)
theorem gcd_dl (a b : Int) : f_gcd a b ∣ a := by unfold f_gcd; exact Int.gcd_dvd_left ..
theorem gcd_dr (a b : Int) : f_gcd a b ∣ b := by unfold f_gcd; exact Int.gcd_dvd_right ..
theorem gcd_le20 {g x : Int} (hg : 0 ≤ g ∧ g ≤ 20) (hx : -20 ≤ x ∧ x ≤ 20) : 0 ≤ f_gcd g x ∧ f_gcd g x ≤ 20 := by
  refine ⟨by unfold f_gcd; omega, ?_⟩
  by_cases h : g = 0
  · subst h
    unfold f_gcd
    rw [Int.gcd_zero_left]
    omega
  · exact Int.le_trans (Int.le_of_dvd (by omega) (gcd_dl g x)) hg.2
theorem G5_d (N : Int → Int) : G5 N ∣ N 0 ∧ G5 N ∣ N 1 ∧ G5 N ∣ N 2 ∧ G5 N ∣ N 3 ∧ G5 N ∣ N 4 := by
  unfold G5
  have d4 := gcd_dl (f_gcd (f_gcd (f_gcd (f_gcd 0 (N 0)) (N 1)) (N 2)) (N 3)) (N 4)
  have d3 := Int.dvd_trans d4 (gcd_dl (f_gcd (f_gcd (f_gcd 0 (N 0)) (N 1)) (N 2)) (N 3))
  have d2 := Int.dvd_trans d3 (gcd_dl (f_gcd (f_gcd 0 (N 0)) (N 1)) (N 2))
  have d1 := Int.dvd_trans d2 (gcd_dl (f_gcd 0 (N 0)) (N 1))
  exact ⟨Int.dvd_trans d1 (gcd_dr _ _), Int.dvd_trans d2 (gcd_dr _ _), Int.dvd_trans d3 (gcd_dr _ _), Int.dvd_trans d4 (gcd_dr _ _), gcd_dr _ _⟩
theorem G5_dj {N : Int → Int} (h5 : n5 N) (j : Int) : G5 N ∣ N j := by
  obtain ⟨d0, d1, d2, d3, d4⟩ := G5_d N
  by_cases h : 0 ≤ j ∧ j ≤ 4
  · rcases (show j = 0 ∨ j = 1 ∨ j = 2 ∨ j = 3 ∨ j = 4 by omega) with rfl | rfl | rfl | rfl | rfl <;> assumption
  · rw [h5 j (by omega)]; exact Int.dvd_zero _
theorem G5_pos {N : Int → Int} (hN : ∀ j, -20 ≤ N j ∧ N j ≤ 20) (h5 : n5 N) (h0 : 0 ≤ f_deg N) : 1 ≤ G5 N ∧ G5 N ≤ 20 := by
  have h1 := gcd_le20 (g := 0) (by omega) (hN 0)
  have h2 := gcd_le20 h1 (hN 1)
  have h3 := gcd_le20 h2 (hN 2)
  have h4 := gcd_le20 h3 (hN 3)
  have h6 : 0 ≤ G5 N ∧ G5 N ≤ 20 := gcd_le20 h4 (hN 4)
  refine ⟨?_, h6.2⟩
  rcases Int.lt_or_le (G5 N) 1 with q | q
  · have e : G5 N = 0 := by omega
    have := G5_dj h5 (f_deg N)
    rw [e] at this
    exact absurd (Int.zero_dvd.mp this) ((deg_c N).2.2.2 h0)
  · exact q
theorem cont_r {N : Int → Int} (hN : ∀ j, -20 ≤ N j ∧ N j ≤ 20) (h5 : n5 N) (h0 : 0 ≤ f_deg N) : f_cont N ≠ 0 ∧ -20 ≤ f_cont N ∧ f_cont N ≤ 20 := by
  have := G5_pos hN h5 h0
  unfold f_cont
  split <;> omega
set_option maxHeartbeats 4000000 in
set_option maxRecDepth 100000 in
/-- the content, and what is left of the numbers -/
theorem kX1_takeOutContent (l : Launch) (dC : Nat → ClassId) (dI : Nat → Nat → Nat) (sz : Nat) (h n r d f : Nat) (cI : ClassId) (fc cn sp : Int) (N R : Int → Int) (hN : n5 N) (hR : n5 R) (h20 : ∀ j, -20 ≤ N j ∧ N j ≤ 20) (hdeg : 0 ≤ f_deg N) : Met l yX1_takeOutContent (.code yX1_takeOutContent cX1_takeOutContent 7 none :: wsA) ({ frames := 2, cells := 0, slots := 0, locals := 60 }) (va_Pc [.ref h, .int (iI (f_deg N))] (fun U => U.heap.size = sz ∧ va_P (dC, dI) vwCl [(h, .inr (1, [.ref n, .ref r, .ref d, .ref f, .int (iI fc), .int (iI cn), .int (iI sp)])), (n, .inl (cI, 5, .inl (aI N))), (r, .inl (cI, 5, .inl (aI R)))] U.heap ∧ va_K (dC, dI) vwCl [(cI, .int)] U ∧ va_D (fun _ => True) [(h, .inr (1, [.ref n, .ref r, .ref d, .ref f, .int (iI fc), .int (iI cn), .int (iI sp)])), (n, .inl (cI, 5, .inl (aI N))), (r, .inl (cI, 5, .inl (aI R)))] ∧ nb U)) (va_Qv (fun _ => True) (fun (u : Unit) t9 => va_P (dC, dI) vwCl [(h, .inr (1, [.ref n, .ref r, .ref d, .ref f, .int (iI fc), .int (iI (f_cont N)), .int (iI sp)])), (n, .inl (cI, 5, .inl (aI N))), (r, .inl (cI, 5, .inl (aI (f_rest N))))] t9.heap ∧ va_K (dC, dI) vwCl [(cI, .int)] t9 ∧ va_D (va_A [(h, .inr (1, [.ref n, .ref r, .ref d, .ref f, .int (iI fc), .int (iI cn), .int (iI sp)])), (n, .inl (cI, 5, .inl (aI N))), (r, .inl (cI, 5, .inl (aI R)))] sz) [(h, .inr (1, [.ref n, .ref r, .ref d, .ref f, .int (iI fc), .int (iI (f_cont N)), .int (iI sp)])), (n, .inl (cI, 5, .inl (aI N))), (r, .inl (cI, 5, .inl (aI (f_rest N))))]) (va_A [(h, .inr (1, [.ref n, .ref r, .ref d, .ref f, .int (iI fc), .int (iI cn), .int (iI sp)])), (n, .inl (cI, 5, .inl (aI N))), (r, .inl (cI, 5, .inl (aI R)))] sz)) 0 0 (va_A [(h, .inr (1, [.ref n, .ref r, .ref d, .ref f, .int (iI fc), .int (iI cn), .int (iI sp)])), (n, .inl (cI, 5, .inl (aI N))), (r, .inl (cI, 5, .inl (aI R)))] sz) := by
  refine Met.ofW (cc := cX1_takeOutContent) (maxL := 7) (ret := none) (by decide) rfl ?_
  intro p e s m args below meth c s₁ B hml hv
  obtain ⟨rfl, hsz, hP, hK, hD0, hnb⟩ := hv
  have hx := B.exec
  have hb := B.bytes
  have hr := B.returns
  have hts := atoms_spec (ws := .code yX1_takeOutContent cX1_takeOutContent 7 none :: wsA) B.pre
  have hw : ∀ w ∈ wsA, w.before _ s = true := fun w h => hts w (List.mem_cons_of_mem _ h)
  have hown : s.vm.findClass RX1 = some m.cls := findClass_of_methodNamed B.named
  have hlocks := B.notSynchronized
  subst hsz
  have hD := hD0.self (sz := s.heap.size)
  generalize hAe : va_A [(h, .inr (1, [.ref n, .ref r, .ref d, .ref f, .int (iI fc), .int (iI cn), .int (iI sp)])), (n, .inl (cI, 5, .inl (aI N))), (r, .inl (cI, 5, .inl (aI R)))] s.heap.size = A at hD ⊢
  have hA : ∀ q : Nat, s.heap.size ≤ q → A q := fun q h => by rw [← hAe]; exact Or.inr h
  have hS : va_S A s.heap s.heap [] := va_S.rf
  have hP : va_P (dC, dI) vwCl [(h, .inr (1, [.ref n, .ref r, .ref d, .ref f, .int (iI fc), .int (iI cn), .int (iI sp)])), (n, .inl (cI, 5, .inl (aI N))), (r, .inl (cI, 5, .inl (aI R)))] s.heap := hP
  have hl := lv_entry ([.ref h, .int (iI (f_deg N))]) (n := 7) (Nat.le_of_ble_eq_true rfl)
  rw [lg_entry_eq]
  generalize (lg_sl ([.ref h, .int (iI (f_deg N))]) ++ List.replicate (7 - (lg_sl ([.ref h, .int (iI (f_deg N))])).length) Slot.unset).toArray = ls at hl ⊢
  have hl : lv_has ls 7 [(0, .ref h), (1, .int (iI (f_deg N)))] := hl
  have hdc := deg_c N
  have hcr := cont_r h20 hN hdeg
  have h20_ := h20 0
  have h21_ := h20 1
  have h22_ := h20 2
  have h23_ := h20 3
  have h24_ := h20 4
  refine ix_iconst (n := 0) hx hb dX1_takeOutContent_0 ?_
  refine lv_istore_n (lv' := [(2, .int (iI 0)), (0, .ref h), (1, .int (iI (f_deg N)))]) hx hb dX1_takeOutContent_1 rfl hl (by decide) rfl (fun ls hl => ?_)
  refine lv_aload_n hx hb dX1_takeOutContent_2 rfl (lv_at hl 1 rfl) ?_
  refine va_get (D := (dC, dI)) (ci := 1) (v := .ref n) (C := RX1) (T := TX1) (N := 7) hx hb hw inX1 hown hK hP 0 rfl rfl 0 (by decide) (hw _ mA_53) (fun _ h9 => h9) rfl dX1_takeOutContent_3 ?_
  refine lv_astore_n (lv' := [(3, .ref n), (2, .int (iI 0)), (0, .ref h), (1, .int (iI (f_deg N)))]) hx hb dX1_takeOutContent_6 rfl hl (by decide) rfl (fun ls hl => ?_)
  refine lv_aload_n hx hb dX1_takeOutContent_7 rfl (lv_at hl 0 rfl) ?_
  refine va_alen (v := iI 5) hx hb hK hP 1 0 rfl rfl rfl dX1_takeOutContent_8 ?_
  refine lv_istore (lv' := [(4, .int (iI 5)), (3, .ref n), (2, .int (iI 0)), (0, .ref h), (1, .int (iI (f_deg N)))]) hx hb dX1_takeOutContent_9 hl (by decide) rfl (fun ls hl => ?_)
  refine ix_iconst (n := 0) hx hb dX1_takeOutContent_11 ?_
  refine lv_istore (lv' := [(5, .int (iI 0)), (4, .int (iI 5)), (3, .ref n), (2, .int (iI 0)), (0, .ref h), (1, .int (iI (f_deg N)))]) hx hb dX1_takeOutContent_12 hl (by decide) rfl (fun ls hl => ?_)
  refine lv_iload hx hb dX1_takeOutContent_14 (lv_at hl 0 rfl) ?_
  refine lv_iload hx hb dX1_takeOutContent_16 (lv_at hl 1 rfl) ?_
  refine ix_icmp_ge (tgt := 40) hx hb dX1_takeOutContent_18 (by decide) (by decide) (by decide) (fun c1 => absurd c1 (by decide)) (fun _ => ?_)
  refine lv_aload_n hx hb dX1_takeOutContent_21 rfl (lv_at hl 2 rfl) ?_
  refine lv_iload hx hb dX1_takeOutContent_22 (lv_at hl 0 rfl) ?_
  refine ix_iald (k := 0) hx hb hK hP 1 0 rfl rfl (by decide) (by decide) (by decide) dX1_takeOutContent_24 ?_
  refine lv_istore (lv' := [(6, .int (iI (N 0))), (5, .int (iI 0)), (4, .int (iI 5)), (3, .ref n), (2, .int (iI 0)), (0, .ref h), (1, .int (iI (f_deg N)))]) hx hb dX1_takeOutContent_25 hl (by decide) rfl (fun ls hl => ?_)
  refine lv_iload_n hx hb dX1_takeOutContent_27 rfl (lv_at hl 4 rfl) ?_
  refine lv_iload hx hb dX1_takeOutContent_28 (lv_at hl 0 rfl) ?_
  refine vp_callSi (W.runS (As := [.int (iI 0), .int (iI (N 0))]) (rest := []) ⟨hx, hb, hml, hown, hw⟩ (kX1_commonDivisor l 0 (N 0) ⟨by omega, by omega⟩ ⟨by omega, by omega⟩) (cwS 2 hw (gS mA_239 mA_240 mA_1 mA_241) rfl rfl rfl (by decide +kernel) ⟨Nat.le_of_ble_eq_true rfl, Nat.le_of_ble_eq_true rfl⟩) preEq rfl rfl hl.1 rfl (lv_room (Nat.le_of_ble_eq_true rfl)) dX1_takeOutContent_30 ⟨Nat.le_of_ble_eq_true rfl, Nat.le_of_ble_eq_true rfl⟩) (fun r2 h3 => ?_)
  subst h3
  have hg1 := gcd_le20 (g := 0) (x := N 0) (by omega) (by omega)
  refine lv_istore_n (lv' := [(2, .int (iI (f_gcd 0 (N 0)))), (6, .int (iI (N 0))), (5, .int (iI 0)), (4, .int (iI 5)), (3, .ref n), (0, .ref h), (1, .int (iI (f_deg N)))]) hx hb dX1_takeOutContent_33 rfl hl (by decide) rfl (fun ls hl => ?_)
  refine ix_iinc (k := 2) (lv2 := [(5, .int (iI 1)), (2, .int (iI (f_gcd 0 (N 0)))), (6, .int (iI (N 0))), (4, .int (iI 5)), (3, .ref n), (0, .ref h), (1, .int (iI (f_deg N)))]) hx hb dX1_takeOutContent_34 hl rfl (by decide) rfl (fun ls hl => ?_)
  refine lv_goto (tgt := 14) hx hb dX1_takeOutContent_37 (by decide) ?_
  refine lv_iload hx hb dX1_takeOutContent_14 (lv_at hl 0 rfl) ?_
  refine lv_iload hx hb dX1_takeOutContent_16 (lv_at hl 3 rfl) ?_
  refine ix_icmp_ge (tgt := 40) hx hb dX1_takeOutContent_18 (by decide) (by decide) (by decide) (fun c4 => absurd c4 (by decide)) (fun _ => ?_)
  refine lv_aload_n hx hb dX1_takeOutContent_21 rfl (lv_at hl 4 rfl) ?_
  refine lv_iload hx hb dX1_takeOutContent_22 (lv_at hl 0 rfl) ?_
  refine ix_iald (k := 1) hx hb hK hP 1 0 rfl rfl (by decide) (by decide) (by decide) dX1_takeOutContent_24 ?_
  refine lv_istore (lv' := [(6, .int (iI (N 1))), (5, .int (iI 1)), (2, .int (iI (f_gcd 0 (N 0)))), (4, .int (iI 5)), (3, .ref n), (0, .ref h), (1, .int (iI (f_deg N)))]) hx hb dX1_takeOutContent_25 hl (by decide) rfl (fun ls hl => ?_)
  refine lv_iload_n hx hb dX1_takeOutContent_27 rfl (lv_at hl 2 rfl) ?_
  refine lv_iload hx hb dX1_takeOutContent_28 (lv_at hl 0 rfl) ?_
  refine vp_callSi (W.runS (As := [.int (iI (f_gcd 0 (N 0))), .int (iI (N 1))]) (rest := []) ⟨hx, hb, hml, hown, hw⟩ (kX1_commonDivisor l (f_gcd 0 (N 0)) (N 1) ⟨by omega, by omega⟩ ⟨by omega, by omega⟩) (cwS 2 hw (gS mA_239 mA_240 mA_1 mA_241) rfl rfl rfl (by decide +kernel) ⟨Nat.le_of_ble_eq_true rfl, Nat.le_of_ble_eq_true rfl⟩) preEq rfl rfl hl.1 rfl (lv_room (Nat.le_of_ble_eq_true rfl)) dX1_takeOutContent_30 ⟨Nat.le_of_ble_eq_true rfl, Nat.le_of_ble_eq_true rfl⟩) (fun r5 h6 => ?_)
  subst h6
  have hg2 := gcd_le20 (g := f_gcd 0 (N 0)) (x := N 1) (by omega) (by omega)
  refine lv_istore_n (lv' := [(2, .int (iI (f_gcd (f_gcd 0 (N 0)) (N 1)))), (6, .int (iI (N 1))), (5, .int (iI 1)), (4, .int (iI 5)), (3, .ref n), (0, .ref h), (1, .int (iI (f_deg N)))]) hx hb dX1_takeOutContent_33 rfl hl (by decide) rfl (fun ls hl => ?_)
  refine ix_iinc (k := 2) (lv2 := [(5, .int (iI 2)), (2, .int (iI (f_gcd (f_gcd 0 (N 0)) (N 1)))), (6, .int (iI (N 1))), (4, .int (iI 5)), (3, .ref n), (0, .ref h), (1, .int (iI (f_deg N)))]) hx hb dX1_takeOutContent_34 hl rfl (by decide) rfl (fun ls hl => ?_)
  refine lv_goto (tgt := 14) hx hb dX1_takeOutContent_37 (by decide) ?_
  refine lv_iload hx hb dX1_takeOutContent_14 (lv_at hl 0 rfl) ?_
  refine lv_iload hx hb dX1_takeOutContent_16 (lv_at hl 3 rfl) ?_
  refine ix_icmp_ge (tgt := 40) hx hb dX1_takeOutContent_18 (by decide) (by decide) (by decide) (fun c7 => absurd c7 (by decide)) (fun _ => ?_)
  refine lv_aload_n hx hb dX1_takeOutContent_21 rfl (lv_at hl 4 rfl) ?_
  refine lv_iload hx hb dX1_takeOutContent_22 (lv_at hl 0 rfl) ?_
  refine ix_iald (k := 2) hx hb hK hP 1 0 rfl rfl (by decide) (by decide) (by decide) dX1_takeOutContent_24 ?_
  refine lv_istore (lv' := [(6, .int (iI (N 2))), (5, .int (iI 2)), (2, .int (iI (f_gcd (f_gcd 0 (N 0)) (N 1)))), (4, .int (iI 5)), (3, .ref n), (0, .ref h), (1, .int (iI (f_deg N)))]) hx hb dX1_takeOutContent_25 hl (by decide) rfl (fun ls hl => ?_)
  refine lv_iload_n hx hb dX1_takeOutContent_27 rfl (lv_at hl 2 rfl) ?_
  refine lv_iload hx hb dX1_takeOutContent_28 (lv_at hl 0 rfl) ?_
  refine vp_callSi (W.runS (As := [.int (iI (f_gcd (f_gcd 0 (N 0)) (N 1))), .int (iI (N 2))]) (rest := []) ⟨hx, hb, hml, hown, hw⟩ (kX1_commonDivisor l (f_gcd (f_gcd 0 (N 0)) (N 1)) (N 2) ⟨by omega, by omega⟩ ⟨by omega, by omega⟩) (cwS 2 hw (gS mA_239 mA_240 mA_1 mA_241) rfl rfl rfl (by decide +kernel) ⟨Nat.le_of_ble_eq_true rfl, Nat.le_of_ble_eq_true rfl⟩) preEq rfl rfl hl.1 rfl (lv_room (Nat.le_of_ble_eq_true rfl)) dX1_takeOutContent_30 ⟨Nat.le_of_ble_eq_true rfl, Nat.le_of_ble_eq_true rfl⟩) (fun r8 h9 => ?_)
  subst h9
  have hg3 := gcd_le20 (g := f_gcd (f_gcd 0 (N 0)) (N 1)) (x := N 2) (by omega) (by omega)
  refine lv_istore_n (lv' := [(2, .int (iI (f_gcd (f_gcd (f_gcd 0 (N 0)) (N 1)) (N 2)))), (6, .int (iI (N 2))), (5, .int (iI 2)), (4, .int (iI 5)), (3, .ref n), (0, .ref h), (1, .int (iI (f_deg N)))]) hx hb dX1_takeOutContent_33 rfl hl (by decide) rfl (fun ls hl => ?_)
  refine ix_iinc (k := 2) (lv2 := [(5, .int (iI 3)), (2, .int (iI (f_gcd (f_gcd (f_gcd 0 (N 0)) (N 1)) (N 2)))), (6, .int (iI (N 2))), (4, .int (iI 5)), (3, .ref n), (0, .ref h), (1, .int (iI (f_deg N)))]) hx hb dX1_takeOutContent_34 hl rfl (by decide) rfl (fun ls hl => ?_)
  refine lv_goto (tgt := 14) hx hb dX1_takeOutContent_37 (by decide) ?_
  refine lv_iload hx hb dX1_takeOutContent_14 (lv_at hl 0 rfl) ?_
  refine lv_iload hx hb dX1_takeOutContent_16 (lv_at hl 3 rfl) ?_
  refine ix_icmp_ge (tgt := 40) hx hb dX1_takeOutContent_18 (by decide) (by decide) (by decide) (fun c10 => absurd c10 (by decide)) (fun _ => ?_)
  refine lv_aload_n hx hb dX1_takeOutContent_21 rfl (lv_at hl 4 rfl) ?_
  refine lv_iload hx hb dX1_takeOutContent_22 (lv_at hl 0 rfl) ?_
  refine ix_iald (k := 3) hx hb hK hP 1 0 rfl rfl (by decide) (by decide) (by decide) dX1_takeOutContent_24 ?_
  refine lv_istore (lv' := [(6, .int (iI (N 3))), (5, .int (iI 3)), (2, .int (iI (f_gcd (f_gcd (f_gcd 0 (N 0)) (N 1)) (N 2)))), (4, .int (iI 5)), (3, .ref n), (0, .ref h), (1, .int (iI (f_deg N)))]) hx hb dX1_takeOutContent_25 hl (by decide) rfl (fun ls hl => ?_)
  refine lv_iload_n hx hb dX1_takeOutContent_27 rfl (lv_at hl 2 rfl) ?_
  refine lv_iload hx hb dX1_takeOutContent_28 (lv_at hl 0 rfl) ?_
  refine vp_callSi (W.runS (As := [.int (iI (f_gcd (f_gcd (f_gcd 0 (N 0)) (N 1)) (N 2))), .int (iI (N 3))]) (rest := []) ⟨hx, hb, hml, hown, hw⟩ (kX1_commonDivisor l (f_gcd (f_gcd (f_gcd 0 (N 0)) (N 1)) (N 2)) (N 3) ⟨by omega, by omega⟩ ⟨by omega, by omega⟩) (cwS 2 hw (gS mA_239 mA_240 mA_1 mA_241) rfl rfl rfl (by decide +kernel) ⟨Nat.le_of_ble_eq_true rfl, Nat.le_of_ble_eq_true rfl⟩) preEq rfl rfl hl.1 rfl (lv_room (Nat.le_of_ble_eq_true rfl)) dX1_takeOutContent_30 ⟨Nat.le_of_ble_eq_true rfl, Nat.le_of_ble_eq_true rfl⟩) (fun r11 h12 => ?_)
  subst h12
  have hg4 := gcd_le20 (g := f_gcd (f_gcd (f_gcd 0 (N 0)) (N 1)) (N 2)) (x := N 3) (by omega) (by omega)
  refine lv_istore_n (lv' := [(2, .int (iI (f_gcd (f_gcd (f_gcd (f_gcd 0 (N 0)) (N 1)) (N 2)) (N 3)))), (6, .int (iI (N 3))), (5, .int (iI 3)), (4, .int (iI 5)), (3, .ref n), (0, .ref h), (1, .int (iI (f_deg N)))]) hx hb dX1_takeOutContent_33 rfl hl (by decide) rfl (fun ls hl => ?_)
  refine ix_iinc (k := 2) (lv2 := [(5, .int (iI 4)), (2, .int (iI (f_gcd (f_gcd (f_gcd (f_gcd 0 (N 0)) (N 1)) (N 2)) (N 3)))), (6, .int (iI (N 3))), (4, .int (iI 5)), (3, .ref n), (0, .ref h), (1, .int (iI (f_deg N)))]) hx hb dX1_takeOutContent_34 hl rfl (by decide) rfl (fun ls hl => ?_)
  refine lv_goto (tgt := 14) hx hb dX1_takeOutContent_37 (by decide) ?_
  refine lv_iload hx hb dX1_takeOutContent_14 (lv_at hl 0 rfl) ?_
  refine lv_iload hx hb dX1_takeOutContent_16 (lv_at hl 3 rfl) ?_
  refine ix_icmp_ge (tgt := 40) hx hb dX1_takeOutContent_18 (by decide) (by decide) (by decide) (fun c13 => absurd c13 (by decide)) (fun _ => ?_)
  refine lv_aload_n hx hb dX1_takeOutContent_21 rfl (lv_at hl 4 rfl) ?_
  refine lv_iload hx hb dX1_takeOutContent_22 (lv_at hl 0 rfl) ?_
  refine ix_iald (k := 4) hx hb hK hP 1 0 rfl rfl (by decide) (by decide) (by decide) dX1_takeOutContent_24 ?_
  refine lv_istore (lv' := [(6, .int (iI (N 4))), (5, .int (iI 4)), (2, .int (iI (f_gcd (f_gcd (f_gcd (f_gcd 0 (N 0)) (N 1)) (N 2)) (N 3)))), (4, .int (iI 5)), (3, .ref n), (0, .ref h), (1, .int (iI (f_deg N)))]) hx hb dX1_takeOutContent_25 hl (by decide) rfl (fun ls hl => ?_)
  refine lv_iload_n hx hb dX1_takeOutContent_27 rfl (lv_at hl 2 rfl) ?_
  refine lv_iload hx hb dX1_takeOutContent_28 (lv_at hl 0 rfl) ?_
  refine vp_callSi (W.runS (As := [.int (iI (f_gcd (f_gcd (f_gcd (f_gcd 0 (N 0)) (N 1)) (N 2)) (N 3))), .int (iI (N 4))]) (rest := []) ⟨hx, hb, hml, hown, hw⟩ (kX1_commonDivisor l (f_gcd (f_gcd (f_gcd (f_gcd 0 (N 0)) (N 1)) (N 2)) (N 3)) (N 4) ⟨by omega, by omega⟩ ⟨by omega, by omega⟩) (cwS 2 hw (gS mA_239 mA_240 mA_1 mA_241) rfl rfl rfl (by decide +kernel) ⟨Nat.le_of_ble_eq_true rfl, Nat.le_of_ble_eq_true rfl⟩) preEq rfl rfl hl.1 rfl (lv_room (Nat.le_of_ble_eq_true rfl)) dX1_takeOutContent_30 ⟨Nat.le_of_ble_eq_true rfl, Nat.le_of_ble_eq_true rfl⟩) (fun r14 h15 => ?_)
  subst h15
  have hg5 := gcd_le20 (g := f_gcd (f_gcd (f_gcd (f_gcd 0 (N 0)) (N 1)) (N 2)) (N 3)) (x := N 4) (by omega) (by omega)
  refine lv_istore_n (lv' := [(2, .int (iI (f_gcd (f_gcd (f_gcd (f_gcd (f_gcd 0 (N 0)) (N 1)) (N 2)) (N 3)) (N 4)))), (6, .int (iI (N 4))), (5, .int (iI 4)), (4, .int (iI 5)), (3, .ref n), (0, .ref h), (1, .int (iI (f_deg N)))]) hx hb dX1_takeOutContent_33 rfl hl (by decide) rfl (fun ls hl => ?_)
  refine ix_iinc (k := 2) (lv2 := [(5, .int (iI 5)), (2, .int (iI (f_gcd (f_gcd (f_gcd (f_gcd (f_gcd 0 (N 0)) (N 1)) (N 2)) (N 3)) (N 4)))), (6, .int (iI (N 4))), (4, .int (iI 5)), (3, .ref n), (0, .ref h), (1, .int (iI (f_deg N)))]) hx hb dX1_takeOutContent_34 hl rfl (by decide) rfl (fun ls hl => ?_)
  refine lv_goto (tgt := 14) hx hb dX1_takeOutContent_37 (by decide) ?_
  refine lv_iload hx hb dX1_takeOutContent_14 (lv_at hl 0 rfl) ?_
  refine lv_iload hx hb dX1_takeOutContent_16 (lv_at hl 3 rfl) ?_
  refine ix_icmp_ge (tgt := 40) hx hb dX1_takeOutContent_18 (by decide) (by decide) (by decide) (fun _ => ?_) (fun c16 => absurd c16 (by decide))
  refine lv_aload_n hx hb dX1_takeOutContent_40 rfl (lv_at hl 5 rfl) ?_
  refine lv_aload_n hx hb dX1_takeOutContent_41 rfl (lv_at hl 5 rfl) ?_
  refine va_get (D := (dC, dI)) (ci := 1) (v := .ref n) (C := RX1) (T := TX1) (N := 7) hx hb hw inX1 hown hK hP 0 rfl rfl 0 (by decide) (hw _ mA_53) (fun _ h9 => h9) rfl dX1_takeOutContent_42 ?_
  refine lv_iload_n hx hb dX1_takeOutContent_45 rfl (lv_at hl 6 rfl) ?_
  refine ix_iald (k := f_deg N) hx hb hK hP 1 0 rfl rfl (by omega) (by omega) (by decide) dX1_takeOutContent_46 ?_
  refine ix_if_ge (tgt := 55) hx hb dX1_takeOutContent_47 (by decide) ⟨by have := (h20 (f_deg N)).1; omega, by have := (h20 (f_deg N)).2; omega⟩ (fun c17 => ?_) (fun c17 => ?_)
  · refine lv_iload_n hx hb dX1_takeOutContent_55 rfl (lv_at hl 1 rfl) ?_
    refine ix_z (y := f_cont N) (by unfold f_cont G5; first | rw [if_pos (by omega)] | rw [if_neg (by omega)]) ?_
    refine va_put (D := (dC, dI)) (ci := 1) (v := .int (iI (f_cont N))) (ty := .int) (C := RX1) (T := TX1) (N := 7) hx hb hw inX1 tyX1 tyX1_ok nmX1 hown hK hP hD hS 0 rfl rfl 5 (by decide) (hw _ mA_58) (fun _ h9 => h9) rfl (by decide +kernel) rfl rfl (Nat.le_of_ble_eq_true rfl) dX1_takeOutContent_56 (fun H locs hP hD hS => ?_)
    have hP : va_P (dC, dI) vwCl [(h, .inr (1, [.ref n, .ref r, .ref d, .ref f, .int (iI fc), .int (iI (f_cont N)), .int (iI sp)])), (n, .inl (cI, 5, .inl (aI N))), (r, .inl (cI, 5, .inl (aI R)))] H := hP
    have hD : va_D A [(h, .inr (1, [.ref n, .ref r, .ref d, .ref f, .int (iI fc), .int (iI (f_cont N)), .int (iI sp)])), (n, .inl (cI, 5, .inl (aI N))), (r, .inl (cI, 5, .inl (aI R)))] := hD
    refine ix_iconst (n := 0) hx hb dX1_takeOutContent_59 ?_
    refine lv_istore_n (lv' := [(3, .int (iI 0)), (5, .int (iI 5)), (2, .int (iI (f_gcd (f_gcd (f_gcd (f_gcd (f_gcd 0 (N 0)) (N 1)) (N 2)) (N 3)) (N 4)))), (6, .int (iI (N 4))), (4, .int (iI 5)), (0, .ref h), (1, .int (iI (f_deg N)))]) hx hb dX1_takeOutContent_60 rfl hl (by decide) rfl (fun ls hl => ?_)
    refine lv_iload_n hx hb dX1_takeOutContent_61 rfl (lv_at hl 0 rfl) ?_
    refine lv_aload_n hx hb dX1_takeOutContent_62 rfl (lv_at hl 5 rfl) ?_
    refine va_get (D := (dC, dI)) (ci := 1) (v := .ref r) (C := RX1) (T := TX1) (N := 7) hx hb hw inX1 hown hK hP 0 rfl rfl 1 (by decide) (hw _ mA_54) (fun _ h9 => h9) rfl dX1_takeOutContent_63 ?_
    refine va_alen (v := iI 5) hx hb hK hP 2 0 rfl rfl rfl dX1_takeOutContent_66 ?_
    refine ix_icmp_ge (tgt := 104) hx hb dX1_takeOutContent_67 (by decide) (by decide) (by decide) (fun c18 => absurd c18 (by decide)) (fun _ => ?_)
    refine lv_aload_n hx hb dX1_takeOutContent_70 rfl (lv_at hl 5 rfl) ?_
    refine va_get (D := (dC, dI)) (ci := 1) (v := .ref r) (C := RX1) (T := TX1) (N := 7) hx hb hw inX1 hown hK hP 0 rfl rfl 1 (by decide) (hw _ mA_54) (fun _ h9 => h9) rfl dX1_takeOutContent_71 ?_
    refine lv_iload_n hx hb dX1_takeOutContent_74 rfl (lv_at hl 0 rfl) ?_
    refine lv_aload_n hx hb dX1_takeOutContent_75 rfl (lv_at hl 5 rfl) ?_
    refine va_get (D := (dC, dI)) (ci := 1) (v := .int (iI (f_cont N))) (C := RX1) (T := TX1) (N := 7) hx hb hw inX1 hown hK hP 0 rfl rfl 5 (by decide) (hw _ mA_58) (fun _ h9 => h9) rfl dX1_takeOutContent_76 ?_
    refine ix_if_ne (tgt := 86) hx hb dX1_takeOutContent_79 (by decide) (by omega) (fun _ => ?_) (fun c19 => absurd c19 hcr.1)
    refine lv_aload_n hx hb dX1_takeOutContent_86 rfl (lv_at hl 5 rfl) ?_
    refine va_get (D := (dC, dI)) (ci := 1) (v := .ref n) (C := RX1) (T := TX1) (N := 7) hx hb hw inX1 hown hK hP 0 rfl rfl 0 (by decide) (hw _ mA_53) (fun _ h9 => h9) rfl dX1_takeOutContent_87 ?_
    refine lv_iload_n hx hb dX1_takeOutContent_90 rfl (lv_at hl 0 rfl) ?_
    refine ix_iald (k := 0) hx hb hK hP 1 0 rfl rfl (by decide) (by decide) (by decide) dX1_takeOutContent_91 ?_
    refine lv_aload_n hx hb dX1_takeOutContent_92 rfl (lv_at hl 5 rfl) ?_
    refine va_get (D := (dC, dI)) (ci := 1) (v := .int (iI (f_cont N))) (C := RX1) (T := TX1) (N := 7) hx hb hw inX1 hown hK hP 0 rfl rfl 5 (by decide) (hw _ mA_58) (fun _ h9 => h9) rfl dX1_takeOutContent_93 ?_
    refine ix_idiv hx hb dX1_takeOutContent_96 ⟨by have := (h20 (0)).1; omega, by have := (h20 (0)).2; omega⟩ (by omega) (by have := h20 0; have := h20 1; have := h20 2; have := h20 3; have := h20 4; omega) (by omega) ?_
    refine ix_iast (k := 0) (x := Int.tdiv (N 0) (f_cont N)) hx hb hK hP hD hS 2 0 rfl rfl (by decide) (by decide) (by decide) dX1_takeOutContent_97 (fun H locs hP hD hS => ?_)
    have hP : va_P (dC, dI) vwCl [(h, .inr (1, [.ref n, .ref r, .ref d, .ref f, .int (iI fc), .int (iI (f_cont N)), .int (iI sp)])), (n, .inl (cI, 5, .inl (aI N))), (r, .inl (cI, 5, .inl (aI (iu R 0 (Int.tdiv (N 0) (f_cont N))))))] H := hP
    have hD : va_D A [(h, .inr (1, [.ref n, .ref r, .ref d, .ref f, .int (iI fc), .int (iI (f_cont N)), .int (iI sp)])), (n, .inl (cI, 5, .inl (aI N))), (r, .inl (cI, 5, .inl (aI (iu R 0 (Int.tdiv (N 0) (f_cont N))))))] := hD
    refine ix_iinc (k := 0) (lv2 := [(3, .int (iI 1)), (5, .int (iI 5)), (2, .int (iI (f_gcd (f_gcd (f_gcd (f_gcd (f_gcd 0 (N 0)) (N 1)) (N 2)) (N 3)) (N 4)))), (6, .int (iI (N 4))), (4, .int (iI 5)), (0, .ref h), (1, .int (iI (f_deg N)))]) hx hb dX1_takeOutContent_98 hl rfl (by decide) rfl (fun ls hl => ?_)
    refine lv_goto (tgt := 61) hx hb dX1_takeOutContent_101 (by decide) ?_
    refine lv_iload_n hx hb dX1_takeOutContent_61 rfl (lv_at hl 0 rfl) ?_
    refine lv_aload_n hx hb dX1_takeOutContent_62 rfl (lv_at hl 5 rfl) ?_
    refine va_get (D := (dC, dI)) (ci := 1) (v := .ref r) (C := RX1) (T := TX1) (N := 7) hx hb hw inX1 hown hK hP 0 rfl rfl 1 (by decide) (hw _ mA_54) (fun _ h9 => h9) rfl dX1_takeOutContent_63 ?_
    refine va_alen (v := iI 5) hx hb hK hP 2 0 rfl rfl rfl dX1_takeOutContent_66 ?_
    refine ix_icmp_ge (tgt := 104) hx hb dX1_takeOutContent_67 (by decide) (by decide) (by decide) (fun c20 => absurd c20 (by decide)) (fun _ => ?_)
    refine lv_aload_n hx hb dX1_takeOutContent_70 rfl (lv_at hl 5 rfl) ?_
    refine va_get (D := (dC, dI)) (ci := 1) (v := .ref r) (C := RX1) (T := TX1) (N := 7) hx hb hw inX1 hown hK hP 0 rfl rfl 1 (by decide) (hw _ mA_54) (fun _ h9 => h9) rfl dX1_takeOutContent_71 ?_
    refine lv_iload_n hx hb dX1_takeOutContent_74 rfl (lv_at hl 0 rfl) ?_
    refine lv_aload_n hx hb dX1_takeOutContent_75 rfl (lv_at hl 5 rfl) ?_
    refine va_get (D := (dC, dI)) (ci := 1) (v := .int (iI (f_cont N))) (C := RX1) (T := TX1) (N := 7) hx hb hw inX1 hown hK hP 0 rfl rfl 5 (by decide) (hw _ mA_58) (fun _ h9 => h9) rfl dX1_takeOutContent_76 ?_
    refine ix_if_ne (tgt := 86) hx hb dX1_takeOutContent_79 (by decide) (by omega) (fun _ => ?_) (fun c21 => absurd c21 hcr.1)
    refine lv_aload_n hx hb dX1_takeOutContent_86 rfl (lv_at hl 5 rfl) ?_
    refine va_get (D := (dC, dI)) (ci := 1) (v := .ref n) (C := RX1) (T := TX1) (N := 7) hx hb hw inX1 hown hK hP 0 rfl rfl 0 (by decide) (hw _ mA_53) (fun _ h9 => h9) rfl dX1_takeOutContent_87 ?_
    refine lv_iload_n hx hb dX1_takeOutContent_90 rfl (lv_at hl 0 rfl) ?_
    refine ix_iald (k := 1) hx hb hK hP 1 0 rfl rfl (by decide) (by decide) (by decide) dX1_takeOutContent_91 ?_
    refine lv_aload_n hx hb dX1_takeOutContent_92 rfl (lv_at hl 5 rfl) ?_
    refine va_get (D := (dC, dI)) (ci := 1) (v := .int (iI (f_cont N))) (C := RX1) (T := TX1) (N := 7) hx hb hw inX1 hown hK hP 0 rfl rfl 5 (by decide) (hw _ mA_58) (fun _ h9 => h9) rfl dX1_takeOutContent_93 ?_
    refine ix_idiv hx hb dX1_takeOutContent_96 ⟨by have := (h20 (1)).1; omega, by have := (h20 (1)).2; omega⟩ (by omega) (by have := h20 0; have := h20 1; have := h20 2; have := h20 3; have := h20 4; omega) (by omega) ?_
    refine ix_iast (k := 1) (x := Int.tdiv (N 1) (f_cont N)) hx hb hK hP hD hS 2 0 rfl rfl (by decide) (by decide) (by decide) dX1_takeOutContent_97 (fun H locs hP hD hS => ?_)
    have hP : va_P (dC, dI) vwCl [(h, .inr (1, [.ref n, .ref r, .ref d, .ref f, .int (iI fc), .int (iI (f_cont N)), .int (iI sp)])), (n, .inl (cI, 5, .inl (aI N))), (r, .inl (cI, 5, .inl (aI (iu (iu R 0 (Int.tdiv (N 0) (f_cont N))) 1 (Int.tdiv (N 1) (f_cont N))))))] H := hP
    have hD : va_D A [(h, .inr (1, [.ref n, .ref r, .ref d, .ref f, .int (iI fc), .int (iI (f_cont N)), .int (iI sp)])), (n, .inl (cI, 5, .inl (aI N))), (r, .inl (cI, 5, .inl (aI (iu (iu R 0 (Int.tdiv (N 0) (f_cont N))) 1 (Int.tdiv (N 1) (f_cont N))))))] := hD
    refine ix_iinc (k := 0) (lv2 := [(3, .int (iI 2)), (5, .int (iI 5)), (2, .int (iI (f_gcd (f_gcd (f_gcd (f_gcd (f_gcd 0 (N 0)) (N 1)) (N 2)) (N 3)) (N 4)))), (6, .int (iI (N 4))), (4, .int (iI 5)), (0, .ref h), (1, .int (iI (f_deg N)))]) hx hb dX1_takeOutContent_98 hl rfl (by decide) rfl (fun ls hl => ?_)
    refine lv_goto (tgt := 61) hx hb dX1_takeOutContent_101 (by decide) ?_
    refine lv_iload_n hx hb dX1_takeOutContent_61 rfl (lv_at hl 0 rfl) ?_
    refine lv_aload_n hx hb dX1_takeOutContent_62 rfl (lv_at hl 5 rfl) ?_
    refine va_get (D := (dC, dI)) (ci := 1) (v := .ref r) (C := RX1) (T := TX1) (N := 7) hx hb hw inX1 hown hK hP 0 rfl rfl 1 (by decide) (hw _ mA_54) (fun _ h9 => h9) rfl dX1_takeOutContent_63 ?_
    refine va_alen (v := iI 5) hx hb hK hP 2 0 rfl rfl rfl dX1_takeOutContent_66 ?_
    refine ix_icmp_ge (tgt := 104) hx hb dX1_takeOutContent_67 (by decide) (by decide) (by decide) (fun c22 => absurd c22 (by decide)) (fun _ => ?_)
    refine lv_aload_n hx hb dX1_takeOutContent_70 rfl (lv_at hl 5 rfl) ?_
    refine va_get (D := (dC, dI)) (ci := 1) (v := .ref r) (C := RX1) (T := TX1) (N := 7) hx hb hw inX1 hown hK hP 0 rfl rfl 1 (by decide) (hw _ mA_54) (fun _ h9 => h9) rfl dX1_takeOutContent_71 ?_
    refine lv_iload_n hx hb dX1_takeOutContent_74 rfl (lv_at hl 0 rfl) ?_
    refine lv_aload_n hx hb dX1_takeOutContent_75 rfl (lv_at hl 5 rfl) ?_
    refine va_get (D := (dC, dI)) (ci := 1) (v := .int (iI (f_cont N))) (C := RX1) (T := TX1) (N := 7) hx hb hw inX1 hown hK hP 0 rfl rfl 5 (by decide) (hw _ mA_58) (fun _ h9 => h9) rfl dX1_takeOutContent_76 ?_
    refine ix_if_ne (tgt := 86) hx hb dX1_takeOutContent_79 (by decide) (by omega) (fun _ => ?_) (fun c23 => absurd c23 hcr.1)
    refine lv_aload_n hx hb dX1_takeOutContent_86 rfl (lv_at hl 5 rfl) ?_
    refine va_get (D := (dC, dI)) (ci := 1) (v := .ref n) (C := RX1) (T := TX1) (N := 7) hx hb hw inX1 hown hK hP 0 rfl rfl 0 (by decide) (hw _ mA_53) (fun _ h9 => h9) rfl dX1_takeOutContent_87 ?_
    refine lv_iload_n hx hb dX1_takeOutContent_90 rfl (lv_at hl 0 rfl) ?_
    refine ix_iald (k := 2) hx hb hK hP 1 0 rfl rfl (by decide) (by decide) (by decide) dX1_takeOutContent_91 ?_
    refine lv_aload_n hx hb dX1_takeOutContent_92 rfl (lv_at hl 5 rfl) ?_
    refine va_get (D := (dC, dI)) (ci := 1) (v := .int (iI (f_cont N))) (C := RX1) (T := TX1) (N := 7) hx hb hw inX1 hown hK hP 0 rfl rfl 5 (by decide) (hw _ mA_58) (fun _ h9 => h9) rfl dX1_takeOutContent_93 ?_
    refine ix_idiv hx hb dX1_takeOutContent_96 ⟨by have := (h20 (2)).1; omega, by have := (h20 (2)).2; omega⟩ (by omega) (by have := h20 0; have := h20 1; have := h20 2; have := h20 3; have := h20 4; omega) (by omega) ?_
    refine ix_iast (k := 2) (x := Int.tdiv (N 2) (f_cont N)) hx hb hK hP hD hS 2 0 rfl rfl (by decide) (by decide) (by decide) dX1_takeOutContent_97 (fun H locs hP hD hS => ?_)
    have hP : va_P (dC, dI) vwCl [(h, .inr (1, [.ref n, .ref r, .ref d, .ref f, .int (iI fc), .int (iI (f_cont N)), .int (iI sp)])), (n, .inl (cI, 5, .inl (aI N))), (r, .inl (cI, 5, .inl (aI (iu (iu (iu R 0 (Int.tdiv (N 0) (f_cont N))) 1 (Int.tdiv (N 1) (f_cont N))) 2 (Int.tdiv (N 2) (f_cont N))))))] H := hP
    have hD : va_D A [(h, .inr (1, [.ref n, .ref r, .ref d, .ref f, .int (iI fc), .int (iI (f_cont N)), .int (iI sp)])), (n, .inl (cI, 5, .inl (aI N))), (r, .inl (cI, 5, .inl (aI (iu (iu (iu R 0 (Int.tdiv (N 0) (f_cont N))) 1 (Int.tdiv (N 1) (f_cont N))) 2 (Int.tdiv (N 2) (f_cont N))))))] := hD
    refine ix_iinc (k := 0) (lv2 := [(3, .int (iI 3)), (5, .int (iI 5)), (2, .int (iI (f_gcd (f_gcd (f_gcd (f_gcd (f_gcd 0 (N 0)) (N 1)) (N 2)) (N 3)) (N 4)))), (6, .int (iI (N 4))), (4, .int (iI 5)), (0, .ref h), (1, .int (iI (f_deg N)))]) hx hb dX1_takeOutContent_98 hl rfl (by decide) rfl (fun ls hl => ?_)
    refine lv_goto (tgt := 61) hx hb dX1_takeOutContent_101 (by decide) ?_
    refine lv_iload_n hx hb dX1_takeOutContent_61 rfl (lv_at hl 0 rfl) ?_
    refine lv_aload_n hx hb dX1_takeOutContent_62 rfl (lv_at hl 5 rfl) ?_
    refine va_get (D := (dC, dI)) (ci := 1) (v := .ref r) (C := RX1) (T := TX1) (N := 7) hx hb hw inX1 hown hK hP 0 rfl rfl 1 (by decide) (hw _ mA_54) (fun _ h9 => h9) rfl dX1_takeOutContent_63 ?_
    refine va_alen (v := iI 5) hx hb hK hP 2 0 rfl rfl rfl dX1_takeOutContent_66 ?_
    refine ix_icmp_ge (tgt := 104) hx hb dX1_takeOutContent_67 (by decide) (by decide) (by decide) (fun c24 => absurd c24 (by decide)) (fun _ => ?_)
    refine lv_aload_n hx hb dX1_takeOutContent_70 rfl (lv_at hl 5 rfl) ?_
    refine va_get (D := (dC, dI)) (ci := 1) (v := .ref r) (C := RX1) (T := TX1) (N := 7) hx hb hw inX1 hown hK hP 0 rfl rfl 1 (by decide) (hw _ mA_54) (fun _ h9 => h9) rfl dX1_takeOutContent_71 ?_
    refine lv_iload_n hx hb dX1_takeOutContent_74 rfl (lv_at hl 0 rfl) ?_
    refine lv_aload_n hx hb dX1_takeOutContent_75 rfl (lv_at hl 5 rfl) ?_
    refine va_get (D := (dC, dI)) (ci := 1) (v := .int (iI (f_cont N))) (C := RX1) (T := TX1) (N := 7) hx hb hw inX1 hown hK hP 0 rfl rfl 5 (by decide) (hw _ mA_58) (fun _ h9 => h9) rfl dX1_takeOutContent_76 ?_
    refine ix_if_ne (tgt := 86) hx hb dX1_takeOutContent_79 (by decide) (by omega) (fun _ => ?_) (fun c25 => absurd c25 hcr.1)
    refine lv_aload_n hx hb dX1_takeOutContent_86 rfl (lv_at hl 5 rfl) ?_
    refine va_get (D := (dC, dI)) (ci := 1) (v := .ref n) (C := RX1) (T := TX1) (N := 7) hx hb hw inX1 hown hK hP 0 rfl rfl 0 (by decide) (hw _ mA_53) (fun _ h9 => h9) rfl dX1_takeOutContent_87 ?_
    refine lv_iload_n hx hb dX1_takeOutContent_90 rfl (lv_at hl 0 rfl) ?_
    refine ix_iald (k := 3) hx hb hK hP 1 0 rfl rfl (by decide) (by decide) (by decide) dX1_takeOutContent_91 ?_
    refine lv_aload_n hx hb dX1_takeOutContent_92 rfl (lv_at hl 5 rfl) ?_
    refine va_get (D := (dC, dI)) (ci := 1) (v := .int (iI (f_cont N))) (C := RX1) (T := TX1) (N := 7) hx hb hw inX1 hown hK hP 0 rfl rfl 5 (by decide) (hw _ mA_58) (fun _ h9 => h9) rfl dX1_takeOutContent_93 ?_
    refine ix_idiv hx hb dX1_takeOutContent_96 ⟨by have := (h20 (3)).1; omega, by have := (h20 (3)).2; omega⟩ (by omega) (by have := h20 0; have := h20 1; have := h20 2; have := h20 3; have := h20 4; omega) (by omega) ?_
    refine ix_iast (k := 3) (x := Int.tdiv (N 3) (f_cont N)) hx hb hK hP hD hS 2 0 rfl rfl (by decide) (by decide) (by decide) dX1_takeOutContent_97 (fun H locs hP hD hS => ?_)
    have hP : va_P (dC, dI) vwCl [(h, .inr (1, [.ref n, .ref r, .ref d, .ref f, .int (iI fc), .int (iI (f_cont N)), .int (iI sp)])), (n, .inl (cI, 5, .inl (aI N))), (r, .inl (cI, 5, .inl (aI (iu (iu (iu (iu R 0 (Int.tdiv (N 0) (f_cont N))) 1 (Int.tdiv (N 1) (f_cont N))) 2 (Int.tdiv (N 2) (f_cont N))) 3 (Int.tdiv (N 3) (f_cont N))))))] H := hP
    have hD : va_D A [(h, .inr (1, [.ref n, .ref r, .ref d, .ref f, .int (iI fc), .int (iI (f_cont N)), .int (iI sp)])), (n, .inl (cI, 5, .inl (aI N))), (r, .inl (cI, 5, .inl (aI (iu (iu (iu (iu R 0 (Int.tdiv (N 0) (f_cont N))) 1 (Int.tdiv (N 1) (f_cont N))) 2 (Int.tdiv (N 2) (f_cont N))) 3 (Int.tdiv (N 3) (f_cont N))))))] := hD
    refine ix_iinc (k := 0) (lv2 := [(3, .int (iI 4)), (5, .int (iI 5)), (2, .int (iI (f_gcd (f_gcd (f_gcd (f_gcd (f_gcd 0 (N 0)) (N 1)) (N 2)) (N 3)) (N 4)))), (6, .int (iI (N 4))), (4, .int (iI 5)), (0, .ref h), (1, .int (iI (f_deg N)))]) hx hb dX1_takeOutContent_98 hl rfl (by decide) rfl (fun ls hl => ?_)
    refine lv_goto (tgt := 61) hx hb dX1_takeOutContent_101 (by decide) ?_
    refine lv_iload_n hx hb dX1_takeOutContent_61 rfl (lv_at hl 0 rfl) ?_
    refine lv_aload_n hx hb dX1_takeOutContent_62 rfl (lv_at hl 5 rfl) ?_
    refine va_get (D := (dC, dI)) (ci := 1) (v := .ref r) (C := RX1) (T := TX1) (N := 7) hx hb hw inX1 hown hK hP 0 rfl rfl 1 (by decide) (hw _ mA_54) (fun _ h9 => h9) rfl dX1_takeOutContent_63 ?_
    refine va_alen (v := iI 5) hx hb hK hP 2 0 rfl rfl rfl dX1_takeOutContent_66 ?_
    refine ix_icmp_ge (tgt := 104) hx hb dX1_takeOutContent_67 (by decide) (by decide) (by decide) (fun c26 => absurd c26 (by decide)) (fun _ => ?_)
    refine lv_aload_n hx hb dX1_takeOutContent_70 rfl (lv_at hl 5 rfl) ?_
    refine va_get (D := (dC, dI)) (ci := 1) (v := .ref r) (C := RX1) (T := TX1) (N := 7) hx hb hw inX1 hown hK hP 0 rfl rfl 1 (by decide) (hw _ mA_54) (fun _ h9 => h9) rfl dX1_takeOutContent_71 ?_
    refine lv_iload_n hx hb dX1_takeOutContent_74 rfl (lv_at hl 0 rfl) ?_
    refine lv_aload_n hx hb dX1_takeOutContent_75 rfl (lv_at hl 5 rfl) ?_
    refine va_get (D := (dC, dI)) (ci := 1) (v := .int (iI (f_cont N))) (C := RX1) (T := TX1) (N := 7) hx hb hw inX1 hown hK hP 0 rfl rfl 5 (by decide) (hw _ mA_58) (fun _ h9 => h9) rfl dX1_takeOutContent_76 ?_
    refine ix_if_ne (tgt := 86) hx hb dX1_takeOutContent_79 (by decide) (by omega) (fun _ => ?_) (fun c27 => absurd c27 hcr.1)
    refine lv_aload_n hx hb dX1_takeOutContent_86 rfl (lv_at hl 5 rfl) ?_
    refine va_get (D := (dC, dI)) (ci := 1) (v := .ref n) (C := RX1) (T := TX1) (N := 7) hx hb hw inX1 hown hK hP 0 rfl rfl 0 (by decide) (hw _ mA_53) (fun _ h9 => h9) rfl dX1_takeOutContent_87 ?_
    refine lv_iload_n hx hb dX1_takeOutContent_90 rfl (lv_at hl 0 rfl) ?_
    refine ix_iald (k := 4) hx hb hK hP 1 0 rfl rfl (by decide) (by decide) (by decide) dX1_takeOutContent_91 ?_
    refine lv_aload_n hx hb dX1_takeOutContent_92 rfl (lv_at hl 5 rfl) ?_
    refine va_get (D := (dC, dI)) (ci := 1) (v := .int (iI (f_cont N))) (C := RX1) (T := TX1) (N := 7) hx hb hw inX1 hown hK hP 0 rfl rfl 5 (by decide) (hw _ mA_58) (fun _ h9 => h9) rfl dX1_takeOutContent_93 ?_
    refine ix_idiv hx hb dX1_takeOutContent_96 ⟨by have := (h20 (4)).1; omega, by have := (h20 (4)).2; omega⟩ (by omega) (by have := h20 0; have := h20 1; have := h20 2; have := h20 3; have := h20 4; omega) (by omega) ?_
    refine ix_iast (k := 4) (x := Int.tdiv (N 4) (f_cont N)) hx hb hK hP hD hS 2 0 rfl rfl (by decide) (by decide) (by decide) dX1_takeOutContent_97 (fun H locs hP hD hS => ?_)
    have hP : va_P (dC, dI) vwCl [(h, .inr (1, [.ref n, .ref r, .ref d, .ref f, .int (iI fc), .int (iI (f_cont N)), .int (iI sp)])), (n, .inl (cI, 5, .inl (aI N))), (r, .inl (cI, 5, .inl (aI (iu (iu (iu (iu (iu R 0 (Int.tdiv (N 0) (f_cont N))) 1 (Int.tdiv (N 1) (f_cont N))) 2 (Int.tdiv (N 2) (f_cont N))) 3 (Int.tdiv (N 3) (f_cont N))) 4 (Int.tdiv (N 4) (f_cont N))))))] H := hP
    have hD : va_D A [(h, .inr (1, [.ref n, .ref r, .ref d, .ref f, .int (iI fc), .int (iI (f_cont N)), .int (iI sp)])), (n, .inl (cI, 5, .inl (aI N))), (r, .inl (cI, 5, .inl (aI (iu (iu (iu (iu (iu R 0 (Int.tdiv (N 0) (f_cont N))) 1 (Int.tdiv (N 1) (f_cont N))) 2 (Int.tdiv (N 2) (f_cont N))) 3 (Int.tdiv (N 3) (f_cont N))) 4 (Int.tdiv (N 4) (f_cont N))))))] := hD
    refine ix_iinc (k := 0) (lv2 := [(3, .int (iI 5)), (5, .int (iI 5)), (2, .int (iI (f_gcd (f_gcd (f_gcd (f_gcd (f_gcd 0 (N 0)) (N 1)) (N 2)) (N 3)) (N 4)))), (6, .int (iI (N 4))), (4, .int (iI 5)), (0, .ref h), (1, .int (iI (f_deg N)))]) hx hb dX1_takeOutContent_98 hl rfl (by decide) rfl (fun ls hl => ?_)
    refine lv_goto (tgt := 61) hx hb dX1_takeOutContent_101 (by decide) ?_
    refine lv_iload_n hx hb dX1_takeOutContent_61 rfl (lv_at hl 0 rfl) ?_
    refine lv_aload_n hx hb dX1_takeOutContent_62 rfl (lv_at hl 5 rfl) ?_
    refine va_get (D := (dC, dI)) (ci := 1) (v := .ref r) (C := RX1) (T := TX1) (N := 7) hx hb hw inX1 hown hK hP 0 rfl rfl 1 (by decide) (hw _ mA_54) (fun _ h9 => h9) rfl dX1_takeOutContent_63 ?_
    refine va_alen (v := iI 5) hx hb hK hP 2 0 rfl rfl rfl dX1_takeOutContent_66 ?_
    refine ix_icmp_ge (tgt := 104) hx hb dX1_takeOutContent_67 (by decide) (by decide) (by decide) (fun _ => ?_) (fun c28 => absurd c28 (by decide))
    have eR : iu (iu (iu (iu (iu R 0 (Int.tdiv (N 0) (f_cont N))) 1 (Int.tdiv (N 1) (f_cont N))) 2 (Int.tdiv (N 2) (f_cont N))) 3 (Int.tdiv (N 3) (f_cont N))) 4 (Int.tdiv (N 4) (f_cont N)) = f_rest N := by
      funext j
      unfold iu f_rest
      by_cases h : 0 ≤ j ∧ j ≤ 4
      · rcases (show j = 0 ∨ j = 1 ∨ j = 2 ∨ j = 3 ∨ j = 4 by omega) with rfl | rfl | rfl | rfl | rfl <;> simp
      · rw [if_neg (by omega), if_neg (by omega), if_neg (by omega), if_neg (by omega), if_neg (by omega), hR j (by omega), hN j (by omega)]; simp
    rw [eR] at hP hD
    have hP9 := hP.sub (ws' := [(h, .inr (1, [.ref n, .ref r, .ref d, .ref f, .int (iI fc), .int (iI (f_cont N)), .int (iI sp)])), (n, .inl (cI, 5, .inl (aI N))), (r, .inl (cI, 5, .inl (aI (f_rest N))))]) [0, 1, 2] rfl
    have hD9 := hD.sub (ws' := [(h, .inr (1, [.ref n, .ref r, .ref d, .ref f, .int (iI fc), .int (iI (f_cont N)), .int (iI sp)])), (n, .inl (cI, 5, .inl (aI N))), (r, .inl (cI, 5, .inl (aI (f_rest N))))]) [0, 1, 2] (by decide) rfl
    have hK9 := hK.sub (tys' := [(cI, .int)]) [0] rfl
    exact W.vret hx hb hr (fun t ht hW => ⟨⟨(), rfl, trivial, by rw [ht]; exact hP9, va_K.moved hW.alike hK9, hD9⟩, hS.F ht⟩) hS.2.2 dX1_takeOutContent_104
  · refine lv_iload_n hx hb dX1_takeOutContent_50 rfl (lv_at hl 1 rfl) ?_
    refine ix_ineg hx hb dX1_takeOutContent_51 ?_
    refine lv_goto (tgt := 56) hx hb dX1_takeOutContent_52 (by decide) ?_
    refine ix_z (y := f_cont N) (by unfold f_cont G5; first | rw [if_pos (by omega)] | rw [if_neg (by omega)]) ?_
    refine va_put (D := (dC, dI)) (ci := 1) (v := .int (iI (f_cont N))) (ty := .int) (C := RX1) (T := TX1) (N := 7) hx hb hw inX1 tyX1 tyX1_ok nmX1 hown hK hP hD hS 0 rfl rfl 5 (by decide) (hw _ mA_58) (fun _ h9 => h9) rfl (by decide +kernel) rfl rfl (Nat.le_of_ble_eq_true rfl) dX1_takeOutContent_56 (fun H locs hP hD hS => ?_)
    have hP : va_P (dC, dI) vwCl [(h, .inr (1, [.ref n, .ref r, .ref d, .ref f, .int (iI fc), .int (iI (f_cont N)), .int (iI sp)])), (n, .inl (cI, 5, .inl (aI N))), (r, .inl (cI, 5, .inl (aI R)))] H := hP
    have hD : va_D A [(h, .inr (1, [.ref n, .ref r, .ref d, .ref f, .int (iI fc), .int (iI (f_cont N)), .int (iI sp)])), (n, .inl (cI, 5, .inl (aI N))), (r, .inl (cI, 5, .inl (aI R)))] := hD
    refine ix_iconst (n := 0) hx hb dX1_takeOutContent_59 ?_
    refine lv_istore_n (lv' := [(3, .int (iI 0)), (5, .int (iI 5)), (2, .int (iI (f_gcd (f_gcd (f_gcd (f_gcd (f_gcd 0 (N 0)) (N 1)) (N 2)) (N 3)) (N 4)))), (6, .int (iI (N 4))), (4, .int (iI 5)), (0, .ref h), (1, .int (iI (f_deg N)))]) hx hb dX1_takeOutContent_60 rfl hl (by decide) rfl (fun ls hl => ?_)
    refine lv_iload_n hx hb dX1_takeOutContent_61 rfl (lv_at hl 0 rfl) ?_
    refine lv_aload_n hx hb dX1_takeOutContent_62 rfl (lv_at hl 5 rfl) ?_
    refine va_get (D := (dC, dI)) (ci := 1) (v := .ref r) (C := RX1) (T := TX1) (N := 7) hx hb hw inX1 hown hK hP 0 rfl rfl 1 (by decide) (hw _ mA_54) (fun _ h9 => h9) rfl dX1_takeOutContent_63 ?_
    refine va_alen (v := iI 5) hx hb hK hP 2 0 rfl rfl rfl dX1_takeOutContent_66 ?_
    refine ix_icmp_ge (tgt := 104) hx hb dX1_takeOutContent_67 (by decide) (by decide) (by decide) (fun c29 => absurd c29 (by decide)) (fun _ => ?_)
    refine lv_aload_n hx hb dX1_takeOutContent_70 rfl (lv_at hl 5 rfl) ?_
    refine va_get (D := (dC, dI)) (ci := 1) (v := .ref r) (C := RX1) (T := TX1) (N := 7) hx hb hw inX1 hown hK hP 0 rfl rfl 1 (by decide) (hw _ mA_54) (fun _ h9 => h9) rfl dX1_takeOutContent_71 ?_
    refine lv_iload_n hx hb dX1_takeOutContent_74 rfl (lv_at hl 0 rfl) ?_
    refine lv_aload_n hx hb dX1_takeOutContent_75 rfl (lv_at hl 5 rfl) ?_
    refine va_get (D := (dC, dI)) (ci := 1) (v := .int (iI (f_cont N))) (C := RX1) (T := TX1) (N := 7) hx hb hw inX1 hown hK hP 0 rfl rfl 5 (by decide) (hw _ mA_58) (fun _ h9 => h9) rfl dX1_takeOutContent_76 ?_
    refine ix_if_ne (tgt := 86) hx hb dX1_takeOutContent_79 (by decide) (by omega) (fun _ => ?_) (fun c30 => absurd c30 hcr.1)
    refine lv_aload_n hx hb dX1_takeOutContent_86 rfl (lv_at hl 5 rfl) ?_
    refine va_get (D := (dC, dI)) (ci := 1) (v := .ref n) (C := RX1) (T := TX1) (N := 7) hx hb hw inX1 hown hK hP 0 rfl rfl 0 (by decide) (hw _ mA_53) (fun _ h9 => h9) rfl dX1_takeOutContent_87 ?_
    refine lv_iload_n hx hb dX1_takeOutContent_90 rfl (lv_at hl 0 rfl) ?_
    refine ix_iald (k := 0) hx hb hK hP 1 0 rfl rfl (by decide) (by decide) (by decide) dX1_takeOutContent_91 ?_
    refine lv_aload_n hx hb dX1_takeOutContent_92 rfl (lv_at hl 5 rfl) ?_
    refine va_get (D := (dC, dI)) (ci := 1) (v := .int (iI (f_cont N))) (C := RX1) (T := TX1) (N := 7) hx hb hw inX1 hown hK hP 0 rfl rfl 5 (by decide) (hw _ mA_58) (fun _ h9 => h9) rfl dX1_takeOutContent_93 ?_
    refine ix_idiv hx hb dX1_takeOutContent_96 ⟨by have := (h20 (0)).1; omega, by have := (h20 (0)).2; omega⟩ (by omega) (by have := h20 0; have := h20 1; have := h20 2; have := h20 3; have := h20 4; omega) (by omega) ?_
    refine ix_iast (k := 0) (x := Int.tdiv (N 0) (f_cont N)) hx hb hK hP hD hS 2 0 rfl rfl (by decide) (by decide) (by decide) dX1_takeOutContent_97 (fun H locs hP hD hS => ?_)
    have hP : va_P (dC, dI) vwCl [(h, .inr (1, [.ref n, .ref r, .ref d, .ref f, .int (iI fc), .int (iI (f_cont N)), .int (iI sp)])), (n, .inl (cI, 5, .inl (aI N))), (r, .inl (cI, 5, .inl (aI (iu R 0 (Int.tdiv (N 0) (f_cont N))))))] H := hP
    have hD : va_D A [(h, .inr (1, [.ref n, .ref r, .ref d, .ref f, .int (iI fc), .int (iI (f_cont N)), .int (iI sp)])), (n, .inl (cI, 5, .inl (aI N))), (r, .inl (cI, 5, .inl (aI (iu R 0 (Int.tdiv (N 0) (f_cont N))))))] := hD
    refine ix_iinc (k := 0) (lv2 := [(3, .int (iI 1)), (5, .int (iI 5)), (2, .int (iI (f_gcd (f_gcd (f_gcd (f_gcd (f_gcd 0 (N 0)) (N 1)) (N 2)) (N 3)) (N 4)))), (6, .int (iI (N 4))), (4, .int (iI 5)), (0, .ref h), (1, .int (iI (f_deg N)))]) hx hb dX1_takeOutContent_98 hl rfl (by decide) rfl (fun ls hl => ?_)
    refine lv_goto (tgt := 61) hx hb dX1_takeOutContent_101 (by decide) ?_
    refine lv_iload_n hx hb dX1_takeOutContent_61 rfl (lv_at hl 0 rfl) ?_
    refine lv_aload_n hx hb dX1_takeOutContent_62 rfl (lv_at hl 5 rfl) ?_
    refine va_get (D := (dC, dI)) (ci := 1) (v := .ref r) (C := RX1) (T := TX1) (N := 7) hx hb hw inX1 hown hK hP 0 rfl rfl 1 (by decide) (hw _ mA_54) (fun _ h9 => h9) rfl dX1_takeOutContent_63 ?_
    refine va_alen (v := iI 5) hx hb hK hP 2 0 rfl rfl rfl dX1_takeOutContent_66 ?_
    refine ix_icmp_ge (tgt := 104) hx hb dX1_takeOutContent_67 (by decide) (by decide) (by decide) (fun c31 => absurd c31 (by decide)) (fun _ => ?_)
    refine lv_aload_n hx hb dX1_takeOutContent_70 rfl (lv_at hl 5 rfl) ?_
    refine va_get (D := (dC, dI)) (ci := 1) (v := .ref r) (C := RX1) (T := TX1) (N := 7) hx hb hw inX1 hown hK hP 0 rfl rfl 1 (by decide) (hw _ mA_54) (fun _ h9 => h9) rfl dX1_takeOutContent_71 ?_
    refine lv_iload_n hx hb dX1_takeOutContent_74 rfl (lv_at hl 0 rfl) ?_
    refine lv_aload_n hx hb dX1_takeOutContent_75 rfl (lv_at hl 5 rfl) ?_
    refine va_get (D := (dC, dI)) (ci := 1) (v := .int (iI (f_cont N))) (C := RX1) (T := TX1) (N := 7) hx hb hw inX1 hown hK hP 0 rfl rfl 5 (by decide) (hw _ mA_58) (fun _ h9 => h9) rfl dX1_takeOutContent_76 ?_
    refine ix_if_ne (tgt := 86) hx hb dX1_takeOutContent_79 (by decide) (by omega) (fun _ => ?_) (fun c32 => absurd c32 hcr.1)
    refine lv_aload_n hx hb dX1_takeOutContent_86 rfl (lv_at hl 5 rfl) ?_
    refine va_get (D := (dC, dI)) (ci := 1) (v := .ref n) (C := RX1) (T := TX1) (N := 7) hx hb hw inX1 hown hK hP 0 rfl rfl 0 (by decide) (hw _ mA_53) (fun _ h9 => h9) rfl dX1_takeOutContent_87 ?_
    refine lv_iload_n hx hb dX1_takeOutContent_90 rfl (lv_at hl 0 rfl) ?_
    refine ix_iald (k := 1) hx hb hK hP 1 0 rfl rfl (by decide) (by decide) (by decide) dX1_takeOutContent_91 ?_
    refine lv_aload_n hx hb dX1_takeOutContent_92 rfl (lv_at hl 5 rfl) ?_
    refine va_get (D := (dC, dI)) (ci := 1) (v := .int (iI (f_cont N))) (C := RX1) (T := TX1) (N := 7) hx hb hw inX1 hown hK hP 0 rfl rfl 5 (by decide) (hw _ mA_58) (fun _ h9 => h9) rfl dX1_takeOutContent_93 ?_
    refine ix_idiv hx hb dX1_takeOutContent_96 ⟨by have := (h20 (1)).1; omega, by have := (h20 (1)).2; omega⟩ (by omega) (by have := h20 0; have := h20 1; have := h20 2; have := h20 3; have := h20 4; omega) (by omega) ?_
    refine ix_iast (k := 1) (x := Int.tdiv (N 1) (f_cont N)) hx hb hK hP hD hS 2 0 rfl rfl (by decide) (by decide) (by decide) dX1_takeOutContent_97 (fun H locs hP hD hS => ?_)
    have hP : va_P (dC, dI) vwCl [(h, .inr (1, [.ref n, .ref r, .ref d, .ref f, .int (iI fc), .int (iI (f_cont N)), .int (iI sp)])), (n, .inl (cI, 5, .inl (aI N))), (r, .inl (cI, 5, .inl (aI (iu (iu R 0 (Int.tdiv (N 0) (f_cont N))) 1 (Int.tdiv (N 1) (f_cont N))))))] H := hP
    have hD : va_D A [(h, .inr (1, [.ref n, .ref r, .ref d, .ref f, .int (iI fc), .int (iI (f_cont N)), .int (iI sp)])), (n, .inl (cI, 5, .inl (aI N))), (r, .inl (cI, 5, .inl (aI (iu (iu R 0 (Int.tdiv (N 0) (f_cont N))) 1 (Int.tdiv (N 1) (f_cont N))))))] := hD
    refine ix_iinc (k := 0) (lv2 := [(3, .int (iI 2)), (5, .int (iI 5)), (2, .int (iI (f_gcd (f_gcd (f_gcd (f_gcd (f_gcd 0 (N 0)) (N 1)) (N 2)) (N 3)) (N 4)))), (6, .int (iI (N 4))), (4, .int (iI 5)), (0, .ref h), (1, .int (iI (f_deg N)))]) hx hb dX1_takeOutContent_98 hl rfl (by decide) rfl (fun ls hl => ?_)
    refine lv_goto (tgt := 61) hx hb dX1_takeOutContent_101 (by decide) ?_
    refine lv_iload_n hx hb dX1_takeOutContent_61 rfl (lv_at hl 0 rfl) ?_
    refine lv_aload_n hx hb dX1_takeOutContent_62 rfl (lv_at hl 5 rfl) ?_
    refine va_get (D := (dC, dI)) (ci := 1) (v := .ref r) (C := RX1) (T := TX1) (N := 7) hx hb hw inX1 hown hK hP 0 rfl rfl 1 (by decide) (hw _ mA_54) (fun _ h9 => h9) rfl dX1_takeOutContent_63 ?_
    refine va_alen (v := iI 5) hx hb hK hP 2 0 rfl rfl rfl dX1_takeOutContent_66 ?_
    refine ix_icmp_ge (tgt := 104) hx hb dX1_takeOutContent_67 (by decide) (by decide) (by decide) (fun c33 => absurd c33 (by decide)) (fun _ => ?_)
    refine lv_aload_n hx hb dX1_takeOutContent_70 rfl (lv_at hl 5 rfl) ?_
    refine va_get (D := (dC, dI)) (ci := 1) (v := .ref r) (C := RX1) (T := TX1) (N := 7) hx hb hw inX1 hown hK hP 0 rfl rfl 1 (by decide) (hw _ mA_54) (fun _ h9 => h9) rfl dX1_takeOutContent_71 ?_
    refine lv_iload_n hx hb dX1_takeOutContent_74 rfl (lv_at hl 0 rfl) ?_
    refine lv_aload_n hx hb dX1_takeOutContent_75 rfl (lv_at hl 5 rfl) ?_
    refine va_get (D := (dC, dI)) (ci := 1) (v := .int (iI (f_cont N))) (C := RX1) (T := TX1) (N := 7) hx hb hw inX1 hown hK hP 0 rfl rfl 5 (by decide) (hw _ mA_58) (fun _ h9 => h9) rfl dX1_takeOutContent_76 ?_
    refine ix_if_ne (tgt := 86) hx hb dX1_takeOutContent_79 (by decide) (by omega) (fun _ => ?_) (fun c34 => absurd c34 hcr.1)
    refine lv_aload_n hx hb dX1_takeOutContent_86 rfl (lv_at hl 5 rfl) ?_
    refine va_get (D := (dC, dI)) (ci := 1) (v := .ref n) (C := RX1) (T := TX1) (N := 7) hx hb hw inX1 hown hK hP 0 rfl rfl 0 (by decide) (hw _ mA_53) (fun _ h9 => h9) rfl dX1_takeOutContent_87 ?_
    refine lv_iload_n hx hb dX1_takeOutContent_90 rfl (lv_at hl 0 rfl) ?_
    refine ix_iald (k := 2) hx hb hK hP 1 0 rfl rfl (by decide) (by decide) (by decide) dX1_takeOutContent_91 ?_
    refine lv_aload_n hx hb dX1_takeOutContent_92 rfl (lv_at hl 5 rfl) ?_
    refine va_get (D := (dC, dI)) (ci := 1) (v := .int (iI (f_cont N))) (C := RX1) (T := TX1) (N := 7) hx hb hw inX1 hown hK hP 0 rfl rfl 5 (by decide) (hw _ mA_58) (fun _ h9 => h9) rfl dX1_takeOutContent_93 ?_
    refine ix_idiv hx hb dX1_takeOutContent_96 ⟨by have := (h20 (2)).1; omega, by have := (h20 (2)).2; omega⟩ (by omega) (by have := h20 0; have := h20 1; have := h20 2; have := h20 3; have := h20 4; omega) (by omega) ?_
    refine ix_iast (k := 2) (x := Int.tdiv (N 2) (f_cont N)) hx hb hK hP hD hS 2 0 rfl rfl (by decide) (by decide) (by decide) dX1_takeOutContent_97 (fun H locs hP hD hS => ?_)
    have hP : va_P (dC, dI) vwCl [(h, .inr (1, [.ref n, .ref r, .ref d, .ref f, .int (iI fc), .int (iI (f_cont N)), .int (iI sp)])), (n, .inl (cI, 5, .inl (aI N))), (r, .inl (cI, 5, .inl (aI (iu (iu (iu R 0 (Int.tdiv (N 0) (f_cont N))) 1 (Int.tdiv (N 1) (f_cont N))) 2 (Int.tdiv (N 2) (f_cont N))))))] H := hP
    have hD : va_D A [(h, .inr (1, [.ref n, .ref r, .ref d, .ref f, .int (iI fc), .int (iI (f_cont N)), .int (iI sp)])), (n, .inl (cI, 5, .inl (aI N))), (r, .inl (cI, 5, .inl (aI (iu (iu (iu R 0 (Int.tdiv (N 0) (f_cont N))) 1 (Int.tdiv (N 1) (f_cont N))) 2 (Int.tdiv (N 2) (f_cont N))))))] := hD
    refine ix_iinc (k := 0) (lv2 := [(3, .int (iI 3)), (5, .int (iI 5)), (2, .int (iI (f_gcd (f_gcd (f_gcd (f_gcd (f_gcd 0 (N 0)) (N 1)) (N 2)) (N 3)) (N 4)))), (6, .int (iI (N 4))), (4, .int (iI 5)), (0, .ref h), (1, .int (iI (f_deg N)))]) hx hb dX1_takeOutContent_98 hl rfl (by decide) rfl (fun ls hl => ?_)
    refine lv_goto (tgt := 61) hx hb dX1_takeOutContent_101 (by decide) ?_
    refine lv_iload_n hx hb dX1_takeOutContent_61 rfl (lv_at hl 0 rfl) ?_
    refine lv_aload_n hx hb dX1_takeOutContent_62 rfl (lv_at hl 5 rfl) ?_
    refine va_get (D := (dC, dI)) (ci := 1) (v := .ref r) (C := RX1) (T := TX1) (N := 7) hx hb hw inX1 hown hK hP 0 rfl rfl 1 (by decide) (hw _ mA_54) (fun _ h9 => h9) rfl dX1_takeOutContent_63 ?_
    refine va_alen (v := iI 5) hx hb hK hP 2 0 rfl rfl rfl dX1_takeOutContent_66 ?_
    refine ix_icmp_ge (tgt := 104) hx hb dX1_takeOutContent_67 (by decide) (by decide) (by decide) (fun c35 => absurd c35 (by decide)) (fun _ => ?_)
    refine lv_aload_n hx hb dX1_takeOutContent_70 rfl (lv_at hl 5 rfl) ?_
    refine va_get (D := (dC, dI)) (ci := 1) (v := .ref r) (C := RX1) (T := TX1) (N := 7) hx hb hw inX1 hown hK hP 0 rfl rfl 1 (by decide) (hw _ mA_54) (fun _ h9 => h9) rfl dX1_takeOutContent_71 ?_
    refine lv_iload_n hx hb dX1_takeOutContent_74 rfl (lv_at hl 0 rfl) ?_
    refine lv_aload_n hx hb dX1_takeOutContent_75 rfl (lv_at hl 5 rfl) ?_
    refine va_get (D := (dC, dI)) (ci := 1) (v := .int (iI (f_cont N))) (C := RX1) (T := TX1) (N := 7) hx hb hw inX1 hown hK hP 0 rfl rfl 5 (by decide) (hw _ mA_58) (fun _ h9 => h9) rfl dX1_takeOutContent_76 ?_
    refine ix_if_ne (tgt := 86) hx hb dX1_takeOutContent_79 (by decide) (by omega) (fun _ => ?_) (fun c36 => absurd c36 hcr.1)
    refine lv_aload_n hx hb dX1_takeOutContent_86 rfl (lv_at hl 5 rfl) ?_
    refine va_get (D := (dC, dI)) (ci := 1) (v := .ref n) (C := RX1) (T := TX1) (N := 7) hx hb hw inX1 hown hK hP 0 rfl rfl 0 (by decide) (hw _ mA_53) (fun _ h9 => h9) rfl dX1_takeOutContent_87 ?_
    refine lv_iload_n hx hb dX1_takeOutContent_90 rfl (lv_at hl 0 rfl) ?_
    refine ix_iald (k := 3) hx hb hK hP 1 0 rfl rfl (by decide) (by decide) (by decide) dX1_takeOutContent_91 ?_
    refine lv_aload_n hx hb dX1_takeOutContent_92 rfl (lv_at hl 5 rfl) ?_
    refine va_get (D := (dC, dI)) (ci := 1) (v := .int (iI (f_cont N))) (C := RX1) (T := TX1) (N := 7) hx hb hw inX1 hown hK hP 0 rfl rfl 5 (by decide) (hw _ mA_58) (fun _ h9 => h9) rfl dX1_takeOutContent_93 ?_
    refine ix_idiv hx hb dX1_takeOutContent_96 ⟨by have := (h20 (3)).1; omega, by have := (h20 (3)).2; omega⟩ (by omega) (by have := h20 0; have := h20 1; have := h20 2; have := h20 3; have := h20 4; omega) (by omega) ?_
    refine ix_iast (k := 3) (x := Int.tdiv (N 3) (f_cont N)) hx hb hK hP hD hS 2 0 rfl rfl (by decide) (by decide) (by decide) dX1_takeOutContent_97 (fun H locs hP hD hS => ?_)
    have hP : va_P (dC, dI) vwCl [(h, .inr (1, [.ref n, .ref r, .ref d, .ref f, .int (iI fc), .int (iI (f_cont N)), .int (iI sp)])), (n, .inl (cI, 5, .inl (aI N))), (r, .inl (cI, 5, .inl (aI (iu (iu (iu (iu R 0 (Int.tdiv (N 0) (f_cont N))) 1 (Int.tdiv (N 1) (f_cont N))) 2 (Int.tdiv (N 2) (f_cont N))) 3 (Int.tdiv (N 3) (f_cont N))))))] H := hP
    have hD : va_D A [(h, .inr (1, [.ref n, .ref r, .ref d, .ref f, .int (iI fc), .int (iI (f_cont N)), .int (iI sp)])), (n, .inl (cI, 5, .inl (aI N))), (r, .inl (cI, 5, .inl (aI (iu (iu (iu (iu R 0 (Int.tdiv (N 0) (f_cont N))) 1 (Int.tdiv (N 1) (f_cont N))) 2 (Int.tdiv (N 2) (f_cont N))) 3 (Int.tdiv (N 3) (f_cont N))))))] := hD
    refine ix_iinc (k := 0) (lv2 := [(3, .int (iI 4)), (5, .int (iI 5)), (2, .int (iI (f_gcd (f_gcd (f_gcd (f_gcd (f_gcd 0 (N 0)) (N 1)) (N 2)) (N 3)) (N 4)))), (6, .int (iI (N 4))), (4, .int (iI 5)), (0, .ref h), (1, .int (iI (f_deg N)))]) hx hb dX1_takeOutContent_98 hl rfl (by decide) rfl (fun ls hl => ?_)
    refine lv_goto (tgt := 61) hx hb dX1_takeOutContent_101 (by decide) ?_
    refine lv_iload_n hx hb dX1_takeOutContent_61 rfl (lv_at hl 0 rfl) ?_
    refine lv_aload_n hx hb dX1_takeOutContent_62 rfl (lv_at hl 5 rfl) ?_
    refine va_get (D := (dC, dI)) (ci := 1) (v := .ref r) (C := RX1) (T := TX1) (N := 7) hx hb hw inX1 hown hK hP 0 rfl rfl 1 (by decide) (hw _ mA_54) (fun _ h9 => h9) rfl dX1_takeOutContent_63 ?_
    refine va_alen (v := iI 5) hx hb hK hP 2 0 rfl rfl rfl dX1_takeOutContent_66 ?_
    refine ix_icmp_ge (tgt := 104) hx hb dX1_takeOutContent_67 (by decide) (by decide) (by decide) (fun c37 => absurd c37 (by decide)) (fun _ => ?_)
    refine lv_aload_n hx hb dX1_takeOutContent_70 rfl (lv_at hl 5 rfl) ?_
    refine va_get (D := (dC, dI)) (ci := 1) (v := .ref r) (C := RX1) (T := TX1) (N := 7) hx hb hw inX1 hown hK hP 0 rfl rfl 1 (by decide) (hw _ mA_54) (fun _ h9 => h9) rfl dX1_takeOutContent_71 ?_
    refine lv_iload_n hx hb dX1_takeOutContent_74 rfl (lv_at hl 0 rfl) ?_
    refine lv_aload_n hx hb dX1_takeOutContent_75 rfl (lv_at hl 5 rfl) ?_
    refine va_get (D := (dC, dI)) (ci := 1) (v := .int (iI (f_cont N))) (C := RX1) (T := TX1) (N := 7) hx hb hw inX1 hown hK hP 0 rfl rfl 5 (by decide) (hw _ mA_58) (fun _ h9 => h9) rfl dX1_takeOutContent_76 ?_
    refine ix_if_ne (tgt := 86) hx hb dX1_takeOutContent_79 (by decide) (by omega) (fun _ => ?_) (fun c38 => absurd c38 hcr.1)
    refine lv_aload_n hx hb dX1_takeOutContent_86 rfl (lv_at hl 5 rfl) ?_
    refine va_get (D := (dC, dI)) (ci := 1) (v := .ref n) (C := RX1) (T := TX1) (N := 7) hx hb hw inX1 hown hK hP 0 rfl rfl 0 (by decide) (hw _ mA_53) (fun _ h9 => h9) rfl dX1_takeOutContent_87 ?_
    refine lv_iload_n hx hb dX1_takeOutContent_90 rfl (lv_at hl 0 rfl) ?_
    refine ix_iald (k := 4) hx hb hK hP 1 0 rfl rfl (by decide) (by decide) (by decide) dX1_takeOutContent_91 ?_
    refine lv_aload_n hx hb dX1_takeOutContent_92 rfl (lv_at hl 5 rfl) ?_
    refine va_get (D := (dC, dI)) (ci := 1) (v := .int (iI (f_cont N))) (C := RX1) (T := TX1) (N := 7) hx hb hw inX1 hown hK hP 0 rfl rfl 5 (by decide) (hw _ mA_58) (fun _ h9 => h9) rfl dX1_takeOutContent_93 ?_
    refine ix_idiv hx hb dX1_takeOutContent_96 ⟨by have := (h20 (4)).1; omega, by have := (h20 (4)).2; omega⟩ (by omega) (by have := h20 0; have := h20 1; have := h20 2; have := h20 3; have := h20 4; omega) (by omega) ?_
    refine ix_iast (k := 4) (x := Int.tdiv (N 4) (f_cont N)) hx hb hK hP hD hS 2 0 rfl rfl (by decide) (by decide) (by decide) dX1_takeOutContent_97 (fun H locs hP hD hS => ?_)
    have hP : va_P (dC, dI) vwCl [(h, .inr (1, [.ref n, .ref r, .ref d, .ref f, .int (iI fc), .int (iI (f_cont N)), .int (iI sp)])), (n, .inl (cI, 5, .inl (aI N))), (r, .inl (cI, 5, .inl (aI (iu (iu (iu (iu (iu R 0 (Int.tdiv (N 0) (f_cont N))) 1 (Int.tdiv (N 1) (f_cont N))) 2 (Int.tdiv (N 2) (f_cont N))) 3 (Int.tdiv (N 3) (f_cont N))) 4 (Int.tdiv (N 4) (f_cont N))))))] H := hP
    have hD : va_D A [(h, .inr (1, [.ref n, .ref r, .ref d, .ref f, .int (iI fc), .int (iI (f_cont N)), .int (iI sp)])), (n, .inl (cI, 5, .inl (aI N))), (r, .inl (cI, 5, .inl (aI (iu (iu (iu (iu (iu R 0 (Int.tdiv (N 0) (f_cont N))) 1 (Int.tdiv (N 1) (f_cont N))) 2 (Int.tdiv (N 2) (f_cont N))) 3 (Int.tdiv (N 3) (f_cont N))) 4 (Int.tdiv (N 4) (f_cont N))))))] := hD
    refine ix_iinc (k := 0) (lv2 := [(3, .int (iI 5)), (5, .int (iI 5)), (2, .int (iI (f_gcd (f_gcd (f_gcd (f_gcd (f_gcd 0 (N 0)) (N 1)) (N 2)) (N 3)) (N 4)))), (6, .int (iI (N 4))), (4, .int (iI 5)), (0, .ref h), (1, .int (iI (f_deg N)))]) hx hb dX1_takeOutContent_98 hl rfl (by decide) rfl (fun ls hl => ?_)
    refine lv_goto (tgt := 61) hx hb dX1_takeOutContent_101 (by decide) ?_
    refine lv_iload_n hx hb dX1_takeOutContent_61 rfl (lv_at hl 0 rfl) ?_
    refine lv_aload_n hx hb dX1_takeOutContent_62 rfl (lv_at hl 5 rfl) ?_
    refine va_get (D := (dC, dI)) (ci := 1) (v := .ref r) (C := RX1) (T := TX1) (N := 7) hx hb hw inX1 hown hK hP 0 rfl rfl 1 (by decide) (hw _ mA_54) (fun _ h9 => h9) rfl dX1_takeOutContent_63 ?_
    refine va_alen (v := iI 5) hx hb hK hP 2 0 rfl rfl rfl dX1_takeOutContent_66 ?_
    refine ix_icmp_ge (tgt := 104) hx hb dX1_takeOutContent_67 (by decide) (by decide) (by decide) (fun _ => ?_) (fun c39 => absurd c39 (by decide))
    have eR : iu (iu (iu (iu (iu R 0 (Int.tdiv (N 0) (f_cont N))) 1 (Int.tdiv (N 1) (f_cont N))) 2 (Int.tdiv (N 2) (f_cont N))) 3 (Int.tdiv (N 3) (f_cont N))) 4 (Int.tdiv (N 4) (f_cont N)) = f_rest N := by
      funext j
      unfold iu f_rest
      by_cases h : 0 ≤ j ∧ j ≤ 4
      · rcases (show j = 0 ∨ j = 1 ∨ j = 2 ∨ j = 3 ∨ j = 4 by omega) with rfl | rfl | rfl | rfl | rfl <;> simp
      · rw [if_neg (by omega), if_neg (by omega), if_neg (by omega), if_neg (by omega), if_neg (by omega), hR j (by omega), hN j (by omega)]; simp
    rw [eR] at hP hD
    have hP9 := hP.sub (ws' := [(h, .inr (1, [.ref n, .ref r, .ref d, .ref f, .int (iI fc), .int (iI (f_cont N)), .int (iI sp)])), (n, .inl (cI, 5, .inl (aI N))), (r, .inl (cI, 5, .inl (aI (f_rest N))))]) [0, 1, 2] rfl
    have hD9 := hD.sub (ws' := [(h, .inr (1, [.ref n, .ref r, .ref d, .ref f, .int (iI fc), .int (iI (f_cont N)), .int (iI sp)])), (n, .inl (cI, 5, .inl (aI N))), (r, .inl (cI, 5, .inl (aI (f_rest N))))]) [0, 1, 2] (by decide) rfl
    have hK9 := hK.sub (tys' := [(cI, .int)]) [0] rfl
    exact W.vret hx hb hr (fun t ht hW => ⟨⟨(), rfl, trivial, by rw [ht]; exact hP9, va_K.moved hW.alike hK9, hD9⟩, hS.F ht⟩) hS.2.2 dX1_takeOutContent_104
