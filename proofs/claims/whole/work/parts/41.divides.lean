def p4 (x0 x1 x2 x3 : Int) : Int → Int := fun j => if j = 0 then x0 else if j = 1 then x1 else if j = 2 then x2 else if j = 3 then x3 else 0
theorem p4_n5 (x0 x1 x2 x3 : Int) : n5 (p4 x0 x1 x2 x3) := fun j hj => by unfold p4; grind
theorem p4_z {D : Int → Int} (h : n5 D) : iu (iu (iu (iu (iu D 0 0) 1 0) 2 0) 3 0) 4 0 = p4 0 0 0 0 := by
  funext j
  unfold iu p4
  by_cases z : 0 ≤ j ∧ j ≤ 4
  · grind
  · rw [h j (by omega)]; grind
theorem p4_0 (x0 x1 x2 x3 y : Int) : iu (p4 x0 x1 x2 x3) 0 y = p4 y x1 x2 x3 := by funext j; unfold iu p4; grind
theorem p4_1 (x0 x1 x2 x3 y : Int) : iu (p4 x0 x1 x2 x3) 1 y = p4 x0 y x2 x3 := by funext j; unfold iu p4; grind
theorem p4_2 (x0 x1 x2 x3 y : Int) : iu (p4 x0 x1 x2 x3) 2 y = p4 x0 x1 y x3 := by funext j; unfold iu p4; grind
theorem p4_3 (x0 x1 x2 x3 y : Int) : iu (p4 x0 x1 x2 x3) 3 y = p4 x0 x1 x2 y := by funext j; unfold iu p4; grind
theorem dvs_p4 {a b c x0 x1 x2 x3 : Int} {R : Int → Int} (hR : n5 R) (h5 : a * x3 = 0) (h4 : R 4 = a * x2 + b * x3) (h3 : R 3 = a * x1 + b * x2 + c * x3) (h2 : R 2 = a * x0 + b * x1 + c * x2) (h1 : R 1 = b * x0 + c * x1) (h0 : R 0 = c * x0) : dvs a b c R (p4 x0 x1 x2 x3) := by
  intro j
  by_cases z : 0 ≤ j ∧ j ≤ 5
  · rcases (show j = 0 ∨ j = 1 ∨ j = 2 ∨ j = 3 ∨ j = 4 ∨ j = 5 by omega) with rfl | rfl | rfl | rfl | rfl | rfl
    · rw [h0]; unfold p4; simp
    · rw [h1]; unfold p4; simp
    · rw [h2]; unfold p4; simp
    · rw [h3]; unfold p4; simp
    · rw [h4]; unfold p4; simp
    · rw [hR 5 (by omega)]; unfold p4; simp [h5]
  · rw [hR j (by omega), show p4 x0 x1 x2 x3 (j - 2) = 0 by unfold p4; grind, show p4 x0 x1 x2 x3 (j - 1) = 0 by unfold p4; grind, show p4 x0 x1 x2 x3 j = 0 by unfold p4; grind]
    simp
theorem mul_cn {b x y : Int} (hb : b ≠ 0) (h : b * x = b * y) : x = y := Int.eq_of_mul_eq_mul_left hb h
theorem lin_eqs {b c : Int} {R T : Int → Int} (hb : b ≠ 0) (hR : n5 R) (hT : n5 T) (hd : dvs 0 b c R T) : R 4 = b * T 3 ∧ R 3 = b * T 2 + c * T 3 ∧ R 2 = b * T 1 + c * T 2 ∧ R 1 = b * T 0 + c * T 1 ∧ R 0 = c * T 0 := by
  have e5 := hd 5
  have e4 := hd 4
  have e3 := hd 3
  have e2 := hd 2
  have e1 := hd 1
  have e0 := hd 0
  simp only [Int.zero_mul, Int.zero_add] at e5 e4 e3 e2 e1 e0
  rw [hR 5 (by omega), show (5 : Int) - 1 = 4 by omega, hT 5 (by omega)] at e5
  have t4 : T 4 = 0 := (Int.mul_eq_zero.mp (show b * T 4 = 0 by omega)).resolve_left hb
  rw [show (4 : Int) - 1 = 3 by omega, t4] at e4
  rw [show (3 : Int) - 1 = 2 by omega] at e3
  rw [show (2 : Int) - 1 = 1 by omega] at e2
  rw [show (1 : Int) - 1 = 0 by omega] at e1
  rw [show (0 : Int) - 1 = -1 by omega, hT (-1) (by omega)] at e0
  refine ⟨by omega, e3, e2, e1, by omega⟩
theorem qua_eqs {a b c : Int} {R T : Int → Int} (ha : a ≠ 0) (hR : n5 R) (hT : n5 T) (hd : dvs a b c R T) : R 4 = a * T 2 ∧ R 3 = a * T 1 + b * T 2 ∧ R 2 = a * T 0 + b * T 1 + c * T 2 ∧ R 1 = b * T 0 + c * T 1 ∧ R 0 = c * T 0 ∧ T 3 = 0 ∧ T 4 = 0 := by
  have e6 := hd 6
  have e5 := hd 5
  have e4 := hd 4
  have e3 := hd 3
  have e2 := hd 2
  have e1 := hd 1
  have e0 := hd 0
  rw [hR 6 (by omega), show (6 : Int) - 2 = 4 by omega, show (6 : Int) - 1 = 5 by omega, hT 5 (by omega), hT 6 (by omega)] at e6
  have t4 : T 4 = 0 := (Int.mul_eq_zero.mp (show a * T 4 = 0 by omega)).resolve_left ha
  rw [hR 5 (by omega), show (5 : Int) - 2 = 3 by omega, show (5 : Int) - 1 = 4 by omega, hT 5 (by omega), t4] at e5
  have t3 : T 3 = 0 := (Int.mul_eq_zero.mp (show a * T 3 = 0 by omega)).resolve_left ha
  rw [show (4 : Int) - 2 = 2 by omega, show (4 : Int) - 1 = 3 by omega, t3, t4] at e4
  rw [show (3 : Int) - 2 = 1 by omega, show (3 : Int) - 1 = 2 by omega, t3] at e3
  rw [show (2 : Int) - 2 = 0 by omega, show (2 : Int) - 1 = 1 by omega] at e2
  rw [show (1 : Int) - 2 = -1 by omega, show (1 : Int) - 1 = 0 by omega, hT (-1) (by omega)] at e1
  rw [show (0 : Int) - 2 = -2 by omega, show (0 : Int) - 1 = -1 by omega, hT (-1) (by omega), hT (-2) (by omega)] at e0
  refine ⟨by omega, by omega, e2, by omega, by omega, t3, t4⟩
theorem tmod_in {x y A : Int} (hx : -A ≤ x ∧ x ≤ A) : -A ≤ x.tmod y ∧ x.tmod y ≤ A := by
  have h1 := Int.natAbs_tmod x y
  have h2 : x.natAbs % y.natAbs ≤ x.natAbs := Nat.mod_le _ _
  omega
set_option maxHeartbeats 4000000 in
set_option maxRecDepth 100000 in
/-- the rest divided, if it goes up -/
theorem kX2_divides (l : Launch) (dC : Nat → ClassId) (dI : Nat → Nat → Nat) (sz : Nat) (x n r d ya yb yc yo : Nat) (cI cJ : ClassId) (cd cn fc : Int) (X : Int → Int) (R D : Int → Int) (a b k : Int) (hR5 : n5 R) (hD5 : n5 D) (h0 : 0 ≤ f_deg R) (hRb : ∀ j, -480 ≤ R j ∧ R j ≤ 480) (hab : 0 ≤ a ∧ (a = 0 → 1 ≤ b)) (ha9 : a ≤ 20) (hb9 : -240 ≤ b ∧ b ≤ 240) (hk9 : -240 ≤ k ∧ k ≤ 240) : Met l yX2_divides (.code yX2_divides cX2_divides 9 (some .boolean) :: wsA) ({ frames := 1, cells := 0, slots := 0, locals := 40 }) (va_Pc [.ref x, .int (iI a), .int (iI b), .int (iI k)] (fun U => U.heap.size = sz ∧ va_P (dC, dI) vwCl [(x, .inr (2, [.int (iI cd), .ref n, .ref r, .ref d, .int (iI cn), .int (iI fc), .ref ya, .ref yb, .ref yc, .ref yo, .long (lI (X 0)), .long (lI (X 1)), .long (lI (X 2)), .long (lI (X 3)), .long (lI (X 4)), .long (lI (X 5)), .long (lI (X 6))])), (r, .inl (cJ, 5, .inr (.inl (aL R)))), (d, .inl (cJ, 5, .inr (.inl (aL D))))] U.heap ∧ va_K (dC, dI) vwCl [(cJ, .long)] U ∧ va_D (fun _ => True) [(x, .inr (2, [.int (iI cd), .ref n, .ref r, .ref d, .int (iI cn), .int (iI fc), .ref ya, .ref yb, .ref yc, .ref yo, .long (lI (X 0)), .long (lI (X 1)), .long (lI (X 2)), .long (lI (X 3)), .long (lI (X 4)), .long (lI (X 5)), .long (lI (X 6))])), (r, .inl (cJ, 5, .inr (.inl (aL R)))), (d, .inl (cJ, 5, .inr (.inl (aL D))))] ∧ nb U)) (va_Qi (fun r9 (u : Int → Int) => n5 u ∧ ((r9 = iI 1 ∧ dvs a b k R u) ∨ (r9 = iI 0 ∧ ¬ ∃ Q, n5 Q ∧ dvs a b k R Q))) (fun (u : Int → Int) t9 => va_P (dC, dI) vwCl [(x, .inr (2, [.int (iI cd), .ref n, .ref r, .ref d, .int (iI cn), .int (iI fc), .ref ya, .ref yb, .ref yc, .ref yo, .long (lI (X 0)), .long (lI (X 1)), .long (lI (X 2)), .long (lI (X 3)), .long (lI (X 4)), .long (lI (X 5)), .long (lI (X 6))])), (r, .inl (cJ, 5, .inr (.inl (aL R)))), (d, .inl (cJ, 5, .inr (.inl (aL u))))] t9.heap ∧ va_K (dC, dI) vwCl [(cJ, .long)] t9 ∧ va_D (va_A [(x, .inr (2, [.int (iI cd), .ref n, .ref r, .ref d, .int (iI cn), .int (iI fc), .ref ya, .ref yb, .ref yc, .ref yo, .long (lI (X 0)), .long (lI (X 1)), .long (lI (X 2)), .long (lI (X 3)), .long (lI (X 4)), .long (lI (X 5)), .long (lI (X 6))])), (r, .inl (cJ, 5, .inr (.inl (aL R)))), (d, .inl (cJ, 5, .inr (.inl (aL D))))] sz) [(x, .inr (2, [.int (iI cd), .ref n, .ref r, .ref d, .int (iI cn), .int (iI fc), .ref ya, .ref yb, .ref yc, .ref yo, .long (lI (X 0)), .long (lI (X 1)), .long (lI (X 2)), .long (lI (X 3)), .long (lI (X 4)), .long (lI (X 5)), .long (lI (X 6))])), (r, .inl (cJ, 5, .inr (.inl (aL R)))), (d, .inl (cJ, 5, .inr (.inl (aL u))))]) (va_A [(x, .inr (2, [.int (iI cd), .ref n, .ref r, .ref d, .int (iI cn), .int (iI fc), .ref ya, .ref yb, .ref yc, .ref yo, .long (lI (X 0)), .long (lI (X 1)), .long (lI (X 2)), .long (lI (X 3)), .long (lI (X 4)), .long (lI (X 5)), .long (lI (X 6))])), (r, .inl (cJ, 5, .inr (.inl (aL R)))), (d, .inl (cJ, 5, .inr (.inl (aL D))))] sz)) 0 0 (va_A [(x, .inr (2, [.int (iI cd), .ref n, .ref r, .ref d, .int (iI cn), .int (iI fc), .ref ya, .ref yb, .ref yc, .ref yo, .long (lI (X 0)), .long (lI (X 1)), .long (lI (X 2)), .long (lI (X 3)), .long (lI (X 4)), .long (lI (X 5)), .long (lI (X 6))])), (r, .inl (cJ, 5, .inr (.inl (aL R)))), (d, .inl (cJ, 5, .inr (.inl (aL D))))] sz) := by
  refine Met.ofW (cc := cX2_divides) (maxL := 9) (ret := (some .boolean)) (by decide) rfl ?_
  intro p e s m args below meth c s₁ B hml hv
  obtain ⟨rfl, hsz, hP, hK, hD0, hnb⟩ := hv
  have hx := B.exec
  have hb := B.bytes
  have hr := B.returns
  have hts := atoms_spec (ws := .code yX2_divides cX2_divides 9 (some .boolean) :: wsA) B.pre
  have hw : ∀ w ∈ wsA, w.before _ s = true := fun w h => hts w (List.mem_cons_of_mem _ h)
  have hown : s.vm.findClass RX2 = some m.cls := findClass_of_methodNamed B.named
  have hlocks := B.notSynchronized
  subst hsz
  have hD := hD0.self (sz := s.heap.size)
  generalize hAe : va_A [(x, .inr (2, [.int (iI cd), .ref n, .ref r, .ref d, .int (iI cn), .int (iI fc), .ref ya, .ref yb, .ref yc, .ref yo, .long (lI (X 0)), .long (lI (X 1)), .long (lI (X 2)), .long (lI (X 3)), .long (lI (X 4)), .long (lI (X 5)), .long (lI (X 6))])), (r, .inl (cJ, 5, .inr (.inl (aL R)))), (d, .inl (cJ, 5, .inr (.inl (aL D))))] s.heap.size = A at hD ⊢
  have hA : ∀ q : Nat, s.heap.size ≤ q → A q := fun q h => by rw [← hAe]; exact Or.inr h
  have hS : va_S A s.heap s.heap [] := va_S.rf
  have hP : va_P (dC, dI) vwCl [(x, .inr (2, [.int (iI cd), .ref n, .ref r, .ref d, .int (iI cn), .int (iI fc), .ref ya, .ref yb, .ref yc, .ref yo, .long (lI (X 0)), .long (lI (X 1)), .long (lI (X 2)), .long (lI (X 3)), .long (lI (X 4)), .long (lI (X 5)), .long (lI (X 6))])), (r, .inl (cJ, 5, .inr (.inl (aL R)))), (d, .inl (cJ, 5, .inr (.inl (aL D))))] s.heap := hP
  have hl := lv_entry ([.ref x, .int (iI a), .int (iI b), .int (iI k)]) (n := 9) (Nat.le_of_ble_eq_true rfl)
  rw [lg_entry_eq]
  generalize (lg_sl ([.ref x, .int (iI a), .int (iI b), .int (iI k)]) ++ List.replicate (9 - (lg_sl ([.ref x, .int (iI a), .int (iI b), .int (iI k)])).length) Slot.unset).toArray = ls at hl ⊢
  have hl : lv_has ls 9 [(0, .ref x), (1, .int (iI a)), (2, .int (iI b)), (3, .int (iI k))] := hl
  refine lv_iload_n hx hb dX2_divides_0 rfl (lv_at hl 1 rfl) ?_
  refine ix_if_ne (tgt := 8) hx hb dX2_divides_1 (by decide) (by omega) (fun c1 => ?_) (fun c1 => ?_)
  · refine ix_iconst (n := 2) hx hb dX2_divides_8 ?_
    refine lv_istore (lv' := [(4, .int (iI 2)), (0, .ref x), (1, .int (iI a)), (2, .int (iI b)), (3, .int (iI k))]) hx hb dX2_divides_9 hl (by decide) rfl (fun ls hl => ?_)
    refine lv_aload_n hx hb dX2_divides_11 rfl (lv_at hl 1 rfl) ?_
    have hPc := hP.sub (ws' := [(x, .inr (2, [.int (iI cd), .ref n, .ref r, .ref d, .int (iI cn), .int (iI fc), .ref ya, .ref yb, .ref yc, .ref yo, .long (lI (X 0)), .long (lI (X 1)), .long (lI (X 2)), .long (lI (X 3)), .long (lI (X 4)), .long (lI (X 5)), .long (lI (X 6))])), (r, .inl (cJ, 5, .inr (.inl (aL R))))]) [0, 1] rfl
    have hKc := hK.sub (tys' := [(cJ, .long)]) [0] rfl
    refine vp_callSi (W.runV (As := []) (rest := []) ⟨hx, hb, hml, hown, hw⟩ (kX2_restDegree l dC dI x n r d ya yb yc yo cI cJ cd cn fc X R (fun j => ⟨by have := (hRb j).1; omega, by have := (hRb j).2; omega⟩) h0) (cwV 0 hw (gV mA_496 mA_498 mP_24 mA_3 mA_499) rfl rfl rfl (by decide +kernel) ⟨Nat.le_of_ble_eq_true rfl, Nat.le_of_ble_eq_true rfl⟩) ⟨fun a U g mk q => by obtain ⟨q0, qP, qK⟩ := q; exact ⟨q0, qP, va_K.moved (u := U) (U := U.calling g mk a) (Vm.Alike.refl U.vm) qK⟩, va_recv hKc hPc (ci := 2) (q0 := 0) rfl rfl, fun U hU hW => ⟨rfl, by rw [hU]; exact hPc, va_K.moved hW.alike hKc⟩⟩ rfl rfl hl.1 rfl (lv_room (Nat.le_of_ble_eq_true rfl)) dX2_divides_12 ⟨Nat.le_of_ble_eq_true rfl, Nat.le_of_ble_eq_true rfl⟩) (fun r2 h3 => ?_)
    subst h3
    have hdc := deg_c R
    refine lv_istore (lv' := [(5, .int (iI (f_deg R))), (4, .int (iI 2)), (0, .ref x), (1, .int (iI a)), (2, .int (iI b)), (3, .int (iI k))]) hx hb dX2_divides_15 hl (by decide) rfl (fun ls hl => ?_)
    rcases (show f_deg R = 0 ∨ f_deg R = 1 ∨ f_deg R = 2 ∨ f_deg R = 3 ∨ f_deg R = 4 by omega) with hn | hn | hn | hn | hn
    · rw [hn] at hl
      have z1 : R 1 = 0 := hdc.2.2.1 1 (by omega) (by omega)
      have z2 : R 2 = 0 := hdc.2.2.1 2 (by omega) (by omega)
      have z3 : R 3 = 0 := hdc.2.2.1 3 (by omega) (by omega)
      have z4 : R 4 = 0 := hdc.2.2.1 4 (by omega) (by omega)
      have b0 : -480 ≤ R 0 ∧ R 0 ≤ 480 := hRb 0
      refine lv_iload hx hb dX2_divides_17 (lv_at hl 0 rfl) ?_
      refine lv_iload hx hb dX2_divides_19 (lv_at hl 1 rfl) ?_
      refine ix_icmp_ge (tgt := 26) hx hb dX2_divides_21 (by decide) (by decide) (by decide) (fun c4 => absurd c4 (by decide)) (fun _ => ?_)
      refine ix_iconst (n := 0) hx hb dX2_divides_24 ?_
      have hno : ¬ ∃ Q, n5 Q ∧ dvs a b k R Q := by
        rintro ⟨T, hT, hd⟩
        obtain ⟨g1, g2, -⟩ := deg_dvs hab hR5 hT hd h0
        by_cases z : a = 0
        · rw [if_pos z] at g2; omega
        · rw [if_neg z] at g2; omega
      have hP9 := hP.sub (ws' := [(x, .inr (2, [.int (iI cd), .ref n, .ref r, .ref d, .int (iI cn), .int (iI fc), .ref ya, .ref yb, .ref yc, .ref yo, .long (lI (X 0)), .long (lI (X 1)), .long (lI (X 2)), .long (lI (X 3)), .long (lI (X 4)), .long (lI (X 5)), .long (lI (X 6))])), (r, .inl (cJ, 5, .inr (.inl (aL R)))), (d, .inl (cJ, 5, .inr (.inl (aL D))))]) [0, 1, 2] rfl
      have hD9 := hD.sub (ws' := [(x, .inr (2, [.int (iI cd), .ref n, .ref r, .ref d, .int (iI cn), .int (iI fc), .ref ya, .ref yb, .ref yc, .ref yo, .long (lI (X 0)), .long (lI (X 1)), .long (lI (X 2)), .long (lI (X 3)), .long (lI (X 4)), .long (lI (X 5)), .long (lI (X 6))])), (r, .inl (cJ, 5, .inr (.inl (aL R)))), (d, .inl (cJ, 5, .inr (.inl (aL D))))]) [0, 1, 2] (by decide) rfl
      have hK9 := hK.sub (tys' := [(cJ, .long)]) [0] rfl
      exact W.zret (v := iI 0) hx hb hr (by decide) (fun t ht hW => ⟨⟨iI 0, (D), rfl, ⟨hD5, Or.inr ⟨rfl, hno⟩⟩, by rw [ht]; exact hP9, va_K.moved hW.alike hK9, hD9⟩, hS.F ht⟩) hS.2.2 dX2_divides_25
    · rw [hn] at hl
      have z2 : R 2 = 0 := hdc.2.2.1 2 (by omega) (by omega)
      have z3 : R 3 = 0 := hdc.2.2.1 3 (by omega) (by omega)
      have z4 : R 4 = 0 := hdc.2.2.1 4 (by omega) (by omega)
      have b0 : -480 ≤ R 0 ∧ R 0 ≤ 480 := hRb 0
      have b1 : -480 ≤ R 1 ∧ R 1 ≤ 480 := hRb 1
      refine lv_iload hx hb dX2_divides_17 (lv_at hl 0 rfl) ?_
      refine lv_iload hx hb dX2_divides_19 (lv_at hl 1 rfl) ?_
      refine ix_icmp_ge (tgt := 26) hx hb dX2_divides_21 (by decide) (by decide) (by decide) (fun c5 => absurd c5 (by decide)) (fun _ => ?_)
      refine ix_iconst (n := 0) hx hb dX2_divides_24 ?_
      have hno : ¬ ∃ Q, n5 Q ∧ dvs a b k R Q := by
        rintro ⟨T, hT, hd⟩
        obtain ⟨g1, g2, -⟩ := deg_dvs hab hR5 hT hd h0
        by_cases z : a = 0
        · rw [if_pos z] at g2; omega
        · rw [if_neg z] at g2; omega
      have hP9 := hP.sub (ws' := [(x, .inr (2, [.int (iI cd), .ref n, .ref r, .ref d, .int (iI cn), .int (iI fc), .ref ya, .ref yb, .ref yc, .ref yo, .long (lI (X 0)), .long (lI (X 1)), .long (lI (X 2)), .long (lI (X 3)), .long (lI (X 4)), .long (lI (X 5)), .long (lI (X 6))])), (r, .inl (cJ, 5, .inr (.inl (aL R)))), (d, .inl (cJ, 5, .inr (.inl (aL D))))]) [0, 1, 2] rfl
      have hD9 := hD.sub (ws' := [(x, .inr (2, [.int (iI cd), .ref n, .ref r, .ref d, .int (iI cn), .int (iI fc), .ref ya, .ref yb, .ref yc, .ref yo, .long (lI (X 0)), .long (lI (X 1)), .long (lI (X 2)), .long (lI (X 3)), .long (lI (X 4)), .long (lI (X 5)), .long (lI (X 6))])), (r, .inl (cJ, 5, .inr (.inl (aL R)))), (d, .inl (cJ, 5, .inr (.inl (aL D))))]) [0, 1, 2] (by decide) rfl
      have hK9 := hK.sub (tys' := [(cJ, .long)]) [0] rfl
      exact W.zret (v := iI 0) hx hb hr (by decide) (fun t ht hW => ⟨⟨iI 0, (D), rfl, ⟨hD5, Or.inr ⟨rfl, hno⟩⟩, by rw [ht]; exact hP9, va_K.moved hW.alike hK9, hD9⟩, hS.F ht⟩) hS.2.2 dX2_divides_25
    · rw [hn] at hl
      have z3 : R 3 = 0 := hdc.2.2.1 3 (by omega) (by omega)
      have z4 : R 4 = 0 := hdc.2.2.1 4 (by omega) (by omega)
      have b0 : -480 ≤ R 0 ∧ R 0 ≤ 480 := hRb 0
      have b1 : -480 ≤ R 1 ∧ R 1 ≤ 480 := hRb 1
      have b2 : -480 ≤ R 2 ∧ R 2 ≤ 480 := hRb 2
      refine lv_iload hx hb dX2_divides_17 (lv_at hl 0 rfl) ?_
      refine lv_iload hx hb dX2_divides_19 (lv_at hl 1 rfl) ?_
      refine ix_icmp_ge (tgt := 26) hx hb dX2_divides_21 (by decide) (by decide) (by decide) (fun _ => ?_) (fun c6 => absurd c6 (by decide))
      refine ix_iconst (n := 0) hx hb dX2_divides_26 ?_
      refine lv_istore (lv' := [(6, .int (iI 0)), (5, .int (iI 2)), (4, .int (iI 2)), (0, .ref x), (1, .int (iI a)), (2, .int (iI b)), (3, .int (iI k))]) hx hb dX2_divides_27 hl (by decide) rfl (fun ls hl => ?_)
      refine lv_iload hx hb dX2_divides_29 (lv_at hl 0 rfl) ?_
      refine ix_iconst (n := 5) hx hb dX2_divides_31 ?_
      refine ix_icmp_ge (tgt := 49) hx hb dX2_divides_32 (by decide) (by decide) (by decide) (fun c7 => absurd c7 (by decide)) (fun _ => ?_)
      refine lv_aload_n hx hb dX2_divides_35 rfl (lv_at hl 3 rfl) ?_
      refine va_get (D := (dC, dI)) (ci := 2) (v := .ref d) (C := RX2) (T := TX2) (N := 17) hx hb hw inX2 hown hK hP 0 rfl rfl 3 (by decide) (hw _ mA_384) (fun _ h9 => h9) rfl dX2_divides_36 ?_
      refine lv_iload hx hb dX2_divides_39 (lv_at hl 0 rfl) ?_
      refine ix_lconst0 hx hb dX2_divides_41 ?_
      refine ix_last (k := 0) (x := 0) hx hb hK hP hD hS 2 0 rfl rfl (by decide) (by decide) (by decide) dX2_divides_42 (fun H locs hP hD hS => ?_)
      have hP : va_P (dC, dI) vwCl [(x, .inr (2, [.int (iI cd), .ref n, .ref r, .ref d, .int (iI cn), .int (iI fc), .ref ya, .ref yb, .ref yc, .ref yo, .long (lI (X 0)), .long (lI (X 1)), .long (lI (X 2)), .long (lI (X 3)), .long (lI (X 4)), .long (lI (X 5)), .long (lI (X 6))])), (r, .inl (cJ, 5, .inr (.inl (aL R)))), (d, .inl (cJ, 5, .inr (.inl (aL (iu D 0 0)))))] H := hP
      have hD : va_D A [(x, .inr (2, [.int (iI cd), .ref n, .ref r, .ref d, .int (iI cn), .int (iI fc), .ref ya, .ref yb, .ref yc, .ref yo, .long (lI (X 0)), .long (lI (X 1)), .long (lI (X 2)), .long (lI (X 3)), .long (lI (X 4)), .long (lI (X 5)), .long (lI (X 6))])), (r, .inl (cJ, 5, .inr (.inl (aL R)))), (d, .inl (cJ, 5, .inr (.inl (aL (iu D 0 0)))))] := hD
      refine ix_iinc (k := 0) (lv2 := [(6, .int (iI 1)), (5, .int (iI 2)), (4, .int (iI 2)), (0, .ref x), (1, .int (iI a)), (2, .int (iI b)), (3, .int (iI k))]) hx hb dX2_divides_43 hl rfl (by decide) rfl (fun ls hl => ?_)
      refine lv_goto (tgt := 29) hx hb dX2_divides_46 (by decide) ?_
      refine lv_iload hx hb dX2_divides_29 (lv_at hl 0 rfl) ?_
      refine ix_iconst (n := 5) hx hb dX2_divides_31 ?_
      refine ix_icmp_ge (tgt := 49) hx hb dX2_divides_32 (by decide) (by decide) (by decide) (fun c8 => absurd c8 (by decide)) (fun _ => ?_)
      refine lv_aload_n hx hb dX2_divides_35 rfl (lv_at hl 3 rfl) ?_
      refine va_get (D := (dC, dI)) (ci := 2) (v := .ref d) (C := RX2) (T := TX2) (N := 17) hx hb hw inX2 hown hK hP 0 rfl rfl 3 (by decide) (hw _ mA_384) (fun _ h9 => h9) rfl dX2_divides_36 ?_
      refine lv_iload hx hb dX2_divides_39 (lv_at hl 0 rfl) ?_
      refine ix_lconst0 hx hb dX2_divides_41 ?_
      refine ix_last (k := 1) (x := 0) hx hb hK hP hD hS 2 0 rfl rfl (by decide) (by decide) (by decide) dX2_divides_42 (fun H locs hP hD hS => ?_)
      have hP : va_P (dC, dI) vwCl [(x, .inr (2, [.int (iI cd), .ref n, .ref r, .ref d, .int (iI cn), .int (iI fc), .ref ya, .ref yb, .ref yc, .ref yo, .long (lI (X 0)), .long (lI (X 1)), .long (lI (X 2)), .long (lI (X 3)), .long (lI (X 4)), .long (lI (X 5)), .long (lI (X 6))])), (r, .inl (cJ, 5, .inr (.inl (aL R)))), (d, .inl (cJ, 5, .inr (.inl (aL (iu (iu D 0 0) 1 0)))))] H := hP
      have hD : va_D A [(x, .inr (2, [.int (iI cd), .ref n, .ref r, .ref d, .int (iI cn), .int (iI fc), .ref ya, .ref yb, .ref yc, .ref yo, .long (lI (X 0)), .long (lI (X 1)), .long (lI (X 2)), .long (lI (X 3)), .long (lI (X 4)), .long (lI (X 5)), .long (lI (X 6))])), (r, .inl (cJ, 5, .inr (.inl (aL R)))), (d, .inl (cJ, 5, .inr (.inl (aL (iu (iu D 0 0) 1 0)))))] := hD
      refine ix_iinc (k := 0) (lv2 := [(6, .int (iI 2)), (5, .int (iI 2)), (4, .int (iI 2)), (0, .ref x), (1, .int (iI a)), (2, .int (iI b)), (3, .int (iI k))]) hx hb dX2_divides_43 hl rfl (by decide) rfl (fun ls hl => ?_)
      refine lv_goto (tgt := 29) hx hb dX2_divides_46 (by decide) ?_
      refine lv_iload hx hb dX2_divides_29 (lv_at hl 0 rfl) ?_
      refine ix_iconst (n := 5) hx hb dX2_divides_31 ?_
      refine ix_icmp_ge (tgt := 49) hx hb dX2_divides_32 (by decide) (by decide) (by decide) (fun c9 => absurd c9 (by decide)) (fun _ => ?_)
      refine lv_aload_n hx hb dX2_divides_35 rfl (lv_at hl 3 rfl) ?_
      refine va_get (D := (dC, dI)) (ci := 2) (v := .ref d) (C := RX2) (T := TX2) (N := 17) hx hb hw inX2 hown hK hP 0 rfl rfl 3 (by decide) (hw _ mA_384) (fun _ h9 => h9) rfl dX2_divides_36 ?_
      refine lv_iload hx hb dX2_divides_39 (lv_at hl 0 rfl) ?_
      refine ix_lconst0 hx hb dX2_divides_41 ?_
      refine ix_last (k := 2) (x := 0) hx hb hK hP hD hS 2 0 rfl rfl (by decide) (by decide) (by decide) dX2_divides_42 (fun H locs hP hD hS => ?_)
      have hP : va_P (dC, dI) vwCl [(x, .inr (2, [.int (iI cd), .ref n, .ref r, .ref d, .int (iI cn), .int (iI fc), .ref ya, .ref yb, .ref yc, .ref yo, .long (lI (X 0)), .long (lI (X 1)), .long (lI (X 2)), .long (lI (X 3)), .long (lI (X 4)), .long (lI (X 5)), .long (lI (X 6))])), (r, .inl (cJ, 5, .inr (.inl (aL R)))), (d, .inl (cJ, 5, .inr (.inl (aL (iu (iu (iu D 0 0) 1 0) 2 0)))))] H := hP
      have hD : va_D A [(x, .inr (2, [.int (iI cd), .ref n, .ref r, .ref d, .int (iI cn), .int (iI fc), .ref ya, .ref yb, .ref yc, .ref yo, .long (lI (X 0)), .long (lI (X 1)), .long (lI (X 2)), .long (lI (X 3)), .long (lI (X 4)), .long (lI (X 5)), .long (lI (X 6))])), (r, .inl (cJ, 5, .inr (.inl (aL R)))), (d, .inl (cJ, 5, .inr (.inl (aL (iu (iu (iu D 0 0) 1 0) 2 0)))))] := hD
      refine ix_iinc (k := 0) (lv2 := [(6, .int (iI 3)), (5, .int (iI 2)), (4, .int (iI 2)), (0, .ref x), (1, .int (iI a)), (2, .int (iI b)), (3, .int (iI k))]) hx hb dX2_divides_43 hl rfl (by decide) rfl (fun ls hl => ?_)
      refine lv_goto (tgt := 29) hx hb dX2_divides_46 (by decide) ?_
      refine lv_iload hx hb dX2_divides_29 (lv_at hl 0 rfl) ?_
      refine ix_iconst (n := 5) hx hb dX2_divides_31 ?_
      refine ix_icmp_ge (tgt := 49) hx hb dX2_divides_32 (by decide) (by decide) (by decide) (fun c10 => absurd c10 (by decide)) (fun _ => ?_)
      refine lv_aload_n hx hb dX2_divides_35 rfl (lv_at hl 3 rfl) ?_
      refine va_get (D := (dC, dI)) (ci := 2) (v := .ref d) (C := RX2) (T := TX2) (N := 17) hx hb hw inX2 hown hK hP 0 rfl rfl 3 (by decide) (hw _ mA_384) (fun _ h9 => h9) rfl dX2_divides_36 ?_
      refine lv_iload hx hb dX2_divides_39 (lv_at hl 0 rfl) ?_
      refine ix_lconst0 hx hb dX2_divides_41 ?_
      refine ix_last (k := 3) (x := 0) hx hb hK hP hD hS 2 0 rfl rfl (by decide) (by decide) (by decide) dX2_divides_42 (fun H locs hP hD hS => ?_)
      have hP : va_P (dC, dI) vwCl [(x, .inr (2, [.int (iI cd), .ref n, .ref r, .ref d, .int (iI cn), .int (iI fc), .ref ya, .ref yb, .ref yc, .ref yo, .long (lI (X 0)), .long (lI (X 1)), .long (lI (X 2)), .long (lI (X 3)), .long (lI (X 4)), .long (lI (X 5)), .long (lI (X 6))])), (r, .inl (cJ, 5, .inr (.inl (aL R)))), (d, .inl (cJ, 5, .inr (.inl (aL (iu (iu (iu (iu D 0 0) 1 0) 2 0) 3 0)))))] H := hP
      have hD : va_D A [(x, .inr (2, [.int (iI cd), .ref n, .ref r, .ref d, .int (iI cn), .int (iI fc), .ref ya, .ref yb, .ref yc, .ref yo, .long (lI (X 0)), .long (lI (X 1)), .long (lI (X 2)), .long (lI (X 3)), .long (lI (X 4)), .long (lI (X 5)), .long (lI (X 6))])), (r, .inl (cJ, 5, .inr (.inl (aL R)))), (d, .inl (cJ, 5, .inr (.inl (aL (iu (iu (iu (iu D 0 0) 1 0) 2 0) 3 0)))))] := hD
      refine ix_iinc (k := 0) (lv2 := [(6, .int (iI 4)), (5, .int (iI 2)), (4, .int (iI 2)), (0, .ref x), (1, .int (iI a)), (2, .int (iI b)), (3, .int (iI k))]) hx hb dX2_divides_43 hl rfl (by decide) rfl (fun ls hl => ?_)
      refine lv_goto (tgt := 29) hx hb dX2_divides_46 (by decide) ?_
      refine lv_iload hx hb dX2_divides_29 (lv_at hl 0 rfl) ?_
      refine ix_iconst (n := 5) hx hb dX2_divides_31 ?_
      refine ix_icmp_ge (tgt := 49) hx hb dX2_divides_32 (by decide) (by decide) (by decide) (fun c11 => absurd c11 (by decide)) (fun _ => ?_)
      refine lv_aload_n hx hb dX2_divides_35 rfl (lv_at hl 3 rfl) ?_
      refine va_get (D := (dC, dI)) (ci := 2) (v := .ref d) (C := RX2) (T := TX2) (N := 17) hx hb hw inX2 hown hK hP 0 rfl rfl 3 (by decide) (hw _ mA_384) (fun _ h9 => h9) rfl dX2_divides_36 ?_
      refine lv_iload hx hb dX2_divides_39 (lv_at hl 0 rfl) ?_
      refine ix_lconst0 hx hb dX2_divides_41 ?_
      refine ix_last (k := 4) (x := 0) hx hb hK hP hD hS 2 0 rfl rfl (by decide) (by decide) (by decide) dX2_divides_42 (fun H locs hP hD hS => ?_)
      have hP : va_P (dC, dI) vwCl [(x, .inr (2, [.int (iI cd), .ref n, .ref r, .ref d, .int (iI cn), .int (iI fc), .ref ya, .ref yb, .ref yc, .ref yo, .long (lI (X 0)), .long (lI (X 1)), .long (lI (X 2)), .long (lI (X 3)), .long (lI (X 4)), .long (lI (X 5)), .long (lI (X 6))])), (r, .inl (cJ, 5, .inr (.inl (aL R)))), (d, .inl (cJ, 5, .inr (.inl (aL (iu (iu (iu (iu (iu D 0 0) 1 0) 2 0) 3 0) 4 0)))))] H := hP
      have hD : va_D A [(x, .inr (2, [.int (iI cd), .ref n, .ref r, .ref d, .int (iI cn), .int (iI fc), .ref ya, .ref yb, .ref yc, .ref yo, .long (lI (X 0)), .long (lI (X 1)), .long (lI (X 2)), .long (lI (X 3)), .long (lI (X 4)), .long (lI (X 5)), .long (lI (X 6))])), (r, .inl (cJ, 5, .inr (.inl (aL R)))), (d, .inl (cJ, 5, .inr (.inl (aL (iu (iu (iu (iu (iu D 0 0) 1 0) 2 0) 3 0) 4 0)))))] := hD
      refine ix_iinc (k := 0) (lv2 := [(6, .int (iI 5)), (5, .int (iI 2)), (4, .int (iI 2)), (0, .ref x), (1, .int (iI a)), (2, .int (iI b)), (3, .int (iI k))]) hx hb dX2_divides_43 hl rfl (by decide) rfl (fun ls hl => ?_)
      refine lv_goto (tgt := 29) hx hb dX2_divides_46 (by decide) ?_
      refine lv_iload hx hb dX2_divides_29 (lv_at hl 0 rfl) ?_
      refine ix_iconst (n := 5) hx hb dX2_divides_31 ?_
      refine ix_icmp_ge (tgt := 49) hx hb dX2_divides_32 (by decide) (by decide) (by decide) (fun _ => ?_) (fun c12 => absurd c12 (by decide))
      rw [p4_z hD5] at hP hD
      refine lv_iload hx hb dX2_divides_49 (lv_at hl 1 rfl) ?_
      refine lv_istore (lv' := [(6, .int (iI 2)), (5, .int (iI 2)), (4, .int (iI 2)), (0, .ref x), (1, .int (iI a)), (2, .int (iI b)), (3, .int (iI k))]) hx hb dX2_divides_51 hl (by decide) rfl (fun ls hl => ?_)
      refine lv_iload hx hb dX2_divides_53 (lv_at hl 0 rfl) ?_
      refine ix_if_lt (tgt := 266) hx hb dX2_divides_55 (by decide) (by decide) (fun c13 => absurd c13 (by decide)) (fun _ => ?_)
      refine lv_aload_n hx hb dX2_divides_58 rfl (lv_at hl 3 rfl) ?_
      refine va_get (D := (dC, dI)) (ci := 2) (v := .ref r) (C := RX2) (T := TX2) (N := 17) hx hb hw inX2 hown hK hP 0 rfl rfl 2 (by decide) (hw _ mA_383) (fun _ h9 => h9) rfl dX2_divides_59 ?_
      refine lv_iload hx hb dX2_divides_62 (lv_at hl 0 rfl) ?_
      refine ix_lald (k := 2) hx hb hK hP 1 0 rfl rfl (by decide) (by decide) (by decide) dX2_divides_64 ?_
      refine lv_lstore (lv' := [(7, .long (lI (R 2))), (6, .int (iI 2)), (5, .int (iI 2)), (4, .int (iI 2)), (0, .ref x), (1, .int (iI a)), (2, .int (iI b)), (3, .int (iI k))]) hx hb dX2_divides_65 hl (by decide) rfl (fun ls hl => ?_)
      refine lv_iload hx hb dX2_divides_67 (lv_at hl 3 rfl) ?_
      refine ix_iconst (n := 1) hx hb dX2_divides_69 ?_
      refine ix_icmp_ne (tgt := 142) hx hb dX2_divides_70 (by decide) (by decide) (by decide) (fun _ => ?_) (fun c14 => absurd c14 (by decide))
      refine lv_iload hx hb dX2_divides_142 (lv_at hl 1 rfl) ?_
      refine ix_iconst (n := 1) hx hb dX2_divides_144 ?_
      refine ix_isub hx hb dX2_divides_145 ?_
      refine ix_z (y := 1) rfl ?_
      refine ix_if_lt (tgt := 173) hx hb dX2_divides_146 (by decide) (by decide) (fun c15 => absurd c15 (by decide)) (fun _ => ?_)
      refine lv_iload hx hb dX2_divides_149 (lv_at hl 1 rfl) ?_
      refine lv_iload hx hb dX2_divides_151 (lv_at hl 2 rfl) ?_
      refine ix_icmp_ge (tgt := 173) hx hb dX2_divides_153 (by decide) (by decide) (by decide) (fun _ => ?_) (fun c16 => absurd c16 (by decide))
      refine lv_iload hx hb dX2_divides_173 (lv_at hl 1 rfl) ?_
      refine ix_if_ne (tgt := 195) hx hb dX2_divides_175 (by decide) (by decide) (fun _ => ?_) (fun c17 => absurd c17 (by decide))
      refine lv_iload hx hb dX2_divides_195 (lv_at hl 1 rfl) ?_
      refine lv_iload hx hb dX2_divides_197 (lv_at hl 2 rfl) ?_
      refine ix_iconst (n := 2) hx hb dX2_divides_199 ?_
      refine ix_isub hx hb dX2_divides_200 ?_
      refine ix_z (y := 0) rfl ?_
      refine ix_icmp_gt (tgt := 219) hx hb dX2_divides_201 (by decide) (by decide) (by decide) (fun _ => ?_) (fun c18 => absurd c18 (by decide))
      refine lv_iload hx hb dX2_divides_219 (lv_at hl 1 rfl) ?_
      refine ix_iconst (n := 2) hx hb dX2_divides_221 ?_
      refine ix_icmp_ge (tgt := 234) hx hb dX2_divides_222 (by decide) (by decide) (by decide) (fun _ => ?_) (fun c19 => absurd c19 (by decide))
      refine lv_lload hx hb dX2_divides_234 (lv_at hl 0 rfl) ?_
      refine lv_iload_n hx hb dX2_divides_236 rfl (lv_at hl 5 rfl) ?_
      refine ix_i2l hx hb dX2_divides_237 (by omega) ?_
      refine ix_lrem hx hb dX2_divides_238 (by omega) (by omega) (by omega) ?_
      refine ix_lconst0 hx hb dX2_divides_239 ?_
      refine ix_lc_eq (tgt := 246) hx hb dX2_divides_240 dX2_divides_241 (by decide) (by have := tmod_in (x := (R 2)) (y := a) (A := 100000000000000) (by omega); omega) (by decide) (fun c20 => ?_) (fun c20 => ?_)
      · refine lv_aload_n hx hb dX2_divides_246 rfl (lv_at hl 4 rfl) ?_
        refine va_get (D := (dC, dI)) (ci := 2) (v := .ref d) (C := RX2) (T := TX2) (N := 17) hx hb hw inX2 hown hK hP 0 rfl rfl 3 (by decide) (hw _ mA_384) (fun _ h9 => h9) rfl dX2_divides_247 ?_
        refine lv_iload hx hb dX2_divides_250 (lv_at hl 1 rfl) ?_
        refine ix_iconst (n := 2) hx hb dX2_divides_252 ?_
        refine ix_isub hx hb dX2_divides_253 ?_
        refine ix_z (y := 0) rfl ?_
        refine lv_lload hx hb dX2_divides_254 (lv_at hl 0 rfl) ?_
        refine lv_iload_n hx hb dX2_divides_256 rfl (lv_at hl 5 rfl) ?_
        refine ix_i2l hx hb dX2_divides_257 (by omega) ?_
        refine ix_ldiv hx hb dX2_divides_258 (by omega) (by omega) (by omega) (by omega) ?_
        have f0 : a * Int.tdiv (R 2) a = R 2 := tdiv_mul (by omega)
        have bx0 := tdiv_in (x := R 2) (y := a) (A := 480) (by omega)
        generalize Int.tdiv (R 2) a = x0 at f0 bx0 ⊢
        refine ix_last (k := 0) (x := x0) hx hb hK hP hD hS 2 0 rfl rfl (by decide) (by decide) (by decide) dX2_divides_259 (fun H locs hP hD hS => ?_)
        have hP : va_P (dC, dI) vwCl [(x, .inr (2, [.int (iI cd), .ref n, .ref r, .ref d, .int (iI cn), .int (iI fc), .ref ya, .ref yb, .ref yc, .ref yo, .long (lI (X 0)), .long (lI (X 1)), .long (lI (X 2)), .long (lI (X 3)), .long (lI (X 4)), .long (lI (X 5)), .long (lI (X 6))])), (r, .inl (cJ, 5, .inr (.inl (aL R)))), (d, .inl (cJ, 5, .inr (.inl (aL (iu (p4 0 0 0 0) 0 x0)))))] H := hP
        have hD : va_D A [(x, .inr (2, [.int (iI cd), .ref n, .ref r, .ref d, .int (iI cn), .int (iI fc), .ref ya, .ref yb, .ref yc, .ref yo, .long (lI (X 0)), .long (lI (X 1)), .long (lI (X 2)), .long (lI (X 3)), .long (lI (X 4)), .long (lI (X 5)), .long (lI (X 6))])), (r, .inl (cJ, 5, .inr (.inl (aL R)))), (d, .inl (cJ, 5, .inr (.inl (aL (iu (p4 0 0 0 0) 0 x0)))))] := hD
        rw [p4_0] at hP hD
        refine ix_iinc (k := 1) (lv2 := [(6, .int (iI 1)), (7, .long (lI (R 2))), (5, .int (iI 2)), (4, .int (iI 2)), (0, .ref x), (1, .int (iI a)), (2, .int (iI b)), (3, .int (iI k))]) hx hb dX2_divides_260 hl rfl (by decide) rfl (fun ls hl => ?_)
        refine lv_goto (tgt := 53) hx hb dX2_divides_263 (by decide) ?_
        refine lv_iload hx hb dX2_divides_53 (lv_at hl 0 rfl) ?_
        refine ix_if_lt (tgt := 266) hx hb dX2_divides_55 (by decide) (by decide) (fun c21 => absurd c21 (by decide)) (fun _ => ?_)
        refine lv_aload_n hx hb dX2_divides_58 rfl (lv_at hl 4 rfl) ?_
        refine va_get (D := (dC, dI)) (ci := 2) (v := .ref r) (C := RX2) (T := TX2) (N := 17) hx hb hw inX2 hown hK hP 0 rfl rfl 2 (by decide) (hw _ mA_383) (fun _ h9 => h9) rfl dX2_divides_59 ?_
        refine lv_iload hx hb dX2_divides_62 (lv_at hl 0 rfl) ?_
        refine ix_lald (k := 1) hx hb hK hP 1 0 rfl rfl (by decide) (by decide) (by decide) dX2_divides_64 ?_
        refine lv_lstore (lv' := [(7, .long (lI (R 1))), (6, .int (iI 1)), (5, .int (iI 2)), (4, .int (iI 2)), (0, .ref x), (1, .int (iI a)), (2, .int (iI b)), (3, .int (iI k))]) hx hb dX2_divides_65 hl (by decide) rfl (fun ls hl => ?_)
        refine lv_iload hx hb dX2_divides_67 (lv_at hl 3 rfl) ?_
        refine ix_iconst (n := 1) hx hb dX2_divides_69 ?_
        refine ix_icmp_ne (tgt := 142) hx hb dX2_divides_70 (by decide) (by decide) (by decide) (fun _ => ?_) (fun c22 => absurd c22 (by decide))
        refine lv_iload hx hb dX2_divides_142 (lv_at hl 1 rfl) ?_
        refine ix_iconst (n := 1) hx hb dX2_divides_144 ?_
        refine ix_isub hx hb dX2_divides_145 ?_
        refine ix_z (y := 0) rfl ?_
        refine ix_if_lt (tgt := 173) hx hb dX2_divides_146 (by decide) (by decide) (fun c23 => absurd c23 (by decide)) (fun _ => ?_)
        refine lv_iload hx hb dX2_divides_149 (lv_at hl 1 rfl) ?_
        refine lv_iload hx hb dX2_divides_151 (lv_at hl 2 rfl) ?_
        refine ix_icmp_ge (tgt := 173) hx hb dX2_divides_153 (by decide) (by decide) (by decide) (fun c24 => absurd c24 (by decide)) (fun _ => ?_)
        refine lv_lload hx hb dX2_divides_156 (lv_at hl 0 rfl) ?_
        refine lv_iload_n hx hb dX2_divides_158 rfl (lv_at hl 6 rfl) ?_
        refine ix_i2l hx hb dX2_divides_159 (by omega) ?_
        refine lv_aload_n hx hb dX2_divides_160 rfl (lv_at hl 4 rfl) ?_
        refine va_get (D := (dC, dI)) (ci := 2) (v := .ref d) (C := RX2) (T := TX2) (N := 17) hx hb hw inX2 hown hK hP 0 rfl rfl 3 (by decide) (hw _ mA_384) (fun _ h9 => h9) rfl dX2_divides_161 ?_
        refine lv_iload hx hb dX2_divides_164 (lv_at hl 1 rfl) ?_
        refine ix_iconst (n := 1) hx hb dX2_divides_166 ?_
        refine ix_isub hx hb dX2_divides_167 ?_
        refine ix_z (y := 0) rfl ?_
        refine ix_lald (k := 0) hx hb hK hP 2 0 rfl rfl (by decide) (by decide) (by decide) dX2_divides_168 ?_
        refine ix_zl (y := x0) rfl ?_
        refine ix_lmul hx hb dX2_divides_169 ?_
        have mbx0 := mul_in (x := b) (y := x0) (A := 240) (B := 480) hb9 bx0 (by decide) (by decide)
        refine ix_lsub hx hb dX2_divides_170 ?_
        refine lv_lstore (lv' := [(7, .long (lI ((R 1) - (b * x0)))), (6, .int (iI 1)), (5, .int (iI 2)), (4, .int (iI 2)), (0, .ref x), (1, .int (iI a)), (2, .int (iI b)), (3, .int (iI k))]) hx hb dX2_divides_171 hl (by decide) rfl (fun ls hl => ?_)
        refine lv_iload hx hb dX2_divides_173 (lv_at hl 1 rfl) ?_
        refine ix_if_ne (tgt := 195) hx hb dX2_divides_175 (by decide) (by decide) (fun _ => ?_) (fun c25 => absurd c25 (by decide))
        refine lv_iload hx hb dX2_divides_195 (lv_at hl 1 rfl) ?_
        refine lv_iload hx hb dX2_divides_197 (lv_at hl 2 rfl) ?_
        refine ix_iconst (n := 2) hx hb dX2_divides_199 ?_
        refine ix_isub hx hb dX2_divides_200 ?_
        refine ix_z (y := 0) rfl ?_
        refine ix_icmp_gt (tgt := 219) hx hb dX2_divides_201 (by decide) (by decide) (by decide) (fun _ => ?_) (fun c26 => absurd c26 (by decide))
        refine lv_iload hx hb dX2_divides_219 (lv_at hl 1 rfl) ?_
        refine ix_iconst (n := 2) hx hb dX2_divides_221 ?_
        refine ix_icmp_ge (tgt := 234) hx hb dX2_divides_222 (by decide) (by decide) (by decide) (fun c27 => absurd c27 (by decide)) (fun _ => ?_)
        refine lv_lload hx hb dX2_divides_225 (lv_at hl 0 rfl) ?_
        refine ix_lconst0 hx hb dX2_divides_227 ?_
        refine ix_lc_eq (tgt := 260) hx hb dX2_divides_228 dX2_divides_229 (by decide) (by omega) (by decide) (fun c28 => ?_) (fun c28 => ?_)
        · refine ix_iinc (k := 1) (lv2 := [(6, .int (iI 0)), (7, .long (lI ((R 1) - (b * x0)))), (5, .int (iI 2)), (4, .int (iI 2)), (0, .ref x), (1, .int (iI a)), (2, .int (iI b)), (3, .int (iI k))]) hx hb dX2_divides_260 hl rfl (by decide) rfl (fun ls hl => ?_)
          refine lv_goto (tgt := 53) hx hb dX2_divides_263 (by decide) ?_
          refine lv_iload hx hb dX2_divides_53 (lv_at hl 0 rfl) ?_
          refine ix_if_lt (tgt := 266) hx hb dX2_divides_55 (by decide) (by decide) (fun c29 => absurd c29 (by decide)) (fun _ => ?_)
          refine lv_aload_n hx hb dX2_divides_58 rfl (lv_at hl 4 rfl) ?_
          refine va_get (D := (dC, dI)) (ci := 2) (v := .ref r) (C := RX2) (T := TX2) (N := 17) hx hb hw inX2 hown hK hP 0 rfl rfl 2 (by decide) (hw _ mA_383) (fun _ h9 => h9) rfl dX2_divides_59 ?_
          refine lv_iload hx hb dX2_divides_62 (lv_at hl 0 rfl) ?_
          refine ix_lald (k := 0) hx hb hK hP 1 0 rfl rfl (by decide) (by decide) (by decide) dX2_divides_64 ?_
          refine lv_lstore (lv' := [(7, .long (lI (R 0))), (6, .int (iI 0)), (5, .int (iI 2)), (4, .int (iI 2)), (0, .ref x), (1, .int (iI a)), (2, .int (iI b)), (3, .int (iI k))]) hx hb dX2_divides_65 hl (by decide) rfl (fun ls hl => ?_)
          refine lv_iload hx hb dX2_divides_67 (lv_at hl 3 rfl) ?_
          refine ix_iconst (n := 1) hx hb dX2_divides_69 ?_
          refine ix_icmp_ne (tgt := 142) hx hb dX2_divides_70 (by decide) (by decide) (by decide) (fun _ => ?_) (fun c30 => absurd c30 (by decide))
          refine lv_iload hx hb dX2_divides_142 (lv_at hl 1 rfl) ?_
          refine ix_iconst (n := 1) hx hb dX2_divides_144 ?_
          refine ix_isub hx hb dX2_divides_145 ?_
          refine ix_z (y := (-1)) rfl ?_
          refine ix_if_lt (tgt := 173) hx hb dX2_divides_146 (by decide) (by decide) (fun _ => ?_) (fun c31 => absurd c31 (by decide))
          refine lv_iload hx hb dX2_divides_173 (lv_at hl 1 rfl) ?_
          refine ix_if_ne (tgt := 195) hx hb dX2_divides_175 (by decide) (by decide) (fun c32 => absurd c32 (by decide)) (fun _ => ?_)
          refine lv_lload hx hb dX2_divides_178 (lv_at hl 0 rfl) ?_
          refine lv_iload_n hx hb dX2_divides_180 rfl (lv_at hl 7 rfl) ?_
          refine ix_i2l hx hb dX2_divides_181 (by omega) ?_
          refine lv_aload_n hx hb dX2_divides_182 rfl (lv_at hl 4 rfl) ?_
          refine va_get (D := (dC, dI)) (ci := 2) (v := .ref d) (C := RX2) (T := TX2) (N := 17) hx hb hw inX2 hown hK hP 0 rfl rfl 3 (by decide) (hw _ mA_384) (fun _ h9 => h9) rfl dX2_divides_183 ?_
          refine ix_iconst (n := 0) hx hb dX2_divides_186 ?_
          refine ix_lald (k := 0) hx hb hK hP 2 0 rfl rfl (by decide) (by decide) (by decide) dX2_divides_187 ?_
          refine ix_zl (y := x0) rfl ?_
          refine ix_lmul hx hb dX2_divides_188 ?_
          have mkx0 := mul_in (x := k) (y := x0) (A := 240) (B := 480) hk9 bx0 (by decide) (by decide)
          refine ix_lsub hx hb dX2_divides_189 ?_
          refine lv_lstore (lv' := [(7, .long (lI ((R 0) - (k * x0)))), (6, .int (iI 0)), (5, .int (iI 2)), (4, .int (iI 2)), (0, .ref x), (1, .int (iI a)), (2, .int (iI b)), (3, .int (iI k))]) hx hb dX2_divides_190 hl (by decide) rfl (fun ls hl => ?_)
          refine lv_goto (tgt := 219) hx hb dX2_divides_192 (by decide) ?_
          refine lv_iload hx hb dX2_divides_219 (lv_at hl 1 rfl) ?_
          refine ix_iconst (n := 2) hx hb dX2_divides_221 ?_
          refine ix_icmp_ge (tgt := 234) hx hb dX2_divides_222 (by decide) (by decide) (by decide) (fun c33 => absurd c33 (by decide)) (fun _ => ?_)
          refine lv_lload hx hb dX2_divides_225 (lv_at hl 0 rfl) ?_
          refine ix_lconst0 hx hb dX2_divides_227 ?_
          refine ix_lc_eq (tgt := 260) hx hb dX2_divides_228 dX2_divides_229 (by decide) (by omega) (by decide) (fun c34 => ?_) (fun c34 => ?_)
          · refine ix_iinc (k := 1) (lv2 := [(6, .int (iI (-1))), (7, .long (lI ((R 0) - (k * x0)))), (5, .int (iI 2)), (4, .int (iI 2)), (0, .ref x), (1, .int (iI a)), (2, .int (iI b)), (3, .int (iI k))]) hx hb dX2_divides_260 hl rfl (by decide) rfl (fun ls hl => ?_)
            refine lv_goto (tgt := 53) hx hb dX2_divides_263 (by decide) ?_
            refine lv_iload hx hb dX2_divides_53 (lv_at hl 0 rfl) ?_
            refine ix_if_lt (tgt := 266) hx hb dX2_divides_55 (by decide) (by decide) (fun _ => ?_) (fun c35 => absurd c35 (by decide))
            refine ix_iconst (n := 1) hx hb dX2_divides_266 ?_
            have hdv : dvs a b k R (p4 x0 0 0 0) := dvs_p4 hR5 (by omega) (by omega) (by omega) (by omega) (by omega) (by omega)
            have hP9 := hP.sub (ws' := [(x, .inr (2, [.int (iI cd), .ref n, .ref r, .ref d, .int (iI cn), .int (iI fc), .ref ya, .ref yb, .ref yc, .ref yo, .long (lI (X 0)), .long (lI (X 1)), .long (lI (X 2)), .long (lI (X 3)), .long (lI (X 4)), .long (lI (X 5)), .long (lI (X 6))])), (r, .inl (cJ, 5, .inr (.inl (aL R)))), (d, .inl (cJ, 5, .inr (.inl (aL (p4 x0 0 0 0)))))]) [0, 1, 2] rfl
            have hD9 := hD.sub (ws' := [(x, .inr (2, [.int (iI cd), .ref n, .ref r, .ref d, .int (iI cn), .int (iI fc), .ref ya, .ref yb, .ref yc, .ref yo, .long (lI (X 0)), .long (lI (X 1)), .long (lI (X 2)), .long (lI (X 3)), .long (lI (X 4)), .long (lI (X 5)), .long (lI (X 6))])), (r, .inl (cJ, 5, .inr (.inl (aL R)))), (d, .inl (cJ, 5, .inr (.inl (aL (p4 x0 0 0 0)))))]) [0, 1, 2] (by decide) rfl
            have hK9 := hK.sub (tys' := [(cJ, .long)]) [0] rfl
            exact W.zret (v := iI 1) hx hb hr (by decide) (fun t ht hW => ⟨⟨iI 1, (p4 x0 0 0 0), rfl, ⟨p4_n5 _ _ _ _, Or.inl ⟨rfl, hdv⟩⟩, by rw [ht]; exact hP9, va_K.moved hW.alike hK9, hD9⟩, hS.F ht⟩) hS.2.2 dX2_divides_267
          · refine ix_iconst (n := 0) hx hb dX2_divides_232 ?_
            have hno : ¬ ∃ Q, n5 Q ∧ dvs a b k R Q := by
              rintro ⟨T, hT, hd⟩
              obtain ⟨e4, e3, e2, e1, e0, -, -⟩ := qua_eqs (by omega) hR5 hT hd
              have t2 : T 2 = 0 := mul_cn (b := a) (by omega) (by omega)
              have t1 : T 1 = 0 := mul_cn (b := a) (by omega) (by rw [t2] at e3; omega)
              have t0 : T 0 = x0 := mul_cn (b := a) (by omega) (by rw [t1] at e2; rw [t2] at e2; omega)
              rw [t0] at e0
              omega
            have hP9 := hP.sub (ws' := [(x, .inr (2, [.int (iI cd), .ref n, .ref r, .ref d, .int (iI cn), .int (iI fc), .ref ya, .ref yb, .ref yc, .ref yo, .long (lI (X 0)), .long (lI (X 1)), .long (lI (X 2)), .long (lI (X 3)), .long (lI (X 4)), .long (lI (X 5)), .long (lI (X 6))])), (r, .inl (cJ, 5, .inr (.inl (aL R)))), (d, .inl (cJ, 5, .inr (.inl (aL (p4 x0 0 0 0)))))]) [0, 1, 2] rfl
            have hD9 := hD.sub (ws' := [(x, .inr (2, [.int (iI cd), .ref n, .ref r, .ref d, .int (iI cn), .int (iI fc), .ref ya, .ref yb, .ref yc, .ref yo, .long (lI (X 0)), .long (lI (X 1)), .long (lI (X 2)), .long (lI (X 3)), .long (lI (X 4)), .long (lI (X 5)), .long (lI (X 6))])), (r, .inl (cJ, 5, .inr (.inl (aL R)))), (d, .inl (cJ, 5, .inr (.inl (aL (p4 x0 0 0 0)))))]) [0, 1, 2] (by decide) rfl
            have hK9 := hK.sub (tys' := [(cJ, .long)]) [0] rfl
            exact W.zret (v := iI 0) hx hb hr (by decide) (fun t ht hW => ⟨⟨iI 0, (p4 x0 0 0 0), rfl, ⟨p4_n5 _ _ _ _, Or.inr ⟨rfl, hno⟩⟩, by rw [ht]; exact hP9, va_K.moved hW.alike hK9, hD9⟩, hS.F ht⟩) hS.2.2 dX2_divides_233
        · refine ix_iconst (n := 0) hx hb dX2_divides_232 ?_
          have hno : ¬ ∃ Q, n5 Q ∧ dvs a b k R Q := by
            rintro ⟨T, hT, hd⟩
            obtain ⟨e4, e3, e2, e1, e0, -, -⟩ := qua_eqs (by omega) hR5 hT hd
            have t2 : T 2 = 0 := mul_cn (b := a) (by omega) (by omega)
            have t1 : T 1 = 0 := mul_cn (b := a) (by omega) (by rw [t2] at e3; omega)
            have t0 : T 0 = x0 := mul_cn (b := a) (by omega) (by rw [t1] at e2; rw [t2] at e2; omega)
            rw [t0] at e1
            rw [t1] at e1
            omega
          have hP9 := hP.sub (ws' := [(x, .inr (2, [.int (iI cd), .ref n, .ref r, .ref d, .int (iI cn), .int (iI fc), .ref ya, .ref yb, .ref yc, .ref yo, .long (lI (X 0)), .long (lI (X 1)), .long (lI (X 2)), .long (lI (X 3)), .long (lI (X 4)), .long (lI (X 5)), .long (lI (X 6))])), (r, .inl (cJ, 5, .inr (.inl (aL R)))), (d, .inl (cJ, 5, .inr (.inl (aL (p4 x0 0 0 0)))))]) [0, 1, 2] rfl
          have hD9 := hD.sub (ws' := [(x, .inr (2, [.int (iI cd), .ref n, .ref r, .ref d, .int (iI cn), .int (iI fc), .ref ya, .ref yb, .ref yc, .ref yo, .long (lI (X 0)), .long (lI (X 1)), .long (lI (X 2)), .long (lI (X 3)), .long (lI (X 4)), .long (lI (X 5)), .long (lI (X 6))])), (r, .inl (cJ, 5, .inr (.inl (aL R)))), (d, .inl (cJ, 5, .inr (.inl (aL (p4 x0 0 0 0)))))]) [0, 1, 2] (by decide) rfl
          have hK9 := hK.sub (tys' := [(cJ, .long)]) [0] rfl
          exact W.zret (v := iI 0) hx hb hr (by decide) (fun t ht hW => ⟨⟨iI 0, (p4 x0 0 0 0), rfl, ⟨p4_n5 _ _ _ _, Or.inr ⟨rfl, hno⟩⟩, by rw [ht]; exact hP9, va_K.moved hW.alike hK9, hD9⟩, hS.F ht⟩) hS.2.2 dX2_divides_233
      · refine ix_iconst (n := 0) hx hb dX2_divides_244 ?_
        have hno : ¬ ∃ Q, n5 Q ∧ dvs a b k R Q := by
          rintro ⟨T, hT, hd⟩
          obtain ⟨e4, e3, e2, e1, e0, -, -⟩ := qua_eqs (by omega) hR5 hT hd
          have t2 : T 2 = 0 := mul_cn (b := a) (by omega) (by omega)
          have t1 : T 1 = 0 := mul_cn (b := a) (by omega) (by rw [t2] at e3; omega)
          rw [t1] at e2
          rw [t2] at e2
          exact c20 (tdiv_of (hi := a) (q := T 0) (by omega) (by omega)).1
        have hP9 := hP.sub (ws' := [(x, .inr (2, [.int (iI cd), .ref n, .ref r, .ref d, .int (iI cn), .int (iI fc), .ref ya, .ref yb, .ref yc, .ref yo, .long (lI (X 0)), .long (lI (X 1)), .long (lI (X 2)), .long (lI (X 3)), .long (lI (X 4)), .long (lI (X 5)), .long (lI (X 6))])), (r, .inl (cJ, 5, .inr (.inl (aL R)))), (d, .inl (cJ, 5, .inr (.inl (aL (p4 0 0 0 0)))))]) [0, 1, 2] rfl
        have hD9 := hD.sub (ws' := [(x, .inr (2, [.int (iI cd), .ref n, .ref r, .ref d, .int (iI cn), .int (iI fc), .ref ya, .ref yb, .ref yc, .ref yo, .long (lI (X 0)), .long (lI (X 1)), .long (lI (X 2)), .long (lI (X 3)), .long (lI (X 4)), .long (lI (X 5)), .long (lI (X 6))])), (r, .inl (cJ, 5, .inr (.inl (aL R)))), (d, .inl (cJ, 5, .inr (.inl (aL (p4 0 0 0 0)))))]) [0, 1, 2] (by decide) rfl
        have hK9 := hK.sub (tys' := [(cJ, .long)]) [0] rfl
        exact W.zret (v := iI 0) hx hb hr (by decide) (fun t ht hW => ⟨⟨iI 0, (p4 0 0 0 0), rfl, ⟨p4_n5 _ _ _ _, Or.inr ⟨rfl, hno⟩⟩, by rw [ht]; exact hP9, va_K.moved hW.alike hK9, hD9⟩, hS.F ht⟩) hS.2.2 dX2_divides_245
    · rw [hn] at hl
      have z4 : R 4 = 0 := hdc.2.2.1 4 (by omega) (by omega)
      have b0 : -480 ≤ R 0 ∧ R 0 ≤ 480 := hRb 0
      have b1 : -480 ≤ R 1 ∧ R 1 ≤ 480 := hRb 1
      have b2 : -480 ≤ R 2 ∧ R 2 ≤ 480 := hRb 2
      have b3 : -480 ≤ R 3 ∧ R 3 ≤ 480 := hRb 3
      refine lv_iload hx hb dX2_divides_17 (lv_at hl 0 rfl) ?_
      refine lv_iload hx hb dX2_divides_19 (lv_at hl 1 rfl) ?_
      refine ix_icmp_ge (tgt := 26) hx hb dX2_divides_21 (by decide) (by decide) (by decide) (fun _ => ?_) (fun c36 => absurd c36 (by decide))
      refine ix_iconst (n := 0) hx hb dX2_divides_26 ?_
      refine lv_istore (lv' := [(6, .int (iI 0)), (5, .int (iI 3)), (4, .int (iI 2)), (0, .ref x), (1, .int (iI a)), (2, .int (iI b)), (3, .int (iI k))]) hx hb dX2_divides_27 hl (by decide) rfl (fun ls hl => ?_)
      refine lv_iload hx hb dX2_divides_29 (lv_at hl 0 rfl) ?_
      refine ix_iconst (n := 5) hx hb dX2_divides_31 ?_
      refine ix_icmp_ge (tgt := 49) hx hb dX2_divides_32 (by decide) (by decide) (by decide) (fun c37 => absurd c37 (by decide)) (fun _ => ?_)
      refine lv_aload_n hx hb dX2_divides_35 rfl (lv_at hl 3 rfl) ?_
      refine va_get (D := (dC, dI)) (ci := 2) (v := .ref d) (C := RX2) (T := TX2) (N := 17) hx hb hw inX2 hown hK hP 0 rfl rfl 3 (by decide) (hw _ mA_384) (fun _ h9 => h9) rfl dX2_divides_36 ?_
      refine lv_iload hx hb dX2_divides_39 (lv_at hl 0 rfl) ?_
      refine ix_lconst0 hx hb dX2_divides_41 ?_
      refine ix_last (k := 0) (x := 0) hx hb hK hP hD hS 2 0 rfl rfl (by decide) (by decide) (by decide) dX2_divides_42 (fun H locs hP hD hS => ?_)
      have hP : va_P (dC, dI) vwCl [(x, .inr (2, [.int (iI cd), .ref n, .ref r, .ref d, .int (iI cn), .int (iI fc), .ref ya, .ref yb, .ref yc, .ref yo, .long (lI (X 0)), .long (lI (X 1)), .long (lI (X 2)), .long (lI (X 3)), .long (lI (X 4)), .long (lI (X 5)), .long (lI (X 6))])), (r, .inl (cJ, 5, .inr (.inl (aL R)))), (d, .inl (cJ, 5, .inr (.inl (aL (iu D 0 0)))))] H := hP
      have hD : va_D A [(x, .inr (2, [.int (iI cd), .ref n, .ref r, .ref d, .int (iI cn), .int (iI fc), .ref ya, .ref yb, .ref yc, .ref yo, .long (lI (X 0)), .long (lI (X 1)), .long (lI (X 2)), .long (lI (X 3)), .long (lI (X 4)), .long (lI (X 5)), .long (lI (X 6))])), (r, .inl (cJ, 5, .inr (.inl (aL R)))), (d, .inl (cJ, 5, .inr (.inl (aL (iu D 0 0)))))] := hD
      refine ix_iinc (k := 0) (lv2 := [(6, .int (iI 1)), (5, .int (iI 3)), (4, .int (iI 2)), (0, .ref x), (1, .int (iI a)), (2, .int (iI b)), (3, .int (iI k))]) hx hb dX2_divides_43 hl rfl (by decide) rfl (fun ls hl => ?_)
      refine lv_goto (tgt := 29) hx hb dX2_divides_46 (by decide) ?_
      refine lv_iload hx hb dX2_divides_29 (lv_at hl 0 rfl) ?_
      refine ix_iconst (n := 5) hx hb dX2_divides_31 ?_
      refine ix_icmp_ge (tgt := 49) hx hb dX2_divides_32 (by decide) (by decide) (by decide) (fun c38 => absurd c38 (by decide)) (fun _ => ?_)
      refine lv_aload_n hx hb dX2_divides_35 rfl (lv_at hl 3 rfl) ?_
      refine va_get (D := (dC, dI)) (ci := 2) (v := .ref d) (C := RX2) (T := TX2) (N := 17) hx hb hw inX2 hown hK hP 0 rfl rfl 3 (by decide) (hw _ mA_384) (fun _ h9 => h9) rfl dX2_divides_36 ?_
      refine lv_iload hx hb dX2_divides_39 (lv_at hl 0 rfl) ?_
      refine ix_lconst0 hx hb dX2_divides_41 ?_
      refine ix_last (k := 1) (x := 0) hx hb hK hP hD hS 2 0 rfl rfl (by decide) (by decide) (by decide) dX2_divides_42 (fun H locs hP hD hS => ?_)
      have hP : va_P (dC, dI) vwCl [(x, .inr (2, [.int (iI cd), .ref n, .ref r, .ref d, .int (iI cn), .int (iI fc), .ref ya, .ref yb, .ref yc, .ref yo, .long (lI (X 0)), .long (lI (X 1)), .long (lI (X 2)), .long (lI (X 3)), .long (lI (X 4)), .long (lI (X 5)), .long (lI (X 6))])), (r, .inl (cJ, 5, .inr (.inl (aL R)))), (d, .inl (cJ, 5, .inr (.inl (aL (iu (iu D 0 0) 1 0)))))] H := hP
      have hD : va_D A [(x, .inr (2, [.int (iI cd), .ref n, .ref r, .ref d, .int (iI cn), .int (iI fc), .ref ya, .ref yb, .ref yc, .ref yo, .long (lI (X 0)), .long (lI (X 1)), .long (lI (X 2)), .long (lI (X 3)), .long (lI (X 4)), .long (lI (X 5)), .long (lI (X 6))])), (r, .inl (cJ, 5, .inr (.inl (aL R)))), (d, .inl (cJ, 5, .inr (.inl (aL (iu (iu D 0 0) 1 0)))))] := hD
      refine ix_iinc (k := 0) (lv2 := [(6, .int (iI 2)), (5, .int (iI 3)), (4, .int (iI 2)), (0, .ref x), (1, .int (iI a)), (2, .int (iI b)), (3, .int (iI k))]) hx hb dX2_divides_43 hl rfl (by decide) rfl (fun ls hl => ?_)
      refine lv_goto (tgt := 29) hx hb dX2_divides_46 (by decide) ?_
      refine lv_iload hx hb dX2_divides_29 (lv_at hl 0 rfl) ?_
      refine ix_iconst (n := 5) hx hb dX2_divides_31 ?_
      refine ix_icmp_ge (tgt := 49) hx hb dX2_divides_32 (by decide) (by decide) (by decide) (fun c39 => absurd c39 (by decide)) (fun _ => ?_)
      refine lv_aload_n hx hb dX2_divides_35 rfl (lv_at hl 3 rfl) ?_
      refine va_get (D := (dC, dI)) (ci := 2) (v := .ref d) (C := RX2) (T := TX2) (N := 17) hx hb hw inX2 hown hK hP 0 rfl rfl 3 (by decide) (hw _ mA_384) (fun _ h9 => h9) rfl dX2_divides_36 ?_
      refine lv_iload hx hb dX2_divides_39 (lv_at hl 0 rfl) ?_
      refine ix_lconst0 hx hb dX2_divides_41 ?_
      refine ix_last (k := 2) (x := 0) hx hb hK hP hD hS 2 0 rfl rfl (by decide) (by decide) (by decide) dX2_divides_42 (fun H locs hP hD hS => ?_)
      have hP : va_P (dC, dI) vwCl [(x, .inr (2, [.int (iI cd), .ref n, .ref r, .ref d, .int (iI cn), .int (iI fc), .ref ya, .ref yb, .ref yc, .ref yo, .long (lI (X 0)), .long (lI (X 1)), .long (lI (X 2)), .long (lI (X 3)), .long (lI (X 4)), .long (lI (X 5)), .long (lI (X 6))])), (r, .inl (cJ, 5, .inr (.inl (aL R)))), (d, .inl (cJ, 5, .inr (.inl (aL (iu (iu (iu D 0 0) 1 0) 2 0)))))] H := hP
      have hD : va_D A [(x, .inr (2, [.int (iI cd), .ref n, .ref r, .ref d, .int (iI cn), .int (iI fc), .ref ya, .ref yb, .ref yc, .ref yo, .long (lI (X 0)), .long (lI (X 1)), .long (lI (X 2)), .long (lI (X 3)), .long (lI (X 4)), .long (lI (X 5)), .long (lI (X 6))])), (r, .inl (cJ, 5, .inr (.inl (aL R)))), (d, .inl (cJ, 5, .inr (.inl (aL (iu (iu (iu D 0 0) 1 0) 2 0)))))] := hD
      refine ix_iinc (k := 0) (lv2 := [(6, .int (iI 3)), (5, .int (iI 3)), (4, .int (iI 2)), (0, .ref x), (1, .int (iI a)), (2, .int (iI b)), (3, .int (iI k))]) hx hb dX2_divides_43 hl rfl (by decide) rfl (fun ls hl => ?_)
      refine lv_goto (tgt := 29) hx hb dX2_divides_46 (by decide) ?_
      refine lv_iload hx hb dX2_divides_29 (lv_at hl 0 rfl) ?_
      refine ix_iconst (n := 5) hx hb dX2_divides_31 ?_
      refine ix_icmp_ge (tgt := 49) hx hb dX2_divides_32 (by decide) (by decide) (by decide) (fun c40 => absurd c40 (by decide)) (fun _ => ?_)
      refine lv_aload_n hx hb dX2_divides_35 rfl (lv_at hl 3 rfl) ?_
      refine va_get (D := (dC, dI)) (ci := 2) (v := .ref d) (C := RX2) (T := TX2) (N := 17) hx hb hw inX2 hown hK hP 0 rfl rfl 3 (by decide) (hw _ mA_384) (fun _ h9 => h9) rfl dX2_divides_36 ?_
      refine lv_iload hx hb dX2_divides_39 (lv_at hl 0 rfl) ?_
      refine ix_lconst0 hx hb dX2_divides_41 ?_
      refine ix_last (k := 3) (x := 0) hx hb hK hP hD hS 2 0 rfl rfl (by decide) (by decide) (by decide) dX2_divides_42 (fun H locs hP hD hS => ?_)
      have hP : va_P (dC, dI) vwCl [(x, .inr (2, [.int (iI cd), .ref n, .ref r, .ref d, .int (iI cn), .int (iI fc), .ref ya, .ref yb, .ref yc, .ref yo, .long (lI (X 0)), .long (lI (X 1)), .long (lI (X 2)), .long (lI (X 3)), .long (lI (X 4)), .long (lI (X 5)), .long (lI (X 6))])), (r, .inl (cJ, 5, .inr (.inl (aL R)))), (d, .inl (cJ, 5, .inr (.inl (aL (iu (iu (iu (iu D 0 0) 1 0) 2 0) 3 0)))))] H := hP
      have hD : va_D A [(x, .inr (2, [.int (iI cd), .ref n, .ref r, .ref d, .int (iI cn), .int (iI fc), .ref ya, .ref yb, .ref yc, .ref yo, .long (lI (X 0)), .long (lI (X 1)), .long (lI (X 2)), .long (lI (X 3)), .long (lI (X 4)), .long (lI (X 5)), .long (lI (X 6))])), (r, .inl (cJ, 5, .inr (.inl (aL R)))), (d, .inl (cJ, 5, .inr (.inl (aL (iu (iu (iu (iu D 0 0) 1 0) 2 0) 3 0)))))] := hD
      refine ix_iinc (k := 0) (lv2 := [(6, .int (iI 4)), (5, .int (iI 3)), (4, .int (iI 2)), (0, .ref x), (1, .int (iI a)), (2, .int (iI b)), (3, .int (iI k))]) hx hb dX2_divides_43 hl rfl (by decide) rfl (fun ls hl => ?_)
      refine lv_goto (tgt := 29) hx hb dX2_divides_46 (by decide) ?_
      refine lv_iload hx hb dX2_divides_29 (lv_at hl 0 rfl) ?_
      refine ix_iconst (n := 5) hx hb dX2_divides_31 ?_
      refine ix_icmp_ge (tgt := 49) hx hb dX2_divides_32 (by decide) (by decide) (by decide) (fun c41 => absurd c41 (by decide)) (fun _ => ?_)
      refine lv_aload_n hx hb dX2_divides_35 rfl (lv_at hl 3 rfl) ?_
      refine va_get (D := (dC, dI)) (ci := 2) (v := .ref d) (C := RX2) (T := TX2) (N := 17) hx hb hw inX2 hown hK hP 0 rfl rfl 3 (by decide) (hw _ mA_384) (fun _ h9 => h9) rfl dX2_divides_36 ?_
      refine lv_iload hx hb dX2_divides_39 (lv_at hl 0 rfl) ?_
      refine ix_lconst0 hx hb dX2_divides_41 ?_
      refine ix_last (k := 4) (x := 0) hx hb hK hP hD hS 2 0 rfl rfl (by decide) (by decide) (by decide) dX2_divides_42 (fun H locs hP hD hS => ?_)
      have hP : va_P (dC, dI) vwCl [(x, .inr (2, [.int (iI cd), .ref n, .ref r, .ref d, .int (iI cn), .int (iI fc), .ref ya, .ref yb, .ref yc, .ref yo, .long (lI (X 0)), .long (lI (X 1)), .long (lI (X 2)), .long (lI (X 3)), .long (lI (X 4)), .long (lI (X 5)), .long (lI (X 6))])), (r, .inl (cJ, 5, .inr (.inl (aL R)))), (d, .inl (cJ, 5, .inr (.inl (aL (iu (iu (iu (iu (iu D 0 0) 1 0) 2 0) 3 0) 4 0)))))] H := hP
      have hD : va_D A [(x, .inr (2, [.int (iI cd), .ref n, .ref r, .ref d, .int (iI cn), .int (iI fc), .ref ya, .ref yb, .ref yc, .ref yo, .long (lI (X 0)), .long (lI (X 1)), .long (lI (X 2)), .long (lI (X 3)), .long (lI (X 4)), .long (lI (X 5)), .long (lI (X 6))])), (r, .inl (cJ, 5, .inr (.inl (aL R)))), (d, .inl (cJ, 5, .inr (.inl (aL (iu (iu (iu (iu (iu D 0 0) 1 0) 2 0) 3 0) 4 0)))))] := hD
      refine ix_iinc (k := 0) (lv2 := [(6, .int (iI 5)), (5, .int (iI 3)), (4, .int (iI 2)), (0, .ref x), (1, .int (iI a)), (2, .int (iI b)), (3, .int (iI k))]) hx hb dX2_divides_43 hl rfl (by decide) rfl (fun ls hl => ?_)
      refine lv_goto (tgt := 29) hx hb dX2_divides_46 (by decide) ?_
      refine lv_iload hx hb dX2_divides_29 (lv_at hl 0 rfl) ?_
      refine ix_iconst (n := 5) hx hb dX2_divides_31 ?_
      refine ix_icmp_ge (tgt := 49) hx hb dX2_divides_32 (by decide) (by decide) (by decide) (fun _ => ?_) (fun c42 => absurd c42 (by decide))
      rw [p4_z hD5] at hP hD
      refine lv_iload hx hb dX2_divides_49 (lv_at hl 1 rfl) ?_
      refine lv_istore (lv' := [(6, .int (iI 3)), (5, .int (iI 3)), (4, .int (iI 2)), (0, .ref x), (1, .int (iI a)), (2, .int (iI b)), (3, .int (iI k))]) hx hb dX2_divides_51 hl (by decide) rfl (fun ls hl => ?_)
      refine lv_iload hx hb dX2_divides_53 (lv_at hl 0 rfl) ?_
      refine ix_if_lt (tgt := 266) hx hb dX2_divides_55 (by decide) (by decide) (fun c43 => absurd c43 (by decide)) (fun _ => ?_)
      refine lv_aload_n hx hb dX2_divides_58 rfl (lv_at hl 3 rfl) ?_
      refine va_get (D := (dC, dI)) (ci := 2) (v := .ref r) (C := RX2) (T := TX2) (N := 17) hx hb hw inX2 hown hK hP 0 rfl rfl 2 (by decide) (hw _ mA_383) (fun _ h9 => h9) rfl dX2_divides_59 ?_
      refine lv_iload hx hb dX2_divides_62 (lv_at hl 0 rfl) ?_
      refine ix_lald (k := 3) hx hb hK hP 1 0 rfl rfl (by decide) (by decide) (by decide) dX2_divides_64 ?_
      refine lv_lstore (lv' := [(7, .long (lI (R 3))), (6, .int (iI 3)), (5, .int (iI 3)), (4, .int (iI 2)), (0, .ref x), (1, .int (iI a)), (2, .int (iI b)), (3, .int (iI k))]) hx hb dX2_divides_65 hl (by decide) rfl (fun ls hl => ?_)
      refine lv_iload hx hb dX2_divides_67 (lv_at hl 3 rfl) ?_
      refine ix_iconst (n := 1) hx hb dX2_divides_69 ?_
      refine ix_icmp_ne (tgt := 142) hx hb dX2_divides_70 (by decide) (by decide) (by decide) (fun _ => ?_) (fun c44 => absurd c44 (by decide))
      refine lv_iload hx hb dX2_divides_142 (lv_at hl 1 rfl) ?_
      refine ix_iconst (n := 1) hx hb dX2_divides_144 ?_
      refine ix_isub hx hb dX2_divides_145 ?_
      refine ix_z (y := 2) rfl ?_
      refine ix_if_lt (tgt := 173) hx hb dX2_divides_146 (by decide) (by decide) (fun c45 => absurd c45 (by decide)) (fun _ => ?_)
      refine lv_iload hx hb dX2_divides_149 (lv_at hl 1 rfl) ?_
      refine lv_iload hx hb dX2_divides_151 (lv_at hl 2 rfl) ?_
      refine ix_icmp_ge (tgt := 173) hx hb dX2_divides_153 (by decide) (by decide) (by decide) (fun _ => ?_) (fun c46 => absurd c46 (by decide))
      refine lv_iload hx hb dX2_divides_173 (lv_at hl 1 rfl) ?_
      refine ix_if_ne (tgt := 195) hx hb dX2_divides_175 (by decide) (by decide) (fun _ => ?_) (fun c47 => absurd c47 (by decide))
      refine lv_iload hx hb dX2_divides_195 (lv_at hl 1 rfl) ?_
      refine lv_iload hx hb dX2_divides_197 (lv_at hl 2 rfl) ?_
      refine ix_iconst (n := 2) hx hb dX2_divides_199 ?_
      refine ix_isub hx hb dX2_divides_200 ?_
      refine ix_z (y := 1) rfl ?_
      refine ix_icmp_gt (tgt := 219) hx hb dX2_divides_201 (by decide) (by decide) (by decide) (fun _ => ?_) (fun c48 => absurd c48 (by decide))
      refine lv_iload hx hb dX2_divides_219 (lv_at hl 1 rfl) ?_
      refine ix_iconst (n := 2) hx hb dX2_divides_221 ?_
      refine ix_icmp_ge (tgt := 234) hx hb dX2_divides_222 (by decide) (by decide) (by decide) (fun _ => ?_) (fun c49 => absurd c49 (by decide))
      refine lv_lload hx hb dX2_divides_234 (lv_at hl 0 rfl) ?_
      refine lv_iload_n hx hb dX2_divides_236 rfl (lv_at hl 5 rfl) ?_
      refine ix_i2l hx hb dX2_divides_237 (by omega) ?_
      refine ix_lrem hx hb dX2_divides_238 (by omega) (by omega) (by omega) ?_
      refine ix_lconst0 hx hb dX2_divides_239 ?_
      refine ix_lc_eq (tgt := 246) hx hb dX2_divides_240 dX2_divides_241 (by decide) (by have := tmod_in (x := (R 3)) (y := a) (A := 100000000000000) (by omega); omega) (by decide) (fun c50 => ?_) (fun c50 => ?_)
      · refine lv_aload_n hx hb dX2_divides_246 rfl (lv_at hl 4 rfl) ?_
        refine va_get (D := (dC, dI)) (ci := 2) (v := .ref d) (C := RX2) (T := TX2) (N := 17) hx hb hw inX2 hown hK hP 0 rfl rfl 3 (by decide) (hw _ mA_384) (fun _ h9 => h9) rfl dX2_divides_247 ?_
        refine lv_iload hx hb dX2_divides_250 (lv_at hl 1 rfl) ?_
        refine ix_iconst (n := 2) hx hb dX2_divides_252 ?_
        refine ix_isub hx hb dX2_divides_253 ?_
        refine ix_z (y := 1) rfl ?_
        refine lv_lload hx hb dX2_divides_254 (lv_at hl 0 rfl) ?_
        refine lv_iload_n hx hb dX2_divides_256 rfl (lv_at hl 5 rfl) ?_
        refine ix_i2l hx hb dX2_divides_257 (by omega) ?_
        refine ix_ldiv hx hb dX2_divides_258 (by omega) (by omega) (by omega) (by omega) ?_
        have f1 : a * Int.tdiv (R 3) a = R 3 := tdiv_mul (by omega)
        have bx1 := tdiv_in (x := R 3) (y := a) (A := 480) (by omega)
        generalize Int.tdiv (R 3) a = x1 at f1 bx1 ⊢
        refine ix_last (k := 1) (x := x1) hx hb hK hP hD hS 2 0 rfl rfl (by decide) (by decide) (by decide) dX2_divides_259 (fun H locs hP hD hS => ?_)
        have hP : va_P (dC, dI) vwCl [(x, .inr (2, [.int (iI cd), .ref n, .ref r, .ref d, .int (iI cn), .int (iI fc), .ref ya, .ref yb, .ref yc, .ref yo, .long (lI (X 0)), .long (lI (X 1)), .long (lI (X 2)), .long (lI (X 3)), .long (lI (X 4)), .long (lI (X 5)), .long (lI (X 6))])), (r, .inl (cJ, 5, .inr (.inl (aL R)))), (d, .inl (cJ, 5, .inr (.inl (aL (iu (p4 0 0 0 0) 1 x1)))))] H := hP
        have hD : va_D A [(x, .inr (2, [.int (iI cd), .ref n, .ref r, .ref d, .int (iI cn), .int (iI fc), .ref ya, .ref yb, .ref yc, .ref yo, .long (lI (X 0)), .long (lI (X 1)), .long (lI (X 2)), .long (lI (X 3)), .long (lI (X 4)), .long (lI (X 5)), .long (lI (X 6))])), (r, .inl (cJ, 5, .inr (.inl (aL R)))), (d, .inl (cJ, 5, .inr (.inl (aL (iu (p4 0 0 0 0) 1 x1)))))] := hD
        rw [p4_1] at hP hD
        refine ix_iinc (k := 1) (lv2 := [(6, .int (iI 2)), (7, .long (lI (R 3))), (5, .int (iI 3)), (4, .int (iI 2)), (0, .ref x), (1, .int (iI a)), (2, .int (iI b)), (3, .int (iI k))]) hx hb dX2_divides_260 hl rfl (by decide) rfl (fun ls hl => ?_)
        refine lv_goto (tgt := 53) hx hb dX2_divides_263 (by decide) ?_
        refine lv_iload hx hb dX2_divides_53 (lv_at hl 0 rfl) ?_
        refine ix_if_lt (tgt := 266) hx hb dX2_divides_55 (by decide) (by decide) (fun c51 => absurd c51 (by decide)) (fun _ => ?_)
        refine lv_aload_n hx hb dX2_divides_58 rfl (lv_at hl 4 rfl) ?_
        refine va_get (D := (dC, dI)) (ci := 2) (v := .ref r) (C := RX2) (T := TX2) (N := 17) hx hb hw inX2 hown hK hP 0 rfl rfl 2 (by decide) (hw _ mA_383) (fun _ h9 => h9) rfl dX2_divides_59 ?_
        refine lv_iload hx hb dX2_divides_62 (lv_at hl 0 rfl) ?_
        refine ix_lald (k := 2) hx hb hK hP 1 0 rfl rfl (by decide) (by decide) (by decide) dX2_divides_64 ?_
        refine lv_lstore (lv' := [(7, .long (lI (R 2))), (6, .int (iI 2)), (5, .int (iI 3)), (4, .int (iI 2)), (0, .ref x), (1, .int (iI a)), (2, .int (iI b)), (3, .int (iI k))]) hx hb dX2_divides_65 hl (by decide) rfl (fun ls hl => ?_)
        refine lv_iload hx hb dX2_divides_67 (lv_at hl 3 rfl) ?_
        refine ix_iconst (n := 1) hx hb dX2_divides_69 ?_
        refine ix_icmp_ne (tgt := 142) hx hb dX2_divides_70 (by decide) (by decide) (by decide) (fun _ => ?_) (fun c52 => absurd c52 (by decide))
        refine lv_iload hx hb dX2_divides_142 (lv_at hl 1 rfl) ?_
        refine ix_iconst (n := 1) hx hb dX2_divides_144 ?_
        refine ix_isub hx hb dX2_divides_145 ?_
        refine ix_z (y := 1) rfl ?_
        refine ix_if_lt (tgt := 173) hx hb dX2_divides_146 (by decide) (by decide) (fun c53 => absurd c53 (by decide)) (fun _ => ?_)
        refine lv_iload hx hb dX2_divides_149 (lv_at hl 1 rfl) ?_
        refine lv_iload hx hb dX2_divides_151 (lv_at hl 2 rfl) ?_
        refine ix_icmp_ge (tgt := 173) hx hb dX2_divides_153 (by decide) (by decide) (by decide) (fun c54 => absurd c54 (by decide)) (fun _ => ?_)
        refine lv_lload hx hb dX2_divides_156 (lv_at hl 0 rfl) ?_
        refine lv_iload_n hx hb dX2_divides_158 rfl (lv_at hl 6 rfl) ?_
        refine ix_i2l hx hb dX2_divides_159 (by omega) ?_
        refine lv_aload_n hx hb dX2_divides_160 rfl (lv_at hl 4 rfl) ?_
        refine va_get (D := (dC, dI)) (ci := 2) (v := .ref d) (C := RX2) (T := TX2) (N := 17) hx hb hw inX2 hown hK hP 0 rfl rfl 3 (by decide) (hw _ mA_384) (fun _ h9 => h9) rfl dX2_divides_161 ?_
        refine lv_iload hx hb dX2_divides_164 (lv_at hl 1 rfl) ?_
        refine ix_iconst (n := 1) hx hb dX2_divides_166 ?_
        refine ix_isub hx hb dX2_divides_167 ?_
        refine ix_z (y := 1) rfl ?_
        refine ix_lald (k := 1) hx hb hK hP 2 0 rfl rfl (by decide) (by decide) (by decide) dX2_divides_168 ?_
        refine ix_zl (y := x1) rfl ?_
        refine ix_lmul hx hb dX2_divides_169 ?_
        have mbx1 := mul_in (x := b) (y := x1) (A := 240) (B := 480) hb9 bx1 (by decide) (by decide)
        refine ix_lsub hx hb dX2_divides_170 ?_
        refine lv_lstore (lv' := [(7, .long (lI ((R 2) - (b * x1)))), (6, .int (iI 2)), (5, .int (iI 3)), (4, .int (iI 2)), (0, .ref x), (1, .int (iI a)), (2, .int (iI b)), (3, .int (iI k))]) hx hb dX2_divides_171 hl (by decide) rfl (fun ls hl => ?_)
        refine lv_iload hx hb dX2_divides_173 (lv_at hl 1 rfl) ?_
        refine ix_if_ne (tgt := 195) hx hb dX2_divides_175 (by decide) (by decide) (fun _ => ?_) (fun c55 => absurd c55 (by decide))
        refine lv_iload hx hb dX2_divides_195 (lv_at hl 1 rfl) ?_
        refine lv_iload hx hb dX2_divides_197 (lv_at hl 2 rfl) ?_
        refine ix_iconst (n := 2) hx hb dX2_divides_199 ?_
        refine ix_isub hx hb dX2_divides_200 ?_
        refine ix_z (y := 1) rfl ?_
        refine ix_icmp_gt (tgt := 219) hx hb dX2_divides_201 (by decide) (by decide) (by decide) (fun _ => ?_) (fun c56 => absurd c56 (by decide))
        refine lv_iload hx hb dX2_divides_219 (lv_at hl 1 rfl) ?_
        refine ix_iconst (n := 2) hx hb dX2_divides_221 ?_
        refine ix_icmp_ge (tgt := 234) hx hb dX2_divides_222 (by decide) (by decide) (by decide) (fun _ => ?_) (fun c57 => absurd c57 (by decide))
        refine lv_lload hx hb dX2_divides_234 (lv_at hl 0 rfl) ?_
        refine lv_iload_n hx hb dX2_divides_236 rfl (lv_at hl 5 rfl) ?_
        refine ix_i2l hx hb dX2_divides_237 (by omega) ?_
        refine ix_lrem hx hb dX2_divides_238 (by omega) (by omega) (by omega) ?_
        refine ix_lconst0 hx hb dX2_divides_239 ?_
        refine ix_lc_eq (tgt := 246) hx hb dX2_divides_240 dX2_divides_241 (by decide) (by have := tmod_in (x := ((R 2) - (b * x1))) (y := a) (A := 100000000000000) (by omega); omega) (by decide) (fun c58 => ?_) (fun c58 => ?_)
        · refine lv_aload_n hx hb dX2_divides_246 rfl (lv_at hl 4 rfl) ?_
          refine va_get (D := (dC, dI)) (ci := 2) (v := .ref d) (C := RX2) (T := TX2) (N := 17) hx hb hw inX2 hown hK hP 0 rfl rfl 3 (by decide) (hw _ mA_384) (fun _ h9 => h9) rfl dX2_divides_247 ?_
          refine lv_iload hx hb dX2_divides_250 (lv_at hl 1 rfl) ?_
          refine ix_iconst (n := 2) hx hb dX2_divides_252 ?_
          refine ix_isub hx hb dX2_divides_253 ?_
          refine ix_z (y := 0) rfl ?_
          refine lv_lload hx hb dX2_divides_254 (lv_at hl 0 rfl) ?_
          refine lv_iload_n hx hb dX2_divides_256 rfl (lv_at hl 5 rfl) ?_
          refine ix_i2l hx hb dX2_divides_257 (by omega) ?_
          refine ix_ldiv hx hb dX2_divides_258 (by omega) (by omega) (by omega) (by omega) ?_
          have f0 : a * Int.tdiv ((R 2) - (b * x1)) a = (R 2) - (b * x1) := tdiv_mul (by omega)
          have bx0 := tdiv_in (x := (R 2) - (b * x1)) (y := a) (A := 115680) (by omega)
          generalize Int.tdiv ((R 2) - (b * x1)) a = x0 at f0 bx0 ⊢
          refine ix_last (k := 0) (x := x0) hx hb hK hP hD hS 2 0 rfl rfl (by decide) (by decide) (by decide) dX2_divides_259 (fun H locs hP hD hS => ?_)
          have hP : va_P (dC, dI) vwCl [(x, .inr (2, [.int (iI cd), .ref n, .ref r, .ref d, .int (iI cn), .int (iI fc), .ref ya, .ref yb, .ref yc, .ref yo, .long (lI (X 0)), .long (lI (X 1)), .long (lI (X 2)), .long (lI (X 3)), .long (lI (X 4)), .long (lI (X 5)), .long (lI (X 6))])), (r, .inl (cJ, 5, .inr (.inl (aL R)))), (d, .inl (cJ, 5, .inr (.inl (aL (iu (p4 0 x1 0 0) 0 x0)))))] H := hP
          have hD : va_D A [(x, .inr (2, [.int (iI cd), .ref n, .ref r, .ref d, .int (iI cn), .int (iI fc), .ref ya, .ref yb, .ref yc, .ref yo, .long (lI (X 0)), .long (lI (X 1)), .long (lI (X 2)), .long (lI (X 3)), .long (lI (X 4)), .long (lI (X 5)), .long (lI (X 6))])), (r, .inl (cJ, 5, .inr (.inl (aL R)))), (d, .inl (cJ, 5, .inr (.inl (aL (iu (p4 0 x1 0 0) 0 x0)))))] := hD
          rw [p4_0] at hP hD
          refine ix_iinc (k := 1) (lv2 := [(6, .int (iI 1)), (7, .long (lI ((R 2) - (b * x1)))), (5, .int (iI 3)), (4, .int (iI 2)), (0, .ref x), (1, .int (iI a)), (2, .int (iI b)), (3, .int (iI k))]) hx hb dX2_divides_260 hl rfl (by decide) rfl (fun ls hl => ?_)
          refine lv_goto (tgt := 53) hx hb dX2_divides_263 (by decide) ?_
          refine lv_iload hx hb dX2_divides_53 (lv_at hl 0 rfl) ?_
          refine ix_if_lt (tgt := 266) hx hb dX2_divides_55 (by decide) (by decide) (fun c59 => absurd c59 (by decide)) (fun _ => ?_)
          refine lv_aload_n hx hb dX2_divides_58 rfl (lv_at hl 4 rfl) ?_
          refine va_get (D := (dC, dI)) (ci := 2) (v := .ref r) (C := RX2) (T := TX2) (N := 17) hx hb hw inX2 hown hK hP 0 rfl rfl 2 (by decide) (hw _ mA_383) (fun _ h9 => h9) rfl dX2_divides_59 ?_
          refine lv_iload hx hb dX2_divides_62 (lv_at hl 0 rfl) ?_
          refine ix_lald (k := 1) hx hb hK hP 1 0 rfl rfl (by decide) (by decide) (by decide) dX2_divides_64 ?_
          refine lv_lstore (lv' := [(7, .long (lI (R 1))), (6, .int (iI 1)), (5, .int (iI 3)), (4, .int (iI 2)), (0, .ref x), (1, .int (iI a)), (2, .int (iI b)), (3, .int (iI k))]) hx hb dX2_divides_65 hl (by decide) rfl (fun ls hl => ?_)
          refine lv_iload hx hb dX2_divides_67 (lv_at hl 3 rfl) ?_
          refine ix_iconst (n := 1) hx hb dX2_divides_69 ?_
          refine ix_icmp_ne (tgt := 142) hx hb dX2_divides_70 (by decide) (by decide) (by decide) (fun _ => ?_) (fun c60 => absurd c60 (by decide))
          refine lv_iload hx hb dX2_divides_142 (lv_at hl 1 rfl) ?_
          refine ix_iconst (n := 1) hx hb dX2_divides_144 ?_
          refine ix_isub hx hb dX2_divides_145 ?_
          refine ix_z (y := 0) rfl ?_
          refine ix_if_lt (tgt := 173) hx hb dX2_divides_146 (by decide) (by decide) (fun c61 => absurd c61 (by decide)) (fun _ => ?_)
          refine lv_iload hx hb dX2_divides_149 (lv_at hl 1 rfl) ?_
          refine lv_iload hx hb dX2_divides_151 (lv_at hl 2 rfl) ?_
          refine ix_icmp_ge (tgt := 173) hx hb dX2_divides_153 (by decide) (by decide) (by decide) (fun c62 => absurd c62 (by decide)) (fun _ => ?_)
          refine lv_lload hx hb dX2_divides_156 (lv_at hl 0 rfl) ?_
          refine lv_iload_n hx hb dX2_divides_158 rfl (lv_at hl 6 rfl) ?_
          refine ix_i2l hx hb dX2_divides_159 (by omega) ?_
          refine lv_aload_n hx hb dX2_divides_160 rfl (lv_at hl 4 rfl) ?_
          refine va_get (D := (dC, dI)) (ci := 2) (v := .ref d) (C := RX2) (T := TX2) (N := 17) hx hb hw inX2 hown hK hP 0 rfl rfl 3 (by decide) (hw _ mA_384) (fun _ h9 => h9) rfl dX2_divides_161 ?_
          refine lv_iload hx hb dX2_divides_164 (lv_at hl 1 rfl) ?_
          refine ix_iconst (n := 1) hx hb dX2_divides_166 ?_
          refine ix_isub hx hb dX2_divides_167 ?_
          refine ix_z (y := 0) rfl ?_
          refine ix_lald (k := 0) hx hb hK hP 2 0 rfl rfl (by decide) (by decide) (by decide) dX2_divides_168 ?_
          refine ix_zl (y := x0) rfl ?_
          refine ix_lmul hx hb dX2_divides_169 ?_
          have mbx0 := mul_in (x := b) (y := x0) (A := 240) (B := 115680) hb9 bx0 (by decide) (by decide)
          refine ix_lsub hx hb dX2_divides_170 ?_
          refine lv_lstore (lv' := [(7, .long (lI ((R 1) - (b * x0)))), (6, .int (iI 1)), (5, .int (iI 3)), (4, .int (iI 2)), (0, .ref x), (1, .int (iI a)), (2, .int (iI b)), (3, .int (iI k))]) hx hb dX2_divides_171 hl (by decide) rfl (fun ls hl => ?_)
          refine lv_iload hx hb dX2_divides_173 (lv_at hl 1 rfl) ?_
          refine ix_if_ne (tgt := 195) hx hb dX2_divides_175 (by decide) (by decide) (fun _ => ?_) (fun c63 => absurd c63 (by decide))
          refine lv_iload hx hb dX2_divides_195 (lv_at hl 1 rfl) ?_
          refine lv_iload hx hb dX2_divides_197 (lv_at hl 2 rfl) ?_
          refine ix_iconst (n := 2) hx hb dX2_divides_199 ?_
          refine ix_isub hx hb dX2_divides_200 ?_
          refine ix_z (y := 1) rfl ?_
          refine ix_icmp_gt (tgt := 219) hx hb dX2_divides_201 (by decide) (by decide) (by decide) (fun c64 => absurd c64 (by decide)) (fun _ => ?_)
          refine lv_lload hx hb dX2_divides_204 (lv_at hl 0 rfl) ?_
          refine lv_iload_n hx hb dX2_divides_206 rfl (lv_at hl 7 rfl) ?_
          refine ix_i2l hx hb dX2_divides_207 (by omega) ?_
          refine lv_aload_n hx hb dX2_divides_208 rfl (lv_at hl 4 rfl) ?_
          refine va_get (D := (dC, dI)) (ci := 2) (v := .ref d) (C := RX2) (T := TX2) (N := 17) hx hb hw inX2 hown hK hP 0 rfl rfl 3 (by decide) (hw _ mA_384) (fun _ h9 => h9) rfl dX2_divides_209 ?_
          refine lv_iload hx hb dX2_divides_212 (lv_at hl 1 rfl) ?_
          refine ix_lald (k := 1) hx hb hK hP 2 0 rfl rfl (by decide) (by decide) (by decide) dX2_divides_214 ?_
          refine ix_zl (y := x1) rfl ?_
          refine ix_lmul hx hb dX2_divides_215 ?_
          have mkx1 := mul_in (x := k) (y := x1) (A := 240) (B := 480) hk9 bx1 (by decide) (by decide)
          refine ix_lsub hx hb dX2_divides_216 ?_
          refine lv_lstore (lv' := [(7, .long (lI (((R 1) - (b * x0)) - (k * x1)))), (6, .int (iI 1)), (5, .int (iI 3)), (4, .int (iI 2)), (0, .ref x), (1, .int (iI a)), (2, .int (iI b)), (3, .int (iI k))]) hx hb dX2_divides_217 hl (by decide) rfl (fun ls hl => ?_)
          refine lv_iload hx hb dX2_divides_219 (lv_at hl 1 rfl) ?_
          refine ix_iconst (n := 2) hx hb dX2_divides_221 ?_
          refine ix_icmp_ge (tgt := 234) hx hb dX2_divides_222 (by decide) (by decide) (by decide) (fun c65 => absurd c65 (by decide)) (fun _ => ?_)
          refine lv_lload hx hb dX2_divides_225 (lv_at hl 0 rfl) ?_
          refine ix_lconst0 hx hb dX2_divides_227 ?_
          refine ix_lc_eq (tgt := 260) hx hb dX2_divides_228 dX2_divides_229 (by decide) (by omega) (by decide) (fun c66 => ?_) (fun c66 => ?_)
          · refine ix_iinc (k := 1) (lv2 := [(6, .int (iI 0)), (7, .long (lI (((R 1) - (b * x0)) - (k * x1)))), (5, .int (iI 3)), (4, .int (iI 2)), (0, .ref x), (1, .int (iI a)), (2, .int (iI b)), (3, .int (iI k))]) hx hb dX2_divides_260 hl rfl (by decide) rfl (fun ls hl => ?_)
            refine lv_goto (tgt := 53) hx hb dX2_divides_263 (by decide) ?_
            refine lv_iload hx hb dX2_divides_53 (lv_at hl 0 rfl) ?_
            refine ix_if_lt (tgt := 266) hx hb dX2_divides_55 (by decide) (by decide) (fun c67 => absurd c67 (by decide)) (fun _ => ?_)
            refine lv_aload_n hx hb dX2_divides_58 rfl (lv_at hl 4 rfl) ?_
            refine va_get (D := (dC, dI)) (ci := 2) (v := .ref r) (C := RX2) (T := TX2) (N := 17) hx hb hw inX2 hown hK hP 0 rfl rfl 2 (by decide) (hw _ mA_383) (fun _ h9 => h9) rfl dX2_divides_59 ?_
            refine lv_iload hx hb dX2_divides_62 (lv_at hl 0 rfl) ?_
            refine ix_lald (k := 0) hx hb hK hP 1 0 rfl rfl (by decide) (by decide) (by decide) dX2_divides_64 ?_
            refine lv_lstore (lv' := [(7, .long (lI (R 0))), (6, .int (iI 0)), (5, .int (iI 3)), (4, .int (iI 2)), (0, .ref x), (1, .int (iI a)), (2, .int (iI b)), (3, .int (iI k))]) hx hb dX2_divides_65 hl (by decide) rfl (fun ls hl => ?_)
            refine lv_iload hx hb dX2_divides_67 (lv_at hl 3 rfl) ?_
            refine ix_iconst (n := 1) hx hb dX2_divides_69 ?_
            refine ix_icmp_ne (tgt := 142) hx hb dX2_divides_70 (by decide) (by decide) (by decide) (fun _ => ?_) (fun c68 => absurd c68 (by decide))
            refine lv_iload hx hb dX2_divides_142 (lv_at hl 1 rfl) ?_
            refine ix_iconst (n := 1) hx hb dX2_divides_144 ?_
            refine ix_isub hx hb dX2_divides_145 ?_
            refine ix_z (y := (-1)) rfl ?_
            refine ix_if_lt (tgt := 173) hx hb dX2_divides_146 (by decide) (by decide) (fun _ => ?_) (fun c69 => absurd c69 (by decide))
            refine lv_iload hx hb dX2_divides_173 (lv_at hl 1 rfl) ?_
            refine ix_if_ne (tgt := 195) hx hb dX2_divides_175 (by decide) (by decide) (fun c70 => absurd c70 (by decide)) (fun _ => ?_)
            refine lv_lload hx hb dX2_divides_178 (lv_at hl 0 rfl) ?_
            refine lv_iload_n hx hb dX2_divides_180 rfl (lv_at hl 7 rfl) ?_
            refine ix_i2l hx hb dX2_divides_181 (by omega) ?_
            refine lv_aload_n hx hb dX2_divides_182 rfl (lv_at hl 4 rfl) ?_
            refine va_get (D := (dC, dI)) (ci := 2) (v := .ref d) (C := RX2) (T := TX2) (N := 17) hx hb hw inX2 hown hK hP 0 rfl rfl 3 (by decide) (hw _ mA_384) (fun _ h9 => h9) rfl dX2_divides_183 ?_
            refine ix_iconst (n := 0) hx hb dX2_divides_186 ?_
            refine ix_lald (k := 0) hx hb hK hP 2 0 rfl rfl (by decide) (by decide) (by decide) dX2_divides_187 ?_
            refine ix_zl (y := x0) rfl ?_
            refine ix_lmul hx hb dX2_divides_188 ?_
            have mkx0 := mul_in (x := k) (y := x0) (A := 240) (B := 115680) hk9 bx0 (by decide) (by decide)
            refine ix_lsub hx hb dX2_divides_189 ?_
            refine lv_lstore (lv' := [(7, .long (lI ((R 0) - (k * x0)))), (6, .int (iI 0)), (5, .int (iI 3)), (4, .int (iI 2)), (0, .ref x), (1, .int (iI a)), (2, .int (iI b)), (3, .int (iI k))]) hx hb dX2_divides_190 hl (by decide) rfl (fun ls hl => ?_)
            refine lv_goto (tgt := 219) hx hb dX2_divides_192 (by decide) ?_
            refine lv_iload hx hb dX2_divides_219 (lv_at hl 1 rfl) ?_
            refine ix_iconst (n := 2) hx hb dX2_divides_221 ?_
            refine ix_icmp_ge (tgt := 234) hx hb dX2_divides_222 (by decide) (by decide) (by decide) (fun c71 => absurd c71 (by decide)) (fun _ => ?_)
            refine lv_lload hx hb dX2_divides_225 (lv_at hl 0 rfl) ?_
            refine ix_lconst0 hx hb dX2_divides_227 ?_
            refine ix_lc_eq (tgt := 260) hx hb dX2_divides_228 dX2_divides_229 (by decide) (by omega) (by decide) (fun c72 => ?_) (fun c72 => ?_)
            · refine ix_iinc (k := 1) (lv2 := [(6, .int (iI (-1))), (7, .long (lI ((R 0) - (k * x0)))), (5, .int (iI 3)), (4, .int (iI 2)), (0, .ref x), (1, .int (iI a)), (2, .int (iI b)), (3, .int (iI k))]) hx hb dX2_divides_260 hl rfl (by decide) rfl (fun ls hl => ?_)
              refine lv_goto (tgt := 53) hx hb dX2_divides_263 (by decide) ?_
              refine lv_iload hx hb dX2_divides_53 (lv_at hl 0 rfl) ?_
              refine ix_if_lt (tgt := 266) hx hb dX2_divides_55 (by decide) (by decide) (fun _ => ?_) (fun c73 => absurd c73 (by decide))
              refine ix_iconst (n := 1) hx hb dX2_divides_266 ?_
              have hdv : dvs a b k R (p4 x0 x1 0 0) := dvs_p4 hR5 (by omega) (by omega) (by omega) (by omega) (by omega) (by omega)
              have hP9 := hP.sub (ws' := [(x, .inr (2, [.int (iI cd), .ref n, .ref r, .ref d, .int (iI cn), .int (iI fc), .ref ya, .ref yb, .ref yc, .ref yo, .long (lI (X 0)), .long (lI (X 1)), .long (lI (X 2)), .long (lI (X 3)), .long (lI (X 4)), .long (lI (X 5)), .long (lI (X 6))])), (r, .inl (cJ, 5, .inr (.inl (aL R)))), (d, .inl (cJ, 5, .inr (.inl (aL (p4 x0 x1 0 0)))))]) [0, 1, 2] rfl
              have hD9 := hD.sub (ws' := [(x, .inr (2, [.int (iI cd), .ref n, .ref r, .ref d, .int (iI cn), .int (iI fc), .ref ya, .ref yb, .ref yc, .ref yo, .long (lI (X 0)), .long (lI (X 1)), .long (lI (X 2)), .long (lI (X 3)), .long (lI (X 4)), .long (lI (X 5)), .long (lI (X 6))])), (r, .inl (cJ, 5, .inr (.inl (aL R)))), (d, .inl (cJ, 5, .inr (.inl (aL (p4 x0 x1 0 0)))))]) [0, 1, 2] (by decide) rfl
              have hK9 := hK.sub (tys' := [(cJ, .long)]) [0] rfl
              exact W.zret (v := iI 1) hx hb hr (by decide) (fun t ht hW => ⟨⟨iI 1, (p4 x0 x1 0 0), rfl, ⟨p4_n5 _ _ _ _, Or.inl ⟨rfl, hdv⟩⟩, by rw [ht]; exact hP9, va_K.moved hW.alike hK9, hD9⟩, hS.F ht⟩) hS.2.2 dX2_divides_267
            · refine ix_iconst (n := 0) hx hb dX2_divides_232 ?_
              have hno : ¬ ∃ Q, n5 Q ∧ dvs a b k R Q := by
                rintro ⟨T, hT, hd⟩
                obtain ⟨e4, e3, e2, e1, e0, -, -⟩ := qua_eqs (by omega) hR5 hT hd
                have t2 : T 2 = 0 := mul_cn (b := a) (by omega) (by omega)
                have t1 : T 1 = x1 := mul_cn (b := a) (by omega) (by rw [t2] at e3; omega)
                have t0 : T 0 = x0 := mul_cn (b := a) (by omega) (by rw [t1] at e2; rw [t2] at e2; omega)
                rw [t0] at e0
                omega
              have hP9 := hP.sub (ws' := [(x, .inr (2, [.int (iI cd), .ref n, .ref r, .ref d, .int (iI cn), .int (iI fc), .ref ya, .ref yb, .ref yc, .ref yo, .long (lI (X 0)), .long (lI (X 1)), .long (lI (X 2)), .long (lI (X 3)), .long (lI (X 4)), .long (lI (X 5)), .long (lI (X 6))])), (r, .inl (cJ, 5, .inr (.inl (aL R)))), (d, .inl (cJ, 5, .inr (.inl (aL (p4 x0 x1 0 0)))))]) [0, 1, 2] rfl
              have hD9 := hD.sub (ws' := [(x, .inr (2, [.int (iI cd), .ref n, .ref r, .ref d, .int (iI cn), .int (iI fc), .ref ya, .ref yb, .ref yc, .ref yo, .long (lI (X 0)), .long (lI (X 1)), .long (lI (X 2)), .long (lI (X 3)), .long (lI (X 4)), .long (lI (X 5)), .long (lI (X 6))])), (r, .inl (cJ, 5, .inr (.inl (aL R)))), (d, .inl (cJ, 5, .inr (.inl (aL (p4 x0 x1 0 0)))))]) [0, 1, 2] (by decide) rfl
              have hK9 := hK.sub (tys' := [(cJ, .long)]) [0] rfl
              exact W.zret (v := iI 0) hx hb hr (by decide) (fun t ht hW => ⟨⟨iI 0, (p4 x0 x1 0 0), rfl, ⟨p4_n5 _ _ _ _, Or.inr ⟨rfl, hno⟩⟩, by rw [ht]; exact hP9, va_K.moved hW.alike hK9, hD9⟩, hS.F ht⟩) hS.2.2 dX2_divides_233
          · refine ix_iconst (n := 0) hx hb dX2_divides_232 ?_
            have hno : ¬ ∃ Q, n5 Q ∧ dvs a b k R Q := by
              rintro ⟨T, hT, hd⟩
              obtain ⟨e4, e3, e2, e1, e0, -, -⟩ := qua_eqs (by omega) hR5 hT hd
              have t2 : T 2 = 0 := mul_cn (b := a) (by omega) (by omega)
              have t1 : T 1 = x1 := mul_cn (b := a) (by omega) (by rw [t2] at e3; omega)
              have t0 : T 0 = x0 := mul_cn (b := a) (by omega) (by rw [t1] at e2; rw [t2] at e2; omega)
              rw [t0] at e1
              rw [t1] at e1
              omega
            have hP9 := hP.sub (ws' := [(x, .inr (2, [.int (iI cd), .ref n, .ref r, .ref d, .int (iI cn), .int (iI fc), .ref ya, .ref yb, .ref yc, .ref yo, .long (lI (X 0)), .long (lI (X 1)), .long (lI (X 2)), .long (lI (X 3)), .long (lI (X 4)), .long (lI (X 5)), .long (lI (X 6))])), (r, .inl (cJ, 5, .inr (.inl (aL R)))), (d, .inl (cJ, 5, .inr (.inl (aL (p4 x0 x1 0 0)))))]) [0, 1, 2] rfl
            have hD9 := hD.sub (ws' := [(x, .inr (2, [.int (iI cd), .ref n, .ref r, .ref d, .int (iI cn), .int (iI fc), .ref ya, .ref yb, .ref yc, .ref yo, .long (lI (X 0)), .long (lI (X 1)), .long (lI (X 2)), .long (lI (X 3)), .long (lI (X 4)), .long (lI (X 5)), .long (lI (X 6))])), (r, .inl (cJ, 5, .inr (.inl (aL R)))), (d, .inl (cJ, 5, .inr (.inl (aL (p4 x0 x1 0 0)))))]) [0, 1, 2] (by decide) rfl
            have hK9 := hK.sub (tys' := [(cJ, .long)]) [0] rfl
            exact W.zret (v := iI 0) hx hb hr (by decide) (fun t ht hW => ⟨⟨iI 0, (p4 x0 x1 0 0), rfl, ⟨p4_n5 _ _ _ _, Or.inr ⟨rfl, hno⟩⟩, by rw [ht]; exact hP9, va_K.moved hW.alike hK9, hD9⟩, hS.F ht⟩) hS.2.2 dX2_divides_233
        · refine ix_iconst (n := 0) hx hb dX2_divides_244 ?_
          have hno : ¬ ∃ Q, n5 Q ∧ dvs a b k R Q := by
            rintro ⟨T, hT, hd⟩
            obtain ⟨e4, e3, e2, e1, e0, -, -⟩ := qua_eqs (by omega) hR5 hT hd
            have t2 : T 2 = 0 := mul_cn (b := a) (by omega) (by omega)
            have t1 : T 1 = x1 := mul_cn (b := a) (by omega) (by rw [t2] at e3; omega)
            rw [t1] at e2
            rw [t2] at e2
            exact c58 (tdiv_of (hi := a) (q := T 0) (by omega) (by omega)).1
          have hP9 := hP.sub (ws' := [(x, .inr (2, [.int (iI cd), .ref n, .ref r, .ref d, .int (iI cn), .int (iI fc), .ref ya, .ref yb, .ref yc, .ref yo, .long (lI (X 0)), .long (lI (X 1)), .long (lI (X 2)), .long (lI (X 3)), .long (lI (X 4)), .long (lI (X 5)), .long (lI (X 6))])), (r, .inl (cJ, 5, .inr (.inl (aL R)))), (d, .inl (cJ, 5, .inr (.inl (aL (p4 0 x1 0 0)))))]) [0, 1, 2] rfl
          have hD9 := hD.sub (ws' := [(x, .inr (2, [.int (iI cd), .ref n, .ref r, .ref d, .int (iI cn), .int (iI fc), .ref ya, .ref yb, .ref yc, .ref yo, .long (lI (X 0)), .long (lI (X 1)), .long (lI (X 2)), .long (lI (X 3)), .long (lI (X 4)), .long (lI (X 5)), .long (lI (X 6))])), (r, .inl (cJ, 5, .inr (.inl (aL R)))), (d, .inl (cJ, 5, .inr (.inl (aL (p4 0 x1 0 0)))))]) [0, 1, 2] (by decide) rfl
          have hK9 := hK.sub (tys' := [(cJ, .long)]) [0] rfl
          exact W.zret (v := iI 0) hx hb hr (by decide) (fun t ht hW => ⟨⟨iI 0, (p4 0 x1 0 0), rfl, ⟨p4_n5 _ _ _ _, Or.inr ⟨rfl, hno⟩⟩, by rw [ht]; exact hP9, va_K.moved hW.alike hK9, hD9⟩, hS.F ht⟩) hS.2.2 dX2_divides_245
      · refine ix_iconst (n := 0) hx hb dX2_divides_244 ?_
        have hno : ¬ ∃ Q, n5 Q ∧ dvs a b k R Q := by
          rintro ⟨T, hT, hd⟩
          obtain ⟨e4, e3, e2, e1, e0, -, -⟩ := qua_eqs (by omega) hR5 hT hd
          have t2 : T 2 = 0 := mul_cn (b := a) (by omega) (by omega)
          rw [t2] at e3
          exact c50 (tdiv_of (hi := a) (q := T 1) (by omega) (by omega)).1
        have hP9 := hP.sub (ws' := [(x, .inr (2, [.int (iI cd), .ref n, .ref r, .ref d, .int (iI cn), .int (iI fc), .ref ya, .ref yb, .ref yc, .ref yo, .long (lI (X 0)), .long (lI (X 1)), .long (lI (X 2)), .long (lI (X 3)), .long (lI (X 4)), .long (lI (X 5)), .long (lI (X 6))])), (r, .inl (cJ, 5, .inr (.inl (aL R)))), (d, .inl (cJ, 5, .inr (.inl (aL (p4 0 0 0 0)))))]) [0, 1, 2] rfl
        have hD9 := hD.sub (ws' := [(x, .inr (2, [.int (iI cd), .ref n, .ref r, .ref d, .int (iI cn), .int (iI fc), .ref ya, .ref yb, .ref yc, .ref yo, .long (lI (X 0)), .long (lI (X 1)), .long (lI (X 2)), .long (lI (X 3)), .long (lI (X 4)), .long (lI (X 5)), .long (lI (X 6))])), (r, .inl (cJ, 5, .inr (.inl (aL R)))), (d, .inl (cJ, 5, .inr (.inl (aL (p4 0 0 0 0)))))]) [0, 1, 2] (by decide) rfl
        have hK9 := hK.sub (tys' := [(cJ, .long)]) [0] rfl
        exact W.zret (v := iI 0) hx hb hr (by decide) (fun t ht hW => ⟨⟨iI 0, (p4 0 0 0 0), rfl, ⟨p4_n5 _ _ _ _, Or.inr ⟨rfl, hno⟩⟩, by rw [ht]; exact hP9, va_K.moved hW.alike hK9, hD9⟩, hS.F ht⟩) hS.2.2 dX2_divides_245
    · rw [hn] at hl
      have b0 : -480 ≤ R 0 ∧ R 0 ≤ 480 := hRb 0
      have b1 : -480 ≤ R 1 ∧ R 1 ≤ 480 := hRb 1
      have b2 : -480 ≤ R 2 ∧ R 2 ≤ 480 := hRb 2
      have b3 : -480 ≤ R 3 ∧ R 3 ≤ 480 := hRb 3
      have b4 : -480 ≤ R 4 ∧ R 4 ≤ 480 := hRb 4
      refine lv_iload hx hb dX2_divides_17 (lv_at hl 0 rfl) ?_
      refine lv_iload hx hb dX2_divides_19 (lv_at hl 1 rfl) ?_
      refine ix_icmp_ge (tgt := 26) hx hb dX2_divides_21 (by decide) (by decide) (by decide) (fun _ => ?_) (fun c74 => absurd c74 (by decide))
      refine ix_iconst (n := 0) hx hb dX2_divides_26 ?_
      refine lv_istore (lv' := [(6, .int (iI 0)), (5, .int (iI 4)), (4, .int (iI 2)), (0, .ref x), (1, .int (iI a)), (2, .int (iI b)), (3, .int (iI k))]) hx hb dX2_divides_27 hl (by decide) rfl (fun ls hl => ?_)
      refine lv_iload hx hb dX2_divides_29 (lv_at hl 0 rfl) ?_
      refine ix_iconst (n := 5) hx hb dX2_divides_31 ?_
      refine ix_icmp_ge (tgt := 49) hx hb dX2_divides_32 (by decide) (by decide) (by decide) (fun c75 => absurd c75 (by decide)) (fun _ => ?_)
      refine lv_aload_n hx hb dX2_divides_35 rfl (lv_at hl 3 rfl) ?_
      refine va_get (D := (dC, dI)) (ci := 2) (v := .ref d) (C := RX2) (T := TX2) (N := 17) hx hb hw inX2 hown hK hP 0 rfl rfl 3 (by decide) (hw _ mA_384) (fun _ h9 => h9) rfl dX2_divides_36 ?_
      refine lv_iload hx hb dX2_divides_39 (lv_at hl 0 rfl) ?_
      refine ix_lconst0 hx hb dX2_divides_41 ?_
      refine ix_last (k := 0) (x := 0) hx hb hK hP hD hS 2 0 rfl rfl (by decide) (by decide) (by decide) dX2_divides_42 (fun H locs hP hD hS => ?_)
      have hP : va_P (dC, dI) vwCl [(x, .inr (2, [.int (iI cd), .ref n, .ref r, .ref d, .int (iI cn), .int (iI fc), .ref ya, .ref yb, .ref yc, .ref yo, .long (lI (X 0)), .long (lI (X 1)), .long (lI (X 2)), .long (lI (X 3)), .long (lI (X 4)), .long (lI (X 5)), .long (lI (X 6))])), (r, .inl (cJ, 5, .inr (.inl (aL R)))), (d, .inl (cJ, 5, .inr (.inl (aL (iu D 0 0)))))] H := hP
      have hD : va_D A [(x, .inr (2, [.int (iI cd), .ref n, .ref r, .ref d, .int (iI cn), .int (iI fc), .ref ya, .ref yb, .ref yc, .ref yo, .long (lI (X 0)), .long (lI (X 1)), .long (lI (X 2)), .long (lI (X 3)), .long (lI (X 4)), .long (lI (X 5)), .long (lI (X 6))])), (r, .inl (cJ, 5, .inr (.inl (aL R)))), (d, .inl (cJ, 5, .inr (.inl (aL (iu D 0 0)))))] := hD
      refine ix_iinc (k := 0) (lv2 := [(6, .int (iI 1)), (5, .int (iI 4)), (4, .int (iI 2)), (0, .ref x), (1, .int (iI a)), (2, .int (iI b)), (3, .int (iI k))]) hx hb dX2_divides_43 hl rfl (by decide) rfl (fun ls hl => ?_)
      refine lv_goto (tgt := 29) hx hb dX2_divides_46 (by decide) ?_
      refine lv_iload hx hb dX2_divides_29 (lv_at hl 0 rfl) ?_
      refine ix_iconst (n := 5) hx hb dX2_divides_31 ?_
      refine ix_icmp_ge (tgt := 49) hx hb dX2_divides_32 (by decide) (by decide) (by decide) (fun c76 => absurd c76 (by decide)) (fun _ => ?_)
      refine lv_aload_n hx hb dX2_divides_35 rfl (lv_at hl 3 rfl) ?_
      refine va_get (D := (dC, dI)) (ci := 2) (v := .ref d) (C := RX2) (T := TX2) (N := 17) hx hb hw inX2 hown hK hP 0 rfl rfl 3 (by decide) (hw _ mA_384) (fun _ h9 => h9) rfl dX2_divides_36 ?_
      refine lv_iload hx hb dX2_divides_39 (lv_at hl 0 rfl) ?_
      refine ix_lconst0 hx hb dX2_divides_41 ?_
      refine ix_last (k := 1) (x := 0) hx hb hK hP hD hS 2 0 rfl rfl (by decide) (by decide) (by decide) dX2_divides_42 (fun H locs hP hD hS => ?_)
      have hP : va_P (dC, dI) vwCl [(x, .inr (2, [.int (iI cd), .ref n, .ref r, .ref d, .int (iI cn), .int (iI fc), .ref ya, .ref yb, .ref yc, .ref yo, .long (lI (X 0)), .long (lI (X 1)), .long (lI (X 2)), .long (lI (X 3)), .long (lI (X 4)), .long (lI (X 5)), .long (lI (X 6))])), (r, .inl (cJ, 5, .inr (.inl (aL R)))), (d, .inl (cJ, 5, .inr (.inl (aL (iu (iu D 0 0) 1 0)))))] H := hP
      have hD : va_D A [(x, .inr (2, [.int (iI cd), .ref n, .ref r, .ref d, .int (iI cn), .int (iI fc), .ref ya, .ref yb, .ref yc, .ref yo, .long (lI (X 0)), .long (lI (X 1)), .long (lI (X 2)), .long (lI (X 3)), .long (lI (X 4)), .long (lI (X 5)), .long (lI (X 6))])), (r, .inl (cJ, 5, .inr (.inl (aL R)))), (d, .inl (cJ, 5, .inr (.inl (aL (iu (iu D 0 0) 1 0)))))] := hD
      refine ix_iinc (k := 0) (lv2 := [(6, .int (iI 2)), (5, .int (iI 4)), (4, .int (iI 2)), (0, .ref x), (1, .int (iI a)), (2, .int (iI b)), (3, .int (iI k))]) hx hb dX2_divides_43 hl rfl (by decide) rfl (fun ls hl => ?_)
      refine lv_goto (tgt := 29) hx hb dX2_divides_46 (by decide) ?_
      refine lv_iload hx hb dX2_divides_29 (lv_at hl 0 rfl) ?_
      refine ix_iconst (n := 5) hx hb dX2_divides_31 ?_
      refine ix_icmp_ge (tgt := 49) hx hb dX2_divides_32 (by decide) (by decide) (by decide) (fun c77 => absurd c77 (by decide)) (fun _ => ?_)
      refine lv_aload_n hx hb dX2_divides_35 rfl (lv_at hl 3 rfl) ?_
      refine va_get (D := (dC, dI)) (ci := 2) (v := .ref d) (C := RX2) (T := TX2) (N := 17) hx hb hw inX2 hown hK hP 0 rfl rfl 3 (by decide) (hw _ mA_384) (fun _ h9 => h9) rfl dX2_divides_36 ?_
      refine lv_iload hx hb dX2_divides_39 (lv_at hl 0 rfl) ?_
      refine ix_lconst0 hx hb dX2_divides_41 ?_
      refine ix_last (k := 2) (x := 0) hx hb hK hP hD hS 2 0 rfl rfl (by decide) (by decide) (by decide) dX2_divides_42 (fun H locs hP hD hS => ?_)
      have hP : va_P (dC, dI) vwCl [(x, .inr (2, [.int (iI cd), .ref n, .ref r, .ref d, .int (iI cn), .int (iI fc), .ref ya, .ref yb, .ref yc, .ref yo, .long (lI (X 0)), .long (lI (X 1)), .long (lI (X 2)), .long (lI (X 3)), .long (lI (X 4)), .long (lI (X 5)), .long (lI (X 6))])), (r, .inl (cJ, 5, .inr (.inl (aL R)))), (d, .inl (cJ, 5, .inr (.inl (aL (iu (iu (iu D 0 0) 1 0) 2 0)))))] H := hP
      have hD : va_D A [(x, .inr (2, [.int (iI cd), .ref n, .ref r, .ref d, .int (iI cn), .int (iI fc), .ref ya, .ref yb, .ref yc, .ref yo, .long (lI (X 0)), .long (lI (X 1)), .long (lI (X 2)), .long (lI (X 3)), .long (lI (X 4)), .long (lI (X 5)), .long (lI (X 6))])), (r, .inl (cJ, 5, .inr (.inl (aL R)))), (d, .inl (cJ, 5, .inr (.inl (aL (iu (iu (iu D 0 0) 1 0) 2 0)))))] := hD
      refine ix_iinc (k := 0) (lv2 := [(6, .int (iI 3)), (5, .int (iI 4)), (4, .int (iI 2)), (0, .ref x), (1, .int (iI a)), (2, .int (iI b)), (3, .int (iI k))]) hx hb dX2_divides_43 hl rfl (by decide) rfl (fun ls hl => ?_)
      refine lv_goto (tgt := 29) hx hb dX2_divides_46 (by decide) ?_
      refine lv_iload hx hb dX2_divides_29 (lv_at hl 0 rfl) ?_
      refine ix_iconst (n := 5) hx hb dX2_divides_31 ?_
      refine ix_icmp_ge (tgt := 49) hx hb dX2_divides_32 (by decide) (by decide) (by decide) (fun c78 => absurd c78 (by decide)) (fun _ => ?_)
      refine lv_aload_n hx hb dX2_divides_35 rfl (lv_at hl 3 rfl) ?_
      refine va_get (D := (dC, dI)) (ci := 2) (v := .ref d) (C := RX2) (T := TX2) (N := 17) hx hb hw inX2 hown hK hP 0 rfl rfl 3 (by decide) (hw _ mA_384) (fun _ h9 => h9) rfl dX2_divides_36 ?_
      refine lv_iload hx hb dX2_divides_39 (lv_at hl 0 rfl) ?_
      refine ix_lconst0 hx hb dX2_divides_41 ?_
      refine ix_last (k := 3) (x := 0) hx hb hK hP hD hS 2 0 rfl rfl (by decide) (by decide) (by decide) dX2_divides_42 (fun H locs hP hD hS => ?_)
      have hP : va_P (dC, dI) vwCl [(x, .inr (2, [.int (iI cd), .ref n, .ref r, .ref d, .int (iI cn), .int (iI fc), .ref ya, .ref yb, .ref yc, .ref yo, .long (lI (X 0)), .long (lI (X 1)), .long (lI (X 2)), .long (lI (X 3)), .long (lI (X 4)), .long (lI (X 5)), .long (lI (X 6))])), (r, .inl (cJ, 5, .inr (.inl (aL R)))), (d, .inl (cJ, 5, .inr (.inl (aL (iu (iu (iu (iu D 0 0) 1 0) 2 0) 3 0)))))] H := hP
      have hD : va_D A [(x, .inr (2, [.int (iI cd), .ref n, .ref r, .ref d, .int (iI cn), .int (iI fc), .ref ya, .ref yb, .ref yc, .ref yo, .long (lI (X 0)), .long (lI (X 1)), .long (lI (X 2)), .long (lI (X 3)), .long (lI (X 4)), .long (lI (X 5)), .long (lI (X 6))])), (r, .inl (cJ, 5, .inr (.inl (aL R)))), (d, .inl (cJ, 5, .inr (.inl (aL (iu (iu (iu (iu D 0 0) 1 0) 2 0) 3 0)))))] := hD
      refine ix_iinc (k := 0) (lv2 := [(6, .int (iI 4)), (5, .int (iI 4)), (4, .int (iI 2)), (0, .ref x), (1, .int (iI a)), (2, .int (iI b)), (3, .int (iI k))]) hx hb dX2_divides_43 hl rfl (by decide) rfl (fun ls hl => ?_)
      refine lv_goto (tgt := 29) hx hb dX2_divides_46 (by decide) ?_
      refine lv_iload hx hb dX2_divides_29 (lv_at hl 0 rfl) ?_
      refine ix_iconst (n := 5) hx hb dX2_divides_31 ?_
      refine ix_icmp_ge (tgt := 49) hx hb dX2_divides_32 (by decide) (by decide) (by decide) (fun c79 => absurd c79 (by decide)) (fun _ => ?_)
      refine lv_aload_n hx hb dX2_divides_35 rfl (lv_at hl 3 rfl) ?_
      refine va_get (D := (dC, dI)) (ci := 2) (v := .ref d) (C := RX2) (T := TX2) (N := 17) hx hb hw inX2 hown hK hP 0 rfl rfl 3 (by decide) (hw _ mA_384) (fun _ h9 => h9) rfl dX2_divides_36 ?_
      refine lv_iload hx hb dX2_divides_39 (lv_at hl 0 rfl) ?_
      refine ix_lconst0 hx hb dX2_divides_41 ?_
      refine ix_last (k := 4) (x := 0) hx hb hK hP hD hS 2 0 rfl rfl (by decide) (by decide) (by decide) dX2_divides_42 (fun H locs hP hD hS => ?_)
      have hP : va_P (dC, dI) vwCl [(x, .inr (2, [.int (iI cd), .ref n, .ref r, .ref d, .int (iI cn), .int (iI fc), .ref ya, .ref yb, .ref yc, .ref yo, .long (lI (X 0)), .long (lI (X 1)), .long (lI (X 2)), .long (lI (X 3)), .long (lI (X 4)), .long (lI (X 5)), .long (lI (X 6))])), (r, .inl (cJ, 5, .inr (.inl (aL R)))), (d, .inl (cJ, 5, .inr (.inl (aL (iu (iu (iu (iu (iu D 0 0) 1 0) 2 0) 3 0) 4 0)))))] H := hP
      have hD : va_D A [(x, .inr (2, [.int (iI cd), .ref n, .ref r, .ref d, .int (iI cn), .int (iI fc), .ref ya, .ref yb, .ref yc, .ref yo, .long (lI (X 0)), .long (lI (X 1)), .long (lI (X 2)), .long (lI (X 3)), .long (lI (X 4)), .long (lI (X 5)), .long (lI (X 6))])), (r, .inl (cJ, 5, .inr (.inl (aL R)))), (d, .inl (cJ, 5, .inr (.inl (aL (iu (iu (iu (iu (iu D 0 0) 1 0) 2 0) 3 0) 4 0)))))] := hD
      refine ix_iinc (k := 0) (lv2 := [(6, .int (iI 5)), (5, .int (iI 4)), (4, .int (iI 2)), (0, .ref x), (1, .int (iI a)), (2, .int (iI b)), (3, .int (iI k))]) hx hb dX2_divides_43 hl rfl (by decide) rfl (fun ls hl => ?_)
      refine lv_goto (tgt := 29) hx hb dX2_divides_46 (by decide) ?_
      refine lv_iload hx hb dX2_divides_29 (lv_at hl 0 rfl) ?_
      refine ix_iconst (n := 5) hx hb dX2_divides_31 ?_
      refine ix_icmp_ge (tgt := 49) hx hb dX2_divides_32 (by decide) (by decide) (by decide) (fun _ => ?_) (fun c80 => absurd c80 (by decide))
      rw [p4_z hD5] at hP hD
      refine lv_iload hx hb dX2_divides_49 (lv_at hl 1 rfl) ?_
      refine lv_istore (lv' := [(6, .int (iI 4)), (5, .int (iI 4)), (4, .int (iI 2)), (0, .ref x), (1, .int (iI a)), (2, .int (iI b)), (3, .int (iI k))]) hx hb dX2_divides_51 hl (by decide) rfl (fun ls hl => ?_)
      refine lv_iload hx hb dX2_divides_53 (lv_at hl 0 rfl) ?_
      refine ix_if_lt (tgt := 266) hx hb dX2_divides_55 (by decide) (by decide) (fun c81 => absurd c81 (by decide)) (fun _ => ?_)
      refine lv_aload_n hx hb dX2_divides_58 rfl (lv_at hl 3 rfl) ?_
      refine va_get (D := (dC, dI)) (ci := 2) (v := .ref r) (C := RX2) (T := TX2) (N := 17) hx hb hw inX2 hown hK hP 0 rfl rfl 2 (by decide) (hw _ mA_383) (fun _ h9 => h9) rfl dX2_divides_59 ?_
      refine lv_iload hx hb dX2_divides_62 (lv_at hl 0 rfl) ?_
      refine ix_lald (k := 4) hx hb hK hP 1 0 rfl rfl (by decide) (by decide) (by decide) dX2_divides_64 ?_
      refine lv_lstore (lv' := [(7, .long (lI (R 4))), (6, .int (iI 4)), (5, .int (iI 4)), (4, .int (iI 2)), (0, .ref x), (1, .int (iI a)), (2, .int (iI b)), (3, .int (iI k))]) hx hb dX2_divides_65 hl (by decide) rfl (fun ls hl => ?_)
      refine lv_iload hx hb dX2_divides_67 (lv_at hl 3 rfl) ?_
      refine ix_iconst (n := 1) hx hb dX2_divides_69 ?_
      refine ix_icmp_ne (tgt := 142) hx hb dX2_divides_70 (by decide) (by decide) (by decide) (fun _ => ?_) (fun c82 => absurd c82 (by decide))
      refine lv_iload hx hb dX2_divides_142 (lv_at hl 1 rfl) ?_
      refine ix_iconst (n := 1) hx hb dX2_divides_144 ?_
      refine ix_isub hx hb dX2_divides_145 ?_
      refine ix_z (y := 3) rfl ?_
      refine ix_if_lt (tgt := 173) hx hb dX2_divides_146 (by decide) (by decide) (fun c83 => absurd c83 (by decide)) (fun _ => ?_)
      refine lv_iload hx hb dX2_divides_149 (lv_at hl 1 rfl) ?_
      refine lv_iload hx hb dX2_divides_151 (lv_at hl 2 rfl) ?_
      refine ix_icmp_ge (tgt := 173) hx hb dX2_divides_153 (by decide) (by decide) (by decide) (fun _ => ?_) (fun c84 => absurd c84 (by decide))
      refine lv_iload hx hb dX2_divides_173 (lv_at hl 1 rfl) ?_
      refine ix_if_ne (tgt := 195) hx hb dX2_divides_175 (by decide) (by decide) (fun _ => ?_) (fun c85 => absurd c85 (by decide))
      refine lv_iload hx hb dX2_divides_195 (lv_at hl 1 rfl) ?_
      refine lv_iload hx hb dX2_divides_197 (lv_at hl 2 rfl) ?_
      refine ix_iconst (n := 2) hx hb dX2_divides_199 ?_
      refine ix_isub hx hb dX2_divides_200 ?_
      refine ix_z (y := 2) rfl ?_
      refine ix_icmp_gt (tgt := 219) hx hb dX2_divides_201 (by decide) (by decide) (by decide) (fun _ => ?_) (fun c86 => absurd c86 (by decide))
      refine lv_iload hx hb dX2_divides_219 (lv_at hl 1 rfl) ?_
      refine ix_iconst (n := 2) hx hb dX2_divides_221 ?_
      refine ix_icmp_ge (tgt := 234) hx hb dX2_divides_222 (by decide) (by decide) (by decide) (fun _ => ?_) (fun c87 => absurd c87 (by decide))
      refine lv_lload hx hb dX2_divides_234 (lv_at hl 0 rfl) ?_
      refine lv_iload_n hx hb dX2_divides_236 rfl (lv_at hl 5 rfl) ?_
      refine ix_i2l hx hb dX2_divides_237 (by omega) ?_
      refine ix_lrem hx hb dX2_divides_238 (by omega) (by omega) (by omega) ?_
      refine ix_lconst0 hx hb dX2_divides_239 ?_
      refine ix_lc_eq (tgt := 246) hx hb dX2_divides_240 dX2_divides_241 (by decide) (by have := tmod_in (x := (R 4)) (y := a) (A := 100000000000000) (by omega); omega) (by decide) (fun c88 => ?_) (fun c88 => ?_)
      · refine lv_aload_n hx hb dX2_divides_246 rfl (lv_at hl 4 rfl) ?_
        refine va_get (D := (dC, dI)) (ci := 2) (v := .ref d) (C := RX2) (T := TX2) (N := 17) hx hb hw inX2 hown hK hP 0 rfl rfl 3 (by decide) (hw _ mA_384) (fun _ h9 => h9) rfl dX2_divides_247 ?_
        refine lv_iload hx hb dX2_divides_250 (lv_at hl 1 rfl) ?_
        refine ix_iconst (n := 2) hx hb dX2_divides_252 ?_
        refine ix_isub hx hb dX2_divides_253 ?_
        refine ix_z (y := 2) rfl ?_
        refine lv_lload hx hb dX2_divides_254 (lv_at hl 0 rfl) ?_
        refine lv_iload_n hx hb dX2_divides_256 rfl (lv_at hl 5 rfl) ?_
        refine ix_i2l hx hb dX2_divides_257 (by omega) ?_
        refine ix_ldiv hx hb dX2_divides_258 (by omega) (by omega) (by omega) (by omega) ?_
        have f2 : a * Int.tdiv (R 4) a = R 4 := tdiv_mul (by omega)
        have bx2 := tdiv_in (x := R 4) (y := a) (A := 480) (by omega)
        generalize Int.tdiv (R 4) a = x2 at f2 bx2 ⊢
        refine ix_last (k := 2) (x := x2) hx hb hK hP hD hS 2 0 rfl rfl (by decide) (by decide) (by decide) dX2_divides_259 (fun H locs hP hD hS => ?_)
        have hP : va_P (dC, dI) vwCl [(x, .inr (2, [.int (iI cd), .ref n, .ref r, .ref d, .int (iI cn), .int (iI fc), .ref ya, .ref yb, .ref yc, .ref yo, .long (lI (X 0)), .long (lI (X 1)), .long (lI (X 2)), .long (lI (X 3)), .long (lI (X 4)), .long (lI (X 5)), .long (lI (X 6))])), (r, .inl (cJ, 5, .inr (.inl (aL R)))), (d, .inl (cJ, 5, .inr (.inl (aL (iu (p4 0 0 0 0) 2 x2)))))] H := hP
        have hD : va_D A [(x, .inr (2, [.int (iI cd), .ref n, .ref r, .ref d, .int (iI cn), .int (iI fc), .ref ya, .ref yb, .ref yc, .ref yo, .long (lI (X 0)), .long (lI (X 1)), .long (lI (X 2)), .long (lI (X 3)), .long (lI (X 4)), .long (lI (X 5)), .long (lI (X 6))])), (r, .inl (cJ, 5, .inr (.inl (aL R)))), (d, .inl (cJ, 5, .inr (.inl (aL (iu (p4 0 0 0 0) 2 x2)))))] := hD
        rw [p4_2] at hP hD
        refine ix_iinc (k := 1) (lv2 := [(6, .int (iI 3)), (7, .long (lI (R 4))), (5, .int (iI 4)), (4, .int (iI 2)), (0, .ref x), (1, .int (iI a)), (2, .int (iI b)), (3, .int (iI k))]) hx hb dX2_divides_260 hl rfl (by decide) rfl (fun ls hl => ?_)
        refine lv_goto (tgt := 53) hx hb dX2_divides_263 (by decide) ?_
        refine lv_iload hx hb dX2_divides_53 (lv_at hl 0 rfl) ?_
        refine ix_if_lt (tgt := 266) hx hb dX2_divides_55 (by decide) (by decide) (fun c89 => absurd c89 (by decide)) (fun _ => ?_)
        refine lv_aload_n hx hb dX2_divides_58 rfl (lv_at hl 4 rfl) ?_
        refine va_get (D := (dC, dI)) (ci := 2) (v := .ref r) (C := RX2) (T := TX2) (N := 17) hx hb hw inX2 hown hK hP 0 rfl rfl 2 (by decide) (hw _ mA_383) (fun _ h9 => h9) rfl dX2_divides_59 ?_
        refine lv_iload hx hb dX2_divides_62 (lv_at hl 0 rfl) ?_
        refine ix_lald (k := 3) hx hb hK hP 1 0 rfl rfl (by decide) (by decide) (by decide) dX2_divides_64 ?_
        refine lv_lstore (lv' := [(7, .long (lI (R 3))), (6, .int (iI 3)), (5, .int (iI 4)), (4, .int (iI 2)), (0, .ref x), (1, .int (iI a)), (2, .int (iI b)), (3, .int (iI k))]) hx hb dX2_divides_65 hl (by decide) rfl (fun ls hl => ?_)
        refine lv_iload hx hb dX2_divides_67 (lv_at hl 3 rfl) ?_
        refine ix_iconst (n := 1) hx hb dX2_divides_69 ?_
        refine ix_icmp_ne (tgt := 142) hx hb dX2_divides_70 (by decide) (by decide) (by decide) (fun _ => ?_) (fun c90 => absurd c90 (by decide))
        refine lv_iload hx hb dX2_divides_142 (lv_at hl 1 rfl) ?_
        refine ix_iconst (n := 1) hx hb dX2_divides_144 ?_
        refine ix_isub hx hb dX2_divides_145 ?_
        refine ix_z (y := 2) rfl ?_
        refine ix_if_lt (tgt := 173) hx hb dX2_divides_146 (by decide) (by decide) (fun c91 => absurd c91 (by decide)) (fun _ => ?_)
        refine lv_iload hx hb dX2_divides_149 (lv_at hl 1 rfl) ?_
        refine lv_iload hx hb dX2_divides_151 (lv_at hl 2 rfl) ?_
        refine ix_icmp_ge (tgt := 173) hx hb dX2_divides_153 (by decide) (by decide) (by decide) (fun c92 => absurd c92 (by decide)) (fun _ => ?_)
        refine lv_lload hx hb dX2_divides_156 (lv_at hl 0 rfl) ?_
        refine lv_iload_n hx hb dX2_divides_158 rfl (lv_at hl 6 rfl) ?_
        refine ix_i2l hx hb dX2_divides_159 (by omega) ?_
        refine lv_aload_n hx hb dX2_divides_160 rfl (lv_at hl 4 rfl) ?_
        refine va_get (D := (dC, dI)) (ci := 2) (v := .ref d) (C := RX2) (T := TX2) (N := 17) hx hb hw inX2 hown hK hP 0 rfl rfl 3 (by decide) (hw _ mA_384) (fun _ h9 => h9) rfl dX2_divides_161 ?_
        refine lv_iload hx hb dX2_divides_164 (lv_at hl 1 rfl) ?_
        refine ix_iconst (n := 1) hx hb dX2_divides_166 ?_
        refine ix_isub hx hb dX2_divides_167 ?_
        refine ix_z (y := 2) rfl ?_
        refine ix_lald (k := 2) hx hb hK hP 2 0 rfl rfl (by decide) (by decide) (by decide) dX2_divides_168 ?_
        refine ix_zl (y := x2) rfl ?_
        refine ix_lmul hx hb dX2_divides_169 ?_
        have mbx2 := mul_in (x := b) (y := x2) (A := 240) (B := 480) hb9 bx2 (by decide) (by decide)
        refine ix_lsub hx hb dX2_divides_170 ?_
        refine lv_lstore (lv' := [(7, .long (lI ((R 3) - (b * x2)))), (6, .int (iI 3)), (5, .int (iI 4)), (4, .int (iI 2)), (0, .ref x), (1, .int (iI a)), (2, .int (iI b)), (3, .int (iI k))]) hx hb dX2_divides_171 hl (by decide) rfl (fun ls hl => ?_)
        refine lv_iload hx hb dX2_divides_173 (lv_at hl 1 rfl) ?_
        refine ix_if_ne (tgt := 195) hx hb dX2_divides_175 (by decide) (by decide) (fun _ => ?_) (fun c93 => absurd c93 (by decide))
        refine lv_iload hx hb dX2_divides_195 (lv_at hl 1 rfl) ?_
        refine lv_iload hx hb dX2_divides_197 (lv_at hl 2 rfl) ?_
        refine ix_iconst (n := 2) hx hb dX2_divides_199 ?_
        refine ix_isub hx hb dX2_divides_200 ?_
        refine ix_z (y := 2) rfl ?_
        refine ix_icmp_gt (tgt := 219) hx hb dX2_divides_201 (by decide) (by decide) (by decide) (fun _ => ?_) (fun c94 => absurd c94 (by decide))
        refine lv_iload hx hb dX2_divides_219 (lv_at hl 1 rfl) ?_
        refine ix_iconst (n := 2) hx hb dX2_divides_221 ?_
        refine ix_icmp_ge (tgt := 234) hx hb dX2_divides_222 (by decide) (by decide) (by decide) (fun _ => ?_) (fun c95 => absurd c95 (by decide))
        refine lv_lload hx hb dX2_divides_234 (lv_at hl 0 rfl) ?_
        refine lv_iload_n hx hb dX2_divides_236 rfl (lv_at hl 5 rfl) ?_
        refine ix_i2l hx hb dX2_divides_237 (by omega) ?_
        refine ix_lrem hx hb dX2_divides_238 (by omega) (by omega) (by omega) ?_
        refine ix_lconst0 hx hb dX2_divides_239 ?_
        refine ix_lc_eq (tgt := 246) hx hb dX2_divides_240 dX2_divides_241 (by decide) (by have := tmod_in (x := ((R 3) - (b * x2))) (y := a) (A := 100000000000000) (by omega); omega) (by decide) (fun c96 => ?_) (fun c96 => ?_)
        · refine lv_aload_n hx hb dX2_divides_246 rfl (lv_at hl 4 rfl) ?_
          refine va_get (D := (dC, dI)) (ci := 2) (v := .ref d) (C := RX2) (T := TX2) (N := 17) hx hb hw inX2 hown hK hP 0 rfl rfl 3 (by decide) (hw _ mA_384) (fun _ h9 => h9) rfl dX2_divides_247 ?_
          refine lv_iload hx hb dX2_divides_250 (lv_at hl 1 rfl) ?_
          refine ix_iconst (n := 2) hx hb dX2_divides_252 ?_
          refine ix_isub hx hb dX2_divides_253 ?_
          refine ix_z (y := 1) rfl ?_
          refine lv_lload hx hb dX2_divides_254 (lv_at hl 0 rfl) ?_
          refine lv_iload_n hx hb dX2_divides_256 rfl (lv_at hl 5 rfl) ?_
          refine ix_i2l hx hb dX2_divides_257 (by omega) ?_
          refine ix_ldiv hx hb dX2_divides_258 (by omega) (by omega) (by omega) (by omega) ?_
          have f1 : a * Int.tdiv ((R 3) - (b * x2)) a = (R 3) - (b * x2) := tdiv_mul (by omega)
          have bx1 := tdiv_in (x := (R 3) - (b * x2)) (y := a) (A := 115680) (by omega)
          generalize Int.tdiv ((R 3) - (b * x2)) a = x1 at f1 bx1 ⊢
          refine ix_last (k := 1) (x := x1) hx hb hK hP hD hS 2 0 rfl rfl (by decide) (by decide) (by decide) dX2_divides_259 (fun H locs hP hD hS => ?_)
          have hP : va_P (dC, dI) vwCl [(x, .inr (2, [.int (iI cd), .ref n, .ref r, .ref d, .int (iI cn), .int (iI fc), .ref ya, .ref yb, .ref yc, .ref yo, .long (lI (X 0)), .long (lI (X 1)), .long (lI (X 2)), .long (lI (X 3)), .long (lI (X 4)), .long (lI (X 5)), .long (lI (X 6))])), (r, .inl (cJ, 5, .inr (.inl (aL R)))), (d, .inl (cJ, 5, .inr (.inl (aL (iu (p4 0 0 x2 0) 1 x1)))))] H := hP
          have hD : va_D A [(x, .inr (2, [.int (iI cd), .ref n, .ref r, .ref d, .int (iI cn), .int (iI fc), .ref ya, .ref yb, .ref yc, .ref yo, .long (lI (X 0)), .long (lI (X 1)), .long (lI (X 2)), .long (lI (X 3)), .long (lI (X 4)), .long (lI (X 5)), .long (lI (X 6))])), (r, .inl (cJ, 5, .inr (.inl (aL R)))), (d, .inl (cJ, 5, .inr (.inl (aL (iu (p4 0 0 x2 0) 1 x1)))))] := hD
          rw [p4_1] at hP hD
          refine ix_iinc (k := 1) (lv2 := [(6, .int (iI 2)), (7, .long (lI ((R 3) - (b * x2)))), (5, .int (iI 4)), (4, .int (iI 2)), (0, .ref x), (1, .int (iI a)), (2, .int (iI b)), (3, .int (iI k))]) hx hb dX2_divides_260 hl rfl (by decide) rfl (fun ls hl => ?_)
          refine lv_goto (tgt := 53) hx hb dX2_divides_263 (by decide) ?_
          refine lv_iload hx hb dX2_divides_53 (lv_at hl 0 rfl) ?_
          refine ix_if_lt (tgt := 266) hx hb dX2_divides_55 (by decide) (by decide) (fun c97 => absurd c97 (by decide)) (fun _ => ?_)
          refine lv_aload_n hx hb dX2_divides_58 rfl (lv_at hl 4 rfl) ?_
          refine va_get (D := (dC, dI)) (ci := 2) (v := .ref r) (C := RX2) (T := TX2) (N := 17) hx hb hw inX2 hown hK hP 0 rfl rfl 2 (by decide) (hw _ mA_383) (fun _ h9 => h9) rfl dX2_divides_59 ?_
          refine lv_iload hx hb dX2_divides_62 (lv_at hl 0 rfl) ?_
          refine ix_lald (k := 2) hx hb hK hP 1 0 rfl rfl (by decide) (by decide) (by decide) dX2_divides_64 ?_
          refine lv_lstore (lv' := [(7, .long (lI (R 2))), (6, .int (iI 2)), (5, .int (iI 4)), (4, .int (iI 2)), (0, .ref x), (1, .int (iI a)), (2, .int (iI b)), (3, .int (iI k))]) hx hb dX2_divides_65 hl (by decide) rfl (fun ls hl => ?_)
          refine lv_iload hx hb dX2_divides_67 (lv_at hl 3 rfl) ?_
          refine ix_iconst (n := 1) hx hb dX2_divides_69 ?_
          refine ix_icmp_ne (tgt := 142) hx hb dX2_divides_70 (by decide) (by decide) (by decide) (fun _ => ?_) (fun c98 => absurd c98 (by decide))
          refine lv_iload hx hb dX2_divides_142 (lv_at hl 1 rfl) ?_
          refine ix_iconst (n := 1) hx hb dX2_divides_144 ?_
          refine ix_isub hx hb dX2_divides_145 ?_
          refine ix_z (y := 1) rfl ?_
          refine ix_if_lt (tgt := 173) hx hb dX2_divides_146 (by decide) (by decide) (fun c99 => absurd c99 (by decide)) (fun _ => ?_)
          refine lv_iload hx hb dX2_divides_149 (lv_at hl 1 rfl) ?_
          refine lv_iload hx hb dX2_divides_151 (lv_at hl 2 rfl) ?_
          refine ix_icmp_ge (tgt := 173) hx hb dX2_divides_153 (by decide) (by decide) (by decide) (fun c100 => absurd c100 (by decide)) (fun _ => ?_)
          refine lv_lload hx hb dX2_divides_156 (lv_at hl 0 rfl) ?_
          refine lv_iload_n hx hb dX2_divides_158 rfl (lv_at hl 6 rfl) ?_
          refine ix_i2l hx hb dX2_divides_159 (by omega) ?_
          refine lv_aload_n hx hb dX2_divides_160 rfl (lv_at hl 4 rfl) ?_
          refine va_get (D := (dC, dI)) (ci := 2) (v := .ref d) (C := RX2) (T := TX2) (N := 17) hx hb hw inX2 hown hK hP 0 rfl rfl 3 (by decide) (hw _ mA_384) (fun _ h9 => h9) rfl dX2_divides_161 ?_
          refine lv_iload hx hb dX2_divides_164 (lv_at hl 1 rfl) ?_
          refine ix_iconst (n := 1) hx hb dX2_divides_166 ?_
          refine ix_isub hx hb dX2_divides_167 ?_
          refine ix_z (y := 1) rfl ?_
          refine ix_lald (k := 1) hx hb hK hP 2 0 rfl rfl (by decide) (by decide) (by decide) dX2_divides_168 ?_
          refine ix_zl (y := x1) rfl ?_
          refine ix_lmul hx hb dX2_divides_169 ?_
          have mbx1 := mul_in (x := b) (y := x1) (A := 240) (B := 115680) hb9 bx1 (by decide) (by decide)
          refine ix_lsub hx hb dX2_divides_170 ?_
          refine lv_lstore (lv' := [(7, .long (lI ((R 2) - (b * x1)))), (6, .int (iI 2)), (5, .int (iI 4)), (4, .int (iI 2)), (0, .ref x), (1, .int (iI a)), (2, .int (iI b)), (3, .int (iI k))]) hx hb dX2_divides_171 hl (by decide) rfl (fun ls hl => ?_)
          refine lv_iload hx hb dX2_divides_173 (lv_at hl 1 rfl) ?_
          refine ix_if_ne (tgt := 195) hx hb dX2_divides_175 (by decide) (by decide) (fun _ => ?_) (fun c101 => absurd c101 (by decide))
          refine lv_iload hx hb dX2_divides_195 (lv_at hl 1 rfl) ?_
          refine lv_iload hx hb dX2_divides_197 (lv_at hl 2 rfl) ?_
          refine ix_iconst (n := 2) hx hb dX2_divides_199 ?_
          refine ix_isub hx hb dX2_divides_200 ?_
          refine ix_z (y := 2) rfl ?_
          refine ix_icmp_gt (tgt := 219) hx hb dX2_divides_201 (by decide) (by decide) (by decide) (fun c102 => absurd c102 (by decide)) (fun _ => ?_)
          refine lv_lload hx hb dX2_divides_204 (lv_at hl 0 rfl) ?_
          refine lv_iload_n hx hb dX2_divides_206 rfl (lv_at hl 7 rfl) ?_
          refine ix_i2l hx hb dX2_divides_207 (by omega) ?_
          refine lv_aload_n hx hb dX2_divides_208 rfl (lv_at hl 4 rfl) ?_
          refine va_get (D := (dC, dI)) (ci := 2) (v := .ref d) (C := RX2) (T := TX2) (N := 17) hx hb hw inX2 hown hK hP 0 rfl rfl 3 (by decide) (hw _ mA_384) (fun _ h9 => h9) rfl dX2_divides_209 ?_
          refine lv_iload hx hb dX2_divides_212 (lv_at hl 1 rfl) ?_
          refine ix_lald (k := 2) hx hb hK hP 2 0 rfl rfl (by decide) (by decide) (by decide) dX2_divides_214 ?_
          refine ix_zl (y := x2) rfl ?_
          refine ix_lmul hx hb dX2_divides_215 ?_
          have mkx2 := mul_in (x := k) (y := x2) (A := 240) (B := 480) hk9 bx2 (by decide) (by decide)
          refine ix_lsub hx hb dX2_divides_216 ?_
          refine lv_lstore (lv' := [(7, .long (lI (((R 2) - (b * x1)) - (k * x2)))), (6, .int (iI 2)), (5, .int (iI 4)), (4, .int (iI 2)), (0, .ref x), (1, .int (iI a)), (2, .int (iI b)), (3, .int (iI k))]) hx hb dX2_divides_217 hl (by decide) rfl (fun ls hl => ?_)
          refine lv_iload hx hb dX2_divides_219 (lv_at hl 1 rfl) ?_
          refine ix_iconst (n := 2) hx hb dX2_divides_221 ?_
          refine ix_icmp_ge (tgt := 234) hx hb dX2_divides_222 (by decide) (by decide) (by decide) (fun _ => ?_) (fun c103 => absurd c103 (by decide))
          refine lv_lload hx hb dX2_divides_234 (lv_at hl 0 rfl) ?_
          refine lv_iload_n hx hb dX2_divides_236 rfl (lv_at hl 5 rfl) ?_
          refine ix_i2l hx hb dX2_divides_237 (by omega) ?_
          refine ix_lrem hx hb dX2_divides_238 (by omega) (by omega) (by omega) ?_
          refine ix_lconst0 hx hb dX2_divides_239 ?_
          refine ix_lc_eq (tgt := 246) hx hb dX2_divides_240 dX2_divides_241 (by decide) (by have := tmod_in (x := (((R 2) - (b * x1)) - (k * x2))) (y := a) (A := 100000000000000) (by omega); omega) (by decide) (fun c104 => ?_) (fun c104 => ?_)
          · refine lv_aload_n hx hb dX2_divides_246 rfl (lv_at hl 4 rfl) ?_
            refine va_get (D := (dC, dI)) (ci := 2) (v := .ref d) (C := RX2) (T := TX2) (N := 17) hx hb hw inX2 hown hK hP 0 rfl rfl 3 (by decide) (hw _ mA_384) (fun _ h9 => h9) rfl dX2_divides_247 ?_
            refine lv_iload hx hb dX2_divides_250 (lv_at hl 1 rfl) ?_
            refine ix_iconst (n := 2) hx hb dX2_divides_252 ?_
            refine ix_isub hx hb dX2_divides_253 ?_
            refine ix_z (y := 0) rfl ?_
            refine lv_lload hx hb dX2_divides_254 (lv_at hl 0 rfl) ?_
            refine lv_iload_n hx hb dX2_divides_256 rfl (lv_at hl 5 rfl) ?_
            refine ix_i2l hx hb dX2_divides_257 (by omega) ?_
            refine ix_ldiv hx hb dX2_divides_258 (by omega) (by omega) (by omega) (by omega) ?_
            have f0 : a * Int.tdiv (((R 2) - (b * x1)) - (k * x2)) a = ((R 2) - (b * x1)) - (k * x2) := tdiv_mul (by omega)
            have bx0 := tdiv_in (x := ((R 2) - (b * x1)) - (k * x2)) (y := a) (A := 27878880) (by omega)
            generalize Int.tdiv (((R 2) - (b * x1)) - (k * x2)) a = x0 at f0 bx0 ⊢
            refine ix_last (k := 0) (x := x0) hx hb hK hP hD hS 2 0 rfl rfl (by decide) (by decide) (by decide) dX2_divides_259 (fun H locs hP hD hS => ?_)
            have hP : va_P (dC, dI) vwCl [(x, .inr (2, [.int (iI cd), .ref n, .ref r, .ref d, .int (iI cn), .int (iI fc), .ref ya, .ref yb, .ref yc, .ref yo, .long (lI (X 0)), .long (lI (X 1)), .long (lI (X 2)), .long (lI (X 3)), .long (lI (X 4)), .long (lI (X 5)), .long (lI (X 6))])), (r, .inl (cJ, 5, .inr (.inl (aL R)))), (d, .inl (cJ, 5, .inr (.inl (aL (iu (p4 0 x1 x2 0) 0 x0)))))] H := hP
            have hD : va_D A [(x, .inr (2, [.int (iI cd), .ref n, .ref r, .ref d, .int (iI cn), .int (iI fc), .ref ya, .ref yb, .ref yc, .ref yo, .long (lI (X 0)), .long (lI (X 1)), .long (lI (X 2)), .long (lI (X 3)), .long (lI (X 4)), .long (lI (X 5)), .long (lI (X 6))])), (r, .inl (cJ, 5, .inr (.inl (aL R)))), (d, .inl (cJ, 5, .inr (.inl (aL (iu (p4 0 x1 x2 0) 0 x0)))))] := hD
            rw [p4_0] at hP hD
            refine ix_iinc (k := 1) (lv2 := [(6, .int (iI 1)), (7, .long (lI (((R 2) - (b * x1)) - (k * x2)))), (5, .int (iI 4)), (4, .int (iI 2)), (0, .ref x), (1, .int (iI a)), (2, .int (iI b)), (3, .int (iI k))]) hx hb dX2_divides_260 hl rfl (by decide) rfl (fun ls hl => ?_)
            refine lv_goto (tgt := 53) hx hb dX2_divides_263 (by decide) ?_
            refine lv_iload hx hb dX2_divides_53 (lv_at hl 0 rfl) ?_
            refine ix_if_lt (tgt := 266) hx hb dX2_divides_55 (by decide) (by decide) (fun c105 => absurd c105 (by decide)) (fun _ => ?_)
            refine lv_aload_n hx hb dX2_divides_58 rfl (lv_at hl 4 rfl) ?_
            refine va_get (D := (dC, dI)) (ci := 2) (v := .ref r) (C := RX2) (T := TX2) (N := 17) hx hb hw inX2 hown hK hP 0 rfl rfl 2 (by decide) (hw _ mA_383) (fun _ h9 => h9) rfl dX2_divides_59 ?_
            refine lv_iload hx hb dX2_divides_62 (lv_at hl 0 rfl) ?_
            refine ix_lald (k := 1) hx hb hK hP 1 0 rfl rfl (by decide) (by decide) (by decide) dX2_divides_64 ?_
            refine lv_lstore (lv' := [(7, .long (lI (R 1))), (6, .int (iI 1)), (5, .int (iI 4)), (4, .int (iI 2)), (0, .ref x), (1, .int (iI a)), (2, .int (iI b)), (3, .int (iI k))]) hx hb dX2_divides_65 hl (by decide) rfl (fun ls hl => ?_)
            refine lv_iload hx hb dX2_divides_67 (lv_at hl 3 rfl) ?_
            refine ix_iconst (n := 1) hx hb dX2_divides_69 ?_
            refine ix_icmp_ne (tgt := 142) hx hb dX2_divides_70 (by decide) (by decide) (by decide) (fun _ => ?_) (fun c106 => absurd c106 (by decide))
            refine lv_iload hx hb dX2_divides_142 (lv_at hl 1 rfl) ?_
            refine ix_iconst (n := 1) hx hb dX2_divides_144 ?_
            refine ix_isub hx hb dX2_divides_145 ?_
            refine ix_z (y := 0) rfl ?_
            refine ix_if_lt (tgt := 173) hx hb dX2_divides_146 (by decide) (by decide) (fun c107 => absurd c107 (by decide)) (fun _ => ?_)
            refine lv_iload hx hb dX2_divides_149 (lv_at hl 1 rfl) ?_
            refine lv_iload hx hb dX2_divides_151 (lv_at hl 2 rfl) ?_
            refine ix_icmp_ge (tgt := 173) hx hb dX2_divides_153 (by decide) (by decide) (by decide) (fun c108 => absurd c108 (by decide)) (fun _ => ?_)
            refine lv_lload hx hb dX2_divides_156 (lv_at hl 0 rfl) ?_
            refine lv_iload_n hx hb dX2_divides_158 rfl (lv_at hl 6 rfl) ?_
            refine ix_i2l hx hb dX2_divides_159 (by omega) ?_
            refine lv_aload_n hx hb dX2_divides_160 rfl (lv_at hl 4 rfl) ?_
            refine va_get (D := (dC, dI)) (ci := 2) (v := .ref d) (C := RX2) (T := TX2) (N := 17) hx hb hw inX2 hown hK hP 0 rfl rfl 3 (by decide) (hw _ mA_384) (fun _ h9 => h9) rfl dX2_divides_161 ?_
            refine lv_iload hx hb dX2_divides_164 (lv_at hl 1 rfl) ?_
            refine ix_iconst (n := 1) hx hb dX2_divides_166 ?_
            refine ix_isub hx hb dX2_divides_167 ?_
            refine ix_z (y := 0) rfl ?_
            refine ix_lald (k := 0) hx hb hK hP 2 0 rfl rfl (by decide) (by decide) (by decide) dX2_divides_168 ?_
            refine ix_zl (y := x0) rfl ?_
            refine ix_lmul hx hb dX2_divides_169 ?_
            have mbx0 := mul_in (x := b) (y := x0) (A := 240) (B := 27878880) hb9 bx0 (by decide) (by decide)
            refine ix_lsub hx hb dX2_divides_170 ?_
            refine lv_lstore (lv' := [(7, .long (lI ((R 1) - (b * x0)))), (6, .int (iI 1)), (5, .int (iI 4)), (4, .int (iI 2)), (0, .ref x), (1, .int (iI a)), (2, .int (iI b)), (3, .int (iI k))]) hx hb dX2_divides_171 hl (by decide) rfl (fun ls hl => ?_)
            refine lv_iload hx hb dX2_divides_173 (lv_at hl 1 rfl) ?_
            refine ix_if_ne (tgt := 195) hx hb dX2_divides_175 (by decide) (by decide) (fun _ => ?_) (fun c109 => absurd c109 (by decide))
            refine lv_iload hx hb dX2_divides_195 (lv_at hl 1 rfl) ?_
            refine lv_iload hx hb dX2_divides_197 (lv_at hl 2 rfl) ?_
            refine ix_iconst (n := 2) hx hb dX2_divides_199 ?_
            refine ix_isub hx hb dX2_divides_200 ?_
            refine ix_z (y := 2) rfl ?_
            refine ix_icmp_gt (tgt := 219) hx hb dX2_divides_201 (by decide) (by decide) (by decide) (fun c110 => absurd c110 (by decide)) (fun _ => ?_)
            refine lv_lload hx hb dX2_divides_204 (lv_at hl 0 rfl) ?_
            refine lv_iload_n hx hb dX2_divides_206 rfl (lv_at hl 7 rfl) ?_
            refine ix_i2l hx hb dX2_divides_207 (by omega) ?_
            refine lv_aload_n hx hb dX2_divides_208 rfl (lv_at hl 4 rfl) ?_
            refine va_get (D := (dC, dI)) (ci := 2) (v := .ref d) (C := RX2) (T := TX2) (N := 17) hx hb hw inX2 hown hK hP 0 rfl rfl 3 (by decide) (hw _ mA_384) (fun _ h9 => h9) rfl dX2_divides_209 ?_
            refine lv_iload hx hb dX2_divides_212 (lv_at hl 1 rfl) ?_
            refine ix_lald (k := 1) hx hb hK hP 2 0 rfl rfl (by decide) (by decide) (by decide) dX2_divides_214 ?_
            refine ix_zl (y := x1) rfl ?_
            refine ix_lmul hx hb dX2_divides_215 ?_
            have mkx1 := mul_in (x := k) (y := x1) (A := 240) (B := 115680) hk9 bx1 (by decide) (by decide)
            refine ix_lsub hx hb dX2_divides_216 ?_
            refine lv_lstore (lv' := [(7, .long (lI (((R 1) - (b * x0)) - (k * x1)))), (6, .int (iI 1)), (5, .int (iI 4)), (4, .int (iI 2)), (0, .ref x), (1, .int (iI a)), (2, .int (iI b)), (3, .int (iI k))]) hx hb dX2_divides_217 hl (by decide) rfl (fun ls hl => ?_)
            refine lv_iload hx hb dX2_divides_219 (lv_at hl 1 rfl) ?_
            refine ix_iconst (n := 2) hx hb dX2_divides_221 ?_
            refine ix_icmp_ge (tgt := 234) hx hb dX2_divides_222 (by decide) (by decide) (by decide) (fun c111 => absurd c111 (by decide)) (fun _ => ?_)
            refine lv_lload hx hb dX2_divides_225 (lv_at hl 0 rfl) ?_
            refine ix_lconst0 hx hb dX2_divides_227 ?_
            refine ix_lc_eq (tgt := 260) hx hb dX2_divides_228 dX2_divides_229 (by decide) (by omega) (by decide) (fun c112 => ?_) (fun c112 => ?_)
            · refine ix_iinc (k := 1) (lv2 := [(6, .int (iI 0)), (7, .long (lI (((R 1) - (b * x0)) - (k * x1)))), (5, .int (iI 4)), (4, .int (iI 2)), (0, .ref x), (1, .int (iI a)), (2, .int (iI b)), (3, .int (iI k))]) hx hb dX2_divides_260 hl rfl (by decide) rfl (fun ls hl => ?_)
              refine lv_goto (tgt := 53) hx hb dX2_divides_263 (by decide) ?_
              refine lv_iload hx hb dX2_divides_53 (lv_at hl 0 rfl) ?_
              refine ix_if_lt (tgt := 266) hx hb dX2_divides_55 (by decide) (by decide) (fun c113 => absurd c113 (by decide)) (fun _ => ?_)
              refine lv_aload_n hx hb dX2_divides_58 rfl (lv_at hl 4 rfl) ?_
              refine va_get (D := (dC, dI)) (ci := 2) (v := .ref r) (C := RX2) (T := TX2) (N := 17) hx hb hw inX2 hown hK hP 0 rfl rfl 2 (by decide) (hw _ mA_383) (fun _ h9 => h9) rfl dX2_divides_59 ?_
              refine lv_iload hx hb dX2_divides_62 (lv_at hl 0 rfl) ?_
              refine ix_lald (k := 0) hx hb hK hP 1 0 rfl rfl (by decide) (by decide) (by decide) dX2_divides_64 ?_
              refine lv_lstore (lv' := [(7, .long (lI (R 0))), (6, .int (iI 0)), (5, .int (iI 4)), (4, .int (iI 2)), (0, .ref x), (1, .int (iI a)), (2, .int (iI b)), (3, .int (iI k))]) hx hb dX2_divides_65 hl (by decide) rfl (fun ls hl => ?_)
              refine lv_iload hx hb dX2_divides_67 (lv_at hl 3 rfl) ?_
              refine ix_iconst (n := 1) hx hb dX2_divides_69 ?_
              refine ix_icmp_ne (tgt := 142) hx hb dX2_divides_70 (by decide) (by decide) (by decide) (fun _ => ?_) (fun c114 => absurd c114 (by decide))
              refine lv_iload hx hb dX2_divides_142 (lv_at hl 1 rfl) ?_
              refine ix_iconst (n := 1) hx hb dX2_divides_144 ?_
              refine ix_isub hx hb dX2_divides_145 ?_
              refine ix_z (y := (-1)) rfl ?_
              refine ix_if_lt (tgt := 173) hx hb dX2_divides_146 (by decide) (by decide) (fun _ => ?_) (fun c115 => absurd c115 (by decide))
              refine lv_iload hx hb dX2_divides_173 (lv_at hl 1 rfl) ?_
              refine ix_if_ne (tgt := 195) hx hb dX2_divides_175 (by decide) (by decide) (fun c116 => absurd c116 (by decide)) (fun _ => ?_)
              refine lv_lload hx hb dX2_divides_178 (lv_at hl 0 rfl) ?_
              refine lv_iload_n hx hb dX2_divides_180 rfl (lv_at hl 7 rfl) ?_
              refine ix_i2l hx hb dX2_divides_181 (by omega) ?_
              refine lv_aload_n hx hb dX2_divides_182 rfl (lv_at hl 4 rfl) ?_
              refine va_get (D := (dC, dI)) (ci := 2) (v := .ref d) (C := RX2) (T := TX2) (N := 17) hx hb hw inX2 hown hK hP 0 rfl rfl 3 (by decide) (hw _ mA_384) (fun _ h9 => h9) rfl dX2_divides_183 ?_
              refine ix_iconst (n := 0) hx hb dX2_divides_186 ?_
              refine ix_lald (k := 0) hx hb hK hP 2 0 rfl rfl (by decide) (by decide) (by decide) dX2_divides_187 ?_
              refine ix_zl (y := x0) rfl ?_
              refine ix_lmul hx hb dX2_divides_188 ?_
              have mkx0 := mul_in (x := k) (y := x0) (A := 240) (B := 27878880) hk9 bx0 (by decide) (by decide)
              refine ix_lsub hx hb dX2_divides_189 ?_
              refine lv_lstore (lv' := [(7, .long (lI ((R 0) - (k * x0)))), (6, .int (iI 0)), (5, .int (iI 4)), (4, .int (iI 2)), (0, .ref x), (1, .int (iI a)), (2, .int (iI b)), (3, .int (iI k))]) hx hb dX2_divides_190 hl (by decide) rfl (fun ls hl => ?_)
              refine lv_goto (tgt := 219) hx hb dX2_divides_192 (by decide) ?_
              refine lv_iload hx hb dX2_divides_219 (lv_at hl 1 rfl) ?_
              refine ix_iconst (n := 2) hx hb dX2_divides_221 ?_
              refine ix_icmp_ge (tgt := 234) hx hb dX2_divides_222 (by decide) (by decide) (by decide) (fun c117 => absurd c117 (by decide)) (fun _ => ?_)
              refine lv_lload hx hb dX2_divides_225 (lv_at hl 0 rfl) ?_
              refine ix_lconst0 hx hb dX2_divides_227 ?_
              refine ix_lc_eq (tgt := 260) hx hb dX2_divides_228 dX2_divides_229 (by decide) (by omega) (by decide) (fun c118 => ?_) (fun c118 => ?_)
              · refine ix_iinc (k := 1) (lv2 := [(6, .int (iI (-1))), (7, .long (lI ((R 0) - (k * x0)))), (5, .int (iI 4)), (4, .int (iI 2)), (0, .ref x), (1, .int (iI a)), (2, .int (iI b)), (3, .int (iI k))]) hx hb dX2_divides_260 hl rfl (by decide) rfl (fun ls hl => ?_)
                refine lv_goto (tgt := 53) hx hb dX2_divides_263 (by decide) ?_
                refine lv_iload hx hb dX2_divides_53 (lv_at hl 0 rfl) ?_
                refine ix_if_lt (tgt := 266) hx hb dX2_divides_55 (by decide) (by decide) (fun _ => ?_) (fun c119 => absurd c119 (by decide))
                refine ix_iconst (n := 1) hx hb dX2_divides_266 ?_
                have hdv : dvs a b k R (p4 x0 x1 x2 0) := dvs_p4 hR5 (by omega) (by omega) (by omega) (by omega) (by omega) (by omega)
                have hP9 := hP.sub (ws' := [(x, .inr (2, [.int (iI cd), .ref n, .ref r, .ref d, .int (iI cn), .int (iI fc), .ref ya, .ref yb, .ref yc, .ref yo, .long (lI (X 0)), .long (lI (X 1)), .long (lI (X 2)), .long (lI (X 3)), .long (lI (X 4)), .long (lI (X 5)), .long (lI (X 6))])), (r, .inl (cJ, 5, .inr (.inl (aL R)))), (d, .inl (cJ, 5, .inr (.inl (aL (p4 x0 x1 x2 0)))))]) [0, 1, 2] rfl
                have hD9 := hD.sub (ws' := [(x, .inr (2, [.int (iI cd), .ref n, .ref r, .ref d, .int (iI cn), .int (iI fc), .ref ya, .ref yb, .ref yc, .ref yo, .long (lI (X 0)), .long (lI (X 1)), .long (lI (X 2)), .long (lI (X 3)), .long (lI (X 4)), .long (lI (X 5)), .long (lI (X 6))])), (r, .inl (cJ, 5, .inr (.inl (aL R)))), (d, .inl (cJ, 5, .inr (.inl (aL (p4 x0 x1 x2 0)))))]) [0, 1, 2] (by decide) rfl
                have hK9 := hK.sub (tys' := [(cJ, .long)]) [0] rfl
                exact W.zret (v := iI 1) hx hb hr (by decide) (fun t ht hW => ⟨⟨iI 1, (p4 x0 x1 x2 0), rfl, ⟨p4_n5 _ _ _ _, Or.inl ⟨rfl, hdv⟩⟩, by rw [ht]; exact hP9, va_K.moved hW.alike hK9, hD9⟩, hS.F ht⟩) hS.2.2 dX2_divides_267
              · refine ix_iconst (n := 0) hx hb dX2_divides_232 ?_
                have hno : ¬ ∃ Q, n5 Q ∧ dvs a b k R Q := by
                  rintro ⟨T, hT, hd⟩
                  obtain ⟨e4, e3, e2, e1, e0, -, -⟩ := qua_eqs (by omega) hR5 hT hd
                  have t2 : T 2 = x2 := mul_cn (b := a) (by omega) (by omega)
                  have t1 : T 1 = x1 := mul_cn (b := a) (by omega) (by rw [t2] at e3; omega)
                  have t0 : T 0 = x0 := mul_cn (b := a) (by omega) (by rw [t1] at e2; rw [t2] at e2; omega)
                  rw [t0] at e0
                  omega
                have hP9 := hP.sub (ws' := [(x, .inr (2, [.int (iI cd), .ref n, .ref r, .ref d, .int (iI cn), .int (iI fc), .ref ya, .ref yb, .ref yc, .ref yo, .long (lI (X 0)), .long (lI (X 1)), .long (lI (X 2)), .long (lI (X 3)), .long (lI (X 4)), .long (lI (X 5)), .long (lI (X 6))])), (r, .inl (cJ, 5, .inr (.inl (aL R)))), (d, .inl (cJ, 5, .inr (.inl (aL (p4 x0 x1 x2 0)))))]) [0, 1, 2] rfl
                have hD9 := hD.sub (ws' := [(x, .inr (2, [.int (iI cd), .ref n, .ref r, .ref d, .int (iI cn), .int (iI fc), .ref ya, .ref yb, .ref yc, .ref yo, .long (lI (X 0)), .long (lI (X 1)), .long (lI (X 2)), .long (lI (X 3)), .long (lI (X 4)), .long (lI (X 5)), .long (lI (X 6))])), (r, .inl (cJ, 5, .inr (.inl (aL R)))), (d, .inl (cJ, 5, .inr (.inl (aL (p4 x0 x1 x2 0)))))]) [0, 1, 2] (by decide) rfl
                have hK9 := hK.sub (tys' := [(cJ, .long)]) [0] rfl
                exact W.zret (v := iI 0) hx hb hr (by decide) (fun t ht hW => ⟨⟨iI 0, (p4 x0 x1 x2 0), rfl, ⟨p4_n5 _ _ _ _, Or.inr ⟨rfl, hno⟩⟩, by rw [ht]; exact hP9, va_K.moved hW.alike hK9, hD9⟩, hS.F ht⟩) hS.2.2 dX2_divides_233
            · refine ix_iconst (n := 0) hx hb dX2_divides_232 ?_
              have hno : ¬ ∃ Q, n5 Q ∧ dvs a b k R Q := by
                rintro ⟨T, hT, hd⟩
                obtain ⟨e4, e3, e2, e1, e0, -, -⟩ := qua_eqs (by omega) hR5 hT hd
                have t2 : T 2 = x2 := mul_cn (b := a) (by omega) (by omega)
                have t1 : T 1 = x1 := mul_cn (b := a) (by omega) (by rw [t2] at e3; omega)
                have t0 : T 0 = x0 := mul_cn (b := a) (by omega) (by rw [t1] at e2; rw [t2] at e2; omega)
                rw [t0] at e1
                rw [t1] at e1
                omega
              have hP9 := hP.sub (ws' := [(x, .inr (2, [.int (iI cd), .ref n, .ref r, .ref d, .int (iI cn), .int (iI fc), .ref ya, .ref yb, .ref yc, .ref yo, .long (lI (X 0)), .long (lI (X 1)), .long (lI (X 2)), .long (lI (X 3)), .long (lI (X 4)), .long (lI (X 5)), .long (lI (X 6))])), (r, .inl (cJ, 5, .inr (.inl (aL R)))), (d, .inl (cJ, 5, .inr (.inl (aL (p4 x0 x1 x2 0)))))]) [0, 1, 2] rfl
              have hD9 := hD.sub (ws' := [(x, .inr (2, [.int (iI cd), .ref n, .ref r, .ref d, .int (iI cn), .int (iI fc), .ref ya, .ref yb, .ref yc, .ref yo, .long (lI (X 0)), .long (lI (X 1)), .long (lI (X 2)), .long (lI (X 3)), .long (lI (X 4)), .long (lI (X 5)), .long (lI (X 6))])), (r, .inl (cJ, 5, .inr (.inl (aL R)))), (d, .inl (cJ, 5, .inr (.inl (aL (p4 x0 x1 x2 0)))))]) [0, 1, 2] (by decide) rfl
              have hK9 := hK.sub (tys' := [(cJ, .long)]) [0] rfl
              exact W.zret (v := iI 0) hx hb hr (by decide) (fun t ht hW => ⟨⟨iI 0, (p4 x0 x1 x2 0), rfl, ⟨p4_n5 _ _ _ _, Or.inr ⟨rfl, hno⟩⟩, by rw [ht]; exact hP9, va_K.moved hW.alike hK9, hD9⟩, hS.F ht⟩) hS.2.2 dX2_divides_233
          · refine ix_iconst (n := 0) hx hb dX2_divides_244 ?_
            have hno : ¬ ∃ Q, n5 Q ∧ dvs a b k R Q := by
              rintro ⟨T, hT, hd⟩
              obtain ⟨e4, e3, e2, e1, e0, -, -⟩ := qua_eqs (by omega) hR5 hT hd
              have t2 : T 2 = x2 := mul_cn (b := a) (by omega) (by omega)
              have t1 : T 1 = x1 := mul_cn (b := a) (by omega) (by rw [t2] at e3; omega)
              rw [t1] at e2
              rw [t2] at e2
              exact c104 (tdiv_of (hi := a) (q := T 0) (by omega) (by omega)).1
            have hP9 := hP.sub (ws' := [(x, .inr (2, [.int (iI cd), .ref n, .ref r, .ref d, .int (iI cn), .int (iI fc), .ref ya, .ref yb, .ref yc, .ref yo, .long (lI (X 0)), .long (lI (X 1)), .long (lI (X 2)), .long (lI (X 3)), .long (lI (X 4)), .long (lI (X 5)), .long (lI (X 6))])), (r, .inl (cJ, 5, .inr (.inl (aL R)))), (d, .inl (cJ, 5, .inr (.inl (aL (p4 0 x1 x2 0)))))]) [0, 1, 2] rfl
            have hD9 := hD.sub (ws' := [(x, .inr (2, [.int (iI cd), .ref n, .ref r, .ref d, .int (iI cn), .int (iI fc), .ref ya, .ref yb, .ref yc, .ref yo, .long (lI (X 0)), .long (lI (X 1)), .long (lI (X 2)), .long (lI (X 3)), .long (lI (X 4)), .long (lI (X 5)), .long (lI (X 6))])), (r, .inl (cJ, 5, .inr (.inl (aL R)))), (d, .inl (cJ, 5, .inr (.inl (aL (p4 0 x1 x2 0)))))]) [0, 1, 2] (by decide) rfl
            have hK9 := hK.sub (tys' := [(cJ, .long)]) [0] rfl
            exact W.zret (v := iI 0) hx hb hr (by decide) (fun t ht hW => ⟨⟨iI 0, (p4 0 x1 x2 0), rfl, ⟨p4_n5 _ _ _ _, Or.inr ⟨rfl, hno⟩⟩, by rw [ht]; exact hP9, va_K.moved hW.alike hK9, hD9⟩, hS.F ht⟩) hS.2.2 dX2_divides_245
        · refine ix_iconst (n := 0) hx hb dX2_divides_244 ?_
          have hno : ¬ ∃ Q, n5 Q ∧ dvs a b k R Q := by
            rintro ⟨T, hT, hd⟩
            obtain ⟨e4, e3, e2, e1, e0, -, -⟩ := qua_eqs (by omega) hR5 hT hd
            have t2 : T 2 = x2 := mul_cn (b := a) (by omega) (by omega)
            rw [t2] at e3
            exact c96 (tdiv_of (hi := a) (q := T 1) (by omega) (by omega)).1
          have hP9 := hP.sub (ws' := [(x, .inr (2, [.int (iI cd), .ref n, .ref r, .ref d, .int (iI cn), .int (iI fc), .ref ya, .ref yb, .ref yc, .ref yo, .long (lI (X 0)), .long (lI (X 1)), .long (lI (X 2)), .long (lI (X 3)), .long (lI (X 4)), .long (lI (X 5)), .long (lI (X 6))])), (r, .inl (cJ, 5, .inr (.inl (aL R)))), (d, .inl (cJ, 5, .inr (.inl (aL (p4 0 0 x2 0)))))]) [0, 1, 2] rfl
          have hD9 := hD.sub (ws' := [(x, .inr (2, [.int (iI cd), .ref n, .ref r, .ref d, .int (iI cn), .int (iI fc), .ref ya, .ref yb, .ref yc, .ref yo, .long (lI (X 0)), .long (lI (X 1)), .long (lI (X 2)), .long (lI (X 3)), .long (lI (X 4)), .long (lI (X 5)), .long (lI (X 6))])), (r, .inl (cJ, 5, .inr (.inl (aL R)))), (d, .inl (cJ, 5, .inr (.inl (aL (p4 0 0 x2 0)))))]) [0, 1, 2] (by decide) rfl
          have hK9 := hK.sub (tys' := [(cJ, .long)]) [0] rfl
          exact W.zret (v := iI 0) hx hb hr (by decide) (fun t ht hW => ⟨⟨iI 0, (p4 0 0 x2 0), rfl, ⟨p4_n5 _ _ _ _, Or.inr ⟨rfl, hno⟩⟩, by rw [ht]; exact hP9, va_K.moved hW.alike hK9, hD9⟩, hS.F ht⟩) hS.2.2 dX2_divides_245
      · refine ix_iconst (n := 0) hx hb dX2_divides_244 ?_
        have hno : ¬ ∃ Q, n5 Q ∧ dvs a b k R Q := by
          rintro ⟨T, hT, hd⟩
          obtain ⟨e4, e3, e2, e1, e0, -, -⟩ := qua_eqs (by omega) hR5 hT hd
          exact c88 (tdiv_of (hi := a) (q := T 2) (by omega) (by omega)).1
        have hP9 := hP.sub (ws' := [(x, .inr (2, [.int (iI cd), .ref n, .ref r, .ref d, .int (iI cn), .int (iI fc), .ref ya, .ref yb, .ref yc, .ref yo, .long (lI (X 0)), .long (lI (X 1)), .long (lI (X 2)), .long (lI (X 3)), .long (lI (X 4)), .long (lI (X 5)), .long (lI (X 6))])), (r, .inl (cJ, 5, .inr (.inl (aL R)))), (d, .inl (cJ, 5, .inr (.inl (aL (p4 0 0 0 0)))))]) [0, 1, 2] rfl
        have hD9 := hD.sub (ws' := [(x, .inr (2, [.int (iI cd), .ref n, .ref r, .ref d, .int (iI cn), .int (iI fc), .ref ya, .ref yb, .ref yc, .ref yo, .long (lI (X 0)), .long (lI (X 1)), .long (lI (X 2)), .long (lI (X 3)), .long (lI (X 4)), .long (lI (X 5)), .long (lI (X 6))])), (r, .inl (cJ, 5, .inr (.inl (aL R)))), (d, .inl (cJ, 5, .inr (.inl (aL (p4 0 0 0 0)))))]) [0, 1, 2] (by decide) rfl
        have hK9 := hK.sub (tys' := [(cJ, .long)]) [0] rfl
        exact W.zret (v := iI 0) hx hb hr (by decide) (fun t ht hW => ⟨⟨iI 0, (p4 0 0 0 0), rfl, ⟨p4_n5 _ _ _ _, Or.inr ⟨rfl, hno⟩⟩, by rw [ht]; exact hP9, va_K.moved hW.alike hK9, hD9⟩, hS.F ht⟩) hS.2.2 dX2_divides_245
  · have ha0 : a = 0 := c1
    refine ix_iconst (n := 1) hx hb dX2_divides_4 ?_
    refine lv_goto (tgt := 9) hx hb dX2_divides_5 (by decide) ?_
    refine lv_istore (lv' := [(4, .int (iI 1)), (0, .ref x), (1, .int (iI a)), (2, .int (iI b)), (3, .int (iI k))]) hx hb dX2_divides_9 hl (by decide) rfl (fun ls hl => ?_)
    refine lv_aload_n hx hb dX2_divides_11 rfl (lv_at hl 1 rfl) ?_
    have hPc := hP.sub (ws' := [(x, .inr (2, [.int (iI cd), .ref n, .ref r, .ref d, .int (iI cn), .int (iI fc), .ref ya, .ref yb, .ref yc, .ref yo, .long (lI (X 0)), .long (lI (X 1)), .long (lI (X 2)), .long (lI (X 3)), .long (lI (X 4)), .long (lI (X 5)), .long (lI (X 6))])), (r, .inl (cJ, 5, .inr (.inl (aL R))))]) [0, 1] rfl
    have hKc := hK.sub (tys' := [(cJ, .long)]) [0] rfl
    refine vp_callSi (W.runV (As := []) (rest := []) ⟨hx, hb, hml, hown, hw⟩ (kX2_restDegree l dC dI x n r d ya yb yc yo cI cJ cd cn fc X R (fun j => ⟨by have := (hRb j).1; omega, by have := (hRb j).2; omega⟩) h0) (cwV 0 hw (gV mA_496 mA_498 mP_24 mA_3 mA_499) rfl rfl rfl (by decide +kernel) ⟨Nat.le_of_ble_eq_true rfl, Nat.le_of_ble_eq_true rfl⟩) ⟨fun a U g mk q => by obtain ⟨q0, qP, qK⟩ := q; exact ⟨q0, qP, va_K.moved (u := U) (U := U.calling g mk a) (Vm.Alike.refl U.vm) qK⟩, va_recv hKc hPc (ci := 2) (q0 := 0) rfl rfl, fun U hU hW => ⟨rfl, by rw [hU]; exact hPc, va_K.moved hW.alike hKc⟩⟩ rfl rfl hl.1 rfl (lv_room (Nat.le_of_ble_eq_true rfl)) dX2_divides_12 ⟨Nat.le_of_ble_eq_true rfl, Nat.le_of_ble_eq_true rfl⟩) (fun r120 h121 => ?_)
    subst h121
    have hdc := deg_c R
    refine lv_istore (lv' := [(5, .int (iI (f_deg R))), (4, .int (iI 1)), (0, .ref x), (1, .int (iI a)), (2, .int (iI b)), (3, .int (iI k))]) hx hb dX2_divides_15 hl (by decide) rfl (fun ls hl => ?_)
    rcases (show f_deg R = 0 ∨ f_deg R = 1 ∨ f_deg R = 2 ∨ f_deg R = 3 ∨ f_deg R = 4 by omega) with hn | hn | hn | hn | hn
    · rw [hn] at hl
      have z1 : R 1 = 0 := hdc.2.2.1 1 (by omega) (by omega)
      have z2 : R 2 = 0 := hdc.2.2.1 2 (by omega) (by omega)
      have z3 : R 3 = 0 := hdc.2.2.1 3 (by omega) (by omega)
      have z4 : R 4 = 0 := hdc.2.2.1 4 (by omega) (by omega)
      have b0 : -480 ≤ R 0 ∧ R 0 ≤ 480 := hRb 0
      refine lv_iload hx hb dX2_divides_17 (lv_at hl 0 rfl) ?_
      refine lv_iload hx hb dX2_divides_19 (lv_at hl 1 rfl) ?_
      refine ix_icmp_ge (tgt := 26) hx hb dX2_divides_21 (by decide) (by decide) (by decide) (fun c122 => absurd c122 (by decide)) (fun _ => ?_)
      refine ix_iconst (n := 0) hx hb dX2_divides_24 ?_
      have hno : ¬ ∃ Q, n5 Q ∧ dvs a b k R Q := by
        rintro ⟨T, hT, hd⟩
        obtain ⟨g1, g2, -⟩ := deg_dvs hab hR5 hT hd h0
        by_cases z : a = 0
        · rw [if_pos z] at g2; omega
        · rw [if_neg z] at g2; omega
      have hP9 := hP.sub (ws' := [(x, .inr (2, [.int (iI cd), .ref n, .ref r, .ref d, .int (iI cn), .int (iI fc), .ref ya, .ref yb, .ref yc, .ref yo, .long (lI (X 0)), .long (lI (X 1)), .long (lI (X 2)), .long (lI (X 3)), .long (lI (X 4)), .long (lI (X 5)), .long (lI (X 6))])), (r, .inl (cJ, 5, .inr (.inl (aL R)))), (d, .inl (cJ, 5, .inr (.inl (aL D))))]) [0, 1, 2] rfl
      have hD9 := hD.sub (ws' := [(x, .inr (2, [.int (iI cd), .ref n, .ref r, .ref d, .int (iI cn), .int (iI fc), .ref ya, .ref yb, .ref yc, .ref yo, .long (lI (X 0)), .long (lI (X 1)), .long (lI (X 2)), .long (lI (X 3)), .long (lI (X 4)), .long (lI (X 5)), .long (lI (X 6))])), (r, .inl (cJ, 5, .inr (.inl (aL R)))), (d, .inl (cJ, 5, .inr (.inl (aL D))))]) [0, 1, 2] (by decide) rfl
      have hK9 := hK.sub (tys' := [(cJ, .long)]) [0] rfl
      exact W.zret (v := iI 0) hx hb hr (by decide) (fun t ht hW => ⟨⟨iI 0, (D), rfl, ⟨hD5, Or.inr ⟨rfl, hno⟩⟩, by rw [ht]; exact hP9, va_K.moved hW.alike hK9, hD9⟩, hS.F ht⟩) hS.2.2 dX2_divides_25
    · rw [hn] at hl
      have z2 : R 2 = 0 := hdc.2.2.1 2 (by omega) (by omega)
      have z3 : R 3 = 0 := hdc.2.2.1 3 (by omega) (by omega)
      have z4 : R 4 = 0 := hdc.2.2.1 4 (by omega) (by omega)
      have b0 : -480 ≤ R 0 ∧ R 0 ≤ 480 := hRb 0
      have b1 : -480 ≤ R 1 ∧ R 1 ≤ 480 := hRb 1
      refine lv_iload hx hb dX2_divides_17 (lv_at hl 0 rfl) ?_
      refine lv_iload hx hb dX2_divides_19 (lv_at hl 1 rfl) ?_
      refine ix_icmp_ge (tgt := 26) hx hb dX2_divides_21 (by decide) (by decide) (by decide) (fun _ => ?_) (fun c123 => absurd c123 (by decide))
      refine ix_iconst (n := 0) hx hb dX2_divides_26 ?_
      refine lv_istore (lv' := [(6, .int (iI 0)), (5, .int (iI 1)), (4, .int (iI 1)), (0, .ref x), (1, .int (iI a)), (2, .int (iI b)), (3, .int (iI k))]) hx hb dX2_divides_27 hl (by decide) rfl (fun ls hl => ?_)
      refine lv_iload hx hb dX2_divides_29 (lv_at hl 0 rfl) ?_
      refine ix_iconst (n := 5) hx hb dX2_divides_31 ?_
      refine ix_icmp_ge (tgt := 49) hx hb dX2_divides_32 (by decide) (by decide) (by decide) (fun c124 => absurd c124 (by decide)) (fun _ => ?_)
      refine lv_aload_n hx hb dX2_divides_35 rfl (lv_at hl 3 rfl) ?_
      refine va_get (D := (dC, dI)) (ci := 2) (v := .ref d) (C := RX2) (T := TX2) (N := 17) hx hb hw inX2 hown hK hP 0 rfl rfl 3 (by decide) (hw _ mA_384) (fun _ h9 => h9) rfl dX2_divides_36 ?_
      refine lv_iload hx hb dX2_divides_39 (lv_at hl 0 rfl) ?_
      refine ix_lconst0 hx hb dX2_divides_41 ?_
      refine ix_last (k := 0) (x := 0) hx hb hK hP hD hS 2 0 rfl rfl (by decide) (by decide) (by decide) dX2_divides_42 (fun H locs hP hD hS => ?_)
      have hP : va_P (dC, dI) vwCl [(x, .inr (2, [.int (iI cd), .ref n, .ref r, .ref d, .int (iI cn), .int (iI fc), .ref ya, .ref yb, .ref yc, .ref yo, .long (lI (X 0)), .long (lI (X 1)), .long (lI (X 2)), .long (lI (X 3)), .long (lI (X 4)), .long (lI (X 5)), .long (lI (X 6))])), (r, .inl (cJ, 5, .inr (.inl (aL R)))), (d, .inl (cJ, 5, .inr (.inl (aL (iu D 0 0)))))] H := hP
      have hD : va_D A [(x, .inr (2, [.int (iI cd), .ref n, .ref r, .ref d, .int (iI cn), .int (iI fc), .ref ya, .ref yb, .ref yc, .ref yo, .long (lI (X 0)), .long (lI (X 1)), .long (lI (X 2)), .long (lI (X 3)), .long (lI (X 4)), .long (lI (X 5)), .long (lI (X 6))])), (r, .inl (cJ, 5, .inr (.inl (aL R)))), (d, .inl (cJ, 5, .inr (.inl (aL (iu D 0 0)))))] := hD
      refine ix_iinc (k := 0) (lv2 := [(6, .int (iI 1)), (5, .int (iI 1)), (4, .int (iI 1)), (0, .ref x), (1, .int (iI a)), (2, .int (iI b)), (3, .int (iI k))]) hx hb dX2_divides_43 hl rfl (by decide) rfl (fun ls hl => ?_)
      refine lv_goto (tgt := 29) hx hb dX2_divides_46 (by decide) ?_
      refine lv_iload hx hb dX2_divides_29 (lv_at hl 0 rfl) ?_
      refine ix_iconst (n := 5) hx hb dX2_divides_31 ?_
      refine ix_icmp_ge (tgt := 49) hx hb dX2_divides_32 (by decide) (by decide) (by decide) (fun c125 => absurd c125 (by decide)) (fun _ => ?_)
      refine lv_aload_n hx hb dX2_divides_35 rfl (lv_at hl 3 rfl) ?_
      refine va_get (D := (dC, dI)) (ci := 2) (v := .ref d) (C := RX2) (T := TX2) (N := 17) hx hb hw inX2 hown hK hP 0 rfl rfl 3 (by decide) (hw _ mA_384) (fun _ h9 => h9) rfl dX2_divides_36 ?_
      refine lv_iload hx hb dX2_divides_39 (lv_at hl 0 rfl) ?_
      refine ix_lconst0 hx hb dX2_divides_41 ?_
      refine ix_last (k := 1) (x := 0) hx hb hK hP hD hS 2 0 rfl rfl (by decide) (by decide) (by decide) dX2_divides_42 (fun H locs hP hD hS => ?_)
      have hP : va_P (dC, dI) vwCl [(x, .inr (2, [.int (iI cd), .ref n, .ref r, .ref d, .int (iI cn), .int (iI fc), .ref ya, .ref yb, .ref yc, .ref yo, .long (lI (X 0)), .long (lI (X 1)), .long (lI (X 2)), .long (lI (X 3)), .long (lI (X 4)), .long (lI (X 5)), .long (lI (X 6))])), (r, .inl (cJ, 5, .inr (.inl (aL R)))), (d, .inl (cJ, 5, .inr (.inl (aL (iu (iu D 0 0) 1 0)))))] H := hP
      have hD : va_D A [(x, .inr (2, [.int (iI cd), .ref n, .ref r, .ref d, .int (iI cn), .int (iI fc), .ref ya, .ref yb, .ref yc, .ref yo, .long (lI (X 0)), .long (lI (X 1)), .long (lI (X 2)), .long (lI (X 3)), .long (lI (X 4)), .long (lI (X 5)), .long (lI (X 6))])), (r, .inl (cJ, 5, .inr (.inl (aL R)))), (d, .inl (cJ, 5, .inr (.inl (aL (iu (iu D 0 0) 1 0)))))] := hD
      refine ix_iinc (k := 0) (lv2 := [(6, .int (iI 2)), (5, .int (iI 1)), (4, .int (iI 1)), (0, .ref x), (1, .int (iI a)), (2, .int (iI b)), (3, .int (iI k))]) hx hb dX2_divides_43 hl rfl (by decide) rfl (fun ls hl => ?_)
      refine lv_goto (tgt := 29) hx hb dX2_divides_46 (by decide) ?_
      refine lv_iload hx hb dX2_divides_29 (lv_at hl 0 rfl) ?_
      refine ix_iconst (n := 5) hx hb dX2_divides_31 ?_
      refine ix_icmp_ge (tgt := 49) hx hb dX2_divides_32 (by decide) (by decide) (by decide) (fun c126 => absurd c126 (by decide)) (fun _ => ?_)
      refine lv_aload_n hx hb dX2_divides_35 rfl (lv_at hl 3 rfl) ?_
      refine va_get (D := (dC, dI)) (ci := 2) (v := .ref d) (C := RX2) (T := TX2) (N := 17) hx hb hw inX2 hown hK hP 0 rfl rfl 3 (by decide) (hw _ mA_384) (fun _ h9 => h9) rfl dX2_divides_36 ?_
      refine lv_iload hx hb dX2_divides_39 (lv_at hl 0 rfl) ?_
      refine ix_lconst0 hx hb dX2_divides_41 ?_
      refine ix_last (k := 2) (x := 0) hx hb hK hP hD hS 2 0 rfl rfl (by decide) (by decide) (by decide) dX2_divides_42 (fun H locs hP hD hS => ?_)
      have hP : va_P (dC, dI) vwCl [(x, .inr (2, [.int (iI cd), .ref n, .ref r, .ref d, .int (iI cn), .int (iI fc), .ref ya, .ref yb, .ref yc, .ref yo, .long (lI (X 0)), .long (lI (X 1)), .long (lI (X 2)), .long (lI (X 3)), .long (lI (X 4)), .long (lI (X 5)), .long (lI (X 6))])), (r, .inl (cJ, 5, .inr (.inl (aL R)))), (d, .inl (cJ, 5, .inr (.inl (aL (iu (iu (iu D 0 0) 1 0) 2 0)))))] H := hP
      have hD : va_D A [(x, .inr (2, [.int (iI cd), .ref n, .ref r, .ref d, .int (iI cn), .int (iI fc), .ref ya, .ref yb, .ref yc, .ref yo, .long (lI (X 0)), .long (lI (X 1)), .long (lI (X 2)), .long (lI (X 3)), .long (lI (X 4)), .long (lI (X 5)), .long (lI (X 6))])), (r, .inl (cJ, 5, .inr (.inl (aL R)))), (d, .inl (cJ, 5, .inr (.inl (aL (iu (iu (iu D 0 0) 1 0) 2 0)))))] := hD
      refine ix_iinc (k := 0) (lv2 := [(6, .int (iI 3)), (5, .int (iI 1)), (4, .int (iI 1)), (0, .ref x), (1, .int (iI a)), (2, .int (iI b)), (3, .int (iI k))]) hx hb dX2_divides_43 hl rfl (by decide) rfl (fun ls hl => ?_)
      refine lv_goto (tgt := 29) hx hb dX2_divides_46 (by decide) ?_
      refine lv_iload hx hb dX2_divides_29 (lv_at hl 0 rfl) ?_
      refine ix_iconst (n := 5) hx hb dX2_divides_31 ?_
      refine ix_icmp_ge (tgt := 49) hx hb dX2_divides_32 (by decide) (by decide) (by decide) (fun c127 => absurd c127 (by decide)) (fun _ => ?_)
      refine lv_aload_n hx hb dX2_divides_35 rfl (lv_at hl 3 rfl) ?_
      refine va_get (D := (dC, dI)) (ci := 2) (v := .ref d) (C := RX2) (T := TX2) (N := 17) hx hb hw inX2 hown hK hP 0 rfl rfl 3 (by decide) (hw _ mA_384) (fun _ h9 => h9) rfl dX2_divides_36 ?_
      refine lv_iload hx hb dX2_divides_39 (lv_at hl 0 rfl) ?_
      refine ix_lconst0 hx hb dX2_divides_41 ?_
      refine ix_last (k := 3) (x := 0) hx hb hK hP hD hS 2 0 rfl rfl (by decide) (by decide) (by decide) dX2_divides_42 (fun H locs hP hD hS => ?_)
      have hP : va_P (dC, dI) vwCl [(x, .inr (2, [.int (iI cd), .ref n, .ref r, .ref d, .int (iI cn), .int (iI fc), .ref ya, .ref yb, .ref yc, .ref yo, .long (lI (X 0)), .long (lI (X 1)), .long (lI (X 2)), .long (lI (X 3)), .long (lI (X 4)), .long (lI (X 5)), .long (lI (X 6))])), (r, .inl (cJ, 5, .inr (.inl (aL R)))), (d, .inl (cJ, 5, .inr (.inl (aL (iu (iu (iu (iu D 0 0) 1 0) 2 0) 3 0)))))] H := hP
      have hD : va_D A [(x, .inr (2, [.int (iI cd), .ref n, .ref r, .ref d, .int (iI cn), .int (iI fc), .ref ya, .ref yb, .ref yc, .ref yo, .long (lI (X 0)), .long (lI (X 1)), .long (lI (X 2)), .long (lI (X 3)), .long (lI (X 4)), .long (lI (X 5)), .long (lI (X 6))])), (r, .inl (cJ, 5, .inr (.inl (aL R)))), (d, .inl (cJ, 5, .inr (.inl (aL (iu (iu (iu (iu D 0 0) 1 0) 2 0) 3 0)))))] := hD
      refine ix_iinc (k := 0) (lv2 := [(6, .int (iI 4)), (5, .int (iI 1)), (4, .int (iI 1)), (0, .ref x), (1, .int (iI a)), (2, .int (iI b)), (3, .int (iI k))]) hx hb dX2_divides_43 hl rfl (by decide) rfl (fun ls hl => ?_)
      refine lv_goto (tgt := 29) hx hb dX2_divides_46 (by decide) ?_
      refine lv_iload hx hb dX2_divides_29 (lv_at hl 0 rfl) ?_
      refine ix_iconst (n := 5) hx hb dX2_divides_31 ?_
      refine ix_icmp_ge (tgt := 49) hx hb dX2_divides_32 (by decide) (by decide) (by decide) (fun c128 => absurd c128 (by decide)) (fun _ => ?_)
      refine lv_aload_n hx hb dX2_divides_35 rfl (lv_at hl 3 rfl) ?_
      refine va_get (D := (dC, dI)) (ci := 2) (v := .ref d) (C := RX2) (T := TX2) (N := 17) hx hb hw inX2 hown hK hP 0 rfl rfl 3 (by decide) (hw _ mA_384) (fun _ h9 => h9) rfl dX2_divides_36 ?_
      refine lv_iload hx hb dX2_divides_39 (lv_at hl 0 rfl) ?_
      refine ix_lconst0 hx hb dX2_divides_41 ?_
      refine ix_last (k := 4) (x := 0) hx hb hK hP hD hS 2 0 rfl rfl (by decide) (by decide) (by decide) dX2_divides_42 (fun H locs hP hD hS => ?_)
      have hP : va_P (dC, dI) vwCl [(x, .inr (2, [.int (iI cd), .ref n, .ref r, .ref d, .int (iI cn), .int (iI fc), .ref ya, .ref yb, .ref yc, .ref yo, .long (lI (X 0)), .long (lI (X 1)), .long (lI (X 2)), .long (lI (X 3)), .long (lI (X 4)), .long (lI (X 5)), .long (lI (X 6))])), (r, .inl (cJ, 5, .inr (.inl (aL R)))), (d, .inl (cJ, 5, .inr (.inl (aL (iu (iu (iu (iu (iu D 0 0) 1 0) 2 0) 3 0) 4 0)))))] H := hP
      have hD : va_D A [(x, .inr (2, [.int (iI cd), .ref n, .ref r, .ref d, .int (iI cn), .int (iI fc), .ref ya, .ref yb, .ref yc, .ref yo, .long (lI (X 0)), .long (lI (X 1)), .long (lI (X 2)), .long (lI (X 3)), .long (lI (X 4)), .long (lI (X 5)), .long (lI (X 6))])), (r, .inl (cJ, 5, .inr (.inl (aL R)))), (d, .inl (cJ, 5, .inr (.inl (aL (iu (iu (iu (iu (iu D 0 0) 1 0) 2 0) 3 0) 4 0)))))] := hD
      refine ix_iinc (k := 0) (lv2 := [(6, .int (iI 5)), (5, .int (iI 1)), (4, .int (iI 1)), (0, .ref x), (1, .int (iI a)), (2, .int (iI b)), (3, .int (iI k))]) hx hb dX2_divides_43 hl rfl (by decide) rfl (fun ls hl => ?_)
      refine lv_goto (tgt := 29) hx hb dX2_divides_46 (by decide) ?_
      refine lv_iload hx hb dX2_divides_29 (lv_at hl 0 rfl) ?_
      refine ix_iconst (n := 5) hx hb dX2_divides_31 ?_
      refine ix_icmp_ge (tgt := 49) hx hb dX2_divides_32 (by decide) (by decide) (by decide) (fun _ => ?_) (fun c129 => absurd c129 (by decide))
      rw [p4_z hD5] at hP hD
      refine lv_iload hx hb dX2_divides_49 (lv_at hl 1 rfl) ?_
      refine lv_istore (lv' := [(6, .int (iI 1)), (5, .int (iI 1)), (4, .int (iI 1)), (0, .ref x), (1, .int (iI a)), (2, .int (iI b)), (3, .int (iI k))]) hx hb dX2_divides_51 hl (by decide) rfl (fun ls hl => ?_)
      refine lv_iload hx hb dX2_divides_53 (lv_at hl 0 rfl) ?_
      refine ix_if_lt (tgt := 266) hx hb dX2_divides_55 (by decide) (by decide) (fun c130 => absurd c130 (by decide)) (fun _ => ?_)
      refine lv_aload_n hx hb dX2_divides_58 rfl (lv_at hl 3 rfl) ?_
      refine va_get (D := (dC, dI)) (ci := 2) (v := .ref r) (C := RX2) (T := TX2) (N := 17) hx hb hw inX2 hown hK hP 0 rfl rfl 2 (by decide) (hw _ mA_383) (fun _ h9 => h9) rfl dX2_divides_59 ?_
      refine lv_iload hx hb dX2_divides_62 (lv_at hl 0 rfl) ?_
      refine ix_lald (k := 1) hx hb hK hP 1 0 rfl rfl (by decide) (by decide) (by decide) dX2_divides_64 ?_
      refine lv_lstore (lv' := [(7, .long (lI (R 1))), (6, .int (iI 1)), (5, .int (iI 1)), (4, .int (iI 1)), (0, .ref x), (1, .int (iI a)), (2, .int (iI b)), (3, .int (iI k))]) hx hb dX2_divides_65 hl (by decide) rfl (fun ls hl => ?_)
      refine lv_iload hx hb dX2_divides_67 (lv_at hl 3 rfl) ?_
      refine ix_iconst (n := 1) hx hb dX2_divides_69 ?_
      refine ix_icmp_ne (tgt := 142) hx hb dX2_divides_70 (by decide) (by decide) (by decide) (fun c131 => absurd c131 (by decide)) (fun _ => ?_)
      refine lv_iload hx hb dX2_divides_73 (lv_at hl 1 rfl) ?_
      refine lv_iload hx hb dX2_divides_75 (lv_at hl 2 rfl) ?_
      refine ix_icmp_ge (tgt := 95) hx hb dX2_divides_77 (by decide) (by decide) (by decide) (fun _ => ?_) (fun c132 => absurd c132 (by decide))
      refine lv_iload hx hb dX2_divides_95 (lv_at hl 1 rfl) ?_
      refine ix_if_ne (tgt := 113) hx hb dX2_divides_97 (by decide) (by decide) (fun _ => ?_) (fun c133 => absurd c133 (by decide))
      refine lv_lload hx hb dX2_divides_113 (lv_at hl 0 rfl) ?_
      refine lv_iload_n hx hb dX2_divides_115 rfl (lv_at hl 6 rfl) ?_
      refine ix_i2l hx hb dX2_divides_116 (by omega) ?_
      refine ix_lrem hx hb dX2_divides_117 (by omega) (by omega) (by omega) ?_
      refine ix_lconst0 hx hb dX2_divides_118 ?_
      refine ix_lc_eq (tgt := 125) hx hb dX2_divides_119 dX2_divides_120 (by decide) (by have := tmod_in (x := (R 1)) (y := b) (A := 100000000000000) (by omega); omega) (by decide) (fun c134 => ?_) (fun c134 => ?_)
      · refine lv_aload_n hx hb dX2_divides_125 rfl (lv_at hl 4 rfl) ?_
        refine va_get (D := (dC, dI)) (ci := 2) (v := .ref d) (C := RX2) (T := TX2) (N := 17) hx hb hw inX2 hown hK hP 0 rfl rfl 3 (by decide) (hw _ mA_384) (fun _ h9 => h9) rfl dX2_divides_126 ?_
        refine lv_iload hx hb dX2_divides_129 (lv_at hl 1 rfl) ?_
        refine ix_iconst (n := 1) hx hb dX2_divides_131 ?_
        refine ix_isub hx hb dX2_divides_132 ?_
        refine ix_z (y := 0) rfl ?_
        refine lv_lload hx hb dX2_divides_133 (lv_at hl 0 rfl) ?_
        refine lv_iload_n hx hb dX2_divides_135 rfl (lv_at hl 6 rfl) ?_
        refine ix_i2l hx hb dX2_divides_136 (by omega) ?_
        refine ix_ldiv hx hb dX2_divides_137 (by omega) (by omega) (by omega) (by omega) ?_
        have f0 : b * Int.tdiv (R 1) b = R 1 := tdiv_mul (by omega)
        have bx0 := tdiv_in (x := R 1) (y := b) (A := 480) (by omega)
        generalize Int.tdiv (R 1) b = x0 at f0 bx0 ⊢
        refine ix_last (k := 0) (x := x0) hx hb hK hP hD hS 2 0 rfl rfl (by decide) (by decide) (by decide) dX2_divides_138 (fun H locs hP hD hS => ?_)
        have hP : va_P (dC, dI) vwCl [(x, .inr (2, [.int (iI cd), .ref n, .ref r, .ref d, .int (iI cn), .int (iI fc), .ref ya, .ref yb, .ref yc, .ref yo, .long (lI (X 0)), .long (lI (X 1)), .long (lI (X 2)), .long (lI (X 3)), .long (lI (X 4)), .long (lI (X 5)), .long (lI (X 6))])), (r, .inl (cJ, 5, .inr (.inl (aL R)))), (d, .inl (cJ, 5, .inr (.inl (aL (iu (p4 0 0 0 0) 0 x0)))))] H := hP
        have hD : va_D A [(x, .inr (2, [.int (iI cd), .ref n, .ref r, .ref d, .int (iI cn), .int (iI fc), .ref ya, .ref yb, .ref yc, .ref yo, .long (lI (X 0)), .long (lI (X 1)), .long (lI (X 2)), .long (lI (X 3)), .long (lI (X 4)), .long (lI (X 5)), .long (lI (X 6))])), (r, .inl (cJ, 5, .inr (.inl (aL R)))), (d, .inl (cJ, 5, .inr (.inl (aL (iu (p4 0 0 0 0) 0 x0)))))] := hD
        rw [p4_0] at hP hD
        refine lv_goto (tgt := 260) hx hb dX2_divides_139 (by decide) ?_
        refine ix_iinc (k := 1) (lv2 := [(6, .int (iI 0)), (7, .long (lI (R 1))), (5, .int (iI 1)), (4, .int (iI 1)), (0, .ref x), (1, .int (iI a)), (2, .int (iI b)), (3, .int (iI k))]) hx hb dX2_divides_260 hl rfl (by decide) rfl (fun ls hl => ?_)
        refine lv_goto (tgt := 53) hx hb dX2_divides_263 (by decide) ?_
        refine lv_iload hx hb dX2_divides_53 (lv_at hl 0 rfl) ?_
        refine ix_if_lt (tgt := 266) hx hb dX2_divides_55 (by decide) (by decide) (fun c135 => absurd c135 (by decide)) (fun _ => ?_)
        refine lv_aload_n hx hb dX2_divides_58 rfl (lv_at hl 4 rfl) ?_
        refine va_get (D := (dC, dI)) (ci := 2) (v := .ref r) (C := RX2) (T := TX2) (N := 17) hx hb hw inX2 hown hK hP 0 rfl rfl 2 (by decide) (hw _ mA_383) (fun _ h9 => h9) rfl dX2_divides_59 ?_
        refine lv_iload hx hb dX2_divides_62 (lv_at hl 0 rfl) ?_
        refine ix_lald (k := 0) hx hb hK hP 1 0 rfl rfl (by decide) (by decide) (by decide) dX2_divides_64 ?_
        refine lv_lstore (lv' := [(7, .long (lI (R 0))), (6, .int (iI 0)), (5, .int (iI 1)), (4, .int (iI 1)), (0, .ref x), (1, .int (iI a)), (2, .int (iI b)), (3, .int (iI k))]) hx hb dX2_divides_65 hl (by decide) rfl (fun ls hl => ?_)
        refine lv_iload hx hb dX2_divides_67 (lv_at hl 3 rfl) ?_
        refine ix_iconst (n := 1) hx hb dX2_divides_69 ?_
        refine ix_icmp_ne (tgt := 142) hx hb dX2_divides_70 (by decide) (by decide) (by decide) (fun c136 => absurd c136 (by decide)) (fun _ => ?_)
        refine lv_iload hx hb dX2_divides_73 (lv_at hl 1 rfl) ?_
        refine lv_iload hx hb dX2_divides_75 (lv_at hl 2 rfl) ?_
        refine ix_icmp_ge (tgt := 95) hx hb dX2_divides_77 (by decide) (by decide) (by decide) (fun c137 => absurd c137 (by decide)) (fun _ => ?_)
        refine lv_lload hx hb dX2_divides_80 (lv_at hl 0 rfl) ?_
        refine lv_iload_n hx hb dX2_divides_82 rfl (lv_at hl 7 rfl) ?_
        refine ix_i2l hx hb dX2_divides_83 (by omega) ?_
        refine lv_aload_n hx hb dX2_divides_84 rfl (lv_at hl 4 rfl) ?_
        refine va_get (D := (dC, dI)) (ci := 2) (v := .ref d) (C := RX2) (T := TX2) (N := 17) hx hb hw inX2 hown hK hP 0 rfl rfl 3 (by decide) (hw _ mA_384) (fun _ h9 => h9) rfl dX2_divides_85 ?_
        refine lv_iload hx hb dX2_divides_88 (lv_at hl 1 rfl) ?_
        refine ix_lald (k := 0) hx hb hK hP 2 0 rfl rfl (by decide) (by decide) (by decide) dX2_divides_90 ?_
        refine ix_zl (y := x0) rfl ?_
        refine ix_lmul hx hb dX2_divides_91 ?_
        have mkx0 := mul_in (x := k) (y := x0) (A := 240) (B := 480) hk9 bx0 (by decide) (by decide)
        refine ix_lsub hx hb dX2_divides_92 ?_
        refine lv_lstore (lv' := [(7, .long (lI ((R 0) - (k * x0)))), (6, .int (iI 0)), (5, .int (iI 1)), (4, .int (iI 1)), (0, .ref x), (1, .int (iI a)), (2, .int (iI b)), (3, .int (iI k))]) hx hb dX2_divides_93 hl (by decide) rfl (fun ls hl => ?_)
        refine lv_iload hx hb dX2_divides_95 (lv_at hl 1 rfl) ?_
        refine ix_if_ne (tgt := 113) hx hb dX2_divides_97 (by decide) (by decide) (fun c138 => absurd c138 (by decide)) (fun _ => ?_)
        refine lv_lload hx hb dX2_divides_100 (lv_at hl 0 rfl) ?_
        refine ix_lconst0 hx hb dX2_divides_102 ?_
        refine ix_lc_ne (tgt := 111) hx hb dX2_divides_103 dX2_divides_104 (by decide) (by omega) (by decide) (fun c139 => ?_) (fun c139 => ?_)
        · refine ix_iconst (n := 0) hx hb dX2_divides_111 ?_
          have hno : ¬ ∃ Q, n5 Q ∧ dvs a b k R Q := by
            rintro ⟨T, hT, hd⟩
            rw [ha0] at hd
            obtain ⟨e4, e3, e2, e1, e0⟩ := lin_eqs (by omega) hR5 hT hd
            have t3 : T 3 = 0 := mul_cn (b := b) (by omega) (by omega)
            have t2 : T 2 = 0 := mul_cn (b := b) (by omega) (by rw [t3] at e3; omega)
            have t1 : T 1 = 0 := mul_cn (b := b) (by omega) (by rw [t2] at e2; omega)
            have t0 : T 0 = x0 := mul_cn (b := b) (by omega) (by rw [t1] at e1; omega)
            rw [t0] at e0
            omega
          have hP9 := hP.sub (ws' := [(x, .inr (2, [.int (iI cd), .ref n, .ref r, .ref d, .int (iI cn), .int (iI fc), .ref ya, .ref yb, .ref yc, .ref yo, .long (lI (X 0)), .long (lI (X 1)), .long (lI (X 2)), .long (lI (X 3)), .long (lI (X 4)), .long (lI (X 5)), .long (lI (X 6))])), (r, .inl (cJ, 5, .inr (.inl (aL R)))), (d, .inl (cJ, 5, .inr (.inl (aL (p4 x0 0 0 0)))))]) [0, 1, 2] rfl
          have hD9 := hD.sub (ws' := [(x, .inr (2, [.int (iI cd), .ref n, .ref r, .ref d, .int (iI cn), .int (iI fc), .ref ya, .ref yb, .ref yc, .ref yo, .long (lI (X 0)), .long (lI (X 1)), .long (lI (X 2)), .long (lI (X 3)), .long (lI (X 4)), .long (lI (X 5)), .long (lI (X 6))])), (r, .inl (cJ, 5, .inr (.inl (aL R)))), (d, .inl (cJ, 5, .inr (.inl (aL (p4 x0 0 0 0)))))]) [0, 1, 2] (by decide) rfl
          have hK9 := hK.sub (tys' := [(cJ, .long)]) [0] rfl
          exact W.zret (v := iI 0) hx hb hr (by decide) (fun t ht hW => ⟨⟨iI 0, (p4 x0 0 0 0), rfl, ⟨p4_n5 _ _ _ _, Or.inr ⟨rfl, hno⟩⟩, by rw [ht]; exact hP9, va_K.moved hW.alike hK9, hD9⟩, hS.F ht⟩) hS.2.2 dX2_divides_112
        · refine ix_iconst (n := 1) hx hb dX2_divides_107 ?_
          refine lv_goto (tgt := 112) hx hb dX2_divides_108 (by decide) ?_
          have hdv : dvs a b k R (p4 x0 0 0 0) := dvs_p4 hR5 (by rw [ha0]; omega) (by rw [ha0]; omega) (by rw [ha0]; omega) (by rw [ha0]; omega) (by omega) (by omega)
          have hP9 := hP.sub (ws' := [(x, .inr (2, [.int (iI cd), .ref n, .ref r, .ref d, .int (iI cn), .int (iI fc), .ref ya, .ref yb, .ref yc, .ref yo, .long (lI (X 0)), .long (lI (X 1)), .long (lI (X 2)), .long (lI (X 3)), .long (lI (X 4)), .long (lI (X 5)), .long (lI (X 6))])), (r, .inl (cJ, 5, .inr (.inl (aL R)))), (d, .inl (cJ, 5, .inr (.inl (aL (p4 x0 0 0 0)))))]) [0, 1, 2] rfl
          have hD9 := hD.sub (ws' := [(x, .inr (2, [.int (iI cd), .ref n, .ref r, .ref d, .int (iI cn), .int (iI fc), .ref ya, .ref yb, .ref yc, .ref yo, .long (lI (X 0)), .long (lI (X 1)), .long (lI (X 2)), .long (lI (X 3)), .long (lI (X 4)), .long (lI (X 5)), .long (lI (X 6))])), (r, .inl (cJ, 5, .inr (.inl (aL R)))), (d, .inl (cJ, 5, .inr (.inl (aL (p4 x0 0 0 0)))))]) [0, 1, 2] (by decide) rfl
          have hK9 := hK.sub (tys' := [(cJ, .long)]) [0] rfl
          exact W.zret (v := iI 1) hx hb hr (by decide) (fun t ht hW => ⟨⟨iI 1, (p4 x0 0 0 0), rfl, ⟨p4_n5 _ _ _ _, Or.inl ⟨rfl, hdv⟩⟩, by rw [ht]; exact hP9, va_K.moved hW.alike hK9, hD9⟩, hS.F ht⟩) hS.2.2 dX2_divides_112
      · refine ix_iconst (n := 0) hx hb dX2_divides_123 ?_
        have hno : ¬ ∃ Q, n5 Q ∧ dvs a b k R Q := by
          rintro ⟨T, hT, hd⟩
          rw [ha0] at hd
          obtain ⟨e4, e3, e2, e1, e0⟩ := lin_eqs (by omega) hR5 hT hd
          have t3 : T 3 = 0 := mul_cn (b := b) (by omega) (by omega)
          have t2 : T 2 = 0 := mul_cn (b := b) (by omega) (by rw [t3] at e3; omega)
          have t1 : T 1 = 0 := mul_cn (b := b) (by omega) (by rw [t2] at e2; omega)
          rw [t1] at e1
          exact c134 (tdiv_of (hi := b) (q := T 0) (by omega) (by omega)).1
        have hP9 := hP.sub (ws' := [(x, .inr (2, [.int (iI cd), .ref n, .ref r, .ref d, .int (iI cn), .int (iI fc), .ref ya, .ref yb, .ref yc, .ref yo, .long (lI (X 0)), .long (lI (X 1)), .long (lI (X 2)), .long (lI (X 3)), .long (lI (X 4)), .long (lI (X 5)), .long (lI (X 6))])), (r, .inl (cJ, 5, .inr (.inl (aL R)))), (d, .inl (cJ, 5, .inr (.inl (aL (p4 0 0 0 0)))))]) [0, 1, 2] rfl
        have hD9 := hD.sub (ws' := [(x, .inr (2, [.int (iI cd), .ref n, .ref r, .ref d, .int (iI cn), .int (iI fc), .ref ya, .ref yb, .ref yc, .ref yo, .long (lI (X 0)), .long (lI (X 1)), .long (lI (X 2)), .long (lI (X 3)), .long (lI (X 4)), .long (lI (X 5)), .long (lI (X 6))])), (r, .inl (cJ, 5, .inr (.inl (aL R)))), (d, .inl (cJ, 5, .inr (.inl (aL (p4 0 0 0 0)))))]) [0, 1, 2] (by decide) rfl
        have hK9 := hK.sub (tys' := [(cJ, .long)]) [0] rfl
        exact W.zret (v := iI 0) hx hb hr (by decide) (fun t ht hW => ⟨⟨iI 0, (p4 0 0 0 0), rfl, ⟨p4_n5 _ _ _ _, Or.inr ⟨rfl, hno⟩⟩, by rw [ht]; exact hP9, va_K.moved hW.alike hK9, hD9⟩, hS.F ht⟩) hS.2.2 dX2_divides_124
    · rw [hn] at hl
      have z3 : R 3 = 0 := hdc.2.2.1 3 (by omega) (by omega)
      have z4 : R 4 = 0 := hdc.2.2.1 4 (by omega) (by omega)
      have b0 : -480 ≤ R 0 ∧ R 0 ≤ 480 := hRb 0
      have b1 : -480 ≤ R 1 ∧ R 1 ≤ 480 := hRb 1
      have b2 : -480 ≤ R 2 ∧ R 2 ≤ 480 := hRb 2
      refine lv_iload hx hb dX2_divides_17 (lv_at hl 0 rfl) ?_
      refine lv_iload hx hb dX2_divides_19 (lv_at hl 1 rfl) ?_
      refine ix_icmp_ge (tgt := 26) hx hb dX2_divides_21 (by decide) (by decide) (by decide) (fun _ => ?_) (fun c140 => absurd c140 (by decide))
      refine ix_iconst (n := 0) hx hb dX2_divides_26 ?_
      refine lv_istore (lv' := [(6, .int (iI 0)), (5, .int (iI 2)), (4, .int (iI 1)), (0, .ref x), (1, .int (iI a)), (2, .int (iI b)), (3, .int (iI k))]) hx hb dX2_divides_27 hl (by decide) rfl (fun ls hl => ?_)
      refine lv_iload hx hb dX2_divides_29 (lv_at hl 0 rfl) ?_
      refine ix_iconst (n := 5) hx hb dX2_divides_31 ?_
      refine ix_icmp_ge (tgt := 49) hx hb dX2_divides_32 (by decide) (by decide) (by decide) (fun c141 => absurd c141 (by decide)) (fun _ => ?_)
      refine lv_aload_n hx hb dX2_divides_35 rfl (lv_at hl 3 rfl) ?_
      refine va_get (D := (dC, dI)) (ci := 2) (v := .ref d) (C := RX2) (T := TX2) (N := 17) hx hb hw inX2 hown hK hP 0 rfl rfl 3 (by decide) (hw _ mA_384) (fun _ h9 => h9) rfl dX2_divides_36 ?_
      refine lv_iload hx hb dX2_divides_39 (lv_at hl 0 rfl) ?_
      refine ix_lconst0 hx hb dX2_divides_41 ?_
      refine ix_last (k := 0) (x := 0) hx hb hK hP hD hS 2 0 rfl rfl (by decide) (by decide) (by decide) dX2_divides_42 (fun H locs hP hD hS => ?_)
      have hP : va_P (dC, dI) vwCl [(x, .inr (2, [.int (iI cd), .ref n, .ref r, .ref d, .int (iI cn), .int (iI fc), .ref ya, .ref yb, .ref yc, .ref yo, .long (lI (X 0)), .long (lI (X 1)), .long (lI (X 2)), .long (lI (X 3)), .long (lI (X 4)), .long (lI (X 5)), .long (lI (X 6))])), (r, .inl (cJ, 5, .inr (.inl (aL R)))), (d, .inl (cJ, 5, .inr (.inl (aL (iu D 0 0)))))] H := hP
      have hD : va_D A [(x, .inr (2, [.int (iI cd), .ref n, .ref r, .ref d, .int (iI cn), .int (iI fc), .ref ya, .ref yb, .ref yc, .ref yo, .long (lI (X 0)), .long (lI (X 1)), .long (lI (X 2)), .long (lI (X 3)), .long (lI (X 4)), .long (lI (X 5)), .long (lI (X 6))])), (r, .inl (cJ, 5, .inr (.inl (aL R)))), (d, .inl (cJ, 5, .inr (.inl (aL (iu D 0 0)))))] := hD
      refine ix_iinc (k := 0) (lv2 := [(6, .int (iI 1)), (5, .int (iI 2)), (4, .int (iI 1)), (0, .ref x), (1, .int (iI a)), (2, .int (iI b)), (3, .int (iI k))]) hx hb dX2_divides_43 hl rfl (by decide) rfl (fun ls hl => ?_)
      refine lv_goto (tgt := 29) hx hb dX2_divides_46 (by decide) ?_
      refine lv_iload hx hb dX2_divides_29 (lv_at hl 0 rfl) ?_
      refine ix_iconst (n := 5) hx hb dX2_divides_31 ?_
      refine ix_icmp_ge (tgt := 49) hx hb dX2_divides_32 (by decide) (by decide) (by decide) (fun c142 => absurd c142 (by decide)) (fun _ => ?_)
      refine lv_aload_n hx hb dX2_divides_35 rfl (lv_at hl 3 rfl) ?_
      refine va_get (D := (dC, dI)) (ci := 2) (v := .ref d) (C := RX2) (T := TX2) (N := 17) hx hb hw inX2 hown hK hP 0 rfl rfl 3 (by decide) (hw _ mA_384) (fun _ h9 => h9) rfl dX2_divides_36 ?_
      refine lv_iload hx hb dX2_divides_39 (lv_at hl 0 rfl) ?_
      refine ix_lconst0 hx hb dX2_divides_41 ?_
      refine ix_last (k := 1) (x := 0) hx hb hK hP hD hS 2 0 rfl rfl (by decide) (by decide) (by decide) dX2_divides_42 (fun H locs hP hD hS => ?_)
      have hP : va_P (dC, dI) vwCl [(x, .inr (2, [.int (iI cd), .ref n, .ref r, .ref d, .int (iI cn), .int (iI fc), .ref ya, .ref yb, .ref yc, .ref yo, .long (lI (X 0)), .long (lI (X 1)), .long (lI (X 2)), .long (lI (X 3)), .long (lI (X 4)), .long (lI (X 5)), .long (lI (X 6))])), (r, .inl (cJ, 5, .inr (.inl (aL R)))), (d, .inl (cJ, 5, .inr (.inl (aL (iu (iu D 0 0) 1 0)))))] H := hP
      have hD : va_D A [(x, .inr (2, [.int (iI cd), .ref n, .ref r, .ref d, .int (iI cn), .int (iI fc), .ref ya, .ref yb, .ref yc, .ref yo, .long (lI (X 0)), .long (lI (X 1)), .long (lI (X 2)), .long (lI (X 3)), .long (lI (X 4)), .long (lI (X 5)), .long (lI (X 6))])), (r, .inl (cJ, 5, .inr (.inl (aL R)))), (d, .inl (cJ, 5, .inr (.inl (aL (iu (iu D 0 0) 1 0)))))] := hD
      refine ix_iinc (k := 0) (lv2 := [(6, .int (iI 2)), (5, .int (iI 2)), (4, .int (iI 1)), (0, .ref x), (1, .int (iI a)), (2, .int (iI b)), (3, .int (iI k))]) hx hb dX2_divides_43 hl rfl (by decide) rfl (fun ls hl => ?_)
      refine lv_goto (tgt := 29) hx hb dX2_divides_46 (by decide) ?_
      refine lv_iload hx hb dX2_divides_29 (lv_at hl 0 rfl) ?_
      refine ix_iconst (n := 5) hx hb dX2_divides_31 ?_
      refine ix_icmp_ge (tgt := 49) hx hb dX2_divides_32 (by decide) (by decide) (by decide) (fun c143 => absurd c143 (by decide)) (fun _ => ?_)
      refine lv_aload_n hx hb dX2_divides_35 rfl (lv_at hl 3 rfl) ?_
      refine va_get (D := (dC, dI)) (ci := 2) (v := .ref d) (C := RX2) (T := TX2) (N := 17) hx hb hw inX2 hown hK hP 0 rfl rfl 3 (by decide) (hw _ mA_384) (fun _ h9 => h9) rfl dX2_divides_36 ?_
      refine lv_iload hx hb dX2_divides_39 (lv_at hl 0 rfl) ?_
      refine ix_lconst0 hx hb dX2_divides_41 ?_
      refine ix_last (k := 2) (x := 0) hx hb hK hP hD hS 2 0 rfl rfl (by decide) (by decide) (by decide) dX2_divides_42 (fun H locs hP hD hS => ?_)
      have hP : va_P (dC, dI) vwCl [(x, .inr (2, [.int (iI cd), .ref n, .ref r, .ref d, .int (iI cn), .int (iI fc), .ref ya, .ref yb, .ref yc, .ref yo, .long (lI (X 0)), .long (lI (X 1)), .long (lI (X 2)), .long (lI (X 3)), .long (lI (X 4)), .long (lI (X 5)), .long (lI (X 6))])), (r, .inl (cJ, 5, .inr (.inl (aL R)))), (d, .inl (cJ, 5, .inr (.inl (aL (iu (iu (iu D 0 0) 1 0) 2 0)))))] H := hP
      have hD : va_D A [(x, .inr (2, [.int (iI cd), .ref n, .ref r, .ref d, .int (iI cn), .int (iI fc), .ref ya, .ref yb, .ref yc, .ref yo, .long (lI (X 0)), .long (lI (X 1)), .long (lI (X 2)), .long (lI (X 3)), .long (lI (X 4)), .long (lI (X 5)), .long (lI (X 6))])), (r, .inl (cJ, 5, .inr (.inl (aL R)))), (d, .inl (cJ, 5, .inr (.inl (aL (iu (iu (iu D 0 0) 1 0) 2 0)))))] := hD
      refine ix_iinc (k := 0) (lv2 := [(6, .int (iI 3)), (5, .int (iI 2)), (4, .int (iI 1)), (0, .ref x), (1, .int (iI a)), (2, .int (iI b)), (3, .int (iI k))]) hx hb dX2_divides_43 hl rfl (by decide) rfl (fun ls hl => ?_)
      refine lv_goto (tgt := 29) hx hb dX2_divides_46 (by decide) ?_
      refine lv_iload hx hb dX2_divides_29 (lv_at hl 0 rfl) ?_
      refine ix_iconst (n := 5) hx hb dX2_divides_31 ?_
      refine ix_icmp_ge (tgt := 49) hx hb dX2_divides_32 (by decide) (by decide) (by decide) (fun c144 => absurd c144 (by decide)) (fun _ => ?_)
      refine lv_aload_n hx hb dX2_divides_35 rfl (lv_at hl 3 rfl) ?_
      refine va_get (D := (dC, dI)) (ci := 2) (v := .ref d) (C := RX2) (T := TX2) (N := 17) hx hb hw inX2 hown hK hP 0 rfl rfl 3 (by decide) (hw _ mA_384) (fun _ h9 => h9) rfl dX2_divides_36 ?_
      refine lv_iload hx hb dX2_divides_39 (lv_at hl 0 rfl) ?_
      refine ix_lconst0 hx hb dX2_divides_41 ?_
      refine ix_last (k := 3) (x := 0) hx hb hK hP hD hS 2 0 rfl rfl (by decide) (by decide) (by decide) dX2_divides_42 (fun H locs hP hD hS => ?_)
      have hP : va_P (dC, dI) vwCl [(x, .inr (2, [.int (iI cd), .ref n, .ref r, .ref d, .int (iI cn), .int (iI fc), .ref ya, .ref yb, .ref yc, .ref yo, .long (lI (X 0)), .long (lI (X 1)), .long (lI (X 2)), .long (lI (X 3)), .long (lI (X 4)), .long (lI (X 5)), .long (lI (X 6))])), (r, .inl (cJ, 5, .inr (.inl (aL R)))), (d, .inl (cJ, 5, .inr (.inl (aL (iu (iu (iu (iu D 0 0) 1 0) 2 0) 3 0)))))] H := hP
      have hD : va_D A [(x, .inr (2, [.int (iI cd), .ref n, .ref r, .ref d, .int (iI cn), .int (iI fc), .ref ya, .ref yb, .ref yc, .ref yo, .long (lI (X 0)), .long (lI (X 1)), .long (lI (X 2)), .long (lI (X 3)), .long (lI (X 4)), .long (lI (X 5)), .long (lI (X 6))])), (r, .inl (cJ, 5, .inr (.inl (aL R)))), (d, .inl (cJ, 5, .inr (.inl (aL (iu (iu (iu (iu D 0 0) 1 0) 2 0) 3 0)))))] := hD
      refine ix_iinc (k := 0) (lv2 := [(6, .int (iI 4)), (5, .int (iI 2)), (4, .int (iI 1)), (0, .ref x), (1, .int (iI a)), (2, .int (iI b)), (3, .int (iI k))]) hx hb dX2_divides_43 hl rfl (by decide) rfl (fun ls hl => ?_)
      refine lv_goto (tgt := 29) hx hb dX2_divides_46 (by decide) ?_
      refine lv_iload hx hb dX2_divides_29 (lv_at hl 0 rfl) ?_
      refine ix_iconst (n := 5) hx hb dX2_divides_31 ?_
      refine ix_icmp_ge (tgt := 49) hx hb dX2_divides_32 (by decide) (by decide) (by decide) (fun c145 => absurd c145 (by decide)) (fun _ => ?_)
      refine lv_aload_n hx hb dX2_divides_35 rfl (lv_at hl 3 rfl) ?_
      refine va_get (D := (dC, dI)) (ci := 2) (v := .ref d) (C := RX2) (T := TX2) (N := 17) hx hb hw inX2 hown hK hP 0 rfl rfl 3 (by decide) (hw _ mA_384) (fun _ h9 => h9) rfl dX2_divides_36 ?_
      refine lv_iload hx hb dX2_divides_39 (lv_at hl 0 rfl) ?_
      refine ix_lconst0 hx hb dX2_divides_41 ?_
      refine ix_last (k := 4) (x := 0) hx hb hK hP hD hS 2 0 rfl rfl (by decide) (by decide) (by decide) dX2_divides_42 (fun H locs hP hD hS => ?_)
      have hP : va_P (dC, dI) vwCl [(x, .inr (2, [.int (iI cd), .ref n, .ref r, .ref d, .int (iI cn), .int (iI fc), .ref ya, .ref yb, .ref yc, .ref yo, .long (lI (X 0)), .long (lI (X 1)), .long (lI (X 2)), .long (lI (X 3)), .long (lI (X 4)), .long (lI (X 5)), .long (lI (X 6))])), (r, .inl (cJ, 5, .inr (.inl (aL R)))), (d, .inl (cJ, 5, .inr (.inl (aL (iu (iu (iu (iu (iu D 0 0) 1 0) 2 0) 3 0) 4 0)))))] H := hP
      have hD : va_D A [(x, .inr (2, [.int (iI cd), .ref n, .ref r, .ref d, .int (iI cn), .int (iI fc), .ref ya, .ref yb, .ref yc, .ref yo, .long (lI (X 0)), .long (lI (X 1)), .long (lI (X 2)), .long (lI (X 3)), .long (lI (X 4)), .long (lI (X 5)), .long (lI (X 6))])), (r, .inl (cJ, 5, .inr (.inl (aL R)))), (d, .inl (cJ, 5, .inr (.inl (aL (iu (iu (iu (iu (iu D 0 0) 1 0) 2 0) 3 0) 4 0)))))] := hD
      refine ix_iinc (k := 0) (lv2 := [(6, .int (iI 5)), (5, .int (iI 2)), (4, .int (iI 1)), (0, .ref x), (1, .int (iI a)), (2, .int (iI b)), (3, .int (iI k))]) hx hb dX2_divides_43 hl rfl (by decide) rfl (fun ls hl => ?_)
      refine lv_goto (tgt := 29) hx hb dX2_divides_46 (by decide) ?_
      refine lv_iload hx hb dX2_divides_29 (lv_at hl 0 rfl) ?_
      refine ix_iconst (n := 5) hx hb dX2_divides_31 ?_
      refine ix_icmp_ge (tgt := 49) hx hb dX2_divides_32 (by decide) (by decide) (by decide) (fun _ => ?_) (fun c146 => absurd c146 (by decide))
      rw [p4_z hD5] at hP hD
      refine lv_iload hx hb dX2_divides_49 (lv_at hl 1 rfl) ?_
      refine lv_istore (lv' := [(6, .int (iI 2)), (5, .int (iI 2)), (4, .int (iI 1)), (0, .ref x), (1, .int (iI a)), (2, .int (iI b)), (3, .int (iI k))]) hx hb dX2_divides_51 hl (by decide) rfl (fun ls hl => ?_)
      refine lv_iload hx hb dX2_divides_53 (lv_at hl 0 rfl) ?_
      refine ix_if_lt (tgt := 266) hx hb dX2_divides_55 (by decide) (by decide) (fun c147 => absurd c147 (by decide)) (fun _ => ?_)
      refine lv_aload_n hx hb dX2_divides_58 rfl (lv_at hl 3 rfl) ?_
      refine va_get (D := (dC, dI)) (ci := 2) (v := .ref r) (C := RX2) (T := TX2) (N := 17) hx hb hw inX2 hown hK hP 0 rfl rfl 2 (by decide) (hw _ mA_383) (fun _ h9 => h9) rfl dX2_divides_59 ?_
      refine lv_iload hx hb dX2_divides_62 (lv_at hl 0 rfl) ?_
      refine ix_lald (k := 2) hx hb hK hP 1 0 rfl rfl (by decide) (by decide) (by decide) dX2_divides_64 ?_
      refine lv_lstore (lv' := [(7, .long (lI (R 2))), (6, .int (iI 2)), (5, .int (iI 2)), (4, .int (iI 1)), (0, .ref x), (1, .int (iI a)), (2, .int (iI b)), (3, .int (iI k))]) hx hb dX2_divides_65 hl (by decide) rfl (fun ls hl => ?_)
      refine lv_iload hx hb dX2_divides_67 (lv_at hl 3 rfl) ?_
      refine ix_iconst (n := 1) hx hb dX2_divides_69 ?_
      refine ix_icmp_ne (tgt := 142) hx hb dX2_divides_70 (by decide) (by decide) (by decide) (fun c148 => absurd c148 (by decide)) (fun _ => ?_)
      refine lv_iload hx hb dX2_divides_73 (lv_at hl 1 rfl) ?_
      refine lv_iload hx hb dX2_divides_75 (lv_at hl 2 rfl) ?_
      refine ix_icmp_ge (tgt := 95) hx hb dX2_divides_77 (by decide) (by decide) (by decide) (fun _ => ?_) (fun c149 => absurd c149 (by decide))
      refine lv_iload hx hb dX2_divides_95 (lv_at hl 1 rfl) ?_
      refine ix_if_ne (tgt := 113) hx hb dX2_divides_97 (by decide) (by decide) (fun _ => ?_) (fun c150 => absurd c150 (by decide))
      refine lv_lload hx hb dX2_divides_113 (lv_at hl 0 rfl) ?_
      refine lv_iload_n hx hb dX2_divides_115 rfl (lv_at hl 6 rfl) ?_
      refine ix_i2l hx hb dX2_divides_116 (by omega) ?_
      refine ix_lrem hx hb dX2_divides_117 (by omega) (by omega) (by omega) ?_
      refine ix_lconst0 hx hb dX2_divides_118 ?_
      refine ix_lc_eq (tgt := 125) hx hb dX2_divides_119 dX2_divides_120 (by decide) (by have := tmod_in (x := (R 2)) (y := b) (A := 100000000000000) (by omega); omega) (by decide) (fun c151 => ?_) (fun c151 => ?_)
      · refine lv_aload_n hx hb dX2_divides_125 rfl (lv_at hl 4 rfl) ?_
        refine va_get (D := (dC, dI)) (ci := 2) (v := .ref d) (C := RX2) (T := TX2) (N := 17) hx hb hw inX2 hown hK hP 0 rfl rfl 3 (by decide) (hw _ mA_384) (fun _ h9 => h9) rfl dX2_divides_126 ?_
        refine lv_iload hx hb dX2_divides_129 (lv_at hl 1 rfl) ?_
        refine ix_iconst (n := 1) hx hb dX2_divides_131 ?_
        refine ix_isub hx hb dX2_divides_132 ?_
        refine ix_z (y := 1) rfl ?_
        refine lv_lload hx hb dX2_divides_133 (lv_at hl 0 rfl) ?_
        refine lv_iload_n hx hb dX2_divides_135 rfl (lv_at hl 6 rfl) ?_
        refine ix_i2l hx hb dX2_divides_136 (by omega) ?_
        refine ix_ldiv hx hb dX2_divides_137 (by omega) (by omega) (by omega) (by omega) ?_
        have f1 : b * Int.tdiv (R 2) b = R 2 := tdiv_mul (by omega)
        have bx1 := tdiv_in (x := R 2) (y := b) (A := 480) (by omega)
        generalize Int.tdiv (R 2) b = x1 at f1 bx1 ⊢
        refine ix_last (k := 1) (x := x1) hx hb hK hP hD hS 2 0 rfl rfl (by decide) (by decide) (by decide) dX2_divides_138 (fun H locs hP hD hS => ?_)
        have hP : va_P (dC, dI) vwCl [(x, .inr (2, [.int (iI cd), .ref n, .ref r, .ref d, .int (iI cn), .int (iI fc), .ref ya, .ref yb, .ref yc, .ref yo, .long (lI (X 0)), .long (lI (X 1)), .long (lI (X 2)), .long (lI (X 3)), .long (lI (X 4)), .long (lI (X 5)), .long (lI (X 6))])), (r, .inl (cJ, 5, .inr (.inl (aL R)))), (d, .inl (cJ, 5, .inr (.inl (aL (iu (p4 0 0 0 0) 1 x1)))))] H := hP
        have hD : va_D A [(x, .inr (2, [.int (iI cd), .ref n, .ref r, .ref d, .int (iI cn), .int (iI fc), .ref ya, .ref yb, .ref yc, .ref yo, .long (lI (X 0)), .long (lI (X 1)), .long (lI (X 2)), .long (lI (X 3)), .long (lI (X 4)), .long (lI (X 5)), .long (lI (X 6))])), (r, .inl (cJ, 5, .inr (.inl (aL R)))), (d, .inl (cJ, 5, .inr (.inl (aL (iu (p4 0 0 0 0) 1 x1)))))] := hD
        rw [p4_1] at hP hD
        refine lv_goto (tgt := 260) hx hb dX2_divides_139 (by decide) ?_
        refine ix_iinc (k := 1) (lv2 := [(6, .int (iI 1)), (7, .long (lI (R 2))), (5, .int (iI 2)), (4, .int (iI 1)), (0, .ref x), (1, .int (iI a)), (2, .int (iI b)), (3, .int (iI k))]) hx hb dX2_divides_260 hl rfl (by decide) rfl (fun ls hl => ?_)
        refine lv_goto (tgt := 53) hx hb dX2_divides_263 (by decide) ?_
        refine lv_iload hx hb dX2_divides_53 (lv_at hl 0 rfl) ?_
        refine ix_if_lt (tgt := 266) hx hb dX2_divides_55 (by decide) (by decide) (fun c152 => absurd c152 (by decide)) (fun _ => ?_)
        refine lv_aload_n hx hb dX2_divides_58 rfl (lv_at hl 4 rfl) ?_
        refine va_get (D := (dC, dI)) (ci := 2) (v := .ref r) (C := RX2) (T := TX2) (N := 17) hx hb hw inX2 hown hK hP 0 rfl rfl 2 (by decide) (hw _ mA_383) (fun _ h9 => h9) rfl dX2_divides_59 ?_
        refine lv_iload hx hb dX2_divides_62 (lv_at hl 0 rfl) ?_
        refine ix_lald (k := 1) hx hb hK hP 1 0 rfl rfl (by decide) (by decide) (by decide) dX2_divides_64 ?_
        refine lv_lstore (lv' := [(7, .long (lI (R 1))), (6, .int (iI 1)), (5, .int (iI 2)), (4, .int (iI 1)), (0, .ref x), (1, .int (iI a)), (2, .int (iI b)), (3, .int (iI k))]) hx hb dX2_divides_65 hl (by decide) rfl (fun ls hl => ?_)
        refine lv_iload hx hb dX2_divides_67 (lv_at hl 3 rfl) ?_
        refine ix_iconst (n := 1) hx hb dX2_divides_69 ?_
        refine ix_icmp_ne (tgt := 142) hx hb dX2_divides_70 (by decide) (by decide) (by decide) (fun c153 => absurd c153 (by decide)) (fun _ => ?_)
        refine lv_iload hx hb dX2_divides_73 (lv_at hl 1 rfl) ?_
        refine lv_iload hx hb dX2_divides_75 (lv_at hl 2 rfl) ?_
        refine ix_icmp_ge (tgt := 95) hx hb dX2_divides_77 (by decide) (by decide) (by decide) (fun c154 => absurd c154 (by decide)) (fun _ => ?_)
        refine lv_lload hx hb dX2_divides_80 (lv_at hl 0 rfl) ?_
        refine lv_iload_n hx hb dX2_divides_82 rfl (lv_at hl 7 rfl) ?_
        refine ix_i2l hx hb dX2_divides_83 (by omega) ?_
        refine lv_aload_n hx hb dX2_divides_84 rfl (lv_at hl 4 rfl) ?_
        refine va_get (D := (dC, dI)) (ci := 2) (v := .ref d) (C := RX2) (T := TX2) (N := 17) hx hb hw inX2 hown hK hP 0 rfl rfl 3 (by decide) (hw _ mA_384) (fun _ h9 => h9) rfl dX2_divides_85 ?_
        refine lv_iload hx hb dX2_divides_88 (lv_at hl 1 rfl) ?_
        refine ix_lald (k := 1) hx hb hK hP 2 0 rfl rfl (by decide) (by decide) (by decide) dX2_divides_90 ?_
        refine ix_zl (y := x1) rfl ?_
        refine ix_lmul hx hb dX2_divides_91 ?_
        have mkx1 := mul_in (x := k) (y := x1) (A := 240) (B := 480) hk9 bx1 (by decide) (by decide)
        refine ix_lsub hx hb dX2_divides_92 ?_
        refine lv_lstore (lv' := [(7, .long (lI ((R 1) - (k * x1)))), (6, .int (iI 1)), (5, .int (iI 2)), (4, .int (iI 1)), (0, .ref x), (1, .int (iI a)), (2, .int (iI b)), (3, .int (iI k))]) hx hb dX2_divides_93 hl (by decide) rfl (fun ls hl => ?_)
        refine lv_iload hx hb dX2_divides_95 (lv_at hl 1 rfl) ?_
        refine ix_if_ne (tgt := 113) hx hb dX2_divides_97 (by decide) (by decide) (fun _ => ?_) (fun c155 => absurd c155 (by decide))
        refine lv_lload hx hb dX2_divides_113 (lv_at hl 0 rfl) ?_
        refine lv_iload_n hx hb dX2_divides_115 rfl (lv_at hl 6 rfl) ?_
        refine ix_i2l hx hb dX2_divides_116 (by omega) ?_
        refine ix_lrem hx hb dX2_divides_117 (by omega) (by omega) (by omega) ?_
        refine ix_lconst0 hx hb dX2_divides_118 ?_
        refine ix_lc_eq (tgt := 125) hx hb dX2_divides_119 dX2_divides_120 (by decide) (by have := tmod_in (x := ((R 1) - (k * x1))) (y := b) (A := 100000000000000) (by omega); omega) (by decide) (fun c156 => ?_) (fun c156 => ?_)
        · refine lv_aload_n hx hb dX2_divides_125 rfl (lv_at hl 4 rfl) ?_
          refine va_get (D := (dC, dI)) (ci := 2) (v := .ref d) (C := RX2) (T := TX2) (N := 17) hx hb hw inX2 hown hK hP 0 rfl rfl 3 (by decide) (hw _ mA_384) (fun _ h9 => h9) rfl dX2_divides_126 ?_
          refine lv_iload hx hb dX2_divides_129 (lv_at hl 1 rfl) ?_
          refine ix_iconst (n := 1) hx hb dX2_divides_131 ?_
          refine ix_isub hx hb dX2_divides_132 ?_
          refine ix_z (y := 0) rfl ?_
          refine lv_lload hx hb dX2_divides_133 (lv_at hl 0 rfl) ?_
          refine lv_iload_n hx hb dX2_divides_135 rfl (lv_at hl 6 rfl) ?_
          refine ix_i2l hx hb dX2_divides_136 (by omega) ?_
          refine ix_ldiv hx hb dX2_divides_137 (by omega) (by omega) (by omega) (by omega) ?_
          have f0 : b * Int.tdiv ((R 1) - (k * x1)) b = (R 1) - (k * x1) := tdiv_mul (by omega)
          have bx0 := tdiv_in (x := (R 1) - (k * x1)) (y := b) (A := 115680) (by omega)
          generalize Int.tdiv ((R 1) - (k * x1)) b = x0 at f0 bx0 ⊢
          refine ix_last (k := 0) (x := x0) hx hb hK hP hD hS 2 0 rfl rfl (by decide) (by decide) (by decide) dX2_divides_138 (fun H locs hP hD hS => ?_)
          have hP : va_P (dC, dI) vwCl [(x, .inr (2, [.int (iI cd), .ref n, .ref r, .ref d, .int (iI cn), .int (iI fc), .ref ya, .ref yb, .ref yc, .ref yo, .long (lI (X 0)), .long (lI (X 1)), .long (lI (X 2)), .long (lI (X 3)), .long (lI (X 4)), .long (lI (X 5)), .long (lI (X 6))])), (r, .inl (cJ, 5, .inr (.inl (aL R)))), (d, .inl (cJ, 5, .inr (.inl (aL (iu (p4 0 x1 0 0) 0 x0)))))] H := hP
          have hD : va_D A [(x, .inr (2, [.int (iI cd), .ref n, .ref r, .ref d, .int (iI cn), .int (iI fc), .ref ya, .ref yb, .ref yc, .ref yo, .long (lI (X 0)), .long (lI (X 1)), .long (lI (X 2)), .long (lI (X 3)), .long (lI (X 4)), .long (lI (X 5)), .long (lI (X 6))])), (r, .inl (cJ, 5, .inr (.inl (aL R)))), (d, .inl (cJ, 5, .inr (.inl (aL (iu (p4 0 x1 0 0) 0 x0)))))] := hD
          rw [p4_0] at hP hD
          refine lv_goto (tgt := 260) hx hb dX2_divides_139 (by decide) ?_
          refine ix_iinc (k := 1) (lv2 := [(6, .int (iI 0)), (7, .long (lI ((R 1) - (k * x1)))), (5, .int (iI 2)), (4, .int (iI 1)), (0, .ref x), (1, .int (iI a)), (2, .int (iI b)), (3, .int (iI k))]) hx hb dX2_divides_260 hl rfl (by decide) rfl (fun ls hl => ?_)
          refine lv_goto (tgt := 53) hx hb dX2_divides_263 (by decide) ?_
          refine lv_iload hx hb dX2_divides_53 (lv_at hl 0 rfl) ?_
          refine ix_if_lt (tgt := 266) hx hb dX2_divides_55 (by decide) (by decide) (fun c157 => absurd c157 (by decide)) (fun _ => ?_)
          refine lv_aload_n hx hb dX2_divides_58 rfl (lv_at hl 4 rfl) ?_
          refine va_get (D := (dC, dI)) (ci := 2) (v := .ref r) (C := RX2) (T := TX2) (N := 17) hx hb hw inX2 hown hK hP 0 rfl rfl 2 (by decide) (hw _ mA_383) (fun _ h9 => h9) rfl dX2_divides_59 ?_
          refine lv_iload hx hb dX2_divides_62 (lv_at hl 0 rfl) ?_
          refine ix_lald (k := 0) hx hb hK hP 1 0 rfl rfl (by decide) (by decide) (by decide) dX2_divides_64 ?_
          refine lv_lstore (lv' := [(7, .long (lI (R 0))), (6, .int (iI 0)), (5, .int (iI 2)), (4, .int (iI 1)), (0, .ref x), (1, .int (iI a)), (2, .int (iI b)), (3, .int (iI k))]) hx hb dX2_divides_65 hl (by decide) rfl (fun ls hl => ?_)
          refine lv_iload hx hb dX2_divides_67 (lv_at hl 3 rfl) ?_
          refine ix_iconst (n := 1) hx hb dX2_divides_69 ?_
          refine ix_icmp_ne (tgt := 142) hx hb dX2_divides_70 (by decide) (by decide) (by decide) (fun c158 => absurd c158 (by decide)) (fun _ => ?_)
          refine lv_iload hx hb dX2_divides_73 (lv_at hl 1 rfl) ?_
          refine lv_iload hx hb dX2_divides_75 (lv_at hl 2 rfl) ?_
          refine ix_icmp_ge (tgt := 95) hx hb dX2_divides_77 (by decide) (by decide) (by decide) (fun c159 => absurd c159 (by decide)) (fun _ => ?_)
          refine lv_lload hx hb dX2_divides_80 (lv_at hl 0 rfl) ?_
          refine lv_iload_n hx hb dX2_divides_82 rfl (lv_at hl 7 rfl) ?_
          refine ix_i2l hx hb dX2_divides_83 (by omega) ?_
          refine lv_aload_n hx hb dX2_divides_84 rfl (lv_at hl 4 rfl) ?_
          refine va_get (D := (dC, dI)) (ci := 2) (v := .ref d) (C := RX2) (T := TX2) (N := 17) hx hb hw inX2 hown hK hP 0 rfl rfl 3 (by decide) (hw _ mA_384) (fun _ h9 => h9) rfl dX2_divides_85 ?_
          refine lv_iload hx hb dX2_divides_88 (lv_at hl 1 rfl) ?_
          refine ix_lald (k := 0) hx hb hK hP 2 0 rfl rfl (by decide) (by decide) (by decide) dX2_divides_90 ?_
          refine ix_zl (y := x0) rfl ?_
          refine ix_lmul hx hb dX2_divides_91 ?_
          have mkx0 := mul_in (x := k) (y := x0) (A := 240) (B := 115680) hk9 bx0 (by decide) (by decide)
          refine ix_lsub hx hb dX2_divides_92 ?_
          refine lv_lstore (lv' := [(7, .long (lI ((R 0) - (k * x0)))), (6, .int (iI 0)), (5, .int (iI 2)), (4, .int (iI 1)), (0, .ref x), (1, .int (iI a)), (2, .int (iI b)), (3, .int (iI k))]) hx hb dX2_divides_93 hl (by decide) rfl (fun ls hl => ?_)
          refine lv_iload hx hb dX2_divides_95 (lv_at hl 1 rfl) ?_
          refine ix_if_ne (tgt := 113) hx hb dX2_divides_97 (by decide) (by decide) (fun c160 => absurd c160 (by decide)) (fun _ => ?_)
          refine lv_lload hx hb dX2_divides_100 (lv_at hl 0 rfl) ?_
          refine ix_lconst0 hx hb dX2_divides_102 ?_
          refine ix_lc_ne (tgt := 111) hx hb dX2_divides_103 dX2_divides_104 (by decide) (by omega) (by decide) (fun c161 => ?_) (fun c161 => ?_)
          · refine ix_iconst (n := 0) hx hb dX2_divides_111 ?_
            have hno : ¬ ∃ Q, n5 Q ∧ dvs a b k R Q := by
              rintro ⟨T, hT, hd⟩
              rw [ha0] at hd
              obtain ⟨e4, e3, e2, e1, e0⟩ := lin_eqs (by omega) hR5 hT hd
              have t3 : T 3 = 0 := mul_cn (b := b) (by omega) (by omega)
              have t2 : T 2 = 0 := mul_cn (b := b) (by omega) (by rw [t3] at e3; omega)
              have t1 : T 1 = x1 := mul_cn (b := b) (by omega) (by rw [t2] at e2; omega)
              have t0 : T 0 = x0 := mul_cn (b := b) (by omega) (by rw [t1] at e1; omega)
              rw [t0] at e0
              omega
            have hP9 := hP.sub (ws' := [(x, .inr (2, [.int (iI cd), .ref n, .ref r, .ref d, .int (iI cn), .int (iI fc), .ref ya, .ref yb, .ref yc, .ref yo, .long (lI (X 0)), .long (lI (X 1)), .long (lI (X 2)), .long (lI (X 3)), .long (lI (X 4)), .long (lI (X 5)), .long (lI (X 6))])), (r, .inl (cJ, 5, .inr (.inl (aL R)))), (d, .inl (cJ, 5, .inr (.inl (aL (p4 x0 x1 0 0)))))]) [0, 1, 2] rfl
            have hD9 := hD.sub (ws' := [(x, .inr (2, [.int (iI cd), .ref n, .ref r, .ref d, .int (iI cn), .int (iI fc), .ref ya, .ref yb, .ref yc, .ref yo, .long (lI (X 0)), .long (lI (X 1)), .long (lI (X 2)), .long (lI (X 3)), .long (lI (X 4)), .long (lI (X 5)), .long (lI (X 6))])), (r, .inl (cJ, 5, .inr (.inl (aL R)))), (d, .inl (cJ, 5, .inr (.inl (aL (p4 x0 x1 0 0)))))]) [0, 1, 2] (by decide) rfl
            have hK9 := hK.sub (tys' := [(cJ, .long)]) [0] rfl
            exact W.zret (v := iI 0) hx hb hr (by decide) (fun t ht hW => ⟨⟨iI 0, (p4 x0 x1 0 0), rfl, ⟨p4_n5 _ _ _ _, Or.inr ⟨rfl, hno⟩⟩, by rw [ht]; exact hP9, va_K.moved hW.alike hK9, hD9⟩, hS.F ht⟩) hS.2.2 dX2_divides_112
          · refine ix_iconst (n := 1) hx hb dX2_divides_107 ?_
            refine lv_goto (tgt := 112) hx hb dX2_divides_108 (by decide) ?_
            have hdv : dvs a b k R (p4 x0 x1 0 0) := dvs_p4 hR5 (by rw [ha0]; omega) (by rw [ha0]; omega) (by rw [ha0]; omega) (by rw [ha0]; omega) (by omega) (by omega)
            have hP9 := hP.sub (ws' := [(x, .inr (2, [.int (iI cd), .ref n, .ref r, .ref d, .int (iI cn), .int (iI fc), .ref ya, .ref yb, .ref yc, .ref yo, .long (lI (X 0)), .long (lI (X 1)), .long (lI (X 2)), .long (lI (X 3)), .long (lI (X 4)), .long (lI (X 5)), .long (lI (X 6))])), (r, .inl (cJ, 5, .inr (.inl (aL R)))), (d, .inl (cJ, 5, .inr (.inl (aL (p4 x0 x1 0 0)))))]) [0, 1, 2] rfl
            have hD9 := hD.sub (ws' := [(x, .inr (2, [.int (iI cd), .ref n, .ref r, .ref d, .int (iI cn), .int (iI fc), .ref ya, .ref yb, .ref yc, .ref yo, .long (lI (X 0)), .long (lI (X 1)), .long (lI (X 2)), .long (lI (X 3)), .long (lI (X 4)), .long (lI (X 5)), .long (lI (X 6))])), (r, .inl (cJ, 5, .inr (.inl (aL R)))), (d, .inl (cJ, 5, .inr (.inl (aL (p4 x0 x1 0 0)))))]) [0, 1, 2] (by decide) rfl
            have hK9 := hK.sub (tys' := [(cJ, .long)]) [0] rfl
            exact W.zret (v := iI 1) hx hb hr (by decide) (fun t ht hW => ⟨⟨iI 1, (p4 x0 x1 0 0), rfl, ⟨p4_n5 _ _ _ _, Or.inl ⟨rfl, hdv⟩⟩, by rw [ht]; exact hP9, va_K.moved hW.alike hK9, hD9⟩, hS.F ht⟩) hS.2.2 dX2_divides_112
        · refine ix_iconst (n := 0) hx hb dX2_divides_123 ?_
          have hno : ¬ ∃ Q, n5 Q ∧ dvs a b k R Q := by
            rintro ⟨T, hT, hd⟩
            rw [ha0] at hd
            obtain ⟨e4, e3, e2, e1, e0⟩ := lin_eqs (by omega) hR5 hT hd
            have t3 : T 3 = 0 := mul_cn (b := b) (by omega) (by omega)
            have t2 : T 2 = 0 := mul_cn (b := b) (by omega) (by rw [t3] at e3; omega)
            have t1 : T 1 = x1 := mul_cn (b := b) (by omega) (by rw [t2] at e2; omega)
            rw [t1] at e1
            exact c156 (tdiv_of (hi := b) (q := T 0) (by omega) (by omega)).1
          have hP9 := hP.sub (ws' := [(x, .inr (2, [.int (iI cd), .ref n, .ref r, .ref d, .int (iI cn), .int (iI fc), .ref ya, .ref yb, .ref yc, .ref yo, .long (lI (X 0)), .long (lI (X 1)), .long (lI (X 2)), .long (lI (X 3)), .long (lI (X 4)), .long (lI (X 5)), .long (lI (X 6))])), (r, .inl (cJ, 5, .inr (.inl (aL R)))), (d, .inl (cJ, 5, .inr (.inl (aL (p4 0 x1 0 0)))))]) [0, 1, 2] rfl
          have hD9 := hD.sub (ws' := [(x, .inr (2, [.int (iI cd), .ref n, .ref r, .ref d, .int (iI cn), .int (iI fc), .ref ya, .ref yb, .ref yc, .ref yo, .long (lI (X 0)), .long (lI (X 1)), .long (lI (X 2)), .long (lI (X 3)), .long (lI (X 4)), .long (lI (X 5)), .long (lI (X 6))])), (r, .inl (cJ, 5, .inr (.inl (aL R)))), (d, .inl (cJ, 5, .inr (.inl (aL (p4 0 x1 0 0)))))]) [0, 1, 2] (by decide) rfl
          have hK9 := hK.sub (tys' := [(cJ, .long)]) [0] rfl
          exact W.zret (v := iI 0) hx hb hr (by decide) (fun t ht hW => ⟨⟨iI 0, (p4 0 x1 0 0), rfl, ⟨p4_n5 _ _ _ _, Or.inr ⟨rfl, hno⟩⟩, by rw [ht]; exact hP9, va_K.moved hW.alike hK9, hD9⟩, hS.F ht⟩) hS.2.2 dX2_divides_124
      · refine ix_iconst (n := 0) hx hb dX2_divides_123 ?_
        have hno : ¬ ∃ Q, n5 Q ∧ dvs a b k R Q := by
          rintro ⟨T, hT, hd⟩
          rw [ha0] at hd
          obtain ⟨e4, e3, e2, e1, e0⟩ := lin_eqs (by omega) hR5 hT hd
          have t3 : T 3 = 0 := mul_cn (b := b) (by omega) (by omega)
          have t2 : T 2 = 0 := mul_cn (b := b) (by omega) (by rw [t3] at e3; omega)
          rw [t2] at e2
          exact c151 (tdiv_of (hi := b) (q := T 1) (by omega) (by omega)).1
        have hP9 := hP.sub (ws' := [(x, .inr (2, [.int (iI cd), .ref n, .ref r, .ref d, .int (iI cn), .int (iI fc), .ref ya, .ref yb, .ref yc, .ref yo, .long (lI (X 0)), .long (lI (X 1)), .long (lI (X 2)), .long (lI (X 3)), .long (lI (X 4)), .long (lI (X 5)), .long (lI (X 6))])), (r, .inl (cJ, 5, .inr (.inl (aL R)))), (d, .inl (cJ, 5, .inr (.inl (aL (p4 0 0 0 0)))))]) [0, 1, 2] rfl
        have hD9 := hD.sub (ws' := [(x, .inr (2, [.int (iI cd), .ref n, .ref r, .ref d, .int (iI cn), .int (iI fc), .ref ya, .ref yb, .ref yc, .ref yo, .long (lI (X 0)), .long (lI (X 1)), .long (lI (X 2)), .long (lI (X 3)), .long (lI (X 4)), .long (lI (X 5)), .long (lI (X 6))])), (r, .inl (cJ, 5, .inr (.inl (aL R)))), (d, .inl (cJ, 5, .inr (.inl (aL (p4 0 0 0 0)))))]) [0, 1, 2] (by decide) rfl
        have hK9 := hK.sub (tys' := [(cJ, .long)]) [0] rfl
        exact W.zret (v := iI 0) hx hb hr (by decide) (fun t ht hW => ⟨⟨iI 0, (p4 0 0 0 0), rfl, ⟨p4_n5 _ _ _ _, Or.inr ⟨rfl, hno⟩⟩, by rw [ht]; exact hP9, va_K.moved hW.alike hK9, hD9⟩, hS.F ht⟩) hS.2.2 dX2_divides_124
    · rw [hn] at hl
      have z4 : R 4 = 0 := hdc.2.2.1 4 (by omega) (by omega)
      have b0 : -480 ≤ R 0 ∧ R 0 ≤ 480 := hRb 0
      have b1 : -480 ≤ R 1 ∧ R 1 ≤ 480 := hRb 1
      have b2 : -480 ≤ R 2 ∧ R 2 ≤ 480 := hRb 2
      have b3 : -480 ≤ R 3 ∧ R 3 ≤ 480 := hRb 3
      refine lv_iload hx hb dX2_divides_17 (lv_at hl 0 rfl) ?_
      refine lv_iload hx hb dX2_divides_19 (lv_at hl 1 rfl) ?_
      refine ix_icmp_ge (tgt := 26) hx hb dX2_divides_21 (by decide) (by decide) (by decide) (fun _ => ?_) (fun c162 => absurd c162 (by decide))
      refine ix_iconst (n := 0) hx hb dX2_divides_26 ?_
      refine lv_istore (lv' := [(6, .int (iI 0)), (5, .int (iI 3)), (4, .int (iI 1)), (0, .ref x), (1, .int (iI a)), (2, .int (iI b)), (3, .int (iI k))]) hx hb dX2_divides_27 hl (by decide) rfl (fun ls hl => ?_)
      refine lv_iload hx hb dX2_divides_29 (lv_at hl 0 rfl) ?_
      refine ix_iconst (n := 5) hx hb dX2_divides_31 ?_
      refine ix_icmp_ge (tgt := 49) hx hb dX2_divides_32 (by decide) (by decide) (by decide) (fun c163 => absurd c163 (by decide)) (fun _ => ?_)
      refine lv_aload_n hx hb dX2_divides_35 rfl (lv_at hl 3 rfl) ?_
      refine va_get (D := (dC, dI)) (ci := 2) (v := .ref d) (C := RX2) (T := TX2) (N := 17) hx hb hw inX2 hown hK hP 0 rfl rfl 3 (by decide) (hw _ mA_384) (fun _ h9 => h9) rfl dX2_divides_36 ?_
      refine lv_iload hx hb dX2_divides_39 (lv_at hl 0 rfl) ?_
      refine ix_lconst0 hx hb dX2_divides_41 ?_
      refine ix_last (k := 0) (x := 0) hx hb hK hP hD hS 2 0 rfl rfl (by decide) (by decide) (by decide) dX2_divides_42 (fun H locs hP hD hS => ?_)
      have hP : va_P (dC, dI) vwCl [(x, .inr (2, [.int (iI cd), .ref n, .ref r, .ref d, .int (iI cn), .int (iI fc), .ref ya, .ref yb, .ref yc, .ref yo, .long (lI (X 0)), .long (lI (X 1)), .long (lI (X 2)), .long (lI (X 3)), .long (lI (X 4)), .long (lI (X 5)), .long (lI (X 6))])), (r, .inl (cJ, 5, .inr (.inl (aL R)))), (d, .inl (cJ, 5, .inr (.inl (aL (iu D 0 0)))))] H := hP
      have hD : va_D A [(x, .inr (2, [.int (iI cd), .ref n, .ref r, .ref d, .int (iI cn), .int (iI fc), .ref ya, .ref yb, .ref yc, .ref yo, .long (lI (X 0)), .long (lI (X 1)), .long (lI (X 2)), .long (lI (X 3)), .long (lI (X 4)), .long (lI (X 5)), .long (lI (X 6))])), (r, .inl (cJ, 5, .inr (.inl (aL R)))), (d, .inl (cJ, 5, .inr (.inl (aL (iu D 0 0)))))] := hD
      refine ix_iinc (k := 0) (lv2 := [(6, .int (iI 1)), (5, .int (iI 3)), (4, .int (iI 1)), (0, .ref x), (1, .int (iI a)), (2, .int (iI b)), (3, .int (iI k))]) hx hb dX2_divides_43 hl rfl (by decide) rfl (fun ls hl => ?_)
      refine lv_goto (tgt := 29) hx hb dX2_divides_46 (by decide) ?_
      refine lv_iload hx hb dX2_divides_29 (lv_at hl 0 rfl) ?_
      refine ix_iconst (n := 5) hx hb dX2_divides_31 ?_
      refine ix_icmp_ge (tgt := 49) hx hb dX2_divides_32 (by decide) (by decide) (by decide) (fun c164 => absurd c164 (by decide)) (fun _ => ?_)
      refine lv_aload_n hx hb dX2_divides_35 rfl (lv_at hl 3 rfl) ?_
      refine va_get (D := (dC, dI)) (ci := 2) (v := .ref d) (C := RX2) (T := TX2) (N := 17) hx hb hw inX2 hown hK hP 0 rfl rfl 3 (by decide) (hw _ mA_384) (fun _ h9 => h9) rfl dX2_divides_36 ?_
      refine lv_iload hx hb dX2_divides_39 (lv_at hl 0 rfl) ?_
      refine ix_lconst0 hx hb dX2_divides_41 ?_
      refine ix_last (k := 1) (x := 0) hx hb hK hP hD hS 2 0 rfl rfl (by decide) (by decide) (by decide) dX2_divides_42 (fun H locs hP hD hS => ?_)
      have hP : va_P (dC, dI) vwCl [(x, .inr (2, [.int (iI cd), .ref n, .ref r, .ref d, .int (iI cn), .int (iI fc), .ref ya, .ref yb, .ref yc, .ref yo, .long (lI (X 0)), .long (lI (X 1)), .long (lI (X 2)), .long (lI (X 3)), .long (lI (X 4)), .long (lI (X 5)), .long (lI (X 6))])), (r, .inl (cJ, 5, .inr (.inl (aL R)))), (d, .inl (cJ, 5, .inr (.inl (aL (iu (iu D 0 0) 1 0)))))] H := hP
      have hD : va_D A [(x, .inr (2, [.int (iI cd), .ref n, .ref r, .ref d, .int (iI cn), .int (iI fc), .ref ya, .ref yb, .ref yc, .ref yo, .long (lI (X 0)), .long (lI (X 1)), .long (lI (X 2)), .long (lI (X 3)), .long (lI (X 4)), .long (lI (X 5)), .long (lI (X 6))])), (r, .inl (cJ, 5, .inr (.inl (aL R)))), (d, .inl (cJ, 5, .inr (.inl (aL (iu (iu D 0 0) 1 0)))))] := hD
      refine ix_iinc (k := 0) (lv2 := [(6, .int (iI 2)), (5, .int (iI 3)), (4, .int (iI 1)), (0, .ref x), (1, .int (iI a)), (2, .int (iI b)), (3, .int (iI k))]) hx hb dX2_divides_43 hl rfl (by decide) rfl (fun ls hl => ?_)
      refine lv_goto (tgt := 29) hx hb dX2_divides_46 (by decide) ?_
      refine lv_iload hx hb dX2_divides_29 (lv_at hl 0 rfl) ?_
      refine ix_iconst (n := 5) hx hb dX2_divides_31 ?_
      refine ix_icmp_ge (tgt := 49) hx hb dX2_divides_32 (by decide) (by decide) (by decide) (fun c165 => absurd c165 (by decide)) (fun _ => ?_)
      refine lv_aload_n hx hb dX2_divides_35 rfl (lv_at hl 3 rfl) ?_
      refine va_get (D := (dC, dI)) (ci := 2) (v := .ref d) (C := RX2) (T := TX2) (N := 17) hx hb hw inX2 hown hK hP 0 rfl rfl 3 (by decide) (hw _ mA_384) (fun _ h9 => h9) rfl dX2_divides_36 ?_
      refine lv_iload hx hb dX2_divides_39 (lv_at hl 0 rfl) ?_
      refine ix_lconst0 hx hb dX2_divides_41 ?_
      refine ix_last (k := 2) (x := 0) hx hb hK hP hD hS 2 0 rfl rfl (by decide) (by decide) (by decide) dX2_divides_42 (fun H locs hP hD hS => ?_)
      have hP : va_P (dC, dI) vwCl [(x, .inr (2, [.int (iI cd), .ref n, .ref r, .ref d, .int (iI cn), .int (iI fc), .ref ya, .ref yb, .ref yc, .ref yo, .long (lI (X 0)), .long (lI (X 1)), .long (lI (X 2)), .long (lI (X 3)), .long (lI (X 4)), .long (lI (X 5)), .long (lI (X 6))])), (r, .inl (cJ, 5, .inr (.inl (aL R)))), (d, .inl (cJ, 5, .inr (.inl (aL (iu (iu (iu D 0 0) 1 0) 2 0)))))] H := hP
      have hD : va_D A [(x, .inr (2, [.int (iI cd), .ref n, .ref r, .ref d, .int (iI cn), .int (iI fc), .ref ya, .ref yb, .ref yc, .ref yo, .long (lI (X 0)), .long (lI (X 1)), .long (lI (X 2)), .long (lI (X 3)), .long (lI (X 4)), .long (lI (X 5)), .long (lI (X 6))])), (r, .inl (cJ, 5, .inr (.inl (aL R)))), (d, .inl (cJ, 5, .inr (.inl (aL (iu (iu (iu D 0 0) 1 0) 2 0)))))] := hD
      refine ix_iinc (k := 0) (lv2 := [(6, .int (iI 3)), (5, .int (iI 3)), (4, .int (iI 1)), (0, .ref x), (1, .int (iI a)), (2, .int (iI b)), (3, .int (iI k))]) hx hb dX2_divides_43 hl rfl (by decide) rfl (fun ls hl => ?_)
      refine lv_goto (tgt := 29) hx hb dX2_divides_46 (by decide) ?_
      refine lv_iload hx hb dX2_divides_29 (lv_at hl 0 rfl) ?_
      refine ix_iconst (n := 5) hx hb dX2_divides_31 ?_
      refine ix_icmp_ge (tgt := 49) hx hb dX2_divides_32 (by decide) (by decide) (by decide) (fun c166 => absurd c166 (by decide)) (fun _ => ?_)
      refine lv_aload_n hx hb dX2_divides_35 rfl (lv_at hl 3 rfl) ?_
      refine va_get (D := (dC, dI)) (ci := 2) (v := .ref d) (C := RX2) (T := TX2) (N := 17) hx hb hw inX2 hown hK hP 0 rfl rfl 3 (by decide) (hw _ mA_384) (fun _ h9 => h9) rfl dX2_divides_36 ?_
      refine lv_iload hx hb dX2_divides_39 (lv_at hl 0 rfl) ?_
      refine ix_lconst0 hx hb dX2_divides_41 ?_
      refine ix_last (k := 3) (x := 0) hx hb hK hP hD hS 2 0 rfl rfl (by decide) (by decide) (by decide) dX2_divides_42 (fun H locs hP hD hS => ?_)
      have hP : va_P (dC, dI) vwCl [(x, .inr (2, [.int (iI cd), .ref n, .ref r, .ref d, .int (iI cn), .int (iI fc), .ref ya, .ref yb, .ref yc, .ref yo, .long (lI (X 0)), .long (lI (X 1)), .long (lI (X 2)), .long (lI (X 3)), .long (lI (X 4)), .long (lI (X 5)), .long (lI (X 6))])), (r, .inl (cJ, 5, .inr (.inl (aL R)))), (d, .inl (cJ, 5, .inr (.inl (aL (iu (iu (iu (iu D 0 0) 1 0) 2 0) 3 0)))))] H := hP
      have hD : va_D A [(x, .inr (2, [.int (iI cd), .ref n, .ref r, .ref d, .int (iI cn), .int (iI fc), .ref ya, .ref yb, .ref yc, .ref yo, .long (lI (X 0)), .long (lI (X 1)), .long (lI (X 2)), .long (lI (X 3)), .long (lI (X 4)), .long (lI (X 5)), .long (lI (X 6))])), (r, .inl (cJ, 5, .inr (.inl (aL R)))), (d, .inl (cJ, 5, .inr (.inl (aL (iu (iu (iu (iu D 0 0) 1 0) 2 0) 3 0)))))] := hD
      refine ix_iinc (k := 0) (lv2 := [(6, .int (iI 4)), (5, .int (iI 3)), (4, .int (iI 1)), (0, .ref x), (1, .int (iI a)), (2, .int (iI b)), (3, .int (iI k))]) hx hb dX2_divides_43 hl rfl (by decide) rfl (fun ls hl => ?_)
      refine lv_goto (tgt := 29) hx hb dX2_divides_46 (by decide) ?_
      refine lv_iload hx hb dX2_divides_29 (lv_at hl 0 rfl) ?_
      refine ix_iconst (n := 5) hx hb dX2_divides_31 ?_
      refine ix_icmp_ge (tgt := 49) hx hb dX2_divides_32 (by decide) (by decide) (by decide) (fun c167 => absurd c167 (by decide)) (fun _ => ?_)
      refine lv_aload_n hx hb dX2_divides_35 rfl (lv_at hl 3 rfl) ?_
      refine va_get (D := (dC, dI)) (ci := 2) (v := .ref d) (C := RX2) (T := TX2) (N := 17) hx hb hw inX2 hown hK hP 0 rfl rfl 3 (by decide) (hw _ mA_384) (fun _ h9 => h9) rfl dX2_divides_36 ?_
      refine lv_iload hx hb dX2_divides_39 (lv_at hl 0 rfl) ?_
      refine ix_lconst0 hx hb dX2_divides_41 ?_
      refine ix_last (k := 4) (x := 0) hx hb hK hP hD hS 2 0 rfl rfl (by decide) (by decide) (by decide) dX2_divides_42 (fun H locs hP hD hS => ?_)
      have hP : va_P (dC, dI) vwCl [(x, .inr (2, [.int (iI cd), .ref n, .ref r, .ref d, .int (iI cn), .int (iI fc), .ref ya, .ref yb, .ref yc, .ref yo, .long (lI (X 0)), .long (lI (X 1)), .long (lI (X 2)), .long (lI (X 3)), .long (lI (X 4)), .long (lI (X 5)), .long (lI (X 6))])), (r, .inl (cJ, 5, .inr (.inl (aL R)))), (d, .inl (cJ, 5, .inr (.inl (aL (iu (iu (iu (iu (iu D 0 0) 1 0) 2 0) 3 0) 4 0)))))] H := hP
      have hD : va_D A [(x, .inr (2, [.int (iI cd), .ref n, .ref r, .ref d, .int (iI cn), .int (iI fc), .ref ya, .ref yb, .ref yc, .ref yo, .long (lI (X 0)), .long (lI (X 1)), .long (lI (X 2)), .long (lI (X 3)), .long (lI (X 4)), .long (lI (X 5)), .long (lI (X 6))])), (r, .inl (cJ, 5, .inr (.inl (aL R)))), (d, .inl (cJ, 5, .inr (.inl (aL (iu (iu (iu (iu (iu D 0 0) 1 0) 2 0) 3 0) 4 0)))))] := hD
      refine ix_iinc (k := 0) (lv2 := [(6, .int (iI 5)), (5, .int (iI 3)), (4, .int (iI 1)), (0, .ref x), (1, .int (iI a)), (2, .int (iI b)), (3, .int (iI k))]) hx hb dX2_divides_43 hl rfl (by decide) rfl (fun ls hl => ?_)
      refine lv_goto (tgt := 29) hx hb dX2_divides_46 (by decide) ?_
      refine lv_iload hx hb dX2_divides_29 (lv_at hl 0 rfl) ?_
      refine ix_iconst (n := 5) hx hb dX2_divides_31 ?_
      refine ix_icmp_ge (tgt := 49) hx hb dX2_divides_32 (by decide) (by decide) (by decide) (fun _ => ?_) (fun c168 => absurd c168 (by decide))
      rw [p4_z hD5] at hP hD
      refine lv_iload hx hb dX2_divides_49 (lv_at hl 1 rfl) ?_
      refine lv_istore (lv' := [(6, .int (iI 3)), (5, .int (iI 3)), (4, .int (iI 1)), (0, .ref x), (1, .int (iI a)), (2, .int (iI b)), (3, .int (iI k))]) hx hb dX2_divides_51 hl (by decide) rfl (fun ls hl => ?_)
      refine lv_iload hx hb dX2_divides_53 (lv_at hl 0 rfl) ?_
      refine ix_if_lt (tgt := 266) hx hb dX2_divides_55 (by decide) (by decide) (fun c169 => absurd c169 (by decide)) (fun _ => ?_)
      refine lv_aload_n hx hb dX2_divides_58 rfl (lv_at hl 3 rfl) ?_
      refine va_get (D := (dC, dI)) (ci := 2) (v := .ref r) (C := RX2) (T := TX2) (N := 17) hx hb hw inX2 hown hK hP 0 rfl rfl 2 (by decide) (hw _ mA_383) (fun _ h9 => h9) rfl dX2_divides_59 ?_
      refine lv_iload hx hb dX2_divides_62 (lv_at hl 0 rfl) ?_
      refine ix_lald (k := 3) hx hb hK hP 1 0 rfl rfl (by decide) (by decide) (by decide) dX2_divides_64 ?_
      refine lv_lstore (lv' := [(7, .long (lI (R 3))), (6, .int (iI 3)), (5, .int (iI 3)), (4, .int (iI 1)), (0, .ref x), (1, .int (iI a)), (2, .int (iI b)), (3, .int (iI k))]) hx hb dX2_divides_65 hl (by decide) rfl (fun ls hl => ?_)
      refine lv_iload hx hb dX2_divides_67 (lv_at hl 3 rfl) ?_
      refine ix_iconst (n := 1) hx hb dX2_divides_69 ?_
      refine ix_icmp_ne (tgt := 142) hx hb dX2_divides_70 (by decide) (by decide) (by decide) (fun c170 => absurd c170 (by decide)) (fun _ => ?_)
      refine lv_iload hx hb dX2_divides_73 (lv_at hl 1 rfl) ?_
      refine lv_iload hx hb dX2_divides_75 (lv_at hl 2 rfl) ?_
      refine ix_icmp_ge (tgt := 95) hx hb dX2_divides_77 (by decide) (by decide) (by decide) (fun _ => ?_) (fun c171 => absurd c171 (by decide))
      refine lv_iload hx hb dX2_divides_95 (lv_at hl 1 rfl) ?_
      refine ix_if_ne (tgt := 113) hx hb dX2_divides_97 (by decide) (by decide) (fun _ => ?_) (fun c172 => absurd c172 (by decide))
      refine lv_lload hx hb dX2_divides_113 (lv_at hl 0 rfl) ?_
      refine lv_iload_n hx hb dX2_divides_115 rfl (lv_at hl 6 rfl) ?_
      refine ix_i2l hx hb dX2_divides_116 (by omega) ?_
      refine ix_lrem hx hb dX2_divides_117 (by omega) (by omega) (by omega) ?_
      refine ix_lconst0 hx hb dX2_divides_118 ?_
      refine ix_lc_eq (tgt := 125) hx hb dX2_divides_119 dX2_divides_120 (by decide) (by have := tmod_in (x := (R 3)) (y := b) (A := 100000000000000) (by omega); omega) (by decide) (fun c173 => ?_) (fun c173 => ?_)
      · refine lv_aload_n hx hb dX2_divides_125 rfl (lv_at hl 4 rfl) ?_
        refine va_get (D := (dC, dI)) (ci := 2) (v := .ref d) (C := RX2) (T := TX2) (N := 17) hx hb hw inX2 hown hK hP 0 rfl rfl 3 (by decide) (hw _ mA_384) (fun _ h9 => h9) rfl dX2_divides_126 ?_
        refine lv_iload hx hb dX2_divides_129 (lv_at hl 1 rfl) ?_
        refine ix_iconst (n := 1) hx hb dX2_divides_131 ?_
        refine ix_isub hx hb dX2_divides_132 ?_
        refine ix_z (y := 2) rfl ?_
        refine lv_lload hx hb dX2_divides_133 (lv_at hl 0 rfl) ?_
        refine lv_iload_n hx hb dX2_divides_135 rfl (lv_at hl 6 rfl) ?_
        refine ix_i2l hx hb dX2_divides_136 (by omega) ?_
        refine ix_ldiv hx hb dX2_divides_137 (by omega) (by omega) (by omega) (by omega) ?_
        have f2 : b * Int.tdiv (R 3) b = R 3 := tdiv_mul (by omega)
        have bx2 := tdiv_in (x := R 3) (y := b) (A := 480) (by omega)
        generalize Int.tdiv (R 3) b = x2 at f2 bx2 ⊢
        refine ix_last (k := 2) (x := x2) hx hb hK hP hD hS 2 0 rfl rfl (by decide) (by decide) (by decide) dX2_divides_138 (fun H locs hP hD hS => ?_)
        have hP : va_P (dC, dI) vwCl [(x, .inr (2, [.int (iI cd), .ref n, .ref r, .ref d, .int (iI cn), .int (iI fc), .ref ya, .ref yb, .ref yc, .ref yo, .long (lI (X 0)), .long (lI (X 1)), .long (lI (X 2)), .long (lI (X 3)), .long (lI (X 4)), .long (lI (X 5)), .long (lI (X 6))])), (r, .inl (cJ, 5, .inr (.inl (aL R)))), (d, .inl (cJ, 5, .inr (.inl (aL (iu (p4 0 0 0 0) 2 x2)))))] H := hP
        have hD : va_D A [(x, .inr (2, [.int (iI cd), .ref n, .ref r, .ref d, .int (iI cn), .int (iI fc), .ref ya, .ref yb, .ref yc, .ref yo, .long (lI (X 0)), .long (lI (X 1)), .long (lI (X 2)), .long (lI (X 3)), .long (lI (X 4)), .long (lI (X 5)), .long (lI (X 6))])), (r, .inl (cJ, 5, .inr (.inl (aL R)))), (d, .inl (cJ, 5, .inr (.inl (aL (iu (p4 0 0 0 0) 2 x2)))))] := hD
        rw [p4_2] at hP hD
        refine lv_goto (tgt := 260) hx hb dX2_divides_139 (by decide) ?_
        refine ix_iinc (k := 1) (lv2 := [(6, .int (iI 2)), (7, .long (lI (R 3))), (5, .int (iI 3)), (4, .int (iI 1)), (0, .ref x), (1, .int (iI a)), (2, .int (iI b)), (3, .int (iI k))]) hx hb dX2_divides_260 hl rfl (by decide) rfl (fun ls hl => ?_)
        refine lv_goto (tgt := 53) hx hb dX2_divides_263 (by decide) ?_
        refine lv_iload hx hb dX2_divides_53 (lv_at hl 0 rfl) ?_
        refine ix_if_lt (tgt := 266) hx hb dX2_divides_55 (by decide) (by decide) (fun c174 => absurd c174 (by decide)) (fun _ => ?_)
        refine lv_aload_n hx hb dX2_divides_58 rfl (lv_at hl 4 rfl) ?_
        refine va_get (D := (dC, dI)) (ci := 2) (v := .ref r) (C := RX2) (T := TX2) (N := 17) hx hb hw inX2 hown hK hP 0 rfl rfl 2 (by decide) (hw _ mA_383) (fun _ h9 => h9) rfl dX2_divides_59 ?_
        refine lv_iload hx hb dX2_divides_62 (lv_at hl 0 rfl) ?_
        refine ix_lald (k := 2) hx hb hK hP 1 0 rfl rfl (by decide) (by decide) (by decide) dX2_divides_64 ?_
        refine lv_lstore (lv' := [(7, .long (lI (R 2))), (6, .int (iI 2)), (5, .int (iI 3)), (4, .int (iI 1)), (0, .ref x), (1, .int (iI a)), (2, .int (iI b)), (3, .int (iI k))]) hx hb dX2_divides_65 hl (by decide) rfl (fun ls hl => ?_)
        refine lv_iload hx hb dX2_divides_67 (lv_at hl 3 rfl) ?_
        refine ix_iconst (n := 1) hx hb dX2_divides_69 ?_
        refine ix_icmp_ne (tgt := 142) hx hb dX2_divides_70 (by decide) (by decide) (by decide) (fun c175 => absurd c175 (by decide)) (fun _ => ?_)
        refine lv_iload hx hb dX2_divides_73 (lv_at hl 1 rfl) ?_
        refine lv_iload hx hb dX2_divides_75 (lv_at hl 2 rfl) ?_
        refine ix_icmp_ge (tgt := 95) hx hb dX2_divides_77 (by decide) (by decide) (by decide) (fun c176 => absurd c176 (by decide)) (fun _ => ?_)
        refine lv_lload hx hb dX2_divides_80 (lv_at hl 0 rfl) ?_
        refine lv_iload_n hx hb dX2_divides_82 rfl (lv_at hl 7 rfl) ?_
        refine ix_i2l hx hb dX2_divides_83 (by omega) ?_
        refine lv_aload_n hx hb dX2_divides_84 rfl (lv_at hl 4 rfl) ?_
        refine va_get (D := (dC, dI)) (ci := 2) (v := .ref d) (C := RX2) (T := TX2) (N := 17) hx hb hw inX2 hown hK hP 0 rfl rfl 3 (by decide) (hw _ mA_384) (fun _ h9 => h9) rfl dX2_divides_85 ?_
        refine lv_iload hx hb dX2_divides_88 (lv_at hl 1 rfl) ?_
        refine ix_lald (k := 2) hx hb hK hP 2 0 rfl rfl (by decide) (by decide) (by decide) dX2_divides_90 ?_
        refine ix_zl (y := x2) rfl ?_
        refine ix_lmul hx hb dX2_divides_91 ?_
        have mkx2 := mul_in (x := k) (y := x2) (A := 240) (B := 480) hk9 bx2 (by decide) (by decide)
        refine ix_lsub hx hb dX2_divides_92 ?_
        refine lv_lstore (lv' := [(7, .long (lI ((R 2) - (k * x2)))), (6, .int (iI 2)), (5, .int (iI 3)), (4, .int (iI 1)), (0, .ref x), (1, .int (iI a)), (2, .int (iI b)), (3, .int (iI k))]) hx hb dX2_divides_93 hl (by decide) rfl (fun ls hl => ?_)
        refine lv_iload hx hb dX2_divides_95 (lv_at hl 1 rfl) ?_
        refine ix_if_ne (tgt := 113) hx hb dX2_divides_97 (by decide) (by decide) (fun _ => ?_) (fun c177 => absurd c177 (by decide))
        refine lv_lload hx hb dX2_divides_113 (lv_at hl 0 rfl) ?_
        refine lv_iload_n hx hb dX2_divides_115 rfl (lv_at hl 6 rfl) ?_
        refine ix_i2l hx hb dX2_divides_116 (by omega) ?_
        refine ix_lrem hx hb dX2_divides_117 (by omega) (by omega) (by omega) ?_
        refine ix_lconst0 hx hb dX2_divides_118 ?_
        refine ix_lc_eq (tgt := 125) hx hb dX2_divides_119 dX2_divides_120 (by decide) (by have := tmod_in (x := ((R 2) - (k * x2))) (y := b) (A := 100000000000000) (by omega); omega) (by decide) (fun c178 => ?_) (fun c178 => ?_)
        · refine lv_aload_n hx hb dX2_divides_125 rfl (lv_at hl 4 rfl) ?_
          refine va_get (D := (dC, dI)) (ci := 2) (v := .ref d) (C := RX2) (T := TX2) (N := 17) hx hb hw inX2 hown hK hP 0 rfl rfl 3 (by decide) (hw _ mA_384) (fun _ h9 => h9) rfl dX2_divides_126 ?_
          refine lv_iload hx hb dX2_divides_129 (lv_at hl 1 rfl) ?_
          refine ix_iconst (n := 1) hx hb dX2_divides_131 ?_
          refine ix_isub hx hb dX2_divides_132 ?_
          refine ix_z (y := 1) rfl ?_
          refine lv_lload hx hb dX2_divides_133 (lv_at hl 0 rfl) ?_
          refine lv_iload_n hx hb dX2_divides_135 rfl (lv_at hl 6 rfl) ?_
          refine ix_i2l hx hb dX2_divides_136 (by omega) ?_
          refine ix_ldiv hx hb dX2_divides_137 (by omega) (by omega) (by omega) (by omega) ?_
          have f1 : b * Int.tdiv ((R 2) - (k * x2)) b = (R 2) - (k * x2) := tdiv_mul (by omega)
          have bx1 := tdiv_in (x := (R 2) - (k * x2)) (y := b) (A := 115680) (by omega)
          generalize Int.tdiv ((R 2) - (k * x2)) b = x1 at f1 bx1 ⊢
          refine ix_last (k := 1) (x := x1) hx hb hK hP hD hS 2 0 rfl rfl (by decide) (by decide) (by decide) dX2_divides_138 (fun H locs hP hD hS => ?_)
          have hP : va_P (dC, dI) vwCl [(x, .inr (2, [.int (iI cd), .ref n, .ref r, .ref d, .int (iI cn), .int (iI fc), .ref ya, .ref yb, .ref yc, .ref yo, .long (lI (X 0)), .long (lI (X 1)), .long (lI (X 2)), .long (lI (X 3)), .long (lI (X 4)), .long (lI (X 5)), .long (lI (X 6))])), (r, .inl (cJ, 5, .inr (.inl (aL R)))), (d, .inl (cJ, 5, .inr (.inl (aL (iu (p4 0 0 x2 0) 1 x1)))))] H := hP
          have hD : va_D A [(x, .inr (2, [.int (iI cd), .ref n, .ref r, .ref d, .int (iI cn), .int (iI fc), .ref ya, .ref yb, .ref yc, .ref yo, .long (lI (X 0)), .long (lI (X 1)), .long (lI (X 2)), .long (lI (X 3)), .long (lI (X 4)), .long (lI (X 5)), .long (lI (X 6))])), (r, .inl (cJ, 5, .inr (.inl (aL R)))), (d, .inl (cJ, 5, .inr (.inl (aL (iu (p4 0 0 x2 0) 1 x1)))))] := hD
          rw [p4_1] at hP hD
          refine lv_goto (tgt := 260) hx hb dX2_divides_139 (by decide) ?_
          refine ix_iinc (k := 1) (lv2 := [(6, .int (iI 1)), (7, .long (lI ((R 2) - (k * x2)))), (5, .int (iI 3)), (4, .int (iI 1)), (0, .ref x), (1, .int (iI a)), (2, .int (iI b)), (3, .int (iI k))]) hx hb dX2_divides_260 hl rfl (by decide) rfl (fun ls hl => ?_)
          refine lv_goto (tgt := 53) hx hb dX2_divides_263 (by decide) ?_
          refine lv_iload hx hb dX2_divides_53 (lv_at hl 0 rfl) ?_
          refine ix_if_lt (tgt := 266) hx hb dX2_divides_55 (by decide) (by decide) (fun c179 => absurd c179 (by decide)) (fun _ => ?_)
          refine lv_aload_n hx hb dX2_divides_58 rfl (lv_at hl 4 rfl) ?_
          refine va_get (D := (dC, dI)) (ci := 2) (v := .ref r) (C := RX2) (T := TX2) (N := 17) hx hb hw inX2 hown hK hP 0 rfl rfl 2 (by decide) (hw _ mA_383) (fun _ h9 => h9) rfl dX2_divides_59 ?_
          refine lv_iload hx hb dX2_divides_62 (lv_at hl 0 rfl) ?_
          refine ix_lald (k := 1) hx hb hK hP 1 0 rfl rfl (by decide) (by decide) (by decide) dX2_divides_64 ?_
          refine lv_lstore (lv' := [(7, .long (lI (R 1))), (6, .int (iI 1)), (5, .int (iI 3)), (4, .int (iI 1)), (0, .ref x), (1, .int (iI a)), (2, .int (iI b)), (3, .int (iI k))]) hx hb dX2_divides_65 hl (by decide) rfl (fun ls hl => ?_)
          refine lv_iload hx hb dX2_divides_67 (lv_at hl 3 rfl) ?_
          refine ix_iconst (n := 1) hx hb dX2_divides_69 ?_
          refine ix_icmp_ne (tgt := 142) hx hb dX2_divides_70 (by decide) (by decide) (by decide) (fun c180 => absurd c180 (by decide)) (fun _ => ?_)
          refine lv_iload hx hb dX2_divides_73 (lv_at hl 1 rfl) ?_
          refine lv_iload hx hb dX2_divides_75 (lv_at hl 2 rfl) ?_
          refine ix_icmp_ge (tgt := 95) hx hb dX2_divides_77 (by decide) (by decide) (by decide) (fun c181 => absurd c181 (by decide)) (fun _ => ?_)
          refine lv_lload hx hb dX2_divides_80 (lv_at hl 0 rfl) ?_
          refine lv_iload_n hx hb dX2_divides_82 rfl (lv_at hl 7 rfl) ?_
          refine ix_i2l hx hb dX2_divides_83 (by omega) ?_
          refine lv_aload_n hx hb dX2_divides_84 rfl (lv_at hl 4 rfl) ?_
          refine va_get (D := (dC, dI)) (ci := 2) (v := .ref d) (C := RX2) (T := TX2) (N := 17) hx hb hw inX2 hown hK hP 0 rfl rfl 3 (by decide) (hw _ mA_384) (fun _ h9 => h9) rfl dX2_divides_85 ?_
          refine lv_iload hx hb dX2_divides_88 (lv_at hl 1 rfl) ?_
          refine ix_lald (k := 1) hx hb hK hP 2 0 rfl rfl (by decide) (by decide) (by decide) dX2_divides_90 ?_
          refine ix_zl (y := x1) rfl ?_
          refine ix_lmul hx hb dX2_divides_91 ?_
          have mkx1 := mul_in (x := k) (y := x1) (A := 240) (B := 115680) hk9 bx1 (by decide) (by decide)
          refine ix_lsub hx hb dX2_divides_92 ?_
          refine lv_lstore (lv' := [(7, .long (lI ((R 1) - (k * x1)))), (6, .int (iI 1)), (5, .int (iI 3)), (4, .int (iI 1)), (0, .ref x), (1, .int (iI a)), (2, .int (iI b)), (3, .int (iI k))]) hx hb dX2_divides_93 hl (by decide) rfl (fun ls hl => ?_)
          refine lv_iload hx hb dX2_divides_95 (lv_at hl 1 rfl) ?_
          refine ix_if_ne (tgt := 113) hx hb dX2_divides_97 (by decide) (by decide) (fun _ => ?_) (fun c182 => absurd c182 (by decide))
          refine lv_lload hx hb dX2_divides_113 (lv_at hl 0 rfl) ?_
          refine lv_iload_n hx hb dX2_divides_115 rfl (lv_at hl 6 rfl) ?_
          refine ix_i2l hx hb dX2_divides_116 (by omega) ?_
          refine ix_lrem hx hb dX2_divides_117 (by omega) (by omega) (by omega) ?_
          refine ix_lconst0 hx hb dX2_divides_118 ?_
          refine ix_lc_eq (tgt := 125) hx hb dX2_divides_119 dX2_divides_120 (by decide) (by have := tmod_in (x := ((R 1) - (k * x1))) (y := b) (A := 100000000000000) (by omega); omega) (by decide) (fun c183 => ?_) (fun c183 => ?_)
          · refine lv_aload_n hx hb dX2_divides_125 rfl (lv_at hl 4 rfl) ?_
            refine va_get (D := (dC, dI)) (ci := 2) (v := .ref d) (C := RX2) (T := TX2) (N := 17) hx hb hw inX2 hown hK hP 0 rfl rfl 3 (by decide) (hw _ mA_384) (fun _ h9 => h9) rfl dX2_divides_126 ?_
            refine lv_iload hx hb dX2_divides_129 (lv_at hl 1 rfl) ?_
            refine ix_iconst (n := 1) hx hb dX2_divides_131 ?_
            refine ix_isub hx hb dX2_divides_132 ?_
            refine ix_z (y := 0) rfl ?_
            refine lv_lload hx hb dX2_divides_133 (lv_at hl 0 rfl) ?_
            refine lv_iload_n hx hb dX2_divides_135 rfl (lv_at hl 6 rfl) ?_
            refine ix_i2l hx hb dX2_divides_136 (by omega) ?_
            refine ix_ldiv hx hb dX2_divides_137 (by omega) (by omega) (by omega) (by omega) ?_
            have f0 : b * Int.tdiv ((R 1) - (k * x1)) b = (R 1) - (k * x1) := tdiv_mul (by omega)
            have bx0 := tdiv_in (x := (R 1) - (k * x1)) (y := b) (A := 27763680) (by omega)
            generalize Int.tdiv ((R 1) - (k * x1)) b = x0 at f0 bx0 ⊢
            refine ix_last (k := 0) (x := x0) hx hb hK hP hD hS 2 0 rfl rfl (by decide) (by decide) (by decide) dX2_divides_138 (fun H locs hP hD hS => ?_)
            have hP : va_P (dC, dI) vwCl [(x, .inr (2, [.int (iI cd), .ref n, .ref r, .ref d, .int (iI cn), .int (iI fc), .ref ya, .ref yb, .ref yc, .ref yo, .long (lI (X 0)), .long (lI (X 1)), .long (lI (X 2)), .long (lI (X 3)), .long (lI (X 4)), .long (lI (X 5)), .long (lI (X 6))])), (r, .inl (cJ, 5, .inr (.inl (aL R)))), (d, .inl (cJ, 5, .inr (.inl (aL (iu (p4 0 x1 x2 0) 0 x0)))))] H := hP
            have hD : va_D A [(x, .inr (2, [.int (iI cd), .ref n, .ref r, .ref d, .int (iI cn), .int (iI fc), .ref ya, .ref yb, .ref yc, .ref yo, .long (lI (X 0)), .long (lI (X 1)), .long (lI (X 2)), .long (lI (X 3)), .long (lI (X 4)), .long (lI (X 5)), .long (lI (X 6))])), (r, .inl (cJ, 5, .inr (.inl (aL R)))), (d, .inl (cJ, 5, .inr (.inl (aL (iu (p4 0 x1 x2 0) 0 x0)))))] := hD
            rw [p4_0] at hP hD
            refine lv_goto (tgt := 260) hx hb dX2_divides_139 (by decide) ?_
            refine ix_iinc (k := 1) (lv2 := [(6, .int (iI 0)), (7, .long (lI ((R 1) - (k * x1)))), (5, .int (iI 3)), (4, .int (iI 1)), (0, .ref x), (1, .int (iI a)), (2, .int (iI b)), (3, .int (iI k))]) hx hb dX2_divides_260 hl rfl (by decide) rfl (fun ls hl => ?_)
            refine lv_goto (tgt := 53) hx hb dX2_divides_263 (by decide) ?_
            refine lv_iload hx hb dX2_divides_53 (lv_at hl 0 rfl) ?_
            refine ix_if_lt (tgt := 266) hx hb dX2_divides_55 (by decide) (by decide) (fun c184 => absurd c184 (by decide)) (fun _ => ?_)
            refine lv_aload_n hx hb dX2_divides_58 rfl (lv_at hl 4 rfl) ?_
            refine va_get (D := (dC, dI)) (ci := 2) (v := .ref r) (C := RX2) (T := TX2) (N := 17) hx hb hw inX2 hown hK hP 0 rfl rfl 2 (by decide) (hw _ mA_383) (fun _ h9 => h9) rfl dX2_divides_59 ?_
            refine lv_iload hx hb dX2_divides_62 (lv_at hl 0 rfl) ?_
            refine ix_lald (k := 0) hx hb hK hP 1 0 rfl rfl (by decide) (by decide) (by decide) dX2_divides_64 ?_
            refine lv_lstore (lv' := [(7, .long (lI (R 0))), (6, .int (iI 0)), (5, .int (iI 3)), (4, .int (iI 1)), (0, .ref x), (1, .int (iI a)), (2, .int (iI b)), (3, .int (iI k))]) hx hb dX2_divides_65 hl (by decide) rfl (fun ls hl => ?_)
            refine lv_iload hx hb dX2_divides_67 (lv_at hl 3 rfl) ?_
            refine ix_iconst (n := 1) hx hb dX2_divides_69 ?_
            refine ix_icmp_ne (tgt := 142) hx hb dX2_divides_70 (by decide) (by decide) (by decide) (fun c185 => absurd c185 (by decide)) (fun _ => ?_)
            refine lv_iload hx hb dX2_divides_73 (lv_at hl 1 rfl) ?_
            refine lv_iload hx hb dX2_divides_75 (lv_at hl 2 rfl) ?_
            refine ix_icmp_ge (tgt := 95) hx hb dX2_divides_77 (by decide) (by decide) (by decide) (fun c186 => absurd c186 (by decide)) (fun _ => ?_)
            refine lv_lload hx hb dX2_divides_80 (lv_at hl 0 rfl) ?_
            refine lv_iload_n hx hb dX2_divides_82 rfl (lv_at hl 7 rfl) ?_
            refine ix_i2l hx hb dX2_divides_83 (by omega) ?_
            refine lv_aload_n hx hb dX2_divides_84 rfl (lv_at hl 4 rfl) ?_
            refine va_get (D := (dC, dI)) (ci := 2) (v := .ref d) (C := RX2) (T := TX2) (N := 17) hx hb hw inX2 hown hK hP 0 rfl rfl 3 (by decide) (hw _ mA_384) (fun _ h9 => h9) rfl dX2_divides_85 ?_
            refine lv_iload hx hb dX2_divides_88 (lv_at hl 1 rfl) ?_
            refine ix_lald (k := 0) hx hb hK hP 2 0 rfl rfl (by decide) (by decide) (by decide) dX2_divides_90 ?_
            refine ix_zl (y := x0) rfl ?_
            refine ix_lmul hx hb dX2_divides_91 ?_
            have mkx0 := mul_in (x := k) (y := x0) (A := 240) (B := 27763680) hk9 bx0 (by decide) (by decide)
            refine ix_lsub hx hb dX2_divides_92 ?_
            refine lv_lstore (lv' := [(7, .long (lI ((R 0) - (k * x0)))), (6, .int (iI 0)), (5, .int (iI 3)), (4, .int (iI 1)), (0, .ref x), (1, .int (iI a)), (2, .int (iI b)), (3, .int (iI k))]) hx hb dX2_divides_93 hl (by decide) rfl (fun ls hl => ?_)
            refine lv_iload hx hb dX2_divides_95 (lv_at hl 1 rfl) ?_
            refine ix_if_ne (tgt := 113) hx hb dX2_divides_97 (by decide) (by decide) (fun c187 => absurd c187 (by decide)) (fun _ => ?_)
            refine lv_lload hx hb dX2_divides_100 (lv_at hl 0 rfl) ?_
            refine ix_lconst0 hx hb dX2_divides_102 ?_
            refine ix_lc_ne (tgt := 111) hx hb dX2_divides_103 dX2_divides_104 (by decide) (by omega) (by decide) (fun c188 => ?_) (fun c188 => ?_)
            · refine ix_iconst (n := 0) hx hb dX2_divides_111 ?_
              have hno : ¬ ∃ Q, n5 Q ∧ dvs a b k R Q := by
                rintro ⟨T, hT, hd⟩
                rw [ha0] at hd
                obtain ⟨e4, e3, e2, e1, e0⟩ := lin_eqs (by omega) hR5 hT hd
                have t3 : T 3 = 0 := mul_cn (b := b) (by omega) (by omega)
                have t2 : T 2 = x2 := mul_cn (b := b) (by omega) (by rw [t3] at e3; omega)
                have t1 : T 1 = x1 := mul_cn (b := b) (by omega) (by rw [t2] at e2; omega)
                have t0 : T 0 = x0 := mul_cn (b := b) (by omega) (by rw [t1] at e1; omega)
                rw [t0] at e0
                omega
              have hP9 := hP.sub (ws' := [(x, .inr (2, [.int (iI cd), .ref n, .ref r, .ref d, .int (iI cn), .int (iI fc), .ref ya, .ref yb, .ref yc, .ref yo, .long (lI (X 0)), .long (lI (X 1)), .long (lI (X 2)), .long (lI (X 3)), .long (lI (X 4)), .long (lI (X 5)), .long (lI (X 6))])), (r, .inl (cJ, 5, .inr (.inl (aL R)))), (d, .inl (cJ, 5, .inr (.inl (aL (p4 x0 x1 x2 0)))))]) [0, 1, 2] rfl
              have hD9 := hD.sub (ws' := [(x, .inr (2, [.int (iI cd), .ref n, .ref r, .ref d, .int (iI cn), .int (iI fc), .ref ya, .ref yb, .ref yc, .ref yo, .long (lI (X 0)), .long (lI (X 1)), .long (lI (X 2)), .long (lI (X 3)), .long (lI (X 4)), .long (lI (X 5)), .long (lI (X 6))])), (r, .inl (cJ, 5, .inr (.inl (aL R)))), (d, .inl (cJ, 5, .inr (.inl (aL (p4 x0 x1 x2 0)))))]) [0, 1, 2] (by decide) rfl
              have hK9 := hK.sub (tys' := [(cJ, .long)]) [0] rfl
              exact W.zret (v := iI 0) hx hb hr (by decide) (fun t ht hW => ⟨⟨iI 0, (p4 x0 x1 x2 0), rfl, ⟨p4_n5 _ _ _ _, Or.inr ⟨rfl, hno⟩⟩, by rw [ht]; exact hP9, va_K.moved hW.alike hK9, hD9⟩, hS.F ht⟩) hS.2.2 dX2_divides_112
            · refine ix_iconst (n := 1) hx hb dX2_divides_107 ?_
              refine lv_goto (tgt := 112) hx hb dX2_divides_108 (by decide) ?_
              have hdv : dvs a b k R (p4 x0 x1 x2 0) := dvs_p4 hR5 (by rw [ha0]; omega) (by rw [ha0]; omega) (by rw [ha0]; omega) (by rw [ha0]; omega) (by omega) (by omega)
              have hP9 := hP.sub (ws' := [(x, .inr (2, [.int (iI cd), .ref n, .ref r, .ref d, .int (iI cn), .int (iI fc), .ref ya, .ref yb, .ref yc, .ref yo, .long (lI (X 0)), .long (lI (X 1)), .long (lI (X 2)), .long (lI (X 3)), .long (lI (X 4)), .long (lI (X 5)), .long (lI (X 6))])), (r, .inl (cJ, 5, .inr (.inl (aL R)))), (d, .inl (cJ, 5, .inr (.inl (aL (p4 x0 x1 x2 0)))))]) [0, 1, 2] rfl
              have hD9 := hD.sub (ws' := [(x, .inr (2, [.int (iI cd), .ref n, .ref r, .ref d, .int (iI cn), .int (iI fc), .ref ya, .ref yb, .ref yc, .ref yo, .long (lI (X 0)), .long (lI (X 1)), .long (lI (X 2)), .long (lI (X 3)), .long (lI (X 4)), .long (lI (X 5)), .long (lI (X 6))])), (r, .inl (cJ, 5, .inr (.inl (aL R)))), (d, .inl (cJ, 5, .inr (.inl (aL (p4 x0 x1 x2 0)))))]) [0, 1, 2] (by decide) rfl
              have hK9 := hK.sub (tys' := [(cJ, .long)]) [0] rfl
              exact W.zret (v := iI 1) hx hb hr (by decide) (fun t ht hW => ⟨⟨iI 1, (p4 x0 x1 x2 0), rfl, ⟨p4_n5 _ _ _ _, Or.inl ⟨rfl, hdv⟩⟩, by rw [ht]; exact hP9, va_K.moved hW.alike hK9, hD9⟩, hS.F ht⟩) hS.2.2 dX2_divides_112
          · refine ix_iconst (n := 0) hx hb dX2_divides_123 ?_
            have hno : ¬ ∃ Q, n5 Q ∧ dvs a b k R Q := by
              rintro ⟨T, hT, hd⟩
              rw [ha0] at hd
              obtain ⟨e4, e3, e2, e1, e0⟩ := lin_eqs (by omega) hR5 hT hd
              have t3 : T 3 = 0 := mul_cn (b := b) (by omega) (by omega)
              have t2 : T 2 = x2 := mul_cn (b := b) (by omega) (by rw [t3] at e3; omega)
              have t1 : T 1 = x1 := mul_cn (b := b) (by omega) (by rw [t2] at e2; omega)
              rw [t1] at e1
              exact c183 (tdiv_of (hi := b) (q := T 0) (by omega) (by omega)).1
            have hP9 := hP.sub (ws' := [(x, .inr (2, [.int (iI cd), .ref n, .ref r, .ref d, .int (iI cn), .int (iI fc), .ref ya, .ref yb, .ref yc, .ref yo, .long (lI (X 0)), .long (lI (X 1)), .long (lI (X 2)), .long (lI (X 3)), .long (lI (X 4)), .long (lI (X 5)), .long (lI (X 6))])), (r, .inl (cJ, 5, .inr (.inl (aL R)))), (d, .inl (cJ, 5, .inr (.inl (aL (p4 0 x1 x2 0)))))]) [0, 1, 2] rfl
            have hD9 := hD.sub (ws' := [(x, .inr (2, [.int (iI cd), .ref n, .ref r, .ref d, .int (iI cn), .int (iI fc), .ref ya, .ref yb, .ref yc, .ref yo, .long (lI (X 0)), .long (lI (X 1)), .long (lI (X 2)), .long (lI (X 3)), .long (lI (X 4)), .long (lI (X 5)), .long (lI (X 6))])), (r, .inl (cJ, 5, .inr (.inl (aL R)))), (d, .inl (cJ, 5, .inr (.inl (aL (p4 0 x1 x2 0)))))]) [0, 1, 2] (by decide) rfl
            have hK9 := hK.sub (tys' := [(cJ, .long)]) [0] rfl
            exact W.zret (v := iI 0) hx hb hr (by decide) (fun t ht hW => ⟨⟨iI 0, (p4 0 x1 x2 0), rfl, ⟨p4_n5 _ _ _ _, Or.inr ⟨rfl, hno⟩⟩, by rw [ht]; exact hP9, va_K.moved hW.alike hK9, hD9⟩, hS.F ht⟩) hS.2.2 dX2_divides_124
        · refine ix_iconst (n := 0) hx hb dX2_divides_123 ?_
          have hno : ¬ ∃ Q, n5 Q ∧ dvs a b k R Q := by
            rintro ⟨T, hT, hd⟩
            rw [ha0] at hd
            obtain ⟨e4, e3, e2, e1, e0⟩ := lin_eqs (by omega) hR5 hT hd
            have t3 : T 3 = 0 := mul_cn (b := b) (by omega) (by omega)
            have t2 : T 2 = x2 := mul_cn (b := b) (by omega) (by rw [t3] at e3; omega)
            rw [t2] at e2
            exact c178 (tdiv_of (hi := b) (q := T 1) (by omega) (by omega)).1
          have hP9 := hP.sub (ws' := [(x, .inr (2, [.int (iI cd), .ref n, .ref r, .ref d, .int (iI cn), .int (iI fc), .ref ya, .ref yb, .ref yc, .ref yo, .long (lI (X 0)), .long (lI (X 1)), .long (lI (X 2)), .long (lI (X 3)), .long (lI (X 4)), .long (lI (X 5)), .long (lI (X 6))])), (r, .inl (cJ, 5, .inr (.inl (aL R)))), (d, .inl (cJ, 5, .inr (.inl (aL (p4 0 0 x2 0)))))]) [0, 1, 2] rfl
          have hD9 := hD.sub (ws' := [(x, .inr (2, [.int (iI cd), .ref n, .ref r, .ref d, .int (iI cn), .int (iI fc), .ref ya, .ref yb, .ref yc, .ref yo, .long (lI (X 0)), .long (lI (X 1)), .long (lI (X 2)), .long (lI (X 3)), .long (lI (X 4)), .long (lI (X 5)), .long (lI (X 6))])), (r, .inl (cJ, 5, .inr (.inl (aL R)))), (d, .inl (cJ, 5, .inr (.inl (aL (p4 0 0 x2 0)))))]) [0, 1, 2] (by decide) rfl
          have hK9 := hK.sub (tys' := [(cJ, .long)]) [0] rfl
          exact W.zret (v := iI 0) hx hb hr (by decide) (fun t ht hW => ⟨⟨iI 0, (p4 0 0 x2 0), rfl, ⟨p4_n5 _ _ _ _, Or.inr ⟨rfl, hno⟩⟩, by rw [ht]; exact hP9, va_K.moved hW.alike hK9, hD9⟩, hS.F ht⟩) hS.2.2 dX2_divides_124
      · refine ix_iconst (n := 0) hx hb dX2_divides_123 ?_
        have hno : ¬ ∃ Q, n5 Q ∧ dvs a b k R Q := by
          rintro ⟨T, hT, hd⟩
          rw [ha0] at hd
          obtain ⟨e4, e3, e2, e1, e0⟩ := lin_eqs (by omega) hR5 hT hd
          have t3 : T 3 = 0 := mul_cn (b := b) (by omega) (by omega)
          rw [t3] at e3
          exact c173 (tdiv_of (hi := b) (q := T 2) (by omega) (by omega)).1
        have hP9 := hP.sub (ws' := [(x, .inr (2, [.int (iI cd), .ref n, .ref r, .ref d, .int (iI cn), .int (iI fc), .ref ya, .ref yb, .ref yc, .ref yo, .long (lI (X 0)), .long (lI (X 1)), .long (lI (X 2)), .long (lI (X 3)), .long (lI (X 4)), .long (lI (X 5)), .long (lI (X 6))])), (r, .inl (cJ, 5, .inr (.inl (aL R)))), (d, .inl (cJ, 5, .inr (.inl (aL (p4 0 0 0 0)))))]) [0, 1, 2] rfl
        have hD9 := hD.sub (ws' := [(x, .inr (2, [.int (iI cd), .ref n, .ref r, .ref d, .int (iI cn), .int (iI fc), .ref ya, .ref yb, .ref yc, .ref yo, .long (lI (X 0)), .long (lI (X 1)), .long (lI (X 2)), .long (lI (X 3)), .long (lI (X 4)), .long (lI (X 5)), .long (lI (X 6))])), (r, .inl (cJ, 5, .inr (.inl (aL R)))), (d, .inl (cJ, 5, .inr (.inl (aL (p4 0 0 0 0)))))]) [0, 1, 2] (by decide) rfl
        have hK9 := hK.sub (tys' := [(cJ, .long)]) [0] rfl
        exact W.zret (v := iI 0) hx hb hr (by decide) (fun t ht hW => ⟨⟨iI 0, (p4 0 0 0 0), rfl, ⟨p4_n5 _ _ _ _, Or.inr ⟨rfl, hno⟩⟩, by rw [ht]; exact hP9, va_K.moved hW.alike hK9, hD9⟩, hS.F ht⟩) hS.2.2 dX2_divides_124
    · rw [hn] at hl
      have b0 : -480 ≤ R 0 ∧ R 0 ≤ 480 := hRb 0
      have b1 : -480 ≤ R 1 ∧ R 1 ≤ 480 := hRb 1
      have b2 : -480 ≤ R 2 ∧ R 2 ≤ 480 := hRb 2
      have b3 : -480 ≤ R 3 ∧ R 3 ≤ 480 := hRb 3
      have b4 : -480 ≤ R 4 ∧ R 4 ≤ 480 := hRb 4
      refine lv_iload hx hb dX2_divides_17 (lv_at hl 0 rfl) ?_
      refine lv_iload hx hb dX2_divides_19 (lv_at hl 1 rfl) ?_
      refine ix_icmp_ge (tgt := 26) hx hb dX2_divides_21 (by decide) (by decide) (by decide) (fun _ => ?_) (fun c189 => absurd c189 (by decide))
      refine ix_iconst (n := 0) hx hb dX2_divides_26 ?_
      refine lv_istore (lv' := [(6, .int (iI 0)), (5, .int (iI 4)), (4, .int (iI 1)), (0, .ref x), (1, .int (iI a)), (2, .int (iI b)), (3, .int (iI k))]) hx hb dX2_divides_27 hl (by decide) rfl (fun ls hl => ?_)
      refine lv_iload hx hb dX2_divides_29 (lv_at hl 0 rfl) ?_
      refine ix_iconst (n := 5) hx hb dX2_divides_31 ?_
      refine ix_icmp_ge (tgt := 49) hx hb dX2_divides_32 (by decide) (by decide) (by decide) (fun c190 => absurd c190 (by decide)) (fun _ => ?_)
      refine lv_aload_n hx hb dX2_divides_35 rfl (lv_at hl 3 rfl) ?_
      refine va_get (D := (dC, dI)) (ci := 2) (v := .ref d) (C := RX2) (T := TX2) (N := 17) hx hb hw inX2 hown hK hP 0 rfl rfl 3 (by decide) (hw _ mA_384) (fun _ h9 => h9) rfl dX2_divides_36 ?_
      refine lv_iload hx hb dX2_divides_39 (lv_at hl 0 rfl) ?_
      refine ix_lconst0 hx hb dX2_divides_41 ?_
      refine ix_last (k := 0) (x := 0) hx hb hK hP hD hS 2 0 rfl rfl (by decide) (by decide) (by decide) dX2_divides_42 (fun H locs hP hD hS => ?_)
      have hP : va_P (dC, dI) vwCl [(x, .inr (2, [.int (iI cd), .ref n, .ref r, .ref d, .int (iI cn), .int (iI fc), .ref ya, .ref yb, .ref yc, .ref yo, .long (lI (X 0)), .long (lI (X 1)), .long (lI (X 2)), .long (lI (X 3)), .long (lI (X 4)), .long (lI (X 5)), .long (lI (X 6))])), (r, .inl (cJ, 5, .inr (.inl (aL R)))), (d, .inl (cJ, 5, .inr (.inl (aL (iu D 0 0)))))] H := hP
      have hD : va_D A [(x, .inr (2, [.int (iI cd), .ref n, .ref r, .ref d, .int (iI cn), .int (iI fc), .ref ya, .ref yb, .ref yc, .ref yo, .long (lI (X 0)), .long (lI (X 1)), .long (lI (X 2)), .long (lI (X 3)), .long (lI (X 4)), .long (lI (X 5)), .long (lI (X 6))])), (r, .inl (cJ, 5, .inr (.inl (aL R)))), (d, .inl (cJ, 5, .inr (.inl (aL (iu D 0 0)))))] := hD
      refine ix_iinc (k := 0) (lv2 := [(6, .int (iI 1)), (5, .int (iI 4)), (4, .int (iI 1)), (0, .ref x), (1, .int (iI a)), (2, .int (iI b)), (3, .int (iI k))]) hx hb dX2_divides_43 hl rfl (by decide) rfl (fun ls hl => ?_)
      refine lv_goto (tgt := 29) hx hb dX2_divides_46 (by decide) ?_
      refine lv_iload hx hb dX2_divides_29 (lv_at hl 0 rfl) ?_
      refine ix_iconst (n := 5) hx hb dX2_divides_31 ?_
      refine ix_icmp_ge (tgt := 49) hx hb dX2_divides_32 (by decide) (by decide) (by decide) (fun c191 => absurd c191 (by decide)) (fun _ => ?_)
      refine lv_aload_n hx hb dX2_divides_35 rfl (lv_at hl 3 rfl) ?_
      refine va_get (D := (dC, dI)) (ci := 2) (v := .ref d) (C := RX2) (T := TX2) (N := 17) hx hb hw inX2 hown hK hP 0 rfl rfl 3 (by decide) (hw _ mA_384) (fun _ h9 => h9) rfl dX2_divides_36 ?_
      refine lv_iload hx hb dX2_divides_39 (lv_at hl 0 rfl) ?_
      refine ix_lconst0 hx hb dX2_divides_41 ?_
      refine ix_last (k := 1) (x := 0) hx hb hK hP hD hS 2 0 rfl rfl (by decide) (by decide) (by decide) dX2_divides_42 (fun H locs hP hD hS => ?_)
      have hP : va_P (dC, dI) vwCl [(x, .inr (2, [.int (iI cd), .ref n, .ref r, .ref d, .int (iI cn), .int (iI fc), .ref ya, .ref yb, .ref yc, .ref yo, .long (lI (X 0)), .long (lI (X 1)), .long (lI (X 2)), .long (lI (X 3)), .long (lI (X 4)), .long (lI (X 5)), .long (lI (X 6))])), (r, .inl (cJ, 5, .inr (.inl (aL R)))), (d, .inl (cJ, 5, .inr (.inl (aL (iu (iu D 0 0) 1 0)))))] H := hP
      have hD : va_D A [(x, .inr (2, [.int (iI cd), .ref n, .ref r, .ref d, .int (iI cn), .int (iI fc), .ref ya, .ref yb, .ref yc, .ref yo, .long (lI (X 0)), .long (lI (X 1)), .long (lI (X 2)), .long (lI (X 3)), .long (lI (X 4)), .long (lI (X 5)), .long (lI (X 6))])), (r, .inl (cJ, 5, .inr (.inl (aL R)))), (d, .inl (cJ, 5, .inr (.inl (aL (iu (iu D 0 0) 1 0)))))] := hD
      refine ix_iinc (k := 0) (lv2 := [(6, .int (iI 2)), (5, .int (iI 4)), (4, .int (iI 1)), (0, .ref x), (1, .int (iI a)), (2, .int (iI b)), (3, .int (iI k))]) hx hb dX2_divides_43 hl rfl (by decide) rfl (fun ls hl => ?_)
      refine lv_goto (tgt := 29) hx hb dX2_divides_46 (by decide) ?_
      refine lv_iload hx hb dX2_divides_29 (lv_at hl 0 rfl) ?_
      refine ix_iconst (n := 5) hx hb dX2_divides_31 ?_
      refine ix_icmp_ge (tgt := 49) hx hb dX2_divides_32 (by decide) (by decide) (by decide) (fun c192 => absurd c192 (by decide)) (fun _ => ?_)
      refine lv_aload_n hx hb dX2_divides_35 rfl (lv_at hl 3 rfl) ?_
      refine va_get (D := (dC, dI)) (ci := 2) (v := .ref d) (C := RX2) (T := TX2) (N := 17) hx hb hw inX2 hown hK hP 0 rfl rfl 3 (by decide) (hw _ mA_384) (fun _ h9 => h9) rfl dX2_divides_36 ?_
      refine lv_iload hx hb dX2_divides_39 (lv_at hl 0 rfl) ?_
      refine ix_lconst0 hx hb dX2_divides_41 ?_
      refine ix_last (k := 2) (x := 0) hx hb hK hP hD hS 2 0 rfl rfl (by decide) (by decide) (by decide) dX2_divides_42 (fun H locs hP hD hS => ?_)
      have hP : va_P (dC, dI) vwCl [(x, .inr (2, [.int (iI cd), .ref n, .ref r, .ref d, .int (iI cn), .int (iI fc), .ref ya, .ref yb, .ref yc, .ref yo, .long (lI (X 0)), .long (lI (X 1)), .long (lI (X 2)), .long (lI (X 3)), .long (lI (X 4)), .long (lI (X 5)), .long (lI (X 6))])), (r, .inl (cJ, 5, .inr (.inl (aL R)))), (d, .inl (cJ, 5, .inr (.inl (aL (iu (iu (iu D 0 0) 1 0) 2 0)))))] H := hP
      have hD : va_D A [(x, .inr (2, [.int (iI cd), .ref n, .ref r, .ref d, .int (iI cn), .int (iI fc), .ref ya, .ref yb, .ref yc, .ref yo, .long (lI (X 0)), .long (lI (X 1)), .long (lI (X 2)), .long (lI (X 3)), .long (lI (X 4)), .long (lI (X 5)), .long (lI (X 6))])), (r, .inl (cJ, 5, .inr (.inl (aL R)))), (d, .inl (cJ, 5, .inr (.inl (aL (iu (iu (iu D 0 0) 1 0) 2 0)))))] := hD
      refine ix_iinc (k := 0) (lv2 := [(6, .int (iI 3)), (5, .int (iI 4)), (4, .int (iI 1)), (0, .ref x), (1, .int (iI a)), (2, .int (iI b)), (3, .int (iI k))]) hx hb dX2_divides_43 hl rfl (by decide) rfl (fun ls hl => ?_)
      refine lv_goto (tgt := 29) hx hb dX2_divides_46 (by decide) ?_
      refine lv_iload hx hb dX2_divides_29 (lv_at hl 0 rfl) ?_
      refine ix_iconst (n := 5) hx hb dX2_divides_31 ?_
      refine ix_icmp_ge (tgt := 49) hx hb dX2_divides_32 (by decide) (by decide) (by decide) (fun c193 => absurd c193 (by decide)) (fun _ => ?_)
      refine lv_aload_n hx hb dX2_divides_35 rfl (lv_at hl 3 rfl) ?_
      refine va_get (D := (dC, dI)) (ci := 2) (v := .ref d) (C := RX2) (T := TX2) (N := 17) hx hb hw inX2 hown hK hP 0 rfl rfl 3 (by decide) (hw _ mA_384) (fun _ h9 => h9) rfl dX2_divides_36 ?_
      refine lv_iload hx hb dX2_divides_39 (lv_at hl 0 rfl) ?_
      refine ix_lconst0 hx hb dX2_divides_41 ?_
      refine ix_last (k := 3) (x := 0) hx hb hK hP hD hS 2 0 rfl rfl (by decide) (by decide) (by decide) dX2_divides_42 (fun H locs hP hD hS => ?_)
      have hP : va_P (dC, dI) vwCl [(x, .inr (2, [.int (iI cd), .ref n, .ref r, .ref d, .int (iI cn), .int (iI fc), .ref ya, .ref yb, .ref yc, .ref yo, .long (lI (X 0)), .long (lI (X 1)), .long (lI (X 2)), .long (lI (X 3)), .long (lI (X 4)), .long (lI (X 5)), .long (lI (X 6))])), (r, .inl (cJ, 5, .inr (.inl (aL R)))), (d, .inl (cJ, 5, .inr (.inl (aL (iu (iu (iu (iu D 0 0) 1 0) 2 0) 3 0)))))] H := hP
      have hD : va_D A [(x, .inr (2, [.int (iI cd), .ref n, .ref r, .ref d, .int (iI cn), .int (iI fc), .ref ya, .ref yb, .ref yc, .ref yo, .long (lI (X 0)), .long (lI (X 1)), .long (lI (X 2)), .long (lI (X 3)), .long (lI (X 4)), .long (lI (X 5)), .long (lI (X 6))])), (r, .inl (cJ, 5, .inr (.inl (aL R)))), (d, .inl (cJ, 5, .inr (.inl (aL (iu (iu (iu (iu D 0 0) 1 0) 2 0) 3 0)))))] := hD
      refine ix_iinc (k := 0) (lv2 := [(6, .int (iI 4)), (5, .int (iI 4)), (4, .int (iI 1)), (0, .ref x), (1, .int (iI a)), (2, .int (iI b)), (3, .int (iI k))]) hx hb dX2_divides_43 hl rfl (by decide) rfl (fun ls hl => ?_)
      refine lv_goto (tgt := 29) hx hb dX2_divides_46 (by decide) ?_
      refine lv_iload hx hb dX2_divides_29 (lv_at hl 0 rfl) ?_
      refine ix_iconst (n := 5) hx hb dX2_divides_31 ?_
      refine ix_icmp_ge (tgt := 49) hx hb dX2_divides_32 (by decide) (by decide) (by decide) (fun c194 => absurd c194 (by decide)) (fun _ => ?_)
      refine lv_aload_n hx hb dX2_divides_35 rfl (lv_at hl 3 rfl) ?_
      refine va_get (D := (dC, dI)) (ci := 2) (v := .ref d) (C := RX2) (T := TX2) (N := 17) hx hb hw inX2 hown hK hP 0 rfl rfl 3 (by decide) (hw _ mA_384) (fun _ h9 => h9) rfl dX2_divides_36 ?_
      refine lv_iload hx hb dX2_divides_39 (lv_at hl 0 rfl) ?_
      refine ix_lconst0 hx hb dX2_divides_41 ?_
      refine ix_last (k := 4) (x := 0) hx hb hK hP hD hS 2 0 rfl rfl (by decide) (by decide) (by decide) dX2_divides_42 (fun H locs hP hD hS => ?_)
      have hP : va_P (dC, dI) vwCl [(x, .inr (2, [.int (iI cd), .ref n, .ref r, .ref d, .int (iI cn), .int (iI fc), .ref ya, .ref yb, .ref yc, .ref yo, .long (lI (X 0)), .long (lI (X 1)), .long (lI (X 2)), .long (lI (X 3)), .long (lI (X 4)), .long (lI (X 5)), .long (lI (X 6))])), (r, .inl (cJ, 5, .inr (.inl (aL R)))), (d, .inl (cJ, 5, .inr (.inl (aL (iu (iu (iu (iu (iu D 0 0) 1 0) 2 0) 3 0) 4 0)))))] H := hP
      have hD : va_D A [(x, .inr (2, [.int (iI cd), .ref n, .ref r, .ref d, .int (iI cn), .int (iI fc), .ref ya, .ref yb, .ref yc, .ref yo, .long (lI (X 0)), .long (lI (X 1)), .long (lI (X 2)), .long (lI (X 3)), .long (lI (X 4)), .long (lI (X 5)), .long (lI (X 6))])), (r, .inl (cJ, 5, .inr (.inl (aL R)))), (d, .inl (cJ, 5, .inr (.inl (aL (iu (iu (iu (iu (iu D 0 0) 1 0) 2 0) 3 0) 4 0)))))] := hD
      refine ix_iinc (k := 0) (lv2 := [(6, .int (iI 5)), (5, .int (iI 4)), (4, .int (iI 1)), (0, .ref x), (1, .int (iI a)), (2, .int (iI b)), (3, .int (iI k))]) hx hb dX2_divides_43 hl rfl (by decide) rfl (fun ls hl => ?_)
      refine lv_goto (tgt := 29) hx hb dX2_divides_46 (by decide) ?_
      refine lv_iload hx hb dX2_divides_29 (lv_at hl 0 rfl) ?_
      refine ix_iconst (n := 5) hx hb dX2_divides_31 ?_
      refine ix_icmp_ge (tgt := 49) hx hb dX2_divides_32 (by decide) (by decide) (by decide) (fun _ => ?_) (fun c195 => absurd c195 (by decide))
      rw [p4_z hD5] at hP hD
      refine lv_iload hx hb dX2_divides_49 (lv_at hl 1 rfl) ?_
      refine lv_istore (lv' := [(6, .int (iI 4)), (5, .int (iI 4)), (4, .int (iI 1)), (0, .ref x), (1, .int (iI a)), (2, .int (iI b)), (3, .int (iI k))]) hx hb dX2_divides_51 hl (by decide) rfl (fun ls hl => ?_)
      refine lv_iload hx hb dX2_divides_53 (lv_at hl 0 rfl) ?_
      refine ix_if_lt (tgt := 266) hx hb dX2_divides_55 (by decide) (by decide) (fun c196 => absurd c196 (by decide)) (fun _ => ?_)
      refine lv_aload_n hx hb dX2_divides_58 rfl (lv_at hl 3 rfl) ?_
      refine va_get (D := (dC, dI)) (ci := 2) (v := .ref r) (C := RX2) (T := TX2) (N := 17) hx hb hw inX2 hown hK hP 0 rfl rfl 2 (by decide) (hw _ mA_383) (fun _ h9 => h9) rfl dX2_divides_59 ?_
      refine lv_iload hx hb dX2_divides_62 (lv_at hl 0 rfl) ?_
      refine ix_lald (k := 4) hx hb hK hP 1 0 rfl rfl (by decide) (by decide) (by decide) dX2_divides_64 ?_
      refine lv_lstore (lv' := [(7, .long (lI (R 4))), (6, .int (iI 4)), (5, .int (iI 4)), (4, .int (iI 1)), (0, .ref x), (1, .int (iI a)), (2, .int (iI b)), (3, .int (iI k))]) hx hb dX2_divides_65 hl (by decide) rfl (fun ls hl => ?_)
      refine lv_iload hx hb dX2_divides_67 (lv_at hl 3 rfl) ?_
      refine ix_iconst (n := 1) hx hb dX2_divides_69 ?_
      refine ix_icmp_ne (tgt := 142) hx hb dX2_divides_70 (by decide) (by decide) (by decide) (fun c197 => absurd c197 (by decide)) (fun _ => ?_)
      refine lv_iload hx hb dX2_divides_73 (lv_at hl 1 rfl) ?_
      refine lv_iload hx hb dX2_divides_75 (lv_at hl 2 rfl) ?_
      refine ix_icmp_ge (tgt := 95) hx hb dX2_divides_77 (by decide) (by decide) (by decide) (fun _ => ?_) (fun c198 => absurd c198 (by decide))
      refine lv_iload hx hb dX2_divides_95 (lv_at hl 1 rfl) ?_
      refine ix_if_ne (tgt := 113) hx hb dX2_divides_97 (by decide) (by decide) (fun _ => ?_) (fun c199 => absurd c199 (by decide))
      refine lv_lload hx hb dX2_divides_113 (lv_at hl 0 rfl) ?_
      refine lv_iload_n hx hb dX2_divides_115 rfl (lv_at hl 6 rfl) ?_
      refine ix_i2l hx hb dX2_divides_116 (by omega) ?_
      refine ix_lrem hx hb dX2_divides_117 (by omega) (by omega) (by omega) ?_
      refine ix_lconst0 hx hb dX2_divides_118 ?_
      refine ix_lc_eq (tgt := 125) hx hb dX2_divides_119 dX2_divides_120 (by decide) (by have := tmod_in (x := (R 4)) (y := b) (A := 100000000000000) (by omega); omega) (by decide) (fun c200 => ?_) (fun c200 => ?_)
      · refine lv_aload_n hx hb dX2_divides_125 rfl (lv_at hl 4 rfl) ?_
        refine va_get (D := (dC, dI)) (ci := 2) (v := .ref d) (C := RX2) (T := TX2) (N := 17) hx hb hw inX2 hown hK hP 0 rfl rfl 3 (by decide) (hw _ mA_384) (fun _ h9 => h9) rfl dX2_divides_126 ?_
        refine lv_iload hx hb dX2_divides_129 (lv_at hl 1 rfl) ?_
        refine ix_iconst (n := 1) hx hb dX2_divides_131 ?_
        refine ix_isub hx hb dX2_divides_132 ?_
        refine ix_z (y := 3) rfl ?_
        refine lv_lload hx hb dX2_divides_133 (lv_at hl 0 rfl) ?_
        refine lv_iload_n hx hb dX2_divides_135 rfl (lv_at hl 6 rfl) ?_
        refine ix_i2l hx hb dX2_divides_136 (by omega) ?_
        refine ix_ldiv hx hb dX2_divides_137 (by omega) (by omega) (by omega) (by omega) ?_
        have f3 : b * Int.tdiv (R 4) b = R 4 := tdiv_mul (by omega)
        have bx3 := tdiv_in (x := R 4) (y := b) (A := 480) (by omega)
        generalize Int.tdiv (R 4) b = x3 at f3 bx3 ⊢
        refine ix_last (k := 3) (x := x3) hx hb hK hP hD hS 2 0 rfl rfl (by decide) (by decide) (by decide) dX2_divides_138 (fun H locs hP hD hS => ?_)
        have hP : va_P (dC, dI) vwCl [(x, .inr (2, [.int (iI cd), .ref n, .ref r, .ref d, .int (iI cn), .int (iI fc), .ref ya, .ref yb, .ref yc, .ref yo, .long (lI (X 0)), .long (lI (X 1)), .long (lI (X 2)), .long (lI (X 3)), .long (lI (X 4)), .long (lI (X 5)), .long (lI (X 6))])), (r, .inl (cJ, 5, .inr (.inl (aL R)))), (d, .inl (cJ, 5, .inr (.inl (aL (iu (p4 0 0 0 0) 3 x3)))))] H := hP
        have hD : va_D A [(x, .inr (2, [.int (iI cd), .ref n, .ref r, .ref d, .int (iI cn), .int (iI fc), .ref ya, .ref yb, .ref yc, .ref yo, .long (lI (X 0)), .long (lI (X 1)), .long (lI (X 2)), .long (lI (X 3)), .long (lI (X 4)), .long (lI (X 5)), .long (lI (X 6))])), (r, .inl (cJ, 5, .inr (.inl (aL R)))), (d, .inl (cJ, 5, .inr (.inl (aL (iu (p4 0 0 0 0) 3 x3)))))] := hD
        rw [p4_3] at hP hD
        refine lv_goto (tgt := 260) hx hb dX2_divides_139 (by decide) ?_
        refine ix_iinc (k := 1) (lv2 := [(6, .int (iI 3)), (7, .long (lI (R 4))), (5, .int (iI 4)), (4, .int (iI 1)), (0, .ref x), (1, .int (iI a)), (2, .int (iI b)), (3, .int (iI k))]) hx hb dX2_divides_260 hl rfl (by decide) rfl (fun ls hl => ?_)
        refine lv_goto (tgt := 53) hx hb dX2_divides_263 (by decide) ?_
        refine lv_iload hx hb dX2_divides_53 (lv_at hl 0 rfl) ?_
        refine ix_if_lt (tgt := 266) hx hb dX2_divides_55 (by decide) (by decide) (fun c201 => absurd c201 (by decide)) (fun _ => ?_)
        refine lv_aload_n hx hb dX2_divides_58 rfl (lv_at hl 4 rfl) ?_
        refine va_get (D := (dC, dI)) (ci := 2) (v := .ref r) (C := RX2) (T := TX2) (N := 17) hx hb hw inX2 hown hK hP 0 rfl rfl 2 (by decide) (hw _ mA_383) (fun _ h9 => h9) rfl dX2_divides_59 ?_
        refine lv_iload hx hb dX2_divides_62 (lv_at hl 0 rfl) ?_
        refine ix_lald (k := 3) hx hb hK hP 1 0 rfl rfl (by decide) (by decide) (by decide) dX2_divides_64 ?_
        refine lv_lstore (lv' := [(7, .long (lI (R 3))), (6, .int (iI 3)), (5, .int (iI 4)), (4, .int (iI 1)), (0, .ref x), (1, .int (iI a)), (2, .int (iI b)), (3, .int (iI k))]) hx hb dX2_divides_65 hl (by decide) rfl (fun ls hl => ?_)
        refine lv_iload hx hb dX2_divides_67 (lv_at hl 3 rfl) ?_
        refine ix_iconst (n := 1) hx hb dX2_divides_69 ?_
        refine ix_icmp_ne (tgt := 142) hx hb dX2_divides_70 (by decide) (by decide) (by decide) (fun c202 => absurd c202 (by decide)) (fun _ => ?_)
        refine lv_iload hx hb dX2_divides_73 (lv_at hl 1 rfl) ?_
        refine lv_iload hx hb dX2_divides_75 (lv_at hl 2 rfl) ?_
        refine ix_icmp_ge (tgt := 95) hx hb dX2_divides_77 (by decide) (by decide) (by decide) (fun c203 => absurd c203 (by decide)) (fun _ => ?_)
        refine lv_lload hx hb dX2_divides_80 (lv_at hl 0 rfl) ?_
        refine lv_iload_n hx hb dX2_divides_82 rfl (lv_at hl 7 rfl) ?_
        refine ix_i2l hx hb dX2_divides_83 (by omega) ?_
        refine lv_aload_n hx hb dX2_divides_84 rfl (lv_at hl 4 rfl) ?_
        refine va_get (D := (dC, dI)) (ci := 2) (v := .ref d) (C := RX2) (T := TX2) (N := 17) hx hb hw inX2 hown hK hP 0 rfl rfl 3 (by decide) (hw _ mA_384) (fun _ h9 => h9) rfl dX2_divides_85 ?_
        refine lv_iload hx hb dX2_divides_88 (lv_at hl 1 rfl) ?_
        refine ix_lald (k := 3) hx hb hK hP 2 0 rfl rfl (by decide) (by decide) (by decide) dX2_divides_90 ?_
        refine ix_zl (y := x3) rfl ?_
        refine ix_lmul hx hb dX2_divides_91 ?_
        have mkx3 := mul_in (x := k) (y := x3) (A := 240) (B := 480) hk9 bx3 (by decide) (by decide)
        refine ix_lsub hx hb dX2_divides_92 ?_
        refine lv_lstore (lv' := [(7, .long (lI ((R 3) - (k * x3)))), (6, .int (iI 3)), (5, .int (iI 4)), (4, .int (iI 1)), (0, .ref x), (1, .int (iI a)), (2, .int (iI b)), (3, .int (iI k))]) hx hb dX2_divides_93 hl (by decide) rfl (fun ls hl => ?_)
        refine lv_iload hx hb dX2_divides_95 (lv_at hl 1 rfl) ?_
        refine ix_if_ne (tgt := 113) hx hb dX2_divides_97 (by decide) (by decide) (fun _ => ?_) (fun c204 => absurd c204 (by decide))
        refine lv_lload hx hb dX2_divides_113 (lv_at hl 0 rfl) ?_
        refine lv_iload_n hx hb dX2_divides_115 rfl (lv_at hl 6 rfl) ?_
        refine ix_i2l hx hb dX2_divides_116 (by omega) ?_
        refine ix_lrem hx hb dX2_divides_117 (by omega) (by omega) (by omega) ?_
        refine ix_lconst0 hx hb dX2_divides_118 ?_
        refine ix_lc_eq (tgt := 125) hx hb dX2_divides_119 dX2_divides_120 (by decide) (by have := tmod_in (x := ((R 3) - (k * x3))) (y := b) (A := 100000000000000) (by omega); omega) (by decide) (fun c205 => ?_) (fun c205 => ?_)
        · refine lv_aload_n hx hb dX2_divides_125 rfl (lv_at hl 4 rfl) ?_
          refine va_get (D := (dC, dI)) (ci := 2) (v := .ref d) (C := RX2) (T := TX2) (N := 17) hx hb hw inX2 hown hK hP 0 rfl rfl 3 (by decide) (hw _ mA_384) (fun _ h9 => h9) rfl dX2_divides_126 ?_
          refine lv_iload hx hb dX2_divides_129 (lv_at hl 1 rfl) ?_
          refine ix_iconst (n := 1) hx hb dX2_divides_131 ?_
          refine ix_isub hx hb dX2_divides_132 ?_
          refine ix_z (y := 2) rfl ?_
          refine lv_lload hx hb dX2_divides_133 (lv_at hl 0 rfl) ?_
          refine lv_iload_n hx hb dX2_divides_135 rfl (lv_at hl 6 rfl) ?_
          refine ix_i2l hx hb dX2_divides_136 (by omega) ?_
          refine ix_ldiv hx hb dX2_divides_137 (by omega) (by omega) (by omega) (by omega) ?_
          have f2 : b * Int.tdiv ((R 3) - (k * x3)) b = (R 3) - (k * x3) := tdiv_mul (by omega)
          have bx2 := tdiv_in (x := (R 3) - (k * x3)) (y := b) (A := 115680) (by omega)
          generalize Int.tdiv ((R 3) - (k * x3)) b = x2 at f2 bx2 ⊢
          refine ix_last (k := 2) (x := x2) hx hb hK hP hD hS 2 0 rfl rfl (by decide) (by decide) (by decide) dX2_divides_138 (fun H locs hP hD hS => ?_)
          have hP : va_P (dC, dI) vwCl [(x, .inr (2, [.int (iI cd), .ref n, .ref r, .ref d, .int (iI cn), .int (iI fc), .ref ya, .ref yb, .ref yc, .ref yo, .long (lI (X 0)), .long (lI (X 1)), .long (lI (X 2)), .long (lI (X 3)), .long (lI (X 4)), .long (lI (X 5)), .long (lI (X 6))])), (r, .inl (cJ, 5, .inr (.inl (aL R)))), (d, .inl (cJ, 5, .inr (.inl (aL (iu (p4 0 0 0 x3) 2 x2)))))] H := hP
          have hD : va_D A [(x, .inr (2, [.int (iI cd), .ref n, .ref r, .ref d, .int (iI cn), .int (iI fc), .ref ya, .ref yb, .ref yc, .ref yo, .long (lI (X 0)), .long (lI (X 1)), .long (lI (X 2)), .long (lI (X 3)), .long (lI (X 4)), .long (lI (X 5)), .long (lI (X 6))])), (r, .inl (cJ, 5, .inr (.inl (aL R)))), (d, .inl (cJ, 5, .inr (.inl (aL (iu (p4 0 0 0 x3) 2 x2)))))] := hD
          rw [p4_2] at hP hD
          refine lv_goto (tgt := 260) hx hb dX2_divides_139 (by decide) ?_
          refine ix_iinc (k := 1) (lv2 := [(6, .int (iI 2)), (7, .long (lI ((R 3) - (k * x3)))), (5, .int (iI 4)), (4, .int (iI 1)), (0, .ref x), (1, .int (iI a)), (2, .int (iI b)), (3, .int (iI k))]) hx hb dX2_divides_260 hl rfl (by decide) rfl (fun ls hl => ?_)
          refine lv_goto (tgt := 53) hx hb dX2_divides_263 (by decide) ?_
          refine lv_iload hx hb dX2_divides_53 (lv_at hl 0 rfl) ?_
          refine ix_if_lt (tgt := 266) hx hb dX2_divides_55 (by decide) (by decide) (fun c206 => absurd c206 (by decide)) (fun _ => ?_)
          refine lv_aload_n hx hb dX2_divides_58 rfl (lv_at hl 4 rfl) ?_
          refine va_get (D := (dC, dI)) (ci := 2) (v := .ref r) (C := RX2) (T := TX2) (N := 17) hx hb hw inX2 hown hK hP 0 rfl rfl 2 (by decide) (hw _ mA_383) (fun _ h9 => h9) rfl dX2_divides_59 ?_
          refine lv_iload hx hb dX2_divides_62 (lv_at hl 0 rfl) ?_
          refine ix_lald (k := 2) hx hb hK hP 1 0 rfl rfl (by decide) (by decide) (by decide) dX2_divides_64 ?_
          refine lv_lstore (lv' := [(7, .long (lI (R 2))), (6, .int (iI 2)), (5, .int (iI 4)), (4, .int (iI 1)), (0, .ref x), (1, .int (iI a)), (2, .int (iI b)), (3, .int (iI k))]) hx hb dX2_divides_65 hl (by decide) rfl (fun ls hl => ?_)
          refine lv_iload hx hb dX2_divides_67 (lv_at hl 3 rfl) ?_
          refine ix_iconst (n := 1) hx hb dX2_divides_69 ?_
          refine ix_icmp_ne (tgt := 142) hx hb dX2_divides_70 (by decide) (by decide) (by decide) (fun c207 => absurd c207 (by decide)) (fun _ => ?_)
          refine lv_iload hx hb dX2_divides_73 (lv_at hl 1 rfl) ?_
          refine lv_iload hx hb dX2_divides_75 (lv_at hl 2 rfl) ?_
          refine ix_icmp_ge (tgt := 95) hx hb dX2_divides_77 (by decide) (by decide) (by decide) (fun c208 => absurd c208 (by decide)) (fun _ => ?_)
          refine lv_lload hx hb dX2_divides_80 (lv_at hl 0 rfl) ?_
          refine lv_iload_n hx hb dX2_divides_82 rfl (lv_at hl 7 rfl) ?_
          refine ix_i2l hx hb dX2_divides_83 (by omega) ?_
          refine lv_aload_n hx hb dX2_divides_84 rfl (lv_at hl 4 rfl) ?_
          refine va_get (D := (dC, dI)) (ci := 2) (v := .ref d) (C := RX2) (T := TX2) (N := 17) hx hb hw inX2 hown hK hP 0 rfl rfl 3 (by decide) (hw _ mA_384) (fun _ h9 => h9) rfl dX2_divides_85 ?_
          refine lv_iload hx hb dX2_divides_88 (lv_at hl 1 rfl) ?_
          refine ix_lald (k := 2) hx hb hK hP 2 0 rfl rfl (by decide) (by decide) (by decide) dX2_divides_90 ?_
          refine ix_zl (y := x2) rfl ?_
          refine ix_lmul hx hb dX2_divides_91 ?_
          have mkx2 := mul_in (x := k) (y := x2) (A := 240) (B := 115680) hk9 bx2 (by decide) (by decide)
          refine ix_lsub hx hb dX2_divides_92 ?_
          refine lv_lstore (lv' := [(7, .long (lI ((R 2) - (k * x2)))), (6, .int (iI 2)), (5, .int (iI 4)), (4, .int (iI 1)), (0, .ref x), (1, .int (iI a)), (2, .int (iI b)), (3, .int (iI k))]) hx hb dX2_divides_93 hl (by decide) rfl (fun ls hl => ?_)
          refine lv_iload hx hb dX2_divides_95 (lv_at hl 1 rfl) ?_
          refine ix_if_ne (tgt := 113) hx hb dX2_divides_97 (by decide) (by decide) (fun _ => ?_) (fun c209 => absurd c209 (by decide))
          refine lv_lload hx hb dX2_divides_113 (lv_at hl 0 rfl) ?_
          refine lv_iload_n hx hb dX2_divides_115 rfl (lv_at hl 6 rfl) ?_
          refine ix_i2l hx hb dX2_divides_116 (by omega) ?_
          refine ix_lrem hx hb dX2_divides_117 (by omega) (by omega) (by omega) ?_
          refine ix_lconst0 hx hb dX2_divides_118 ?_
          refine ix_lc_eq (tgt := 125) hx hb dX2_divides_119 dX2_divides_120 (by decide) (by have := tmod_in (x := ((R 2) - (k * x2))) (y := b) (A := 100000000000000) (by omega); omega) (by decide) (fun c210 => ?_) (fun c210 => ?_)
          · refine lv_aload_n hx hb dX2_divides_125 rfl (lv_at hl 4 rfl) ?_
            refine va_get (D := (dC, dI)) (ci := 2) (v := .ref d) (C := RX2) (T := TX2) (N := 17) hx hb hw inX2 hown hK hP 0 rfl rfl 3 (by decide) (hw _ mA_384) (fun _ h9 => h9) rfl dX2_divides_126 ?_
            refine lv_iload hx hb dX2_divides_129 (lv_at hl 1 rfl) ?_
            refine ix_iconst (n := 1) hx hb dX2_divides_131 ?_
            refine ix_isub hx hb dX2_divides_132 ?_
            refine ix_z (y := 1) rfl ?_
            refine lv_lload hx hb dX2_divides_133 (lv_at hl 0 rfl) ?_
            refine lv_iload_n hx hb dX2_divides_135 rfl (lv_at hl 6 rfl) ?_
            refine ix_i2l hx hb dX2_divides_136 (by omega) ?_
            refine ix_ldiv hx hb dX2_divides_137 (by omega) (by omega) (by omega) (by omega) ?_
            have f1 : b * Int.tdiv ((R 2) - (k * x2)) b = (R 2) - (k * x2) := tdiv_mul (by omega)
            have bx1 := tdiv_in (x := (R 2) - (k * x2)) (y := b) (A := 27763680) (by omega)
            generalize Int.tdiv ((R 2) - (k * x2)) b = x1 at f1 bx1 ⊢
            refine ix_last (k := 1) (x := x1) hx hb hK hP hD hS 2 0 rfl rfl (by decide) (by decide) (by decide) dX2_divides_138 (fun H locs hP hD hS => ?_)
            have hP : va_P (dC, dI) vwCl [(x, .inr (2, [.int (iI cd), .ref n, .ref r, .ref d, .int (iI cn), .int (iI fc), .ref ya, .ref yb, .ref yc, .ref yo, .long (lI (X 0)), .long (lI (X 1)), .long (lI (X 2)), .long (lI (X 3)), .long (lI (X 4)), .long (lI (X 5)), .long (lI (X 6))])), (r, .inl (cJ, 5, .inr (.inl (aL R)))), (d, .inl (cJ, 5, .inr (.inl (aL (iu (p4 0 0 x2 x3) 1 x1)))))] H := hP
            have hD : va_D A [(x, .inr (2, [.int (iI cd), .ref n, .ref r, .ref d, .int (iI cn), .int (iI fc), .ref ya, .ref yb, .ref yc, .ref yo, .long (lI (X 0)), .long (lI (X 1)), .long (lI (X 2)), .long (lI (X 3)), .long (lI (X 4)), .long (lI (X 5)), .long (lI (X 6))])), (r, .inl (cJ, 5, .inr (.inl (aL R)))), (d, .inl (cJ, 5, .inr (.inl (aL (iu (p4 0 0 x2 x3) 1 x1)))))] := hD
            rw [p4_1] at hP hD
            refine lv_goto (tgt := 260) hx hb dX2_divides_139 (by decide) ?_
            refine ix_iinc (k := 1) (lv2 := [(6, .int (iI 1)), (7, .long (lI ((R 2) - (k * x2)))), (5, .int (iI 4)), (4, .int (iI 1)), (0, .ref x), (1, .int (iI a)), (2, .int (iI b)), (3, .int (iI k))]) hx hb dX2_divides_260 hl rfl (by decide) rfl (fun ls hl => ?_)
            refine lv_goto (tgt := 53) hx hb dX2_divides_263 (by decide) ?_
            refine lv_iload hx hb dX2_divides_53 (lv_at hl 0 rfl) ?_
            refine ix_if_lt (tgt := 266) hx hb dX2_divides_55 (by decide) (by decide) (fun c211 => absurd c211 (by decide)) (fun _ => ?_)
            refine lv_aload_n hx hb dX2_divides_58 rfl (lv_at hl 4 rfl) ?_
            refine va_get (D := (dC, dI)) (ci := 2) (v := .ref r) (C := RX2) (T := TX2) (N := 17) hx hb hw inX2 hown hK hP 0 rfl rfl 2 (by decide) (hw _ mA_383) (fun _ h9 => h9) rfl dX2_divides_59 ?_
            refine lv_iload hx hb dX2_divides_62 (lv_at hl 0 rfl) ?_
            refine ix_lald (k := 1) hx hb hK hP 1 0 rfl rfl (by decide) (by decide) (by decide) dX2_divides_64 ?_
            refine lv_lstore (lv' := [(7, .long (lI (R 1))), (6, .int (iI 1)), (5, .int (iI 4)), (4, .int (iI 1)), (0, .ref x), (1, .int (iI a)), (2, .int (iI b)), (3, .int (iI k))]) hx hb dX2_divides_65 hl (by decide) rfl (fun ls hl => ?_)
            refine lv_iload hx hb dX2_divides_67 (lv_at hl 3 rfl) ?_
            refine ix_iconst (n := 1) hx hb dX2_divides_69 ?_
            refine ix_icmp_ne (tgt := 142) hx hb dX2_divides_70 (by decide) (by decide) (by decide) (fun c212 => absurd c212 (by decide)) (fun _ => ?_)
            refine lv_iload hx hb dX2_divides_73 (lv_at hl 1 rfl) ?_
            refine lv_iload hx hb dX2_divides_75 (lv_at hl 2 rfl) ?_
            refine ix_icmp_ge (tgt := 95) hx hb dX2_divides_77 (by decide) (by decide) (by decide) (fun c213 => absurd c213 (by decide)) (fun _ => ?_)
            refine lv_lload hx hb dX2_divides_80 (lv_at hl 0 rfl) ?_
            refine lv_iload_n hx hb dX2_divides_82 rfl (lv_at hl 7 rfl) ?_
            refine ix_i2l hx hb dX2_divides_83 (by omega) ?_
            refine lv_aload_n hx hb dX2_divides_84 rfl (lv_at hl 4 rfl) ?_
            refine va_get (D := (dC, dI)) (ci := 2) (v := .ref d) (C := RX2) (T := TX2) (N := 17) hx hb hw inX2 hown hK hP 0 rfl rfl 3 (by decide) (hw _ mA_384) (fun _ h9 => h9) rfl dX2_divides_85 ?_
            refine lv_iload hx hb dX2_divides_88 (lv_at hl 1 rfl) ?_
            refine ix_lald (k := 1) hx hb hK hP 2 0 rfl rfl (by decide) (by decide) (by decide) dX2_divides_90 ?_
            refine ix_zl (y := x1) rfl ?_
            refine ix_lmul hx hb dX2_divides_91 ?_
            have mkx1 := mul_in (x := k) (y := x1) (A := 240) (B := 27763680) hk9 bx1 (by decide) (by decide)
            refine ix_lsub hx hb dX2_divides_92 ?_
            refine lv_lstore (lv' := [(7, .long (lI ((R 1) - (k * x1)))), (6, .int (iI 1)), (5, .int (iI 4)), (4, .int (iI 1)), (0, .ref x), (1, .int (iI a)), (2, .int (iI b)), (3, .int (iI k))]) hx hb dX2_divides_93 hl (by decide) rfl (fun ls hl => ?_)
            refine lv_iload hx hb dX2_divides_95 (lv_at hl 1 rfl) ?_
            refine ix_if_ne (tgt := 113) hx hb dX2_divides_97 (by decide) (by decide) (fun _ => ?_) (fun c214 => absurd c214 (by decide))
            refine lv_lload hx hb dX2_divides_113 (lv_at hl 0 rfl) ?_
            refine lv_iload_n hx hb dX2_divides_115 rfl (lv_at hl 6 rfl) ?_
            refine ix_i2l hx hb dX2_divides_116 (by omega) ?_
            refine ix_lrem hx hb dX2_divides_117 (by omega) (by omega) (by omega) ?_
            refine ix_lconst0 hx hb dX2_divides_118 ?_
            refine ix_lc_eq (tgt := 125) hx hb dX2_divides_119 dX2_divides_120 (by decide) (by have := tmod_in (x := ((R 1) - (k * x1))) (y := b) (A := 100000000000000) (by omega); omega) (by decide) (fun c215 => ?_) (fun c215 => ?_)
            · refine lv_aload_n hx hb dX2_divides_125 rfl (lv_at hl 4 rfl) ?_
              refine va_get (D := (dC, dI)) (ci := 2) (v := .ref d) (C := RX2) (T := TX2) (N := 17) hx hb hw inX2 hown hK hP 0 rfl rfl 3 (by decide) (hw _ mA_384) (fun _ h9 => h9) rfl dX2_divides_126 ?_
              refine lv_iload hx hb dX2_divides_129 (lv_at hl 1 rfl) ?_
              refine ix_iconst (n := 1) hx hb dX2_divides_131 ?_
              refine ix_isub hx hb dX2_divides_132 ?_
              refine ix_z (y := 0) rfl ?_
              refine lv_lload hx hb dX2_divides_133 (lv_at hl 0 rfl) ?_
              refine lv_iload_n hx hb dX2_divides_135 rfl (lv_at hl 6 rfl) ?_
              refine ix_i2l hx hb dX2_divides_136 (by omega) ?_
              refine ix_ldiv hx hb dX2_divides_137 (by omega) (by omega) (by omega) (by omega) ?_
              have f0 : b * Int.tdiv ((R 1) - (k * x1)) b = (R 1) - (k * x1) := tdiv_mul (by omega)
              have bx0 := tdiv_in (x := (R 1) - (k * x1)) (y := b) (A := 6663283680) (by omega)
              generalize Int.tdiv ((R 1) - (k * x1)) b = x0 at f0 bx0 ⊢
              refine ix_last (k := 0) (x := x0) hx hb hK hP hD hS 2 0 rfl rfl (by decide) (by decide) (by decide) dX2_divides_138 (fun H locs hP hD hS => ?_)
              have hP : va_P (dC, dI) vwCl [(x, .inr (2, [.int (iI cd), .ref n, .ref r, .ref d, .int (iI cn), .int (iI fc), .ref ya, .ref yb, .ref yc, .ref yo, .long (lI (X 0)), .long (lI (X 1)), .long (lI (X 2)), .long (lI (X 3)), .long (lI (X 4)), .long (lI (X 5)), .long (lI (X 6))])), (r, .inl (cJ, 5, .inr (.inl (aL R)))), (d, .inl (cJ, 5, .inr (.inl (aL (iu (p4 0 x1 x2 x3) 0 x0)))))] H := hP
              have hD : va_D A [(x, .inr (2, [.int (iI cd), .ref n, .ref r, .ref d, .int (iI cn), .int (iI fc), .ref ya, .ref yb, .ref yc, .ref yo, .long (lI (X 0)), .long (lI (X 1)), .long (lI (X 2)), .long (lI (X 3)), .long (lI (X 4)), .long (lI (X 5)), .long (lI (X 6))])), (r, .inl (cJ, 5, .inr (.inl (aL R)))), (d, .inl (cJ, 5, .inr (.inl (aL (iu (p4 0 x1 x2 x3) 0 x0)))))] := hD
              rw [p4_0] at hP hD
              refine lv_goto (tgt := 260) hx hb dX2_divides_139 (by decide) ?_
              refine ix_iinc (k := 1) (lv2 := [(6, .int (iI 0)), (7, .long (lI ((R 1) - (k * x1)))), (5, .int (iI 4)), (4, .int (iI 1)), (0, .ref x), (1, .int (iI a)), (2, .int (iI b)), (3, .int (iI k))]) hx hb dX2_divides_260 hl rfl (by decide) rfl (fun ls hl => ?_)
              refine lv_goto (tgt := 53) hx hb dX2_divides_263 (by decide) ?_
              refine lv_iload hx hb dX2_divides_53 (lv_at hl 0 rfl) ?_
              refine ix_if_lt (tgt := 266) hx hb dX2_divides_55 (by decide) (by decide) (fun c216 => absurd c216 (by decide)) (fun _ => ?_)
              refine lv_aload_n hx hb dX2_divides_58 rfl (lv_at hl 4 rfl) ?_
              refine va_get (D := (dC, dI)) (ci := 2) (v := .ref r) (C := RX2) (T := TX2) (N := 17) hx hb hw inX2 hown hK hP 0 rfl rfl 2 (by decide) (hw _ mA_383) (fun _ h9 => h9) rfl dX2_divides_59 ?_
              refine lv_iload hx hb dX2_divides_62 (lv_at hl 0 rfl) ?_
              refine ix_lald (k := 0) hx hb hK hP 1 0 rfl rfl (by decide) (by decide) (by decide) dX2_divides_64 ?_
              refine lv_lstore (lv' := [(7, .long (lI (R 0))), (6, .int (iI 0)), (5, .int (iI 4)), (4, .int (iI 1)), (0, .ref x), (1, .int (iI a)), (2, .int (iI b)), (3, .int (iI k))]) hx hb dX2_divides_65 hl (by decide) rfl (fun ls hl => ?_)
              refine lv_iload hx hb dX2_divides_67 (lv_at hl 3 rfl) ?_
              refine ix_iconst (n := 1) hx hb dX2_divides_69 ?_
              refine ix_icmp_ne (tgt := 142) hx hb dX2_divides_70 (by decide) (by decide) (by decide) (fun c217 => absurd c217 (by decide)) (fun _ => ?_)
              refine lv_iload hx hb dX2_divides_73 (lv_at hl 1 rfl) ?_
              refine lv_iload hx hb dX2_divides_75 (lv_at hl 2 rfl) ?_
              refine ix_icmp_ge (tgt := 95) hx hb dX2_divides_77 (by decide) (by decide) (by decide) (fun c218 => absurd c218 (by decide)) (fun _ => ?_)
              refine lv_lload hx hb dX2_divides_80 (lv_at hl 0 rfl) ?_
              refine lv_iload_n hx hb dX2_divides_82 rfl (lv_at hl 7 rfl) ?_
              refine ix_i2l hx hb dX2_divides_83 (by omega) ?_
              refine lv_aload_n hx hb dX2_divides_84 rfl (lv_at hl 4 rfl) ?_
              refine va_get (D := (dC, dI)) (ci := 2) (v := .ref d) (C := RX2) (T := TX2) (N := 17) hx hb hw inX2 hown hK hP 0 rfl rfl 3 (by decide) (hw _ mA_384) (fun _ h9 => h9) rfl dX2_divides_85 ?_
              refine lv_iload hx hb dX2_divides_88 (lv_at hl 1 rfl) ?_
              refine ix_lald (k := 0) hx hb hK hP 2 0 rfl rfl (by decide) (by decide) (by decide) dX2_divides_90 ?_
              refine ix_zl (y := x0) rfl ?_
              refine ix_lmul hx hb dX2_divides_91 ?_
              have mkx0 := mul_in (x := k) (y := x0) (A := 240) (B := 6663283680) hk9 bx0 (by decide) (by decide)
              refine ix_lsub hx hb dX2_divides_92 ?_
              refine lv_lstore (lv' := [(7, .long (lI ((R 0) - (k * x0)))), (6, .int (iI 0)), (5, .int (iI 4)), (4, .int (iI 1)), (0, .ref x), (1, .int (iI a)), (2, .int (iI b)), (3, .int (iI k))]) hx hb dX2_divides_93 hl (by decide) rfl (fun ls hl => ?_)
              refine lv_iload hx hb dX2_divides_95 (lv_at hl 1 rfl) ?_
              refine ix_if_ne (tgt := 113) hx hb dX2_divides_97 (by decide) (by decide) (fun c219 => absurd c219 (by decide)) (fun _ => ?_)
              refine lv_lload hx hb dX2_divides_100 (lv_at hl 0 rfl) ?_
              refine ix_lconst0 hx hb dX2_divides_102 ?_
              refine ix_lc_ne (tgt := 111) hx hb dX2_divides_103 dX2_divides_104 (by decide) (by omega) (by decide) (fun c220 => ?_) (fun c220 => ?_)
              · refine ix_iconst (n := 0) hx hb dX2_divides_111 ?_
                have hno : ¬ ∃ Q, n5 Q ∧ dvs a b k R Q := by
                  rintro ⟨T, hT, hd⟩
                  rw [ha0] at hd
                  obtain ⟨e4, e3, e2, e1, e0⟩ := lin_eqs (by omega) hR5 hT hd
                  have t3 : T 3 = x3 := mul_cn (b := b) (by omega) (by omega)
                  have t2 : T 2 = x2 := mul_cn (b := b) (by omega) (by rw [t3] at e3; omega)
                  have t1 : T 1 = x1 := mul_cn (b := b) (by omega) (by rw [t2] at e2; omega)
                  have t0 : T 0 = x0 := mul_cn (b := b) (by omega) (by rw [t1] at e1; omega)
                  rw [t0] at e0
                  omega
                have hP9 := hP.sub (ws' := [(x, .inr (2, [.int (iI cd), .ref n, .ref r, .ref d, .int (iI cn), .int (iI fc), .ref ya, .ref yb, .ref yc, .ref yo, .long (lI (X 0)), .long (lI (X 1)), .long (lI (X 2)), .long (lI (X 3)), .long (lI (X 4)), .long (lI (X 5)), .long (lI (X 6))])), (r, .inl (cJ, 5, .inr (.inl (aL R)))), (d, .inl (cJ, 5, .inr (.inl (aL (p4 x0 x1 x2 x3)))))]) [0, 1, 2] rfl
                have hD9 := hD.sub (ws' := [(x, .inr (2, [.int (iI cd), .ref n, .ref r, .ref d, .int (iI cn), .int (iI fc), .ref ya, .ref yb, .ref yc, .ref yo, .long (lI (X 0)), .long (lI (X 1)), .long (lI (X 2)), .long (lI (X 3)), .long (lI (X 4)), .long (lI (X 5)), .long (lI (X 6))])), (r, .inl (cJ, 5, .inr (.inl (aL R)))), (d, .inl (cJ, 5, .inr (.inl (aL (p4 x0 x1 x2 x3)))))]) [0, 1, 2] (by decide) rfl
                have hK9 := hK.sub (tys' := [(cJ, .long)]) [0] rfl
                exact W.zret (v := iI 0) hx hb hr (by decide) (fun t ht hW => ⟨⟨iI 0, (p4 x0 x1 x2 x3), rfl, ⟨p4_n5 _ _ _ _, Or.inr ⟨rfl, hno⟩⟩, by rw [ht]; exact hP9, va_K.moved hW.alike hK9, hD9⟩, hS.F ht⟩) hS.2.2 dX2_divides_112
              · refine ix_iconst (n := 1) hx hb dX2_divides_107 ?_
                refine lv_goto (tgt := 112) hx hb dX2_divides_108 (by decide) ?_
                have hdv : dvs a b k R (p4 x0 x1 x2 x3) := dvs_p4 hR5 (by rw [ha0]; omega) (by rw [ha0]; omega) (by rw [ha0]; omega) (by rw [ha0]; omega) (by omega) (by omega)
                have hP9 := hP.sub (ws' := [(x, .inr (2, [.int (iI cd), .ref n, .ref r, .ref d, .int (iI cn), .int (iI fc), .ref ya, .ref yb, .ref yc, .ref yo, .long (lI (X 0)), .long (lI (X 1)), .long (lI (X 2)), .long (lI (X 3)), .long (lI (X 4)), .long (lI (X 5)), .long (lI (X 6))])), (r, .inl (cJ, 5, .inr (.inl (aL R)))), (d, .inl (cJ, 5, .inr (.inl (aL (p4 x0 x1 x2 x3)))))]) [0, 1, 2] rfl
                have hD9 := hD.sub (ws' := [(x, .inr (2, [.int (iI cd), .ref n, .ref r, .ref d, .int (iI cn), .int (iI fc), .ref ya, .ref yb, .ref yc, .ref yo, .long (lI (X 0)), .long (lI (X 1)), .long (lI (X 2)), .long (lI (X 3)), .long (lI (X 4)), .long (lI (X 5)), .long (lI (X 6))])), (r, .inl (cJ, 5, .inr (.inl (aL R)))), (d, .inl (cJ, 5, .inr (.inl (aL (p4 x0 x1 x2 x3)))))]) [0, 1, 2] (by decide) rfl
                have hK9 := hK.sub (tys' := [(cJ, .long)]) [0] rfl
                exact W.zret (v := iI 1) hx hb hr (by decide) (fun t ht hW => ⟨⟨iI 1, (p4 x0 x1 x2 x3), rfl, ⟨p4_n5 _ _ _ _, Or.inl ⟨rfl, hdv⟩⟩, by rw [ht]; exact hP9, va_K.moved hW.alike hK9, hD9⟩, hS.F ht⟩) hS.2.2 dX2_divides_112
            · refine ix_iconst (n := 0) hx hb dX2_divides_123 ?_
              have hno : ¬ ∃ Q, n5 Q ∧ dvs a b k R Q := by
                rintro ⟨T, hT, hd⟩
                rw [ha0] at hd
                obtain ⟨e4, e3, e2, e1, e0⟩ := lin_eqs (by omega) hR5 hT hd
                have t3 : T 3 = x3 := mul_cn (b := b) (by omega) (by omega)
                have t2 : T 2 = x2 := mul_cn (b := b) (by omega) (by rw [t3] at e3; omega)
                have t1 : T 1 = x1 := mul_cn (b := b) (by omega) (by rw [t2] at e2; omega)
                rw [t1] at e1
                exact c215 (tdiv_of (hi := b) (q := T 0) (by omega) (by omega)).1
              have hP9 := hP.sub (ws' := [(x, .inr (2, [.int (iI cd), .ref n, .ref r, .ref d, .int (iI cn), .int (iI fc), .ref ya, .ref yb, .ref yc, .ref yo, .long (lI (X 0)), .long (lI (X 1)), .long (lI (X 2)), .long (lI (X 3)), .long (lI (X 4)), .long (lI (X 5)), .long (lI (X 6))])), (r, .inl (cJ, 5, .inr (.inl (aL R)))), (d, .inl (cJ, 5, .inr (.inl (aL (p4 0 x1 x2 x3)))))]) [0, 1, 2] rfl
              have hD9 := hD.sub (ws' := [(x, .inr (2, [.int (iI cd), .ref n, .ref r, .ref d, .int (iI cn), .int (iI fc), .ref ya, .ref yb, .ref yc, .ref yo, .long (lI (X 0)), .long (lI (X 1)), .long (lI (X 2)), .long (lI (X 3)), .long (lI (X 4)), .long (lI (X 5)), .long (lI (X 6))])), (r, .inl (cJ, 5, .inr (.inl (aL R)))), (d, .inl (cJ, 5, .inr (.inl (aL (p4 0 x1 x2 x3)))))]) [0, 1, 2] (by decide) rfl
              have hK9 := hK.sub (tys' := [(cJ, .long)]) [0] rfl
              exact W.zret (v := iI 0) hx hb hr (by decide) (fun t ht hW => ⟨⟨iI 0, (p4 0 x1 x2 x3), rfl, ⟨p4_n5 _ _ _ _, Or.inr ⟨rfl, hno⟩⟩, by rw [ht]; exact hP9, va_K.moved hW.alike hK9, hD9⟩, hS.F ht⟩) hS.2.2 dX2_divides_124
          · refine ix_iconst (n := 0) hx hb dX2_divides_123 ?_
            have hno : ¬ ∃ Q, n5 Q ∧ dvs a b k R Q := by
              rintro ⟨T, hT, hd⟩
              rw [ha0] at hd
              obtain ⟨e4, e3, e2, e1, e0⟩ := lin_eqs (by omega) hR5 hT hd
              have t3 : T 3 = x3 := mul_cn (b := b) (by omega) (by omega)
              have t2 : T 2 = x2 := mul_cn (b := b) (by omega) (by rw [t3] at e3; omega)
              rw [t2] at e2
              exact c210 (tdiv_of (hi := b) (q := T 1) (by omega) (by omega)).1
            have hP9 := hP.sub (ws' := [(x, .inr (2, [.int (iI cd), .ref n, .ref r, .ref d, .int (iI cn), .int (iI fc), .ref ya, .ref yb, .ref yc, .ref yo, .long (lI (X 0)), .long (lI (X 1)), .long (lI (X 2)), .long (lI (X 3)), .long (lI (X 4)), .long (lI (X 5)), .long (lI (X 6))])), (r, .inl (cJ, 5, .inr (.inl (aL R)))), (d, .inl (cJ, 5, .inr (.inl (aL (p4 0 0 x2 x3)))))]) [0, 1, 2] rfl
            have hD9 := hD.sub (ws' := [(x, .inr (2, [.int (iI cd), .ref n, .ref r, .ref d, .int (iI cn), .int (iI fc), .ref ya, .ref yb, .ref yc, .ref yo, .long (lI (X 0)), .long (lI (X 1)), .long (lI (X 2)), .long (lI (X 3)), .long (lI (X 4)), .long (lI (X 5)), .long (lI (X 6))])), (r, .inl (cJ, 5, .inr (.inl (aL R)))), (d, .inl (cJ, 5, .inr (.inl (aL (p4 0 0 x2 x3)))))]) [0, 1, 2] (by decide) rfl
            have hK9 := hK.sub (tys' := [(cJ, .long)]) [0] rfl
            exact W.zret (v := iI 0) hx hb hr (by decide) (fun t ht hW => ⟨⟨iI 0, (p4 0 0 x2 x3), rfl, ⟨p4_n5 _ _ _ _, Or.inr ⟨rfl, hno⟩⟩, by rw [ht]; exact hP9, va_K.moved hW.alike hK9, hD9⟩, hS.F ht⟩) hS.2.2 dX2_divides_124
        · refine ix_iconst (n := 0) hx hb dX2_divides_123 ?_
          have hno : ¬ ∃ Q, n5 Q ∧ dvs a b k R Q := by
            rintro ⟨T, hT, hd⟩
            rw [ha0] at hd
            obtain ⟨e4, e3, e2, e1, e0⟩ := lin_eqs (by omega) hR5 hT hd
            have t3 : T 3 = x3 := mul_cn (b := b) (by omega) (by omega)
            rw [t3] at e3
            exact c205 (tdiv_of (hi := b) (q := T 2) (by omega) (by omega)).1
          have hP9 := hP.sub (ws' := [(x, .inr (2, [.int (iI cd), .ref n, .ref r, .ref d, .int (iI cn), .int (iI fc), .ref ya, .ref yb, .ref yc, .ref yo, .long (lI (X 0)), .long (lI (X 1)), .long (lI (X 2)), .long (lI (X 3)), .long (lI (X 4)), .long (lI (X 5)), .long (lI (X 6))])), (r, .inl (cJ, 5, .inr (.inl (aL R)))), (d, .inl (cJ, 5, .inr (.inl (aL (p4 0 0 0 x3)))))]) [0, 1, 2] rfl
          have hD9 := hD.sub (ws' := [(x, .inr (2, [.int (iI cd), .ref n, .ref r, .ref d, .int (iI cn), .int (iI fc), .ref ya, .ref yb, .ref yc, .ref yo, .long (lI (X 0)), .long (lI (X 1)), .long (lI (X 2)), .long (lI (X 3)), .long (lI (X 4)), .long (lI (X 5)), .long (lI (X 6))])), (r, .inl (cJ, 5, .inr (.inl (aL R)))), (d, .inl (cJ, 5, .inr (.inl (aL (p4 0 0 0 x3)))))]) [0, 1, 2] (by decide) rfl
          have hK9 := hK.sub (tys' := [(cJ, .long)]) [0] rfl
          exact W.zret (v := iI 0) hx hb hr (by decide) (fun t ht hW => ⟨⟨iI 0, (p4 0 0 0 x3), rfl, ⟨p4_n5 _ _ _ _, Or.inr ⟨rfl, hno⟩⟩, by rw [ht]; exact hP9, va_K.moved hW.alike hK9, hD9⟩, hS.F ht⟩) hS.2.2 dX2_divides_124
      · refine ix_iconst (n := 0) hx hb dX2_divides_123 ?_
        have hno : ¬ ∃ Q, n5 Q ∧ dvs a b k R Q := by
          rintro ⟨T, hT, hd⟩
          rw [ha0] at hd
          obtain ⟨e4, e3, e2, e1, e0⟩ := lin_eqs (by omega) hR5 hT hd
          exact c200 (tdiv_of (hi := b) (q := T 3) (by omega) (by omega)).1
        have hP9 := hP.sub (ws' := [(x, .inr (2, [.int (iI cd), .ref n, .ref r, .ref d, .int (iI cn), .int (iI fc), .ref ya, .ref yb, .ref yc, .ref yo, .long (lI (X 0)), .long (lI (X 1)), .long (lI (X 2)), .long (lI (X 3)), .long (lI (X 4)), .long (lI (X 5)), .long (lI (X 6))])), (r, .inl (cJ, 5, .inr (.inl (aL R)))), (d, .inl (cJ, 5, .inr (.inl (aL (p4 0 0 0 0)))))]) [0, 1, 2] rfl
        have hD9 := hD.sub (ws' := [(x, .inr (2, [.int (iI cd), .ref n, .ref r, .ref d, .int (iI cn), .int (iI fc), .ref ya, .ref yb, .ref yc, .ref yo, .long (lI (X 0)), .long (lI (X 1)), .long (lI (X 2)), .long (lI (X 3)), .long (lI (X 4)), .long (lI (X 5)), .long (lI (X 6))])), (r, .inl (cJ, 5, .inr (.inl (aL R)))), (d, .inl (cJ, 5, .inr (.inl (aL (p4 0 0 0 0)))))]) [0, 1, 2] (by decide) rfl
        have hK9 := hK.sub (tys' := [(cJ, .long)]) [0] rfl
        exact W.zret (v := iI 0) hx hb hr (by decide) (fun t ht hW => ⟨⟨iI 0, (p4 0 0 0 0), rfl, ⟨p4_n5 _ _ _ _, Or.inr ⟨rfl, hno⟩⟩, by rw [ht]; exact hP9, va_K.moved hW.alike hK9, hD9⟩, hS.F ht⟩) hS.2.2 dX2_divides_124
