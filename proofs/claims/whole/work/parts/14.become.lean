def f_und (a b c : Int) : Int := if a = 0 then 0 else b * b - 4 * a * c
def f_out (a b c : Int) : Int := f_gsq (f_und a b c)
def f_ins (a b c : Int) : Int := if f_out a b c = 0 then 0 else (f_und a b c).tdiv (f_out a b c * f_out a b c)
/-- a factor's numbers, made anew -/
def nf (t a b c : Int) : Int → Int := fun j => if j = 0 then t else if j = 1 then a else if j = 2 then b else if j = 3 then c else if j = 4 then f_out a b c else if j = 5 then f_ins a b c else 0
theorem gsL_r (z : Int) : ∀ n : Nat, 0 ≤ gsL z n ∧ gsL z n ≤ n := by
  intro n
  induction n with
  | zero => exact ⟨Int.le_refl _, Int.le_refl _⟩
  | succ n ih =>
    rw [gsL]
    split
    · omega
    · omega
theorem gsq_r (v : Int) : 0 ≤ f_gsq v ∧ f_gsq v ≤ 1000 := gsL_r _ 1000
set_option maxHeartbeats 4000000 in
set_option maxRecDepth 100000 in
/-- become: the numbers, the root outside and inside -/
theorem kX0_become (l : Launch) (dC : Nat → ClassId) (dI : Nat → Nat → Nat) (sz : Nat) (q : Nat) (F : Int → Int) (a b k tt : Int) (ha : r32 a) (hu : -1002000 ≤ f_und a b k ∧ f_und a b k ≤ 1002000) : Met l yX0_become (.code yX0_become cX0_become 6 none :: wsA) ({ frames := 1, cells := 0, slots := 0, locals := 40 }) (va_Pc [.ref q, .int (iI a), .int (iI b), .int (iI k), .int (iI tt)] (fun U => U.heap.size = sz ∧ va_P (dC, dI) vwCl [(q, .inr (0, [.int (iI (F 0)), .int (iI (F 1)), .int (iI (F 2)), .int (iI (F 3)), .int (iI (F 4)), .int (iI (F 5))]))] U.heap ∧ va_K (dC, dI) vwCl [] U ∧ va_D (fun _ => True) [(q, .inr (0, [.int (iI (F 0)), .int (iI (F 1)), .int (iI (F 2)), .int (iI (F 3)), .int (iI (F 4)), .int (iI (F 5))]))] ∧ nb U)) (va_Qv (fun _ => True) (fun (u : Unit) t9 => va_P (dC, dI) vwCl [(q, .inr (0, fl (nf tt a b k)))] t9.heap ∧ va_K (dC, dI) vwCl [] t9 ∧ va_D (va_A [(q, .inr (0, [.int (iI (F 0)), .int (iI (F 1)), .int (iI (F 2)), .int (iI (F 3)), .int (iI (F 4)), .int (iI (F 5))]))] sz) [(q, .inr (0, fl (nf tt a b k)))]) (va_A [(q, .inr (0, [.int (iI (F 0)), .int (iI (F 1)), .int (iI (F 2)), .int (iI (F 3)), .int (iI (F 4)), .int (iI (F 5))]))] sz)) 0 0 (va_A [(q, .inr (0, [.int (iI (F 0)), .int (iI (F 1)), .int (iI (F 2)), .int (iI (F 3)), .int (iI (F 4)), .int (iI (F 5))]))] sz) := by
  refine Met.ofW (cc := cX0_become) (maxL := 6) (ret := none) (by decide) rfl ?_
  intro p e s m args below meth c s₁ B hml hv
  obtain ⟨rfl, hsz, hP, hK, hD0, hnb⟩ := hv
  have hx := B.exec
  have hb := B.bytes
  have hr := B.returns
  have hts := atoms_spec (ws := .code yX0_become cX0_become 6 none :: wsA) B.pre
  have hw : ∀ w ∈ wsA, w.before _ s = true := fun w h => hts w (List.mem_cons_of_mem _ h)
  have hown : s.vm.findClass RX0 = some m.cls := findClass_of_methodNamed B.named
  have hlocks := B.notSynchronized
  subst hsz
  have hD := hD0.self (sz := s.heap.size)
  generalize hAe : va_A [(q, .inr (0, [.int (iI (F 0)), .int (iI (F 1)), .int (iI (F 2)), .int (iI (F 3)), .int (iI (F 4)), .int (iI (F 5))]))] s.heap.size = A at hD ⊢
  have hA : ∀ q : Nat, s.heap.size ≤ q → A q := fun q h => by rw [← hAe]; exact Or.inr h
  have hS : va_S A s.heap s.heap [] := va_S.rf
  have hP : va_P (dC, dI) vwCl [(q, .inr (0, [.int (iI (F 0)), .int (iI (F 1)), .int (iI (F 2)), .int (iI (F 3)), .int (iI (F 4)), .int (iI (F 5))]))] s.heap := hP
  have hl := lv_entry ([.ref q, .int (iI a), .int (iI b), .int (iI k), .int (iI tt)]) (n := 6) (Nat.le_of_ble_eq_true rfl)
  rw [lg_entry_eq]
  generalize (lg_sl ([.ref q, .int (iI a), .int (iI b), .int (iI k), .int (iI tt)]) ++ List.replicate (6 - (lg_sl ([.ref q, .int (iI a), .int (iI b), .int (iI k), .int (iI tt)])).length) Slot.unset).toArray = ls at hl ⊢
  have hl : lv_has ls 6 [(0, .ref q), (1, .int (iI a)), (2, .int (iI b)), (3, .int (iI k)), (4, .int (iI tt))] := hl
  refine lv_aload_n hx hb dX0_become_0 rfl (lv_at hl 0 rfl) ?_
  refine lv_iload_n hx hb dX0_become_1 rfl (lv_at hl 1 rfl) ?_
  refine va_put (D := (dC, dI)) (ci := 0) (v := .int (iI a)) (ty := .int) (C := RX0) (T := TX0) (N := 6) hx hb hw inX0 tyX0 tyX0_ok nmX0 hown hK hP hD hS 0 rfl rfl 1 (by decide) (hw _ mA_29) (fun _ h9 => h9) rfl (by decide +kernel) rfl rfl (Nat.le_of_ble_eq_true rfl) dX0_become_2 (fun H locs hP hD hS => ?_)
  have hP : va_P (dC, dI) vwCl [(q, .inr (0, [.int (iI (F 0)), .int (iI a), .int (iI (F 2)), .int (iI (F 3)), .int (iI (F 4)), .int (iI (F 5))]))] H := hP
  have hD : va_D A [(q, .inr (0, [.int (iI (F 0)), .int (iI a), .int (iI (F 2)), .int (iI (F 3)), .int (iI (F 4)), .int (iI (F 5))]))] := hD
  refine lv_aload_n hx hb dX0_become_5 rfl (lv_at hl 0 rfl) ?_
  refine lv_iload_n hx hb dX0_become_6 rfl (lv_at hl 2 rfl) ?_
  refine va_put (D := (dC, dI)) (ci := 0) (v := .int (iI b)) (ty := .int) (C := RX0) (T := TX0) (N := 6) hx hb hw inX0 tyX0 tyX0_ok nmX0 hown hK hP hD hS 0 rfl rfl 2 (by decide) (hw _ mA_31) (fun _ h9 => h9) rfl (by decide +kernel) rfl rfl (Nat.le_of_ble_eq_true rfl) dX0_become_7 (fun H locs hP hD hS => ?_)
  have hP : va_P (dC, dI) vwCl [(q, .inr (0, [.int (iI (F 0)), .int (iI a), .int (iI b), .int (iI (F 3)), .int (iI (F 4)), .int (iI (F 5))]))] H := hP
  have hD : va_D A [(q, .inr (0, [.int (iI (F 0)), .int (iI a), .int (iI b), .int (iI (F 3)), .int (iI (F 4)), .int (iI (F 5))]))] := hD
  refine lv_aload_n hx hb dX0_become_10 rfl (lv_at hl 0 rfl) ?_
  refine lv_iload_n hx hb dX0_become_11 rfl (lv_at hl 3 rfl) ?_
  refine va_put (D := (dC, dI)) (ci := 0) (v := .int (iI k)) (ty := .int) (C := RX0) (T := TX0) (N := 6) hx hb hw inX0 tyX0 tyX0_ok nmX0 hown hK hP hD hS 0 rfl rfl 3 (by decide) (hw _ mA_33) (fun _ h9 => h9) rfl (by decide +kernel) rfl rfl (Nat.le_of_ble_eq_true rfl) dX0_become_12 (fun H locs hP hD hS => ?_)
  have hP : va_P (dC, dI) vwCl [(q, .inr (0, [.int (iI (F 0)), .int (iI a), .int (iI b), .int (iI k), .int (iI (F 4)), .int (iI (F 5))]))] H := hP
  have hD : va_D A [(q, .inr (0, [.int (iI (F 0)), .int (iI a), .int (iI b), .int (iI k), .int (iI (F 4)), .int (iI (F 5))]))] := hD
  refine lv_aload_n hx hb dX0_become_15 rfl (lv_at hl 0 rfl) ?_
  refine lv_iload hx hb dX0_become_16 (lv_at hl 4 rfl) ?_
  refine va_put (D := (dC, dI)) (ci := 0) (v := .int (iI tt)) (ty := .int) (C := RX0) (T := TX0) (N := 6) hx hb hw inX0 tyX0 tyX0_ok nmX0 hown hK hP hD hS 0 rfl rfl 0 (by decide) (hw _ mA_27) (fun _ h9 => h9) rfl (by decide +kernel) rfl rfl (Nat.le_of_ble_eq_true rfl) dX0_become_18 (fun H locs hP hD hS => ?_)
  have hP : va_P (dC, dI) vwCl [(q, .inr (0, [.int (iI tt), .int (iI a), .int (iI b), .int (iI k), .int (iI (F 4)), .int (iI (F 5))]))] H := hP
  have hD : va_D A [(q, .inr (0, [.int (iI tt), .int (iI a), .int (iI b), .int (iI k), .int (iI (F 4)), .int (iI (F 5))]))] := hD
  refine lv_aload_n hx hb dX0_become_21 rfl (lv_at hl 0 rfl) ?_
  refine va_get (D := (dC, dI)) (ci := 0) (v := .int (iI a)) (C := RX0) (T := TX0) (N := 6) hx hb hw inX0 hown hK hP 0 rfl rfl 1 (by decide) (hw _ mA_29) (fun _ h9 => h9) rfl dX0_become_22 ?_
  refine ix_if_ne (tgt := 32) hx hb dX0_become_25 (by decide) (by omega) (fun c1 => ?_) (fun c1 => ?_)
  · refine lv_aload_n hx hb dX0_become_32 rfl (lv_at hl 0 rfl) ?_
    refine va_get (D := (dC, dI)) (ci := 0) (v := .int (iI b)) (C := RX0) (T := TX0) (N := 6) hx hb hw inX0 hown hK hP 0 rfl rfl 2 (by decide) (hw _ mA_31) (fun _ h9 => h9) rfl dX0_become_33 ?_
    refine lv_aload_n hx hb dX0_become_36 rfl (lv_at hl 0 rfl) ?_
    refine va_get (D := (dC, dI)) (ci := 0) (v := .int (iI b)) (C := RX0) (T := TX0) (N := 6) hx hb hw inX0 hown hK hP 0 rfl rfl 2 (by decide) (hw _ mA_31) (fun _ h9 => h9) rfl dX0_become_37 ?_
    refine ix_imul hx hb dX0_become_40 ?_
    refine ix_iconst (n := 4) hx hb dX0_become_41 ?_
    refine lv_aload_n hx hb dX0_become_42 rfl (lv_at hl 0 rfl) ?_
    refine va_get (D := (dC, dI)) (ci := 0) (v := .int (iI a)) (C := RX0) (T := TX0) (N := 6) hx hb hw inX0 hown hK hP 0 rfl rfl 1 (by decide) (hw _ mA_29) (fun _ h9 => h9) rfl dX0_become_43 ?_
    refine ix_imul hx hb dX0_become_46 ?_
    refine lv_aload_n hx hb dX0_become_47 rfl (lv_at hl 0 rfl) ?_
    refine va_get (D := (dC, dI)) (ci := 0) (v := .int (iI k)) (C := RX0) (T := TX0) (N := 6) hx hb hw inX0 hown hK hP 0 rfl rfl 3 (by decide) (hw _ mA_33) (fun _ h9 => h9) rfl dX0_become_48 ?_
    refine ix_imul hx hb dX0_become_51 ?_
    refine ix_isub hx hb dX0_become_52 ?_
    refine lv_istore (lv' := [(5, .int (iI ((b * b) - ((4 * a) * k)))), (0, .ref q), (1, .int (iI a)), (2, .int (iI b)), (3, .int (iI k)), (4, .int (iI tt))]) hx hb dX0_become_53 hl (by decide) rfl (fun ls hl => ?_)
    refine lv_aload_n hx hb dX0_become_55 rfl (lv_at hl 1 rfl) ?_
    refine lv_iload hx hb dX0_become_56 (lv_at hl 0 rfl) ?_
    have hu9 : (b * b) - ((4 * a) * k) = f_und a b k := by unfold f_und; grind
    refine vp_callSi (va_Run.run (va_runSN (As := [.int (iI ((b * b) - ((4 * a) * k)))]) (rest := [.ref q]) ⟨hx, hb, hml, hown, hw⟩ (kX1_greatestSquareDividing l ((b * b) - ((4 * a) * k)) (by rw [hu9]; exact hu)) ⟨va_cnB 1 hw (wsA_sub mA_267) rfl rfl rfl (hnb.1 _ mN_265) (hw _ mA_1) (by decide +kernel) ⟨Nat.le_of_ble_eq_true rfl, Nat.le_of_ble_eq_true rfl⟩, hw _ mA_266, trivial⟩ preEq rfl rfl hl.1 rfl (lv_room (Nat.le_of_ble_eq_true rfl)) dX0_become_58 ⟨Nat.le_of_ble_eq_true rfl, Nat.le_of_ble_eq_true rfl⟩)) (fun r2 h3 => ?_)
    subst h3
    have hg9 := gsq_r ((b * b) - ((4 * a) * k))
    refine va_put (D := (dC, dI)) (ci := 0) (v := .int (iI (f_gsq ((b * b) - ((4 * a) * k))))) (ty := .int) (C := RX0) (T := TX0) (N := 6) hx hb hw inX0 tyX0 tyX0_ok nmX0 hown hK hP hD hS 0 rfl rfl 4 (by decide) (hw _ mA_35) (fun _ h9 => h9) rfl (by decide +kernel) rfl rfl (Nat.le_of_ble_eq_true rfl) dX0_become_61 (fun H locs hP hD hS => ?_)
    have hP : va_P (dC, dI) vwCl [(q, .inr (0, [.int (iI tt), .int (iI a), .int (iI b), .int (iI k), .int (iI (f_gsq ((b * b) - ((4 * a) * k)))), .int (iI (F 5))]))] H := hP
    have hD : va_D A [(q, .inr (0, [.int (iI tt), .int (iI a), .int (iI b), .int (iI k), .int (iI (f_gsq ((b * b) - ((4 * a) * k)))), .int (iI (F 5))]))] := hD
    refine lv_aload_n hx hb dX0_become_64 rfl (lv_at hl 1 rfl) ?_
    refine lv_aload_n hx hb dX0_become_65 rfl (lv_at hl 1 rfl) ?_
    refine va_get (D := (dC, dI)) (ci := 0) (v := .int (iI (f_gsq ((b * b) - ((4 * a) * k))))) (C := RX0) (T := TX0) (N := 6) hx hb hw inX0 hown hK hP 0 rfl rfl 4 (by decide) (hw _ mA_35) (fun _ h9 => h9) rfl dX0_become_66 ?_
    refine ix_if_ne (tgt := 76) hx hb dX0_become_69 (by decide) ⟨by omega, by omega⟩ (fun c4 => ?_) (fun c4 => ?_)
    · refine lv_iload hx hb dX0_become_76 (lv_at hl 0 rfl) ?_
      refine lv_aload_n hx hb dX0_become_78 rfl (lv_at hl 1 rfl) ?_
      refine va_get (D := (dC, dI)) (ci := 0) (v := .int (iI (f_gsq ((b * b) - ((4 * a) * k))))) (C := RX0) (T := TX0) (N := 6) hx hb hw inX0 hown hK hP 0 rfl rfl 4 (by decide) (hw _ mA_35) (fun _ h9 => h9) rfl dX0_become_79 ?_
      refine lv_aload_n hx hb dX0_become_82 rfl (lv_at hl 1 rfl) ?_
      refine va_get (D := (dC, dI)) (ci := 0) (v := .int (iI (f_gsq ((b * b) - ((4 * a) * k))))) (C := RX0) (T := TX0) (N := 6) hx hb hw inX0 hown hK hP 0 rfl rfl 4 (by decide) (hw _ mA_35) (fun _ h9 => h9) rfl dX0_become_83 ?_
      refine ix_imul hx hb dX0_become_86 ?_
      refine ix_idiv hx hb dX0_become_87 (by rw [hu9]; omega) (by have := sq_mono hg9.1 hg9.2; have := sq_mono (a := 0) (Int.le_refl 0) hg9.1; omega) (by omega) (by have h1 : 1 ≤ (f_gsq ((b * b) - ((4 * a) * k))) := (by omega); have := sq_mono (a := 1) (by omega) h1; omega) ?_
      refine va_put (D := (dC, dI)) (ci := 0) (v := .int (iI (Int.tdiv ((b * b) - ((4 * a) * k)) ((f_gsq ((b * b) - ((4 * a) * k))) * (f_gsq ((b * b) - ((4 * a) * k))))))) (ty := .int) (C := RX0) (T := TX0) (N := 6) hx hb hw inX0 tyX0 tyX0_ok nmX0 hown hK hP hD hS 0 rfl rfl 5 (by decide) (hw _ mA_37) (fun _ h9 => h9) rfl (by decide +kernel) rfl rfl (Nat.le_of_ble_eq_true rfl) dX0_become_88 (fun H locs hP hD hS => ?_)
      have hP : va_P (dC, dI) vwCl [(q, .inr (0, [.int (iI tt), .int (iI a), .int (iI b), .int (iI k), .int (iI (f_gsq ((b * b) - ((4 * a) * k)))), .int (iI (Int.tdiv ((b * b) - ((4 * a) * k)) ((f_gsq ((b * b) - ((4 * a) * k))) * (f_gsq ((b * b) - ((4 * a) * k))))))]))] H := hP
      have hD : va_D A [(q, .inr (0, [.int (iI tt), .int (iI a), .int (iI b), .int (iI k), .int (iI (f_gsq ((b * b) - ((4 * a) * k)))), .int (iI (Int.tdiv ((b * b) - ((4 * a) * k)) ((f_gsq ((b * b) - ((4 * a) * k))) * (f_gsq ((b * b) - ((4 * a) * k))))))]))] := hD
      have e4 : f_gsq ((b * b) - ((4 * a) * k)) = f_out a b k := by unfold f_out f_und; grind
      have e5 : Int.tdiv ((b * b) - ((4 * a) * k)) ((f_gsq ((b * b) - ((4 * a) * k))) * (f_gsq ((b * b) - ((4 * a) * k)))) = f_ins a b k := by unfold f_ins; rw [← e4]; unfold f_und; grind
      have eW : ([.int (iI tt), .int (iI a), .int (iI b), .int (iI k), .int (iI (f_gsq ((b * b) - ((4 * a) * k)))), .int (iI (Int.tdiv ((b * b) - ((4 * a) * k)) ((f_gsq ((b * b) - ((4 * a) * k))) * (f_gsq ((b * b) - ((4 * a) * k))))))] : List Value) = fl (nf tt a b k) := by rw [show fl (nf tt a b k) = [.int (iI tt), .int (iI a), .int (iI b), .int (iI k), .int (iI (f_out a b k)), .int (iI (f_ins a b k))] from rfl, ← e5, ← e4]
      rw [eW] at hP hD
      have hP9 := hP.sub (ws' := [(q, .inr (0, fl (nf tt a b k)))]) [0] rfl
      have hD9 := hD.sub (ws' := [(q, .inr (0, fl (nf tt a b k)))]) [0] (by decide) rfl
      have hK9 := hK.sub (tys' := []) [] rfl
      exact W.vret hx hb hr (fun t ht hW => ⟨⟨(), rfl, trivial, by rw [ht]; exact hP9, va_K.moved hW.alike hK9, hD9⟩, hS.F ht⟩) hS.2.2 dX0_become_91
    · refine ix_iconst (n := 0) hx hb dX0_become_72 ?_
      refine lv_goto (tgt := 88) hx hb dX0_become_73 (by decide) ?_
      refine va_put (D := (dC, dI)) (ci := 0) (v := .int (iI 0)) (ty := .int) (C := RX0) (T := TX0) (N := 6) hx hb hw inX0 tyX0 tyX0_ok nmX0 hown hK hP hD hS 0 rfl rfl 5 (by decide) (hw _ mA_37) (fun _ h9 => h9) rfl (by decide +kernel) rfl rfl (Nat.le_of_ble_eq_true rfl) dX0_become_88 (fun H locs hP hD hS => ?_)
      have hP : va_P (dC, dI) vwCl [(q, .inr (0, [.int (iI tt), .int (iI a), .int (iI b), .int (iI k), .int (iI (f_gsq ((b * b) - ((4 * a) * k)))), .int (iI 0)]))] H := hP
      have hD : va_D A [(q, .inr (0, [.int (iI tt), .int (iI a), .int (iI b), .int (iI k), .int (iI (f_gsq ((b * b) - ((4 * a) * k)))), .int (iI 0)]))] := hD
      have e4 : f_gsq ((b * b) - ((4 * a) * k)) = f_out a b k := by unfold f_out f_und; grind
      have e5 : 0 = f_ins a b k := by unfold f_ins; rw [← e4]; unfold f_und; grind
      have eW : ([.int (iI tt), .int (iI a), .int (iI b), .int (iI k), .int (iI (f_gsq ((b * b) - ((4 * a) * k)))), .int (iI 0)] : List Value) = fl (nf tt a b k) := by rw [show fl (nf tt a b k) = [.int (iI tt), .int (iI a), .int (iI b), .int (iI k), .int (iI (f_out a b k)), .int (iI (f_ins a b k))] from rfl, ← e5, ← e4]
      rw [eW] at hP hD
      have hP9 := hP.sub (ws' := [(q, .inr (0, fl (nf tt a b k)))]) [0] rfl
      have hD9 := hD.sub (ws' := [(q, .inr (0, fl (nf tt a b k)))]) [0] (by decide) rfl
      have hK9 := hK.sub (tys' := []) [] rfl
      exact W.vret hx hb hr (fun t ht hW => ⟨⟨(), rfl, trivial, by rw [ht]; exact hP9, va_K.moved hW.alike hK9, hD9⟩, hS.F ht⟩) hS.2.2 dX0_become_91
  · refine ix_iconst (n := 0) hx hb dX0_become_28 ?_
    refine lv_goto (tgt := 53) hx hb dX0_become_29 (by decide) ?_
    refine lv_istore (lv' := [(5, .int (iI 0)), (0, .ref q), (1, .int (iI a)), (2, .int (iI b)), (3, .int (iI k)), (4, .int (iI tt))]) hx hb dX0_become_53 hl (by decide) rfl (fun ls hl => ?_)
    refine lv_aload_n hx hb dX0_become_55 rfl (lv_at hl 1 rfl) ?_
    refine lv_iload hx hb dX0_become_56 (lv_at hl 0 rfl) ?_
    have hu9 : 0 = f_und a b k := by unfold f_und; grind
    refine vp_callSi (va_Run.run (va_runSN (As := [.int (iI 0)]) (rest := [.ref q]) ⟨hx, hb, hml, hown, hw⟩ (kX1_greatestSquareDividing l (0) (by rw [hu9]; exact hu)) ⟨va_cnB 1 hw (wsA_sub mA_267) rfl rfl rfl (hnb.1 _ mN_265) (hw _ mA_1) (by decide +kernel) ⟨Nat.le_of_ble_eq_true rfl, Nat.le_of_ble_eq_true rfl⟩, hw _ mA_266, trivial⟩ preEq rfl rfl hl.1 rfl (lv_room (Nat.le_of_ble_eq_true rfl)) dX0_become_58 ⟨Nat.le_of_ble_eq_true rfl, Nat.le_of_ble_eq_true rfl⟩)) (fun r5 h6 => ?_)
    subst h6
    have hg9 := gsq_r (0)
    refine va_put (D := (dC, dI)) (ci := 0) (v := .int (iI (f_gsq 0))) (ty := .int) (C := RX0) (T := TX0) (N := 6) hx hb hw inX0 tyX0 tyX0_ok nmX0 hown hK hP hD hS 0 rfl rfl 4 (by decide) (hw _ mA_35) (fun _ h9 => h9) rfl (by decide +kernel) rfl rfl (Nat.le_of_ble_eq_true rfl) dX0_become_61 (fun H locs hP hD hS => ?_)
    have hP : va_P (dC, dI) vwCl [(q, .inr (0, [.int (iI tt), .int (iI a), .int (iI b), .int (iI k), .int (iI (f_gsq 0)), .int (iI (F 5))]))] H := hP
    have hD : va_D A [(q, .inr (0, [.int (iI tt), .int (iI a), .int (iI b), .int (iI k), .int (iI (f_gsq 0)), .int (iI (F 5))]))] := hD
    refine lv_aload_n hx hb dX0_become_64 rfl (lv_at hl 1 rfl) ?_
    refine lv_aload_n hx hb dX0_become_65 rfl (lv_at hl 1 rfl) ?_
    refine va_get (D := (dC, dI)) (ci := 0) (v := .int (iI (f_gsq 0))) (C := RX0) (T := TX0) (N := 6) hx hb hw inX0 hown hK hP 0 rfl rfl 4 (by decide) (hw _ mA_35) (fun _ h9 => h9) rfl dX0_become_66 ?_
    refine ix_if_ne (tgt := 76) hx hb dX0_become_69 (by decide) ⟨by omega, by omega⟩ (fun c7 => ?_) (fun c7 => ?_)
    · refine lv_iload hx hb dX0_become_76 (lv_at hl 0 rfl) ?_
      refine lv_aload_n hx hb dX0_become_78 rfl (lv_at hl 1 rfl) ?_
      refine va_get (D := (dC, dI)) (ci := 0) (v := .int (iI (f_gsq 0))) (C := RX0) (T := TX0) (N := 6) hx hb hw inX0 hown hK hP 0 rfl rfl 4 (by decide) (hw _ mA_35) (fun _ h9 => h9) rfl dX0_become_79 ?_
      refine lv_aload_n hx hb dX0_become_82 rfl (lv_at hl 1 rfl) ?_
      refine va_get (D := (dC, dI)) (ci := 0) (v := .int (iI (f_gsq 0))) (C := RX0) (T := TX0) (N := 6) hx hb hw inX0 hown hK hP 0 rfl rfl 4 (by decide) (hw _ mA_35) (fun _ h9 => h9) rfl dX0_become_83 ?_
      refine ix_imul hx hb dX0_become_86 ?_
      refine ix_idiv hx hb dX0_become_87 (by decide) (by have := sq_mono hg9.1 hg9.2; have := sq_mono (a := 0) (Int.le_refl 0) hg9.1; omega) (by omega) (by have h1 : 1 ≤ (f_gsq 0) := (by omega); have := sq_mono (a := 1) (by omega) h1; omega) ?_
      refine va_put (D := (dC, dI)) (ci := 0) (v := .int (iI (Int.tdiv 0 ((f_gsq 0) * (f_gsq 0))))) (ty := .int) (C := RX0) (T := TX0) (N := 6) hx hb hw inX0 tyX0 tyX0_ok nmX0 hown hK hP hD hS 0 rfl rfl 5 (by decide) (hw _ mA_37) (fun _ h9 => h9) rfl (by decide +kernel) rfl rfl (Nat.le_of_ble_eq_true rfl) dX0_become_88 (fun H locs hP hD hS => ?_)
      have hP : va_P (dC, dI) vwCl [(q, .inr (0, [.int (iI tt), .int (iI a), .int (iI b), .int (iI k), .int (iI (f_gsq 0)), .int (iI (Int.tdiv 0 ((f_gsq 0) * (f_gsq 0))))]))] H := hP
      have hD : va_D A [(q, .inr (0, [.int (iI tt), .int (iI a), .int (iI b), .int (iI k), .int (iI (f_gsq 0)), .int (iI (Int.tdiv 0 ((f_gsq 0) * (f_gsq 0))))]))] := hD
      have e4 : f_gsq 0 = f_out a b k := by unfold f_out f_und; grind
      have e5 : Int.tdiv 0 ((f_gsq 0) * (f_gsq 0)) = f_ins a b k := by unfold f_ins; rw [← e4]; unfold f_und; grind
      have eW : ([.int (iI tt), .int (iI a), .int (iI b), .int (iI k), .int (iI (f_gsq 0)), .int (iI (Int.tdiv 0 ((f_gsq 0) * (f_gsq 0))))] : List Value) = fl (nf tt a b k) := by rw [show fl (nf tt a b k) = [.int (iI tt), .int (iI a), .int (iI b), .int (iI k), .int (iI (f_out a b k)), .int (iI (f_ins a b k))] from rfl, ← e5, ← e4]
      rw [eW] at hP hD
      have hP9 := hP.sub (ws' := [(q, .inr (0, fl (nf tt a b k)))]) [0] rfl
      have hD9 := hD.sub (ws' := [(q, .inr (0, fl (nf tt a b k)))]) [0] (by decide) rfl
      have hK9 := hK.sub (tys' := []) [] rfl
      exact W.vret hx hb hr (fun t ht hW => ⟨⟨(), rfl, trivial, by rw [ht]; exact hP9, va_K.moved hW.alike hK9, hD9⟩, hS.F ht⟩) hS.2.2 dX0_become_91
    · refine ix_iconst (n := 0) hx hb dX0_become_72 ?_
      refine lv_goto (tgt := 88) hx hb dX0_become_73 (by decide) ?_
      refine va_put (D := (dC, dI)) (ci := 0) (v := .int (iI 0)) (ty := .int) (C := RX0) (T := TX0) (N := 6) hx hb hw inX0 tyX0 tyX0_ok nmX0 hown hK hP hD hS 0 rfl rfl 5 (by decide) (hw _ mA_37) (fun _ h9 => h9) rfl (by decide +kernel) rfl rfl (Nat.le_of_ble_eq_true rfl) dX0_become_88 (fun H locs hP hD hS => ?_)
      have hP : va_P (dC, dI) vwCl [(q, .inr (0, [.int (iI tt), .int (iI a), .int (iI b), .int (iI k), .int (iI (f_gsq 0)), .int (iI 0)]))] H := hP
      have hD : va_D A [(q, .inr (0, [.int (iI tt), .int (iI a), .int (iI b), .int (iI k), .int (iI (f_gsq 0)), .int (iI 0)]))] := hD
      have e4 : f_gsq 0 = f_out a b k := by unfold f_out f_und; grind
      have e5 : 0 = f_ins a b k := by unfold f_ins; rw [← e4]; unfold f_und; grind
      have eW : ([.int (iI tt), .int (iI a), .int (iI b), .int (iI k), .int (iI (f_gsq 0)), .int (iI 0)] : List Value) = fl (nf tt a b k) := by rw [show fl (nf tt a b k) = [.int (iI tt), .int (iI a), .int (iI b), .int (iI k), .int (iI (f_out a b k)), .int (iI (f_ins a b k))] from rfl, ← e5, ← e4]
      rw [eW] at hP hD
      have hP9 := hP.sub (ws' := [(q, .inr (0, fl (nf tt a b k)))]) [0] rfl
      have hD9 := hD.sub (ws' := [(q, .inr (0, fl (nf tt a b k)))]) [0] (by decide) rfl
      have hK9 := hK.sub (tys' := []) [] rfl
      exact W.vret hx hb hr (fun t ht hW => ⟨⟨(), rfl, trivial, by rw [ht]; exact hP9, va_K.moved hW.alike hK9, hD9⟩, hS.F ht⟩) hS.2.2 dX0_become_91
