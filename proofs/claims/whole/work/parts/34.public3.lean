def f_fac (F : Int → Int) (w : Int) : Int := if w = 0 then (if F 1 = 0 then 1 else 2) else if w = 1 then F 0 else if w = 2 then F 1 else if w = 3 then F 2 else if w = 4 then F 3 else F 5
def f_above (F : Int → Int) (w : Int) : Int := if w = 0 then f_mid F else F 4
def f_ans (F : Int → Int) (w t : Int) : Int := if f_gcd (f_above F w) (f_below F) = 0 then 0 else Int.tdiv (if t = 0 then f_above F w else f_below F) (f_gcd (f_above F w) (f_below F))
theorem gcd_bd {a b : Int} (ha : -1002000 ≤ a ∧ a ≤ 1002000) (hb : -1002000 ≤ b ∧ b ≤ 1002000) : 0 ≤ f_gcd a b ∧ f_gcd a b ≤ 1002000 := by
  refine ⟨by unfold f_gcd; omega, ?_⟩
  by_cases h : b = 0
  · subst h
    unfold f_gcd
    rw [Int.gcd_zero_right]
    omega
  · have h1 := Int.natAbs_dvd_natAbs.mpr (gcd_dr a b)
    have h2 := Nat.le_of_dvd (by omega) h1
    omega
def f_flr (F : Int → Int) (up q : Int) : Int := (if up = 0 ∧ ¬ F 1 = 0 then f_mid F - q - 1 else f_mid F + q) / f_below F
def f_cmp (F G : Int → Int) (up ot : Int) : Int := f_ss (f_mid F * f_below G - f_mid G * f_below F) (if up = 0 then -(f_below G) else f_below G) (f_under F) (if ot = 0 then f_below F else -(f_below F)) (f_under G)
theorem ssq_in {v A : Int} (h : -A ≤ v ∧ v ≤ A) (hA : 0 ≤ A) : -(A * A) ≤ f_ssq v ∧ f_ssq v ≤ A * A := by
  have h1 := mul_in h h hA hA
  have e : -v * v = -(v * v) := Int.neg_mul _ _
  unfold f_ssq
  split
  · rw [e]; omega
  · exact h1
theorem sg_in (v : Int) : -1 ≤ f_sg v ∧ f_sg v ≤ 1 := by unfold f_sg; grind
theorem in_mono {v A B : Int} (h : -A ≤ v ∧ v ≤ A) (hB : A ≤ B) : -B ≤ v ∧ v ≤ B := ⟨by omega, by omega⟩
theorem sos_r {w a u b v : Int} (hw : -19200 ≤ w ∧ w ≤ 19200) (ha : -40 ≤ a ∧ a ≤ 40) (hu : -80000 ≤ u ∧ u ≤ 80000) (hb : -40 ≤ b ∧ b ≤ 40) (hv : -80000 ≤ v ∧ v ≤ 80000) :
    r64 (f_ssq a * u + f_ssq b * v) ∧ r64 (f_ssq w + f_sr a u b v * (a * a * u + b * b * v)) ∧ r64 (2 * f_sr a u b v * a * b) ∧ r64 (f_ssq (f_ssq w + f_sr a u b v * (a * a * u + b * b * v)) * 1 + f_ssq (2 * f_sr a u b v * a * b) * (u * v)) := by
  have sa := ssq_in ha (by decide)
  have sb := ssq_in hb (by decide)
  have s1 := mul_in sa hu (by decide) (by decide)
  have s2 := mul_in sb hv (by decide) (by decide)
  have sw := ssq_in hw (by decide)
  have qa := mul_in (mul_in ha ha (by decide) (by decide)) hu (by decide) (by decide)
  have qb := mul_in (mul_in hb hb (by decide) (by decide)) hv (by decide) (by decide)
  have hS : -256000000 ≤ a * a * u + b * b * v ∧ a * a * u + b * b * v ≤ 256000000 := by omega
  have hg : -1 ≤ f_sr a u b v ∧ f_sr a u b v ≤ 1 := sg_in _
  have hp := mul_in hg hS (by decide) (by decide)
  have hT : -624640000 ≤ f_ssq w + f_sr a u b v * (a * a * u + b * b * v) ∧ f_ssq w + f_sr a u b v * (a * a * u + b * b * v) ≤ 624640000 := by omega
  have h2 : -2 ≤ 2 * f_sr a u b v ∧ 2 * f_sr a u b v ≤ 2 := by omega
  have h3 := mul_in (mul_in h2 ha (by decide) (by decide)) hb (by decide) (by decide)
  have h4 := ssq_in hT (by decide)
  have h5 := ssq_in h3 (by decide)
  have h6 := mul_in h5 (mul_in hu hv (by decide) (by decide)) (by decide) (by decide)
  refine ⟨⟨by omega, by omega⟩, ⟨by omega, by omega⟩, ⟨by omega, by omega⟩, ⟨by omega, by omega⟩⟩
def f_rl (F : Int → Int) : Int := if F 1 = 0 then 1 else if 0 ≤ F 5 then 2 else 0
def f_sum (Fs : Int → Int → Int) : Nat → Int
  | 0 => 0
  | n + 1 => f_sum Fs n + f_rl (Fs n)
theorem f_sum_b (Fs : Int → Int → Int) : ∀ n : Nat, 0 ≤ f_sum Fs n ∧ f_sum Fs n ≤ 2 * n := by
  intro n
  induction n with
  | zero => exact ⟨Int.le_refl _, Int.le_refl _⟩
  | succ n ih => rw [f_sum]; unfold f_rl; grind
theorem f_sum_s (Fs : Int → Int → Int) {i z : Int} (h0 : 0 ≤ i) (hz : z = f_sum Fs i.toNat) {y : Int} (hy : y = f_rl (Fs i)) : z + y = f_sum Fs (i + 1).toNat := by
  have e : (i + 1).toNat = i.toNat + 1 := by omega
  have e2 : ((i.toNat : Nat) : Int) = i := by omega
  rw [e, f_sum, e2, hz, hy]
theorem q4_s {i : Int} (h0 : 0 ≤ i) (h4 : i < 4) (y0 y1 y2 y3 : Nat) : q4 y0 y1 y2 y3 i.toNat = some (ysel i y0 y1 y2 y3) := by
  rcases (show i = 0 ∨ i = 1 ∨ i = 2 ∨ i = 3 by omega) with rfl | rfl | rfl | rfl <;> rfl
set_option maxHeartbeats 4000000 in
set_option maxRecDepth 100000 in
theorem kX1_factor (l : Launch) (hlt : l.stackTraces = false) (dC : Nat → ClassId) (dI : Nat → Nat → Nat) (sz : Nat) (h n r d f y0 y1 y2 y3 : Nat) (cI cF : ClassId) (N R D : Int → Int) (cn fc sp : Int) (Fs : Int → Int → Int) (hci : CI N R D cn fc sp Fs) (k v : Int) (hk : r32 k) (hv : r32 v) : vx_Met l yX1_factor (.code yX1_factor cX1_factor 4 (some .int) :: wsA) ({ frames := 7, cells := 3, slots := 18, locals := 300 }) (va_Pc [.ref h, .int (iI k), .int (iI v)] (fun U => U.heap.size = sz ∧ va_P (dC, dI) vwCl (cw h n r d f cI cF N R D cn fc sp y0 y1 y2 y3 Fs) U.heap ∧ va_K (dC, dI) vwCl [(cI, .int), (cF, .object RX0)] U ∧ va_D (fun _ => True) (cw h n r d f cI cF N R D cn fc sp y0 y1 y2 y3 Fs) ∧ nb U ∧ zt (va_A (cw h n r d f cI cF N R D cn fc sp y0 y1 y2 y3 Fs) sz) U)) (va_Qi (fun r9 u => CIs N u ∧ (0 ≤ k ∧ k < u.2.2.2.1) ∧ (0 ≤ v ∧ v ≤ 5) ∧ r9 = iI (f_fac (u.2.2.2.2.2.2 k) v)) (fun (u : CS) t9 => va_P (dC, dI) vwCl (cwu h n r d f cI cF N u) t9.heap ∧ va_K (dC, dI) vwCl [(cI, .int), (cF, .object RX0)] t9 ∧ va_D (va_A (cw h n r d f cI cF N R D cn fc sp y0 y1 y2 y3 Fs) sz) (cwu h n r d f cI cF N u)) (va_A (cw h n r d f cI cF N R D cn fc sp y0 y1 y2 y3 Fs) sz)) (vx_X (fun u : CS => CIu N u) (fun E u t9 => ((E = EISE ∧ f_deg N < 0) ∨ (E = EIOB ∧ CIs N u ∧ ¬ (0 ≤ k ∧ k < u.2.2.2.1)) ∨ (E = EIAE ∧ CIs N u ∧ (0 ≤ k ∧ k < u.2.2.2.1) ∧ ¬ (0 ≤ v ∧ v ≤ 5))) ∧ va_P (dC, dI) vwCl (cwu h n r d f cI cF N u) t9.heap ∧ va_K (dC, dI) vwCl [(cI, .int), (cF, .object RX0)] t9 ∧ va_D (va_A (cw h n r d f cI cF N R D cn fc sp y0 y1 y2 y3 Fs) sz) (cwu h n r d f cI cF N u)) (va_A (cw h n r d f cI cF N R D cn fc sp y0 y1 y2 y3 Fs) sz)) 3 18 (va_A (cw h n r d f cI cF N R D cn fc sp y0 y1 y2 y3 Fs) sz) := by
  refine vx_ofW (cc := cX1_factor) (maxL := 4) (ret := (some .int)) (by decide) rfl ?_
  intro p e s m args below meth c s₁ B hml hout hv
  obtain ⟨rfl, hsz, hP, hK, hD0, hnb, hzt⟩ := hv
  have hx := B.exec
  have hb := B.bytes
  have hr := B.returns
  have hts := atoms_spec (ws := .code yX1_factor cX1_factor 4 (some .int) :: wsA) B.pre
  have hw : ∀ w ∈ wsA, w.before _ s = true := fun w h => hts w (List.mem_cons_of_mem _ h)
  have hown : s.vm.findClass RX1 = some m.cls := findClass_of_methodNamed B.named
  have hlocks := B.notSynchronized
  subst hsz
  have hD := hD0.self (sz := s.heap.size)
  generalize hAe : va_A (cw h n r d f cI cF N R D cn fc sp y0 y1 y2 y3 Fs) s.heap.size = A at hD hzt ⊢
  have hA : ∀ q : Nat, s.heap.size ≤ q → A q := fun q h => by rw [← hAe]; exact Or.inr h
  have hS : va_S A s.heap s.heap [] := va_S.rf
  have hP : va_P (dC, dI) vwCl (cw h n r d f cI cF N R D cn fc sp y0 y1 y2 y3 Fs) s.heap := hP
  have hl := lv_entry ([.ref h, .int (iI k), .int (iI v)]) (n := 4) (Nat.le_of_ble_eq_true rfl)
  rw [lg_entry_eq]
  generalize (lg_sl ([.ref h, .int (iI k), .int (iI v)]) ++ List.replicate (4 - (lg_sl ([.ref h, .int (iI k), .int (iI v)])).length) Slot.unset).toArray = ls at hl ⊢
  have hl : lv_has ls 4 [(0, .ref h), (1, .int (iI k)), (2, .int (iI v))] := hl
  refine lv_aload_n hx hb dX1_factor_0 rfl (lv_at hl 0 rfl) ?_
  have hFc := va_free (wc := (cw h n r d f cI cF N R D cn fc sp y0 y1 y2 y3 Fs)) hD hS hA [0, 1, 2, 3, 4, 5, 6, 7, 8] rfl
  refine vx_callv (vx_runV (As := []) (rest := []) ⟨hx, hb, hml, hown, hw⟩ (kX1_split l hlt dC dI _ h n r d f y0 y1 y2 y3 cI cF N R D cn fc sp Fs hci) (cwV 0 hw (gV mA_215 mA_217 mP_3 mA_1 mA_218) rfl rfl rfl (by decide +kernel) ⟨Nat.le_of_ble_eq_true rfl, Nat.le_of_ble_eq_true rfl⟩) ⟨fun a U g mk q => by obtain ⟨q0, q1, qP, qK, qD, qN, qZ⟩ := q; exact ⟨q0, q1, qP, va_K.moved (u := U) (U := U.calling g mk a) (Vm.Alike.refl U.vm) qK, qD, nb.same (u := U) rfl qN, zt.go (u := U) qZ (Vm.Alike.refl U.vm) (fun _ q => q) (fun _ _ _ => rfl)⟩, va_recv hK hP (ci := 1) (q0 := 0) rfl rfl, fun U hU hW => ⟨rfl, by rw [hU], by rw [hU]; exact hP, va_K.moved hW.alike hK, hD.weaken (fun _ _ _ _ => trivial), nb.warm hW hnb, zt2 hzt hS hU hW.alike hFc⟩⟩ rfl rfl hl.1 rfl (lv_room (Nat.le_of_ble_eq_true rfl)) dX1_factor_1 ⟨Nat.le_of_ble_eq_true rfl, Nat.le_of_ble_eq_true rfl⟩) hS (fun q _ h => hFc q h) hFc (fun q _ z => z.elim) (fun E9 ce q9 u9 t9 H1 locs ht hvm hpx hBX hz1 hk1 hS hce hcv hcl => ?_) (fun u1 t9 H1 locs ht hvm hq2 hB hz1 hk1 hS => ?_)
  · exact vx_out (fun x h => (hout x h).elim) hlocks hce hcv hcl (fun t2 ht2 hvm2 => ⟨(R, D, cn, fc, sp, (y0, y1, y2, y3), Fs), hci, ⟨Or.inl ⟨hBX, hpx⟩, by rw [ht2]; exact pkeep hP (fun q z => hk1 q z (fun f => f)), va_K.moved hvm2 hK, hD⟩, hS.F ht2⟩) hS.2.2 (Nat.le_of_ble_eq_true rfl) (Nat.le_of_ble_eq_true rfl)
  · obtain ⟨hP1, hK1, hD1⟩ := hB
    rw [ht] at hP1
    obtain ⟨hP, hD⟩ := va_join (wr := []) (w1 := (cw h n r d f cI cF N u1.1 u1.2.1 (f_cont N) u1.2.2.1 1 u1.2.2.2.1.1 u1.2.2.2.1.2.1 u1.2.2.2.1.2.2.1 u1.2.2.2.1.2.2.2 u1.2.2.2.2)) hP hD [0, 1, 2, 3, 4, 5, 6, 7, 8] [] rfl rfl (by decide) (by decide) hk1 hFc hP1 hD1
    generalize H1 = H at hP hS ⊢
    have hP : va_P (dC, dI) vwCl (cw h n r d f cI cF N u1.1 u1.2.1 (f_cont N) u1.2.2.1 1 u1.2.2.2.1.1 u1.2.2.2.1.2.1 u1.2.2.2.1.2.2.1 u1.2.2.2.1.2.2.2 u1.2.2.2.2) H := hP
    have hD : va_D A (cw h n r d f cI cF N u1.1 u1.2.1 (f_cont N) u1.2.2.1 1 u1.2.2.2.1.1 u1.2.2.2.1.2.1 u1.2.2.2.1.2.2.1 u1.2.2.2.1.2.2.2 u1.2.2.2.2) := hD
    have hci := hq2.1
    have hdeg := hq2.2
    have hdc := deg_c N
    refine lv_aload_n hx hb dX1_factor_4 rfl (lv_at hl 0 rfl) ?_
    refine lv_iload_n hx hb dX1_factor_5 rfl (lv_at hl 1 rfl) ?_
    have hPn := hP.sub (ws' := [(h, .inr (1, [.ref n, .ref r, .ref d, .ref f, .int (iI u1.2.2.1), .int (iI (f_cont N)), .int (iI 1)])), (f, .inl (cF, 4, .inr (.inr (.inr (.inr (q4 u1.2.2.2.1.1 u1.2.2.2.1.2.1 u1.2.2.2.1.2.2.1 u1.2.2.2.1.2.2.2))))))]) [0, 4] rfl
    have hKn := hK.sub (tys' := [(cF, .object RX0)]) [1] rfl
    have hfc9 : 0 ≤ u1.2.2.1 ∧ u1.2.2.1 ≤ 4 := by rcases hci.2.2.2.2.2 with q | q; exact absurd q (by decide); exact ⟨q.2.2.2.2.1, q.2.2.2.2.2⟩
    refine xr_callr (vx_runV (As := [.int (iI k)]) (rest := []) ⟨hx, hb, hml, hown, hw⟩ (kX1_numbered l hlt dC dI A h n r d f u1.2.2.2.1.1 u1.2.2.2.1.2.1 u1.2.2.2.1.2.2.1 u1.2.2.2.1.2.2.2 cF (f_cont N) u1.2.2.1 1 k (by omega) hfc9) (cwV 1 hw (gV mA_295 mA_297 mP_15 mA_1 mA_298) rfl rfl rfl (by decide +kernel) ⟨Nat.le_of_ble_eq_true rfl, Nat.le_of_ble_eq_true rfl⟩) ⟨fun a U g mk q => by obtain ⟨q0, qP, qK, qN, qZ⟩ := q; exact ⟨q0, qP, va_K.moved (u := U) (U := U.calling g mk a) (Vm.Alike.refl U.vm) qK, nb.same (u := U) rfl qN, zt.go (u := U) qZ (Vm.Alike.refl U.vm) (fun _ q => q) (fun _ _ _ => rfl)⟩, va_recv hKn hPn (ci := 1) (q0 := 0) rfl rfl, fun U hU hW => ⟨rfl, by rw [hU]; exact hPn, va_K.moved hW.alike hKn, nb.warm hW hnb, zt1 hzt hS hU hW.alike⟩⟩ rfl rfl hl.1 rfl (lv_room (Nat.le_of_ble_eq_true rfl)) dX1_factor_6 ⟨Nat.le_of_ble_eq_true rfl, Nat.le_of_ble_eq_true rfl⟩) hS (fun q _ z => z.elim) (fun q z => z.elim) (fun q _ z => z.elim) (fun E9 ce q9 u9 t9 H1 locs ht hvm hpx hBX hz1 hk1 hS hce hcv hcl => ?_) (fun u9 ra0 t9 H1 locs ht hvm hqra0 hra0 hz1 hk1 hS => ?_)
    · exact vx_out (fun x h => (hout x h).elim) hlocks hce hcv hcl (fun t2 ht2 hvm2 => ⟨(u1.1, u1.2.1, f_cont N, u1.2.2.1, 1, (u1.2.2.2.1.1, u1.2.2.2.1.2.1, u1.2.2.2.1.2.2.1, u1.2.2.2.1.2.2.2), u1.2.2.2.2), hci, ⟨Or.inr (Or.inl ⟨hBX, ⟨hci, hdeg, rfl, rfl⟩, hpx⟩), by rw [ht2]; exact pkeep hP (fun q z => hk1 q z (fun f => f)), va_K.moved hvm2 hK, hD⟩, hS.F ht2⟩) hS.2.2 (Nat.le_of_ble_eq_true rfl) (Nat.le_of_ble_eq_true rfl)
    · have hP := pkeep hP (fun q z => hk1 q z (fun f => f))
      generalize H1 = H at hP  hS ⊢
      have hV0 : va_P (dC, dI) vwCl [(ra0, .inr (0, fl (u1.2.2.2.2 k)))] H := by rw [hra0]; exact sel_P hP hqra0.1 (by omega)
      obtain ⟨hB0, hBm0, hBb0, hBu0⟩ := hci.2.2.2.2.1 k
      refine lv_astore_n (lv' := [(3, .ref ra0), (0, .ref h), (1, .int (iI k)), (2, .int (iI v))]) hx hb dX1_factor_9 rfl hl (by decide) rfl (fun ls hl => ?_)
      refine lv_iload_n hx hb dX1_factor_10 rfl (lv_at hl 3 rfl) ?_
      by_cases ho : v < 0 ∨ 5 < v
      · refine lv_tableOut (tgt := 86) hx hb dX1_factor_11 (by rw [iI_toInt (by omega)]; exact ho) (by decide) ?_
        exact thIAE (is := 91) hx hb hlt hown hw hnb (List.mem_of_getElem? (i := 5) rfl) hzt hS (by rw [hml]; exact hl.1) dX1_factor_86 dX1_factor_89 dX1_factor_90 dX1_factor_92 dX1_factor_95 hout (show 6 ≤ _ from Nat.le_of_ble_eq_true rfl) (Nat.le_of_ble_eq_true rfl) (Nat.le_of_ble_eq_true rfl) (Nat.le_of_ble_eq_true rfl) hlocks (fun t2 hvm2 t3 t4 => ⟨(u1.1, u1.2.1, f_cont N, u1.2.2.1, 1, (u1.2.2.2.1.1, u1.2.2.2.1.2.1, u1.2.2.2.1.2.2.1, u1.2.2.2.1.2.2.2), u1.2.2.2.2), hci, ⟨Or.inr (Or.inr ⟨rfl, ⟨hci, hdeg, rfl, rfl⟩, hqra0, by omega⟩), pkeep hP t4, va_K.moved hvm2 hK, hD⟩, vFx hS t3 t4⟩) hS.2.2 (Nat.le_of_ble_eq_true rfl) (Nat.le_of_ble_eq_true rfl)
      · rcases (show v = 0 ∨ v = 1 ∨ v = 2 ∨ v = 3 ∨ v = 4 ∨ v = 5 by omega) with rfl | rfl | rfl | rfl | rfl | rfl
        · refine lv_tableIn (tgt := 48) hx hb dX1_factor_11 (by decide) (by decide) rfl (by decide) ?_
          refine lv_aload_n hx hb dX1_factor_48 rfl (lv_at hl 0 rfl) ?_
          have hPc := hV0.sub (ws' := [(ra0, .inr (0, [.int (iI ((u1.2.2.2.2 k) 0)), .int (iI ((u1.2.2.2.2 k) 1)), .int (iI ((u1.2.2.2.2 k) 2)), .int (iI ((u1.2.2.2.2 k) 3)), .int (iI ((u1.2.2.2.2 k) 4)), .int (iI ((u1.2.2.2.2 k) 5))]))]) [0] rfl
          have hKc := hK.sub (tys' := []) [] rfl
          refine vp_callSi (va_Run.run (va_runVN (As := []) (rest := []) ⟨hx, hb, hml, hown, hw⟩ (kX0_isLinear l dC dI ra0 (u1.2.2.2.2 k) hB0) ⟨va_cnB 0 hw (wsA_sub mA_275) rfl rfl rfl (hnb.1 _ mN_300) (hw _ mA_2) (by decide +kernel) ⟨Nat.le_of_ble_eq_true rfl, Nat.le_of_ble_eq_true rfl⟩, hw _ mA_274, hw _ mP_11⟩ ⟨fun a U g mk q => by obtain ⟨q0, qP, qK⟩ := q; exact ⟨q0, qP, va_K.moved (u := U) (U := U.calling g mk a) (Vm.Alike.refl U.vm) qK⟩, va_recv hKc hPc (ci := 0) (q0 := 0) rfl rfl, fun U hU hW => ⟨rfl, by rw [hU]; exact hPc, va_K.moved hW.alike hKc⟩⟩ rfl rfl hl.1 rfl (lv_room (Nat.le_of_ble_eq_true rfl)) dX1_factor_49 ⟨Nat.le_of_ble_eq_true rfl, Nat.le_of_ble_eq_true rfl⟩)) (fun r3 h4 => ?_)
          subst h4
          have hln0 : f_lin (u1.2.2.2.2 k) = if (u1.2.2.2.2 k) 1 = 0 then 1 else 0 := rfl
          refine ix_if_eq (tgt := 59) hx hb dX1_factor_52 (by decide) (lin_r _) (fun c5 => ?_) (fun c5 => ?_)
          · refine ix_iconst (n := 2) hx hb dX1_factor_59 ?_
            have hP9 := hP.sub (ws' := (cwu h n r d f cI cF N (u1.1, u1.2.1, f_cont N, u1.2.2.1, 1, (u1.2.2.2.1.1, u1.2.2.2.1.2.1, u1.2.2.2.1.2.2.1, u1.2.2.2.1.2.2.2), u1.2.2.2.2))) [0, 1, 2, 3, 4, 5, 6, 7, 8] rfl
            have hD9 := hD.sub (ws' := (cwu h n r d f cI cF N (u1.1, u1.2.1, f_cont N, u1.2.2.1, 1, (u1.2.2.2.1.1, u1.2.2.2.1.2.1, u1.2.2.2.1.2.2.1, u1.2.2.2.1.2.2.2), u1.2.2.2.2))) [0, 1, 2, 3, 4, 5, 6, 7, 8] (by decide) rfl
            have hK9 := hK.sub (tys' := [(cI, .int), (cF, .object RX0)]) [0, 1] rfl
            refine vx_ret (W.widen (k := 3) (n := 18) (Nat.le_of_ble_eq_true rfl) (Nat.le_of_ble_eq_true rfl) ?_)
            exact W.iret (v := iI 2) hx hb hr (fun t ht hW => ⟨⟨iI 2, (u1.1, u1.2.1, f_cont N, u1.2.2.1, 1, (u1.2.2.2.1.1, u1.2.2.2.1.2.1, u1.2.2.2.1.2.2.1, u1.2.2.2.1.2.2.2), u1.2.2.2.2), rfl, ⟨⟨hci, hdeg, rfl, rfl⟩, hqra0, ⟨by decide, by decide⟩, congrArg iI (by unfold f_fac; grind)⟩, by rw [ht]; exact hP9, va_K.moved hW.alike hK9, hD9⟩, hS.F ht⟩) hS.2.2 dX1_factor_60
          · refine ix_iconst (n := 1) hx hb dX1_factor_55 ?_
            refine lv_goto (tgt := 60) hx hb dX1_factor_56 (by decide) ?_
            have hP9 := hP.sub (ws' := (cwu h n r d f cI cF N (u1.1, u1.2.1, f_cont N, u1.2.2.1, 1, (u1.2.2.2.1.1, u1.2.2.2.1.2.1, u1.2.2.2.1.2.2.1, u1.2.2.2.1.2.2.2), u1.2.2.2.2))) [0, 1, 2, 3, 4, 5, 6, 7, 8] rfl
            have hD9 := hD.sub (ws' := (cwu h n r d f cI cF N (u1.1, u1.2.1, f_cont N, u1.2.2.1, 1, (u1.2.2.2.1.1, u1.2.2.2.1.2.1, u1.2.2.2.1.2.2.1, u1.2.2.2.1.2.2.2), u1.2.2.2.2))) [0, 1, 2, 3, 4, 5, 6, 7, 8] (by decide) rfl
            have hK9 := hK.sub (tys' := [(cI, .int), (cF, .object RX0)]) [0, 1] rfl
            refine vx_ret (W.widen (k := 3) (n := 18) (Nat.le_of_ble_eq_true rfl) (Nat.le_of_ble_eq_true rfl) ?_)
            exact W.iret (v := iI 1) hx hb hr (fun t ht hW => ⟨⟨iI 1, (u1.1, u1.2.1, f_cont N, u1.2.2.1, 1, (u1.2.2.2.1.1, u1.2.2.2.1.2.1, u1.2.2.2.1.2.2.1, u1.2.2.2.1.2.2.2), u1.2.2.2.2), rfl, ⟨⟨hci, hdeg, rfl, rfl⟩, hqra0, ⟨by decide, by decide⟩, congrArg iI (by unfold f_fac; grind)⟩, by rw [ht]; exact hP9, va_K.moved hW.alike hK9, hD9⟩, hS.F ht⟩) hS.2.2 dX1_factor_60
        · refine lv_tableIn (tgt := 61) hx hb dX1_factor_11 (by decide) (by decide) rfl (by decide) ?_
          refine lv_aload_n hx hb dX1_factor_61 rfl (lv_at hl 0 rfl) ?_
          refine va_getN (D := (dC, dI)) (ci := 0) (v := .int (iI ((u1.2.2.2.2 k) 0))) (C := RX0) (T := TX0) (N := 6) hx hb hw inX0 hown hK hV0 0 rfl rfl 0 (by decide) (hnb.use mN_28) (fun _ h9 => h9) rfl dX1_factor_62 ?_
          have hP9 := hP.sub (ws' := (cwu h n r d f cI cF N (u1.1, u1.2.1, f_cont N, u1.2.2.1, 1, (u1.2.2.2.1.1, u1.2.2.2.1.2.1, u1.2.2.2.1.2.2.1, u1.2.2.2.1.2.2.2), u1.2.2.2.2))) [0, 1, 2, 3, 4, 5, 6, 7, 8] rfl
          have hD9 := hD.sub (ws' := (cwu h n r d f cI cF N (u1.1, u1.2.1, f_cont N, u1.2.2.1, 1, (u1.2.2.2.1.1, u1.2.2.2.1.2.1, u1.2.2.2.1.2.2.1, u1.2.2.2.1.2.2.2), u1.2.2.2.2))) [0, 1, 2, 3, 4, 5, 6, 7, 8] (by decide) rfl
          have hK9 := hK.sub (tys' := [(cI, .int), (cF, .object RX0)]) [0, 1] rfl
          refine vx_ret (W.widen (k := 3) (n := 18) (Nat.le_of_ble_eq_true rfl) (Nat.le_of_ble_eq_true rfl) ?_)
          exact W.iret (v := iI ((u1.2.2.2.2 k) 0)) hx hb hr (fun t ht hW => ⟨⟨iI ((u1.2.2.2.2 k) 0), (u1.1, u1.2.1, f_cont N, u1.2.2.1, 1, (u1.2.2.2.1.1, u1.2.2.2.1.2.1, u1.2.2.2.1.2.2.1, u1.2.2.2.1.2.2.2), u1.2.2.2.2), rfl, ⟨⟨hci, hdeg, rfl, rfl⟩, hqra0, ⟨by decide, by decide⟩, congrArg iI rfl⟩, by rw [ht]; exact hP9, va_K.moved hW.alike hK9, hD9⟩, hS.F ht⟩) hS.2.2 dX1_factor_65
        · refine lv_tableIn (tgt := 66) hx hb dX1_factor_11 (by decide) (by decide) rfl (by decide) ?_
          refine lv_aload_n hx hb dX1_factor_66 rfl (lv_at hl 0 rfl) ?_
          refine va_getN (D := (dC, dI)) (ci := 0) (v := .int (iI ((u1.2.2.2.2 k) 1))) (C := RX0) (T := TX0) (N := 6) hx hb hw inX0 hown hK hV0 0 rfl rfl 1 (by decide) (hnb.use mN_30) (fun _ h9 => h9) rfl dX1_factor_67 ?_
          have hP9 := hP.sub (ws' := (cwu h n r d f cI cF N (u1.1, u1.2.1, f_cont N, u1.2.2.1, 1, (u1.2.2.2.1.1, u1.2.2.2.1.2.1, u1.2.2.2.1.2.2.1, u1.2.2.2.1.2.2.2), u1.2.2.2.2))) [0, 1, 2, 3, 4, 5, 6, 7, 8] rfl
          have hD9 := hD.sub (ws' := (cwu h n r d f cI cF N (u1.1, u1.2.1, f_cont N, u1.2.2.1, 1, (u1.2.2.2.1.1, u1.2.2.2.1.2.1, u1.2.2.2.1.2.2.1, u1.2.2.2.1.2.2.2), u1.2.2.2.2))) [0, 1, 2, 3, 4, 5, 6, 7, 8] (by decide) rfl
          have hK9 := hK.sub (tys' := [(cI, .int), (cF, .object RX0)]) [0, 1] rfl
          refine vx_ret (W.widen (k := 3) (n := 18) (Nat.le_of_ble_eq_true rfl) (Nat.le_of_ble_eq_true rfl) ?_)
          exact W.iret (v := iI ((u1.2.2.2.2 k) 1)) hx hb hr (fun t ht hW => ⟨⟨iI ((u1.2.2.2.2 k) 1), (u1.1, u1.2.1, f_cont N, u1.2.2.1, 1, (u1.2.2.2.1.1, u1.2.2.2.1.2.1, u1.2.2.2.1.2.2.1, u1.2.2.2.1.2.2.2), u1.2.2.2.2), rfl, ⟨⟨hci, hdeg, rfl, rfl⟩, hqra0, ⟨by decide, by decide⟩, congrArg iI rfl⟩, by rw [ht]; exact hP9, va_K.moved hW.alike hK9, hD9⟩, hS.F ht⟩) hS.2.2 dX1_factor_70
        · refine lv_tableIn (tgt := 71) hx hb dX1_factor_11 (by decide) (by decide) rfl (by decide) ?_
          refine lv_aload_n hx hb dX1_factor_71 rfl (lv_at hl 0 rfl) ?_
          refine va_getN (D := (dC, dI)) (ci := 0) (v := .int (iI ((u1.2.2.2.2 k) 2))) (C := RX0) (T := TX0) (N := 6) hx hb hw inX0 hown hK hV0 0 rfl rfl 2 (by decide) (hnb.use mN_32) (fun _ h9 => h9) rfl dX1_factor_72 ?_
          have hP9 := hP.sub (ws' := (cwu h n r d f cI cF N (u1.1, u1.2.1, f_cont N, u1.2.2.1, 1, (u1.2.2.2.1.1, u1.2.2.2.1.2.1, u1.2.2.2.1.2.2.1, u1.2.2.2.1.2.2.2), u1.2.2.2.2))) [0, 1, 2, 3, 4, 5, 6, 7, 8] rfl
          have hD9 := hD.sub (ws' := (cwu h n r d f cI cF N (u1.1, u1.2.1, f_cont N, u1.2.2.1, 1, (u1.2.2.2.1.1, u1.2.2.2.1.2.1, u1.2.2.2.1.2.2.1, u1.2.2.2.1.2.2.2), u1.2.2.2.2))) [0, 1, 2, 3, 4, 5, 6, 7, 8] (by decide) rfl
          have hK9 := hK.sub (tys' := [(cI, .int), (cF, .object RX0)]) [0, 1] rfl
          refine vx_ret (W.widen (k := 3) (n := 18) (Nat.le_of_ble_eq_true rfl) (Nat.le_of_ble_eq_true rfl) ?_)
          exact W.iret (v := iI ((u1.2.2.2.2 k) 2)) hx hb hr (fun t ht hW => ⟨⟨iI ((u1.2.2.2.2 k) 2), (u1.1, u1.2.1, f_cont N, u1.2.2.1, 1, (u1.2.2.2.1.1, u1.2.2.2.1.2.1, u1.2.2.2.1.2.2.1, u1.2.2.2.1.2.2.2), u1.2.2.2.2), rfl, ⟨⟨hci, hdeg, rfl, rfl⟩, hqra0, ⟨by decide, by decide⟩, congrArg iI rfl⟩, by rw [ht]; exact hP9, va_K.moved hW.alike hK9, hD9⟩, hS.F ht⟩) hS.2.2 dX1_factor_75
        · refine lv_tableIn (tgt := 76) hx hb dX1_factor_11 (by decide) (by decide) rfl (by decide) ?_
          refine lv_aload_n hx hb dX1_factor_76 rfl (lv_at hl 0 rfl) ?_
          refine va_getN (D := (dC, dI)) (ci := 0) (v := .int (iI ((u1.2.2.2.2 k) 3))) (C := RX0) (T := TX0) (N := 6) hx hb hw inX0 hown hK hV0 0 rfl rfl 3 (by decide) (hnb.use mN_34) (fun _ h9 => h9) rfl dX1_factor_77 ?_
          have hP9 := hP.sub (ws' := (cwu h n r d f cI cF N (u1.1, u1.2.1, f_cont N, u1.2.2.1, 1, (u1.2.2.2.1.1, u1.2.2.2.1.2.1, u1.2.2.2.1.2.2.1, u1.2.2.2.1.2.2.2), u1.2.2.2.2))) [0, 1, 2, 3, 4, 5, 6, 7, 8] rfl
          have hD9 := hD.sub (ws' := (cwu h n r d f cI cF N (u1.1, u1.2.1, f_cont N, u1.2.2.1, 1, (u1.2.2.2.1.1, u1.2.2.2.1.2.1, u1.2.2.2.1.2.2.1, u1.2.2.2.1.2.2.2), u1.2.2.2.2))) [0, 1, 2, 3, 4, 5, 6, 7, 8] (by decide) rfl
          have hK9 := hK.sub (tys' := [(cI, .int), (cF, .object RX0)]) [0, 1] rfl
          refine vx_ret (W.widen (k := 3) (n := 18) (Nat.le_of_ble_eq_true rfl) (Nat.le_of_ble_eq_true rfl) ?_)
          exact W.iret (v := iI ((u1.2.2.2.2 k) 3)) hx hb hr (fun t ht hW => ⟨⟨iI ((u1.2.2.2.2 k) 3), (u1.1, u1.2.1, f_cont N, u1.2.2.1, 1, (u1.2.2.2.1.1, u1.2.2.2.1.2.1, u1.2.2.2.1.2.2.1, u1.2.2.2.1.2.2.2), u1.2.2.2.2), rfl, ⟨⟨hci, hdeg, rfl, rfl⟩, hqra0, ⟨by decide, by decide⟩, congrArg iI rfl⟩, by rw [ht]; exact hP9, va_K.moved hW.alike hK9, hD9⟩, hS.F ht⟩) hS.2.2 dX1_factor_80
        · refine lv_tableIn (tgt := 81) hx hb dX1_factor_11 (by decide) (by decide) rfl (by decide) ?_
          refine lv_aload_n hx hb dX1_factor_81 rfl (lv_at hl 0 rfl) ?_
          refine va_getN (D := (dC, dI)) (ci := 0) (v := .int (iI ((u1.2.2.2.2 k) 5))) (C := RX0) (T := TX0) (N := 6) hx hb hw inX0 hown hK hV0 0 rfl rfl 5 (by decide) (hnb.use mN_38) (fun _ h9 => h9) rfl dX1_factor_82 ?_
          have hP9 := hP.sub (ws' := (cwu h n r d f cI cF N (u1.1, u1.2.1, f_cont N, u1.2.2.1, 1, (u1.2.2.2.1.1, u1.2.2.2.1.2.1, u1.2.2.2.1.2.2.1, u1.2.2.2.1.2.2.2), u1.2.2.2.2))) [0, 1, 2, 3, 4, 5, 6, 7, 8] rfl
          have hD9 := hD.sub (ws' := (cwu h n r d f cI cF N (u1.1, u1.2.1, f_cont N, u1.2.2.1, 1, (u1.2.2.2.1.1, u1.2.2.2.1.2.1, u1.2.2.2.1.2.2.1, u1.2.2.2.1.2.2.2), u1.2.2.2.2))) [0, 1, 2, 3, 4, 5, 6, 7, 8] (by decide) rfl
          have hK9 := hK.sub (tys' := [(cI, .int), (cF, .object RX0)]) [0, 1] rfl
          refine vx_ret (W.widen (k := 3) (n := 18) (Nat.le_of_ble_eq_true rfl) (Nat.le_of_ble_eq_true rfl) ?_)
          exact W.iret (v := iI ((u1.2.2.2.2 k) 5)) hx hb hr (fun t ht hW => ⟨⟨iI ((u1.2.2.2.2 k) 5), (u1.1, u1.2.1, f_cont N, u1.2.2.1, 1, (u1.2.2.2.1.1, u1.2.2.2.1.2.1, u1.2.2.2.1.2.2.1, u1.2.2.2.1.2.2.2), u1.2.2.2.2), rfl, ⟨⟨hci, hdeg, rfl, rfl⟩, hqra0, ⟨by decide, by decide⟩, congrArg iI rfl⟩, by rw [ht]; exact hP9, va_K.moved hW.alike hK9, hD9⟩, hS.F ht⟩) hS.2.2 dX1_factor_85
set_option maxHeartbeats 4000000 in
set_option maxRecDepth 100000 in
theorem kX1_answer (l : Launch) (hlt : l.stackTraces = false) (dC : Nat → ClassId) (dI : Nat → Nat → Nat) (sz : Nat) (h n r d f y0 y1 y2 y3 : Nat) (cI cF : ClassId) (N R D : Int → Int) (cn fc sp : Int) (Fs : Int → Int → Int) (hci : CI N R D cn fc sp Fs) (k w t : Int) (hk : r32 k) (hw9 : r32 w) (ht9 : r32 t) : vx_Met l yX1_answer (.code yX1_answer cX1_answer 8 (some .int) :: wsA) ({ frames := 7, cells := 3, slots := 18, locals := 320 }) (va_Pc [.ref h, .int (iI k), .int (iI w), .int (iI t)] (fun U => U.heap.size = sz ∧ va_P (dC, dI) vwCl (cw h n r d f cI cF N R D cn fc sp y0 y1 y2 y3 Fs) U.heap ∧ va_K (dC, dI) vwCl [(cI, .int), (cF, .object RX0)] U ∧ va_D (fun _ => True) (cw h n r d f cI cF N R D cn fc sp y0 y1 y2 y3 Fs) ∧ nb U ∧ zt (va_A (cw h n r d f cI cF N R D cn fc sp y0 y1 y2 y3 Fs) sz) U)) (va_Qi (fun r9 u => CIs N u ∧ (0 ≤ k ∧ k < u.2.2.2.1) ∧ (0 ≤ w ∧ w ≤ 1) ∧ (0 ≤ t ∧ t ≤ 1) ∧ r9 = iI (f_ans (u.2.2.2.2.2.2 k) w t)) (fun (u : CS) t9 => va_P (dC, dI) vwCl (cwu h n r d f cI cF N u) t9.heap ∧ va_K (dC, dI) vwCl [(cI, .int), (cF, .object RX0)] t9 ∧ va_D (va_A (cw h n r d f cI cF N R D cn fc sp y0 y1 y2 y3 Fs) sz) (cwu h n r d f cI cF N u)) (va_A (cw h n r d f cI cF N R D cn fc sp y0 y1 y2 y3 Fs) sz)) (vx_X (fun u : CS => CIu N u) (fun E u t9 => ((E = EISE ∧ f_deg N < 0) ∨ (E = EIOB ∧ CIs N u ∧ ¬ (0 ≤ k ∧ k < u.2.2.2.1)) ∨ (E = EIAE ∧ CIs N u ∧ (0 ≤ k ∧ k < u.2.2.2.1) ∧ ¬ ((0 ≤ w ∧ w ≤ 1) ∧ (0 ≤ t ∧ t ≤ 1)))) ∧ va_P (dC, dI) vwCl (cwu h n r d f cI cF N u) t9.heap ∧ va_K (dC, dI) vwCl [(cI, .int), (cF, .object RX0)] t9 ∧ va_D (va_A (cw h n r d f cI cF N R D cn fc sp y0 y1 y2 y3 Fs) sz) (cwu h n r d f cI cF N u)) (va_A (cw h n r d f cI cF N R D cn fc sp y0 y1 y2 y3 Fs) sz)) 3 18 (va_A (cw h n r d f cI cF N R D cn fc sp y0 y1 y2 y3 Fs) sz) := by
  refine vx_ofW (cc := cX1_answer) (maxL := 8) (ret := (some .int)) (by decide) rfl ?_
  intro p e s m args below meth c s₁ B hml hout hv
  obtain ⟨rfl, hsz, hP, hK, hD0, hnb, hzt⟩ := hv
  have hx := B.exec
  have hb := B.bytes
  have hr := B.returns
  have hts := atoms_spec (ws := .code yX1_answer cX1_answer 8 (some .int) :: wsA) B.pre
  have hw : ∀ w ∈ wsA, w.before _ s = true := fun w h => hts w (List.mem_cons_of_mem _ h)
  have hown : s.vm.findClass RX1 = some m.cls := findClass_of_methodNamed B.named
  have hlocks := B.notSynchronized
  subst hsz
  have hD := hD0.self (sz := s.heap.size)
  generalize hAe : va_A (cw h n r d f cI cF N R D cn fc sp y0 y1 y2 y3 Fs) s.heap.size = A at hD hzt ⊢
  have hA : ∀ q : Nat, s.heap.size ≤ q → A q := fun q h => by rw [← hAe]; exact Or.inr h
  have hS : va_S A s.heap s.heap [] := va_S.rf
  have hP : va_P (dC, dI) vwCl (cw h n r d f cI cF N R D cn fc sp y0 y1 y2 y3 Fs) s.heap := hP
  have hl := lv_entry ([.ref h, .int (iI k), .int (iI w), .int (iI t)]) (n := 8) (Nat.le_of_ble_eq_true rfl)
  rw [lg_entry_eq]
  generalize (lg_sl ([.ref h, .int (iI k), .int (iI w), .int (iI t)]) ++ List.replicate (8 - (lg_sl ([.ref h, .int (iI k), .int (iI w), .int (iI t)])).length) Slot.unset).toArray = ls at hl ⊢
  have hl : lv_has ls 8 [(0, .ref h), (1, .int (iI k)), (2, .int (iI w)), (3, .int (iI t))] := hl
  refine lv_aload_n hx hb dX1_answer_0 rfl (lv_at hl 0 rfl) ?_
  have hFc := va_free (wc := (cw h n r d f cI cF N R D cn fc sp y0 y1 y2 y3 Fs)) hD hS hA [0, 1, 2, 3, 4, 5, 6, 7, 8] rfl
  refine vx_callv (vx_runV (As := []) (rest := []) ⟨hx, hb, hml, hown, hw⟩ (kX1_split l hlt dC dI _ h n r d f y0 y1 y2 y3 cI cF N R D cn fc sp Fs hci) (cwV 0 hw (gV mA_215 mA_217 mP_3 mA_1 mA_218) rfl rfl rfl (by decide +kernel) ⟨Nat.le_of_ble_eq_true rfl, Nat.le_of_ble_eq_true rfl⟩) ⟨fun a U g mk q => by obtain ⟨q0, q1, qP, qK, qD, qN, qZ⟩ := q; exact ⟨q0, q1, qP, va_K.moved (u := U) (U := U.calling g mk a) (Vm.Alike.refl U.vm) qK, qD, nb.same (u := U) rfl qN, zt.go (u := U) qZ (Vm.Alike.refl U.vm) (fun _ q => q) (fun _ _ _ => rfl)⟩, va_recv hK hP (ci := 1) (q0 := 0) rfl rfl, fun U hU hW => ⟨rfl, by rw [hU], by rw [hU]; exact hP, va_K.moved hW.alike hK, hD.weaken (fun _ _ _ _ => trivial), nb.warm hW hnb, zt2 hzt hS hU hW.alike hFc⟩⟩ rfl rfl hl.1 rfl (lv_room (Nat.le_of_ble_eq_true rfl)) dX1_answer_1 ⟨Nat.le_of_ble_eq_true rfl, Nat.le_of_ble_eq_true rfl⟩) hS (fun q _ h => hFc q h) hFc (fun q _ z => z.elim) (fun E9 ce q9 u9 t9 H1 locs ht hvm hpx hBX hz1 hk1 hS hce hcv hcl => ?_) (fun u1 t9 H1 locs ht hvm hq2 hB hz1 hk1 hS => ?_)
  · exact vx_out (fun x h => (hout x h).elim) hlocks hce hcv hcl (fun t2 ht2 hvm2 => ⟨(R, D, cn, fc, sp, (y0, y1, y2, y3), Fs), hci, ⟨Or.inl ⟨hBX, hpx⟩, by rw [ht2]; exact pkeep hP (fun q z => hk1 q z (fun f => f)), va_K.moved hvm2 hK, hD⟩, hS.F ht2⟩) hS.2.2 (Nat.le_of_ble_eq_true rfl) (Nat.le_of_ble_eq_true rfl)
  · obtain ⟨hP1, hK1, hD1⟩ := hB
    rw [ht] at hP1
    obtain ⟨hP, hD⟩ := va_join (wr := []) (w1 := (cw h n r d f cI cF N u1.1 u1.2.1 (f_cont N) u1.2.2.1 1 u1.2.2.2.1.1 u1.2.2.2.1.2.1 u1.2.2.2.1.2.2.1 u1.2.2.2.1.2.2.2 u1.2.2.2.2)) hP hD [0, 1, 2, 3, 4, 5, 6, 7, 8] [] rfl rfl (by decide) (by decide) hk1 hFc hP1 hD1
    generalize H1 = H at hP hS ⊢
    have hP : va_P (dC, dI) vwCl (cw h n r d f cI cF N u1.1 u1.2.1 (f_cont N) u1.2.2.1 1 u1.2.2.2.1.1 u1.2.2.2.1.2.1 u1.2.2.2.1.2.2.1 u1.2.2.2.1.2.2.2 u1.2.2.2.2) H := hP
    have hD : va_D A (cw h n r d f cI cF N u1.1 u1.2.1 (f_cont N) u1.2.2.1 1 u1.2.2.2.1.1 u1.2.2.2.1.2.1 u1.2.2.2.1.2.2.1 u1.2.2.2.1.2.2.2 u1.2.2.2.2) := hD
    have hci := hq2.1
    have hdeg := hq2.2
    have hdc := deg_c N
    refine lv_aload_n hx hb dX1_answer_4 rfl (lv_at hl 0 rfl) ?_
    refine lv_iload_n hx hb dX1_answer_5 rfl (lv_at hl 1 rfl) ?_
    have hPn := hP.sub (ws' := [(h, .inr (1, [.ref n, .ref r, .ref d, .ref f, .int (iI u1.2.2.1), .int (iI (f_cont N)), .int (iI 1)])), (f, .inl (cF, 4, .inr (.inr (.inr (.inr (q4 u1.2.2.2.1.1 u1.2.2.2.1.2.1 u1.2.2.2.1.2.2.1 u1.2.2.2.1.2.2.2))))))]) [0, 4] rfl
    have hKn := hK.sub (tys' := [(cF, .object RX0)]) [1] rfl
    have hfc9 : 0 ≤ u1.2.2.1 ∧ u1.2.2.1 ≤ 4 := by rcases hci.2.2.2.2.2 with q | q; exact absurd q (by decide); exact ⟨q.2.2.2.2.1, q.2.2.2.2.2⟩
    refine xr_callr (vx_runV (As := [.int (iI k)]) (rest := []) ⟨hx, hb, hml, hown, hw⟩ (kX1_numbered l hlt dC dI A h n r d f u1.2.2.2.1.1 u1.2.2.2.1.2.1 u1.2.2.2.1.2.2.1 u1.2.2.2.1.2.2.2 cF (f_cont N) u1.2.2.1 1 k (by omega) hfc9) (cwV 1 hw (gV mA_295 mA_297 mP_15 mA_1 mA_298) rfl rfl rfl (by decide +kernel) ⟨Nat.le_of_ble_eq_true rfl, Nat.le_of_ble_eq_true rfl⟩) ⟨fun a U g mk q => by obtain ⟨q0, qP, qK, qN, qZ⟩ := q; exact ⟨q0, qP, va_K.moved (u := U) (U := U.calling g mk a) (Vm.Alike.refl U.vm) qK, nb.same (u := U) rfl qN, zt.go (u := U) qZ (Vm.Alike.refl U.vm) (fun _ q => q) (fun _ _ _ => rfl)⟩, va_recv hKn hPn (ci := 1) (q0 := 0) rfl rfl, fun U hU hW => ⟨rfl, by rw [hU]; exact hPn, va_K.moved hW.alike hKn, nb.warm hW hnb, zt1 hzt hS hU hW.alike⟩⟩ rfl rfl hl.1 rfl (lv_room (Nat.le_of_ble_eq_true rfl)) dX1_answer_6 ⟨Nat.le_of_ble_eq_true rfl, Nat.le_of_ble_eq_true rfl⟩) hS (fun q _ z => z.elim) (fun q z => z.elim) (fun q _ z => z.elim) (fun E9 ce q9 u9 t9 H1 locs ht hvm hpx hBX hz1 hk1 hS hce hcv hcl => ?_) (fun u9 ra0 t9 H1 locs ht hvm hqra0 hra0 hz1 hk1 hS => ?_)
    · exact vx_out (fun x h => (hout x h).elim) hlocks hce hcv hcl (fun t2 ht2 hvm2 => ⟨(u1.1, u1.2.1, f_cont N, u1.2.2.1, 1, (u1.2.2.2.1.1, u1.2.2.2.1.2.1, u1.2.2.2.1.2.2.1, u1.2.2.2.1.2.2.2), u1.2.2.2.2), hci, ⟨Or.inr (Or.inl ⟨hBX, ⟨hci, hdeg, rfl, rfl⟩, hpx⟩), by rw [ht2]; exact pkeep hP (fun q z => hk1 q z (fun f => f)), va_K.moved hvm2 hK, hD⟩, hS.F ht2⟩) hS.2.2 (Nat.le_of_ble_eq_true rfl) (Nat.le_of_ble_eq_true rfl)
    · have hP := pkeep hP (fun q z => hk1 q z (fun f => f))
      generalize H1 = H at hP  hS ⊢
      have hV0 : va_P (dC, dI) vwCl [(ra0, .inr (0, fl (u1.2.2.2.2 k)))] H := by rw [hra0]; exact sel_P hP hqra0.1 (by omega)
      obtain ⟨hB0, hBm0, hBb0, hBu0⟩ := hci.2.2.2.2.1 k
      refine lv_astore (lv' := [(4, .ref ra0), (0, .ref h), (1, .int (iI k)), (2, .int (iI w)), (3, .int (iI t))]) hx hb dX1_answer_9 hl (by decide) rfl (fun ls hl => ?_)
      refine lv_iload_n hx hb dX1_answer_11 rfl (lv_at hl 3 rfl) ?_
      refine ix_if_lt (tgt := 29) hx hb dX1_answer_12 (by decide) ⟨by omega, by omega⟩ (fun c3 => ?_) (fun c3 => ?_)
      · exact thIAE (is := 96) hx hb hlt hown hw hnb (List.mem_of_getElem? (i := 6) rfl) hzt hS (by rw [hml]; exact hl.1) dX1_answer_29 dX1_answer_32 dX1_answer_33 dX1_answer_35 dX1_answer_38 hout (show 6 ≤ _ from Nat.le_of_ble_eq_true rfl) (Nat.le_of_ble_eq_true rfl) (Nat.le_of_ble_eq_true rfl) (Nat.le_of_ble_eq_true rfl) hlocks (fun t2 hvm2 t3 t4 => ⟨(u1.1, u1.2.1, f_cont N, u1.2.2.1, 1, (u1.2.2.2.1.1, u1.2.2.2.1.2.1, u1.2.2.2.1.2.2.1, u1.2.2.2.1.2.2.2), u1.2.2.2.2), hci, ⟨Or.inr (Or.inr ⟨rfl, ⟨hci, hdeg, rfl, rfl⟩, hqra0, by omega⟩), pkeep hP t4, va_K.moved hvm2 hK, hD⟩, vFx hS t3 t4⟩) hS.2.2 (Nat.le_of_ble_eq_true rfl) (Nat.le_of_ble_eq_true rfl)
      · refine lv_iload_n hx hb dX1_answer_15 rfl (lv_at hl 3 rfl) ?_
        refine ix_iconst (n := 1) hx hb dX1_answer_16 ?_
        refine ix_icmp_gt (tgt := 29) hx hb dX1_answer_17 (by decide) ⟨by omega, by omega⟩ (by decide) (fun c4 => ?_) (fun c4 => ?_)
        · exact thIAE (is := 96) hx hb hlt hown hw hnb (List.mem_of_getElem? (i := 6) rfl) hzt hS (by rw [hml]; exact hl.1) dX1_answer_29 dX1_answer_32 dX1_answer_33 dX1_answer_35 dX1_answer_38 hout (show 6 ≤ _ from Nat.le_of_ble_eq_true rfl) (Nat.le_of_ble_eq_true rfl) (Nat.le_of_ble_eq_true rfl) (Nat.le_of_ble_eq_true rfl) hlocks (fun t2 hvm2 t3 t4 => ⟨(u1.1, u1.2.1, f_cont N, u1.2.2.1, 1, (u1.2.2.2.1.1, u1.2.2.2.1.2.1, u1.2.2.2.1.2.2.1, u1.2.2.2.1.2.2.2), u1.2.2.2.2), hci, ⟨Or.inr (Or.inr ⟨rfl, ⟨hci, hdeg, rfl, rfl⟩, hqra0, by omega⟩), pkeep hP t4, va_K.moved hvm2 hK, hD⟩, vFx hS t3 t4⟩) hS.2.2 (Nat.le_of_ble_eq_true rfl) (Nat.le_of_ble_eq_true rfl)
        · refine lv_iload_n hx hb dX1_answer_20 rfl (lv_at hl 4 rfl) ?_
          refine ix_if_lt (tgt := 29) hx hb dX1_answer_21 (by decide) ⟨by omega, by omega⟩ (fun c5 => ?_) (fun c5 => ?_)
          · exact thIAE (is := 96) hx hb hlt hown hw hnb (List.mem_of_getElem? (i := 6) rfl) hzt hS (by rw [hml]; exact hl.1) dX1_answer_29 dX1_answer_32 dX1_answer_33 dX1_answer_35 dX1_answer_38 hout (show 6 ≤ _ from Nat.le_of_ble_eq_true rfl) (Nat.le_of_ble_eq_true rfl) (Nat.le_of_ble_eq_true rfl) (Nat.le_of_ble_eq_true rfl) hlocks (fun t2 hvm2 t3 t4 => ⟨(u1.1, u1.2.1, f_cont N, u1.2.2.1, 1, (u1.2.2.2.1.1, u1.2.2.2.1.2.1, u1.2.2.2.1.2.2.1, u1.2.2.2.1.2.2.2), u1.2.2.2.2), hci, ⟨Or.inr (Or.inr ⟨rfl, ⟨hci, hdeg, rfl, rfl⟩, hqra0, by omega⟩), pkeep hP t4, va_K.moved hvm2 hK, hD⟩, vFx hS t3 t4⟩) hS.2.2 (Nat.le_of_ble_eq_true rfl) (Nat.le_of_ble_eq_true rfl)
          · refine lv_iload_n hx hb dX1_answer_24 rfl (lv_at hl 4 rfl) ?_
            refine ix_iconst (n := 1) hx hb dX1_answer_25 ?_
            refine ix_icmp_le (tgt := 39) hx hb dX1_answer_26 (by decide) ⟨by omega, by omega⟩ (by decide) (fun c6 => ?_) (fun c6 => ?_)
            · refine lv_iload_n hx hb dX1_answer_39 rfl (lv_at hl 3 rfl) ?_
              refine ix_if_ne (tgt := 51) hx hb dX1_answer_40 (by decide) ⟨by omega, by omega⟩ (fun c7 => ?_) (fun c7 => ?_)
              · refine lv_aload hx hb dX1_answer_51 (lv_at hl 0 rfl) ?_
                refine va_getN (D := (dC, dI)) (ci := 0) (v := .int (iI ((u1.2.2.2.2 k) 4))) (C := RX0) (T := TX0) (N := 6) hx hb hw inX0 hown hK hV0 0 rfl rfl 4 (by decide) (hnb.use mN_36) (fun _ h9 => h9) rfl dX1_answer_53 ?_
                refine lv_istore (lv' := [(5, .int (iI ((u1.2.2.2.2 k) 4))), (4, .ref ra0), (0, .ref h), (1, .int (iI k)), (2, .int (iI w)), (3, .int (iI t))]) hx hb dX1_answer_56 hl (by decide) rfl (fun ls hl => ?_)
                refine lv_aload hx hb dX1_answer_58 (lv_at hl 1 rfl) ?_
                have hPc := hV0.sub (ws' := [(ra0, .inr (0, [.int (iI ((u1.2.2.2.2 k) 0)), .int (iI ((u1.2.2.2.2 k) 1)), .int (iI ((u1.2.2.2.2 k) 2)), .int (iI ((u1.2.2.2.2 k) 3)), .int (iI ((u1.2.2.2.2 k) 4)), .int (iI ((u1.2.2.2.2 k) 5))]))]) [0] rfl
                have hKc := hK.sub (tys' := []) [] rfl
                refine vp_callSi (va_Run.run (va_runVN (As := []) (rest := []) ⟨hx, hb, hml, hown, hw⟩ (kX0_below l dC dI ra0 (u1.2.2.2.2 k) hB0) ⟨va_cnB 0 hw (wsA_sub mA_283) rfl rfl rfl (hnb.1 _ mN_325) (hw _ mA_2) (by decide +kernel) ⟨Nat.le_of_ble_eq_true rfl, Nat.le_of_ble_eq_true rfl⟩, hw _ mA_282, hw _ mP_13⟩ ⟨fun a U g mk q => by obtain ⟨q0, qP, qK⟩ := q; exact ⟨q0, qP, va_K.moved (u := U) (U := U.calling g mk a) (Vm.Alike.refl U.vm) qK⟩, va_recv hKc hPc (ci := 0) (q0 := 0) rfl rfl, fun U hU hW => ⟨rfl, by rw [hU]; exact hPc, va_K.moved hW.alike hKc⟩⟩ rfl rfl hl.1 rfl (lv_room (Nat.le_of_ble_eq_true rfl)) dX1_answer_60 ⟨Nat.le_of_ble_eq_true rfl, Nat.le_of_ble_eq_true rfl⟩)) (fun r8 h9 => ?_)
                subst h9
                refine lv_istore (lv' := [(6, .int (iI (f_below (u1.2.2.2.2 k)))), (5, .int (iI ((u1.2.2.2.2 k) 4))), (4, .ref ra0), (0, .ref h), (1, .int (iI k)), (2, .int (iI w)), (3, .int (iI t))]) hx hb dX1_answer_63 hl (by decide) rfl (fun ls hl => ?_)
                refine lv_iload hx hb dX1_answer_65 (lv_at hl 1 rfl) ?_
                refine lv_iload hx hb dX1_answer_67 (lv_at hl 0 rfl) ?_
                have hB4 := hB0 4
                refine vp_callSi (W.runS (As := [.int (iI ((u1.2.2.2.2 k) 4)), .int (iI (f_below (u1.2.2.2.2 k)))]) (rest := []) ⟨hx, hb, hml, hown, hw⟩ (kX1_commonDivisor l ((u1.2.2.2.2 k) 4) (f_below (u1.2.2.2.2 k)) ⟨by omega, by omega⟩ ⟨by omega, by omega⟩) (cwS 2 hw (gS mA_239 mA_240 mA_1 mA_241) rfl rfl rfl (by decide +kernel) ⟨Nat.le_of_ble_eq_true rfl, Nat.le_of_ble_eq_true rfl⟩) preEq rfl rfl hl.1 rfl (lv_room (Nat.le_of_ble_eq_true rfl)) dX1_answer_69 ⟨Nat.le_of_ble_eq_true rfl, Nat.le_of_ble_eq_true rfl⟩) (fun r10 h11 => ?_)
                subst h11
                have hg9 := gcd_bd (a := (u1.2.2.2.2 k) 4) (b := f_below (u1.2.2.2.2 k)) (by omega) (by omega)
                refine lv_istore (lv' := [(7, .int (iI (f_gcd ((u1.2.2.2.2 k) 4) (f_below (u1.2.2.2.2 k))))), (6, .int (iI (f_below (u1.2.2.2.2 k)))), (5, .int (iI ((u1.2.2.2.2 k) 4))), (4, .ref ra0), (0, .ref h), (1, .int (iI k)), (2, .int (iI w)), (3, .int (iI t))]) hx hb dX1_answer_72 hl (by decide) rfl (fun ls hl => ?_)
                refine lv_iload hx hb dX1_answer_74 (lv_at hl 0 rfl) ?_
                refine ix_if_ne (tgt := 81) hx hb dX1_answer_76 (by decide) ⟨by omega, by omega⟩ (fun c12 => ?_) (fun c12 => ?_)
                · refine lv_iload_n hx hb dX1_answer_81 rfl (lv_at hl 7 rfl) ?_
                  refine ix_if_ne (tgt := 90) hx hb dX1_answer_82 (by decide) ⟨by omega, by omega⟩ (fun c13 => ?_) (fun c13 => ?_)
                  · refine lv_iload hx hb dX1_answer_90 (lv_at hl 1 rfl) ?_
                    refine lv_iload hx hb dX1_answer_92 (lv_at hl 0 rfl) ?_
                    refine ix_idiv hx hb dX1_answer_94 ⟨by omega, by omega⟩ ⟨by omega, by omega⟩ (by omega) (by omega) ?_
                    have ea : (u1.2.2.2.2 k) 4 = f_above (u1.2.2.2.2 k) w := by unfold f_above; grind
                    have hP9 := hP.sub (ws' := (cwu h n r d f cI cF N (u1.1, u1.2.1, f_cont N, u1.2.2.1, 1, (u1.2.2.2.1.1, u1.2.2.2.1.2.1, u1.2.2.2.1.2.2.1, u1.2.2.2.1.2.2.2), u1.2.2.2.2))) [0, 1, 2, 3, 4, 5, 6, 7, 8] rfl
                    have hD9 := hD.sub (ws' := (cwu h n r d f cI cF N (u1.1, u1.2.1, f_cont N, u1.2.2.1, 1, (u1.2.2.2.1.1, u1.2.2.2.1.2.1, u1.2.2.2.1.2.2.1, u1.2.2.2.1.2.2.2), u1.2.2.2.2))) [0, 1, 2, 3, 4, 5, 6, 7, 8] (by decide) rfl
                    have hK9 := hK.sub (tys' := [(cI, .int), (cF, .object RX0)]) [0, 1] rfl
                    refine vx_ret (W.widen (k := 3) (n := 18) (Nat.le_of_ble_eq_true rfl) (Nat.le_of_ble_eq_true rfl) ?_)
                    exact W.iret (v := iI (Int.tdiv (f_below (u1.2.2.2.2 k)) (f_gcd ((u1.2.2.2.2 k) 4) (f_below (u1.2.2.2.2 k))))) hx hb hr (fun t ht hW => ⟨⟨iI (Int.tdiv (f_below (u1.2.2.2.2 k)) (f_gcd ((u1.2.2.2.2 k) 4) (f_below (u1.2.2.2.2 k)))), (u1.1, u1.2.1, f_cont N, u1.2.2.1, 1, (u1.2.2.2.1.1, u1.2.2.2.1.2.1, u1.2.2.2.1.2.2.1, u1.2.2.2.1.2.2.2), u1.2.2.2.2), rfl, ⟨⟨hci, hdeg, rfl, rfl⟩, hqra0, ⟨by omega, by omega⟩, ⟨by omega, by omega⟩, congrArg iI (by unfold f_ans; rw [← ea]; grind)⟩, by rw [ht]; exact hP9, va_K.moved hW.alike hK9, hD9⟩, hS.F ht⟩) hS.2.2 dX1_answer_95
                  · refine lv_iload hx hb dX1_answer_85 (lv_at hl 2 rfl) ?_
                    refine lv_goto (tgt := 92) hx hb dX1_answer_87 (by decide) ?_
                    refine lv_iload hx hb dX1_answer_92 (lv_at hl 0 rfl) ?_
                    refine ix_idiv hx hb dX1_answer_94 ⟨by omega, by omega⟩ ⟨by omega, by omega⟩ (by omega) (by omega) ?_
                    have ea : (u1.2.2.2.2 k) 4 = f_above (u1.2.2.2.2 k) w := by unfold f_above; grind
                    have hP9 := hP.sub (ws' := (cwu h n r d f cI cF N (u1.1, u1.2.1, f_cont N, u1.2.2.1, 1, (u1.2.2.2.1.1, u1.2.2.2.1.2.1, u1.2.2.2.1.2.2.1, u1.2.2.2.1.2.2.2), u1.2.2.2.2))) [0, 1, 2, 3, 4, 5, 6, 7, 8] rfl
                    have hD9 := hD.sub (ws' := (cwu h n r d f cI cF N (u1.1, u1.2.1, f_cont N, u1.2.2.1, 1, (u1.2.2.2.1.1, u1.2.2.2.1.2.1, u1.2.2.2.1.2.2.1, u1.2.2.2.1.2.2.2), u1.2.2.2.2))) [0, 1, 2, 3, 4, 5, 6, 7, 8] (by decide) rfl
                    have hK9 := hK.sub (tys' := [(cI, .int), (cF, .object RX0)]) [0, 1] rfl
                    refine vx_ret (W.widen (k := 3) (n := 18) (Nat.le_of_ble_eq_true rfl) (Nat.le_of_ble_eq_true rfl) ?_)
                    exact W.iret (v := iI (Int.tdiv ((u1.2.2.2.2 k) 4) (f_gcd ((u1.2.2.2.2 k) 4) (f_below (u1.2.2.2.2 k))))) hx hb hr (fun t ht hW => ⟨⟨iI (Int.tdiv ((u1.2.2.2.2 k) 4) (f_gcd ((u1.2.2.2.2 k) 4) (f_below (u1.2.2.2.2 k)))), (u1.1, u1.2.1, f_cont N, u1.2.2.1, 1, (u1.2.2.2.1.1, u1.2.2.2.1.2.1, u1.2.2.2.1.2.2.1, u1.2.2.2.1.2.2.2), u1.2.2.2.2), rfl, ⟨⟨hci, hdeg, rfl, rfl⟩, hqra0, ⟨by omega, by omega⟩, ⟨by omega, by omega⟩, congrArg iI (by unfold f_ans; rw [← ea]; grind)⟩, by rw [ht]; exact hP9, va_K.moved hW.alike hK9, hD9⟩, hS.F ht⟩) hS.2.2 dX1_answer_95
                · refine ix_iconst (n := 0) hx hb dX1_answer_79 ?_
                  have ea : (u1.2.2.2.2 k) 4 = f_above (u1.2.2.2.2 k) w := by unfold f_above; grind
                  have hP9 := hP.sub (ws' := (cwu h n r d f cI cF N (u1.1, u1.2.1, f_cont N, u1.2.2.1, 1, (u1.2.2.2.1.1, u1.2.2.2.1.2.1, u1.2.2.2.1.2.2.1, u1.2.2.2.1.2.2.2), u1.2.2.2.2))) [0, 1, 2, 3, 4, 5, 6, 7, 8] rfl
                  have hD9 := hD.sub (ws' := (cwu h n r d f cI cF N (u1.1, u1.2.1, f_cont N, u1.2.2.1, 1, (u1.2.2.2.1.1, u1.2.2.2.1.2.1, u1.2.2.2.1.2.2.1, u1.2.2.2.1.2.2.2), u1.2.2.2.2))) [0, 1, 2, 3, 4, 5, 6, 7, 8] (by decide) rfl
                  have hK9 := hK.sub (tys' := [(cI, .int), (cF, .object RX0)]) [0, 1] rfl
                  refine vx_ret (W.widen (k := 3) (n := 18) (Nat.le_of_ble_eq_true rfl) (Nat.le_of_ble_eq_true rfl) ?_)
                  exact W.iret (v := iI 0) hx hb hr (fun t ht hW => ⟨⟨iI 0, (u1.1, u1.2.1, f_cont N, u1.2.2.1, 1, (u1.2.2.2.1.1, u1.2.2.2.1.2.1, u1.2.2.2.1.2.2.1, u1.2.2.2.1.2.2.2), u1.2.2.2.2), rfl, ⟨⟨hci, hdeg, rfl, rfl⟩, hqra0, ⟨by omega, by omega⟩, ⟨by omega, by omega⟩, congrArg iI (by unfold f_ans; rw [← ea]; grind)⟩, by rw [ht]; exact hP9, va_K.moved hW.alike hK9, hD9⟩, hS.F ht⟩) hS.2.2 dX1_answer_80
              · refine lv_aload hx hb dX1_answer_43 (lv_at hl 0 rfl) ?_
                have hPc := hV0.sub (ws' := [(ra0, .inr (0, [.int (iI ((u1.2.2.2.2 k) 0)), .int (iI ((u1.2.2.2.2 k) 1)), .int (iI ((u1.2.2.2.2 k) 2)), .int (iI ((u1.2.2.2.2 k) 3)), .int (iI ((u1.2.2.2.2 k) 4)), .int (iI ((u1.2.2.2.2 k) 5))]))]) [0] rfl
                have hKc := hK.sub (tys' := []) [] rfl
                refine vp_callSi (va_Run.run (va_runVN (As := []) (rest := []) ⟨hx, hb, hml, hown, hw⟩ (kX0_middle l dC dI ra0 (u1.2.2.2.2 k) hB0) ⟨va_cnB 0 hw (wsA_sub mA_279) rfl rfl rfl (hnb.1 _ mN_324) (hw _ mA_2) (by decide +kernel) ⟨Nat.le_of_ble_eq_true rfl, Nat.le_of_ble_eq_true rfl⟩, hw _ mA_278, hw _ mP_12⟩ ⟨fun a U g mk q => by obtain ⟨q0, qP, qK⟩ := q; exact ⟨q0, qP, va_K.moved (u := U) (U := U.calling g mk a) (Vm.Alike.refl U.vm) qK⟩, va_recv hKc hPc (ci := 0) (q0 := 0) rfl rfl, fun U hU hW => ⟨rfl, by rw [hU]; exact hPc, va_K.moved hW.alike hKc⟩⟩ rfl rfl hl.1 rfl (lv_room (Nat.le_of_ble_eq_true rfl)) dX1_answer_45 ⟨Nat.le_of_ble_eq_true rfl, Nat.le_of_ble_eq_true rfl⟩)) (fun r14 h15 => ?_)
                subst h15
                refine lv_goto (tgt := 56) hx hb dX1_answer_48 (by decide) ?_
                refine lv_istore (lv' := [(5, .int (iI (f_mid (u1.2.2.2.2 k)))), (4, .ref ra0), (0, .ref h), (1, .int (iI k)), (2, .int (iI w)), (3, .int (iI t))]) hx hb dX1_answer_56 hl (by decide) rfl (fun ls hl => ?_)
                refine lv_aload hx hb dX1_answer_58 (lv_at hl 1 rfl) ?_
                have hPc := hV0.sub (ws' := [(ra0, .inr (0, [.int (iI ((u1.2.2.2.2 k) 0)), .int (iI ((u1.2.2.2.2 k) 1)), .int (iI ((u1.2.2.2.2 k) 2)), .int (iI ((u1.2.2.2.2 k) 3)), .int (iI ((u1.2.2.2.2 k) 4)), .int (iI ((u1.2.2.2.2 k) 5))]))]) [0] rfl
                have hKc := hK.sub (tys' := []) [] rfl
                refine vp_callSi (va_Run.run (va_runVN (As := []) (rest := []) ⟨hx, hb, hml, hown, hw⟩ (kX0_below l dC dI ra0 (u1.2.2.2.2 k) hB0) ⟨va_cnB 0 hw (wsA_sub mA_283) rfl rfl rfl (hnb.1 _ mN_325) (hw _ mA_2) (by decide +kernel) ⟨Nat.le_of_ble_eq_true rfl, Nat.le_of_ble_eq_true rfl⟩, hw _ mA_282, hw _ mP_13⟩ ⟨fun a U g mk q => by obtain ⟨q0, qP, qK⟩ := q; exact ⟨q0, qP, va_K.moved (u := U) (U := U.calling g mk a) (Vm.Alike.refl U.vm) qK⟩, va_recv hKc hPc (ci := 0) (q0 := 0) rfl rfl, fun U hU hW => ⟨rfl, by rw [hU]; exact hPc, va_K.moved hW.alike hKc⟩⟩ rfl rfl hl.1 rfl (lv_room (Nat.le_of_ble_eq_true rfl)) dX1_answer_60 ⟨Nat.le_of_ble_eq_true rfl, Nat.le_of_ble_eq_true rfl⟩)) (fun r16 h17 => ?_)
                subst h17
                refine lv_istore (lv' := [(6, .int (iI (f_below (u1.2.2.2.2 k)))), (5, .int (iI (f_mid (u1.2.2.2.2 k)))), (4, .ref ra0), (0, .ref h), (1, .int (iI k)), (2, .int (iI w)), (3, .int (iI t))]) hx hb dX1_answer_63 hl (by decide) rfl (fun ls hl => ?_)
                refine lv_iload hx hb dX1_answer_65 (lv_at hl 1 rfl) ?_
                refine lv_iload hx hb dX1_answer_67 (lv_at hl 0 rfl) ?_
                have hB4 := hB0 4
                refine vp_callSi (W.runS (As := [.int (iI (f_mid (u1.2.2.2.2 k))), .int (iI (f_below (u1.2.2.2.2 k)))]) (rest := []) ⟨hx, hb, hml, hown, hw⟩ (kX1_commonDivisor l (f_mid (u1.2.2.2.2 k)) (f_below (u1.2.2.2.2 k)) ⟨by omega, by omega⟩ ⟨by omega, by omega⟩) (cwS 2 hw (gS mA_239 mA_240 mA_1 mA_241) rfl rfl rfl (by decide +kernel) ⟨Nat.le_of_ble_eq_true rfl, Nat.le_of_ble_eq_true rfl⟩) preEq rfl rfl hl.1 rfl (lv_room (Nat.le_of_ble_eq_true rfl)) dX1_answer_69 ⟨Nat.le_of_ble_eq_true rfl, Nat.le_of_ble_eq_true rfl⟩) (fun r18 h19 => ?_)
                subst h19
                have hg9 := gcd_bd (a := f_mid (u1.2.2.2.2 k)) (b := f_below (u1.2.2.2.2 k)) (by omega) (by omega)
                refine lv_istore (lv' := [(7, .int (iI (f_gcd (f_mid (u1.2.2.2.2 k)) (f_below (u1.2.2.2.2 k))))), (6, .int (iI (f_below (u1.2.2.2.2 k)))), (5, .int (iI (f_mid (u1.2.2.2.2 k)))), (4, .ref ra0), (0, .ref h), (1, .int (iI k)), (2, .int (iI w)), (3, .int (iI t))]) hx hb dX1_answer_72 hl (by decide) rfl (fun ls hl => ?_)
                refine lv_iload hx hb dX1_answer_74 (lv_at hl 0 rfl) ?_
                refine ix_if_ne (tgt := 81) hx hb dX1_answer_76 (by decide) ⟨by omega, by omega⟩ (fun c20 => ?_) (fun c20 => ?_)
                · refine lv_iload_n hx hb dX1_answer_81 rfl (lv_at hl 7 rfl) ?_
                  refine ix_if_ne (tgt := 90) hx hb dX1_answer_82 (by decide) ⟨by omega, by omega⟩ (fun c21 => ?_) (fun c21 => ?_)
                  · refine lv_iload hx hb dX1_answer_90 (lv_at hl 1 rfl) ?_
                    refine lv_iload hx hb dX1_answer_92 (lv_at hl 0 rfl) ?_
                    refine ix_idiv hx hb dX1_answer_94 ⟨by omega, by omega⟩ ⟨by omega, by omega⟩ (by omega) (by omega) ?_
                    have ea : f_mid (u1.2.2.2.2 k) = f_above (u1.2.2.2.2 k) w := by unfold f_above; grind
                    have hP9 := hP.sub (ws' := (cwu h n r d f cI cF N (u1.1, u1.2.1, f_cont N, u1.2.2.1, 1, (u1.2.2.2.1.1, u1.2.2.2.1.2.1, u1.2.2.2.1.2.2.1, u1.2.2.2.1.2.2.2), u1.2.2.2.2))) [0, 1, 2, 3, 4, 5, 6, 7, 8] rfl
                    have hD9 := hD.sub (ws' := (cwu h n r d f cI cF N (u1.1, u1.2.1, f_cont N, u1.2.2.1, 1, (u1.2.2.2.1.1, u1.2.2.2.1.2.1, u1.2.2.2.1.2.2.1, u1.2.2.2.1.2.2.2), u1.2.2.2.2))) [0, 1, 2, 3, 4, 5, 6, 7, 8] (by decide) rfl
                    have hK9 := hK.sub (tys' := [(cI, .int), (cF, .object RX0)]) [0, 1] rfl
                    refine vx_ret (W.widen (k := 3) (n := 18) (Nat.le_of_ble_eq_true rfl) (Nat.le_of_ble_eq_true rfl) ?_)
                    exact W.iret (v := iI (Int.tdiv (f_below (u1.2.2.2.2 k)) (f_gcd (f_mid (u1.2.2.2.2 k)) (f_below (u1.2.2.2.2 k))))) hx hb hr (fun t ht hW => ⟨⟨iI (Int.tdiv (f_below (u1.2.2.2.2 k)) (f_gcd (f_mid (u1.2.2.2.2 k)) (f_below (u1.2.2.2.2 k)))), (u1.1, u1.2.1, f_cont N, u1.2.2.1, 1, (u1.2.2.2.1.1, u1.2.2.2.1.2.1, u1.2.2.2.1.2.2.1, u1.2.2.2.1.2.2.2), u1.2.2.2.2), rfl, ⟨⟨hci, hdeg, rfl, rfl⟩, hqra0, ⟨by omega, by omega⟩, ⟨by omega, by omega⟩, congrArg iI (by unfold f_ans; rw [← ea]; grind)⟩, by rw [ht]; exact hP9, va_K.moved hW.alike hK9, hD9⟩, hS.F ht⟩) hS.2.2 dX1_answer_95
                  · refine lv_iload hx hb dX1_answer_85 (lv_at hl 2 rfl) ?_
                    refine lv_goto (tgt := 92) hx hb dX1_answer_87 (by decide) ?_
                    refine lv_iload hx hb dX1_answer_92 (lv_at hl 0 rfl) ?_
                    refine ix_idiv hx hb dX1_answer_94 ⟨by omega, by omega⟩ ⟨by omega, by omega⟩ (by omega) (by omega) ?_
                    have ea : f_mid (u1.2.2.2.2 k) = f_above (u1.2.2.2.2 k) w := by unfold f_above; grind
                    have hP9 := hP.sub (ws' := (cwu h n r d f cI cF N (u1.1, u1.2.1, f_cont N, u1.2.2.1, 1, (u1.2.2.2.1.1, u1.2.2.2.1.2.1, u1.2.2.2.1.2.2.1, u1.2.2.2.1.2.2.2), u1.2.2.2.2))) [0, 1, 2, 3, 4, 5, 6, 7, 8] rfl
                    have hD9 := hD.sub (ws' := (cwu h n r d f cI cF N (u1.1, u1.2.1, f_cont N, u1.2.2.1, 1, (u1.2.2.2.1.1, u1.2.2.2.1.2.1, u1.2.2.2.1.2.2.1, u1.2.2.2.1.2.2.2), u1.2.2.2.2))) [0, 1, 2, 3, 4, 5, 6, 7, 8] (by decide) rfl
                    have hK9 := hK.sub (tys' := [(cI, .int), (cF, .object RX0)]) [0, 1] rfl
                    refine vx_ret (W.widen (k := 3) (n := 18) (Nat.le_of_ble_eq_true rfl) (Nat.le_of_ble_eq_true rfl) ?_)
                    exact W.iret (v := iI (Int.tdiv (f_mid (u1.2.2.2.2 k)) (f_gcd (f_mid (u1.2.2.2.2 k)) (f_below (u1.2.2.2.2 k))))) hx hb hr (fun t ht hW => ⟨⟨iI (Int.tdiv (f_mid (u1.2.2.2.2 k)) (f_gcd (f_mid (u1.2.2.2.2 k)) (f_below (u1.2.2.2.2 k)))), (u1.1, u1.2.1, f_cont N, u1.2.2.1, 1, (u1.2.2.2.1.1, u1.2.2.2.1.2.1, u1.2.2.2.1.2.2.1, u1.2.2.2.1.2.2.2), u1.2.2.2.2), rfl, ⟨⟨hci, hdeg, rfl, rfl⟩, hqra0, ⟨by omega, by omega⟩, ⟨by omega, by omega⟩, congrArg iI (by unfold f_ans; rw [← ea]; grind)⟩, by rw [ht]; exact hP9, va_K.moved hW.alike hK9, hD9⟩, hS.F ht⟩) hS.2.2 dX1_answer_95
                · refine ix_iconst (n := 0) hx hb dX1_answer_79 ?_
                  have ea : f_mid (u1.2.2.2.2 k) = f_above (u1.2.2.2.2 k) w := by unfold f_above; grind
                  have hP9 := hP.sub (ws' := (cwu h n r d f cI cF N (u1.1, u1.2.1, f_cont N, u1.2.2.1, 1, (u1.2.2.2.1.1, u1.2.2.2.1.2.1, u1.2.2.2.1.2.2.1, u1.2.2.2.1.2.2.2), u1.2.2.2.2))) [0, 1, 2, 3, 4, 5, 6, 7, 8] rfl
                  have hD9 := hD.sub (ws' := (cwu h n r d f cI cF N (u1.1, u1.2.1, f_cont N, u1.2.2.1, 1, (u1.2.2.2.1.1, u1.2.2.2.1.2.1, u1.2.2.2.1.2.2.1, u1.2.2.2.1.2.2.2), u1.2.2.2.2))) [0, 1, 2, 3, 4, 5, 6, 7, 8] (by decide) rfl
                  have hK9 := hK.sub (tys' := [(cI, .int), (cF, .object RX0)]) [0, 1] rfl
                  refine vx_ret (W.widen (k := 3) (n := 18) (Nat.le_of_ble_eq_true rfl) (Nat.le_of_ble_eq_true rfl) ?_)
                  exact W.iret (v := iI 0) hx hb hr (fun t ht hW => ⟨⟨iI 0, (u1.1, u1.2.1, f_cont N, u1.2.2.1, 1, (u1.2.2.2.1.1, u1.2.2.2.1.2.1, u1.2.2.2.1.2.2.1, u1.2.2.2.1.2.2.2), u1.2.2.2.2), rfl, ⟨⟨hci, hdeg, rfl, rfl⟩, hqra0, ⟨by omega, by omega⟩, ⟨by omega, by omega⟩, congrArg iI (by unfold f_ans; rw [← ea]; grind)⟩, by rw [ht]; exact hP9, va_K.moved hW.alike hK9, hD9⟩, hS.F ht⟩) hS.2.2 dX1_answer_80
            · exact thIAE (is := 96) hx hb hlt hown hw hnb (List.mem_of_getElem? (i := 6) rfl) hzt hS (by rw [hml]; exact hl.1) dX1_answer_29 dX1_answer_32 dX1_answer_33 dX1_answer_35 dX1_answer_38 hout (show 6 ≤ _ from Nat.le_of_ble_eq_true rfl) (Nat.le_of_ble_eq_true rfl) (Nat.le_of_ble_eq_true rfl) (Nat.le_of_ble_eq_true rfl) hlocks (fun t2 hvm2 t3 t4 => ⟨(u1.1, u1.2.1, f_cont N, u1.2.2.1, 1, (u1.2.2.2.1.1, u1.2.2.2.1.2.1, u1.2.2.2.1.2.2.1, u1.2.2.2.1.2.2.2), u1.2.2.2.2), hci, ⟨Or.inr (Or.inr ⟨rfl, ⟨hci, hdeg, rfl, rfl⟩, hqra0, by omega⟩), pkeep hP t4, va_K.moved hvm2 hK, hD⟩, vFx hS t3 t4⟩) hS.2.2 (Nat.le_of_ble_eq_true rfl) (Nat.le_of_ble_eq_true rfl)
