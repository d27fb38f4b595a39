theorem iu_iu (O : Int → Int) (k x y : Int) : iu (iu O k x) k y = iu O k y := by funext j; unfold iu; grind
theorem cp5 {R D : Int → Int} (hR : n5 R) (hD : n5 D) : iu (iu (iu (iu (iu R 0 (D 0)) 1 (D 1)) 2 (D 2)) 3 (D 3)) 4 (D 4) = D := by
  funext j
  unfold iu
  by_cases z : 0 ≤ j ∧ j ≤ 4
  · grind
  · rw [hR j (by omega), hD j (by omega)]; grind
theorem dvN_end {a b k : Int} : ∀ (t : Nat) (R S Q : Int → Int), dvN a b k t R S → n5 Q → dvs a b k S Q → dvN a b k (t + 1) R Q := by
  intro t
  induction t with
  | zero => intro R S Q h h1 h2; rw [show S = R from h] at h2; exact ⟨Q, h1, h2, rfl⟩
  | succ t ih =>
    intro R S Q h h1 h2
    obtain ⟨T, hT, hd, hr⟩ := h
    exact ⟨T, hT, hd, ih T S Q hr h1 h2⟩
theorem dvN_4 {a b k : Int} (hab : 0 ≤ a ∧ (a = 0 → 1 ≤ b)) {t : Int} {R S : Int → Int} (h0 : 0 ≤ t) (h1 : n5 R) (h2 : 0 ≤ f_deg R) (h : dvN a b k t.toNat R S) : t ≤ 4 := by
  obtain ⟨e1, e2, e3⟩ := dvN_deg hab t.toNat R S h1 h2 h
  have := (deg_c R).2.1
  by_cases ha : a = 0
  · rw [if_pos ha] at e3; omega
  · rw [if_neg ha] at e3; omega
/-- moved from place K down to place k -/
def mv (K k : Int) (B : Int → Int) : Int → Int := fun j => if j = k then B K else if k < j ∧ j ≤ K then B (j - 1) else B j
theorem mv_K (K : Int) (B : Int → Int) : mv K K B = B := by funext j; unfold mv; grind
theorem mv_s {K k : Int} (h1 : 1 ≤ k) (h2 : k ≤ K) (B : Int → Int) : iu (iu (mv K k B) k (mv K k B (k - 1))) (k - 1) (mv K k B k) = mv K (k - 1) B := by
  funext j
  unfold iu mv
  grind
theorem mv_k (K k : Int) (B : Int → Int) : mv K k B k = B K := by unfold mv; grind
theorem mv_p {K k : Int} (B : Int → Int) : mv K k B (k - 1) = B (k - 1) := by unfold mv; grind
set_option maxHeartbeats 4000000 in
set_option maxRecDepth 100000 in
theorem lp_take {p : Program} {l : Launch} {e : Env} {s : State} {m : MethodId} {args : Array Value} {below : List Frame} {meth : Method} {c : Code} {dC : Nat → ClassId} {dI : Nat → Nat → Nat} {A : Nat → Prop} {x n r d ya yb yc yo : Nat} {cI cJ : ClassId} {cd cn fc : Int} {X As Bs Cs Os : Int → Int} {a b k : Int} {Pr : (Int → Int) → Prop} {R0 : Int → Int} (hfc : 0 ≤ fc ∧ fc ≤ 4) (hab : 0 ≤ a ∧ (a = 0 → 1 ≤ b)) (ha9 : a ≤ 20) (hb9 : -240 ≤ b ∧ b ≤ 240) (hk9 : -240 ≤ k ∧ k ≤ 240) (hPL : ∀ S, Pr S → n5 S ∧ 0 ≤ f_deg S ∧ ∀ j, -480 ≤ S j ∧ S j ≤ 480) (hcl : ∀ S Q, Pr S → n5 Q → dvs a b k S Q → Pr Q) (h05 : n5 R0) (h00 : 0 ≤ f_deg R0) (hA : ∀ q : Nat, s.heap.size ≤ q → A q) (hnb : nb s) (C0 : cx p s m meth c args RX2 cX2_take 5 none) : ∀ (n9 : Nat) (tt : Int) (R : Int → Int) (D : Int → Int), 0 ≤ tt → Pr R → n5 D → dvN a b k tt.toNat R0 R → (f_deg R).toNat < n9 → ∀ (H : Heap) (locs : List Loc), va_K (dC, dI) vwCl [(cI, .int), (cJ, .long)] s → va_P (dC, dI) vwCl [(x, .inr (2, [.int (iI cd), .ref n, .ref r, .ref d, .int (iI cn), .int (iI fc), .ref ya, .ref yb, .ref yc, .ref yo, .long (lI (X 0)), .long (lI (X 1)), .long (lI (X 2)), .long (lI (X 3)), .long (lI (X 4)), .long (lI (X 5)), .long (lI (X 6))])), (r, .inl (cJ, 5, .inr (.inl (aL R)))), (d, .inl (cJ, 5, .inr (.inl (aL D)))), (ya, .inl (cI, 5, .inl (aI (iu As fc a)))), (yb, .inl (cI, 5, .inl (aI (iu Bs fc b)))), (yc, .inl (cI, 5, .inl (aI (iu Cs fc k)))), (yo, .inl (cI, 5, .inl (aI (iu Os fc tt))))] H → va_D A [(x, .inr (2, [.int (iI cd), .ref n, .ref r, .ref d, .int (iI cn), .int (iI fc), .ref ya, .ref yb, .ref yc, .ref yo, .long (lI (X 0)), .long (lI (X 1)), .long (lI (X 2)), .long (lI (X 3)), .long (lI (X 4)), .long (lI (X 5)), .long (lI (X 6))])), (r, .inl (cJ, 5, .inr (.inl (aL R)))), (d, .inl (cJ, 5, .inr (.inl (aL D)))), (ya, .inl (cI, 5, .inl (aI (iu As fc a)))), (yb, .inl (cI, 5, .inl (aI (iu Bs fc b)))), (yc, .inl (cI, 5, .inl (aI (iu Cs fc k)))), (yo, .inl (cI, 5, .inl (aI (iu Os fc tt))))] → va_S A s.heap H locs → ∀ (ls : Array Slot), lv_has ls 5 [(0, .ref x), (1, .int (iI a)), (2, .int (iI b)), (3, .int (iI k))] → W p l e ({ frames := 2, cells := 0, slots := 0, locals := 80 } : Room) s m args below meth c H locs 0 0 (MQ below (va_Qv (fun u => 0 ≤ u.1 ∧ u.1 ≤ 4 ∧ tkR a b k u.1 R0 u.2.1 ∧ n5 u.2.2 ∧ Pr u.2.1) (fun (u : Int × (Int → Int) × (Int → Int)) t9 => va_P (dC, dI) vwCl [(x, .inr (2, [.int (iI cd), .ref n, .ref r, .ref d, .int (iI cn), .int (iI (if u.1 = 0 then fc else fc + 1)), .ref ya, .ref yb, .ref yc, .ref yo, .long (lI (X 0)), .long (lI (X 1)), .long (lI (X 2)), .long (lI (X 3)), .long (lI (X 4)), .long (lI (X 5)), .long (lI (X 6))])), (r, .inl (cJ, 5, .inr (.inl (aL u.2.1)))), (d, .inl (cJ, 5, .inr (.inl (aL u.2.2)))), (ya, .inl (cI, 5, .inl (aI (iu As fc a)))), (yb, .inl (cI, 5, .inl (aI (iu Bs fc b)))), (yc, .inl (cI, 5, .inl (aI (iu Cs fc k)))), (yo, .inl (cI, 5, .inl (aI (iu Os fc u.1))))] t9.heap ∧ va_K (dC, dI) vwCl [(cI, .int), (cJ, .long)] t9 ∧ va_D A [(x, .inr (2, [.int (iI cd), .ref n, .ref r, .ref d, .int (iI cn), .int (iI (if u.1 = 0 then fc else fc + 1)), .ref ya, .ref yb, .ref yc, .ref yo, .long (lI (X 0)), .long (lI (X 1)), .long (lI (X 2)), .long (lI (X 3)), .long (lI (X 4)), .long (lI (X 5)), .long (lI (X 6))])), (r, .inl (cJ, 5, .inr (.inl (aL u.2.1)))), (d, .inl (cJ, 5, .inr (.inl (aL u.2.2)))), (ya, .inl (cI, 5, .inl (aI (iu As fc a)))), (yb, .inl (cI, 5, .inl (aI (iu Bs fc b)))), (yc, .inl (cI, 5, .inl (aI (iu Cs fc k)))), (yo, .inl (cI, 5, .inl (aI (iu Os fc u.1))))]) A) args s 0 0 A) (F0 m 40 ls []) := by
  obtain ⟨hx, hb, hr, hml, hown, hw, hlocks⟩ := C0
  intro n9
  induction n9 with
  | zero => intro tt R D _ _ _ _ hmu; exact absurd hmu (Nat.not_lt_zero _)
  | succ n9 ih =>
    intro tt R D ht0 hR hD5 hN hmu H locs hK hP hD hS ls hl
    refine lv_aload_n hx hb dX2_take_40 rfl (lv_at hl 0 rfl) ?_
    refine lv_iload_n hx hb dX2_take_41 rfl (lv_at hl 1 rfl) ?_
    refine lv_iload_n hx hb dX2_take_42 rfl (lv_at hl 2 rfl) ?_
    refine lv_iload_n hx hb dX2_take_43 rfl (lv_at hl 3 rfl) ?_
    obtain ⟨g1, g2, g3⟩ := hPL _ hR
    have hPc := hP.sub (ws' := [(x, .inr (2, [.int (iI cd), .ref n, .ref r, .ref d, .int (iI cn), .int (iI fc), .ref ya, .ref yb, .ref yc, .ref yo, .long (lI (X 0)), .long (lI (X 1)), .long (lI (X 2)), .long (lI (X 3)), .long (lI (X 4)), .long (lI (X 5)), .long (lI (X 6))])), (r, .inl (cJ, 5, .inr (.inl (aL R)))), (d, .inl (cJ, 5, .inr (.inl (aL D))))]) [0, 1, 2] rfl
    have hDc := hD.sub (ws' := [(x, .inr (2, [.int (iI cd), .ref n, .ref r, .ref d, .int (iI cn), .int (iI fc), .ref ya, .ref yb, .ref yc, .ref yo, .long (lI (X 0)), .long (lI (X 1)), .long (lI (X 2)), .long (lI (X 3)), .long (lI (X 4)), .long (lI (X 5)), .long (lI (X 6))])), (r, .inl (cJ, 5, .inr (.inl (aL R)))), (d, .inl (cJ, 5, .inr (.inl (aL D))))]) [0, 1, 2] (by decide) rfl
    have hKc := hK.sub (tys' := [(cJ, .long)]) [1] rfl
    have hFc := va_free (wc := [(x, .inr (2, [.int (iI cd), .ref n, .ref r, .ref d, .int (iI cn), .int (iI fc), .ref ya, .ref yb, .ref yc, .ref yo, .long (lI (X 0)), .long (lI (X 1)), .long (lI (X 2)), .long (lI (X 3)), .long (lI (X 4)), .long (lI (X 5)), .long (lI (X 6))])), (r, .inl (cJ, 5, .inr (.inl (aL R)))), (d, .inl (cJ, 5, .inr (.inl (aL D))))]) hD hS hA [0, 1, 2] rfl
    refine va_calli (va_runV (As := [.int (iI a), .int (iI b), .int (iI k)]) (rest := []) ⟨hx, hb, hml, hown, hw⟩ (kX2_divides l dC dI _ x n r d ya yb yc yo cI cJ cd cn fc X R D a b k g1 hD5 g2 g3 hab ha9 hb9 hk9) (cwV 3 hw (gV mA_492 mA_494 mP_23 mA_3 mA_495) rfl rfl rfl (by decide +kernel) ⟨Nat.le_of_ble_eq_true rfl, Nat.le_of_ble_eq_true rfl⟩) ⟨fun a U g mk q => by obtain ⟨q0, q1, qP, qK, qD, qN⟩ := q; exact ⟨q0, q1, qP, va_K.moved (u := U) (U := U.calling g mk a) (Vm.Alike.refl U.vm) qK, qD, nb.same (u := U) rfl qN⟩, va_recv hKc hPc (ci := 2) (q0 := 0) rfl rfl, fun U hU hW => ⟨rfl, by rw [hU], by rw [hU]; exact hPc, va_K.moved hW.alike hKc, hDc.weaken (fun _ _ _ _ => trivial), nb.warm hW hnb⟩⟩ rfl rfl hl.1 rfl (lv_room (Nat.le_of_ble_eq_true rfl)) dX2_take_44 ⟨Nat.le_of_ble_eq_true rfl, Nat.le_of_ble_eq_true rfl⟩) hS (fun q _ h => hFc q h) hFc (fun r3 u1 t9 H1 locs ht hvm hq2 hB hz1 hk1 hS => ?_)
    obtain ⟨hP1, hK1, hD1⟩ := hB
    rw [ht] at hP1
    have hK1 := va_K.moved hvm.symm hK1
    obtain ⟨hP, hD⟩ := va_join (wr := [(ya, .inl (cI, 5, .inl (aI (iu As fc a)))), (yb, .inl (cI, 5, .inl (aI (iu Bs fc b)))), (yc, .inl (cI, 5, .inl (aI (iu Cs fc k)))), (yo, .inl (cI, 5, .inl (aI (iu Os fc tt))))]) (w1 := [(x, .inr (2, [.int (iI cd), .ref n, .ref r, .ref d, .int (iI cn), .int (iI fc), .ref ya, .ref yb, .ref yc, .ref yo, .long (lI (X 0)), .long (lI (X 1)), .long (lI (X 2)), .long (lI (X 3)), .long (lI (X 4)), .long (lI (X 5)), .long (lI (X 6))])), (r, .inl (cJ, 5, .inr (.inl (aL R)))), (d, .inl (cJ, 5, .inr (.inl (aL u1))))]) hP hD [0, 1, 2] [3, 4, 5, 6] rfl rfl (by decide) (by decide) hk1 hFc hP1 hD1
    generalize H1 = H at hP hS ⊢
    have hP := hP.sub (ws' := [(x, .inr (2, [.int (iI cd), .ref n, .ref r, .ref d, .int (iI cn), .int (iI fc), .ref ya, .ref yb, .ref yc, .ref yo, .long (lI (X 0)), .long (lI (X 1)), .long (lI (X 2)), .long (lI (X 3)), .long (lI (X 4)), .long (lI (X 5)), .long (lI (X 6))])), (r, .inl (cJ, 5, .inr (.inl (aL R)))), (d, .inl (cJ, 5, .inr (.inl (aL u1)))), (ya, .inl (cI, 5, .inl (aI (iu As fc a)))), (yb, .inl (cI, 5, .inl (aI (iu Bs fc b)))), (yc, .inl (cI, 5, .inl (aI (iu Cs fc k)))), (yo, .inl (cI, 5, .inl (aI (iu Os fc tt))))]) [4, 5, 6, 0, 1, 2, 3] rfl
    have hD := hD.sub (ws' := [(x, .inr (2, [.int (iI cd), .ref n, .ref r, .ref d, .int (iI cn), .int (iI fc), .ref ya, .ref yb, .ref yc, .ref yo, .long (lI (X 0)), .long (lI (X 1)), .long (lI (X 2)), .long (lI (X 3)), .long (lI (X 4)), .long (lI (X 5)), .long (lI (X 6))])), (r, .inl (cJ, 5, .inr (.inl (aL R)))), (d, .inl (cJ, 5, .inr (.inl (aL u1)))), (ya, .inl (cI, 5, .inl (aI (iu As fc a)))), (yb, .inl (cI, 5, .inl (aI (iu Bs fc b)))), (yc, .inl (cI, 5, .inl (aI (iu Cs fc k)))), (yo, .inl (cI, 5, .inl (aI (iu Os fc tt))))]) [4, 5, 6, 0, 1, 2, 3] (by decide) rfl
    rcases hq2.2 with ⟨q1, q2⟩ | ⟨q1, q2⟩
    · rw [q1]
      refine ix_if_eq (tgt := 95) hx hb dX2_take_47 (by decide) (by decide) (fun c4 => absurd c4 (by decide)) (fun _ => ?_)
      refine ix_iconst (n := 0) hx hb dX2_take_50 ?_
      refine lv_istore (lv' := [(4, .int (iI 0)), (0, .ref x), (1, .int (iI a)), (2, .int (iI b)), (3, .int (iI k))]) hx hb dX2_take_51 hl (by decide) rfl (fun ls hl => ?_)
      refine lv_iload hx hb dX2_take_53 (lv_at hl 0 rfl) ?_
      refine ix_iconst (n := 5) hx hb dX2_take_55 ?_
      refine ix_icmp_ge (tgt := 79) hx hb dX2_take_56 (by decide) (by decide) (by decide) (fun c5 => absurd c5 (by decide)) (fun _ => ?_)
      refine lv_aload_n hx hb dX2_take_59 rfl (lv_at hl 1 rfl) ?_
      refine va_get (D := (dC, dI)) (ci := 2) (v := .ref r) (C := RX2) (T := TX2) (N := 17) hx hb hw inX2 hown hK hP 0 rfl rfl 2 (by decide) (hw _ mA_383) (fun _ h9 => h9) rfl dX2_take_60 ?_
      refine lv_iload hx hb dX2_take_63 (lv_at hl 0 rfl) ?_
      refine lv_aload_n hx hb dX2_take_65 rfl (lv_at hl 1 rfl) ?_
      refine va_get (D := (dC, dI)) (ci := 2) (v := .ref d) (C := RX2) (T := TX2) (N := 17) hx hb hw inX2 hown hK hP 0 rfl rfl 3 (by decide) (hw _ mA_384) (fun _ h9 => h9) rfl dX2_take_66 ?_
      refine lv_iload hx hb dX2_take_69 (lv_at hl 0 rfl) ?_
      refine ix_lald (k := 0) hx hb hK hP 2 1 rfl rfl (by decide) (by decide) (by decide) dX2_take_71 ?_
      refine ix_last (k := 0) (x := u1 0) hx hb hK hP hD hS 1 1 rfl rfl (by decide) (by decide) (by decide) dX2_take_72 (fun H locs hP hD hS => ?_)
      have hP : va_P (dC, dI) vwCl [(x, .inr (2, [.int (iI cd), .ref n, .ref r, .ref d, .int (iI cn), .int (iI fc), .ref ya, .ref yb, .ref yc, .ref yo, .long (lI (X 0)), .long (lI (X 1)), .long (lI (X 2)), .long (lI (X 3)), .long (lI (X 4)), .long (lI (X 5)), .long (lI (X 6))])), (r, .inl (cJ, 5, .inr (.inl (aL (iu R 0 (u1 0)))))), (d, .inl (cJ, 5, .inr (.inl (aL u1)))), (ya, .inl (cI, 5, .inl (aI (iu As fc a)))), (yb, .inl (cI, 5, .inl (aI (iu Bs fc b)))), (yc, .inl (cI, 5, .inl (aI (iu Cs fc k)))), (yo, .inl (cI, 5, .inl (aI (iu Os fc tt))))] H := hP
      have hD : va_D A [(x, .inr (2, [.int (iI cd), .ref n, .ref r, .ref d, .int (iI cn), .int (iI fc), .ref ya, .ref yb, .ref yc, .ref yo, .long (lI (X 0)), .long (lI (X 1)), .long (lI (X 2)), .long (lI (X 3)), .long (lI (X 4)), .long (lI (X 5)), .long (lI (X 6))])), (r, .inl (cJ, 5, .inr (.inl (aL (iu R 0 (u1 0)))))), (d, .inl (cJ, 5, .inr (.inl (aL u1)))), (ya, .inl (cI, 5, .inl (aI (iu As fc a)))), (yb, .inl (cI, 5, .inl (aI (iu Bs fc b)))), (yc, .inl (cI, 5, .inl (aI (iu Cs fc k)))), (yo, .inl (cI, 5, .inl (aI (iu Os fc tt))))] := hD
      refine ix_iinc (k := 0) (lv2 := [(4, .int (iI 1)), (0, .ref x), (1, .int (iI a)), (2, .int (iI b)), (3, .int (iI k))]) hx hb dX2_take_73 hl rfl (by decide) rfl (fun ls hl => ?_)
      refine lv_goto (tgt := 53) hx hb dX2_take_76 (by decide) ?_
      refine lv_iload hx hb dX2_take_53 (lv_at hl 0 rfl) ?_
      refine ix_iconst (n := 5) hx hb dX2_take_55 ?_
      refine ix_icmp_ge (tgt := 79) hx hb dX2_take_56 (by decide) (by decide) (by decide) (fun c6 => absurd c6 (by decide)) (fun _ => ?_)
      refine lv_aload_n hx hb dX2_take_59 rfl (lv_at hl 1 rfl) ?_
      refine va_get (D := (dC, dI)) (ci := 2) (v := .ref r) (C := RX2) (T := TX2) (N := 17) hx hb hw inX2 hown hK hP 0 rfl rfl 2 (by decide) (hw _ mA_383) (fun _ h9 => h9) rfl dX2_take_60 ?_
      refine lv_iload hx hb dX2_take_63 (lv_at hl 0 rfl) ?_
      refine lv_aload_n hx hb dX2_take_65 rfl (lv_at hl 1 rfl) ?_
      refine va_get (D := (dC, dI)) (ci := 2) (v := .ref d) (C := RX2) (T := TX2) (N := 17) hx hb hw inX2 hown hK hP 0 rfl rfl 3 (by decide) (hw _ mA_384) (fun _ h9 => h9) rfl dX2_take_66 ?_
      refine lv_iload hx hb dX2_take_69 (lv_at hl 0 rfl) ?_
      refine ix_lald (k := 1) hx hb hK hP 2 1 rfl rfl (by decide) (by decide) (by decide) dX2_take_71 ?_
      refine ix_last (k := 1) (x := u1 1) hx hb hK hP hD hS 1 1 rfl rfl (by decide) (by decide) (by decide) dX2_take_72 (fun H locs hP hD hS => ?_)
      have hP : va_P (dC, dI) vwCl [(x, .inr (2, [.int (iI cd), .ref n, .ref r, .ref d, .int (iI cn), .int (iI fc), .ref ya, .ref yb, .ref yc, .ref yo, .long (lI (X 0)), .long (lI (X 1)), .long (lI (X 2)), .long (lI (X 3)), .long (lI (X 4)), .long (lI (X 5)), .long (lI (X 6))])), (r, .inl (cJ, 5, .inr (.inl (aL (iu (iu R 0 (u1 0)) 1 (u1 1)))))), (d, .inl (cJ, 5, .inr (.inl (aL u1)))), (ya, .inl (cI, 5, .inl (aI (iu As fc a)))), (yb, .inl (cI, 5, .inl (aI (iu Bs fc b)))), (yc, .inl (cI, 5, .inl (aI (iu Cs fc k)))), (yo, .inl (cI, 5, .inl (aI (iu Os fc tt))))] H := hP
      have hD : va_D A [(x, .inr (2, [.int (iI cd), .ref n, .ref r, .ref d, .int (iI cn), .int (iI fc), .ref ya, .ref yb, .ref yc, .ref yo, .long (lI (X 0)), .long (lI (X 1)), .long (lI (X 2)), .long (lI (X 3)), .long (lI (X 4)), .long (lI (X 5)), .long (lI (X 6))])), (r, .inl (cJ, 5, .inr (.inl (aL (iu (iu R 0 (u1 0)) 1 (u1 1)))))), (d, .inl (cJ, 5, .inr (.inl (aL u1)))), (ya, .inl (cI, 5, .inl (aI (iu As fc a)))), (yb, .inl (cI, 5, .inl (aI (iu Bs fc b)))), (yc, .inl (cI, 5, .inl (aI (iu Cs fc k)))), (yo, .inl (cI, 5, .inl (aI (iu Os fc tt))))] := hD
      refine ix_iinc (k := 0) (lv2 := [(4, .int (iI 2)), (0, .ref x), (1, .int (iI a)), (2, .int (iI b)), (3, .int (iI k))]) hx hb dX2_take_73 hl rfl (by decide) rfl (fun ls hl => ?_)
      refine lv_goto (tgt := 53) hx hb dX2_take_76 (by decide) ?_
      refine lv_iload hx hb dX2_take_53 (lv_at hl 0 rfl) ?_
      refine ix_iconst (n := 5) hx hb dX2_take_55 ?_
      refine ix_icmp_ge (tgt := 79) hx hb dX2_take_56 (by decide) (by decide) (by decide) (fun c7 => absurd c7 (by decide)) (fun _ => ?_)
      refine lv_aload_n hx hb dX2_take_59 rfl (lv_at hl 1 rfl) ?_
      refine va_get (D := (dC, dI)) (ci := 2) (v := .ref r) (C := RX2) (T := TX2) (N := 17) hx hb hw inX2 hown hK hP 0 rfl rfl 2 (by decide) (hw _ mA_383) (fun _ h9 => h9) rfl dX2_take_60 ?_
      refine lv_iload hx hb dX2_take_63 (lv_at hl 0 rfl) ?_
      refine lv_aload_n hx hb dX2_take_65 rfl (lv_at hl 1 rfl) ?_
      refine va_get (D := (dC, dI)) (ci := 2) (v := .ref d) (C := RX2) (T := TX2) (N := 17) hx hb hw inX2 hown hK hP 0 rfl rfl 3 (by decide) (hw _ mA_384) (fun _ h9 => h9) rfl dX2_take_66 ?_
      refine lv_iload hx hb dX2_take_69 (lv_at hl 0 rfl) ?_
      refine ix_lald (k := 2) hx hb hK hP 2 1 rfl rfl (by decide) (by decide) (by decide) dX2_take_71 ?_
      refine ix_last (k := 2) (x := u1 2) hx hb hK hP hD hS 1 1 rfl rfl (by decide) (by decide) (by decide) dX2_take_72 (fun H locs hP hD hS => ?_)
      have hP : va_P (dC, dI) vwCl [(x, .inr (2, [.int (iI cd), .ref n, .ref r, .ref d, .int (iI cn), .int (iI fc), .ref ya, .ref yb, .ref yc, .ref yo, .long (lI (X 0)), .long (lI (X 1)), .long (lI (X 2)), .long (lI (X 3)), .long (lI (X 4)), .long (lI (X 5)), .long (lI (X 6))])), (r, .inl (cJ, 5, .inr (.inl (aL (iu (iu (iu R 0 (u1 0)) 1 (u1 1)) 2 (u1 2)))))), (d, .inl (cJ, 5, .inr (.inl (aL u1)))), (ya, .inl (cI, 5, .inl (aI (iu As fc a)))), (yb, .inl (cI, 5, .inl (aI (iu Bs fc b)))), (yc, .inl (cI, 5, .inl (aI (iu Cs fc k)))), (yo, .inl (cI, 5, .inl (aI (iu Os fc tt))))] H := hP
      have hD : va_D A [(x, .inr (2, [.int (iI cd), .ref n, .ref r, .ref d, .int (iI cn), .int (iI fc), .ref ya, .ref yb, .ref yc, .ref yo, .long (lI (X 0)), .long (lI (X 1)), .long (lI (X 2)), .long (lI (X 3)), .long (lI (X 4)), .long (lI (X 5)), .long (lI (X 6))])), (r, .inl (cJ, 5, .inr (.inl (aL (iu (iu (iu R 0 (u1 0)) 1 (u1 1)) 2 (u1 2)))))), (d, .inl (cJ, 5, .inr (.inl (aL u1)))), (ya, .inl (cI, 5, .inl (aI (iu As fc a)))), (yb, .inl (cI, 5, .inl (aI (iu Bs fc b)))), (yc, .inl (cI, 5, .inl (aI (iu Cs fc k)))), (yo, .inl (cI, 5, .inl (aI (iu Os fc tt))))] := hD
      refine ix_iinc (k := 0) (lv2 := [(4, .int (iI 3)), (0, .ref x), (1, .int (iI a)), (2, .int (iI b)), (3, .int (iI k))]) hx hb dX2_take_73 hl rfl (by decide) rfl (fun ls hl => ?_)
      refine lv_goto (tgt := 53) hx hb dX2_take_76 (by decide) ?_
      refine lv_iload hx hb dX2_take_53 (lv_at hl 0 rfl) ?_
      refine ix_iconst (n := 5) hx hb dX2_take_55 ?_
      refine ix_icmp_ge (tgt := 79) hx hb dX2_take_56 (by decide) (by decide) (by decide) (fun c8 => absurd c8 (by decide)) (fun _ => ?_)
      refine lv_aload_n hx hb dX2_take_59 rfl (lv_at hl 1 rfl) ?_
      refine va_get (D := (dC, dI)) (ci := 2) (v := .ref r) (C := RX2) (T := TX2) (N := 17) hx hb hw inX2 hown hK hP 0 rfl rfl 2 (by decide) (hw _ mA_383) (fun _ h9 => h9) rfl dX2_take_60 ?_
      refine lv_iload hx hb dX2_take_63 (lv_at hl 0 rfl) ?_
      refine lv_aload_n hx hb dX2_take_65 rfl (lv_at hl 1 rfl) ?_
      refine va_get (D := (dC, dI)) (ci := 2) (v := .ref d) (C := RX2) (T := TX2) (N := 17) hx hb hw inX2 hown hK hP 0 rfl rfl 3 (by decide) (hw _ mA_384) (fun _ h9 => h9) rfl dX2_take_66 ?_
      refine lv_iload hx hb dX2_take_69 (lv_at hl 0 rfl) ?_
      refine ix_lald (k := 3) hx hb hK hP 2 1 rfl rfl (by decide) (by decide) (by decide) dX2_take_71 ?_
      refine ix_last (k := 3) (x := u1 3) hx hb hK hP hD hS 1 1 rfl rfl (by decide) (by decide) (by decide) dX2_take_72 (fun H locs hP hD hS => ?_)
      have hP : va_P (dC, dI) vwCl [(x, .inr (2, [.int (iI cd), .ref n, .ref r, .ref d, .int (iI cn), .int (iI fc), .ref ya, .ref yb, .ref yc, .ref yo, .long (lI (X 0)), .long (lI (X 1)), .long (lI (X 2)), .long (lI (X 3)), .long (lI (X 4)), .long (lI (X 5)), .long (lI (X 6))])), (r, .inl (cJ, 5, .inr (.inl (aL (iu (iu (iu (iu R 0 (u1 0)) 1 (u1 1)) 2 (u1 2)) 3 (u1 3)))))), (d, .inl (cJ, 5, .inr (.inl (aL u1)))), (ya, .inl (cI, 5, .inl (aI (iu As fc a)))), (yb, .inl (cI, 5, .inl (aI (iu Bs fc b)))), (yc, .inl (cI, 5, .inl (aI (iu Cs fc k)))), (yo, .inl (cI, 5, .inl (aI (iu Os fc tt))))] H := hP
      have hD : va_D A [(x, .inr (2, [.int (iI cd), .ref n, .ref r, .ref d, .int (iI cn), .int (iI fc), .ref ya, .ref yb, .ref yc, .ref yo, .long (lI (X 0)), .long (lI (X 1)), .long (lI (X 2)), .long (lI (X 3)), .long (lI (X 4)), .long (lI (X 5)), .long (lI (X 6))])), (r, .inl (cJ, 5, .inr (.inl (aL (iu (iu (iu (iu R 0 (u1 0)) 1 (u1 1)) 2 (u1 2)) 3 (u1 3)))))), (d, .inl (cJ, 5, .inr (.inl (aL u1)))), (ya, .inl (cI, 5, .inl (aI (iu As fc a)))), (yb, .inl (cI, 5, .inl (aI (iu Bs fc b)))), (yc, .inl (cI, 5, .inl (aI (iu Cs fc k)))), (yo, .inl (cI, 5, .inl (aI (iu Os fc tt))))] := hD
      refine ix_iinc (k := 0) (lv2 := [(4, .int (iI 4)), (0, .ref x), (1, .int (iI a)), (2, .int (iI b)), (3, .int (iI k))]) hx hb dX2_take_73 hl rfl (by decide) rfl (fun ls hl => ?_)
      refine lv_goto (tgt := 53) hx hb dX2_take_76 (by decide) ?_
      refine lv_iload hx hb dX2_take_53 (lv_at hl 0 rfl) ?_
      refine ix_iconst (n := 5) hx hb dX2_take_55 ?_
      refine ix_icmp_ge (tgt := 79) hx hb dX2_take_56 (by decide) (by decide) (by decide) (fun c9 => absurd c9 (by decide)) (fun _ => ?_)
      refine lv_aload_n hx hb dX2_take_59 rfl (lv_at hl 1 rfl) ?_
      refine va_get (D := (dC, dI)) (ci := 2) (v := .ref r) (C := RX2) (T := TX2) (N := 17) hx hb hw inX2 hown hK hP 0 rfl rfl 2 (by decide) (hw _ mA_383) (fun _ h9 => h9) rfl dX2_take_60 ?_
      refine lv_iload hx hb dX2_take_63 (lv_at hl 0 rfl) ?_
      refine lv_aload_n hx hb dX2_take_65 rfl (lv_at hl 1 rfl) ?_
      refine va_get (D := (dC, dI)) (ci := 2) (v := .ref d) (C := RX2) (T := TX2) (N := 17) hx hb hw inX2 hown hK hP 0 rfl rfl 3 (by decide) (hw _ mA_384) (fun _ h9 => h9) rfl dX2_take_66 ?_
      refine lv_iload hx hb dX2_take_69 (lv_at hl 0 rfl) ?_
      refine ix_lald (k := 4) hx hb hK hP 2 1 rfl rfl (by decide) (by decide) (by decide) dX2_take_71 ?_
      refine ix_last (k := 4) (x := u1 4) hx hb hK hP hD hS 1 1 rfl rfl (by decide) (by decide) (by decide) dX2_take_72 (fun H locs hP hD hS => ?_)
      have hP : va_P (dC, dI) vwCl [(x, .inr (2, [.int (iI cd), .ref n, .ref r, .ref d, .int (iI cn), .int (iI fc), .ref ya, .ref yb, .ref yc, .ref yo, .long (lI (X 0)), .long (lI (X 1)), .long (lI (X 2)), .long (lI (X 3)), .long (lI (X 4)), .long (lI (X 5)), .long (lI (X 6))])), (r, .inl (cJ, 5, .inr (.inl (aL (iu (iu (iu (iu (iu R 0 (u1 0)) 1 (u1 1)) 2 (u1 2)) 3 (u1 3)) 4 (u1 4)))))), (d, .inl (cJ, 5, .inr (.inl (aL u1)))), (ya, .inl (cI, 5, .inl (aI (iu As fc a)))), (yb, .inl (cI, 5, .inl (aI (iu Bs fc b)))), (yc, .inl (cI, 5, .inl (aI (iu Cs fc k)))), (yo, .inl (cI, 5, .inl (aI (iu Os fc tt))))] H := hP
      have hD : va_D A [(x, .inr (2, [.int (iI cd), .ref n, .ref r, .ref d, .int (iI cn), .int (iI fc), .ref ya, .ref yb, .ref yc, .ref yo, .long (lI (X 0)), .long (lI (X 1)), .long (lI (X 2)), .long (lI (X 3)), .long (lI (X 4)), .long (lI (X 5)), .long (lI (X 6))])), (r, .inl (cJ, 5, .inr (.inl (aL (iu (iu (iu (iu (iu R 0 (u1 0)) 1 (u1 1)) 2 (u1 2)) 3 (u1 3)) 4 (u1 4)))))), (d, .inl (cJ, 5, .inr (.inl (aL u1)))), (ya, .inl (cI, 5, .inl (aI (iu As fc a)))), (yb, .inl (cI, 5, .inl (aI (iu Bs fc b)))), (yc, .inl (cI, 5, .inl (aI (iu Cs fc k)))), (yo, .inl (cI, 5, .inl (aI (iu Os fc tt))))] := hD
      refine ix_iinc (k := 0) (lv2 := [(4, .int (iI 5)), (0, .ref x), (1, .int (iI a)), (2, .int (iI b)), (3, .int (iI k))]) hx hb dX2_take_73 hl rfl (by decide) rfl (fun ls hl => ?_)
      refine lv_goto (tgt := 53) hx hb dX2_take_76 (by decide) ?_
      refine lv_iload hx hb dX2_take_53 (lv_at hl 0 rfl) ?_
      refine ix_iconst (n := 5) hx hb dX2_take_55 ?_
      refine ix_icmp_ge (tgt := 79) hx hb dX2_take_56 (by decide) (by decide) (by decide) (fun _ => ?_) (fun c10 => absurd c10 (by decide))
      rw [cp5 g1 hq2.1] at hP hD
      refine lv_aload_n hx hb dX2_take_79 rfl (lv_at hl 1 rfl) ?_
      refine va_get (D := (dC, dI)) (ci := 2) (v := .ref yo) (C := RX2) (T := TX2) (N := 17) hx hb hw inX2 hown hK hP 0 rfl rfl 9 (by decide) (hw _ mA_390) (fun _ h9 => h9) rfl dX2_take_80 ?_
      refine lv_aload_n hx hb dX2_take_83 rfl (lv_at hl 1 rfl) ?_
      refine va_get (D := (dC, dI)) (ci := 2) (v := .int (iI fc)) (C := RX2) (T := TX2) (N := 17) hx hb hw inX2 hown hK hP 0 rfl rfl 5 (by decide) (hw _ mA_386) (fun _ h9 => h9) rfl dX2_take_84 ?_
      refine lv_dup2_11 hx hb dX2_take_87 rfl rfl ?_
      refine ix_iald (k := fc) hx hb hK hP 6 0 rfl rfl (by omega) (by omega) (by decide) dX2_take_88 ?_
      refine ix_iconst (n := 1) hx hb dX2_take_89 ?_
      refine ix_iadd hx hb dX2_take_90 ?_
      refine ix_iast (k := fc) (x := ((iu Os fc tt) fc) + 1) hx hb hK hP hD hS 6 0 rfl rfl (by omega) (by omega) (by decide) dX2_take_91 (fun H locs hP hD hS => ?_)
      have hP : va_P (dC, dI) vwCl [(x, .inr (2, [.int (iI cd), .ref n, .ref r, .ref d, .int (iI cn), .int (iI fc), .ref ya, .ref yb, .ref yc, .ref yo, .long (lI (X 0)), .long (lI (X 1)), .long (lI (X 2)), .long (lI (X 3)), .long (lI (X 4)), .long (lI (X 5)), .long (lI (X 6))])), (r, .inl (cJ, 5, .inr (.inl (aL u1)))), (d, .inl (cJ, 5, .inr (.inl (aL u1)))), (ya, .inl (cI, 5, .inl (aI (iu As fc a)))), (yb, .inl (cI, 5, .inl (aI (iu Bs fc b)))), (yc, .inl (cI, 5, .inl (aI (iu Cs fc k)))), (yo, .inl (cI, 5, .inl (aI (iu (iu Os fc tt) fc (((iu Os fc tt) fc) + 1)))))] H := hP
      have hD : va_D A [(x, .inr (2, [.int (iI cd), .ref n, .ref r, .ref d, .int (iI cn), .int (iI fc), .ref ya, .ref yb, .ref yc, .ref yo, .long (lI (X 0)), .long (lI (X 1)), .long (lI (X 2)), .long (lI (X 3)), .long (lI (X 4)), .long (lI (X 5)), .long (lI (X 6))])), (r, .inl (cJ, 5, .inr (.inl (aL u1)))), (d, .inl (cJ, 5, .inr (.inl (aL u1)))), (ya, .inl (cI, 5, .inl (aI (iu As fc a)))), (yb, .inl (cI, 5, .inl (aI (iu Bs fc b)))), (yc, .inl (cI, 5, .inl (aI (iu Cs fc k)))), (yo, .inl (cI, 5, .inl (aI (iu (iu Os fc tt) fc (((iu Os fc tt) fc) + 1)))))] := hD
      refine lv_goto (tgt := 40) hx hb dX2_take_92 (by decide) ?_
      rw [iu_s, iu_iu] at hP hD
      obtain ⟨k1, k2, -⟩ := deg_dvs hab g1 hq2.1 q2 g2
      have en : (tt + 1).toNat = tt.toNat + 1 := by omega
      exact ih (tt + 1) u1 u1 (by omega) (hcl _ _ hR hq2.1 q2) hq2.1 (by rw [en]; exact dvN_end _ _ _ _ hN hq2.1 q2) (by by_cases z : a = 0; rw [if_pos z] at k2; omega; rw [if_neg z] at k2; omega) _ _ hK hP hD hS ls (lv_sub hl [1, 2, 3, 4] rfl)
    · rw [q1]
      refine ix_if_eq (tgt := 95) hx hb dX2_take_47 (by decide) (by decide) (fun _ => ?_) (fun c11 => absurd c11 (by decide))
      refine lv_aload_n hx hb dX2_take_95 rfl (lv_at hl 0 rfl) ?_
      refine va_get (D := (dC, dI)) (ci := 2) (v := .ref yo) (C := RX2) (T := TX2) (N := 17) hx hb hw inX2 hown hK hP 0 rfl rfl 9 (by decide) (hw _ mA_390) (fun _ h9 => h9) rfl dX2_take_96 ?_
      refine lv_aload_n hx hb dX2_take_99 rfl (lv_at hl 0 rfl) ?_
      refine va_get (D := (dC, dI)) (ci := 2) (v := .int (iI fc)) (C := RX2) (T := TX2) (N := 17) hx hb hw inX2 hown hK hP 0 rfl rfl 5 (by decide) (hw _ mA_386) (fun _ h9 => h9) rfl dX2_take_100 ?_
      refine ix_iald (k := fc) hx hb hK hP 6 0 rfl rfl (by omega) (by omega) (by decide) dX2_take_103 ?_
      refine ix_z (y := tt) iu_s ?_
      refine ix_if_le (tgt := 117) hx hb dX2_take_104 (by decide) (by have := dvN_4 hab ht0 h05 h00 hN; omega) (fun c12 => ?_) (fun c12 => ?_)
      · have ht4 := dvN_4 hab ht0 h05 h00 hN
        have et : (if tt = 0 then fc else fc + 1) = fc := if_pos (by omega)
        have hP : va_P (dC, dI) vwCl [(x, .inr (2, [.int (iI cd), .ref n, .ref r, .ref d, .int (iI cn), .int (iI (if tt = 0 then fc else fc + 1)), .ref ya, .ref yb, .ref yc, .ref yo, .long (lI (X 0)), .long (lI (X 1)), .long (lI (X 2)), .long (lI (X 3)), .long (lI (X 4)), .long (lI (X 5)), .long (lI (X 6))])), (r, .inl (cJ, 5, .inr (.inl (aL R)))), (d, .inl (cJ, 5, .inr (.inl (aL u1)))), (ya, .inl (cI, 5, .inl (aI (iu As fc a)))), (yb, .inl (cI, 5, .inl (aI (iu Bs fc b)))), (yc, .inl (cI, 5, .inl (aI (iu Cs fc k)))), (yo, .inl (cI, 5, .inl (aI (iu Os fc tt))))] H := by rw [et]; exact hP
        have hD : va_D A [(x, .inr (2, [.int (iI cd), .ref n, .ref r, .ref d, .int (iI cn), .int (iI (if tt = 0 then fc else fc + 1)), .ref ya, .ref yb, .ref yc, .ref yo, .long (lI (X 0)), .long (lI (X 1)), .long (lI (X 2)), .long (lI (X 3)), .long (lI (X 4)), .long (lI (X 5)), .long (lI (X 6))])), (r, .inl (cJ, 5, .inr (.inl (aL R)))), (d, .inl (cJ, 5, .inr (.inl (aL u1)))), (ya, .inl (cI, 5, .inl (aI (iu As fc a)))), (yb, .inl (cI, 5, .inl (aI (iu Bs fc b)))), (yc, .inl (cI, 5, .inl (aI (iu Cs fc k)))), (yo, .inl (cI, 5, .inl (aI (iu Os fc tt))))] := by rw [et]; exact hD
        have hP9 := hP.sub (ws' := [(x, .inr (2, [.int (iI cd), .ref n, .ref r, .ref d, .int (iI cn), .int (iI (if tt = 0 then fc else fc + 1)), .ref ya, .ref yb, .ref yc, .ref yo, .long (lI (X 0)), .long (lI (X 1)), .long (lI (X 2)), .long (lI (X 3)), .long (lI (X 4)), .long (lI (X 5)), .long (lI (X 6))])), (r, .inl (cJ, 5, .inr (.inl (aL R)))), (d, .inl (cJ, 5, .inr (.inl (aL u1)))), (ya, .inl (cI, 5, .inl (aI (iu As fc a)))), (yb, .inl (cI, 5, .inl (aI (iu Bs fc b)))), (yc, .inl (cI, 5, .inl (aI (iu Cs fc k)))), (yo, .inl (cI, 5, .inl (aI (iu Os fc tt))))]) [0, 1, 2, 3, 4, 5, 6] rfl
        have hD9 := hD.sub (ws' := [(x, .inr (2, [.int (iI cd), .ref n, .ref r, .ref d, .int (iI cn), .int (iI (if tt = 0 then fc else fc + 1)), .ref ya, .ref yb, .ref yc, .ref yo, .long (lI (X 0)), .long (lI (X 1)), .long (lI (X 2)), .long (lI (X 3)), .long (lI (X 4)), .long (lI (X 5)), .long (lI (X 6))])), (r, .inl (cJ, 5, .inr (.inl (aL R)))), (d, .inl (cJ, 5, .inr (.inl (aL u1)))), (ya, .inl (cI, 5, .inl (aI (iu As fc a)))), (yb, .inl (cI, 5, .inl (aI (iu Bs fc b)))), (yc, .inl (cI, 5, .inl (aI (iu Cs fc k)))), (yo, .inl (cI, 5, .inl (aI (iu Os fc tt))))]) [0, 1, 2, 3, 4, 5, 6] (by decide) rfl
        have hK9 := hK.sub (tys' := [(cI, .int), (cJ, .long)]) [0, 1] rfl
        exact W.vret hx hb hr (fun t ht hW => ⟨⟨(tt, R, u1), rfl, ⟨ht0, ht4, ⟨hN, q2⟩, hq2.1, hR⟩, by rw [ht]; exact hP9, va_K.moved hW.alike hK9, hD9⟩, hS.F ht⟩) hS.2.2 dX2_take_117
      · refine lv_aload_n hx hb dX2_take_107 rfl (lv_at hl 0 rfl) ?_
        refine lv_dup hx hb dX2_take_108 rfl ?_
        refine va_get (D := (dC, dI)) (ci := 2) (v := .int (iI fc)) (C := RX2) (T := TX2) (N := 17) hx hb hw inX2 hown hK hP 0 rfl rfl 5 (by decide) (hw _ mA_386) (fun _ h9 => h9) rfl dX2_take_109 ?_
        refine ix_iconst (n := 1) hx hb dX2_take_112 ?_
        refine ix_iadd hx hb dX2_take_113 ?_
        refine va_put (D := (dC, dI)) (ci := 2) (v := .int (iI (fc + 1))) (ty := .int) (C := RX2) (T := TX2) (N := 17) hx hb hw inX2 tyX2 tyX2_ok nmX2 hown hK hP hD hS 0 rfl rfl 5 (by decide) (hw _ mA_386) (fun _ h9 => h9) rfl (by decide +kernel) rfl rfl (Nat.le_of_ble_eq_true rfl) dX2_take_114 (fun H locs hP hD hS => ?_)
        have hP : va_P (dC, dI) vwCl [(x, .inr (2, [.int (iI cd), .ref n, .ref r, .ref d, .int (iI cn), .int (iI (fc + 1)), .ref ya, .ref yb, .ref yc, .ref yo, .long (lI (X 0)), .long (lI (X 1)), .long (lI (X 2)), .long (lI (X 3)), .long (lI (X 4)), .long (lI (X 5)), .long (lI (X 6))])), (r, .inl (cJ, 5, .inr (.inl (aL R)))), (d, .inl (cJ, 5, .inr (.inl (aL u1)))), (ya, .inl (cI, 5, .inl (aI (iu As fc a)))), (yb, .inl (cI, 5, .inl (aI (iu Bs fc b)))), (yc, .inl (cI, 5, .inl (aI (iu Cs fc k)))), (yo, .inl (cI, 5, .inl (aI (iu Os fc tt))))] H := hP
        have hD : va_D A [(x, .inr (2, [.int (iI cd), .ref n, .ref r, .ref d, .int (iI cn), .int (iI (fc + 1)), .ref ya, .ref yb, .ref yc, .ref yo, .long (lI (X 0)), .long (lI (X 1)), .long (lI (X 2)), .long (lI (X 3)), .long (lI (X 4)), .long (lI (X 5)), .long (lI (X 6))])), (r, .inl (cJ, 5, .inr (.inl (aL R)))), (d, .inl (cJ, 5, .inr (.inl (aL u1)))), (ya, .inl (cI, 5, .inl (aI (iu As fc a)))), (yb, .inl (cI, 5, .inl (aI (iu Bs fc b)))), (yc, .inl (cI, 5, .inl (aI (iu Cs fc k)))), (yo, .inl (cI, 5, .inl (aI (iu Os fc tt))))] := hD
        have ht4 := dvN_4 hab ht0 h05 h00 hN
        have et : (if tt = 0 then fc else fc + 1) = fc + 1 := if_neg (by omega)
        have hP : va_P (dC, dI) vwCl [(x, .inr (2, [.int (iI cd), .ref n, .ref r, .ref d, .int (iI cn), .int (iI (if tt = 0 then fc else fc + 1)), .ref ya, .ref yb, .ref yc, .ref yo, .long (lI (X 0)), .long (lI (X 1)), .long (lI (X 2)), .long (lI (X 3)), .long (lI (X 4)), .long (lI (X 5)), .long (lI (X 6))])), (r, .inl (cJ, 5, .inr (.inl (aL R)))), (d, .inl (cJ, 5, .inr (.inl (aL u1)))), (ya, .inl (cI, 5, .inl (aI (iu As fc a)))), (yb, .inl (cI, 5, .inl (aI (iu Bs fc b)))), (yc, .inl (cI, 5, .inl (aI (iu Cs fc k)))), (yo, .inl (cI, 5, .inl (aI (iu Os fc tt))))] H := by rw [et]; exact hP
        have hD : va_D A [(x, .inr (2, [.int (iI cd), .ref n, .ref r, .ref d, .int (iI cn), .int (iI (if tt = 0 then fc else fc + 1)), .ref ya, .ref yb, .ref yc, .ref yo, .long (lI (X 0)), .long (lI (X 1)), .long (lI (X 2)), .long (lI (X 3)), .long (lI (X 4)), .long (lI (X 5)), .long (lI (X 6))])), (r, .inl (cJ, 5, .inr (.inl (aL R)))), (d, .inl (cJ, 5, .inr (.inl (aL u1)))), (ya, .inl (cI, 5, .inl (aI (iu As fc a)))), (yb, .inl (cI, 5, .inl (aI (iu Bs fc b)))), (yc, .inl (cI, 5, .inl (aI (iu Cs fc k)))), (yo, .inl (cI, 5, .inl (aI (iu Os fc tt))))] := by rw [et]; exact hD
        have hP9 := hP.sub (ws' := [(x, .inr (2, [.int (iI cd), .ref n, .ref r, .ref d, .int (iI cn), .int (iI (if tt = 0 then fc else fc + 1)), .ref ya, .ref yb, .ref yc, .ref yo, .long (lI (X 0)), .long (lI (X 1)), .long (lI (X 2)), .long (lI (X 3)), .long (lI (X 4)), .long (lI (X 5)), .long (lI (X 6))])), (r, .inl (cJ, 5, .inr (.inl (aL R)))), (d, .inl (cJ, 5, .inr (.inl (aL u1)))), (ya, .inl (cI, 5, .inl (aI (iu As fc a)))), (yb, .inl (cI, 5, .inl (aI (iu Bs fc b)))), (yc, .inl (cI, 5, .inl (aI (iu Cs fc k)))), (yo, .inl (cI, 5, .inl (aI (iu Os fc tt))))]) [0, 1, 2, 3, 4, 5, 6] rfl
        have hD9 := hD.sub (ws' := [(x, .inr (2, [.int (iI cd), .ref n, .ref r, .ref d, .int (iI cn), .int (iI (if tt = 0 then fc else fc + 1)), .ref ya, .ref yb, .ref yc, .ref yo, .long (lI (X 0)), .long (lI (X 1)), .long (lI (X 2)), .long (lI (X 3)), .long (lI (X 4)), .long (lI (X 5)), .long (lI (X 6))])), (r, .inl (cJ, 5, .inr (.inl (aL R)))), (d, .inl (cJ, 5, .inr (.inl (aL u1)))), (ya, .inl (cI, 5, .inl (aI (iu As fc a)))), (yb, .inl (cI, 5, .inl (aI (iu Bs fc b)))), (yc, .inl (cI, 5, .inl (aI (iu Cs fc k)))), (yo, .inl (cI, 5, .inl (aI (iu Os fc tt))))]) [0, 1, 2, 3, 4, 5, 6] (by decide) rfl
        have hK9 := hK.sub (tys' := [(cI, .int), (cJ, .long)]) [0, 1] rfl
        exact W.vret hx hb hr (fun t ht hW => ⟨⟨(tt, R, u1), rfl, ⟨ht0, ht4, ⟨hN, q2⟩, hq2.1, hR⟩, by rw [ht]; exact hP9, va_K.moved hW.alike hK9, hD9⟩, hS.F ht⟩) hS.2.2 dX2_take_117
set_option maxHeartbeats 4000000 in
set_option maxRecDepth 100000 in
/-- a factor taken out as often as it goes -/
theorem kX2_take (l : Launch) (dC : Nat → ClassId) (dI : Nat → Nat → Nat) (sz : Nat) (x n r d ya yb yc yo : Nat) (cI cJ : ClassId) (cd cn fc : Int) (X : Int → Int) (R D As Bs Cs Os : Int → Int) (a b k : Int) (Pr : (Int → Int) → Prop) (hfc : 0 ≤ fc ∧ fc ≤ 4) (hab : 0 ≤ a ∧ (a = 0 → 1 ≤ b)) (ha9 : a ≤ 20) (hb9 : -240 ≤ b ∧ b ≤ 240) (hk9 : -240 ≤ k ∧ k ≤ 240) (hPL : ∀ S, Pr S → n5 S ∧ 0 ≤ f_deg S ∧ ∀ j, -480 ≤ S j ∧ S j ≤ 480) (hcl : ∀ S Q, Pr S → n5 Q → dvs a b k S Q → Pr Q) (hR : Pr R) (hD5 : n5 D) : Met l yX2_take (.code yX2_take cX2_take 5 none :: wsA) ({ frames := 2, cells := 0, slots := 0, locals := 80 }) (va_Pc [.ref x, .int (iI a), .int (iI b), .int (iI k)] (fun U => U.heap.size = sz ∧ va_P (dC, dI) vwCl [(x, .inr (2, [.int (iI cd), .ref n, .ref r, .ref d, .int (iI cn), .int (iI fc), .ref ya, .ref yb, .ref yc, .ref yo, .long (lI (X 0)), .long (lI (X 1)), .long (lI (X 2)), .long (lI (X 3)), .long (lI (X 4)), .long (lI (X 5)), .long (lI (X 6))])), (r, .inl (cJ, 5, .inr (.inl (aL R)))), (d, .inl (cJ, 5, .inr (.inl (aL D)))), (ya, .inl (cI, 5, .inl (aI As))), (yb, .inl (cI, 5, .inl (aI Bs))), (yc, .inl (cI, 5, .inl (aI Cs))), (yo, .inl (cI, 5, .inl (aI Os)))] U.heap ∧ va_K (dC, dI) vwCl [(cI, .int), (cJ, .long)] U ∧ va_D (fun _ => True) [(x, .inr (2, [.int (iI cd), .ref n, .ref r, .ref d, .int (iI cn), .int (iI fc), .ref ya, .ref yb, .ref yc, .ref yo, .long (lI (X 0)), .long (lI (X 1)), .long (lI (X 2)), .long (lI (X 3)), .long (lI (X 4)), .long (lI (X 5)), .long (lI (X 6))])), (r, .inl (cJ, 5, .inr (.inl (aL R)))), (d, .inl (cJ, 5, .inr (.inl (aL D)))), (ya, .inl (cI, 5, .inl (aI As))), (yb, .inl (cI, 5, .inl (aI Bs))), (yc, .inl (cI, 5, .inl (aI Cs))), (yo, .inl (cI, 5, .inl (aI Os)))] ∧ nb U)) (va_Qv (fun u => 0 ≤ u.1 ∧ u.1 ≤ 4 ∧ tkR a b k u.1 R u.2.1 ∧ n5 u.2.2 ∧ Pr u.2.1) (fun (u : Int × (Int → Int) × (Int → Int)) t9 => va_P (dC, dI) vwCl [(x, .inr (2, [.int (iI cd), .ref n, .ref r, .ref d, .int (iI cn), .int (iI (if u.1 = 0 then fc else fc + 1)), .ref ya, .ref yb, .ref yc, .ref yo, .long (lI (X 0)), .long (lI (X 1)), .long (lI (X 2)), .long (lI (X 3)), .long (lI (X 4)), .long (lI (X 5)), .long (lI (X 6))])), (r, .inl (cJ, 5, .inr (.inl (aL u.2.1)))), (d, .inl (cJ, 5, .inr (.inl (aL u.2.2)))), (ya, .inl (cI, 5, .inl (aI (iu As fc a)))), (yb, .inl (cI, 5, .inl (aI (iu Bs fc b)))), (yc, .inl (cI, 5, .inl (aI (iu Cs fc k)))), (yo, .inl (cI, 5, .inl (aI (iu Os fc u.1))))] t9.heap ∧ va_K (dC, dI) vwCl [(cI, .int), (cJ, .long)] t9 ∧ va_D (va_A [(x, .inr (2, [.int (iI cd), .ref n, .ref r, .ref d, .int (iI cn), .int (iI fc), .ref ya, .ref yb, .ref yc, .ref yo, .long (lI (X 0)), .long (lI (X 1)), .long (lI (X 2)), .long (lI (X 3)), .long (lI (X 4)), .long (lI (X 5)), .long (lI (X 6))])), (r, .inl (cJ, 5, .inr (.inl (aL R)))), (d, .inl (cJ, 5, .inr (.inl (aL D)))), (ya, .inl (cI, 5, .inl (aI As))), (yb, .inl (cI, 5, .inl (aI Bs))), (yc, .inl (cI, 5, .inl (aI Cs))), (yo, .inl (cI, 5, .inl (aI Os)))] sz) [(x, .inr (2, [.int (iI cd), .ref n, .ref r, .ref d, .int (iI cn), .int (iI (if u.1 = 0 then fc else fc + 1)), .ref ya, .ref yb, .ref yc, .ref yo, .long (lI (X 0)), .long (lI (X 1)), .long (lI (X 2)), .long (lI (X 3)), .long (lI (X 4)), .long (lI (X 5)), .long (lI (X 6))])), (r, .inl (cJ, 5, .inr (.inl (aL u.2.1)))), (d, .inl (cJ, 5, .inr (.inl (aL u.2.2)))), (ya, .inl (cI, 5, .inl (aI (iu As fc a)))), (yb, .inl (cI, 5, .inl (aI (iu Bs fc b)))), (yc, .inl (cI, 5, .inl (aI (iu Cs fc k)))), (yo, .inl (cI, 5, .inl (aI (iu Os fc u.1))))]) (va_A [(x, .inr (2, [.int (iI cd), .ref n, .ref r, .ref d, .int (iI cn), .int (iI fc), .ref ya, .ref yb, .ref yc, .ref yo, .long (lI (X 0)), .long (lI (X 1)), .long (lI (X 2)), .long (lI (X 3)), .long (lI (X 4)), .long (lI (X 5)), .long (lI (X 6))])), (r, .inl (cJ, 5, .inr (.inl (aL R)))), (d, .inl (cJ, 5, .inr (.inl (aL D)))), (ya, .inl (cI, 5, .inl (aI As))), (yb, .inl (cI, 5, .inl (aI Bs))), (yc, .inl (cI, 5, .inl (aI Cs))), (yo, .inl (cI, 5, .inl (aI Os)))] sz)) 0 0 (va_A [(x, .inr (2, [.int (iI cd), .ref n, .ref r, .ref d, .int (iI cn), .int (iI fc), .ref ya, .ref yb, .ref yc, .ref yo, .long (lI (X 0)), .long (lI (X 1)), .long (lI (X 2)), .long (lI (X 3)), .long (lI (X 4)), .long (lI (X 5)), .long (lI (X 6))])), (r, .inl (cJ, 5, .inr (.inl (aL R)))), (d, .inl (cJ, 5, .inr (.inl (aL D)))), (ya, .inl (cI, 5, .inl (aI As))), (yb, .inl (cI, 5, .inl (aI Bs))), (yc, .inl (cI, 5, .inl (aI Cs))), (yo, .inl (cI, 5, .inl (aI Os)))] sz) := by
  refine Met.ofW (cc := cX2_take) (maxL := 5) (ret := none) (by decide) rfl ?_
  intro p e s m args below meth c s₁ B hml hv
  obtain ⟨rfl, hsz, hP, hK, hD0, hnb⟩ := hv
  have hx := B.exec
  have hb := B.bytes
  have hr := B.returns
  have hts := atoms_spec (ws := .code yX2_take cX2_take 5 none :: wsA) B.pre
  have hw : ∀ w ∈ wsA, w.before _ s = true := fun w h => hts w (List.mem_cons_of_mem _ h)
  have hown : s.vm.findClass RX2 = some m.cls := findClass_of_methodNamed B.named
  have hlocks := B.notSynchronized
  subst hsz
  have hD := hD0.self (sz := s.heap.size)
  generalize hAe : va_A [(x, .inr (2, [.int (iI cd), .ref n, .ref r, .ref d, .int (iI cn), .int (iI fc), .ref ya, .ref yb, .ref yc, .ref yo, .long (lI (X 0)), .long (lI (X 1)), .long (lI (X 2)), .long (lI (X 3)), .long (lI (X 4)), .long (lI (X 5)), .long (lI (X 6))])), (r, .inl (cJ, 5, .inr (.inl (aL R)))), (d, .inl (cJ, 5, .inr (.inl (aL D)))), (ya, .inl (cI, 5, .inl (aI As))), (yb, .inl (cI, 5, .inl (aI Bs))), (yc, .inl (cI, 5, .inl (aI Cs))), (yo, .inl (cI, 5, .inl (aI Os)))] s.heap.size = A at hD ⊢
  have hA : ∀ q : Nat, s.heap.size ≤ q → A q := fun q h => by rw [← hAe]; exact Or.inr h
  have hS : va_S A s.heap s.heap [] := va_S.rf
  have hP : va_P (dC, dI) vwCl [(x, .inr (2, [.int (iI cd), .ref n, .ref r, .ref d, .int (iI cn), .int (iI fc), .ref ya, .ref yb, .ref yc, .ref yo, .long (lI (X 0)), .long (lI (X 1)), .long (lI (X 2)), .long (lI (X 3)), .long (lI (X 4)), .long (lI (X 5)), .long (lI (X 6))])), (r, .inl (cJ, 5, .inr (.inl (aL R)))), (d, .inl (cJ, 5, .inr (.inl (aL D)))), (ya, .inl (cI, 5, .inl (aI As))), (yb, .inl (cI, 5, .inl (aI Bs))), (yc, .inl (cI, 5, .inl (aI Cs))), (yo, .inl (cI, 5, .inl (aI Os)))] s.heap := hP
  have hl := lv_entry ([.ref x, .int (iI a), .int (iI b), .int (iI k)]) (n := 5) (Nat.le_of_ble_eq_true rfl)
  rw [lg_entry_eq]
  generalize (lg_sl ([.ref x, .int (iI a), .int (iI b), .int (iI k)]) ++ List.replicate (5 - (lg_sl ([.ref x, .int (iI a), .int (iI b), .int (iI k)])).length) Slot.unset).toArray = ls at hl ⊢
  have hl : lv_has ls 5 [(0, .ref x), (1, .int (iI a)), (2, .int (iI b)), (3, .int (iI k))] := hl
  refine lv_aload_n hx hb dX2_take_0 rfl (lv_at hl 0 rfl) ?_
  refine va_get (D := (dC, dI)) (ci := 2) (v := .ref ya) (C := RX2) (T := TX2) (N := 17) hx hb hw inX2 hown hK hP 0 rfl rfl 6 (by decide) (hw _ mA_387) (fun _ h9 => h9) rfl dX2_take_1 ?_
  refine lv_aload_n hx hb dX2_take_4 rfl (lv_at hl 0 rfl) ?_
  refine va_get (D := (dC, dI)) (ci := 2) (v := .int (iI fc)) (C := RX2) (T := TX2) (N := 17) hx hb hw inX2 hown hK hP 0 rfl rfl 5 (by decide) (hw _ mA_386) (fun _ h9 => h9) rfl dX2_take_5 ?_
  refine lv_iload_n hx hb dX2_take_8 rfl (lv_at hl 1 rfl) ?_
  refine ix_iast (k := fc) (x := a) hx hb hK hP hD hS 3 0 rfl rfl (by omega) (by omega) (by decide) dX2_take_9 (fun H locs hP hD hS => ?_)
  have hP : va_P (dC, dI) vwCl [(x, .inr (2, [.int (iI cd), .ref n, .ref r, .ref d, .int (iI cn), .int (iI fc), .ref ya, .ref yb, .ref yc, .ref yo, .long (lI (X 0)), .long (lI (X 1)), .long (lI (X 2)), .long (lI (X 3)), .long (lI (X 4)), .long (lI (X 5)), .long (lI (X 6))])), (r, .inl (cJ, 5, .inr (.inl (aL R)))), (d, .inl (cJ, 5, .inr (.inl (aL D)))), (ya, .inl (cI, 5, .inl (aI (iu As fc a)))), (yb, .inl (cI, 5, .inl (aI Bs))), (yc, .inl (cI, 5, .inl (aI Cs))), (yo, .inl (cI, 5, .inl (aI Os)))] H := hP
  have hD : va_D A [(x, .inr (2, [.int (iI cd), .ref n, .ref r, .ref d, .int (iI cn), .int (iI fc), .ref ya, .ref yb, .ref yc, .ref yo, .long (lI (X 0)), .long (lI (X 1)), .long (lI (X 2)), .long (lI (X 3)), .long (lI (X 4)), .long (lI (X 5)), .long (lI (X 6))])), (r, .inl (cJ, 5, .inr (.inl (aL R)))), (d, .inl (cJ, 5, .inr (.inl (aL D)))), (ya, .inl (cI, 5, .inl (aI (iu As fc a)))), (yb, .inl (cI, 5, .inl (aI Bs))), (yc, .inl (cI, 5, .inl (aI Cs))), (yo, .inl (cI, 5, .inl (aI Os)))] := hD
  refine lv_aload_n hx hb dX2_take_10 rfl (lv_at hl 0 rfl) ?_
  refine va_get (D := (dC, dI)) (ci := 2) (v := .ref yb) (C := RX2) (T := TX2) (N := 17) hx hb hw inX2 hown hK hP 0 rfl rfl 7 (by decide) (hw _ mA_388) (fun _ h9 => h9) rfl dX2_take_11 ?_
  refine lv_aload_n hx hb dX2_take_14 rfl (lv_at hl 0 rfl) ?_
  refine va_get (D := (dC, dI)) (ci := 2) (v := .int (iI fc)) (C := RX2) (T := TX2) (N := 17) hx hb hw inX2 hown hK hP 0 rfl rfl 5 (by decide) (hw _ mA_386) (fun _ h9 => h9) rfl dX2_take_15 ?_
  refine lv_iload_n hx hb dX2_take_18 rfl (lv_at hl 2 rfl) ?_
  refine ix_iast (k := fc) (x := b) hx hb hK hP hD hS 4 0 rfl rfl (by omega) (by omega) (by decide) dX2_take_19 (fun H locs hP hD hS => ?_)
  have hP : va_P (dC, dI) vwCl [(x, .inr (2, [.int (iI cd), .ref n, .ref r, .ref d, .int (iI cn), .int (iI fc), .ref ya, .ref yb, .ref yc, .ref yo, .long (lI (X 0)), .long (lI (X 1)), .long (lI (X 2)), .long (lI (X 3)), .long (lI (X 4)), .long (lI (X 5)), .long (lI (X 6))])), (r, .inl (cJ, 5, .inr (.inl (aL R)))), (d, .inl (cJ, 5, .inr (.inl (aL D)))), (ya, .inl (cI, 5, .inl (aI (iu As fc a)))), (yb, .inl (cI, 5, .inl (aI (iu Bs fc b)))), (yc, .inl (cI, 5, .inl (aI Cs))), (yo, .inl (cI, 5, .inl (aI Os)))] H := hP
  have hD : va_D A [(x, .inr (2, [.int (iI cd), .ref n, .ref r, .ref d, .int (iI cn), .int (iI fc), .ref ya, .ref yb, .ref yc, .ref yo, .long (lI (X 0)), .long (lI (X 1)), .long (lI (X 2)), .long (lI (X 3)), .long (lI (X 4)), .long (lI (X 5)), .long (lI (X 6))])), (r, .inl (cJ, 5, .inr (.inl (aL R)))), (d, .inl (cJ, 5, .inr (.inl (aL D)))), (ya, .inl (cI, 5, .inl (aI (iu As fc a)))), (yb, .inl (cI, 5, .inl (aI (iu Bs fc b)))), (yc, .inl (cI, 5, .inl (aI Cs))), (yo, .inl (cI, 5, .inl (aI Os)))] := hD
  refine lv_aload_n hx hb dX2_take_20 rfl (lv_at hl 0 rfl) ?_
  refine va_get (D := (dC, dI)) (ci := 2) (v := .ref yc) (C := RX2) (T := TX2) (N := 17) hx hb hw inX2 hown hK hP 0 rfl rfl 8 (by decide) (hw _ mA_389) (fun _ h9 => h9) rfl dX2_take_21 ?_
  refine lv_aload_n hx hb dX2_take_24 rfl (lv_at hl 0 rfl) ?_
  refine va_get (D := (dC, dI)) (ci := 2) (v := .int (iI fc)) (C := RX2) (T := TX2) (N := 17) hx hb hw inX2 hown hK hP 0 rfl rfl 5 (by decide) (hw _ mA_386) (fun _ h9 => h9) rfl dX2_take_25 ?_
  refine lv_iload_n hx hb dX2_take_28 rfl (lv_at hl 3 rfl) ?_
  refine ix_iast (k := fc) (x := k) hx hb hK hP hD hS 5 0 rfl rfl (by omega) (by omega) (by decide) dX2_take_29 (fun H locs hP hD hS => ?_)
  have hP : va_P (dC, dI) vwCl [(x, .inr (2, [.int (iI cd), .ref n, .ref r, .ref d, .int (iI cn), .int (iI fc), .ref ya, .ref yb, .ref yc, .ref yo, .long (lI (X 0)), .long (lI (X 1)), .long (lI (X 2)), .long (lI (X 3)), .long (lI (X 4)), .long (lI (X 5)), .long (lI (X 6))])), (r, .inl (cJ, 5, .inr (.inl (aL R)))), (d, .inl (cJ, 5, .inr (.inl (aL D)))), (ya, .inl (cI, 5, .inl (aI (iu As fc a)))), (yb, .inl (cI, 5, .inl (aI (iu Bs fc b)))), (yc, .inl (cI, 5, .inl (aI (iu Cs fc k)))), (yo, .inl (cI, 5, .inl (aI Os)))] H := hP
  have hD : va_D A [(x, .inr (2, [.int (iI cd), .ref n, .ref r, .ref d, .int (iI cn), .int (iI fc), .ref ya, .ref yb, .ref yc, .ref yo, .long (lI (X 0)), .long (lI (X 1)), .long (lI (X 2)), .long (lI (X 3)), .long (lI (X 4)), .long (lI (X 5)), .long (lI (X 6))])), (r, .inl (cJ, 5, .inr (.inl (aL R)))), (d, .inl (cJ, 5, .inr (.inl (aL D)))), (ya, .inl (cI, 5, .inl (aI (iu As fc a)))), (yb, .inl (cI, 5, .inl (aI (iu Bs fc b)))), (yc, .inl (cI, 5, .inl (aI (iu Cs fc k)))), (yo, .inl (cI, 5, .inl (aI Os)))] := hD
  refine lv_aload_n hx hb dX2_take_30 rfl (lv_at hl 0 rfl) ?_
  refine va_get (D := (dC, dI)) (ci := 2) (v := .ref yo) (C := RX2) (T := TX2) (N := 17) hx hb hw inX2 hown hK hP 0 rfl rfl 9 (by decide) (hw _ mA_390) (fun _ h9 => h9) rfl dX2_take_31 ?_
  refine lv_aload_n hx hb dX2_take_34 rfl (lv_at hl 0 rfl) ?_
  refine va_get (D := (dC, dI)) (ci := 2) (v := .int (iI fc)) (C := RX2) (T := TX2) (N := 17) hx hb hw inX2 hown hK hP 0 rfl rfl 5 (by decide) (hw _ mA_386) (fun _ h9 => h9) rfl dX2_take_35 ?_
  refine ix_iconst (n := 0) hx hb dX2_take_38 ?_
  refine ix_iast (k := fc) (x := 0) hx hb hK hP hD hS 6 0 rfl rfl (by omega) (by omega) (by decide) dX2_take_39 (fun H locs hP hD hS => ?_)
  have hP : va_P (dC, dI) vwCl [(x, .inr (2, [.int (iI cd), .ref n, .ref r, .ref d, .int (iI cn), .int (iI fc), .ref ya, .ref yb, .ref yc, .ref yo, .long (lI (X 0)), .long (lI (X 1)), .long (lI (X 2)), .long (lI (X 3)), .long (lI (X 4)), .long (lI (X 5)), .long (lI (X 6))])), (r, .inl (cJ, 5, .inr (.inl (aL R)))), (d, .inl (cJ, 5, .inr (.inl (aL D)))), (ya, .inl (cI, 5, .inl (aI (iu As fc a)))), (yb, .inl (cI, 5, .inl (aI (iu Bs fc b)))), (yc, .inl (cI, 5, .inl (aI (iu Cs fc k)))), (yo, .inl (cI, 5, .inl (aI (iu Os fc 0))))] H := hP
  have hD : va_D A [(x, .inr (2, [.int (iI cd), .ref n, .ref r, .ref d, .int (iI cn), .int (iI fc), .ref ya, .ref yb, .ref yc, .ref yo, .long (lI (X 0)), .long (lI (X 1)), .long (lI (X 2)), .long (lI (X 3)), .long (lI (X 4)), .long (lI (X 5)), .long (lI (X 6))])), (r, .inl (cJ, 5, .inr (.inl (aL R)))), (d, .inl (cJ, 5, .inr (.inl (aL D)))), (ya, .inl (cI, 5, .inl (aI (iu As fc a)))), (yb, .inl (cI, 5, .inl (aI (iu Bs fc b)))), (yc, .inl (cI, 5, .inl (aI (iu Cs fc k)))), (yo, .inl (cI, 5, .inl (aI (iu Os fc 0))))] := hD
  obtain ⟨g1, g2, g3⟩ := hPL _ hR
  exact lp_take (Pr := Pr) hfc hab ha9 hb9 hk9 hPL hcl g1 g2 hA hnb ⟨hx, hb, hr, hml, hown, hw, hlocks⟩ ((f_deg R).toNat + 1) 0 R D (by omega) hR hD5 rfl (by omega) _ _ hK hP hD hS ls (lv_sub hl [0, 1, 2, 3] rfl)
set_option maxHeartbeats 4000000 in
set_option maxRecDepth 100000 in
theorem lp_order {p : Program} {l : Launch} {e : Env} {Rm : Room} {s : State} {m : MethodId} {args : Array Value} {below : List Frame} {meth : Method} {c : Code} {dC : Nat → ClassId} {dI : Nat → Nat → Nat} {A : Nat → Prop} {x n r d ya yb yc yo : Nat} {cI cJ : ClassId} {cd cn fc : Int} {X Bs Cs Os : Int → Int} (hfc : 1 ≤ fc ∧ fc ≤ 5) (hB : ∀ i, 0 ≤ i → i < fc → (-20 ≤ Bs i ∧ Bs i ≤ 20) ∧ (-20 ≤ Cs i ∧ Cs i ≤ 20)) (hA : ∀ q : Nat, s.heap.size ≤ q → A q) (hnb : nb s) (C0 : cx p s m meth c args RX2 cX2_order 3 none) : ∀ (n9 : Nat) (i : Int), 0 ≤ i ∧ i ≤ fc - 1 → (∀ j, i ≤ j → j < fc - 1 → ¬ -(Cs j) * Bs (fc - 1) < -(Cs (fc - 1)) * Bs j) → i.toNat < n9 → ∀ (H : Heap) (locs : List Loc), va_K (dC, dI) vwCl [(cI, .int)] s → va_P (dC, dI) vwCl [(x, .inr (2, [.int (iI cd), .ref n, .ref r, .ref d, .int (iI cn), .int (iI fc), .ref ya, .ref yb, .ref yc, .ref yo, .long (lI (X 0)), .long (lI (X 1)), .long (lI (X 2)), .long (lI (X 3)), .long (lI (X 4)), .long (lI (X 5)), .long (lI (X 6))])), (yb, .inl (cI, 5, .inl (aI (mv (fc - 1) i Bs)))), (yc, .inl (cI, 5, .inl (aI (mv (fc - 1) i Cs)))), (yo, .inl (cI, 5, .inl (aI (mv (fc - 1) i Os))))] H → va_D A [(x, .inr (2, [.int (iI cd), .ref n, .ref r, .ref d, .int (iI cn), .int (iI fc), .ref ya, .ref yb, .ref yc, .ref yo, .long (lI (X 0)), .long (lI (X 1)), .long (lI (X 2)), .long (lI (X 3)), .long (lI (X 4)), .long (lI (X 5)), .long (lI (X 6))])), (yb, .inl (cI, 5, .inl (aI (mv (fc - 1) i Bs)))), (yc, .inl (cI, 5, .inl (aI (mv (fc - 1) i Cs)))), (yo, .inl (cI, 5, .inl (aI (mv (fc - 1) i Os))))] → va_S A s.heap H locs → ∀ (ls : Array Slot), lv_has ls 3 [(0, .ref x), (1, .int (iI i))] → W p l e Rm s m args below meth c H locs 0 0 (MQ below (va_Qv (fun (u : Int) => (0 ≤ u ∧ u ≤ fc - 1) ∧ (∀ i, u ≤ i → i < fc - 1 → ¬ -(Cs i) * Bs (fc - 1) < -(Cs (fc - 1)) * Bs i) ∧ (0 < u → -(Cs (u - 1)) * Bs (fc - 1) < -(Cs (fc - 1)) * Bs (u - 1))) (fun (u : Int) t9 => va_P (dC, dI) vwCl [(x, .inr (2, [.int (iI cd), .ref n, .ref r, .ref d, .int (iI cn), .int (iI fc), .ref ya, .ref yb, .ref yc, .ref yo, .long (lI (X 0)), .long (lI (X 1)), .long (lI (X 2)), .long (lI (X 3)), .long (lI (X 4)), .long (lI (X 5)), .long (lI (X 6))])), (yb, .inl (cI, 5, .inl (aI (mv (fc - 1) u Bs)))), (yc, .inl (cI, 5, .inl (aI (mv (fc - 1) u Cs)))), (yo, .inl (cI, 5, .inl (aI (mv (fc - 1) u Os))))] t9.heap ∧ va_K (dC, dI) vwCl [(cI, .int)] t9 ∧ va_D A [(x, .inr (2, [.int (iI cd), .ref n, .ref r, .ref d, .int (iI cn), .int (iI fc), .ref ya, .ref yb, .ref yc, .ref yo, .long (lI (X 0)), .long (lI (X 1)), .long (lI (X 2)), .long (lI (X 3)), .long (lI (X 4)), .long (lI (X 5)), .long (lI (X 6))])), (yb, .inl (cI, 5, .inl (aI (mv (fc - 1) u Bs)))), (yc, .inl (cI, 5, .inl (aI (mv (fc - 1) u Cs)))), (yo, .inl (cI, 5, .inl (aI (mv (fc - 1) u Os))))]) A) args s 0 0 A) (F0 m 7 ls []) := by
  obtain ⟨hx, hb, hr, hml, hown, hw, hlocks⟩ := C0
  intro n9
  induction n9 with
  | zero => intro i _ _ hmu; exact absurd hmu (Nat.not_lt_zero _)
  | succ n9 ih =>
    intro i hi hpast hmu H locs hK hP hD hS ls hl
    have hb1 := hB (fc - 1) (by omega) (by omega)
    refine lv_iload_n hx hb dX2_order_7 rfl (lv_at hl 1 rfl) ?_
    refine ix_if_le (tgt := 148) hx hb dX2_order_8 (by decide) (by omega) (fun c1 => ?_) (fun c1 => ?_)
    · have e0 : i = 0 := by omega
      subst e0
      have hP9 := hP.sub (ws' := [(x, .inr (2, [.int (iI cd), .ref n, .ref r, .ref d, .int (iI cn), .int (iI fc), .ref ya, .ref yb, .ref yc, .ref yo, .long (lI (X 0)), .long (lI (X 1)), .long (lI (X 2)), .long (lI (X 3)), .long (lI (X 4)), .long (lI (X 5)), .long (lI (X 6))])), (yb, .inl (cI, 5, .inl (aI (mv (fc - 1) 0 Bs)))), (yc, .inl (cI, 5, .inl (aI (mv (fc - 1) 0 Cs)))), (yo, .inl (cI, 5, .inl (aI (mv (fc - 1) 0 Os))))]) [0, 1, 2, 3] rfl
      have hD9 := hD.sub (ws' := [(x, .inr (2, [.int (iI cd), .ref n, .ref r, .ref d, .int (iI cn), .int (iI fc), .ref ya, .ref yb, .ref yc, .ref yo, .long (lI (X 0)), .long (lI (X 1)), .long (lI (X 2)), .long (lI (X 3)), .long (lI (X 4)), .long (lI (X 5)), .long (lI (X 6))])), (yb, .inl (cI, 5, .inl (aI (mv (fc - 1) 0 Bs)))), (yc, .inl (cI, 5, .inl (aI (mv (fc - 1) 0 Cs)))), (yo, .inl (cI, 5, .inl (aI (mv (fc - 1) 0 Os))))]) [0, 1, 2, 3] (by decide) rfl
      have hK9 := hK.sub (tys' := [(cI, .int)]) [0] rfl
      exact W.vret hx hb hr (fun t ht hW => ⟨⟨0, rfl, ⟨⟨by omega, by omega⟩, hpast, fun q => absurd q (by omega)⟩, by rw [ht]; exact hP9, va_K.moved hW.alike hK9, hD9⟩, hS.F ht⟩) hS.2.2 dX2_order_148
    · have hb2 := hB (i - 1) (by omega) (by omega)
      have pr1 := mul_in (x := -(Cs (i - 1))) (y := Bs (fc - 1)) (A := 20) (B := 20) ⟨by omega, by omega⟩ hb1.1 (by decide) (by decide)
      have pr2 := mul_in (x := -(Cs (fc - 1))) (y := Bs (i - 1)) (A := 20) (B := 20) ⟨by omega, by omega⟩ hb2.1 (by decide) (by decide)
      refine lv_aload_n hx hb dX2_order_11 rfl (lv_at hl 0 rfl) ?_
      refine va_get (D := (dC, dI)) (ci := 2) (v := .ref yc) (C := RX2) (T := TX2) (N := 17) hx hb hw inX2 hown hK hP 0 rfl rfl 8 (by decide) (hw _ mA_389) (fun _ h9 => h9) rfl dX2_order_12 ?_
      refine lv_iload_n hx hb dX2_order_15 rfl (lv_at hl 1 rfl) ?_
      refine ix_iconst (n := 1) hx hb dX2_order_16 ?_
      refine ix_isub hx hb dX2_order_17 ?_
      refine ix_iald (k := i - 1) hx hb hK hP 2 0 rfl rfl (by omega) (by omega) (by decide) dX2_order_18 ?_
      refine ix_z (y := Cs (i - 1)) (mv_p _) ?_
      refine ix_ineg hx hb dX2_order_19 ?_
      refine ix_i2l hx hb dX2_order_20 (by omega) ?_
      refine lv_aload_n hx hb dX2_order_21 rfl (lv_at hl 0 rfl) ?_
      refine va_get (D := (dC, dI)) (ci := 2) (v := .ref yb) (C := RX2) (T := TX2) (N := 17) hx hb hw inX2 hown hK hP 0 rfl rfl 7 (by decide) (hw _ mA_388) (fun _ h9 => h9) rfl dX2_order_22 ?_
      refine lv_iload_n hx hb dX2_order_25 rfl (lv_at hl 1 rfl) ?_
      refine ix_iald (k := i) hx hb hK hP 1 0 rfl rfl (by omega) (by omega) (by decide) dX2_order_26 ?_
      refine ix_z (y := Bs (fc - 1)) (mv_k _ _ _) ?_
      refine ix_i2l hx hb dX2_order_27 (by omega) ?_
      refine ix_lmul hx hb dX2_order_28 ?_
      refine lv_aload_n hx hb dX2_order_29 rfl (lv_at hl 0 rfl) ?_
      refine va_get (D := (dC, dI)) (ci := 2) (v := .ref yc) (C := RX2) (T := TX2) (N := 17) hx hb hw inX2 hown hK hP 0 rfl rfl 8 (by decide) (hw _ mA_389) (fun _ h9 => h9) rfl dX2_order_30 ?_
      refine lv_iload_n hx hb dX2_order_33 rfl (lv_at hl 1 rfl) ?_
      refine ix_iald (k := i) hx hb hK hP 2 0 rfl rfl (by omega) (by omega) (by decide) dX2_order_34 ?_
      refine ix_z (y := Cs (fc - 1)) (mv_k _ _ _) ?_
      refine ix_ineg hx hb dX2_order_35 ?_
      refine ix_i2l hx hb dX2_order_36 (by omega) ?_
      refine lv_aload_n hx hb dX2_order_37 rfl (lv_at hl 0 rfl) ?_
      refine va_get (D := (dC, dI)) (ci := 2) (v := .ref yb) (C := RX2) (T := TX2) (N := 17) hx hb hw inX2 hown hK hP 0 rfl rfl 7 (by decide) (hw _ mA_388) (fun _ h9 => h9) rfl dX2_order_38 ?_
      refine lv_iload_n hx hb dX2_order_41 rfl (lv_at hl 1 rfl) ?_
      refine ix_iconst (n := 1) hx hb dX2_order_42 ?_
      refine ix_isub hx hb dX2_order_43 ?_
      refine ix_iald (k := i - 1) hx hb hK hP 1 0 rfl rfl (by omega) (by omega) (by decide) dX2_order_44 ?_
      refine ix_z (y := Bs (i - 1)) (mv_p _) ?_
      refine ix_i2l hx hb dX2_order_45 (by omega) ?_
      refine ix_lmul hx hb dX2_order_46 ?_
      refine ix_lc_ge (tgt := 52) hx hb dX2_order_47 dX2_order_48 (by decide) (by omega) (by omega) (fun c2 => ?_) (fun c2 => ?_)
      · refine lv_aload_n hx hb dX2_order_52 rfl (lv_at hl 0 rfl) ?_
        refine va_get (D := (dC, dI)) (ci := 2) (v := .ref yb) (C := RX2) (T := TX2) (N := 17) hx hb hw inX2 hown hK hP 0 rfl rfl 7 (by decide) (hw _ mA_388) (fun _ h9 => h9) rfl dX2_order_53 ?_
        refine lv_iload_n hx hb dX2_order_56 rfl (lv_at hl 1 rfl) ?_
        refine ix_iald (k := i) hx hb hK hP 1 0 rfl rfl (by omega) (by omega) (by decide) dX2_order_57 ?_
        refine lv_istore_n (lv' := [(2, .int (iI ((mv (fc - 1) i Bs) i))), (0, .ref x), (1, .int (iI i))]) hx hb dX2_order_58 rfl hl (by decide) rfl (fun ls hl => ?_)
        refine lv_aload_n hx hb dX2_order_59 rfl (lv_at hl 1 rfl) ?_
        refine va_get (D := (dC, dI)) (ci := 2) (v := .ref yb) (C := RX2) (T := TX2) (N := 17) hx hb hw inX2 hown hK hP 0 rfl rfl 7 (by decide) (hw _ mA_388) (fun _ h9 => h9) rfl dX2_order_60 ?_
        refine lv_iload_n hx hb dX2_order_63 rfl (lv_at hl 2 rfl) ?_
        refine lv_aload_n hx hb dX2_order_64 rfl (lv_at hl 1 rfl) ?_
        refine va_get (D := (dC, dI)) (ci := 2) (v := .ref yb) (C := RX2) (T := TX2) (N := 17) hx hb hw inX2 hown hK hP 0 rfl rfl 7 (by decide) (hw _ mA_388) (fun _ h9 => h9) rfl dX2_order_65 ?_
        refine lv_iload_n hx hb dX2_order_68 rfl (lv_at hl 2 rfl) ?_
        refine ix_iconst (n := 1) hx hb dX2_order_69 ?_
        refine ix_isub hx hb dX2_order_70 ?_
        refine ix_iald (k := i - 1) hx hb hK hP 1 0 rfl rfl (by omega) (by omega) (by decide) dX2_order_71 ?_
        refine ix_iast (k := i) (x := (mv (fc - 1) i Bs) (i - 1)) hx hb hK hP hD hS 1 0 rfl rfl (by omega) (by omega) (by decide) dX2_order_72 (fun H locs hP hD hS => ?_)
        have hP : va_P (dC, dI) vwCl [(x, .inr (2, [.int (iI cd), .ref n, .ref r, .ref d, .int (iI cn), .int (iI fc), .ref ya, .ref yb, .ref yc, .ref yo, .long (lI (X 0)), .long (lI (X 1)), .long (lI (X 2)), .long (lI (X 3)), .long (lI (X 4)), .long (lI (X 5)), .long (lI (X 6))])), (yb, .inl (cI, 5, .inl (aI (iu (mv (fc - 1) i Bs) i ((mv (fc - 1) i Bs) (i - 1)))))), (yc, .inl (cI, 5, .inl (aI (mv (fc - 1) i Cs)))), (yo, .inl (cI, 5, .inl (aI (mv (fc - 1) i Os))))] H := hP
        have hD : va_D A [(x, .inr (2, [.int (iI cd), .ref n, .ref r, .ref d, .int (iI cn), .int (iI fc), .ref ya, .ref yb, .ref yc, .ref yo, .long (lI (X 0)), .long (lI (X 1)), .long (lI (X 2)), .long (lI (X 3)), .long (lI (X 4)), .long (lI (X 5)), .long (lI (X 6))])), (yb, .inl (cI, 5, .inl (aI (iu (mv (fc - 1) i Bs) i ((mv (fc - 1) i Bs) (i - 1)))))), (yc, .inl (cI, 5, .inl (aI (mv (fc - 1) i Cs)))), (yo, .inl (cI, 5, .inl (aI (mv (fc - 1) i Os))))] := hD
        refine lv_aload_n hx hb dX2_order_73 rfl (lv_at hl 1 rfl) ?_
        refine va_get (D := (dC, dI)) (ci := 2) (v := .ref yb) (C := RX2) (T := TX2) (N := 17) hx hb hw inX2 hown hK hP 0 rfl rfl 7 (by decide) (hw _ mA_388) (fun _ h9 => h9) rfl dX2_order_74 ?_
        refine lv_iload_n hx hb dX2_order_77 rfl (lv_at hl 2 rfl) ?_
        refine ix_iconst (n := 1) hx hb dX2_order_78 ?_
        refine ix_isub hx hb dX2_order_79 ?_
        refine lv_iload_n hx hb dX2_order_80 rfl (lv_at hl 0 rfl) ?_
        refine ix_iast (k := i - 1) (x := (mv (fc - 1) i Bs) i) hx hb hK hP hD hS 1 0 rfl rfl (by omega) (by omega) (by decide) dX2_order_81 (fun H locs hP hD hS => ?_)
        have hP : va_P (dC, dI) vwCl [(x, .inr (2, [.int (iI cd), .ref n, .ref r, .ref d, .int (iI cn), .int (iI fc), .ref ya, .ref yb, .ref yc, .ref yo, .long (lI (X 0)), .long (lI (X 1)), .long (lI (X 2)), .long (lI (X 3)), .long (lI (X 4)), .long (lI (X 5)), .long (lI (X 6))])), (yb, .inl (cI, 5, .inl (aI (iu (iu (mv (fc - 1) i Bs) i ((mv (fc - 1) i Bs) (i - 1))) (i - 1) ((mv (fc - 1) i Bs) i))))), (yc, .inl (cI, 5, .inl (aI (mv (fc - 1) i Cs)))), (yo, .inl (cI, 5, .inl (aI (mv (fc - 1) i Os))))] H := hP
        have hD : va_D A [(x, .inr (2, [.int (iI cd), .ref n, .ref r, .ref d, .int (iI cn), .int (iI fc), .ref ya, .ref yb, .ref yc, .ref yo, .long (lI (X 0)), .long (lI (X 1)), .long (lI (X 2)), .long (lI (X 3)), .long (lI (X 4)), .long (lI (X 5)), .long (lI (X 6))])), (yb, .inl (cI, 5, .inl (aI (iu (iu (mv (fc - 1) i Bs) i ((mv (fc - 1) i Bs) (i - 1))) (i - 1) ((mv (fc - 1) i Bs) i))))), (yc, .inl (cI, 5, .inl (aI (mv (fc - 1) i Cs)))), (yo, .inl (cI, 5, .inl (aI (mv (fc - 1) i Os))))] := hD
        refine lv_aload_n hx hb dX2_order_82 rfl (lv_at hl 1 rfl) ?_
        refine va_get (D := (dC, dI)) (ci := 2) (v := .ref yc) (C := RX2) (T := TX2) (N := 17) hx hb hw inX2 hown hK hP 0 rfl rfl 8 (by decide) (hw _ mA_389) (fun _ h9 => h9) rfl dX2_order_83 ?_
        refine lv_iload_n hx hb dX2_order_86 rfl (lv_at hl 2 rfl) ?_
        refine ix_iald (k := i) hx hb hK hP 2 0 rfl rfl (by omega) (by omega) (by decide) dX2_order_87 ?_
        refine lv_istore_n (lv' := [(2, .int (iI ((mv (fc - 1) i Cs) i))), (0, .ref x), (1, .int (iI i))]) hx hb dX2_order_88 rfl hl (by decide) rfl (fun ls hl => ?_)
        refine lv_aload_n hx hb dX2_order_89 rfl (lv_at hl 1 rfl) ?_
        refine va_get (D := (dC, dI)) (ci := 2) (v := .ref yc) (C := RX2) (T := TX2) (N := 17) hx hb hw inX2 hown hK hP 0 rfl rfl 8 (by decide) (hw _ mA_389) (fun _ h9 => h9) rfl dX2_order_90 ?_
        refine lv_iload_n hx hb dX2_order_93 rfl (lv_at hl 2 rfl) ?_
        refine lv_aload_n hx hb dX2_order_94 rfl (lv_at hl 1 rfl) ?_
        refine va_get (D := (dC, dI)) (ci := 2) (v := .ref yc) (C := RX2) (T := TX2) (N := 17) hx hb hw inX2 hown hK hP 0 rfl rfl 8 (by decide) (hw _ mA_389) (fun _ h9 => h9) rfl dX2_order_95 ?_
        refine lv_iload_n hx hb dX2_order_98 rfl (lv_at hl 2 rfl) ?_
        refine ix_iconst (n := 1) hx hb dX2_order_99 ?_
        refine ix_isub hx hb dX2_order_100 ?_
        refine ix_iald (k := i - 1) hx hb hK hP 2 0 rfl rfl (by omega) (by omega) (by decide) dX2_order_101 ?_
        refine ix_iast (k := i) (x := (mv (fc - 1) i Cs) (i - 1)) hx hb hK hP hD hS 2 0 rfl rfl (by omega) (by omega) (by decide) dX2_order_102 (fun H locs hP hD hS => ?_)
        have hP : va_P (dC, dI) vwCl [(x, .inr (2, [.int (iI cd), .ref n, .ref r, .ref d, .int (iI cn), .int (iI fc), .ref ya, .ref yb, .ref yc, .ref yo, .long (lI (X 0)), .long (lI (X 1)), .long (lI (X 2)), .long (lI (X 3)), .long (lI (X 4)), .long (lI (X 5)), .long (lI (X 6))])), (yb, .inl (cI, 5, .inl (aI (iu (iu (mv (fc - 1) i Bs) i ((mv (fc - 1) i Bs) (i - 1))) (i - 1) ((mv (fc - 1) i Bs) i))))), (yc, .inl (cI, 5, .inl (aI (iu (mv (fc - 1) i Cs) i ((mv (fc - 1) i Cs) (i - 1)))))), (yo, .inl (cI, 5, .inl (aI (mv (fc - 1) i Os))))] H := hP
        have hD : va_D A [(x, .inr (2, [.int (iI cd), .ref n, .ref r, .ref d, .int (iI cn), .int (iI fc), .ref ya, .ref yb, .ref yc, .ref yo, .long (lI (X 0)), .long (lI (X 1)), .long (lI (X 2)), .long (lI (X 3)), .long (lI (X 4)), .long (lI (X 5)), .long (lI (X 6))])), (yb, .inl (cI, 5, .inl (aI (iu (iu (mv (fc - 1) i Bs) i ((mv (fc - 1) i Bs) (i - 1))) (i - 1) ((mv (fc - 1) i Bs) i))))), (yc, .inl (cI, 5, .inl (aI (iu (mv (fc - 1) i Cs) i ((mv (fc - 1) i Cs) (i - 1)))))), (yo, .inl (cI, 5, .inl (aI (mv (fc - 1) i Os))))] := hD
        refine lv_aload_n hx hb dX2_order_103 rfl (lv_at hl 1 rfl) ?_
        refine va_get (D := (dC, dI)) (ci := 2) (v := .ref yc) (C := RX2) (T := TX2) (N := 17) hx hb hw inX2 hown hK hP 0 rfl rfl 8 (by decide) (hw _ mA_389) (fun _ h9 => h9) rfl dX2_order_104 ?_
        refine lv_iload_n hx hb dX2_order_107 rfl (lv_at hl 2 rfl) ?_
        refine ix_iconst (n := 1) hx hb dX2_order_108 ?_
        refine ix_isub hx hb dX2_order_109 ?_
        refine lv_iload_n hx hb dX2_order_110 rfl (lv_at hl 0 rfl) ?_
        refine ix_iast (k := i - 1) (x := (mv (fc - 1) i Cs) i) hx hb hK hP hD hS 2 0 rfl rfl (by omega) (by omega) (by decide) dX2_order_111 (fun H locs hP hD hS => ?_)
        have hP : va_P (dC, dI) vwCl [(x, .inr (2, [.int (iI cd), .ref n, .ref r, .ref d, .int (iI cn), .int (iI fc), .ref ya, .ref yb, .ref yc, .ref yo, .long (lI (X 0)), .long (lI (X 1)), .long (lI (X 2)), .long (lI (X 3)), .long (lI (X 4)), .long (lI (X 5)), .long (lI (X 6))])), (yb, .inl (cI, 5, .inl (aI (iu (iu (mv (fc - 1) i Bs) i ((mv (fc - 1) i Bs) (i - 1))) (i - 1) ((mv (fc - 1) i Bs) i))))), (yc, .inl (cI, 5, .inl (aI (iu (iu (mv (fc - 1) i Cs) i ((mv (fc - 1) i Cs) (i - 1))) (i - 1) ((mv (fc - 1) i Cs) i))))), (yo, .inl (cI, 5, .inl (aI (mv (fc - 1) i Os))))] H := hP
        have hD : va_D A [(x, .inr (2, [.int (iI cd), .ref n, .ref r, .ref d, .int (iI cn), .int (iI fc), .ref ya, .ref yb, .ref yc, .ref yo, .long (lI (X 0)), .long (lI (X 1)), .long (lI (X 2)), .long (lI (X 3)), .long (lI (X 4)), .long (lI (X 5)), .long (lI (X 6))])), (yb, .inl (cI, 5, .inl (aI (iu (iu (mv (fc - 1) i Bs) i ((mv (fc - 1) i Bs) (i - 1))) (i - 1) ((mv (fc - 1) i Bs) i))))), (yc, .inl (cI, 5, .inl (aI (iu (iu (mv (fc - 1) i Cs) i ((mv (fc - 1) i Cs) (i - 1))) (i - 1) ((mv (fc - 1) i Cs) i))))), (yo, .inl (cI, 5, .inl (aI (mv (fc - 1) i Os))))] := hD
        refine lv_aload_n hx hb dX2_order_112 rfl (lv_at hl 1 rfl) ?_
        refine va_get (D := (dC, dI)) (ci := 2) (v := .ref yo) (C := RX2) (T := TX2) (N := 17) hx hb hw inX2 hown hK hP 0 rfl rfl 9 (by decide) (hw _ mA_390) (fun _ h9 => h9) rfl dX2_order_113 ?_
        refine lv_iload_n hx hb dX2_order_116 rfl (lv_at hl 2 rfl) ?_
        refine ix_iald (k := i) hx hb hK hP 3 0 rfl rfl (by omega) (by omega) (by decide) dX2_order_117 ?_
        refine lv_istore_n (lv' := [(2, .int (iI ((mv (fc - 1) i Os) i))), (0, .ref x), (1, .int (iI i))]) hx hb dX2_order_118 rfl hl (by decide) rfl (fun ls hl => ?_)
        refine lv_aload_n hx hb dX2_order_119 rfl (lv_at hl 1 rfl) ?_
        refine va_get (D := (dC, dI)) (ci := 2) (v := .ref yo) (C := RX2) (T := TX2) (N := 17) hx hb hw inX2 hown hK hP 0 rfl rfl 9 (by decide) (hw _ mA_390) (fun _ h9 => h9) rfl dX2_order_120 ?_
        refine lv_iload_n hx hb dX2_order_123 rfl (lv_at hl 2 rfl) ?_
        refine lv_aload_n hx hb dX2_order_124 rfl (lv_at hl 1 rfl) ?_
        refine va_get (D := (dC, dI)) (ci := 2) (v := .ref yo) (C := RX2) (T := TX2) (N := 17) hx hb hw inX2 hown hK hP 0 rfl rfl 9 (by decide) (hw _ mA_390) (fun _ h9 => h9) rfl dX2_order_125 ?_
        refine lv_iload_n hx hb dX2_order_128 rfl (lv_at hl 2 rfl) ?_
        refine ix_iconst (n := 1) hx hb dX2_order_129 ?_
        refine ix_isub hx hb dX2_order_130 ?_
        refine ix_iald (k := i - 1) hx hb hK hP 3 0 rfl rfl (by omega) (by omega) (by decide) dX2_order_131 ?_
        refine ix_iast (k := i) (x := (mv (fc - 1) i Os) (i - 1)) hx hb hK hP hD hS 3 0 rfl rfl (by omega) (by omega) (by decide) dX2_order_132 (fun H locs hP hD hS => ?_)
        have hP : va_P (dC, dI) vwCl [(x, .inr (2, [.int (iI cd), .ref n, .ref r, .ref d, .int (iI cn), .int (iI fc), .ref ya, .ref yb, .ref yc, .ref yo, .long (lI (X 0)), .long (lI (X 1)), .long (lI (X 2)), .long (lI (X 3)), .long (lI (X 4)), .long (lI (X 5)), .long (lI (X 6))])), (yb, .inl (cI, 5, .inl (aI (iu (iu (mv (fc - 1) i Bs) i ((mv (fc - 1) i Bs) (i - 1))) (i - 1) ((mv (fc - 1) i Bs) i))))), (yc, .inl (cI, 5, .inl (aI (iu (iu (mv (fc - 1) i Cs) i ((mv (fc - 1) i Cs) (i - 1))) (i - 1) ((mv (fc - 1) i Cs) i))))), (yo, .inl (cI, 5, .inl (aI (iu (mv (fc - 1) i Os) i ((mv (fc - 1) i Os) (i - 1))))))] H := hP
        have hD : va_D A [(x, .inr (2, [.int (iI cd), .ref n, .ref r, .ref d, .int (iI cn), .int (iI fc), .ref ya, .ref yb, .ref yc, .ref yo, .long (lI (X 0)), .long (lI (X 1)), .long (lI (X 2)), .long (lI (X 3)), .long (lI (X 4)), .long (lI (X 5)), .long (lI (X 6))])), (yb, .inl (cI, 5, .inl (aI (iu (iu (mv (fc - 1) i Bs) i ((mv (fc - 1) i Bs) (i - 1))) (i - 1) ((mv (fc - 1) i Bs) i))))), (yc, .inl (cI, 5, .inl (aI (iu (iu (mv (fc - 1) i Cs) i ((mv (fc - 1) i Cs) (i - 1))) (i - 1) ((mv (fc - 1) i Cs) i))))), (yo, .inl (cI, 5, .inl (aI (iu (mv (fc - 1) i Os) i ((mv (fc - 1) i Os) (i - 1))))))] := hD
        refine lv_aload_n hx hb dX2_order_133 rfl (lv_at hl 1 rfl) ?_
        refine va_get (D := (dC, dI)) (ci := 2) (v := .ref yo) (C := RX2) (T := TX2) (N := 17) hx hb hw inX2 hown hK hP 0 rfl rfl 9 (by decide) (hw _ mA_390) (fun _ h9 => h9) rfl dX2_order_134 ?_
        refine lv_iload_n hx hb dX2_order_137 rfl (lv_at hl 2 rfl) ?_
        refine ix_iconst (n := 1) hx hb dX2_order_138 ?_
        refine ix_isub hx hb dX2_order_139 ?_
        refine lv_iload_n hx hb dX2_order_140 rfl (lv_at hl 0 rfl) ?_
        refine ix_iast (k := i - 1) (x := (mv (fc - 1) i Os) i) hx hb hK hP hD hS 3 0 rfl rfl (by omega) (by omega) (by decide) dX2_order_141 (fun H locs hP hD hS => ?_)
        have hP : va_P (dC, dI) vwCl [(x, .inr (2, [.int (iI cd), .ref n, .ref r, .ref d, .int (iI cn), .int (iI fc), .ref ya, .ref yb, .ref yc, .ref yo, .long (lI (X 0)), .long (lI (X 1)), .long (lI (X 2)), .long (lI (X 3)), .long (lI (X 4)), .long (lI (X 5)), .long (lI (X 6))])), (yb, .inl (cI, 5, .inl (aI (iu (iu (mv (fc - 1) i Bs) i ((mv (fc - 1) i Bs) (i - 1))) (i - 1) ((mv (fc - 1) i Bs) i))))), (yc, .inl (cI, 5, .inl (aI (iu (iu (mv (fc - 1) i Cs) i ((mv (fc - 1) i Cs) (i - 1))) (i - 1) ((mv (fc - 1) i Cs) i))))), (yo, .inl (cI, 5, .inl (aI (iu (iu (mv (fc - 1) i Os) i ((mv (fc - 1) i Os) (i - 1))) (i - 1) ((mv (fc - 1) i Os) i)))))] H := hP
        have hD : va_D A [(x, .inr (2, [.int (iI cd), .ref n, .ref r, .ref d, .int (iI cn), .int (iI fc), .ref ya, .ref yb, .ref yc, .ref yo, .long (lI (X 0)), .long (lI (X 1)), .long (lI (X 2)), .long (lI (X 3)), .long (lI (X 4)), .long (lI (X 5)), .long (lI (X 6))])), (yb, .inl (cI, 5, .inl (aI (iu (iu (mv (fc - 1) i Bs) i ((mv (fc - 1) i Bs) (i - 1))) (i - 1) ((mv (fc - 1) i Bs) i))))), (yc, .inl (cI, 5, .inl (aI (iu (iu (mv (fc - 1) i Cs) i ((mv (fc - 1) i Cs) (i - 1))) (i - 1) ((mv (fc - 1) i Cs) i))))), (yo, .inl (cI, 5, .inl (aI (iu (iu (mv (fc - 1) i Os) i ((mv (fc - 1) i Os) (i - 1))) (i - 1) ((mv (fc - 1) i Os) i)))))] := hD
        refine ix_iinc (k := 2) (lv2 := [(1, .int (iI (i + (-1)))), (2, .int (iI ((mv (fc - 1) i Os) i))), (0, .ref x)]) hx hb dX2_order_142 hl rfl (by decide) rfl (fun ls hl => ?_)
        refine lv_goto (tgt := 7) hx hb dX2_order_145 (by decide) ?_
        rw [mv_s (by omega) (by omega), mv_s (by omega) (by omega), mv_s (by omega) (by omega)] at hP hD
        exact ih (i - 1) ⟨by omega, by omega⟩ (fun j q1 q2 => by rcases (show j = i - 1 ∨ i ≤ j by omega) with e | e; rw [e]; intro q; exact absurd c2 (by omega); exact hpast j e q2) (by omega) _ _ hK hP hD hS ls (lv_sub hl [2, 0] rfl)
      · have hP9 := hP.sub (ws' := [(x, .inr (2, [.int (iI cd), .ref n, .ref r, .ref d, .int (iI cn), .int (iI fc), .ref ya, .ref yb, .ref yc, .ref yo, .long (lI (X 0)), .long (lI (X 1)), .long (lI (X 2)), .long (lI (X 3)), .long (lI (X 4)), .long (lI (X 5)), .long (lI (X 6))])), (yb, .inl (cI, 5, .inl (aI (mv (fc - 1) i Bs)))), (yc, .inl (cI, 5, .inl (aI (mv (fc - 1) i Cs)))), (yo, .inl (cI, 5, .inl (aI (mv (fc - 1) i Os))))]) [0, 1, 2, 3] rfl
        have hD9 := hD.sub (ws' := [(x, .inr (2, [.int (iI cd), .ref n, .ref r, .ref d, .int (iI cn), .int (iI fc), .ref ya, .ref yb, .ref yc, .ref yo, .long (lI (X 0)), .long (lI (X 1)), .long (lI (X 2)), .long (lI (X 3)), .long (lI (X 4)), .long (lI (X 5)), .long (lI (X 6))])), (yb, .inl (cI, 5, .inl (aI (mv (fc - 1) i Bs)))), (yc, .inl (cI, 5, .inl (aI (mv (fc - 1) i Cs)))), (yo, .inl (cI, 5, .inl (aI (mv (fc - 1) i Os))))]) [0, 1, 2, 3] (by decide) rfl
        have hK9 := hK.sub (tys' := [(cI, .int)]) [0] rfl
        exact W.vret hx hb hr (fun t ht hW => ⟨⟨i, rfl, ⟨⟨by omega, by omega⟩, hpast, fun _ => by omega⟩, by rw [ht]; exact hP9, va_K.moved hW.alike hK9, hD9⟩, hS.F ht⟩) hS.2.2 dX2_order_51
set_option maxHeartbeats 4000000 in
set_option maxRecDepth 100000 in
/-- the last one comes into its place -/
theorem kX2_order (l : Launch) (dC : Nat → ClassId) (dI : Nat → Nat → Nat) (sz : Nat) (x n r d ya yb yc yo : Nat) (cI cJ : ClassId) (cd cn fc : Int) (X : Int → Int) (Bs Cs Os : Int → Int) (hfc : 1 ≤ fc ∧ fc ≤ 5) (hB : ∀ i, 0 ≤ i → i < fc → (-20 ≤ Bs i ∧ Bs i ≤ 20) ∧ (-20 ≤ Cs i ∧ Cs i ≤ 20)) : Met l yX2_order (.code yX2_order cX2_order 3 none :: wsA) ({ frames := 0, cells := 0, slots := 0, locals := 0 }) (va_Pc [.ref x] (fun U => U.heap.size = sz ∧ va_P (dC, dI) vwCl [(x, .inr (2, [.int (iI cd), .ref n, .ref r, .ref d, .int (iI cn), .int (iI fc), .ref ya, .ref yb, .ref yc, .ref yo, .long (lI (X 0)), .long (lI (X 1)), .long (lI (X 2)), .long (lI (X 3)), .long (lI (X 4)), .long (lI (X 5)), .long (lI (X 6))])), (yb, .inl (cI, 5, .inl (aI Bs))), (yc, .inl (cI, 5, .inl (aI Cs))), (yo, .inl (cI, 5, .inl (aI Os)))] U.heap ∧ va_K (dC, dI) vwCl [(cI, .int)] U ∧ va_D (fun _ => True) [(x, .inr (2, [.int (iI cd), .ref n, .ref r, .ref d, .int (iI cn), .int (iI fc), .ref ya, .ref yb, .ref yc, .ref yo, .long (lI (X 0)), .long (lI (X 1)), .long (lI (X 2)), .long (lI (X 3)), .long (lI (X 4)), .long (lI (X 5)), .long (lI (X 6))])), (yb, .inl (cI, 5, .inl (aI Bs))), (yc, .inl (cI, 5, .inl (aI Cs))), (yo, .inl (cI, 5, .inl (aI Os)))] ∧ nb U)) (va_Qv (fun (u : Int) => (0 ≤ u ∧ u ≤ fc - 1) ∧ (∀ i, u ≤ i → i < fc - 1 → ¬ -(Cs i) * Bs (fc - 1) < -(Cs (fc - 1)) * Bs i) ∧ (0 < u → -(Cs (u - 1)) * Bs (fc - 1) < -(Cs (fc - 1)) * Bs (u - 1))) (fun (u : Int) t9 => va_P (dC, dI) vwCl [(x, .inr (2, [.int (iI cd), .ref n, .ref r, .ref d, .int (iI cn), .int (iI fc), .ref ya, .ref yb, .ref yc, .ref yo, .long (lI (X 0)), .long (lI (X 1)), .long (lI (X 2)), .long (lI (X 3)), .long (lI (X 4)), .long (lI (X 5)), .long (lI (X 6))])), (yb, .inl (cI, 5, .inl (aI (mv (fc - 1) u Bs)))), (yc, .inl (cI, 5, .inl (aI (mv (fc - 1) u Cs)))), (yo, .inl (cI, 5, .inl (aI (mv (fc - 1) u Os))))] t9.heap ∧ va_K (dC, dI) vwCl [(cI, .int)] t9 ∧ va_D (va_A [(x, .inr (2, [.int (iI cd), .ref n, .ref r, .ref d, .int (iI cn), .int (iI fc), .ref ya, .ref yb, .ref yc, .ref yo, .long (lI (X 0)), .long (lI (X 1)), .long (lI (X 2)), .long (lI (X 3)), .long (lI (X 4)), .long (lI (X 5)), .long (lI (X 6))])), (yb, .inl (cI, 5, .inl (aI Bs))), (yc, .inl (cI, 5, .inl (aI Cs))), (yo, .inl (cI, 5, .inl (aI Os)))] sz) [(x, .inr (2, [.int (iI cd), .ref n, .ref r, .ref d, .int (iI cn), .int (iI fc), .ref ya, .ref yb, .ref yc, .ref yo, .long (lI (X 0)), .long (lI (X 1)), .long (lI (X 2)), .long (lI (X 3)), .long (lI (X 4)), .long (lI (X 5)), .long (lI (X 6))])), (yb, .inl (cI, 5, .inl (aI (mv (fc - 1) u Bs)))), (yc, .inl (cI, 5, .inl (aI (mv (fc - 1) u Cs)))), (yo, .inl (cI, 5, .inl (aI (mv (fc - 1) u Os))))]) (va_A [(x, .inr (2, [.int (iI cd), .ref n, .ref r, .ref d, .int (iI cn), .int (iI fc), .ref ya, .ref yb, .ref yc, .ref yo, .long (lI (X 0)), .long (lI (X 1)), .long (lI (X 2)), .long (lI (X 3)), .long (lI (X 4)), .long (lI (X 5)), .long (lI (X 6))])), (yb, .inl (cI, 5, .inl (aI Bs))), (yc, .inl (cI, 5, .inl (aI Cs))), (yo, .inl (cI, 5, .inl (aI Os)))] sz)) 0 0 (va_A [(x, .inr (2, [.int (iI cd), .ref n, .ref r, .ref d, .int (iI cn), .int (iI fc), .ref ya, .ref yb, .ref yc, .ref yo, .long (lI (X 0)), .long (lI (X 1)), .long (lI (X 2)), .long (lI (X 3)), .long (lI (X 4)), .long (lI (X 5)), .long (lI (X 6))])), (yb, .inl (cI, 5, .inl (aI Bs))), (yc, .inl (cI, 5, .inl (aI Cs))), (yo, .inl (cI, 5, .inl (aI Os)))] sz) := by
  refine Met.ofW (cc := cX2_order) (maxL := 3) (ret := none) (by decide) rfl ?_
  intro p e s m args below meth c s₁ B hml hv
  obtain ⟨rfl, hsz, hP, hK, hD0, hnb⟩ := hv
  have hx := B.exec
  have hb := B.bytes
  have hr := B.returns
  have hts := atoms_spec (ws := .code yX2_order cX2_order 3 none :: wsA) B.pre
  have hw : ∀ w ∈ wsA, w.before _ s = true := fun w h => hts w (List.mem_cons_of_mem _ h)
  have hown : s.vm.findClass RX2 = some m.cls := findClass_of_methodNamed B.named
  have hlocks := B.notSynchronized
  subst hsz
  have hD := hD0.self (sz := s.heap.size)
  generalize hAe : va_A [(x, .inr (2, [.int (iI cd), .ref n, .ref r, .ref d, .int (iI cn), .int (iI fc), .ref ya, .ref yb, .ref yc, .ref yo, .long (lI (X 0)), .long (lI (X 1)), .long (lI (X 2)), .long (lI (X 3)), .long (lI (X 4)), .long (lI (X 5)), .long (lI (X 6))])), (yb, .inl (cI, 5, .inl (aI Bs))), (yc, .inl (cI, 5, .inl (aI Cs))), (yo, .inl (cI, 5, .inl (aI Os)))] s.heap.size = A at hD ⊢
  have hA : ∀ q : Nat, s.heap.size ≤ q → A q := fun q h => by rw [← hAe]; exact Or.inr h
  have hS : va_S A s.heap s.heap [] := va_S.rf
  have hP : va_P (dC, dI) vwCl [(x, .inr (2, [.int (iI cd), .ref n, .ref r, .ref d, .int (iI cn), .int (iI fc), .ref ya, .ref yb, .ref yc, .ref yo, .long (lI (X 0)), .long (lI (X 1)), .long (lI (X 2)), .long (lI (X 3)), .long (lI (X 4)), .long (lI (X 5)), .long (lI (X 6))])), (yb, .inl (cI, 5, .inl (aI Bs))), (yc, .inl (cI, 5, .inl (aI Cs))), (yo, .inl (cI, 5, .inl (aI Os)))] s.heap := hP
  have hl := lv_entry ([.ref x]) (n := 3) (Nat.le_of_ble_eq_true rfl)
  rw [lg_entry_eq]
  generalize (lg_sl ([.ref x]) ++ List.replicate (3 - (lg_sl ([.ref x])).length) Slot.unset).toArray = ls at hl ⊢
  have hl : lv_has ls 3 [(0, .ref x)] := hl
  refine lv_aload_n hx hb dX2_order_0 rfl (lv_at hl 0 rfl) ?_
  refine va_get (D := (dC, dI)) (ci := 2) (v := .int (iI fc)) (C := RX2) (T := TX2) (N := 17) hx hb hw inX2 hown hK hP 0 rfl rfl 5 (by decide) (hw _ mA_386) (fun _ h9 => h9) rfl dX2_order_1 ?_
  refine ix_iconst (n := 1) hx hb dX2_order_4 ?_
  refine ix_isub hx hb dX2_order_5 ?_
  refine lv_istore_n (lv' := [(1, .int (iI (fc - 1))), (0, .ref x)]) hx hb dX2_order_6 rfl hl (by decide) rfl (fun ls hl => ?_)
  have hP : va_P (dC, dI) vwCl [(x, .inr (2, [.int (iI cd), .ref n, .ref r, .ref d, .int (iI cn), .int (iI fc), .ref ya, .ref yb, .ref yc, .ref yo, .long (lI (X 0)), .long (lI (X 1)), .long (lI (X 2)), .long (lI (X 3)), .long (lI (X 4)), .long (lI (X 5)), .long (lI (X 6))])), (yb, .inl (cI, 5, .inl (aI (mv (fc - 1) (fc - 1) Bs)))), (yc, .inl (cI, 5, .inl (aI (mv (fc - 1) (fc - 1) Cs)))), (yo, .inl (cI, 5, .inl (aI (mv (fc - 1) (fc - 1) Os))))] s.heap := by rw [mv_K, mv_K, mv_K]; exact hP
  have hD : va_D A [(x, .inr (2, [.int (iI cd), .ref n, .ref r, .ref d, .int (iI cn), .int (iI fc), .ref ya, .ref yb, .ref yc, .ref yo, .long (lI (X 0)), .long (lI (X 1)), .long (lI (X 2)), .long (lI (X 3)), .long (lI (X 4)), .long (lI (X 5)), .long (lI (X 6))])), (yb, .inl (cI, 5, .inl (aI (mv (fc - 1) (fc - 1) Bs)))), (yc, .inl (cI, 5, .inl (aI (mv (fc - 1) (fc - 1) Cs)))), (yo, .inl (cI, 5, .inl (aI (mv (fc - 1) (fc - 1) Os))))] := by rw [mv_K, mv_K, mv_K]; exact hD
  exact lp_order (cJ := cJ) hfc hB hA hnb ⟨hx, hb, hr, hml, hown, hw, hlocks⟩ 6 (fc - 1) ⟨by omega, by omega⟩ (fun j q1 q2 => by omega) (by omega) _ _ hK hP hD hS ls (lv_sub hl [1, 0] rfl)
