theorem tmod_r {a b : Int} (h : r32 a) : r32 (a.tmod b) := by
  have h1 := Int.natAbs_tmod a b
  have h2 : a.natAbs % b.natAbs ≤ a.natAbs := Nat.mod_le _ _
  have := h.1
  have := h.2
  rcases Int.lt_or_le a 0 with q | q
  · have h3 : 0 ≤ (-a).tmod b := Int.tmod_nonneg _ (by omega)
    rw [Int.neg_tmod] at h3
    constructor <;> omega
  · have h3 : 0 ≤ a.tmod b := Int.tmod_nonneg _ q
    constructor <;> omega
def f_in20 (v : Int) : Int := if -20 ≤ v ∧ v ≤ 20 then 1 else 0
set_option maxHeartbeats 4000000 in
set_option maxRecDepth 100000 in
/-- -20 .. 20 -/
theorem kX1_isInLimits (l : Launch) (v : Int) (h : r32 v) : Met l yX1_isInLimits (.code yX1_isInLimits cX1_isInLimits 1 (some .boolean) :: wsA) ({ frames := 0, cells := 0, slots := 0, locals := 0 }) (fun a9 _ => a9 = ([.int (iI v)] : List Value).toArray) (vp_Si (fun r => r = iI (f_in20 v))) 0 0 (fun _ => False) := by
  refine Met.ofW (cc := cX1_isInLimits) (maxL := 1) (ret := (some .boolean)) (by decide) rfl ?_
  intro p e s m args below meth c s₁ B hml hv
  subst hv
  have hx := B.exec
  have hb := B.bytes
  have hr := B.returns
  have hts := atoms_spec (ws := .code yX1_isInLimits cX1_isInLimits 1 (some .boolean) :: wsA) B.pre
  have hw : ∀ w ∈ wsA, w.before _ s = true := fun w h => hts w (List.mem_cons_of_mem _ h)
  have hown : s.vm.findClass RX1 = some m.cls := findClass_of_methodNamed B.named
  have hlocks := B.notSynchronized
  have hl := lv_entry ([.int (iI v)]) (n := 1) (Nat.le_of_ble_eq_true rfl)
  rw [lg_entry_eq]
  generalize (lg_sl ([.int (iI v)]) ++ List.replicate (1 - (lg_sl ([.int (iI v)])).length) Slot.unset).toArray = ls at hl ⊢
  have hl : lv_has ls 1 [(0, .int (iI v))] := hl
  refine lv_iload_n hx hb dX1_isInLimits_0 rfl (lv_at hl 0 rfl) ?_
  refine ix_bipush (n := (-20)) hx hb dX1_isInLimits_1 rfl ?_
  refine ix_icmp_lt (tgt := 16) hx hb dX1_isInLimits_3 (by decide) (by omega) (by decide) (fun c1 => ?_) (fun c1 => ?_)
  · refine ix_iconst (n := 0) hx hb dX1_isInLimits_16 ?_
    exact W.zret (v := iI 0) hx hb hr (by decide) (fun t ht _ => ⟨_, rfl, congrArg iI (by unfold f_in20; grind), ht⟩) (fun q h => nomatch h) dX1_isInLimits_17
  · refine lv_iload_n hx hb dX1_isInLimits_6 rfl (lv_at hl 0 rfl) ?_
    refine ix_bipush (n := 20) hx hb dX1_isInLimits_7 rfl ?_
    refine ix_icmp_gt (tgt := 16) hx hb dX1_isInLimits_9 (by decide) (by omega) (by decide) (fun c2 => ?_) (fun c2 => ?_)
    · refine ix_iconst (n := 0) hx hb dX1_isInLimits_16 ?_
      exact W.zret (v := iI 0) hx hb hr (by decide) (fun t ht _ => ⟨_, rfl, congrArg iI (by unfold f_in20; grind), ht⟩) (fun q h => nomatch h) dX1_isInLimits_17
    · refine ix_iconst (n := 1) hx hb dX1_isInLimits_12 ?_
      refine lv_goto (tgt := 17) hx hb dX1_isInLimits_13 (by decide) ?_
      exact W.zret (v := iI 1) hx hb hr (by decide) (fun t ht _ => ⟨_, rfl, congrArg iI (by unfold f_in20; grind), ht⟩) (fun q h => nomatch h) dX1_isInLimits_17
def f_ssq (v : Int) : Int := if v < 0 then -v * v else v * v
set_option maxHeartbeats 4000000 in
set_option maxRecDepth 100000 in
theorem kX1_signedSquare (l : Launch) (v : Int) (h : r64 v) : Met l yX1_signedSquare (.code yX1_signedSquare cX1_signedSquare 2 (some .long) :: wsA) ({ frames := 0, cells := 0, slots := 0, locals := 0 }) (fun a9 _ => a9 = ([.long (lI v)] : List Value).toArray) (vp_Sl (fun r => r = lI (f_ssq v))) 0 0 (fun _ => False) := by
  refine Met.ofW (cc := cX1_signedSquare) (maxL := 2) (ret := (some .long)) (by decide) rfl ?_
  intro p e s m args below meth c s₁ B hml hv
  subst hv
  have hx := B.exec
  have hb := B.bytes
  have hr := B.returns
  have hts := atoms_spec (ws := .code yX1_signedSquare cX1_signedSquare 2 (some .long) :: wsA) B.pre
  have hw : ∀ w ∈ wsA, w.before _ s = true := fun w h => hts w (List.mem_cons_of_mem _ h)
  have hown : s.vm.findClass RX1 = some m.cls := findClass_of_methodNamed B.named
  have hlocks := B.notSynchronized
  have hl := lv_entry ([.long (lI v)]) (n := 2) (Nat.le_of_ble_eq_true rfl)
  rw [lg_entry_eq]
  generalize (lg_sl ([.long (lI v)]) ++ List.replicate (2 - (lg_sl ([.long (lI v)])).length) Slot.unset).toArray = ls at hl ⊢
  have hl : lv_has ls 2 [(0, .long (lI v))] := hl
  refine lv_lload_n hx hb dX1_signedSquare_0 rfl (lv_at hl 0 rfl) ?_
  refine ix_lconst0 hx hb dX1_signedSquare_1 ?_
  refine ix_lc_ge (tgt := 13) hx hb dX1_signedSquare_2 dX1_signedSquare_3 (by decide) (by omega) (by decide) (fun c1 => ?_) (fun c1 => ?_)
  · refine lv_lload_n hx hb dX1_signedSquare_13 rfl (lv_at hl 0 rfl) ?_
    refine lv_lload_n hx hb dX1_signedSquare_14 rfl (lv_at hl 0 rfl) ?_
    refine ix_lmul hx hb dX1_signedSquare_15 ?_
    exact W.lret (v := lI (v * v)) hx hb hr (fun t ht _ => ⟨_, rfl, congrArg lI (by unfold f_ssq; grind), ht⟩) (fun q h => nomatch h) dX1_signedSquare_16
  · refine lv_lload_n hx hb dX1_signedSquare_6 rfl (lv_at hl 0 rfl) ?_
    refine ix_lneg hx hb dX1_signedSquare_7 ?_
    refine lv_lload_n hx hb dX1_signedSquare_8 rfl (lv_at hl 0 rfl) ?_
    refine ix_lmul hx hb dX1_signedSquare_9 ?_
    refine lv_goto (tgt := 16) hx hb dX1_signedSquare_10 (by decide) ?_
    exact W.lret (v := lI ((-v) * v)) hx hb hr (fun t ht _ => ⟨_, rfl, congrArg lI (by unfold f_ssq; grind), ht⟩) (fun q h => nomatch h) dX1_signedSquare_16
def f_in (v a b : Int) : Int := if a ≤ v ∧ v ≤ b then 1 else 0
set_option maxHeartbeats 4000000 in
set_option maxRecDepth 100000 in
theorem kX2_in (l : Launch) (v : Int) (a : Int) (b : Int) (h : r64 v) (h1 : r64 a) (h2 : r64 b) : Met l yX2_in (.code yX2_in cX2_in 6 (some .boolean) :: wsA) ({ frames := 0, cells := 0, slots := 0, locals := 0 }) (fun a9 _ => a9 = ([.long (lI v), .long (lI a), .long (lI b)] : List Value).toArray) (vp_Si (fun r => r = iI (f_in v a b))) 0 0 (fun _ => False) := by
  refine Met.ofW (cc := cX2_in) (maxL := 6) (ret := (some .boolean)) (by decide) rfl ?_
  intro p e s m args below meth c s₁ B hml hv
  subst hv
  have hx := B.exec
  have hb := B.bytes
  have hr := B.returns
  have hts := atoms_spec (ws := .code yX2_in cX2_in 6 (some .boolean) :: wsA) B.pre
  have hw : ∀ w ∈ wsA, w.before _ s = true := fun w h => hts w (List.mem_cons_of_mem _ h)
  have hown : s.vm.findClass RX2 = some m.cls := findClass_of_methodNamed B.named
  have hlocks := B.notSynchronized
  have hl := lv_entry ([.long (lI v), .long (lI a), .long (lI b)]) (n := 6) (Nat.le_of_ble_eq_true rfl)
  rw [lg_entry_eq]
  generalize (lg_sl ([.long (lI v), .long (lI a), .long (lI b)]) ++ List.replicate (6 - (lg_sl ([.long (lI v), .long (lI a), .long (lI b)])).length) Slot.unset).toArray = ls at hl ⊢
  have hl : lv_has ls 6 [(0, .long (lI v)), (2, .long (lI a)), (4, .long (lI b))] := hl
  refine lv_lload_n hx hb dX2_in_0 rfl (lv_at hl 0 rfl) ?_
  refine lv_lload_n hx hb dX2_in_1 rfl (lv_at hl 1 rfl) ?_
  refine ix_lc_lt (tgt := 17) hx hb dX2_in_2 dX2_in_3 (by decide) (by omega) (by omega) (fun c1 => ?_) (fun c1 => ?_)
  · refine ix_iconst (n := 0) hx hb dX2_in_17 ?_
    exact W.zret (v := iI 0) hx hb hr (by decide) (fun t ht _ => ⟨_, rfl, congrArg iI (by unfold f_in; grind), ht⟩) (fun q h => nomatch h) dX2_in_18
  · refine lv_lload_n hx hb dX2_in_6 rfl (lv_at hl 0 rfl) ?_
    refine lv_lload hx hb dX2_in_7 (lv_at hl 2 rfl) ?_
    refine ix_lc_gt (tgt := 17) hx hb dX2_in_9 dX2_in_10 (by decide) (by omega) (by omega) (fun c2 => ?_) (fun c2 => ?_)
    · refine ix_iconst (n := 0) hx hb dX2_in_17 ?_
      exact W.zret (v := iI 0) hx hb hr (by decide) (fun t ht _ => ⟨_, rfl, congrArg iI (by unfold f_in; grind), ht⟩) (fun q h => nomatch h) dX2_in_18
    · refine ix_iconst (n := 1) hx hb dX2_in_13 ?_
      refine lv_goto (tgt := 18) hx hb dX2_in_14 (by decide) ?_
      exact W.zret (v := iI 1) hx hb hr (by decide) (fun t ht _ => ⟨_, rfl, congrArg iI (by unfold f_in; grind), ht⟩) (fun q h => nomatch h) dX2_in_18
set_option maxHeartbeats 4000000 in
set_option maxRecDepth 100000 in
theorem kX2_size (l : Launch) (v : Int) (h : r64 v) : Met l yX2_size (.code yX2_size cX2_size 2 (some .long) :: wsA) ({ frames := 0, cells := 0, slots := 0, locals := 0 }) (fun a9 _ => a9 = ([.long (lI v)] : List Value).toArray) (vp_Sl (fun r => r = lI (f_size v))) 0 0 (fun _ => False) := by
  refine Met.ofW (cc := cX2_size) (maxL := 2) (ret := (some .long)) (by decide) rfl ?_
  intro p e s m args below meth c s₁ B hml hv
  subst hv
  have hx := B.exec
  have hb := B.bytes
  have hr := B.returns
  have hts := atoms_spec (ws := .code yX2_size cX2_size 2 (some .long) :: wsA) B.pre
  have hw : ∀ w ∈ wsA, w.before _ s = true := fun w h => hts w (List.mem_cons_of_mem _ h)
  have hown : s.vm.findClass RX2 = some m.cls := findClass_of_methodNamed B.named
  have hlocks := B.notSynchronized
  have hl := lv_entry ([.long (lI v)]) (n := 2) (Nat.le_of_ble_eq_true rfl)
  rw [lg_entry_eq]
  generalize (lg_sl ([.long (lI v)]) ++ List.replicate (2 - (lg_sl ([.long (lI v)])).length) Slot.unset).toArray = ls at hl ⊢
  have hl : lv_has ls 2 [(0, .long (lI v))] := hl
  refine lv_lload_n hx hb dX2_size_0 rfl (lv_at hl 0 rfl) ?_
  refine ix_lconst0 hx hb dX2_size_1 ?_
  refine ix_lc_ge (tgt := 11) hx hb dX2_size_2 dX2_size_3 (by decide) (by omega) (by decide) (fun c1 => ?_) (fun c1 => ?_)
  · refine lv_lload_n hx hb dX2_size_11 rfl (lv_at hl 0 rfl) ?_
    exact W.lret (v := lI v) hx hb hr (fun t ht _ => ⟨_, rfl, congrArg lI (by unfold f_size; grind), ht⟩) (fun q h => nomatch h) dX2_size_12
  · refine lv_lload_n hx hb dX2_size_6 rfl (lv_at hl 0 rfl) ?_
    refine ix_lneg hx hb dX2_size_7 ?_
    refine lv_goto (tgt := 12) hx hb dX2_size_8 (by decide) ?_
    exact W.lret (v := lI (-v)) hx hb hr (fun t ht _ => ⟨_, rfl, congrArg lI (by unfold f_size; grind), ht⟩) (fun q h => nomatch h) dX2_size_12
def f_sg (v : Int) : Int := if 0 < v then 1 else if v < 0 then -1 else 0
set_option maxHeartbeats 4000000 in
set_option maxRecDepth 100000 in
theorem kX2_signOf (l : Launch) (v : Int) (h : r64 v) : Met l yX2_signOf (.code yX2_signOf cX2_signOf 2 (some .int) :: wsA) ({ frames := 0, cells := 0, slots := 0, locals := 0 }) (fun a9 _ => a9 = ([.long (lI v)] : List Value).toArray) (vp_Si (fun r => r = iI (f_sg v))) 0 0 (fun _ => False) := by
  refine Met.ofW (cc := cX2_signOf) (maxL := 2) (ret := (some .int)) (by decide) rfl ?_
  intro p e s m args below meth c s₁ B hml hv
  subst hv
  have hx := B.exec
  have hb := B.bytes
  have hr := B.returns
  have hts := atoms_spec (ws := .code yX2_signOf cX2_signOf 2 (some .int) :: wsA) B.pre
  have hw : ∀ w ∈ wsA, w.before _ s = true := fun w h => hts w (List.mem_cons_of_mem _ h)
  have hown : s.vm.findClass RX2 = some m.cls := findClass_of_methodNamed B.named
  have hlocks := B.notSynchronized
  have hl := lv_entry ([.long (lI v)]) (n := 2) (Nat.le_of_ble_eq_true rfl)
  rw [lg_entry_eq]
  generalize (lg_sl ([.long (lI v)]) ++ List.replicate (2 - (lg_sl ([.long (lI v)])).length) Slot.unset).toArray = ls at hl ⊢
  have hl : lv_has ls 2 [(0, .long (lI v))] := hl
  refine lv_lload_n hx hb dX2_signOf_0 rfl (lv_at hl 0 rfl) ?_
  refine ix_lconst0 hx hb dX2_signOf_1 ?_
  refine ix_lc_le (tgt := 10) hx hb dX2_signOf_2 dX2_signOf_3 (by decide) (by omega) (by decide) (fun c1 => ?_) (fun c1 => ?_)
  · refine lv_lload_n hx hb dX2_signOf_10 rfl (lv_at hl 0 rfl) ?_
    refine ix_lconst0 hx hb dX2_signOf_11 ?_
    refine ix_lc_ge (tgt := 20) hx hb dX2_signOf_12 dX2_signOf_13 (by decide) (by omega) (by decide) (fun c2 => ?_) (fun c2 => ?_)
    · refine ix_iconst (n := 0) hx hb dX2_signOf_20 ?_
      exact W.iret (v := iI 0) hx hb hr (fun t ht _ => ⟨_, rfl, congrArg iI (by unfold f_sg; grind), ht⟩) (fun q h => nomatch h) dX2_signOf_21
    · refine ix_iconst (n := (-1)) hx hb dX2_signOf_16 ?_
      refine lv_goto (tgt := 21) hx hb dX2_signOf_17 (by decide) ?_
      exact W.iret (v := iI (-1)) hx hb hr (fun t ht _ => ⟨_, rfl, congrArg iI (by unfold f_sg; grind), ht⟩) (fun q h => nomatch h) dX2_signOf_21
  · refine ix_iconst (n := 1) hx hb dX2_signOf_6 ?_
    refine lv_goto (tgt := 21) hx hb dX2_signOf_7 (by decide) ?_
    exact W.iret (v := iI 1) hx hb hr (fun t ht _ => ⟨_, rfl, congrArg iI (by unfold f_sg; grind), ht⟩) (fun q h => nomatch h) dX2_signOf_21
def f_gcd (a b : Int) : Int := (Int.gcd a b : Int)
theorem gcd_step (x y : Int) : f_gcd y (x.tmod y) = f_gcd x y := by
  unfold f_gcd
  show ((Nat.gcd y.natAbs (x.tmod y).natAbs : Nat) : Int) = ((Nat.gcd x.natAbs y.natAbs : Nat) : Int)
  rw [Int.natAbs_tmod, Nat.gcd_comm y.natAbs, ← Nat.gcd_rec, Nat.gcd_comm]
theorem gcd_size (x y : Int) : f_gcd (f_size x) (f_size y) = f_gcd x y := by
  unfold f_gcd f_size
  by_cases h1 : x < 0 <;> by_cases h2 : y < 0 <;> simp [h1, h2]
theorem gcd_end {x : Int} (h : 0 ≤ x) : f_gcd x 0 = x := by
  unfold f_gcd
  rw [Int.gcd_zero_right]
  omega
theorem size_nn (x : Int) : 0 ≤ f_size x := by unfold f_size; grind
theorem size_le {x M : Int} (h : -M ≤ x) (h2 : x ≤ M) : f_size x ≤ M := by unfold f_size; grind
set_option maxHeartbeats 4000000 in
set_option maxRecDepth 100000 in
theorem lp_commonDivisor {p : Program} {l : Launch} {e : Env} {R : Room} {s : State} {m : MethodId} {args : Array Value} {below : List Frame} {meth : Method} {c : Code} {g : Int} (C0 : cx p s m meth c args RX1 cX1_commonDivisor 6 (some .int)) : ∀ (n : Nat) (x y i : Int), 0 ≤ x ∧ x ≤ 2147483647 → 0 ≤ y ∧ y ≤ 99 → 0 ≤ i ∧ i + y ≤ 99 → f_gcd x y = g → y.toNat < n → ∀ (ls : Array Slot), lv_has ls 6 [(2, .int (iI x)), (3, .int (iI y)), (4, .int (iI i))] → W p l e R s m args below meth c s.heap [] 0 0 (MQ below (vp_Si (fun r => r = iI g)) args s 0 0 (fun _ => False)) (F0 m 13 ls []) := by
  obtain ⟨hx, hb, hr, hml, hown, hw, hlocks⟩ := C0
  intro n
  induction n with
  | zero => intro x y i _ _ _ _ hmu; exact absurd hmu (Nat.not_lt_zero _)
  | succ n ih =>
    intro x y i h1 h2 h3 h4 hmu ls hl
    refine lv_iload hx hb dX1_commonDivisor_13 (lv_at hl 2 rfl) ?_
    refine ix_bipush (n := 100) hx hb dX1_commonDivisor_15 rfl ?_
    refine ix_icmp_ge (tgt := 40) hx hb dX1_commonDivisor_17 (by decide) (by omega) (by decide) (fun c1 => ?_) (fun c1 => ?_)
    · refine lv_iload_n hx hb dX1_commonDivisor_40 rfl (lv_at hl 0 rfl) ?_
      exact W.iret (v := iI x) hx hb hr (fun t ht _ => ⟨_, rfl, congrArg iI (by have hy0 : y = 0 := (by omega); rw [hy0, gcd_end h1.1] at h4; exact h4), ht⟩) (fun q h => nomatch h) dX1_commonDivisor_41
    · refine lv_iload_n hx hb dX1_commonDivisor_20 rfl (lv_at hl 1 rfl) ?_
      refine ix_if_eq (tgt := 40) hx hb dX1_commonDivisor_21 (by decide) (by omega) (fun c2 => ?_) (fun c2 => ?_)
      · refine lv_iload_n hx hb dX1_commonDivisor_40 rfl (lv_at hl 0 rfl) ?_
        exact W.iret (v := iI x) hx hb hr (fun t ht _ => ⟨_, rfl, congrArg iI (by have hy0 : y = 0 := (by omega); rw [hy0, gcd_end h1.1] at h4; exact h4), ht⟩) (fun q h => nomatch h) dX1_commonDivisor_41
      · refine lv_iload_n hx hb dX1_commonDivisor_24 rfl (lv_at hl 0 rfl) ?_
        refine lv_iload_n hx hb dX1_commonDivisor_25 rfl (lv_at hl 1 rfl) ?_
        refine ix_irem hx hb dX1_commonDivisor_26 (by omega) (by omega) (by omega) ?_
        refine lv_istore (lv' := [(5, .int (iI (x.tmod y))), (2, .int (iI x)), (3, .int (iI y)), (4, .int (iI i))]) hx hb dX1_commonDivisor_27 hl (by decide) rfl (fun ls hl => ?_)
        refine lv_iload_n hx hb dX1_commonDivisor_29 rfl (lv_at hl 2 rfl) ?_
        refine lv_istore_n (lv' := [(2, .int (iI y)), (5, .int (iI (x.tmod y))), (3, .int (iI y)), (4, .int (iI i))]) hx hb dX1_commonDivisor_30 rfl hl (by decide) rfl (fun ls hl => ?_)
        refine lv_iload hx hb dX1_commonDivisor_31 (lv_at hl 1 rfl) ?_
        refine lv_istore_n (lv' := [(3, .int (iI (x.tmod y))), (2, .int (iI y)), (5, .int (iI (x.tmod y))), (4, .int (iI i))]) hx hb dX1_commonDivisor_33 rfl hl (by decide) rfl (fun ls hl => ?_)
        refine ix_iinc (k := 3) (lv2 := [(4, .int (iI (i + 1))), (3, .int (iI (x.tmod y))), (2, .int (iI y)), (5, .int (iI (x.tmod y)))]) hx hb dX1_commonDivisor_34 hl rfl (by decide) rfl (fun ls hl => ?_)
        refine lv_goto (tgt := 13) hx hb dX1_commonDivisor_37 (by decide) ?_
        have hy0 : 0 < y := by omega
        have e1 : 0 ≤ x.tmod y := Int.tmod_nonneg _ h1.1
        have e2 : x.tmod y < y := Int.tmod_lt_of_pos _ hy0
        exact ih y (x.tmod y) (i + 1) ⟨by omega, by omega⟩ ⟨e1, by omega⟩ ⟨by omega, by omega⟩ (by rw [gcd_step]; exact h4) (by omega) ls (lv_sub hl [2, 1, 0] rfl)
set_option maxHeartbeats 4000000 in
set_option maxRecDepth 100000 in
/-- the greatest common divisor -/
theorem kX1_commonDivisor (l : Launch) (a : Int) (b : Int) (h1 : -2147483647 ≤ a ∧ a ≤ 2147483647) (h2 : -99 ≤ b ∧ b ≤ 99) : Met l yX1_commonDivisor (.code yX1_commonDivisor cX1_commonDivisor 6 (some .int) :: wsA) ({ frames := 1, cells := 0, slots := 0, locals := 24 }) (fun a9 _ => a9 = ([.int (iI a), .int (iI b)] : List Value).toArray) (vp_Si (fun r => r = iI (f_gcd a b))) 0 0 (fun _ => False) := by
  refine Met.ofW (cc := cX1_commonDivisor) (maxL := 6) (ret := (some .int)) (by decide) rfl ?_
  intro p e s m args below meth c s₁ B hml hv
  subst hv
  have hx := B.exec
  have hb := B.bytes
  have hr := B.returns
  have hts := atoms_spec (ws := .code yX1_commonDivisor cX1_commonDivisor 6 (some .int) :: wsA) B.pre
  have hw : ∀ w ∈ wsA, w.before _ s = true := fun w h => hts w (List.mem_cons_of_mem _ h)
  have hown : s.vm.findClass RX1 = some m.cls := findClass_of_methodNamed B.named
  have hlocks := B.notSynchronized
  have hl := lv_entry ([.int (iI a), .int (iI b)]) (n := 6) (Nat.le_of_ble_eq_true rfl)
  rw [lg_entry_eq]
  generalize (lg_sl ([.int (iI a), .int (iI b)]) ++ List.replicate (6 - (lg_sl ([.int (iI a), .int (iI b)])).length) Slot.unset).toArray = ls at hl ⊢
  have hl : lv_has ls 6 [(0, .int (iI a)), (1, .int (iI b))] := hl
  refine lv_iload_n hx hb dX1_commonDivisor_0 rfl (lv_at hl 0 rfl) ?_
  refine ix_abs hx hb (by rw [hml]; exact hl.1.symm) hown (hw _ mA_242) (hw _ mA_243) (hw _ mA_11) (hw _ mA_244) (Nat.le_of_ble_eq_true rfl) (Nat.le_of_ble_eq_true rfl) (Nat.le_of_ble_eq_true rfl) (Nat.le_of_ble_eq_true rfl) (by omega) dX1_commonDivisor_1 ?_
  refine lv_istore_n (lv' := [(2, .int (iI (f_size a))), (0, .int (iI a)), (1, .int (iI b))]) hx hb dX1_commonDivisor_4 rfl hl (by decide) rfl (fun ls hl => ?_)
  refine lv_iload_n hx hb dX1_commonDivisor_5 rfl (lv_at hl 2 rfl) ?_
  refine ix_abs hx hb (by rw [hml]; exact hl.1.symm) hown (hw _ mA_242) (hw _ mA_243) (hw _ mA_11) (hw _ mA_244) (Nat.le_of_ble_eq_true rfl) (Nat.le_of_ble_eq_true rfl) (Nat.le_of_ble_eq_true rfl) (Nat.le_of_ble_eq_true rfl) (by omega) dX1_commonDivisor_6 ?_
  refine lv_istore_n (lv' := [(3, .int (iI (f_size b))), (2, .int (iI (f_size a))), (0, .int (iI a)), (1, .int (iI b))]) hx hb dX1_commonDivisor_9 rfl hl (by decide) rfl (fun ls hl => ?_)
  refine ix_iconst (n := 0) hx hb dX1_commonDivisor_10 ?_
  refine lv_istore (lv' := [(4, .int (iI 0)), (3, .int (iI (f_size b))), (2, .int (iI (f_size a))), (0, .int (iI a)), (1, .int (iI b))]) hx hb dX1_commonDivisor_11 hl (by decide) rfl (fun ls hl => ?_)
  exact lp_commonDivisor ⟨hx, hb, hr, hml, hown, hw, hlocks⟩ ((f_size b).toNat + 1) (f_size a) (f_size b) 0 ⟨size_nn a, size_le (by omega) (by omega)⟩ ⟨size_nn b, size_le h2.1 h2.2⟩ ⟨by omega, by have := size_le h2.1 h2.2; omega⟩ (gcd_size a b) (Nat.lt_succ_self _) ls (lv_sub hl [2, 1, 0] rfl)
set_option maxHeartbeats 4000000 in
set_option maxRecDepth 100000 in
theorem lp_divisor {p : Program} {l : Launch} {e : Env} {R : Room} {s : State} {m : MethodId} {args : Array Value} {below : List Frame} {meth : Method} {c : Code} {g : Int} (C0 : cx p s m meth c args RX2 cX2_divisor 10 (some .long)) : ∀ (n : Nat) (x y : Int), 0 ≤ x ∧ x ≤ 9223372036854775807 → 0 ≤ y ∧ y ≤ 9223372036854775807 → f_gcd x y = g → y.toNat < n → ∀ (ls : Array Slot), lv_has ls 10 [(4, .long (lI x)), (6, .long (lI y))] → W p l e R s m args below meth c s.heap [] 0 0 (MQ below (vp_Sl (fun r => r = lI g)) args s 0 0 (fun _ => False)) (F0 m 12 ls []) := by
  obtain ⟨hx, hb, hr, hml, hown, hw, hlocks⟩ := C0
  intro n
  induction n with
  | zero => intro x y _ _ _ hmu; exact absurd hmu (Nat.not_lt_zero _)
  | succ n ih =>
    intro x y h1 h2 h4 hmu ls hl
    refine lv_lload hx hb dX2_divisor_12 (lv_at hl 1 rfl) ?_
    refine ix_lconst0 hx hb dX2_divisor_14 ?_
    refine ix_lc_eq (tgt := 37) hx hb dX2_divisor_15 dX2_divisor_16 (by decide) (by omega) (by decide) (fun c1 => ?_) (fun c1 => ?_)
    · refine lv_lload hx hb dX2_divisor_37 (lv_at hl 0 rfl) ?_
      exact W.lret (v := lI x) hx hb hr (fun t ht _ => ⟨_, rfl, congrArg lI (by have hy0 : y = 0 := (by omega); rw [hy0, gcd_end h1.1] at h4; exact h4), ht⟩) (fun q h => nomatch h) dX2_divisor_39
    · refine lv_lload hx hb dX2_divisor_19 (lv_at hl 0 rfl) ?_
      refine lv_lload hx hb dX2_divisor_21 (lv_at hl 1 rfl) ?_
      refine ix_lrem hx hb dX2_divisor_23 (by omega) (by omega) (by omega) ?_
      refine lv_lstore (lv' := [(8, .long (lI (x.tmod y))), (4, .long (lI x)), (6, .long (lI y))]) hx hb dX2_divisor_24 hl (by decide) rfl (fun ls hl => ?_)
      refine lv_lload hx hb dX2_divisor_26 (lv_at hl 2 rfl) ?_
      refine lv_lstore (lv' := [(4, .long (lI y)), (8, .long (lI (x.tmod y))), (6, .long (lI y))]) hx hb dX2_divisor_28 hl (by decide) rfl (fun ls hl => ?_)
      refine lv_lload hx hb dX2_divisor_30 (lv_at hl 1 rfl) ?_
      refine lv_lstore (lv' := [(6, .long (lI (x.tmod y))), (4, .long (lI y)), (8, .long (lI (x.tmod y)))]) hx hb dX2_divisor_32 hl (by decide) rfl (fun ls hl => ?_)
      refine lv_goto (tgt := 12) hx hb dX2_divisor_34 (by decide) ?_
      have hy0 : 0 < y := by omega
      have e1 : 0 ≤ x.tmod y := Int.tmod_nonneg _ h1.1
      have e2 : x.tmod y < y := Int.tmod_lt_of_pos _ hy0
      exact ih y (x.tmod y) ⟨by omega, by omega⟩ ⟨e1, by omega⟩ (by rw [gcd_step]; exact h4) (by omega) ls (lv_sub hl [1, 0] rfl)
set_option maxHeartbeats 4000000 in
set_option maxRecDepth 100000 in
/-- the greatest common divisor -/
theorem kX2_divisor (l : Launch) (a : Int) (b : Int) (h1 : -9223372036854775807 ≤ a ∧ a ≤ 9223372036854775807) (h2 : -9223372036854775807 ≤ b ∧ b ≤ 9223372036854775807) : Met l yX2_divisor (.code yX2_divisor cX2_divisor 10 (some .long) :: wsA) ({ frames := 1, cells := 0, slots := 0, locals := 40 }) (fun a9 _ => a9 = ([.long (lI a), .long (lI b)] : List Value).toArray) (vp_Sl (fun r => r = lI (f_gcd a b))) 0 0 (fun _ => False) := by
  refine Met.ofW (cc := cX2_divisor) (maxL := 10) (ret := (some .long)) (by decide) rfl ?_
  intro p e s m args below meth c s₁ B hml hv
  subst hv
  have hx := B.exec
  have hb := B.bytes
  have hr := B.returns
  have hts := atoms_spec (ws := .code yX2_divisor cX2_divisor 10 (some .long) :: wsA) B.pre
  have hw : ∀ w ∈ wsA, w.before _ s = true := fun w h => hts w (List.mem_cons_of_mem _ h)
  have hown : s.vm.findClass RX2 = some m.cls := findClass_of_methodNamed B.named
  have hlocks := B.notSynchronized
  have hl := lv_entry ([.long (lI a), .long (lI b)]) (n := 10) (Nat.le_of_ble_eq_true rfl)
  rw [lg_entry_eq]
  generalize (lg_sl ([.long (lI a), .long (lI b)]) ++ List.replicate (10 - (lg_sl ([.long (lI a), .long (lI b)])).length) Slot.unset).toArray = ls at hl ⊢
  have hl : lv_has ls 10 [(0, .long (lI a)), (2, .long (lI b))] := hl
  refine lv_lload_n hx hb dX2_divisor_0 rfl (lv_at hl 0 rfl) ?_
  refine vp_callSl (W.runS (As := [.long (lI a)]) (rest := []) ⟨hx, hb, hml, hown, hw⟩ (kX2_size l a ⟨by omega, by omega⟩) (cwS 1 hw (gS mA_485 mA_486 mA_3 mA_487) rfl rfl rfl (by decide +kernel) ⟨Nat.le_of_ble_eq_true rfl, Nat.le_of_ble_eq_true rfl⟩) preEq rfl rfl hl.1 rfl (lv_room (Nat.le_of_ble_eq_true rfl)) dX2_divisor_1 ⟨Nat.le_of_ble_eq_true rfl, Nat.le_of_ble_eq_true rfl⟩) (fun r1 h2 => ?_)
  subst h2
  refine lv_lstore (lv' := [(4, .long (lI (f_size a))), (0, .long (lI a)), (2, .long (lI b))]) hx hb dX2_divisor_4 hl (by decide) rfl (fun ls hl => ?_)
  refine lv_lload_n hx hb dX2_divisor_6 rfl (lv_at hl 2 rfl) ?_
  refine vp_callSl (W.runS (As := [.long (lI b)]) (rest := []) ⟨hx, hb, hml, hown, hw⟩ (kX2_size l b ⟨by omega, by omega⟩) (cwS 1 hw (gS mA_485 mA_486 mA_3 mA_487) rfl rfl rfl (by decide +kernel) ⟨Nat.le_of_ble_eq_true rfl, Nat.le_of_ble_eq_true rfl⟩) preEq rfl rfl hl.1 rfl (lv_room (Nat.le_of_ble_eq_true rfl)) dX2_divisor_7 ⟨Nat.le_of_ble_eq_true rfl, Nat.le_of_ble_eq_true rfl⟩) (fun r3 h4 => ?_)
  subst h4
  refine lv_lstore (lv' := [(6, .long (lI (f_size b))), (4, .long (lI (f_size a))), (0, .long (lI a)), (2, .long (lI b))]) hx hb dX2_divisor_10 hl (by decide) rfl (fun ls hl => ?_)
  exact lp_divisor ⟨hx, hb, hr, hml, hown, hw, hlocks⟩ ((f_size b).toNat + 1) (f_size a) (f_size b) ⟨size_nn a, size_le (by omega) (by omega)⟩ ⟨size_nn b, size_le (by omega) (by omega)⟩ (gcd_size a b) (Nat.lt_succ_self _) ls (lv_sub hl [1, 0] rfl)
/-- the greatest i up to n whose square divides z and isn't above it -/
def gsL (z : Int) : Nat → Int
  | 0 => 0
  | n + 1 => if z.tmod (((n : Int) + 1) * ((n : Int) + 1)) = 0 ∧ ((n : Int) + 1) * ((n : Int) + 1) ≤ z then (n : Int) + 1 else gsL z n
theorem sq_mono {a b : Int} (h : 0 ≤ a) (h2 : a ≤ b) : a * a ≤ b * b := Int.mul_le_mul h2 h2 h (by omega)
theorem gsL_end {z : Int} {m : Nat} (h : z < ((m : Int) + 1) * ((m : Int) + 1)) : ∀ k, gsL z (m + k) = gsL z m := by
  intro k
  induction k with
  | zero => rfl
  | succ k ih =>
    show gsL z (m + k + 1) = gsL z m
    rw [gsL, if_neg, ih]
    intro q
    have := sq_mono (a := (m : Int) + 1) (b := ((m + k : Nat) : Int) + 1) (by omega) (by omega)
    omega
def f_gsq (v : Int) : Int := gsL (f_size v) 1000
set_option maxHeartbeats 4000000 in
set_option maxRecDepth 100000 in
theorem lp_gsq {p : Program} {l : Launch} {e : Env} {R : Room} {s : State} {m : MethodId} {args : Array Value} {below : List Frame} {meth : Method} {c : Code} {z : Int} (hz : 0 ≤ z ∧ z ≤ 1002000) (C0 : cx p s m meth c args RX1 cX1_greatestSquareDividing 4 (some .int)) : ∀ (n : Nat) (g i : Int), 1 ≤ i ∧ i ≤ 1001 → g = gsL z (i - 1).toNat → (1002 - i).toNat < n → ∀ (ls : Array Slot), lv_has ls 4 [(1, .int (iI z)), (2, .int (iI g)), (3, .int (iI i))] → W p l e R s m args below meth c s.heap [] 0 0 (MQ below (vp_Si (fun r => r = iI (gsL z 1000))) args s 0 0 (fun _ => False)) (F0 m 15 ls []) := by
  obtain ⟨hx, hb, hr, hml, hown, hw, hlocks⟩ := C0
  intro n
  induction n with
  | zero => intro g i _ _ hmu; exact absurd hmu (Nat.not_lt_zero _)
  | succ n ih =>
    intro g i h1 h3 hmu ls hl
    refine lv_iload_n hx hb dX1_greatestSquareDividing_15 rfl (lv_at hl 2 rfl) ?_
    refine ix_sipush (n := 1000) hx hb dX1_greatestSquareDividing_16 rfl ?_
    refine ix_icmp_gt (tgt := 45) hx hb dX1_greatestSquareDividing_19 (by decide) (by omega) (by decide) (fun c1 => ?_) (fun c1 => ?_)
    · refine lv_iload_n hx hb dX1_greatestSquareDividing_45 rfl (lv_at hl 1 rfl) ?_
      have e3 : gsL z 1000 = gsL z (i - 1).toNat := by
        have hz : z < (((i - 1).toNat : Nat) : Int) * 1 + 1 ∨ True := Or.inr trivial
        have e2 : (((i - 1).toNat : Nat) : Int) + 1 = i := by omega
        have hq : z < i * i := by first | omega | (have := sq_mono (a := 1001) (b := i) (by omega) (by omega); omega)
        have := gsL_end (z := z) (m := (i - 1).toNat) (by rw [e2]; exact hq) (1000 - (i - 1).toNat)
        rw [show (i - 1).toNat + (1000 - (i - 1).toNat) = 1000 by omega] at this
        exact this
      exact W.iret (v := iI g) hx hb hr (fun t ht _ => ⟨_, rfl, congrArg iI (h3.trans e3.symm), ht⟩) (fun q h => nomatch h) dX1_greatestSquareDividing_46
    · refine lv_iload_n hx hb dX1_greatestSquareDividing_22 rfl (lv_at hl 2 rfl) ?_
      refine lv_iload_n hx hb dX1_greatestSquareDividing_23 rfl (lv_at hl 2 rfl) ?_
      refine ix_imul hx hb dX1_greatestSquareDividing_24 ?_
      refine lv_iload_n hx hb dX1_greatestSquareDividing_25 rfl (lv_at hl 0 rfl) ?_
      refine ix_icmp_gt (tgt := 45) hx hb dX1_greatestSquareDividing_26 (by decide) (by have := sq_mono (a := i) (b := 1001) (by omega) (by omega); have := sq_mono (a := 0) (b := i) (by omega) (by omega); omega) (by omega) (fun c2 => ?_) (fun c2 => ?_)
      · refine lv_iload_n hx hb dX1_greatestSquareDividing_45 rfl (lv_at hl 1 rfl) ?_
        have e3 : gsL z 1000 = gsL z (i - 1).toNat := by
          have hz : z < (((i - 1).toNat : Nat) : Int) * 1 + 1 ∨ True := Or.inr trivial
          have e2 : (((i - 1).toNat : Nat) : Int) + 1 = i := by omega
          have hq : z < i * i := by first | omega | (have := sq_mono (a := 1001) (b := i) (by omega) (by omega); omega)
          have := gsL_end (z := z) (m := (i - 1).toNat) (by rw [e2]; exact hq) (1000 - (i - 1).toNat)
          rw [show (i - 1).toNat + (1000 - (i - 1).toNat) = 1000 by omega] at this
          exact this
        exact W.iret (v := iI g) hx hb hr (fun t ht _ => ⟨_, rfl, congrArg iI (h3.trans e3.symm), ht⟩) (fun q h => nomatch h) dX1_greatestSquareDividing_46
      · refine lv_iload_n hx hb dX1_greatestSquareDividing_29 rfl (lv_at hl 0 rfl) ?_
        refine lv_iload_n hx hb dX1_greatestSquareDividing_30 rfl (lv_at hl 2 rfl) ?_
        refine lv_iload_n hx hb dX1_greatestSquareDividing_31 rfl (lv_at hl 2 rfl) ?_
        refine ix_imul hx hb dX1_greatestSquareDividing_32 ?_
        refine ix_irem hx hb dX1_greatestSquareDividing_33 (by omega) (by have := sq_mono (a := i) (b := 1001) (by omega) (by omega); have := sq_mono (a := 0) (b := i) (by omega) (by omega); omega) (by have := sq_mono (a := 1) (b := i) (by omega) (by omega); omega) ?_
        refine ix_if_ne (tgt := 39) hx hb dX1_greatestSquareDividing_34 (by decide) (tmod_r (by omega)) (fun c3 => ?_) (fun c3 => ?_)
        · refine ix_iinc (k := 2) (lv2 := [(3, .int (iI (i + 1))), (1, .int (iI z)), (2, .int (iI g))]) hx hb dX1_greatestSquareDividing_39 hl rfl (by decide) rfl (fun ls hl => ?_)
          refine lv_goto (tgt := 15) hx hb dX1_greatestSquareDividing_42 (by decide) ?_
          have e1 : (i + 1 - 1).toNat = (i - 1).toNat + 1 := by omega
          have e2 : (((i - 1).toNat : Nat) : Int) + 1 = i := by omega
          exact ih g (i + 1) ⟨by omega, by omega⟩ (by rw [e1, gsL, e2]; first | rw [if_pos ⟨by omega, by omega⟩] | (rw [if_neg (by omega)]; exact h3)) (by omega) ls (lv_sub hl [1, 2, 0] rfl)
        · refine lv_iload_n hx hb dX1_greatestSquareDividing_37 rfl (lv_at hl 2 rfl) ?_
          refine lv_istore_n (lv' := [(2, .int (iI i)), (1, .int (iI z)), (3, .int (iI i))]) hx hb dX1_greatestSquareDividing_38 rfl hl (by decide) rfl (fun ls hl => ?_)
          refine ix_iinc (k := 2) (lv2 := [(3, .int (iI (i + 1))), (2, .int (iI i)), (1, .int (iI z))]) hx hb dX1_greatestSquareDividing_39 hl rfl (by decide) rfl (fun ls hl => ?_)
          refine lv_goto (tgt := 15) hx hb dX1_greatestSquareDividing_42 (by decide) ?_
          have e1 : (i + 1 - 1).toNat = (i - 1).toNat + 1 := by omega
          have e2 : (((i - 1).toNat : Nat) : Int) + 1 = i := by omega
          exact ih i (i + 1) ⟨by omega, by omega⟩ (by rw [e1, gsL, e2]; first | rw [if_pos ⟨by omega, by omega⟩] | (rw [if_neg (by omega)]; exact h3)) (by omega) ls (lv_sub hl [2, 1, 0] rfl)
set_option maxHeartbeats 4000000 in
set_option maxRecDepth 100000 in
/-- the greatest whole number whose square divides -/
theorem kX1_greatestSquareDividing (l : Launch) (v : Int) (h : -1002000 ≤ v ∧ v ≤ 1002000) : Met l yX1_greatestSquareDividing (.code yX1_greatestSquareDividing cX1_greatestSquareDividing 4 (some .int) :: wsA) ({ frames := 0, cells := 0, slots := 0, locals := 0 }) (fun a9 _ => a9 = ([.int (iI v)] : List Value).toArray) (vp_Si (fun r => r = iI (f_gsq v))) 0 0 (fun _ => False) := by
  refine Met.ofW (cc := cX1_greatestSquareDividing) (maxL := 4) (ret := (some .int)) (by decide) rfl ?_
  intro p e s m args below meth c s₁ B hml hv
  subst hv
  have hx := B.exec
  have hb := B.bytes
  have hr := B.returns
  have hts := atoms_spec (ws := .code yX1_greatestSquareDividing cX1_greatestSquareDividing 4 (some .int) :: wsA) B.pre
  have hw : ∀ w ∈ wsA, w.before _ s = true := fun w h => hts w (List.mem_cons_of_mem _ h)
  have hown : s.vm.findClass RX1 = some m.cls := findClass_of_methodNamed B.named
  have hlocks := B.notSynchronized
  have hl := lv_entry ([.int (iI v)]) (n := 4) (Nat.le_of_ble_eq_true rfl)
  rw [lg_entry_eq]
  generalize (lg_sl ([.int (iI v)]) ++ List.replicate (4 - (lg_sl ([.int (iI v)])).length) Slot.unset).toArray = ls at hl ⊢
  have hl : lv_has ls 4 [(0, .int (iI v))] := hl
  refine lv_iload_n hx hb dX1_greatestSquareDividing_0 rfl (lv_at hl 0 rfl) ?_
  refine ix_if_ge (tgt := 9) hx hb dX1_greatestSquareDividing_1 (by decide) (by omega) (fun c1 => ?_) (fun c1 => ?_)
  · refine lv_iload_n hx hb dX1_greatestSquareDividing_9 rfl (lv_at hl 0 rfl) ?_
    refine lv_istore_n (lv' := [(1, .int (iI v)), (0, .int (iI v))]) hx hb dX1_greatestSquareDividing_10 rfl hl (by decide) rfl (fun ls hl => ?_)
    refine ix_iconst (n := 0) hx hb dX1_greatestSquareDividing_11 ?_
    refine lv_istore_n (lv' := [(2, .int (iI 0)), (1, .int (iI v)), (0, .int (iI v))]) hx hb dX1_greatestSquareDividing_12 rfl hl (by decide) rfl (fun ls hl => ?_)
    refine ix_iconst (n := 1) hx hb dX1_greatestSquareDividing_13 ?_
    refine lv_istore_n (lv' := [(3, .int (iI 1)), (2, .int (iI 0)), (1, .int (iI v)), (0, .int (iI v))]) hx hb dX1_greatestSquareDividing_14 rfl hl (by decide) rfl (fun ls hl => ?_)
    have ez : v = f_size v := by unfold f_size; grind
    rw [ez] at hl
    exact lp_gsq (z := f_size v) ⟨size_nn v, size_le (by omega) (by omega)⟩ ⟨hx, hb, hr, hml, hown, hw, hlocks⟩ (1002) 0 1 ⟨by omega, by omega⟩ rfl (by omega) ls (lv_sub hl [2, 1, 0] rfl)
  · refine lv_iload_n hx hb dX1_greatestSquareDividing_4 rfl (lv_at hl 0 rfl) ?_
    refine ix_ineg hx hb dX1_greatestSquareDividing_5 ?_
    refine lv_goto (tgt := 10) hx hb dX1_greatestSquareDividing_6 (by decide) ?_
    refine lv_istore_n (lv' := [(1, .int (iI (-v))), (0, .int (iI v))]) hx hb dX1_greatestSquareDividing_10 rfl hl (by decide) rfl (fun ls hl => ?_)
    refine ix_iconst (n := 0) hx hb dX1_greatestSquareDividing_11 ?_
    refine lv_istore_n (lv' := [(2, .int (iI 0)), (1, .int (iI (-v))), (0, .int (iI v))]) hx hb dX1_greatestSquareDividing_12 rfl hl (by decide) rfl (fun ls hl => ?_)
    refine ix_iconst (n := 1) hx hb dX1_greatestSquareDividing_13 ?_
    refine lv_istore_n (lv' := [(3, .int (iI 1)), (2, .int (iI 0)), (1, .int (iI (-v))), (0, .int (iI v))]) hx hb dX1_greatestSquareDividing_14 rfl hl (by decide) rfl (fun ls hl => ?_)
    have ez : -v = f_size v := by unfold f_size; grind
    rw [ez] at hl
    exact lp_gsq (z := f_size v) ⟨size_nn v, size_le (by omega) (by omega)⟩ ⟨hx, hb, hr, hml, hown, hw, hlocks⟩ (1002) 0 1 ⟨by omega, by omega⟩ rfl (by omega) ls (lv_sub hl [2, 1, 0] rfl)
/-- q is the whole root of v (0 where v is below 0) -/
def f_isrt (v q : Int) : Prop := 0 ≤ q ∧ q ≤ 1000 ∧ v < (q + 1) * (q + 1) ∧ (q * q ≤ v ∨ q = 0)
set_option maxHeartbeats 4000000 in
set_option maxRecDepth 100000 in
theorem lp_root {p : Program} {l : Launch} {e : Env} {R : Room} {s : State} {m : MethodId} {args : Array Value} {below : List Frame} {meth : Method} {c : Code} {v : Int} (hv : -1002000 ≤ v ∧ v ≤ 1002000) (C0 : cx p s m meth c args RX1 cX1_wholeRoot 2 (some .int)) : ∀ (n : Nat) (i : Int), 0 ≤ i ∧ i ≤ 1000 → i * i ≤ v ∨ i = 0 → (1001 - i).toNat < n → ∀ (ls : Array Slot), lv_has ls 2 [(0, .int (iI v)), (1, .int (iI i))] → W p l e R s m args below meth c s.heap [] 0 0 (MQ below (vp_Si (fun r => ∃ q, r = iI q ∧ f_isrt v q)) args s 0 0 (fun _ => False)) (F0 m 2 ls []) := by
  obtain ⟨hx, hb, hr, hml, hown, hw, hlocks⟩ := C0
  intro n
  induction n with
  | zero => intro i _ _ hmu; exact absurd hmu (Nat.not_lt_zero _)
  | succ n ih =>
    intro i h1 h2 hmu ls hl
    refine lv_iload_n hx hb dX1_wholeRoot_2 rfl (lv_at hl 1 rfl) ?_
    refine ix_sipush (n := 1000) hx hb dX1_wholeRoot_3 rfl ?_
    refine ix_icmp_ge (tgt := 26) hx hb dX1_wholeRoot_6 (by decide) (by omega) (by decide) (fun c1 => ?_) (fun c1 => ?_)
    · refine lv_iload_n hx hb dX1_wholeRoot_26 rfl (lv_at hl 1 rfl) ?_
      have hq : v < (i + 1) * (i + 1) := by first | omega | (have := sq_mono (a := 1001) (b := i + 1) (by omega) (by omega); omega)
      exact W.iret (v := iI i) hx hb hr (fun t ht _ => ⟨_, rfl, ⟨i, rfl, by omega, by omega, hq, h2⟩, ht⟩) (fun q h => nomatch h) dX1_wholeRoot_27
    · refine lv_iload_n hx hb dX1_wholeRoot_9 rfl (lv_at hl 1 rfl) ?_
      refine ix_iconst (n := 1) hx hb dX1_wholeRoot_10 ?_
      refine ix_iadd hx hb dX1_wholeRoot_11 ?_
      refine lv_iload_n hx hb dX1_wholeRoot_12 rfl (lv_at hl 1 rfl) ?_
      refine ix_iconst (n := 1) hx hb dX1_wholeRoot_13 ?_
      refine ix_iadd hx hb dX1_wholeRoot_14 ?_
      refine ix_imul hx hb dX1_wholeRoot_15 ?_
      refine lv_iload_n hx hb dX1_wholeRoot_16 rfl (lv_at hl 0 rfl) ?_
      refine ix_icmp_gt (tgt := 26) hx hb dX1_wholeRoot_17 (by decide) (by have := sq_mono (a := i + 1) (b := 1001) (by omega) (by omega); have := sq_mono (a := 0) (b := i + 1) (by omega) (by omega); omega) (by omega) (fun c2 => ?_) (fun c2 => ?_)
      · refine lv_iload_n hx hb dX1_wholeRoot_26 rfl (lv_at hl 1 rfl) ?_
        have hq : v < (i + 1) * (i + 1) := by first | omega | (have := sq_mono (a := 1001) (b := i + 1) (by omega) (by omega); omega)
        exact W.iret (v := iI i) hx hb hr (fun t ht _ => ⟨_, rfl, ⟨i, rfl, by omega, by omega, hq, h2⟩, ht⟩) (fun q h => nomatch h) dX1_wholeRoot_27
      · refine ix_iinc (k := 1) (lv2 := [(1, .int (iI (i + 1))), (0, .int (iI v))]) hx hb dX1_wholeRoot_20 hl rfl (by decide) rfl (fun ls hl => ?_)
        refine lv_goto (tgt := 2) hx hb dX1_wholeRoot_23 (by decide) ?_
        exact ih (i + 1) ⟨by omega, by omega⟩ (Or.inl (by omega)) (by omega) ls (lv_sub hl [1, 0] rfl)
set_option maxHeartbeats 4000000 in
set_option maxRecDepth 100000 in
/-- the whole root -/
theorem kX1_wholeRoot (l : Launch) (v : Int) (h : -1002000 ≤ v ∧ v ≤ 1002000) : Met l yX1_wholeRoot (.code yX1_wholeRoot cX1_wholeRoot 2 (some .int) :: wsA) ({ frames := 0, cells := 0, slots := 0, locals := 0 }) (fun a9 _ => a9 = ([.int (iI v)] : List Value).toArray) (vp_Si (fun r => ∃ q, r = iI q ∧ f_isrt v q)) 0 0 (fun _ => False) := by
  refine Met.ofW (cc := cX1_wholeRoot) (maxL := 2) (ret := (some .int)) (by decide) rfl ?_
  intro p e s m args below meth c s₁ B hml hv
  subst hv
  have hx := B.exec
  have hb := B.bytes
  have hr := B.returns
  have hts := atoms_spec (ws := .code yX1_wholeRoot cX1_wholeRoot 2 (some .int) :: wsA) B.pre
  have hw : ∀ w ∈ wsA, w.before _ s = true := fun w h => hts w (List.mem_cons_of_mem _ h)
  have hown : s.vm.findClass RX1 = some m.cls := findClass_of_methodNamed B.named
  have hlocks := B.notSynchronized
  have hl := lv_entry ([.int (iI v)]) (n := 2) (Nat.le_of_ble_eq_true rfl)
  rw [lg_entry_eq]
  generalize (lg_sl ([.int (iI v)]) ++ List.replicate (2 - (lg_sl ([.int (iI v)])).length) Slot.unset).toArray = ls at hl ⊢
  have hl : lv_has ls 2 [(0, .int (iI v))] := hl
  refine ix_iconst (n := 0) hx hb dX1_wholeRoot_0 ?_
  refine lv_istore_n (lv' := [(1, .int (iI 0)), (0, .int (iI v))]) hx hb dX1_wholeRoot_1 rfl hl (by decide) rfl (fun ls hl => ?_)
  exact lp_root h ⟨hx, hb, hr, hml, hown, hw, hlocks⟩ (1002) 0 ⟨by omega, by omega⟩ (Or.inr rfl) (by omega) ls (lv_sub hl [1, 0] rfl)
theorem sg_r (v : Int) : r32 (f_sg v) := by unfold f_sg; grind
abbrev f_sr (a m b n : Int) : Int := f_sg (f_ssq a * m + f_ssq b * n)
def f_ss (w a m b n : Int) : Int := f_sr (f_ssq w + f_sr a m b n * (a * a * m + b * b * n)) 1 (2 * f_sr a m b n * a * b) (m * n)
def f_rs (a b d : Int) : Int := if f_sg a = 0 ∨ (if d = 0 then 0 else f_sg b) = 0 ∨ f_sg a = (if d = 0 then 0 else f_sg b) then (if f_sg a = 0 then (if d = 0 then 0 else f_sg b) else f_sg a) else f_sg a * f_sg (a * a - b * b * d)
theorem sg_m {u v : Int} : -1 ≤ f_sg u * f_sg v ∧ f_sg u * f_sg v ≤ 1 := by unfold f_sg; grind
theorem rs_r (a b d : Int) : r32 (f_rs a b d) := by
  have h1 := sg_r a
  have h2 := sg_r b
  have h3 := @sg_m a (a * a - b * b * d)
  unfold f_rs
  grind
def f_as (a b d c e : Int) : Int := if f_rs a b d = 0 ∨ (if e = 0 then 0 else f_sg c) = 0 ∨ f_rs a b d = (if e = 0 then 0 else f_sg c) then (if f_rs a b d = 0 then (if e = 0 then 0 else f_sg c) else f_rs a b d) else f_rs a b d * f_rs (a * a + b * b * d - c * c * e) (2 * a * b) d
set_option maxHeartbeats 4000000 in
set_option maxRecDepth 100000 in
theorem kX1_signOfRoots (l : Launch) (a : Int) (u : Int) (b : Int) (v : Int) (h : r64 a) (h2 : r64 b) (h3 : r64 (f_ssq a * u + f_ssq b * v)) : Met l yX1_signOfRoots (.code yX1_signOfRoots cX1_signOfRoots 10 (some .int) :: wsA) ({ frames := 1, cells := 0, slots := 0, locals := 40 }) (fun a9 _ => a9 = ([.long (lI a), .long (lI u), .long (lI b), .long (lI v)] : List Value).toArray) (vp_Si (fun r => r = iI (f_sr a u b v))) 0 0 (fun _ => False) := by
  refine Met.ofW (cc := cX1_signOfRoots) (maxL := 10) (ret := (some .int)) (by decide) rfl ?_
  intro p e s m args below meth c s₁ B hml hv
  subst hv
  have hx := B.exec
  have hb := B.bytes
  have hr := B.returns
  have hts := atoms_spec (ws := .code yX1_signOfRoots cX1_signOfRoots 10 (some .int) :: wsA) B.pre
  have hw : ∀ w ∈ wsA, w.before _ s = true := fun w h => hts w (List.mem_cons_of_mem _ h)
  have hown : s.vm.findClass RX1 = some m.cls := findClass_of_methodNamed B.named
  have hlocks := B.notSynchronized
  have hl := lv_entry ([.long (lI a), .long (lI u), .long (lI b), .long (lI v)]) (n := 10) (Nat.le_of_ble_eq_true rfl)
  rw [lg_entry_eq]
  generalize (lg_sl ([.long (lI a), .long (lI u), .long (lI b), .long (lI v)]) ++ List.replicate (10 - (lg_sl ([.long (lI a), .long (lI u), .long (lI b), .long (lI v)])).length) Slot.unset).toArray = ls at hl ⊢
  have hl : lv_has ls 10 [(0, .long (lI a)), (2, .long (lI u)), (4, .long (lI b)), (6, .long (lI v))] := hl
  refine lv_lload_n hx hb dX1_signOfRoots_0 rfl (lv_at hl 0 rfl) ?_
  refine vp_callSl (W.runS (As := [.long (lI a)]) (rest := []) ⟨hx, hb, hml, hown, hw⟩ (kX1_signedSquare l a (by first | assumption | omega)) (cwS 1 hw (gS mA_371 mA_372 mA_1 mA_373) rfl rfl rfl (by decide +kernel) ⟨Nat.le_of_ble_eq_true rfl, Nat.le_of_ble_eq_true rfl⟩) preEq rfl rfl hl.1 rfl (lv_room (Nat.le_of_ble_eq_true rfl)) dX1_signOfRoots_1 ⟨Nat.le_of_ble_eq_true rfl, Nat.le_of_ble_eq_true rfl⟩) (fun r1 h2 => ?_)
  subst h2
  refine lv_lload_n hx hb dX1_signOfRoots_4 rfl (lv_at hl 1 rfl) ?_
  refine ix_lmul hx hb dX1_signOfRoots_5 ?_
  refine lv_lload hx hb dX1_signOfRoots_6 (lv_at hl 2 rfl) ?_
  refine vp_callSl (W.runS (As := [.long (lI b)]) (rest := [.long (lI ((f_ssq a) * u))]) ⟨hx, hb, hml, hown, hw⟩ (kX1_signedSquare l b (by first | assumption | omega)) (cwS 1 hw (gS mA_371 mA_372 mA_1 mA_373) rfl rfl rfl (by decide +kernel) ⟨Nat.le_of_ble_eq_true rfl, Nat.le_of_ble_eq_true rfl⟩) preEq rfl rfl hl.1 rfl (lv_room (Nat.le_of_ble_eq_true rfl)) dX1_signOfRoots_8 ⟨Nat.le_of_ble_eq_true rfl, Nat.le_of_ble_eq_true rfl⟩) (fun r3 h4 => ?_)
  subst h4
  refine lv_lload hx hb dX1_signOfRoots_11 (lv_at hl 3 rfl) ?_
  refine ix_lmul hx hb dX1_signOfRoots_13 ?_
  refine ix_ladd hx hb dX1_signOfRoots_14 ?_
  refine lv_lstore (lv' := [(8, .long (lI (((f_ssq a) * u) + ((f_ssq b) * v)))), (0, .long (lI a)), (2, .long (lI u)), (4, .long (lI b)), (6, .long (lI v))]) hx hb dX1_signOfRoots_15 hl (by decide) rfl (fun ls hl => ?_)
  refine lv_lload hx hb dX1_signOfRoots_17 (lv_at hl 0 rfl) ?_
  refine ix_lconst0 hx hb dX1_signOfRoots_19 ?_
  refine ix_lc_ge (tgt := 28) hx hb dX1_signOfRoots_20 dX1_signOfRoots_21 (by decide) h3 (by decide) (fun c5 => ?_) (fun c5 => ?_)
  · refine lv_lload hx hb dX1_signOfRoots_28 (lv_at hl 0 rfl) ?_
    refine ix_lconst0 hx hb dX1_signOfRoots_30 ?_
    refine ix_lc_le (tgt := 39) hx hb dX1_signOfRoots_31 dX1_signOfRoots_32 (by decide) h3 (by decide) (fun c6 => ?_) (fun c6 => ?_)
    · refine ix_iconst (n := 0) hx hb dX1_signOfRoots_39 ?_
      exact W.iret (v := iI 0) hx hb hr (fun t ht _ => ⟨_, rfl, congrArg iI (by unfold f_sr f_sg; grind), ht⟩) (fun q h => nomatch h) dX1_signOfRoots_40
    · refine ix_iconst (n := 1) hx hb dX1_signOfRoots_35 ?_
      refine lv_goto (tgt := 40) hx hb dX1_signOfRoots_36 (by decide) ?_
      exact W.iret (v := iI 1) hx hb hr (fun t ht _ => ⟨_, rfl, congrArg iI (by unfold f_sr f_sg; grind), ht⟩) (fun q h => nomatch h) dX1_signOfRoots_40
  · refine ix_iconst (n := (-1)) hx hb dX1_signOfRoots_24 ?_
    refine lv_goto (tgt := 40) hx hb dX1_signOfRoots_25 (by decide) ?_
    exact W.iret (v := iI (-1)) hx hb hr (fun t ht _ => ⟨_, rfl, congrArg iI (by unfold f_sr f_sg; grind), ht⟩) (fun q h => nomatch h) dX1_signOfRoots_40
set_option maxHeartbeats 4000000 in
set_option maxRecDepth 100000 in
theorem kX1_signOfSum (l : Launch) (w : Int) (a : Int) (u : Int) (b : Int) (v : Int) (g0 : r64 w) (g1 : r64 a) (g2 : r64 b) (g3 : r64 (f_ssq a * u + f_ssq b * v)) (g4 : r64 (f_ssq w + f_sr a u b v * (a * a * u + b * b * v))) (g5 : r64 (2 * f_sr a u b v * a * b)) (g6 : r64 (f_ssq (f_ssq w + f_sr a u b v * (a * a * u + b * b * v)) * 1 + f_ssq (2 * f_sr a u b v * a * b) * (u * v))) : Met l yX1_signOfSum (.code yX1_signOfSum cX1_signOfSum 14 (some .int) :: wsA) ({ frames := 2, cells := 0, slots := 0, locals := 80 }) (fun a9 _ => a9 = ([.long (lI w), .long (lI a), .long (lI u), .long (lI b), .long (lI v)] : List Value).toArray) (vp_Si (fun r => r = iI (f_ss w a u b v))) 0 0 (fun _ => False) := by
  refine Met.ofW (cc := cX1_signOfSum) (maxL := 14) (ret := (some .int)) (by decide) rfl ?_
  intro p e s m args below meth c s₁ B hml hv
  subst hv
  have hx := B.exec
  have hb := B.bytes
  have hr := B.returns
  have hts := atoms_spec (ws := .code yX1_signOfSum cX1_signOfSum 14 (some .int) :: wsA) B.pre
  have hw : ∀ w ∈ wsA, w.before _ s = true := fun w h => hts w (List.mem_cons_of_mem _ h)
  have hown : s.vm.findClass RX1 = some m.cls := findClass_of_methodNamed B.named
  have hlocks := B.notSynchronized
  have hl := lv_entry ([.long (lI w), .long (lI a), .long (lI u), .long (lI b), .long (lI v)]) (n := 14) (Nat.le_of_ble_eq_true rfl)
  rw [lg_entry_eq]
  generalize (lg_sl ([.long (lI w), .long (lI a), .long (lI u), .long (lI b), .long (lI v)]) ++ List.replicate (14 - (lg_sl ([.long (lI w), .long (lI a), .long (lI u), .long (lI b), .long (lI v)])).length) Slot.unset).toArray = ls at hl ⊢
  have hl : lv_has ls 14 [(0, .long (lI w)), (2, .long (lI a)), (4, .long (lI u)), (6, .long (lI b)), (8, .long (lI v))] := hl
  refine lv_lload_n hx hb dX1_signOfSum_0 rfl (lv_at hl 1 rfl) ?_
  refine lv_lload hx hb dX1_signOfSum_1 (lv_at hl 2 rfl) ?_
  refine lv_lload hx hb dX1_signOfSum_3 (lv_at hl 3 rfl) ?_
  refine lv_lload hx hb dX1_signOfSum_5 (lv_at hl 4 rfl) ?_
  refine vp_callSi (W.runS (As := [.long (lI a), .long (lI u), .long (lI b), .long (lI v)]) (rest := []) ⟨hx, hb, hml, hown, hw⟩ (kX1_signOfRoots l a u b v g1 g2 g3) (cwS 4 hw (gS mA_368 mA_369 mA_1 mA_370) rfl rfl rfl (by decide +kernel) ⟨Nat.le_of_ble_eq_true rfl, Nat.le_of_ble_eq_true rfl⟩) preEq rfl rfl hl.1 rfl (lv_room (Nat.le_of_ble_eq_true rfl)) dX1_signOfSum_7 ⟨Nat.le_of_ble_eq_true rfl, Nat.le_of_ble_eq_true rfl⟩) (fun r1 h2 => ?_)
  subst h2
  refine ix_i2l hx hb dX1_signOfSum_10 (sg_r _) ?_
  refine lv_lstore (lv' := [(10, .long (lI (f_sr a u b v))), (0, .long (lI w)), (2, .long (lI a)), (4, .long (lI u)), (6, .long (lI b)), (8, .long (lI v))]) hx hb dX1_signOfSum_11 hl (by decide) rfl (fun ls hl => ?_)
  refine lv_lload_n hx hb dX1_signOfSum_13 rfl (lv_at hl 1 rfl) ?_
  refine vp_callSl (W.runS (As := [.long (lI w)]) (rest := []) ⟨hx, hb, hml, hown, hw⟩ (kX1_signedSquare l w (by first | assumption | omega)) (cwS 1 hw (gS mA_371 mA_372 mA_1 mA_373) rfl rfl rfl (by decide +kernel) ⟨Nat.le_of_ble_eq_true rfl, Nat.le_of_ble_eq_true rfl⟩) preEq rfl rfl hl.1 rfl (lv_room (Nat.le_of_ble_eq_true rfl)) dX1_signOfSum_14 ⟨Nat.le_of_ble_eq_true rfl, Nat.le_of_ble_eq_true rfl⟩) (fun r3 h4 => ?_)
  subst h4
  refine lv_lload hx hb dX1_signOfSum_17 (lv_at hl 0 rfl) ?_
  refine lv_lload_n hx hb dX1_signOfSum_19 rfl (lv_at hl 2 rfl) ?_
  refine lv_lload_n hx hb dX1_signOfSum_20 rfl (lv_at hl 2 rfl) ?_
  refine ix_lmul hx hb dX1_signOfSum_21 ?_
  refine lv_lload hx hb dX1_signOfSum_22 (lv_at hl 3 rfl) ?_
  refine ix_lmul hx hb dX1_signOfSum_24 ?_
  refine lv_lload hx hb dX1_signOfSum_25 (lv_at hl 4 rfl) ?_
  refine lv_lload hx hb dX1_signOfSum_27 (lv_at hl 4 rfl) ?_
  refine ix_lmul hx hb dX1_signOfSum_29 ?_
  refine lv_lload hx hb dX1_signOfSum_30 (lv_at hl 5 rfl) ?_
  refine ix_lmul hx hb dX1_signOfSum_32 ?_
  refine ix_ladd hx hb dX1_signOfSum_33 ?_
  refine ix_lmul hx hb dX1_signOfSum_34 ?_
  refine ix_ladd hx hb dX1_signOfSum_35 ?_
  refine lv_lstore (lv' := [(12, .long (lI ((f_ssq w) + ((f_sr a u b v) * (((a * a) * u) + ((b * b) * v)))))), (10, .long (lI (f_sr a u b v))), (0, .long (lI w)), (2, .long (lI a)), (4, .long (lI u)), (6, .long (lI b)), (8, .long (lI v))]) hx hb dX1_signOfSum_36 hl (by decide) rfl (fun ls hl => ?_)
  refine lv_lload hx hb dX1_signOfSum_38 (lv_at hl 0 rfl) ?_
  refine ix_lconst1 hx hb dX1_signOfSum_40 ?_
  refine ix_ldc2 (z := 2) hx hb hown (hw _ mA_374) rfl dX1_signOfSum_41 ?_
  refine lv_lload hx hb dX1_signOfSum_44 (lv_at hl 1 rfl) ?_
  refine ix_lmul hx hb dX1_signOfSum_46 ?_
  refine lv_lload_n hx hb dX1_signOfSum_47 rfl (lv_at hl 3 rfl) ?_
  refine ix_lmul hx hb dX1_signOfSum_48 ?_
  refine lv_lload hx hb dX1_signOfSum_49 (lv_at hl 5 rfl) ?_
  refine ix_lmul hx hb dX1_signOfSum_51 ?_
  refine lv_lload hx hb dX1_signOfSum_52 (lv_at hl 4 rfl) ?_
  refine lv_lload hx hb dX1_signOfSum_54 (lv_at hl 6 rfl) ?_
  refine ix_lmul hx hb dX1_signOfSum_56 ?_
  refine vp_callSi (W.runS (As := [.long (lI ((f_ssq w) + ((f_sr a u b v) * (((a * a) * u) + ((b * b) * v))))), .long (lI 1), .long (lI (((2 * (f_sr a u b v)) * a) * b)), .long (lI (u * v))]) (rest := []) ⟨hx, hb, hml, hown, hw⟩ (kX1_signOfRoots l ((f_ssq w) + ((f_sr a u b v) * (((a * a) * u) + ((b * b) * v)))) 1 (((2 * (f_sr a u b v)) * a) * b) (u * v) g4 g5 g6) (cwS 4 hw (gS mA_368 mA_369 mA_1 mA_370) rfl rfl rfl (by decide +kernel) ⟨Nat.le_of_ble_eq_true rfl, Nat.le_of_ble_eq_true rfl⟩) preEq rfl rfl hl.1 rfl (lv_room (Nat.le_of_ble_eq_true rfl)) dX1_signOfSum_57 ⟨Nat.le_of_ble_eq_true rfl, Nat.le_of_ble_eq_true rfl⟩) (fun r5 h6 => ?_)
  subst h6
  exact W.iret (v := iI (f_sr ((f_ssq w) + ((f_sr a u b v) * (((a * a) * u) + ((b * b) * v)))) 1 (((2 * (f_sr a u b v)) * a) * b) (u * v))) hx hb hr (fun t ht _ => ⟨_, rfl, congrArg iI rfl, ht⟩) (fun q h => nomatch h) dX1_signOfSum_60
set_option maxHeartbeats 4000000 in
set_option maxRecDepth 100000 in
theorem kX2_rootSign (l : Launch) (a : Int) (b : Int) (d : Int) (h1 : r64 a) (h2 : r64 b) (h3 : r64 d) (h4 : r64 (a * a - b * b * d)) : Met l yX2_rootSign (.code yX2_rootSign cX2_rootSign 8 (some .int) :: wsA) ({ frames := 1, cells := 0, slots := 0, locals := 40 }) (fun a9 _ => a9 = ([.long (lI a), .long (lI b), .long (lI d)] : List Value).toArray) (vp_Si (fun r => r = iI (f_rs a b d))) 0 0 (fun _ => False) := by
  refine Met.ofW (cc := cX2_rootSign) (maxL := 8) (ret := (some .int)) (by decide) rfl ?_
  intro p e s m args below meth c s₁ B hml hv
  subst hv
  have hx := B.exec
  have hb := B.bytes
  have hr := B.returns
  have hts := atoms_spec (ws := .code yX2_rootSign cX2_rootSign 8 (some .int) :: wsA) B.pre
  have hw : ∀ w ∈ wsA, w.before _ s = true := fun w h => hts w (List.mem_cons_of_mem _ h)
  have hown : s.vm.findClass RX2 = some m.cls := findClass_of_methodNamed B.named
  have hlocks := B.notSynchronized
  have hl := lv_entry ([.long (lI a), .long (lI b), .long (lI d)]) (n := 8) (Nat.le_of_ble_eq_true rfl)
  rw [lg_entry_eq]
  generalize (lg_sl ([.long (lI a), .long (lI b), .long (lI d)]) ++ List.replicate (8 - (lg_sl ([.long (lI a), .long (lI b), .long (lI d)])).length) Slot.unset).toArray = ls at hl ⊢
  have hl : lv_has ls 8 [(0, .long (lI a)), (2, .long (lI b)), (4, .long (lI d))] := hl
  refine lv_lload_n hx hb dX2_rootSign_0 rfl (lv_at hl 0 rfl) ?_
  refine vp_callSi (W.runS (As := [.long (lI a)]) (rest := []) ⟨hx, hb, hml, hown, hw⟩ (kX2_signOf l a (by assumption)) (cwS 1 hw (gS mA_571 mA_572 mA_3 mA_573) rfl rfl rfl (by decide +kernel) ⟨Nat.le_of_ble_eq_true rfl, Nat.le_of_ble_eq_true rfl⟩) preEq rfl rfl hl.1 rfl (lv_room (Nat.le_of_ble_eq_true rfl)) dX2_rootSign_1 ⟨Nat.le_of_ble_eq_true rfl, Nat.le_of_ble_eq_true rfl⟩) (fun r1 h2 => ?_)
  subst h2
  refine lv_istore (lv' := [(6, .int (iI (f_sg a))), (0, .long (lI a)), (2, .long (lI b)), (4, .long (lI d))]) hx hb dX2_rootSign_4 hl (by decide) rfl (fun ls hl => ?_)
  refine lv_lload hx hb dX2_rootSign_6 (lv_at hl 3 rfl) ?_
  refine ix_lconst0 hx hb dX2_rootSign_8 ?_
  refine ix_lc_ne (tgt := 17) hx hb dX2_rootSign_9 dX2_rootSign_10 (by decide) (by omega) (by decide) (fun c3 => ?_) (fun c3 => ?_)
  · refine lv_lload_n hx hb dX2_rootSign_17 rfl (lv_at hl 2 rfl) ?_
    refine vp_callSi (W.runS (As := [.long (lI b)]) (rest := []) ⟨hx, hb, hml, hown, hw⟩ (kX2_signOf l b (by assumption)) (cwS 1 hw (gS mA_571 mA_572 mA_3 mA_573) rfl rfl rfl (by decide +kernel) ⟨Nat.le_of_ble_eq_true rfl, Nat.le_of_ble_eq_true rfl⟩) preEq rfl rfl hl.1 rfl (lv_room (Nat.le_of_ble_eq_true rfl)) dX2_rootSign_18 ⟨Nat.le_of_ble_eq_true rfl, Nat.le_of_ble_eq_true rfl⟩) (fun r4 h5 => ?_)
    subst h5
    refine lv_istore (lv' := [(7, .int (iI (f_sg b))), (6, .int (iI (f_sg a))), (0, .long (lI a)), (2, .long (lI b)), (4, .long (lI d))]) hx hb dX2_rootSign_21 hl (by decide) rfl (fun ls hl => ?_)
    refine lv_iload hx hb dX2_rootSign_23 (lv_at hl 1 rfl) ?_
    refine ix_if_eq (tgt := 40) hx hb dX2_rootSign_25 (by decide) (sg_r _) (fun c6 => ?_) (fun c6 => ?_)
    · refine lv_iload hx hb dX2_rootSign_40 (lv_at hl 1 rfl) ?_
      refine ix_if_ne (tgt := 50) hx hb dX2_rootSign_42 (by decide) (sg_r _) (fun c7 => ?_) (fun c7 => ?_)
      · refine lv_iload hx hb dX2_rootSign_50 (lv_at hl 1 rfl) ?_
        exact W.iret (v := iI (f_sg a)) hx hb hr (fun t ht _ => ⟨_, rfl, congrArg iI (by unfold f_rs; grind), ht⟩) (fun q h => nomatch h) dX2_rootSign_52
      · refine lv_iload hx hb dX2_rootSign_45 (lv_at hl 0 rfl) ?_
        refine lv_goto (tgt := 52) hx hb dX2_rootSign_47 (by decide) ?_
        exact W.iret (v := iI (f_sg b)) hx hb hr (fun t ht _ => ⟨_, rfl, congrArg iI (by unfold f_rs; grind), ht⟩) (fun q h => nomatch h) dX2_rootSign_52
    · refine lv_iload hx hb dX2_rootSign_28 (lv_at hl 0 rfl) ?_
      refine ix_if_eq (tgt := 40) hx hb dX2_rootSign_30 (by decide) (sg_r _) (fun c8 => ?_) (fun c8 => ?_)
      · refine lv_iload hx hb dX2_rootSign_40 (lv_at hl 1 rfl) ?_
        refine ix_if_ne (tgt := 50) hx hb dX2_rootSign_42 (by decide) (sg_r _) (fun c9 => ?_) (fun c9 => ?_)
        · refine lv_iload hx hb dX2_rootSign_50 (lv_at hl 1 rfl) ?_
          exact W.iret (v := iI (f_sg a)) hx hb hr (fun t ht _ => ⟨_, rfl, congrArg iI (by unfold f_rs; grind), ht⟩) (fun q h => nomatch h) dX2_rootSign_52
        · refine lv_iload hx hb dX2_rootSign_45 (lv_at hl 0 rfl) ?_
          refine lv_goto (tgt := 52) hx hb dX2_rootSign_47 (by decide) ?_
          exact W.iret (v := iI (f_sg b)) hx hb hr (fun t ht _ => ⟨_, rfl, congrArg iI (by unfold f_rs; grind), ht⟩) (fun q h => nomatch h) dX2_rootSign_52
      · refine lv_iload hx hb dX2_rootSign_33 (lv_at hl 1 rfl) ?_
        refine lv_iload hx hb dX2_rootSign_35 (lv_at hl 0 rfl) ?_
        refine ix_icmp_ne (tgt := 53) hx hb dX2_rootSign_37 (by decide) (sg_r _) (sg_r _) (fun c10 => ?_) (fun c10 => ?_)
        · refine lv_iload hx hb dX2_rootSign_53 (lv_at hl 1 rfl) ?_
          refine lv_lload_n hx hb dX2_rootSign_55 rfl (lv_at hl 2 rfl) ?_
          refine lv_lload_n hx hb dX2_rootSign_56 rfl (lv_at hl 2 rfl) ?_
          refine ix_lmul hx hb dX2_rootSign_57 ?_
          refine lv_lload_n hx hb dX2_rootSign_58 rfl (lv_at hl 3 rfl) ?_
          refine lv_lload_n hx hb dX2_rootSign_59 rfl (lv_at hl 3 rfl) ?_
          refine ix_lmul hx hb dX2_rootSign_60 ?_
          refine lv_lload hx hb dX2_rootSign_61 (lv_at hl 4 rfl) ?_
          refine ix_lmul hx hb dX2_rootSign_63 ?_
          refine ix_lsub hx hb dX2_rootSign_64 ?_
          refine vp_callSi (W.runS (As := [.long (lI ((a * a) - ((b * b) * d)))]) (rest := [.int (iI (f_sg a))]) ⟨hx, hb, hml, hown, hw⟩ (kX2_signOf l ((a * a) - ((b * b) * d)) (by assumption)) (cwS 1 hw (gS mA_571 mA_572 mA_3 mA_573) rfl rfl rfl (by decide +kernel) ⟨Nat.le_of_ble_eq_true rfl, Nat.le_of_ble_eq_true rfl⟩) preEq rfl rfl hl.1 rfl (lv_room (Nat.le_of_ble_eq_true rfl)) dX2_rootSign_65 ⟨Nat.le_of_ble_eq_true rfl, Nat.le_of_ble_eq_true rfl⟩) (fun r11 h12 => ?_)
          subst h12
          refine ix_imul hx hb dX2_rootSign_68 ?_
          exact W.iret (v := iI ((f_sg a) * (f_sg ((a * a) - ((b * b) * d))))) hx hb hr (fun t ht _ => ⟨_, rfl, congrArg iI (by unfold f_rs; grind), ht⟩) (fun q h => nomatch h) dX2_rootSign_69
        · refine lv_iload hx hb dX2_rootSign_40 (lv_at hl 1 rfl) ?_
          refine ix_if_ne (tgt := 50) hx hb dX2_rootSign_42 (by decide) (sg_r _) (fun c13 => ?_) (fun c13 => ?_)
          · refine lv_iload hx hb dX2_rootSign_50 (lv_at hl 1 rfl) ?_
            exact W.iret (v := iI (f_sg a)) hx hb hr (fun t ht _ => ⟨_, rfl, congrArg iI (by unfold f_rs; grind), ht⟩) (fun q h => nomatch h) dX2_rootSign_52
          · refine lv_iload hx hb dX2_rootSign_45 (lv_at hl 0 rfl) ?_
            refine lv_goto (tgt := 52) hx hb dX2_rootSign_47 (by decide) ?_
            exact W.iret (v := iI (f_sg b)) hx hb hr (fun t ht _ => ⟨_, rfl, congrArg iI (by unfold f_rs; grind), ht⟩) (fun q h => nomatch h) dX2_rootSign_52
  · refine ix_iconst (n := 0) hx hb dX2_rootSign_13 ?_
    refine lv_goto (tgt := 21) hx hb dX2_rootSign_14 (by decide) ?_
    refine lv_istore (lv' := [(7, .int (iI 0)), (6, .int (iI (f_sg a))), (0, .long (lI a)), (2, .long (lI b)), (4, .long (lI d))]) hx hb dX2_rootSign_21 hl (by decide) rfl (fun ls hl => ?_)
    refine lv_iload hx hb dX2_rootSign_23 (lv_at hl 1 rfl) ?_
    refine ix_if_eq (tgt := 40) hx hb dX2_rootSign_25 (by decide) (sg_r _) (fun c14 => ?_) (fun c14 => ?_)
    · refine lv_iload hx hb dX2_rootSign_40 (lv_at hl 1 rfl) ?_
      refine ix_if_ne (tgt := 50) hx hb dX2_rootSign_42 (by decide) (sg_r _) (fun c15 => ?_) (fun c15 => ?_)
      · refine lv_iload hx hb dX2_rootSign_50 (lv_at hl 1 rfl) ?_
        exact W.iret (v := iI (f_sg a)) hx hb hr (fun t ht _ => ⟨_, rfl, congrArg iI (by unfold f_rs; grind), ht⟩) (fun q h => nomatch h) dX2_rootSign_52
      · refine lv_iload hx hb dX2_rootSign_45 (lv_at hl 0 rfl) ?_
        refine lv_goto (tgt := 52) hx hb dX2_rootSign_47 (by decide) ?_
        exact W.iret (v := iI 0) hx hb hr (fun t ht _ => ⟨_, rfl, congrArg iI (by unfold f_rs; grind), ht⟩) (fun q h => nomatch h) dX2_rootSign_52
    · refine lv_iload hx hb dX2_rootSign_28 (lv_at hl 0 rfl) ?_
      refine ix_if_eq (tgt := 40) hx hb dX2_rootSign_30 (by decide) (by decide) (fun _ => ?_) (fun c16 => absurd c16 (by decide))
      refine lv_iload hx hb dX2_rootSign_40 (lv_at hl 1 rfl) ?_
      refine ix_if_ne (tgt := 50) hx hb dX2_rootSign_42 (by decide) (sg_r _) (fun c17 => ?_) (fun c17 => ?_)
      · refine lv_iload hx hb dX2_rootSign_50 (lv_at hl 1 rfl) ?_
        exact W.iret (v := iI (f_sg a)) hx hb hr (fun t ht _ => ⟨_, rfl, congrArg iI (by unfold f_rs; grind), ht⟩) (fun q h => nomatch h) dX2_rootSign_52
      · refine lv_iload hx hb dX2_rootSign_45 (lv_at hl 0 rfl) ?_
        refine lv_goto (tgt := 52) hx hb dX2_rootSign_47 (by decide) ?_
        exact W.iret (v := iI 0) hx hb hr (fun t ht _ => ⟨_, rfl, congrArg iI (by unfold f_rs; grind), ht⟩) (fun q h => nomatch h) dX2_rootSign_52
set_option maxHeartbeats 4000000 in
set_option maxRecDepth 100000 in
theorem kX2_allSign (l : Launch) (a : Int) (b : Int) (d : Int) (u : Int) (v : Int) (h1 : r64 a) (h2 : r64 b) (h3 : r64 d) (h4 : r64 u) (h5 : r64 v) (h6 : r64 (a * a - b * b * d)) (h7 : r64 (a * a + b * b * d - u * u * v)) (h8 : r64 (2 * a * b)) (h9 : r64 ((a * a + b * b * d - u * u * v) * (a * a + b * b * d - u * u * v) - 2 * a * b * (2 * a * b) * d)) : Met l yX2_allSign (.code yX2_allSign cX2_allSign 12 (some .int) :: wsA) ({ frames := 2, cells := 0, slots := 0, locals := 80 }) (fun a9 _ => a9 = ([.long (lI a), .long (lI b), .long (lI d), .long (lI u), .long (lI v)] : List Value).toArray) (vp_Si (fun r => r = iI (f_as a b d u v))) 0 0 (fun _ => False) := by
  refine Met.ofW (cc := cX2_allSign) (maxL := 12) (ret := (some .int)) (by decide) rfl ?_
  intro p e s m args below meth c s₁ B hml hv
  subst hv
  have hx := B.exec
  have hb := B.bytes
  have hr := B.returns
  have hts := atoms_spec (ws := .code yX2_allSign cX2_allSign 12 (some .int) :: wsA) B.pre
  have hw : ∀ w ∈ wsA, w.before _ s = true := fun w h => hts w (List.mem_cons_of_mem _ h)
  have hown : s.vm.findClass RX2 = some m.cls := findClass_of_methodNamed B.named
  have hlocks := B.notSynchronized
  have hl := lv_entry ([.long (lI a), .long (lI b), .long (lI d), .long (lI u), .long (lI v)]) (n := 12) (Nat.le_of_ble_eq_true rfl)
  rw [lg_entry_eq]
  generalize (lg_sl ([.long (lI a), .long (lI b), .long (lI d), .long (lI u), .long (lI v)]) ++ List.replicate (12 - (lg_sl ([.long (lI a), .long (lI b), .long (lI d), .long (lI u), .long (lI v)])).length) Slot.unset).toArray = ls at hl ⊢
  have hl : lv_has ls 12 [(0, .long (lI a)), (2, .long (lI b)), (4, .long (lI d)), (6, .long (lI u)), (8, .long (lI v))] := hl
  refine lv_lload_n hx hb dX2_allSign_0 rfl (lv_at hl 0 rfl) ?_
  refine lv_lload_n hx hb dX2_allSign_1 rfl (lv_at hl 1 rfl) ?_
  refine lv_lload hx hb dX2_allSign_2 (lv_at hl 2 rfl) ?_
  refine vp_callSi (W.runS (As := [.long (lI a), .long (lI b), .long (lI d)]) (rest := []) ⟨hx, hb, hml, hown, hw⟩ (kX2_rootSign l a b d (by assumption) (by assumption) (by assumption) (by assumption)) (cwS 3 hw (gS mA_568 mA_569 mA_3 mA_570) rfl rfl rfl (by decide +kernel) ⟨Nat.le_of_ble_eq_true rfl, Nat.le_of_ble_eq_true rfl⟩) preEq rfl rfl hl.1 rfl (lv_room (Nat.le_of_ble_eq_true rfl)) dX2_allSign_4 ⟨Nat.le_of_ble_eq_true rfl, Nat.le_of_ble_eq_true rfl⟩) (fun r1 h2 => ?_)
  subst h2
  refine lv_istore (lv' := [(10, .int (iI (f_rs a b d))), (0, .long (lI a)), (2, .long (lI b)), (4, .long (lI d)), (6, .long (lI u)), (8, .long (lI v))]) hx hb dX2_allSign_7 hl (by decide) rfl (fun ls hl => ?_)
  refine lv_lload hx hb dX2_allSign_9 (lv_at hl 5 rfl) ?_
  refine ix_lconst0 hx hb dX2_allSign_11 ?_
  refine ix_lc_ne (tgt := 20) hx hb dX2_allSign_12 dX2_allSign_13 (by decide) (by omega) (by decide) (fun c3 => ?_) (fun c3 => ?_)
  · refine lv_lload hx hb dX2_allSign_20 (lv_at hl 4 rfl) ?_
    refine vp_callSi (W.runS (As := [.long (lI u)]) (rest := []) ⟨hx, hb, hml, hown, hw⟩ (kX2_signOf l u (by assumption)) (cwS 1 hw (gS mA_571 mA_572 mA_3 mA_573) rfl rfl rfl (by decide +kernel) ⟨Nat.le_of_ble_eq_true rfl, Nat.le_of_ble_eq_true rfl⟩) preEq rfl rfl hl.1 rfl (lv_room (Nat.le_of_ble_eq_true rfl)) dX2_allSign_22 ⟨Nat.le_of_ble_eq_true rfl, Nat.le_of_ble_eq_true rfl⟩) (fun r4 h5 => ?_)
    subst h5
    refine lv_istore (lv' := [(11, .int (iI (f_sg u))), (10, .int (iI (f_rs a b d))), (0, .long (lI a)), (2, .long (lI b)), (4, .long (lI d)), (6, .long (lI u)), (8, .long (lI v))]) hx hb dX2_allSign_25 hl (by decide) rfl (fun ls hl => ?_)
    refine lv_iload hx hb dX2_allSign_27 (lv_at hl 1 rfl) ?_
    refine ix_if_eq (tgt := 44) hx hb dX2_allSign_29 (by decide) (rs_r _ _ _) (fun c6 => ?_) (fun c6 => ?_)
    · refine lv_iload hx hb dX2_allSign_44 (lv_at hl 1 rfl) ?_
      refine ix_if_ne (tgt := 54) hx hb dX2_allSign_46 (by decide) (rs_r _ _ _) (fun c7 => ?_) (fun c7 => ?_)
      · refine lv_iload hx hb dX2_allSign_54 (lv_at hl 1 rfl) ?_
        exact W.iret (v := iI (f_rs a b d)) hx hb hr (fun t ht _ => ⟨_, rfl, congrArg iI (by unfold f_as; grind), ht⟩) (fun q h => nomatch h) dX2_allSign_56
      · refine lv_iload hx hb dX2_allSign_49 (lv_at hl 0 rfl) ?_
        refine lv_goto (tgt := 56) hx hb dX2_allSign_51 (by decide) ?_
        exact W.iret (v := iI (f_sg u)) hx hb hr (fun t ht _ => ⟨_, rfl, congrArg iI (by unfold f_as; grind), ht⟩) (fun q h => nomatch h) dX2_allSign_56
    · refine lv_iload hx hb dX2_allSign_32 (lv_at hl 0 rfl) ?_
      refine ix_if_eq (tgt := 44) hx hb dX2_allSign_34 (by decide) (sg_r _) (fun c8 => ?_) (fun c8 => ?_)
      · refine lv_iload hx hb dX2_allSign_44 (lv_at hl 1 rfl) ?_
        refine ix_if_ne (tgt := 54) hx hb dX2_allSign_46 (by decide) (rs_r _ _ _) (fun c9 => ?_) (fun c9 => ?_)
        · refine lv_iload hx hb dX2_allSign_54 (lv_at hl 1 rfl) ?_
          exact W.iret (v := iI (f_rs a b d)) hx hb hr (fun t ht _ => ⟨_, rfl, congrArg iI (by unfold f_as; grind), ht⟩) (fun q h => nomatch h) dX2_allSign_56
        · refine lv_iload hx hb dX2_allSign_49 (lv_at hl 0 rfl) ?_
          refine lv_goto (tgt := 56) hx hb dX2_allSign_51 (by decide) ?_
          exact W.iret (v := iI (f_sg u)) hx hb hr (fun t ht _ => ⟨_, rfl, congrArg iI (by unfold f_as; grind), ht⟩) (fun q h => nomatch h) dX2_allSign_56
      · refine lv_iload hx hb dX2_allSign_37 (lv_at hl 1 rfl) ?_
        refine lv_iload hx hb dX2_allSign_39 (lv_at hl 0 rfl) ?_
        refine ix_icmp_ne (tgt := 57) hx hb dX2_allSign_41 (by decide) (rs_r _ _ _) (sg_r _) (fun c10 => ?_) (fun c10 => ?_)
        · refine lv_iload hx hb dX2_allSign_57 (lv_at hl 1 rfl) ?_
          refine lv_lload_n hx hb dX2_allSign_59 rfl (lv_at hl 2 rfl) ?_
          refine lv_lload_n hx hb dX2_allSign_60 rfl (lv_at hl 2 rfl) ?_
          refine ix_lmul hx hb dX2_allSign_61 ?_
          refine lv_lload_n hx hb dX2_allSign_62 rfl (lv_at hl 3 rfl) ?_
          refine lv_lload_n hx hb dX2_allSign_63 rfl (lv_at hl 3 rfl) ?_
          refine ix_lmul hx hb dX2_allSign_64 ?_
          refine lv_lload hx hb dX2_allSign_65 (lv_at hl 4 rfl) ?_
          refine ix_lmul hx hb dX2_allSign_67 ?_
          refine ix_ladd hx hb dX2_allSign_68 ?_
          refine lv_lload hx hb dX2_allSign_69 (lv_at hl 5 rfl) ?_
          refine lv_lload hx hb dX2_allSign_71 (lv_at hl 5 rfl) ?_
          refine ix_lmul hx hb dX2_allSign_73 ?_
          refine lv_lload hx hb dX2_allSign_74 (lv_at hl 6 rfl) ?_
          refine ix_lmul hx hb dX2_allSign_76 ?_
          refine ix_lsub hx hb dX2_allSign_77 ?_
          refine ix_ldc2 (z := 2) hx hb hown (hw _ mA_461) rfl dX2_allSign_78 ?_
          refine lv_lload_n hx hb dX2_allSign_81 rfl (lv_at hl 2 rfl) ?_
          refine ix_lmul hx hb dX2_allSign_82 ?_
          refine lv_lload_n hx hb dX2_allSign_83 rfl (lv_at hl 3 rfl) ?_
          refine ix_lmul hx hb dX2_allSign_84 ?_
          refine lv_lload hx hb dX2_allSign_85 (lv_at hl 4 rfl) ?_
          refine vp_callSi (W.runS (As := [.long (lI (((a * a) + ((b * b) * d)) - ((u * u) * v))), .long (lI ((2 * a) * b)), .long (lI d)]) (rest := [.int (iI (f_rs a b d))]) ⟨hx, hb, hml, hown, hw⟩ (kX2_rootSign l (((a * a) + ((b * b) * d)) - ((u * u) * v)) ((2 * a) * b) d (by assumption) (by assumption) (by assumption) (by assumption)) (cwS 3 hw (gS mA_568 mA_569 mA_3 mA_570) rfl rfl rfl (by decide +kernel) ⟨Nat.le_of_ble_eq_true rfl, Nat.le_of_ble_eq_true rfl⟩) preEq rfl rfl hl.1 rfl (lv_room (Nat.le_of_ble_eq_true rfl)) dX2_allSign_87 ⟨Nat.le_of_ble_eq_true rfl, Nat.le_of_ble_eq_true rfl⟩) (fun r11 h12 => ?_)
          subst h12
          refine ix_imul hx hb dX2_allSign_90 ?_
          exact W.iret (v := iI ((f_rs a b d) * (f_rs (((a * a) + ((b * b) * d)) - ((u * u) * v)) ((2 * a) * b) d))) hx hb hr (fun t ht _ => ⟨_, rfl, congrArg iI (by unfold f_as; grind), ht⟩) (fun q h => nomatch h) dX2_allSign_91
        · refine lv_iload hx hb dX2_allSign_44 (lv_at hl 1 rfl) ?_
          refine ix_if_ne (tgt := 54) hx hb dX2_allSign_46 (by decide) (rs_r _ _ _) (fun c13 => ?_) (fun c13 => ?_)
          · refine lv_iload hx hb dX2_allSign_54 (lv_at hl 1 rfl) ?_
            exact W.iret (v := iI (f_rs a b d)) hx hb hr (fun t ht _ => ⟨_, rfl, congrArg iI (by unfold f_as; grind), ht⟩) (fun q h => nomatch h) dX2_allSign_56
          · refine lv_iload hx hb dX2_allSign_49 (lv_at hl 0 rfl) ?_
            refine lv_goto (tgt := 56) hx hb dX2_allSign_51 (by decide) ?_
            exact W.iret (v := iI (f_sg u)) hx hb hr (fun t ht _ => ⟨_, rfl, congrArg iI (by unfold f_as; grind), ht⟩) (fun q h => nomatch h) dX2_allSign_56
  · refine ix_iconst (n := 0) hx hb dX2_allSign_16 ?_
    refine lv_goto (tgt := 25) hx hb dX2_allSign_17 (by decide) ?_
    refine lv_istore (lv' := [(11, .int (iI 0)), (10, .int (iI (f_rs a b d))), (0, .long (lI a)), (2, .long (lI b)), (4, .long (lI d)), (6, .long (lI u)), (8, .long (lI v))]) hx hb dX2_allSign_25 hl (by decide) rfl (fun ls hl => ?_)
    refine lv_iload hx hb dX2_allSign_27 (lv_at hl 1 rfl) ?_
    refine ix_if_eq (tgt := 44) hx hb dX2_allSign_29 (by decide) (rs_r _ _ _) (fun c14 => ?_) (fun c14 => ?_)
    · refine lv_iload hx hb dX2_allSign_44 (lv_at hl 1 rfl) ?_
      refine ix_if_ne (tgt := 54) hx hb dX2_allSign_46 (by decide) (rs_r _ _ _) (fun c15 => ?_) (fun c15 => ?_)
      · refine lv_iload hx hb dX2_allSign_54 (lv_at hl 1 rfl) ?_
        exact W.iret (v := iI (f_rs a b d)) hx hb hr (fun t ht _ => ⟨_, rfl, congrArg iI (by unfold f_as; grind), ht⟩) (fun q h => nomatch h) dX2_allSign_56
      · refine lv_iload hx hb dX2_allSign_49 (lv_at hl 0 rfl) ?_
        refine lv_goto (tgt := 56) hx hb dX2_allSign_51 (by decide) ?_
        exact W.iret (v := iI 0) hx hb hr (fun t ht _ => ⟨_, rfl, congrArg iI (by unfold f_as; grind), ht⟩) (fun q h => nomatch h) dX2_allSign_56
    · refine lv_iload hx hb dX2_allSign_32 (lv_at hl 0 rfl) ?_
      refine ix_if_eq (tgt := 44) hx hb dX2_allSign_34 (by decide) (by decide) (fun _ => ?_) (fun c16 => absurd c16 (by decide))
      refine lv_iload hx hb dX2_allSign_44 (lv_at hl 1 rfl) ?_
      refine ix_if_ne (tgt := 54) hx hb dX2_allSign_46 (by decide) (rs_r _ _ _) (fun c17 => ?_) (fun c17 => ?_)
      · refine lv_iload hx hb dX2_allSign_54 (lv_at hl 1 rfl) ?_
        exact W.iret (v := iI (f_rs a b d)) hx hb hr (fun t ht _ => ⟨_, rfl, congrArg iI (by unfold f_as; grind), ht⟩) (fun q h => nomatch h) dX2_allSign_56
      · refine lv_iload hx hb dX2_allSign_49 (lv_at hl 0 rfl) ?_
        refine lv_goto (tgt := 56) hx hb dX2_allSign_51 (by decide) ?_
        exact W.iret (v := iI 0) hx hb hr (fun t ht _ => ⟨_, rfl, congrArg iI (by unfold f_as; grind), ht⟩) (fun q h => nomatch h) dX2_allSign_56
