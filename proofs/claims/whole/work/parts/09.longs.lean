theorem lrem_mod (x y : Int64) : x - (x / y) * y = x % y := by
  apply Int64.toInt_inj.mp
  simp only [Int64.toInt_sub, Int64.toInt_mul, Int64.toInt_div, Int64.toInt_mod]
  rw [← Int.tmod_add_mul_tdiv x.toInt y.toInt]
  have h1 : (x.toInt.tmod y.toInt).bmod (2 ^ 64) = x.toInt.tmod y.toInt := by
    have := Int64.toInt_mod x y
    rw [← this]
    exact Int64.toInt_bmod _
  rw [Int.tmod_add_mul_tdiv]
  rw [← h1]
  have h2 : x.toInt - x.toInt.tdiv y.toInt * y.toInt = x.toInt.tmod y.toInt := by
    have := Int.tmod_add_mul_tdiv x.toInt y.toInt
    rw [Int.mul_comm y.toInt] at this
    omega
  rw [← h2]
  simp only [Int.sub_bmod_bmod, Int.bmod_mul_bmod, Int.mul_bmod_bmod]
theorem lI_div {a b : Int} (ha : r64 a) (hb : r64 b) (h : a ≠ -9223372036854775808) : lI a / lI b = lI (a.tdiv b) := by
  apply Int64.toInt_inj.mp
  have hm : lI a ≠ Int64.minValue := fun q => h (by rw [← lI_toInt ha, q]; rfl)
  rw [Int64.toInt_div_of_ne_left _ _ hm, lI_toInt ha, lI_toInt hb, lI_toInt]
  have h1 := Int.natAbs_tdiv_le_natAbs a b
  have := ha.1
  have := ha.2
  constructor <;> omega
theorem lI_rem {a b : Int} (ha : r64 a) (hb : r64 b) : lI a - lI a / lI b * lI b = lI (a.tmod b) := by
  rw [lrem_mod]
  apply Int64.toInt_inj.mp
  rw [Int64.toInt_mod, lI_toInt ha, lI_toInt hb, lI_toInt]
  have h1 := Int.natAbs_tmod a b
  have h2 : a.natAbs % b.natAbs ≤ a.natAbs := Nat.mod_le _ _
  have := ha.1
  have := ha.2
  rcases Int.lt_or_le a 0 with q | q
  · have h3 : 0 ≤ (-a).tmod b := Int.tmod_nonneg _ (by omega)
    rw [Int.neg_tmod] at h3
    constructor <;> omega
  · have h3 : 0 ≤ a.tmod b := Int.tmod_nonneg _ q
    constructor <;> omega
theorem lI_int (x : Int) : (lI x).toInt32 = iI x := Int64.toInt32_ofInt
theorem lI_eq0 {a : Int} (ha : r64 a) : lI a = 0 ↔ a = 0 := lI_eq (b := 0) ha ⟨by decide, by decide⟩
/-- the contents of an array of longs -/
def aL (N : Int → Int) : Nat → Int64 := fun j => lI (N (j : Int))
theorem aL_at {N : Int → Int} {k : Int} (h : 0 ≤ k) (h2 : k ≤ 2147483647) : aL N (iI k).toNatClampNeg = lI (N k) := by
  rw [iI_nat h h2]
  show lI (N ((k.toNat : Nat) : Int)) = lI (N k)
  rw [Int.toNat_of_nonneg h]
theorem aL_up {N : Int → Int} {k x : Int} (h : 0 ≤ k) (h2 : k ≤ 2147483647) : vp_updL (aL N) (iI k).toNatClampNeg (lI x) = aL (iu N k x) := by
  funext j
  rw [iI_nat h h2]
  show (if j = k.toNat then lI x else lI (N (j : Int))) = lI (if (j : Int) = k then x else N (j : Int))
  by_cases q : j = k.toNat
  · rw [if_pos q, if_pos (by omega)]
  · rw [if_neg q, if_neg (by omega)]
theorem lg_eq (x y : Int64) : lg_cmp x y = 0 ↔ x = y := by
  unfold lg_cmp
  by_cases h : x > y
  · rw [if_pos h]
    exact ⟨fun q => absurd q (by decide), fun q => absurd (q ▸ h) (by rw [gt_iff_lt, Int64.lt_iff_toInt_lt]; omega)⟩
  · rw [if_neg h]
    by_cases h2 : x = y
    · rw [if_pos h2]; exact ⟨fun _ => h2, fun _ => rfl⟩
    · rw [if_neg h2]; exact ⟨fun q => absurd q (by decide), fun q => absurd q h2⟩
theorem lg_gt (x y : Int64) : 0 < lg_cmp x y ↔ y < x := by
  unfold lg_cmp
  by_cases h : x > y
  · rw [if_pos h]; exact ⟨fun _ => h, fun _ => by decide⟩
  · rw [if_neg h]
    by_cases h2 : x = y
    · rw [if_pos h2]; exact ⟨fun q => absurd q (by decide), fun q => absurd q h⟩
    · rw [if_neg h2]; exact ⟨fun q => absurd q (by decide), fun q => absurd q h⟩
theorem lg_lt (x y : Int64) : lg_cmp x y < 0 ↔ x < y := by
  unfold lg_cmp
  by_cases h : x > y
  · rw [if_pos h]
    exact ⟨fun q => absurd q (by decide), fun q => by
      rw [gt_iff_lt, Int64.lt_iff_toInt_lt] at h; rw [Int64.lt_iff_toInt_lt] at q; omega⟩
  · rw [if_neg h]
    by_cases h2 : x = y
    · rw [if_pos h2]; exact ⟨fun q => absurd q (by decide), fun q => by
        rw [h2, Int64.lt_iff_toInt_lt] at q; omega⟩
    · rw [if_neg h2]
      refine ⟨fun _ => ?_, fun _ => by decide⟩
      rw [gt_iff_lt, Int64.lt_iff_toInt_lt] at h
      rw [Int64.lt_iff_toInt_lt]
      have : ¬ x.toInt = y.toInt := fun q => h2 (Int64.toInt_inj.mp q)
      omega
section IL
variable {p : Program} {l : Launch} {e : Env} {R : Room} {s : State} {m : MethodId} {args : Array Value} {below : List Frame} {meth : Method} {c : Code} {H : Heap} {locs : List Loc} {cells slots : Nat} {Q : State → Prop} {cc : ByteArray} {pc : Nat} {ls : Array Slot} {rest : List Value}
theorem ix_lc_eq (hexec : p.tables.exec = Jvm.exec) (hb : c.code = cc) {x y : Int} {off : Int} {tgt : Nat} (hd1 : decode cc pc = .ok (.lcmp, 1)) (hd2 : decode cc (pc + 1) = .ok (.ifCond .eq off, 3)) (ht : ((pc + 1 : Nat) : Int) + off = (tgt : Int)) (hx : r64 x) (hy : r64 y) (kt : x = y → W p l e R s m args below meth c H locs cells slots Q (F0 m tgt ls (rest))) (kf : ¬ x = y → W p l e R s m args below meth c H locs cells slots Q (F0 m (pc + 1 + 3) ls (rest))) : W p l e R s m args below meth c H locs cells slots Q (F0 m pc ls (.long (lI y) :: .long (lI x) :: rest)) := W.lcmp hexec hb hd1 (lv_if_eq hexec hb hd2 ht (fun h => kt ((lI_eq hx hy).mp ((lg_eq _ _).mp h))) (fun h => kf (fun q => h ((lg_eq _ _).mpr ((lI_eq hx hy).mpr q)))))
theorem ix_lc_ne (hexec : p.tables.exec = Jvm.exec) (hb : c.code = cc) {x y : Int} {off : Int} {tgt : Nat} (hd1 : decode cc pc = .ok (.lcmp, 1)) (hd2 : decode cc (pc + 1) = .ok (.ifCond .ne off, 3)) (ht : ((pc + 1 : Nat) : Int) + off = (tgt : Int)) (hx : r64 x) (hy : r64 y) (kt : ¬ x = y → W p l e R s m args below meth c H locs cells slots Q (F0 m tgt ls (rest))) (kf : ¬ ¬ x = y → W p l e R s m args below meth c H locs cells slots Q (F0 m (pc + 1 + 3) ls (rest))) : W p l e R s m args below meth c H locs cells slots Q (F0 m pc ls (.long (lI y) :: .long (lI x) :: rest)) := W.lcmp hexec hb hd1 (lv_if_ne hexec hb hd2 ht (fun h => kt (fun q => h ((lg_eq _ _).mpr ((lI_eq hx hy).mpr q)))) (fun h => kf (fun q => q ((lI_eq hx hy).mp ((lg_eq _ _).mp h)))))
theorem ix_lc_lt (hexec : p.tables.exec = Jvm.exec) (hb : c.code = cc) {x y : Int} {off : Int} {tgt : Nat} (hd1 : decode cc pc = .ok (.lcmp, 1)) (hd2 : decode cc (pc + 1) = .ok (.ifCond .lt off, 3)) (ht : ((pc + 1 : Nat) : Int) + off = (tgt : Int)) (hx : r64 x) (hy : r64 y) (kt : x < y → W p l e R s m args below meth c H locs cells slots Q (F0 m tgt ls (rest))) (kf : ¬ x < y → W p l e R s m args below meth c H locs cells slots Q (F0 m (pc + 1 + 3) ls (rest))) : W p l e R s m args below meth c H locs cells slots Q (F0 m pc ls (.long (lI y) :: .long (lI x) :: rest)) := W.lcmp hexec hb hd1 (lv_if_lt hexec hb hd2 ht (fun h => kt ((lI_lt hx hy).mp ((lg_lt _ _).mp h))) (fun h => kf (fun q => h ((lg_lt _ _).mpr ((lI_lt hx hy).mpr q)))))
theorem ix_lc_gt (hexec : p.tables.exec = Jvm.exec) (hb : c.code = cc) {x y : Int} {off : Int} {tgt : Nat} (hd1 : decode cc pc = .ok (.lcmp, 1)) (hd2 : decode cc (pc + 1) = .ok (.ifCond .gt off, 3)) (ht : ((pc + 1 : Nat) : Int) + off = (tgt : Int)) (hx : r64 x) (hy : r64 y) (kt : y < x → W p l e R s m args below meth c H locs cells slots Q (F0 m tgt ls (rest))) (kf : ¬ y < x → W p l e R s m args below meth c H locs cells slots Q (F0 m (pc + 1 + 3) ls (rest))) : W p l e R s m args below meth c H locs cells slots Q (F0 m pc ls (.long (lI y) :: .long (lI x) :: rest)) := W.lcmp hexec hb hd1 (lv_if_gt hexec hb hd2 ht (fun h => kt ((lI_lt hy hx).mp ((lg_gt _ _).mp h))) (fun h => kf (fun q => h ((lg_gt _ _).mpr ((lI_lt hy hx).mpr q)))))
theorem ix_lc_ge (hexec : p.tables.exec = Jvm.exec) (hb : c.code = cc) {x y : Int} {off : Int} {tgt : Nat} (hd1 : decode cc pc = .ok (.lcmp, 1)) (hd2 : decode cc (pc + 1) = .ok (.ifCond .ge off, 3)) (ht : ((pc + 1 : Nat) : Int) + off = (tgt : Int)) (hx : r64 x) (hy : r64 y) (kt : y ≤ x → W p l e R s m args below meth c H locs cells slots Q (F0 m tgt ls (rest))) (kf : ¬ y ≤ x → W p l e R s m args below meth c H locs cells slots Q (F0 m (pc + 1 + 3) ls (rest))) : W p l e R s m args below meth c H locs cells slots Q (F0 m pc ls (.long (lI y) :: .long (lI x) :: rest)) := W.lcmp hexec hb hd1 (lv_if_ge hexec hb hd2 ht (fun h => kt (Int.not_lt.mp (fun q => k2_nlt h ((lg_lt _ _).mpr ((lI_lt hx hy).mpr q))))) (fun h => kf (fun q => h (k2_le (fun z => absurd ((lI_lt hx hy).mp ((lg_lt _ _).mp z)) (Int.not_lt.mpr q))))))
theorem ix_lc_le (hexec : p.tables.exec = Jvm.exec) (hb : c.code = cc) {x y : Int} {off : Int} {tgt : Nat} (hd1 : decode cc pc = .ok (.lcmp, 1)) (hd2 : decode cc (pc + 1) = .ok (.ifCond .le off, 3)) (ht : ((pc + 1 : Nat) : Int) + off = (tgt : Int)) (hx : r64 x) (hy : r64 y) (kt : x ≤ y → W p l e R s m args below meth c H locs cells slots Q (F0 m tgt ls (rest))) (kf : ¬ x ≤ y → W p l e R s m args below meth c H locs cells slots Q (F0 m (pc + 1 + 3) ls (rest))) : W p l e R s m args below meth c H locs cells slots Q (F0 m pc ls (.long (lI y) :: .long (lI x) :: rest)) := W.lcmp hexec hb hd1 (lv_if_le hexec hb hd2 ht (fun h => kt (Int.not_lt.mp (fun q => k2_nlt h ((lg_gt _ _).mpr ((lI_lt hy hx).mpr q))))) (fun h => kf (fun q => h (k2_le (fun z => absurd ((lI_lt hy hx).mp ((lg_gt _ _).mp z)) (Int.not_lt.mpr q))))))
theorem ix_ldiv (hexec : p.tables.exec = Jvm.exec) (hb : c.code = cc) {x y : Int} (hdg : decode cc pc = .ok (.ldiv, 1)) (hx : r64 x) (hy : r64 y) (hm : x ≠ -9223372036854775808) (hne : y ≠ 0) (k : W p l e R s m args below meth c H locs cells slots Q (F0 m (pc + 1) ls (.long (lI (x.tdiv y)) :: rest))) : W p l e R s m args below meth c H locs cells slots Q (F0 m pc ls (.long (lI y) :: .long (lI x) :: rest)) := lv_ldiv hexec hb hdg (fun q => hne ((lI_eq0 hy).mp q)) (by rw [lI_div hx hy hm]; exact k)
theorem ix_lrem (hexec : p.tables.exec = Jvm.exec) (hb : c.code = cc) {x y : Int} (hdg : decode cc pc = .ok (.lrem, 1)) (hx : r64 x) (hy : r64 y) (hne : y ≠ 0) (k : W p l e R s m args below meth c H locs cells slots Q (F0 m (pc + 1) ls (.long (lI (x.tmod y)) :: rest))) : W p l e R s m args below meth c H locs cells slots Q (F0 m pc ls (.long (lI y) :: .long (lI x) :: rest)) := lv_lrem hexec hb hdg (fun q => hne ((lI_eq0 hy).mp q)) (by rw [lI_rem hx hy]; exact k)
theorem ix_l2i (hexec : p.tables.exec = Jvm.exec) (hb : c.code = cc) {x : Int} (hdg : decode cc pc = .ok (.l2i, 1)) (k : W p l e R s m args below meth c H locs cells slots Q (F0 m (pc + 1) ls (.int (iI x) :: rest))) : W p l e R s m args below meth c H locs cells slots Q (F0 m pc ls (.long (lI x) :: rest)) := lv_l2i hexec hb hdg (lI_int x) k
theorem ix_lconst0 (hexec : p.tables.exec = Jvm.exec) (hb : c.code = cc) (hdg : decode cc pc = .ok (.lconst 0, 1)) (k : W p l e R s m args below meth c H locs cells slots Q (F0 m (pc + 1) ls (.long (lI 0) :: rest))) : W p l e R s m args below meth c H locs cells slots Q (F0 m pc ls (rest)) := lv_lconst hexec hb hdg rfl k
theorem ix_lconst1 (hexec : p.tables.exec = Jvm.exec) (hb : c.code = cc) (hdg : decode cc pc = .ok (.lconst 1, 1)) (k : W p l e R s m args below meth c H locs cells slots Q (F0 m (pc + 1) ls (.long (lI 1) :: rest))) : W p l e R s m args below meth c H locs cells slots Q (F0 m pc ls (rest)) := lv_lconst hexec hb hdg rfl k
theorem ix_ldc2 (hexec : p.tables.exec = Jvm.exec) (hb : c.code = cc) {own : String} {index : Nat} {v : Int64} {z : Int} (hown : s.vm.findClass own = some m.cls) (hc : (Jvm.Cond.constantLong own index v).before args s = true) (hz : v = lI z) (hdg : decode cc pc = .ok (.ldc2_w index, 3)) (k : W p l e R s m args below meth c H locs cells slots Q (F0 m (pc + 3) ls (.long (lI z) :: rest))) : W p l e R s m args below meth c H locs cells slots Q (F0 m pc ls (rest)) := lv_ldc2 hexec hb hown hc hdg (by rw [hz]; exact k)
variable {D : va_G} {cl : List vw_C} {ws : va_W} {tys : List (ClassId × FieldType)} {A : Nat → Prop} {H0 : Heap} {a : Nat}
theorem ix_lald (hexec : p.tables.exec = Jvm.exec) (hb : c.code = cc) (hK : va_K D cl tys s) (hP : va_P D cl ws H) (q0 t0 : Nat) {cA : ClassId} {n : Nat} {N : Int → Int} (ha : ws[q0]? = some (a, .inl (cA, n, .inr (.inl (aL N))))) (ht : tys[t0]? = some (cA, .long)) {k : Int} (h0 : 0 ≤ k) (h1 : k < n) (hn : n < 2147483648) (hdg : decode cc pc = .ok (.laload, 1)) (kk : W p l e R s m args below meth c H locs cells slots Q (F0 m (pc + 1) ls (.long (lI (N k)) :: rest))) : W p l e R s m args below meth c H locs cells slots Q (F0 m pc ls (.int (iI k) :: .ref a :: rest)) := va_lald hexec hb hK hP q0 t0 ha ht (vp_in_iI h0 h1 hn) hdg (by rw [aL_at h0 (by omega)]; exact kk)
theorem ix_last (hexec : p.tables.exec = Jvm.exec) (hb : c.code = cc) (hK : va_K D cl tys s) (hP : va_P D cl ws H) (hD : va_D A ws) (hS : va_S A H0 H locs) (q0 t0 : Nat) {cA : ClassId} {n : Nat} {N : Int → Int} (ha : ws[q0]? = some (a, .inl (cA, n, .inr (.inl (aL N))))) (ht : tys[t0]? = some (cA, .long)) {k x : Int} (h0 : 0 ≤ k) (h1 : k < n) (hn : n < 2147483648) (hdg : decode cc pc = .ok (.lastore, 1)) (kk : ∀ (H1 : Heap) (locs1 : List Loc), va_P D cl (ws.set q0 (a, .inl (cA, n, .inr (.inl (aL (iu N k x)))))) H1 → va_D A (ws.set q0 (a, .inl (cA, n, .inr (.inl (aL (iu N k x)))))) → va_S A H0 H1 locs1 → W p l e R s m args below meth c H1 locs1 cells slots Q (F0 m (pc + 1) ls rest)) : W p l e R s m args below meth c H locs cells slots Q (F0 m pc ls (.long (lI x) :: .int (iI k) :: .ref a :: rest)) := va_last hexec hb hK hP hD hS q0 t0 ha ht (vp_in_iI h0 h1 hn) hdg (fun H1 locs1 b1 b2 b3 => kk H1 locs1 (by rw [← aL_up h0 (by omega)]; exact b1) (by rw [← aL_up h0 (by omega)]; exact b2) b3)
end IL
