/-- all that the law has made -/
abbrev lwd (h n r d f : Nat) (cI cF : ClassId) (N : Int → Int) (u : CS) (o : Nat) (cO : ClassId) (O : Int → Int) (x n2 r2 d2 ya yb yc yo : Nat) (cI2 cJ : ClassId) (M : Int → Int) (v : MT) : va_W :=
  [(h, .inr (1, [.ref n, .ref r, .ref d, .ref f, .int (iI u.2.2.2.1), .int (iI u.2.2.1), .int (iI u.2.2.2.2.1)])), (n, .inl (cI, 5, .inl (aI N))), (r, .inl (cI, 5, .inl (aI u.1))), (d, .inl (cI, 5, .inl (aI u.2.1))), (f, .inl (cF, 4, .inr (.inr (.inr (.inr (q4 u.2.2.2.2.2.1.1 u.2.2.2.2.2.1.2.1 u.2.2.2.2.2.1.2.2.1 u.2.2.2.2.2.1.2.2.2)))))), (u.2.2.2.2.2.1.1, .inr (0, fl (u.2.2.2.2.2.2 0))), (u.2.2.2.2.2.1.2.1, .inr (0, fl (u.2.2.2.2.2.2 1))), (u.2.2.2.2.2.1.2.2.1, .inr (0, fl (u.2.2.2.2.2.2 2))), (u.2.2.2.2.2.1.2.2.2, .inr (0, fl (u.2.2.2.2.2.2 3))), (o, .inl (cO, 1, .inr (.inl (aL O)))),
   (x, .inr (2, [.int (iI v.1), .ref n2, .ref r2, .ref d2, .int (iI v.2.1), .int (iI v.2.2.2.2.2.1), .ref ya, .ref yb, .ref yc, .ref yo, .long (lI (v.2.2.1 0)), .long (lI (v.2.2.1 1)), .long (lI (v.2.2.1 2)), .long (lI (v.2.2.1 3)), .long (lI (v.2.2.1 4)), .long (lI (v.2.2.1 5)), .long (lI (v.2.2.1 6))])), (n2, .inl (cI2, 5, .inl (aI M))), (r2, .inl (cJ, 5, .inr (.inl (aL v.2.2.2.1)))), (d2, .inl (cJ, 5, .inr (.inl (aL v.2.2.2.2.1)))), (ya, .inl (cI2, 5, .inl (aI v.2.2.2.2.2.2.1))), (yb, .inl (cI2, 5, .inl (aI v.2.2.2.2.2.2.2.1))), (yc, .inl (cI2, 5, .inl (aI v.2.2.2.2.2.2.2.2.1))), (yo, .inl (cI2, 5, .inl (aI v.2.2.2.2.2.2.2.2.2)))]
/-- an int of the script -/
def sc (xs : Nat → Int32) (k : Int) : Int := (xs k.toNat).toInt
theorem sc_r (xs : Nat → Int32) (k : Int) : r32 (sc xs k) := ⟨by have := (xs k.toNat).le_toInt; unfold sc; omega, by have := (xs k.toNat).toInt_lt; unfold sc; omega⟩
theorem sc_i (xs : Nat → Int32) (k : Int) : iI (sc xs k) = xs k.toNat := Int32.ofInt_toInt _
theorem iI_len (L : Nat) : Int32.ofNat L = iI (L : Int) := by unfold iI; first | exact Int32.ofInt_eq_ofNat.symm | rfl | simp
section LAW
variable {p : Program} {l : Launch} {e : Env} {R : Room} {s : State} {m : MethodId} {args : Array Value} {below : List Frame} {meth : Method} {c : Code} {H : Heap} {locs : List Loc} {cells slots : Nat} {Q : State → Prop} {A : Nat → Prop} {pc : Nat} {ls : Array Slot} {rest : List Value} {cc : ByteArray}
theorem ix_sld (hx : p.tables.exec = Jvm.exec) (hb : c.code = cc) {b L : Nat} {xs : Nat → Int32} (hX : va_X b L xs s s.heap) (hbl : b < s.heap.size) (hbA : ¬ A b) (hS : va_S A s.heap H locs) {k : Int} (h0 : 0 ≤ k) (h1 : k < L) (hL : L ≤ 2560) (hdg : decode cc pc = .ok (.iaload, 1))
    (kk : W p l e R s m args below meth c H locs cells slots Q (F0 m (pc + 1) ls (.int (iI (sc xs k)) :: rest))) : W p l e R s m args below meth c H locs cells slots Q (F0 m pc ls (.int (iI k) :: .ref b :: rest)) := by
  refine va_sld hx hb hX hbl hbA hS (vp_in_iI h0 h1 (by omega)) hdg ?_
  rw [iI_nat h0 (by omega), ← sc_i xs k]
  exact kk
theorem ix_slen (hx : p.tables.exec = Jvm.exec) (hb : c.code = cc) {b L : Nat} {xs : Nat → Int32} (hX : va_X b L xs s s.heap) (hbl : b < s.heap.size) (hbA : ¬ A b) (hS : va_S A s.heap H locs) (hdg : decode cc pc = .ok (.arraylength, 1))
    (kk : W p l e R s m args below meth c H locs cells slots Q (F0 m (pc + 1) ls (.int (iI (L : Int)) :: rest))) : W p l e R s m args below meth c H locs cells slots Q (F0 m pc ls (.ref b :: rest)) := by
  refine va_slen hx hb hX hbl hbA hS hdg ?_
  rw [iI_len]
  exact kk
end LAW
theorem gSW {own : String} {idx : Nat} {y : MethodName} {k : Cond} (h1 : Cond.methodLink own idx y ∈ wsA) (h2 : Cond.static y ∈ wsA) (h3 : Cond.initialized y.cls ∈ wsA) (h4 : k ∈ wsA) : GoodIn wsA (va_wsS own idx y (k :: wsA)) := fun w q => by
  rcases List.mem_append.mp q with q | q
  · rcases List.mem_cons.mp q with e | q
    · rw [e]; exact wsA_good _ h1
    · rcases List.mem_cons.mp q with e | q
      · rw [e]; exact wsA_good _ h2
      · rw [List.mem_singleton.mp q]; exact wsA_good _ h3
  · exact wsA_sub h4 w q
theorem R_put {N : Int → Int} {k v : Int} {u : Int × (Int → Int) × (Int → Int) × CS} (h : H_put N k v u) : 0 ≤ u.1 ∧ u.1 ≤ 3 := by
  obtain ⟨-, ⟨e, -⟩ | ⟨e, -⟩ | ⟨e, -⟩⟩ := h <;> omega
theorem R_at {N : Int → Int} {k : Int} {u : Int × (Int → Int) × CS} (h : H_at N k u) : 0 ≤ u.1 ∧ u.1 ≤ 3 := by
  obtain ⟨-, ⟨e, -⟩ | ⟨e, -⟩⟩ := h <;> omega
theorem R_change {N : Int → Int} {k : Int} {u : Int × (Int → Int) × (Int → Int) × CS} (h : H_change N k u) : 0 ≤ u.1 ∧ u.1 ≤ 3 := by
  obtain ⟨-, ⟨e, -⟩ | ⟨e, -⟩⟩ := h <;> omega
theorem R_factors {N : Int → Int} {u : Int × (Int → Int) × CS} (h : H_factors N u) : 0 ≤ u.1 ∧ u.1 ≤ 3 := by
  obtain ⟨-, ⟨e, -⟩ | ⟨e, -⟩⟩ := h <;> omega
theorem R_content {N : Int → Int} {u : Int × (Int → Int) × CS} (h : H_content N u) : 0 ≤ u.1 ∧ u.1 ≤ 3 := by
  obtain ⟨-, ⟨e, -⟩ | ⟨e, -⟩⟩ := h <;> omega
theorem R_real {N : Int → Int} {u : Int × (Int → Int) × CS} (h : H_real N u) : 0 ≤ u.1 ∧ u.1 ≤ 3 := by
  obtain ⟨-, ⟨e, -⟩ | ⟨e, -⟩⟩ := h <;> omega
theorem R_left {N : Int → Int} {k : Int} {u : Int × (Int → Int) × CS} (h : H_left N k u) : 0 ≤ u.1 ∧ u.1 ≤ 3 := by
  obtain ⟨-, ⟨e, -⟩ | ⟨e, -⟩ | ⟨e, -⟩⟩ := h <;> omega
theorem R_factor {N : Int → Int} {k w : Int} {u : Int × (Int → Int) × CS} (h : H_factor N k w u) : 0 ≤ u.1 ∧ u.1 ≤ 3 := by
  obtain ⟨-, ⟨e, -⟩ | ⟨e, -⟩ | ⟨e, -⟩ | ⟨e, -⟩⟩ := h <;> omega
theorem R_answer {N : Int → Int} {k w t : Int} {u : Int × (Int → Int) × CS} (h : H_answer N k w t u) : 0 ≤ u.1 ∧ u.1 ≤ 3 := by
  obtain ⟨-, ⟨e, -⟩ | ⟨e, -⟩ | ⟨e, -⟩ | ⟨e, -⟩⟩ := h <;> omega
theorem R_floor {N : Int → Int} {k w : Int} {u : Int × (Int → Int) × CS} (h : H_floor N k w u) : 0 ≤ u.1 ∧ u.1 ≤ 3 := by
  obtain ⟨-, ⟨e, -⟩ | ⟨e, -⟩ | ⟨e, -⟩ | ⟨e, -⟩⟩ := h <;> omega
theorem R_compare {N : Int → Int} {k w j t : Int} {u : Int × (Int → Int) × CS} (h : H_compare N k w j t u) : 0 ≤ u.1 ∧ u.1 ≤ 3 := by
  obtain ⟨-, ⟨e, -⟩ | ⟨e, -⟩ | ⟨e, -⟩ | ⟨e, -⟩⟩ := h <;> omega
