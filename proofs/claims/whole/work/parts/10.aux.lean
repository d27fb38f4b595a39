/-- what a walk knows of its own method -/
def cx (p : Program) (s : State) (m : MethodId) (meth : Method) (c : Code) (args : Array Value) (own : String) (cc : ByteArray) (nL : Nat) (ret : Option FieldType) : Prop :=
  p.tables.exec = Jvm.exec ∧ c.code = cc ∧ meth.sig.returnType = ret ∧ c.maxLocals = nL ∧ s.vm.findClass own = some m.cls ∧ (∀ w ∈ wsA, w.before args s = true) ∧ meth.locks = false
def f_size (v : Int) : Int := if v < 0 then -v else v
theorem abs32 {x : Int} (h : r32 x) : (if 0 ≤ iI x then iI x else 0 - iI x) = iI (f_size x) := by
  unfold f_size
  by_cases q : x < 0
  · rw [if_pos q, if_neg (fun z => absurd ((iI_0le h).mp z) (by omega))]
    rw [show (0 : Int32) = iI 0 from rfl, iI_sub]
    congr 1
    omega
  · rw [if_neg q, if_pos ((iI_0le h).mpr (by omega))]
section AX
variable {p : Program} {l : Launch} {e : Env} {R : Room} {s : State} {m : MethodId} {args : Array Value} {below : List Frame} {meth : Method} {c : Code} {H : Heap} {locs : List Loc} {cells slots : Nat} {Q : State → Prop} {cc : ByteArray} {pc : Nat} {ls : Array Slot} {rest : List Value}
theorem ix_abs (hexec : p.tables.exec = Jvm.exec) (hb : c.code = cc) (hml : c.maxLocals = ls.size) {own : String} {index : Nat} (hown : s.vm.findClass own = some m.cls) (hlink : (Cond.methodLink own index Lib.Math.abs.name).before args s = true) (hstat : (Cond.static Lib.Math.abs.name).before args s = true) (hini : (Cond.initialized "java/lang/Math").before args s = true) (hcode : (Cond.code Lib.Math.abs.name Lib.Math.abs.code 1 (some .int)).before args s = true) (hframes : 1 ≤ R.frames) (hlocals : (rest.map fun v => v.category).sum + 13 ≤ R.locals) (hc : cells ≤ R.cells) (hs : slots ≤ R.slots) {x : Int} (hx : r32 x) (hdg : decode cc pc = .ok (.invokestatic index, 3)) (kk : W p l e R s m args below meth c H locs cells slots Q (F0 m (pc + 3) ls (.int (iI (f_size x)) :: rest))) : W p l e R s m args below meth c H locs cells slots Q (F0 m pc ls (.int (iI x) :: rest)) :=
  va_mabs hexec hb hml hown hlink hstat hini hcode hframes hlocals hc hs hdg (by rw [abs32 hx]; exact kk)
end AX
