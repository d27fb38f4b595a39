/-- words that hold as long as the tables only grow -/
def wsN : List Cond := [Cond.methodLinkNest "RadicalAnswers" (25 : Nat) (⟨"RadicalAnswers$Factor", "<init>", "()V"⟩ : MethodName) "RadicalAnswers", Cond.fieldLinkNest "RadicalAnswers" (76 : Nat) "RadicalAnswers$Factor" "times" "I" "RadicalAnswers", Cond.fieldLinkNest "RadicalAnswers" (79 : Nat) "RadicalAnswers$Factor" "a" "I" "RadicalAnswers", Cond.fieldLinkNest "RadicalAnswers" (82 : Nat) "RadicalAnswers$Factor" "b" "I" "RadicalAnswers", Cond.fieldLinkNest "RadicalAnswers" (85 : Nat) "RadicalAnswers$Factor" "c" "I" "RadicalAnswers", Cond.fieldLinkNest "RadicalAnswers" (102 : Nat) "RadicalAnswers$Factor" "outside" "I" "RadicalAnswers", Cond.fieldLinkNest "RadicalAnswers" (88 : Nat) "RadicalAnswers$Factor" "inside" "I" "RadicalAnswers", Cond.castable "java/lang/IndexOutOfBoundsException" "java/lang/IndexOutOfBoundsException", Cond.declares (⟨"java/lang/RuntimeException", "<init>", "()V"⟩ : MethodName), Cond.declares (⟨"java/lang/RuntimeException", "<init>", "(Ljava/lang/String;)V"⟩ : MethodName), Cond.declares (⟨"java/lang/Exception", "<init>", "()V"⟩ : MethodName), Cond.declares (⟨"java/lang/Exception", "<init>", "(Ljava/lang/String;)V"⟩ : MethodName), Cond.declares (⟨"java/lang/Throwable", "<init>", "()V"⟩ : MethodName), Cond.declares (⟨"java/lang/Throwable", "<init>", "(Ljava/lang/String;)V"⟩ : MethodName), Cond.castable "java/lang/IllegalArgumentException" "java/lang/IllegalArgumentException", Cond.castable "java/lang/IllegalStateException" "java/lang/IllegalStateException", Cond.methodLinkNest "RadicalAnswers" (173 : Nat) (⟨"RadicalAnswers$Factor", "become", "(IIII)V"⟩ : MethodName) "RadicalAnswers", Cond.methodLinkNest "RadicalAnswers$Factor" (22 : Nat) (⟨"RadicalAnswers", "greatestSquareDividing", "(I)I"⟩ : MethodName) "RadicalAnswers", Cond.methodLinkNest "RadicalAnswers" (176 : Nat) (⟨"RadicalAnswers$Factor", "standsBefore", "(LRadicalAnswers$Factor;)Z"⟩ : MethodName) "RadicalAnswers", Cond.methodLinkNest "RadicalAnswers" (72 : Nat) (⟨"RadicalAnswers$Factor", "isLinear", "()Z"⟩ : MethodName) "RadicalAnswers", Cond.methodLinkNest "RadicalAnswers" (98 : Nat) (⟨"RadicalAnswers$Factor", "middle", "()I"⟩ : MethodName) "RadicalAnswers", Cond.methodLinkNest "RadicalAnswers" (105 : Nat) (⟨"RadicalAnswers$Factor", "below", "()I"⟩ : MethodName) "RadicalAnswers", Cond.methodLinkNest "RadicalAnswers" (112 : Nat) (⟨"RadicalAnswers$Factor", "isReal", "()Z"⟩ : MethodName) "RadicalAnswers", Cond.methodLinkNest "RadicalAnswers" (119 : Nat) (⟨"RadicalAnswers$Factor", "under", "()I"⟩ : MethodName) "RadicalAnswers"]
def warmw : Cond → Bool
  | .fieldLinkNest .. => true
  | .methodLinkNest .. => true
  | .castable .. => true
  | .declares .. => true
  | _ => false
theorem warm_of {w : Cond} (hk : warmw w = true) {s U : State} (hW : s.WarmedH U.vm) (h : va_Nw w s) : va_Nw w U := by
  cases w <;> first | exact va_Nw.warmF hW h | exact va_Nw.warmM hW h | exact va_Nw.warmC hW h | exact va_Nw.warmD hW h | exact Bool.noConfusion hk
theorem warm_ot {w : Cond} (hk : warmw w = true) : w.onTables = true := by
  cases w <;> first | rfl | exact Bool.noConfusion hk
theorem wsN_ok : ∀ w ∈ wsN, warmw w = true := by decide +kernel
theorem wsN_in : ∀ w ∈ wsN, w ∈ lw_tbl := fun w h => List.mem_append_right _ ((by decide +kernel : ∀ w ∈ wsN, w ∈ tables_1) w h)
def wsT : List (Nat × String) := [(137, "no such power"), (36, "not -20 .. 20"), (45, "no such change"), (149, "the equation is 0"), (142, "no such factor"), (91, "no such what"), (96, "no such part of an answer"), (140, "not real")]
/-- what every method of the class takes as given beside its words -/
def nb (U : State) : Prop := (∀ w ∈ wsN, va_Nw w U) ∧ va_AO RX0 U ∧ ∀ q ∈ wsT, ∃ a, vk_R RX1 q.1 q.2 a U
theorem nb.same {u U : State} (h : u.vm = U.vm) (b : nb u) : nb U :=
  ⟨fun w hw => va_Nw.same (warm_ot (wsN_ok w hw)) h (b.1 w hw), va_AO.moved (by rw [h]; exact Vm.Alike.refl _) b.2.1, fun q hq => by
    obtain ⟨a, ha⟩ := b.2.2 q hq
    exact ⟨a, vk_R.same h.symm ha⟩⟩
theorem nb.warm {s U : State} (hW : s.WarmedH U.vm) (b : nb s) : nb U :=
  ⟨fun w hw => warm_of (wsN_ok w hw) hW (b.1 w hw), va_AO.moved hW.alike b.2.1, fun q hq => by
    obtain ⟨a, ha⟩ := b.2.2 q hq
    exact ⟨a, vk_R.warm hW ha⟩⟩
theorem nb.use {s : State} {args : Array Value} (b : nb s) {w : Cond} (h : w ∈ wsN) : w.before args s = true := va_Nw.use (warm_ot (wsN_ok w h)) (b.1 w h)
/-- .. and what a throw needs of the machine's own statics -/
def zt (A : Nat → Prop) (U : State) : Prop := vx_Zq Bundle.tN "UNASSIGNED_STACK" Bundle.steD A U U.heap ∧ vx_Zq Bundle.tN "SUPPRESSED_SENTINEL" Bundle.listD A U U.heap
theorem zt.go {A B : Nat → Prop} {u U : State} (h : zt A u) (hvm : u.vm.Alike U.vm) (hAB : ∀ q, B q → A q) (hq : ∀ a : Nat, a < u.heap.size → ¬ A a → U.heap[a]? = u.heap[a]?) : zt B U :=
  ⟨((h.1.kept hq).moved hvm).narrow hAB, ((h.2.kept hq).moved hvm).narrow hAB⟩
theorem mN_23 : Cond.methodLinkNest "RadicalAnswers" (25 : Nat) (⟨"RadicalAnswers$Factor", "<init>", "()V"⟩ : MethodName) "RadicalAnswers" ∈ wsN := List.mem_of_getElem? (i := 0) rfl
theorem mN_28 : Cond.fieldLinkNest "RadicalAnswers" (76 : Nat) "RadicalAnswers$Factor" "times" "I" "RadicalAnswers" ∈ wsN := List.mem_of_getElem? (i := 1) rfl
theorem mN_30 : Cond.fieldLinkNest "RadicalAnswers" (79 : Nat) "RadicalAnswers$Factor" "a" "I" "RadicalAnswers" ∈ wsN := List.mem_of_getElem? (i := 2) rfl
theorem mN_32 : Cond.fieldLinkNest "RadicalAnswers" (82 : Nat) "RadicalAnswers$Factor" "b" "I" "RadicalAnswers" ∈ wsN := List.mem_of_getElem? (i := 3) rfl
theorem mN_34 : Cond.fieldLinkNest "RadicalAnswers" (85 : Nat) "RadicalAnswers$Factor" "c" "I" "RadicalAnswers" ∈ wsN := List.mem_of_getElem? (i := 4) rfl
theorem mN_36 : Cond.fieldLinkNest "RadicalAnswers" (102 : Nat) "RadicalAnswers$Factor" "outside" "I" "RadicalAnswers" ∈ wsN := List.mem_of_getElem? (i := 5) rfl
theorem mN_38 : Cond.fieldLinkNest "RadicalAnswers" (88 : Nat) "RadicalAnswers$Factor" "inside" "I" "RadicalAnswers" ∈ wsN := List.mem_of_getElem? (i := 6) rfl
theorem mN_93 : Cond.castable "java/lang/IndexOutOfBoundsException" "java/lang/IndexOutOfBoundsException" ∈ wsN := List.mem_of_getElem? (i := 7) rfl
theorem mN_94 : Cond.declares (⟨"java/lang/RuntimeException", "<init>", "()V"⟩ : MethodName) ∈ wsN := List.mem_of_getElem? (i := 8) rfl
theorem mN_95 : Cond.declares (⟨"java/lang/RuntimeException", "<init>", "(Ljava/lang/String;)V"⟩ : MethodName) ∈ wsN := List.mem_of_getElem? (i := 9) rfl
theorem mN_96 : Cond.declares (⟨"java/lang/Exception", "<init>", "()V"⟩ : MethodName) ∈ wsN := List.mem_of_getElem? (i := 10) rfl
theorem mN_97 : Cond.declares (⟨"java/lang/Exception", "<init>", "(Ljava/lang/String;)V"⟩ : MethodName) ∈ wsN := List.mem_of_getElem? (i := 11) rfl
theorem mN_98 : Cond.declares (⟨"java/lang/Throwable", "<init>", "()V"⟩ : MethodName) ∈ wsN := List.mem_of_getElem? (i := 12) rfl
theorem mN_99 : Cond.declares (⟨"java/lang/Throwable", "<init>", "(Ljava/lang/String;)V"⟩ : MethodName) ∈ wsN := List.mem_of_getElem? (i := 13) rfl
theorem mN_164 : Cond.castable "java/lang/IllegalArgumentException" "java/lang/IllegalArgumentException" ∈ wsN := List.mem_of_getElem? (i := 14) rfl
theorem mN_221 : Cond.castable "java/lang/IllegalStateException" "java/lang/IllegalStateException" ∈ wsN := List.mem_of_getElem? (i := 15) rfl
theorem mN_261 : Cond.methodLinkNest "RadicalAnswers" (173 : Nat) (⟨"RadicalAnswers$Factor", "become", "(IIII)V"⟩ : MethodName) "RadicalAnswers" ∈ wsN := List.mem_of_getElem? (i := 16) rfl
theorem mN_265 : Cond.methodLinkNest "RadicalAnswers$Factor" (22 : Nat) (⟨"RadicalAnswers", "greatestSquareDividing", "(I)I"⟩ : MethodName) "RadicalAnswers" ∈ wsN := List.mem_of_getElem? (i := 17) rfl
theorem mN_268 : Cond.methodLinkNest "RadicalAnswers" (176 : Nat) (⟨"RadicalAnswers$Factor", "standsBefore", "(LRadicalAnswers$Factor;)Z"⟩ : MethodName) "RadicalAnswers" ∈ wsN := List.mem_of_getElem? (i := 18) rfl
theorem mN_300 : Cond.methodLinkNest "RadicalAnswers" (72 : Nat) (⟨"RadicalAnswers$Factor", "isLinear", "()Z"⟩ : MethodName) "RadicalAnswers" ∈ wsN := List.mem_of_getElem? (i := 19) rfl
theorem mN_324 : Cond.methodLinkNest "RadicalAnswers" (98 : Nat) (⟨"RadicalAnswers$Factor", "middle", "()I"⟩ : MethodName) "RadicalAnswers" ∈ wsN := List.mem_of_getElem? (i := 20) rfl
theorem mN_325 : Cond.methodLinkNest "RadicalAnswers" (105 : Nat) (⟨"RadicalAnswers$Factor", "below", "()I"⟩ : MethodName) "RadicalAnswers" ∈ wsN := List.mem_of_getElem? (i := 21) rfl
theorem mN_333 : Cond.methodLinkNest "RadicalAnswers" (112 : Nat) (⟨"RadicalAnswers$Factor", "isReal", "()Z"⟩ : MethodName) "RadicalAnswers" ∈ wsN := List.mem_of_getElem? (i := 22) rfl
theorem mN_348 : Cond.methodLinkNest "RadicalAnswers" (119 : Nat) (⟨"RadicalAnswers$Factor", "under", "()I"⟩ : MethodName) "RadicalAnswers" ∈ wsN := List.mem_of_getElem? (i := 23) rfl
/-- a factor's six numbers -/
abbrev fl (F : Int → Int) : List Value := [.int (iI (F 0)), .int (iI (F 1)), .int (iI (F 2)), .int (iI (F 3)), .int (iI (F 4)), .int (iI (F 5))]
theorem nz_b {x : Int} (h : x = 0 ∨ x = 1) : narrow .boolean (.int (iI x)) = .int (iI x) := by rcases h with rfl | rfl <;> rfl
def f_lin (F : Int → Int) : Int := if F 1 = 0 then 1 else 0
def f_mid (F : Int → Int) : Int := if F 1 = 0 then -(F 3) else -(F 2)
def f_below (F : Int → Int) : Int := if F 1 = 0 then F 2 else 2 * F 1
def f_under (F : Int → Int) : Int := F 4 * F 4 * F 5
def f_real (F : Int → Int) : Int := if 0 ≤ F 5 then 1 else 0
def f_deg (N : Int → Int) : Int := if N 4 = 0 then (if N 3 = 0 then (if N 2 = 0 then (if N 1 = 0 then (if N 0 = 0 then -1 else 0) else 1) else 2) else 3) else 4
def f_before (F G : Int → Int) : Int := if f_lin F = f_lin G then (if f_lin F = 0 then (if F 1 = G 1 then (if F 2 = G 2 then (if F 3 < G 3 then 1 else 0) else (if F 2 < G 2 then 1 else 0)) else (if F 1 < G 1 then 1 else 0)) else (if f_mid F * f_below G < f_mid G * f_below F then 1 else 0)) else f_lin F
