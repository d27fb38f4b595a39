section
-- ===== PART A: goes FIRST, ahead of the names: the tables' words, and 'selects' of the private methods out of them =====
/-- a private method of a class that the tables say can be made, by its rows of tables_1 -/
def lw_okq (q : MethodName × Nat) : Prop := (q.1.cls ≠ "java/lang/invoke/MethodHandle" ∧ q.1.cls ≠ "java/lang/invoke/VarHandle") ∧ Cond.instantiable q.1.cls q.2 ∈ tables_1 ∧ Cond.privateMethod q.1 ∈ tables_1 ∧ Cond.instanceMethod q.1 ∈ tables_1
theorem lw_p0 : lw_okq (⟨"java/lang/Throwable", "fillInStackTrace", "(I)Ljava/lang/Throwable;"⟩, 6) := ⟨⟨by decide +kernel, by decide +kernel⟩, List.mem_of_getElem? (i := 130) (by decide +kernel), List.mem_of_getElem? (i := 128) (by decide +kernel), List.mem_of_getElem? (i := 129) (by decide +kernel)⟩
theorem lw_p1 : lw_okq (⟨"RadicalAnswers", "draftChange", "(II)V"⟩, 7) := ⟨⟨by decide +kernel, by decide +kernel⟩, List.mem_of_getElem? (i := 13) (by decide +kernel), List.mem_of_getElem? (i := 197) (by decide +kernel), List.mem_of_getElem? (i := 198) (by decide +kernel)⟩
theorem lw_p2 : lw_okq (⟨"RadicalAnswers", "draftShift", "(I)V"⟩, 7) := ⟨⟨by decide +kernel, by decide +kernel⟩, List.mem_of_getElem? (i := 13) (by decide +kernel), List.mem_of_getElem? (i := 204) (by decide +kernel), List.mem_of_getElem? (i := 205) (by decide +kernel)⟩
theorem lw_p3 : lw_okq (⟨"RadicalAnswers", "split", "()V"⟩, 7) := ⟨⟨by decide +kernel, by decide +kernel⟩, List.mem_of_getElem? (i := 13) (by decide +kernel), List.mem_of_getElem? (i := 216) (by decide +kernel), List.mem_of_getElem? (i := 217) (by decide +kernel)⟩
theorem lw_p4 : lw_okq (⟨"RadicalAnswers", "takeOutContent", "(I)V"⟩, 7) := ⟨⟨by decide +kernel, by decide +kernel⟩, List.mem_of_getElem? (i := 13) (by decide +kernel), List.mem_of_getElem? (i := 236) (by decide +kernel), List.mem_of_getElem? (i := 237) (by decide +kernel)⟩
theorem lw_p5 : lw_okq (⟨"RadicalAnswers", "takeOutLinearFactors", "()V"⟩, 7) := ⟨⟨by decide +kernel, by decide +kernel⟩, List.mem_of_getElem? (i := 13) (by decide +kernel), List.mem_of_getElem? (i := 246) (by decide +kernel), List.mem_of_getElem? (i := 247) (by decide +kernel)⟩
theorem lw_p6 : lw_okq (⟨"RadicalAnswers", "takeOut", "(III)V"⟩, 7) := ⟨⟨by decide +kernel, by decide +kernel⟩, List.mem_of_getElem? (i := 13) (by decide +kernel), List.mem_of_getElem? (i := 250) (by decide +kernel), List.mem_of_getElem? (i := 251) (by decide +kernel)⟩
theorem lw_p7 : lw_okq (⟨"RadicalAnswers", "divideRest", "(III)Z"⟩, 7) := ⟨⟨by decide +kernel, by decide +kernel⟩, List.mem_of_getElem? (i := 13) (by decide +kernel), List.mem_of_getElem? (i := 254) (by decide +kernel), List.mem_of_getElem? (i := 255) (by decide +kernel)⟩
theorem lw_p8 : lw_okq (⟨"RadicalAnswers", "addFactor", "(IIII)V"⟩, 7) := ⟨⟨by decide +kernel, by decide +kernel⟩, List.mem_of_getElem? (i := 13) (by decide +kernel), List.mem_of_getElem? (i := 258) (by decide +kernel), List.mem_of_getElem? (i := 259) (by decide +kernel)⟩
theorem lw_p9 : lw_okq (⟨"RadicalAnswers$Factor", "become", "(IIII)V"⟩, 6) := ⟨⟨by decide +kernel, by decide +kernel⟩, List.mem_of_getElem? (i := 22) (by decide +kernel), List.mem_of_getElem? (i := 262) (by decide +kernel), List.mem_of_getElem? (i := 263) (by decide +kernel)⟩
theorem lw_p10 : lw_okq (⟨"RadicalAnswers$Factor", "standsBefore", "(LRadicalAnswers$Factor;)Z"⟩, 6) := ⟨⟨by decide +kernel, by decide +kernel⟩, List.mem_of_getElem? (i := 22) (by decide +kernel), List.mem_of_getElem? (i := 269) (by decide +kernel), List.mem_of_getElem? (i := 270) (by decide +kernel)⟩
theorem lw_p11 : lw_okq (⟨"RadicalAnswers$Factor", "isLinear", "()Z"⟩, 6) := ⟨⟨by decide +kernel, by decide +kernel⟩, List.mem_of_getElem? (i := 22) (by decide +kernel), List.mem_of_getElem? (i := 273) (by decide +kernel), List.mem_of_getElem? (i := 274) (by decide +kernel)⟩
theorem lw_p12 : lw_okq (⟨"RadicalAnswers$Factor", "middle", "()I"⟩, 6) := ⟨⟨by decide +kernel, by decide +kernel⟩, List.mem_of_getElem? (i := 22) (by decide +kernel), List.mem_of_getElem? (i := 277) (by decide +kernel), List.mem_of_getElem? (i := 278) (by decide +kernel)⟩
theorem lw_p13 : lw_okq (⟨"RadicalAnswers$Factor", "below", "()I"⟩, 6) := ⟨⟨by decide +kernel, by decide +kernel⟩, List.mem_of_getElem? (i := 22) (by decide +kernel), List.mem_of_getElem? (i := 281) (by decide +kernel), List.mem_of_getElem? (i := 282) (by decide +kernel)⟩
theorem lw_p14 : lw_okq (⟨"RadicalAnswers", "takeOutQuadraticFactors", "()V"⟩, 7) := ⟨⟨by decide +kernel, by decide +kernel⟩, List.mem_of_getElem? (i := 13) (by decide +kernel), List.mem_of_getElem? (i := 285) (by decide +kernel), List.mem_of_getElem? (i := 286) (by decide +kernel)⟩
theorem lw_p15 : lw_okq (⟨"RadicalAnswers", "numbered", "(I)LRadicalAnswers$Factor;"⟩, 7) := ⟨⟨by decide +kernel, by decide +kernel⟩, List.mem_of_getElem? (i := 13) (by decide +kernel), List.mem_of_getElem? (i := 296) (by decide +kernel), List.mem_of_getElem? (i := 297) (by decide +kernel)⟩
def lw_privs_1 : List (MethodName × Nat) := [(⟨"java/lang/Throwable", "fillInStackTrace", "(I)Ljava/lang/Throwable;"⟩, 6), (⟨"RadicalAnswers", "draftChange", "(II)V"⟩, 7), (⟨"RadicalAnswers", "draftShift", "(I)V"⟩, 7), (⟨"RadicalAnswers", "split", "()V"⟩, 7), (⟨"RadicalAnswers", "takeOutContent", "(I)V"⟩, 7), (⟨"RadicalAnswers", "takeOutLinearFactors", "()V"⟩, 7), (⟨"RadicalAnswers", "takeOut", "(III)V"⟩, 7), (⟨"RadicalAnswers", "divideRest", "(III)Z"⟩, 7), (⟨"RadicalAnswers", "addFactor", "(IIII)V"⟩, 7), (⟨"RadicalAnswers$Factor", "become", "(IIII)V"⟩, 6), (⟨"RadicalAnswers$Factor", "standsBefore", "(LRadicalAnswers$Factor;)Z"⟩, 6), (⟨"RadicalAnswers$Factor", "isLinear", "()Z"⟩, 6), (⟨"RadicalAnswers$Factor", "middle", "()I"⟩, 6), (⟨"RadicalAnswers$Factor", "below", "()I"⟩, 6), (⟨"RadicalAnswers", "takeOutQuadraticFactors", "()V"⟩, 7), (⟨"RadicalAnswers", "numbered", "(I)LRadicalAnswers$Factor;"⟩, 7)]
theorem lw_r1 : ∀ q ∈ lw_privs_1, lw_okq q := List.forall_mem_cons.mpr ⟨lw_p0, List.forall_mem_cons.mpr ⟨lw_p1, List.forall_mem_cons.mpr ⟨lw_p2, List.forall_mem_cons.mpr ⟨lw_p3, List.forall_mem_cons.mpr ⟨lw_p4, List.forall_mem_cons.mpr ⟨lw_p5, List.forall_mem_cons.mpr ⟨lw_p6, List.forall_mem_cons.mpr ⟨lw_p7, List.forall_mem_cons.mpr ⟨lw_p8, List.forall_mem_cons.mpr ⟨lw_p9, List.forall_mem_cons.mpr ⟨lw_p10, List.forall_mem_cons.mpr ⟨lw_p11, List.forall_mem_cons.mpr ⟨lw_p12, List.forall_mem_cons.mpr ⟨lw_p13, List.forall_mem_cons.mpr ⟨lw_p14, List.forall_mem_cons.mpr ⟨lw_p15, fun _ h => absurd h List.not_mem_nil⟩⟩⟩⟩⟩⟩⟩⟩⟩⟩⟩⟩⟩⟩⟩⟩
theorem lw_p16 : lw_okq (⟨"RadicalAnswers$Factor", "isReal", "()Z"⟩, 6) := ⟨⟨by decide +kernel, by decide +kernel⟩, List.mem_of_getElem? (i := 22) (by decide +kernel), List.mem_of_getElem? (i := 334) (by decide +kernel), List.mem_of_getElem? (i := 335) (by decide +kernel)⟩
theorem lw_p17 : lw_okq (⟨"RadicalAnswers$Factor", "under", "()I"⟩, 6) := ⟨⟨by decide +kernel, by decide +kernel⟩, List.mem_of_getElem? (i := 22) (by decide +kernel), List.mem_of_getElem? (i := 349) (by decide +kernel), List.mem_of_getElem? (i := 350) (by decide +kernel)⟩
theorem lw_p18 : lw_okq (⟨"RadicalAnswersModel", "degree", "()I"⟩, 17) := ⟨⟨by decide +kernel, by decide +kernel⟩, List.mem_of_getElem? (i := 376) (by decide +kernel), List.mem_of_getElem? (i := 463) (by decide +kernel), List.mem_of_getElem? (i := 464) (by decide +kernel)⟩
theorem lw_p19 : lw_okq (⟨"RadicalAnswersModel", "isNone", "()Z"⟩, 17) := ⟨⟨by decide +kernel, by decide +kernel⟩, List.mem_of_getElem? (i := 376) (by decide +kernel), List.mem_of_getElem? (i := 471) (by decide +kernel), List.mem_of_getElem? (i := 472) (by decide +kernel)⟩
theorem lw_p20 : lw_okq (⟨"RadicalAnswersModel", "raise", "(I)I"⟩, 17) := ⟨⟨by decide +kernel, by decide +kernel⟩, List.mem_of_getElem? (i := 376) (by decide +kernel), List.mem_of_getElem? (i := 475) (by decide +kernel), List.mem_of_getElem? (i := 476) (by decide +kernel)⟩
theorem lw_p21 : lw_okq (⟨"RadicalAnswersModel", "find", "()V"⟩, 17) := ⟨⟨by decide +kernel, by decide +kernel⟩, List.mem_of_getElem? (i := 376) (by decide +kernel), List.mem_of_getElem? (i := 479) (by decide +kernel), List.mem_of_getElem? (i := 480) (by decide +kernel)⟩
theorem lw_p22 : lw_okq (⟨"RadicalAnswersModel", "take", "(III)V"⟩, 17) := ⟨⟨by decide +kernel, by decide +kernel⟩, List.mem_of_getElem? (i := 376) (by decide +kernel), List.mem_of_getElem? (i := 489) (by decide +kernel), List.mem_of_getElem? (i := 490) (by decide +kernel)⟩
theorem lw_p23 : lw_okq (⟨"RadicalAnswersModel", "divides", "(III)Z"⟩, 17) := ⟨⟨by decide +kernel, by decide +kernel⟩, List.mem_of_getElem? (i := 376) (by decide +kernel), List.mem_of_getElem? (i := 493) (by decide +kernel), List.mem_of_getElem? (i := 494) (by decide +kernel)⟩
theorem lw_p24 : lw_okq (⟨"RadicalAnswersModel", "restDegree", "()I"⟩, 17) := ⟨⟨by decide +kernel, by decide +kernel⟩, List.mem_of_getElem? (i := 376) (by decide +kernel), List.mem_of_getElem? (i := 497) (by decide +kernel), List.mem_of_getElem? (i := 498) (by decide +kernel)⟩
theorem lw_p25 : lw_okq (⟨"RadicalAnswersModel", "order", "()V"⟩, 17) := ⟨⟨by decide +kernel, by decide +kernel⟩, List.mem_of_getElem? (i := 376) (by decide +kernel), List.mem_of_getElem? (i := 501) (by decide +kernel), List.mem_of_getElem? (i := 502) (by decide +kernel)⟩
theorem lw_p26 : lw_okq (⟨"RadicalAnswersModel", "isFactor", "(I)Z"⟩, 17) := ⟨⟨by decide +kernel, by decide +kernel⟩, List.mem_of_getElem? (i := 376) (by decide +kernel), List.mem_of_getElem? (i := 509) (by decide +kernel), List.mem_of_getElem? (i := 510) (by decide +kernel)⟩
theorem lw_p27 : lw_okq (⟨"RadicalAnswersModel", "answerOf", "(I)V"⟩, 17) := ⟨⟨by decide +kernel, by decide +kernel⟩, List.mem_of_getElem? (i := 376) (by decide +kernel), List.mem_of_getElem? (i := 514) (by decide +kernel), List.mem_of_getElem? (i := 515) (by decide +kernel)⟩
theorem lw_p28 : lw_okq (⟨"RadicalAnswersModel", "lowest", "(JJ)V"⟩, 17) := ⟨⟨by decide +kernel, by decide +kernel⟩, List.mem_of_getElem? (i := 376) (by decide +kernel), List.mem_of_getElem? (i := 518) (by decide +kernel), List.mem_of_getElem? (i := 519) (by decide +kernel)⟩
theorem lw_p29 : lw_okq (⟨"RadicalAnswersModel", "isReal", "(I)Z"⟩, 17) := ⟨⟨by decide +kernel, by decide +kernel⟩, List.mem_of_getElem? (i := 376) (by decide +kernel), List.mem_of_getElem? (i := 538) (by decide +kernel), List.mem_of_getElem? (i := 539) (by decide +kernel)⟩
theorem lw_p30 : lw_okq (⟨"RadicalAnswersModel", "sign", "(IZJJ)I"⟩, 17) := ⟨⟨by decide +kernel, by decide +kernel⟩, List.mem_of_getElem? (i := 376) (by decide +kernel), List.mem_of_getElem? (i := 546) (by decide +kernel), List.mem_of_getElem? (i := 547) (by decide +kernel)⟩
theorem lw_p31 : lw_okq (⟨"RadicalAnswersModel", "leading", "(I)J"⟩, 17) := ⟨⟨by decide +kernel, by decide +kernel⟩, List.mem_of_getElem? (i := 376) (by decide +kernel), List.mem_of_getElem? (i := 554) (by decide +kernel), List.mem_of_getElem? (i := 555) (by decide +kernel)⟩
def lw_privs_2 : List (MethodName × Nat) := [(⟨"RadicalAnswers$Factor", "isReal", "()Z"⟩, 6), (⟨"RadicalAnswers$Factor", "under", "()I"⟩, 6), (⟨"RadicalAnswersModel", "degree", "()I"⟩, 17), (⟨"RadicalAnswersModel", "isNone", "()Z"⟩, 17), (⟨"RadicalAnswersModel", "raise", "(I)I"⟩, 17), (⟨"RadicalAnswersModel", "find", "()V"⟩, 17), (⟨"RadicalAnswersModel", "take", "(III)V"⟩, 17), (⟨"RadicalAnswersModel", "divides", "(III)Z"⟩, 17), (⟨"RadicalAnswersModel", "restDegree", "()I"⟩, 17), (⟨"RadicalAnswersModel", "order", "()V"⟩, 17), (⟨"RadicalAnswersModel", "isFactor", "(I)Z"⟩, 17), (⟨"RadicalAnswersModel", "answerOf", "(I)V"⟩, 17), (⟨"RadicalAnswersModel", "lowest", "(JJ)V"⟩, 17), (⟨"RadicalAnswersModel", "isReal", "(I)Z"⟩, 17), (⟨"RadicalAnswersModel", "sign", "(IZJJ)I"⟩, 17), (⟨"RadicalAnswersModel", "leading", "(I)J"⟩, 17)]
theorem lw_r2 : ∀ q ∈ lw_privs_2, lw_okq q := List.forall_mem_cons.mpr ⟨lw_p16, List.forall_mem_cons.mpr ⟨lw_p17, List.forall_mem_cons.mpr ⟨lw_p18, List.forall_mem_cons.mpr ⟨lw_p19, List.forall_mem_cons.mpr ⟨lw_p20, List.forall_mem_cons.mpr ⟨lw_p21, List.forall_mem_cons.mpr ⟨lw_p22, List.forall_mem_cons.mpr ⟨lw_p23, List.forall_mem_cons.mpr ⟨lw_p24, List.forall_mem_cons.mpr ⟨lw_p25, List.forall_mem_cons.mpr ⟨lw_p26, List.forall_mem_cons.mpr ⟨lw_p27, List.forall_mem_cons.mpr ⟨lw_p28, List.forall_mem_cons.mpr ⟨lw_p29, List.forall_mem_cons.mpr ⟨lw_p30, List.forall_mem_cons.mpr ⟨lw_p31, fun _ h => absurd h List.not_mem_nil⟩⟩⟩⟩⟩⟩⟩⟩⟩⟩⟩⟩⟩⟩⟩⟩
theorem lw_p32 : lw_okq (⟨"RadicalAnswersModel", "middle", "(I)J"⟩, 17) := ⟨⟨by decide +kernel, by decide +kernel⟩, List.mem_of_getElem? (i := 376) (by decide +kernel), List.mem_of_getElem? (i := 558) (by decide +kernel), List.mem_of_getElem? (i := 559) (by decide +kernel)⟩
theorem lw_p33 : lw_okq (⟨"RadicalAnswersModel", "under", "(I)J"⟩, 17) := ⟨⟨by decide +kernel, by decide +kernel⟩, List.mem_of_getElem? (i := 376) (by decide +kernel), List.mem_of_getElem? (i := 562) (by decide +kernel), List.mem_of_getElem? (i := 563) (by decide +kernel)⟩
def lw_privs_3 : List (MethodName × Nat) := [(⟨"RadicalAnswersModel", "middle", "(I)J"⟩, 17), (⟨"RadicalAnswersModel", "under", "(I)J"⟩, 17)]
theorem lw_r3 : ∀ q ∈ lw_privs_3, lw_okq q := List.forall_mem_cons.mpr ⟨lw_p32, List.forall_mem_cons.mpr ⟨lw_p33, fun _ h => absurd h List.not_mem_nil⟩⟩
def lw_privs : List (MethodName × Nat) := lw_privs_1 ++ (lw_privs_2 ++ (lw_privs_3))
def lw_tbl : List Cond := k2_sels lw_privs ++ tables_1
theorem lw_privs_ok : ∀ q ∈ lw_privs, lw_okq q := by
  show ∀ q ∈ lw_privs_1 ++ (lw_privs_2 ++ (lw_privs_3)), lw_okq q
  exact List.forall_mem_append.mpr ⟨lw_r1, List.forall_mem_append.mpr ⟨lw_r2, lw_r3⟩⟩
end
section
/-! ===== BEGIN words of one list among another's, by their places ===== -/
theorem goodIn_r {big : List Cond} (ws : List Cond) (ps : List Nat) (hp : ws = ps.filterMap (fun i => big[i]?)) (h : ws.all goodWord = true) : GoodIn big ws := by
  intro w hw
  have h1 := List.all_eq_true.mp h w hw
  rw [hp] at hw
  obtain ⟨i, -, hi⟩ := List.mem_filterMap.mp hw
  have hm : w ∈ big := by first | exact List.mem_of_getElem? hi | exact List.getElem?_mem hi
  exact ⟨hm, good_of_word h1⟩
theorem goodIn_app {big a b : List Cond} (ha : GoodIn big a) (hb : GoodIn big b) : GoodIn big (a ++ b) := fun w h => (List.mem_append.mp h).elim (ha w) (hb w)
theorem goodIn_ca {big a b : List Cond} {c : Cond} (ha : GoodIn big (c :: a)) (hb : GoodIn big b) : GoodIn big (c :: (a ++ b)) := fun w h => (List.mem_cons.mp h).elim (fun e => ha w (List.mem_cons.mpr (Or.inl e))) (fun h => (List.mem_append.mp h).elim (fun h => ha w (List.mem_cons.mpr (Or.inr h))) (hb w))
theorem goodIn_sub {big ws : List Cond} (hm : ∀ w ∈ ws, w ∈ big) (h : ws.all goodWord = true) : GoodIn big ws := fun w hw => ⟨hm w hw, good_of_word (List.all_eq_true.mp h w hw)⟩
/-! ===== END ===== -/

/-! ===== BEGIN exceptions that leave a method, and their catching by the caller (launches without stack traces) ===== -/
section VXA
/-! The laws vx_back, vx_callV, vx_callS, vx_callSW, vx_throw0, vx_throwS follow proofs of the library, with one case more: JvmDerived/Free/Laws.lean (Back.of_free), Shelf42/LK1.lean (callV, callS), Shelf/KitTraced.lean (throwNew0V, throwNewS). -/
/-- where a method has thrown q: the class by its name, the cell, what was written, the world -/
def vx_T (XC : String → State → State → Prop) (st : State) (q : Addr) (t : State) (mc ms : Nat) (free : Addr → Prop) : Prop :=
  ∃ (E : String) (ce : Cell) (L : List Loc), XC E st t ∧ t.heap[q]? = some ce ∧ ce.vm = .none ∧ st.vm.findClass E = some ce.cls ∧ st.WarmedH t.vm ∧ st.sameButNew ({ t with vm := st.vm } : State) L mc ms ∧ ∀ z ∈ L, free z.base
def vx_Q (Qc : Array Value → State → Outcome → State → Prop) (XC : String → State → State → Prop) (mc ms : Nat) (free : Addr → Prop) : Array Value → State → Outcome → State → Prop := fun a st o t =>
  (Qc a st o t ∧ ∃ L, FrameEnd st o t L mc ms ∧ ∀ q ∈ L, free q.base) ∨ ∃ q, o = .threw q ∧ vx_T XC st q t mc ms free
/-- a callee that returns or throws -/
def vx_Met (l : Launch) (y : MethodName) (ws : List Cond) (rm : Room) (Pc : Array Value → State → Prop) (Qc : Array Value → State → Outcome → State → Prop) (XC : String → State → State → Prop) (mc ms : Nat) (free : Addr → Prop) : Prop :=
  MetFree l y (headSpec ws rm) Pc (fun _ _ _ _ _ => True) (vx_Q Qc XC mc ms free)
def vx_Post (XC : String → State → State → Prop) (mc ms : Nat) (free : Addr → Prop) : Pt → Array Value → Addr → Pt → Prop := fun A a q B =>
  ∃ (g : JFrame) (mk : MethodId) (t : State) (L : List Loc) (E : String) (ce : Cell), B.U.heap = t.heap ∧ B.U.vm = t.vm ∧ XC E (A.U.calling g mk a) t ∧ t.heap[q]? = some ce ∧ ce.vm = .none ∧ A.U.vm.findClass E = some ce.cls ∧ B.locs = A.locs ++ L ∧ (∀ z ∈ L, free z.base) ∧ B.cells = A.cells + mc ∧ B.slots = A.slots + ms
def vx_Back (l : Launch) (R : Room) (p : Program) (e : Env) (below : List Frame) (s : State) (sargs : Array Value) (y : MethodName) (len W9 : Nat)
    (Pre : Pt → Array Value → Prop) (Post : Pt → Array Value → Option Value → Pt → Prop) (PostX : Pt → Array Value → Addr → Pt → Prop) : Prop :=
  ∀ (m : MethodId) (meth : Method) (c : Code) (A : Pt) (g : JFrame) (ig : Instr) (mk : MethodId) (a : Array Value),
    Stand p l e R s m sargs below meth c A.U A.locs A.cells A.slots → g.method = m → g.locals.size = c.maxLocals → decode c.code g.pc = .ok (ig, len) →
    2 * g.monitorRoom + (g.stack.map fun v => v.category).sum ≤ W9 → A.U.methodNamed? y = some mk → Pre A a →
    (∃ (v : Option Value) (B : Pt), Stand p l e R s m sargs below meth c B.U B.locs B.cells B.slots ∧ Post A a v B ∧
      Steps p.tables e below (doInvoke e (A.U.setTop g) [] mk a).1 (B.U.setTop { g with pc := g.pc + len, stack := v.toList ++ g.stack })) ∨
    (∃ (q : Addr) (B : Pt), Stand p l e R s m sargs below meth c B.U B.locs B.cells B.slots ∧ PostX A a q B ∧
      Steps p.tables e below (doInvoke e (A.U.setTop g) [] mk a).1 ((B.U.setTop g).pushFrame (.throwing q)))
section Payer
variable {l : Launch} {R : Room} {p : Program} {e : Env} {below : List Frame} {s : State} {sargs : Array Value} {y : MethodName} {len W9 : Nat}
theorem vx_back {ws : List Cond} {rm : Room} {Pc : Array Value → State → Prop} {Qc : Array Value → State → Outcome → State → Prop} {XC : String → State → State → Prop} {mc ms : Nat} {free : Addr → Prop} {bytes : ByteArray} {maxL : Nat} {ret : Option FieldType}
    (hM : vx_Met l y ws rm Pc Qc XC mc ms free) (hblind : FrameBlind Pc) (hrc : rm.cells = mc) (hrs : rm.slots = ms)
    (hframes : rm.frames + 1 ≤ R.frames) (hlocals : W9 + (maxL + 11) + rm.locals ≤ R.locals)
    (hws : ∀ w ∈ ws, ∀ a' U, s.WarmedH U.vm → w.before a' U = true) (hcode : Cond.code y bytes maxL ret ∈ ws) (hinit : ∀ a' U, s.WarmedH U.vm → (Cond.initialized y.cls).before a' U = true) :
    vx_Back l R p e below s sargs y len W9 (PreOf R mc ms Pc) (PostOf Qc mc ms free) (vx_Post XC mc ms free) := by
  intro m meth c A g ig mk a X hg hsize hdg hW hn hp
  have h1 : (headSpec ws rm).pre.before a A.U = true := atoms_intro fun w hw => hws w hw _ _ X.warmed
  have h2 : (Cond.code y bytes maxL ret).before a A.U = true := hws _ hcode _ _ X.warmed
  have h3 : (Cond.initialized y.cls).before a A.U = true := hinit _ _ X.warmed
  have h4 : A.cells + (headSpec ws rm).room.cells ≤ R.cells := by rw [show (headSpec ws rm).room.cells = mc from hrc]; exact hp.1
  have h5 : A.slots + (headSpec ws rm).room.slots ≤ R.slots := by rw [show (headSpec ws rm).room.slots = ms from hrs]; exact hp.2.1
  have hPc : Pc a (A.U.calling g mk a) := hblind _ _ _ _ hp.2.2
  obtain ⟨U, Ls, c0, s0⟩ := A
  dsimp only [Pt.U, Pt.locs, Pt.cells, Pt.slots] at h1 h2 h3 h4 h5 X hn hPc ⊢
  obtain ⟨methY, cY, hmY, hcY, -, hlY, -, -, -, -⟩ := Cond.code_spec hn h2
  obtain ⟨kY, hkY, -⟩ := className_of_methodNamed hn
  have hinitY : kY.init = .initialized := Cond.initialized_spec (findClass_of_methodNamed hn) hkY h3
  have h : At U g.method c below := by rw [hg]; exact X.here
  have hlocals9 : W9 + (maxL + 11) + (headSpec ws rm).room.locals ≤ R.locals := hlocals
  have happ : (headSpec ws rm).appliesLoose y e.platform (U.calling g mk a) = true :=
    Spec.appliesLoose_calling (g := g) h hdg hn hkY hinitY
      (X.room_calling (g := g) (R' := (headSpec ws rm).room) hsize hmY hcY hframes (by rw [hlY]; omega) h4 h5) h1
  obtain ⟨mid, hmid⟩ := h.above
  have hfr : (U.setTop g).frames = (.java g :: mid) ++ below := by rw [State.frames_setTop' g h.top, hmid]; rfl
  obtain ⟨o, s₂, hsteps, -, hend, hq⟩ := Steps.callFree hM p X.admits X.cas X.clock (acts := []) hfr happ hPc trivial
  have hq' : vx_Q Qc XC mc ms free a (U.calling g mk a) o s₂ := hq
  rw [State.frames_setTop' g h.top] at hend
  obtain ⟨g₀, hg0⟩ := Option.isSome_iff_exists.mp h.top
  obtain ⟨r, hr⟩ := State.topJava?_eq_some.mp hg0
  have hr' : (({ U with heap := s₂.heap, slotsUsed := s₂.slotsUsed } : State).setVm s₂.vm).frames = .java g₀ :: r := hr
  rcases hq' with ⟨hqc, L, hfe, hL⟩ | ⟨q, rfl, E, ce, L, hx, hce, hcv, hcl, hW₂, hsm, hL⟩
  · obtain ⟨⟨v, rfl⟩, hW₂, e2, q2, q3, q4, q5, q6⟩ := id hfe
    have e3 : s₂ = ({ (U.calling g mk a).setFrames s₂.frames with heap := s₂.heap, slotsUsed := s₂.slotsUsed } : State).setVm s₂.vm := by
      have : s₂ = ({ s₂ with vm := (U.calling g mk a).vm } : State).setVm s₂.vm := rfl
      rw [e2] at this
      exact this
    obtain ⟨c₂, i₂, len₂, hc₂, hd₂, hf₂⟩ := hend
    have hW' : U.WarmedH s₂.vm := hW₂
    have hcc : c₂ = c := by
      have h1 : s₂.code? g.method = U.code? g.method := by
        rw [State.code?_eq, State.code?_eq, hW'.alike.method?]
      exact Option.some.inj (hc₂.symm.trans (h1.trans h.code))
    subst hcc
    have hlen : len₂ = len := by rw [hdg] at hd₂; cases hd₂; rfl
    subst hlen
    have hs₂ : s₂ = (({ U with heap := s₂.heap, slotsUsed := s₂.slotsUsed } : State).setVm s₂.vm).setTop { g with pc := g.pc + len₂, stack := v.toList ++ g.stack } := by
      refine e3.trans ?_
      rw [hf₂, State.calling_eq h.top, State.setFrames_setFrames, State.setTop_of_frames _ hr', hr]
      rfl
    have hsame : U.sameButNew ({ U with heap := s₂.heap, slotsUsed := s₂.slotsUsed } : State) L mc ms := by
      refine ⟨?_, q2, q3, q4, q5, q6⟩
      obtain ⟨t, ht, -⟩ := State.frames_cons hr
      show ({ U with heap := s₂.heap, slotsUsed := s₂.slotsUsed } : State) = { U.setFrames U.frames with heap := s₂.heap, slotsUsed := s₂.slotsUsed }
      rw [State.setFrames_self ht]
    subst hg
    refine Or.inl ⟨v, ⟨(({ U with heap := s₂.heap, slotsUsed := s₂.slotsUsed } : State).setVm s₂.vm), Ls ++ L, c0 + mc, s0 + ms⟩,
      ⟨X.admits, X.cas, X.clock, X.frames, X.room, X.hears, X.method, X.code, (X.here.setHeapUsed s₂.heap s₂.slotsUsed).setVm hW'.alike, X.tail, State.WarmedH.trans X.warmed hW', X.limits, X.bytes, X.same.trans (hsame.setVm s.vm)⟩,
      ⟨g, mk, s₂, L, rfl, rfl, hqc, rfl, hL, rfl, rfl⟩, ?_⟩
    show Steps p.tables e below _ ((({ U with heap := s₂.heap, slotsUsed := s₂.slotsUsed } : State).setVm s₂.vm).setTop { g with pc := g.pc + len₂, stack := v.toList ++ g.stack })
    rw [← hs₂]
    exact hsteps
  · obtain ⟨e2, q2, q3, q4, q5, q6⟩ := id hsm
    have e3 : s₂ = ({ (U.calling g mk a).setFrames s₂.frames with heap := s₂.heap, slotsUsed := s₂.slotsUsed } : State).setVm s₂.vm := by
      have : s₂ = ({ s₂ with vm := (U.calling g mk a).vm } : State).setVm s₂.vm := rfl
      rw [e2] at this
      exact this
    have hf₂ : s₂.frames = .throwing q :: .java g :: U.frames.tail := hend
    have hW' : U.WarmedH s₂.vm := hW₂
    have hs₂ : s₂ = ((({ U with heap := s₂.heap, slotsUsed := s₂.slotsUsed } : State).setVm s₂.vm).setTop g).pushFrame (.throwing q) := by
      refine e3.trans ?_
      rw [hf₂, State.calling_eq h.top, State.setFrames_setFrames, State.pushFrame, State.frames_setTop _ hr', State.setTop_of_frames _ hr', State.setFrames_setFrames, hr]
      rfl
    have hsame : U.sameButNew ({ U with heap := s₂.heap, slotsUsed := s₂.slotsUsed } : State) L mc ms := by
      refine ⟨?_, q2, q3, q4, q5, q6⟩
      obtain ⟨t, ht, -⟩ := State.frames_cons hr
      show ({ U with heap := s₂.heap, slotsUsed := s₂.slotsUsed } : State) = { U.setFrames U.frames with heap := s₂.heap, slotsUsed := s₂.slotsUsed }
      rw [State.setFrames_self ht]
    subst hg
    refine Or.inr ⟨q, ⟨(({ U with heap := s₂.heap, slotsUsed := s₂.slotsUsed } : State).setVm s₂.vm), Ls ++ L, c0 + mc, s0 + ms⟩,
      ⟨X.admits, X.cas, X.clock, X.frames, X.room, X.hears, X.method, X.code, (X.here.setHeapUsed s₂.heap s₂.slotsUsed).setVm hW'.alike, X.tail, State.WarmedH.trans X.warmed hW', X.limits, X.bytes, X.same.trans (hsame.setVm s.vm)⟩,
      ⟨g, mk, s₂, L, E, ce, rfl, rfl, hx, hce, hcv, hcl, rfl, hL, rfl, rfl⟩, ?_⟩
    show Steps p.tables e below _ (((({ U with heap := s₂.heap, slotsUsed := s₂.slotsUsed } : State).setVm s₂.vm).setTop g).pushFrame (.throwing q))
    rw [← hs₂]
    exact hsteps
end Payer
section Calls
variable {p : Program} {l : Launch} {e : Env} {R : Room} {s : State} {m : MethodId} {args : Array Value} {below : List Frame} {meth : Method} {c : Code} {T : State} {locs : List Loc} {cells slots : Nat}
theorem vx_callV (X : Stand p l e R s m args below meth c T locs cells slots) (hexec : p.tables.exec = Jvm.exec) {own C : String} {index : Nat} {y : MethodName} {bytes : ByteArray} {maxL : Nat} {ret : Option FieldType}
    (hown : s.vm.findClass own = some m.cls) (hlink : (Cond.methodLink own index y).before args s = true) (hinst : (Cond.instanceMethod y).before args s = true) (hsel : (Cond.selects C y y).before args s = true)
    (hcode : (Cond.code y bytes maxL ret).before args s = true) (hy : y.cls ≠ "java/lang/invoke/MethodHandle" ∧ y.cls ≠ "java/lang/invoke/VarHandle")
    {W9 : Nat} {Pre : Pt → Array Value → Prop} {Post : Pt → Array Value → Option Value → Pt → Prop} {PostX : Pt → Array Value → Addr → Pt → Prop} (hK : vx_Back l R p e below s args y 3 W9 Pre Post PostX)
    {b : Addr} {cellB : Cell} (hcell : T.heap[b]? = some cellB) (hobj : cellB.vm.isStatics = false) (hcls : s.vm.findClass C = some cellB.cls)
    {g : JFrame} (hg : g.method = m) (hsize : g.locals.size = c.maxLocals) {argsL rest : List Value} (hlen : ∀ sig, parseMethodDescriptor y.desc = some sig → argsL.length = sig.parameters.length)
    (hstack : g.stack = argsL.reverse ++ .ref b :: rest) (hW : 2 * g.monitorRoom + (rest.map fun v => v.category).sum ≤ W9) (hdg : decode c.code g.pc = .ok (.invokevirtual index, 3))
    (hpre : ∀ vm₁, s.WarmedH vm₁ → Pre ⟨T.setVm vm₁, locs, cells, slots⟩ (Value.ref b :: argsL).toArray) :
    (∃ (v : Option Value) (vm₁ : Vm) (B : Pt), s.WarmedH vm₁ ∧ Stand p l e R s m args below meth c B.U B.locs B.cells B.slots ∧ Post ⟨T.setVm vm₁, locs, cells, slots⟩ (Value.ref b :: argsL).toArray v B ∧
      ∀ target, Steps p.tables e below (B.U.setTop { g with pc := g.pc + 3, stack := v.toList ++ rest }) target → Steps p.tables e below (T.setTop g) target) ∨
    (∃ (q : Addr) (vm₁ : Vm) (B : Pt), s.WarmedH vm₁ ∧ Stand p l e R s m args below meth c B.U B.locs B.cells B.slots ∧ PostX ⟨T.setVm vm₁, locs, cells, slots⟩ (Value.ref b :: argsL).toArray q B ∧
      Steps p.tables e below (T.setTop g) ((B.U.setTop { g with stack := rest }).pushFrame (.throwing q))) := by
  obtain ⟨mk, methM, hnamed, hmethM, hstM, habM⟩ := Cond.instanceMethod_spec hinst
  obtain ⟨methM', cM, hmethM', -, -, -, -, -, -, hsigM⟩ := Cond.code_spec hnamed hcode
  cases hmethM.symm.trans hmethM'
  obtain ⟨c2, r2, m2, q1, q2, q3, q4, kP, hkP, hkPi⟩ := Cond.selects_spec hsel
  cases hcls.symm.trans q1
  cases (State.methodFound?_of_named hnamed hy).symm.trans q2
  cases hnamed.symm.trans q3
  have hselP : selectMethod e.platform s.vm cellB.cls mk = .method mk := by rw [Launch.admits_selectMethod X.admits]; exact q4
  obtain ⟨vm₁, X₁, hstep₁⟩ := X.invokevirtual hexec hown hlink hnamed hmethM hstM hkP hkPi hy (a := b) (cell := cellB) hcell
    (fun z h => by rw [h] at hobj; cases hobj) hselP hmethM habM hkP hkPi (g := g) hg (argsL := argsL) (rest := rest) (hlen _ hsigM) hstack hdg
  rcases hK m meth c ⟨T.setVm vm₁, locs, cells, slots⟩ { g with stack := rest } (.invokevirtual index) mk (Value.ref b :: argsL).toArray X₁ hg hsize hdg hW (X₁.named hnamed) (hpre vm₁ X₁.warmed) with ⟨v, B, X', hpost, hsteps⟩ | ⟨q, B, X', hpost, hsteps⟩
  · exact Or.inl ⟨v, vm₁, B, X₁.warmed, X', hpost, fun target h => hstep₁ _ fun acts => by rw [doInvoke_state]; exact hsteps.trans h⟩
  · exact Or.inr ⟨q, vm₁, B, X₁.warmed, X', hpost, hstep₁ _ fun acts => by rw [doInvoke_state]; exact hsteps⟩
theorem vx_callS (X : Stand p l e R s m args below meth c T locs cells slots) (hexec : p.tables.exec = Jvm.exec) {own : String} {index : Nat} {y : MethodName} {bytes : ByteArray} {maxL : Nat} {ret : Option FieldType}
    (hown : s.vm.findClass own = some m.cls) (hlink : (Cond.methodLink own index y).before args s = true) (hstat : (Cond.static y).before args s = true) (hinit : (Cond.initialized y.cls).before args s = true)
    (hcode : (Cond.code y bytes maxL ret).before args s = true) (hy : y.cls ≠ "java/lang/invoke/MethodHandle" ∧ y.cls ≠ "java/lang/invoke/VarHandle")
    {W9 : Nat} {Pre : Pt → Array Value → Prop} {Post : Pt → Array Value → Option Value → Pt → Prop} {PostX : Pt → Array Value → Addr → Pt → Prop} (hK : vx_Back l R p e below s args y 3 W9 Pre Post PostX)
    {g : JFrame} (hg : g.method = m) (hsize : g.locals.size = c.maxLocals) {argsL rest : List Value} (hlen : ∀ sig, parseMethodDescriptor y.desc = some sig → argsL.length = sig.parameters.length)
    (hstack : g.stack = argsL.reverse ++ rest) (hW : 2 * g.monitorRoom + (rest.map fun v => v.category).sum ≤ W9) (hdg : decode c.code g.pc = .ok (.invokestatic index, 3))
    (hpre : ∀ vm₁, s.WarmedH vm₁ → Pre ⟨T.setVm vm₁, locs, cells, slots⟩ argsL.toArray) :
    (∃ (v : Option Value) (vm₁ : Vm) (B : Pt), s.WarmedH vm₁ ∧ Stand p l e R s m args below meth c B.U B.locs B.cells B.slots ∧ Post ⟨T.setVm vm₁, locs, cells, slots⟩ argsL.toArray v B ∧
      ∀ target, Steps p.tables e below (B.U.setTop { g with pc := g.pc + 3, stack := v.toList ++ rest }) target → Steps p.tables e below (T.setTop g) target) ∨
    (∃ (q : Addr) (vm₁ : Vm) (B : Pt), s.WarmedH vm₁ ∧ Stand p l e R s m args below meth c B.U B.locs B.cells B.slots ∧ PostX ⟨T.setVm vm₁, locs, cells, slots⟩ argsL.toArray q B ∧
      Steps p.tables e below (T.setTop g) ((B.U.setTop { g with stack := rest }).pushFrame (.throwing q))) := by
  obtain ⟨mk, hnamed⟩ := Cond.code_named hcode
  obtain ⟨methM, cM, hmethM, -, -, -, -, -, -, hsigM⟩ := Cond.code_spec hnamed hcode
  have hstatic : methM.isStatic = true := Cond.static_spec hnamed hmethM hstat
  obtain ⟨kP, hkP, -⟩ := className_of_methodNamed hnamed
  have hinitP : kP.init = .initialized := Cond.initialized_spec (findClass_of_methodNamed hnamed) hkP hinit
  obtain ⟨vm₁, X₁, hstep₁⟩ := X.invokestatic hexec hown hlink hnamed hmethM hstatic hkP hinitP hy (g := g) hg (argsL := argsL) (rest := rest) (hlen _ hsigM) hstack hdg
  rcases hK m meth c ⟨T.setVm vm₁, locs, cells, slots⟩ { g with stack := rest } (.invokestatic index) mk argsL.toArray X₁ hg hsize hdg hW (X₁.named hnamed) (hpre vm₁ X₁.warmed) with ⟨v, B, X', hpost, hsteps⟩ | ⟨q, B, X', hpost, hsteps⟩
  · exact Or.inl ⟨v, vm₁, B, X₁.warmed, X', hpost, fun target h => hstep₁ _ fun acts => by rw [doInvoke_state]; exact hsteps.trans h⟩
  · exact Or.inr ⟨q, vm₁, B, X₁.warmed, X', hpost, hstep₁ _ fun acts => by rw [doInvoke_state]; exact hsteps⟩
end Calls
theorem vx_cls {s : State} {T : State} {vm₁ : Vm} {E : String} {k : ClassId} (hW : s.WarmedH vm₁) (h : (T.setVm vm₁).vm.findClass E = some k) : s.vm.findClass E = some k := by
  have h1 : vm₁.findClass E = some k := h
  rw [hW.alike.findClass] at h1
  exact h1
/-- the method's frame g, with q thrown over it -/
def vx_W (p : Program) (l : Launch) (e : Env) (R : Room) (s : State) (m : MethodId) (args : Array Value) (below : List Frame) (meth : Method) (c : Code) (H : Heap) (locs : List Loc) (cells slots : Nat) (Q : State → Prop) (g : JFrame) (q : Addr) : Prop :=
  ∀ T : State, T.heap = H → Stand p l e R s m args below meth c T locs cells slots → ∃ t, Steps p.tables e below ((T.setTop g).pushFrame (.throwing q)) t ∧ Q t
def vx_Run (p : Program) (l : Launch) (e : Env) (R : Room) (s : State) (m : MethodId) (args : Array Value) (below : List Frame) (meth : Method) (c : Code) (H : Heap) (locs : List Loc) (cells slots mc ms : Nat) (g : JFrame) (rest : List Value) (Qa : State → Outcome → State → Prop) (XC : String → State → State → Prop) (free : Addr → Prop) : Prop :=
  ∀ T : State, T.heap = H → Stand p l e R s m args below meth c T locs cells slots →
    (∃ (v : Option Value) (st₀ t T' : State) (L : List Loc), st₀.heap = H ∧ Stand p l e R s m args below meth c T' (locs ++ L) (cells + mc) (slots + ms) ∧ (∀ q ∈ L, free q.base) ∧ T'.heap = t.heap ∧ T'.vm = t.vm ∧ Qa st₀ (.returned v) t ∧
      Goes p e below T g T' { g with pc := g.pc + 3, stack := v.toList ++ rest }) ∨
    (∃ (q : Addr) (st₀ t T' : State) (L : List Loc) (E : String) (ce : Cell), st₀.heap = H ∧ Stand p l e R s m args below meth c T' (locs ++ L) (cells + mc) (slots + ms) ∧ (∀ z ∈ L, free z.base) ∧ T'.heap = t.heap ∧ T'.vm = t.vm ∧ XC E st₀ t ∧ t.heap[q]? = some ce ∧ ce.vm = .none ∧ s.vm.findClass E = some ce.cls ∧
      Steps p.tables e below (T.setTop g) ((T'.setTop { g with stack := rest }).pushFrame (.throwing q)))
def vx_X {S : Type} (px : S → Prop) (B : String → S → State → Prop) (A : Nat → Prop) : String → State → State → Prop := fun E st t => ∃ u : S, px u ∧ B E u t ∧ va_F A st t
section Runs
variable {p : Program} {l : Launch} {e : Env} {R : Room} {s : State} {m : MethodId} {args : Array Value} {below : List Frame} {meth : Method} {c : Code} {H : Heap} {locs : List Loc} {cells slots : Nat}
variable {y : MethodName} {bytes cc : ByteArray} {maxL nL mc ms n index : Nat} {ret : Option FieldType} {ws : List Cond} {rm : Room} {Pc : Array Value → State → Prop} {Qc : Array Value → State → Outcome → State → Prop} {XC : String → State → State → Prop} {free : Addr → Prop} {Ts : List Cond} {own C : String} {b : Addr} {As rest : List Value} {g : JFrame}
theorem vx_callBack (cb : CallB R s args own index y bytes maxL ret ws rm mc ms n) (hM : vx_Met l y ws rm Pc Qc XC mc ms free) (hbl : FrameBlind Pc) : vx_Back l R p e below s args y 3 8 (PreOf R mc ms Pc) (PostOf Qc mc ms free) (vx_Post XC mc ms free) := by
  obtain ⟨hrc, hrs, hfr, hlo, hws, hcw, -, hini, -⟩ := cb
  exact vx_back (bytes := bytes) (maxL := maxL) (ret := ret) hM hbl hrc hrs hfr hlo hws hcw (fun a' U hW => word_at hW (Or.inl (by first | rfl | simp [Cond.onTables, Cond.keeps, Cond.steady])) hini)
theorem vx_runV (S : CallFix p m c cc nL s args Ts own) (hM : vx_Met l y ws rm Pc Qc XC mc ms free) (cw : CallW R s args own C index y bytes maxL ret ws rm mc ms n) (hp : PreV s H C b Pc As)
    (hg : g.method = m) (hn : As.length = n) (hsize : g.locals.size = nL) (hstack : g.stack = As.reverse ++ .ref b :: rest) (hW : 2 * g.monitorRoom + (rest.map fun v => v.category).sum ≤ 8) (hdg : decode cc g.pc = .ok (.invokevirtual index, 3)) (hf : cells + mc ≤ R.cells ∧ slots + ms ≤ R.slots) :
    vx_Run p l e R s m args below meth c H locs cells slots mc ms g rest (Qc (Value.ref b :: As).toArray) XC free := by
  have hK : vx_Back l R p e below s args y 3 8 (PreOf R mc ms Pc) (PostOf Qc mc ms free) (vx_Post XC mc ms free) := vx_callBack cw.1 hM hp.1
  obtain ⟨⟨-, -, -, -, -, -, hcode, -, hy, hlen, hl⟩, hin, hse⟩ := cw
  obtain ⟨hx, hb, hml, ho, -⟩ := S
  obtain ⟨-, ⟨cellB, hcB, hoB, hclB⟩, hPc⟩ := hp
  intro T hT X
  rcases vx_callV X hx (C := C) (bytes := bytes) (maxL := maxL) (ret := ret) ho hl hin hse hcode hy hK (by rw [hT]; exact hcB) hoB hclB hg (hsize.trans hml.symm) (argsL := As) (rest := rest) (fun sig h => hn.trans (hlen sig h)) hstack hW (by rw [hb]; exact hdg)
    (fun vm₁ hW₁ => ⟨hf.1, hf.2, hPc (T.setVm vm₁) hT hW₁⟩) with ⟨v, vm₁, ⟨U', l2, c2, s2⟩, hW₁, X', ⟨g', mk, t, L, e1, e2, hq, h1, hL, h2, h3⟩, st⟩ | ⟨q, vm₁, ⟨U', l2, c2, s2⟩, hW₁, X', ⟨g', mk, t, L, E, ce, e1, e2, hq, hce, hcv, hcl, h1, hL, h2, h3⟩, st⟩
  · dsimp only [Pt.U, Pt.locs, Pt.cells, Pt.slots] at X' e1 e2 h1 h2 h3 st
    subst h1; subst h2; subst h3
    exact Or.inl ⟨v, (T.setVm vm₁).calling g' mk (Value.ref b :: As).toArray, t, U', L, hT, X', hL, e1, e2, hq, st⟩
  · dsimp only [Pt.U, Pt.locs, Pt.cells, Pt.slots] at X' e1 e2 h1 h2 h3 st hcl
    subst h1; subst h2; subst h3
    exact Or.inr ⟨q, (T.setVm vm₁).calling g' mk (Value.ref b :: As).toArray, t, U', L, E, ce, hT, X', hL, e1, e2, hq, hce, hcv, vx_cls hW₁ hcl, st⟩
theorem vx_runS (S : CallFix p m c cc nL s args Ts own) (hM : vx_Met l y ws rm Pc Qc XC mc ms free) (cw : CallB R s args own index y bytes maxL ret ws rm mc ms n ∧ (Cond.static y).before args s = true) (hp : PreS s H Pc As)
    (hg : g.method = m) (hn : As.length = n) (hsize : g.locals.size = nL) (hstack : g.stack = As.reverse ++ rest) (hW : 2 * g.monitorRoom + (rest.map fun v => v.category).sum ≤ 8) (hdg : decode cc g.pc = .ok (.invokestatic index, 3)) (hf : cells + mc ≤ R.cells ∧ slots + ms ≤ R.slots) :
    vx_Run p l e R s m args below meth c H locs cells slots mc ms g rest (Qc As.toArray) XC free := by
  have hK : vx_Back l R p e below s args y 3 8 (PreOf R mc ms Pc) (PostOf Qc mc ms free) (vx_Post XC mc ms free) := vx_callBack cw.1 hM hp.1
  obtain ⟨⟨-, -, -, -, -, -, hcode, hini, hy, hlen, hl⟩, hstt⟩ := cw
  obtain ⟨hx, hb, hml, ho, -⟩ := S
  intro T hT X
  rcases vx_callS X hx (bytes := bytes) (maxL := maxL) (ret := ret) ho hl hstt hini hcode hy hK hg (hsize.trans hml.symm) (argsL := As) (rest := rest) (fun sig h => hn.trans (hlen sig h)) hstack hW (by rw [hb]; exact hdg)
    (fun vm₁ hW₁ => ⟨hf.1, hf.2, hp.2 (T.setVm vm₁) hT hW₁⟩) with ⟨v, vm₁, ⟨U', l2, c2, s2⟩, hW₁, X', ⟨g', mk, t, L, e1, e2, hq, h1, hL, h2, h3⟩, st⟩ | ⟨q, vm₁, ⟨U', l2, c2, s2⟩, hW₁, X', ⟨g', mk, t, L, E, ce, e1, e2, hq, hce, hcv, hcl, h1, hL, h2, h3⟩, st⟩
  · dsimp only [Pt.U, Pt.locs, Pt.cells, Pt.slots] at X' e1 e2 h1 h2 h3 st
    subst h1; subst h2; subst h3
    exact Or.inl ⟨v, (T.setVm vm₁).calling g' mk As.toArray, t, U', L, hT, X', hL, e1, e2, hq, st⟩
  · dsimp only [Pt.U, Pt.locs, Pt.cells, Pt.slots] at X' e1 e2 h1 h2 h3 st hcl
    subst h1; subst h2; subst h3
    exact Or.inr ⟨q, (T.setVm vm₁).calling g' mk As.toArray, t, U', L, E, ce, hT, X', hL, e1, e2, hq, hce, hcv, vx_cls hW₁ hcl, st⟩
end Runs
section Rows
variable {p : Program} {l : Launch} {e : Env} {R : Room} {s : State} {m : MethodId} {args : Array Value} {below : List Frame} {meth : Method} {c : Code} {H : Heap} {locs : List Loc} {cells slots : Nat} {Q : State → Prop}
variable {mc ms : Nat} {free : Addr → Prop} {A0 A1 : Nat → Prop} {H0 : Heap} {a : Array Value} {pc : Nat} {ls : Array Slot} {st0 rest : List Value}
theorem vx_keep {st₀ t T' : State} {L : List Loc} (h0 : st₀.heap = H) (e1 : T'.heap = t.heap) (hS : va_S A0 H0 H locs) (hA : ∀ q, q < H.size → A1 q → A0 q) (hf : ∀ q, free q → A0 q) (hL : ∀ q ∈ L, free q.base) (hF : va_F A1 st₀ t) :
    H.size ≤ T'.heap.size ∧ (∀ q : Nat, q < H.size → ¬ A1 q → T'.heap[q]? = H[q]?) ∧ va_S A0 H0 T'.heap (locs ++ L) := by
  obtain ⟨hz, hk⟩ := hF
  rw [h0] at hz hk
  exact ⟨by rw [e1]; exact hz, fun q h1 h2 => by rw [e1]; exact hk q h1 h2,
    ⟨Nat.le_trans hS.1 (by rw [e1]; exact hz), fun q h1 h2 => by rw [e1, hk q (Nat.lt_of_lt_of_le h1 hS.1) (fun z => h2 (hA q (Nat.lt_of_lt_of_le h1 hS.1) z))]; exact hS.2.1 q h1 h2, fun q hq => by
      rcases List.mem_append.mp hq with h | h
      · exact hS.2.2 q h
      · exact hf _ (hL q h)⟩⟩
theorem vx_calli {S SX : Type} {post : Int32 → S → Prop} {px : SX → Prop} {B : S → State → Prop} {BX : String → SX → State → Prop} {AX : Nat → Prop} (hr : vx_Run p l e R s m args below meth c H locs cells slots mc ms (F0 m pc ls st0) rest (va_Qi post B A1 a) (vx_X px BX AX) free) (hS : va_S A0 H0 H locs) (hA : ∀ q, q < H.size → A1 q → A0 q) (hf : ∀ q, free q → A0 q) (hAX : ∀ q, q < H.size → AX q → A0 q)
    (kx : ∀ (E : String) (ce : Cell) (q9 : Addr) (u : SX) (t : State) (H1 : Heap) (locs1 : List Loc), t.heap = H1 → s.vm.Alike t.vm → px u → BX E u t → H.size ≤ H1.size → (∀ q : Nat, q < H.size → ¬ AX q → H1[q]? = H[q]?) → va_S A0 H0 H1 locs1 → H1[q9]? = some ce → ce.vm = .none → s.vm.findClass E = some ce.cls → vx_W p l e R s m args below meth c H1 locs1 (cells + mc) (slots + ms) Q (F0 m pc ls rest) q9)
    (kk : ∀ (r : Int32) (u : S) (t : State) (H1 : Heap) (locs1 : List Loc), t.heap = H1 → s.vm.Alike t.vm → post r u → B u t → H.size ≤ H1.size → (∀ q : Nat, q < H.size → ¬ A1 q → H1[q]? = H[q]?) → va_S A0 H0 H1 locs1 → W p l e R s m args below meth c H1 locs1 (cells + mc) (slots + ms) Q (F0 m (pc + 3) ls (.int r :: rest))) : W p l e R s m args below meth c H locs cells slots Q (F0 m pc ls st0) := by
  intro T hT X
  rcases hr T hT X with ⟨v, st₀, t, T', L, h0, X', hL, e1, e2, ⟨⟨r, u, hv, hp, hb⟩, hF⟩, st⟩ | ⟨q, st₀, t, T', L, E, ce, h0, X', hL, e1, e2, ⟨u, hp, hb, hF⟩, hce, hcv, hcl, st⟩
  · cases hv
    obtain ⟨k1, k2, k3⟩ := vx_keep h0 e1 hS hA hf hL hF
    obtain ⟨t2, a1, b1⟩ := kk r u t T'.heap (locs ++ L) e1.symm (by rw [← e2]; exact X'.warmed.alike) hp hb k1 k2 k3 T' rfl X'
    exact ⟨t2, st t2 a1, b1⟩
  · obtain ⟨k1, k2, k3⟩ := vx_keep h0 e1 hS hAX hf hL hF
    obtain ⟨t2, a1, b1⟩ := kx E ce q u t T'.heap (locs ++ L) e1.symm (by rw [← e2]; exact X'.warmed.alike) hp hb k1 k2 k3 (by rw [e1]; exact hce) hcv hcl T' rfl X'
    exact ⟨t2, st.trans a1, b1⟩
theorem vx_calll {S SX : Type} {post : Int64 → S → Prop} {px : SX → Prop} {B : S → State → Prop} {BX : String → SX → State → Prop} {AX : Nat → Prop} (hr : vx_Run p l e R s m args below meth c H locs cells slots mc ms (F0 m pc ls st0) rest (va_Ql post B A1 a) (vx_X px BX AX) free) (hS : va_S A0 H0 H locs) (hA : ∀ q, q < H.size → A1 q → A0 q) (hf : ∀ q, free q → A0 q) (hAX : ∀ q, q < H.size → AX q → A0 q)
    (kx : ∀ (E : String) (ce : Cell) (q9 : Addr) (u : SX) (t : State) (H1 : Heap) (locs1 : List Loc), t.heap = H1 → s.vm.Alike t.vm → px u → BX E u t → H.size ≤ H1.size → (∀ q : Nat, q < H.size → ¬ AX q → H1[q]? = H[q]?) → va_S A0 H0 H1 locs1 → H1[q9]? = some ce → ce.vm = .none → s.vm.findClass E = some ce.cls → vx_W p l e R s m args below meth c H1 locs1 (cells + mc) (slots + ms) Q (F0 m pc ls rest) q9)
    (kk : ∀ (r : Int64) (u : S) (t : State) (H1 : Heap) (locs1 : List Loc), t.heap = H1 → s.vm.Alike t.vm → post r u → B u t → H.size ≤ H1.size → (∀ q : Nat, q < H.size → ¬ A1 q → H1[q]? = H[q]?) → va_S A0 H0 H1 locs1 → W p l e R s m args below meth c H1 locs1 (cells + mc) (slots + ms) Q (F0 m (pc + 3) ls (.long r :: rest))) : W p l e R s m args below meth c H locs cells slots Q (F0 m pc ls st0) := by
  intro T hT X
  rcases hr T hT X with ⟨v, st₀, t, T', L, h0, X', hL, e1, e2, ⟨⟨r, u, hv, hp, hb⟩, hF⟩, st⟩ | ⟨q, st₀, t, T', L, E, ce, h0, X', hL, e1, e2, ⟨u, hp, hb, hF⟩, hce, hcv, hcl, st⟩
  · cases hv
    obtain ⟨k1, k2, k3⟩ := vx_keep h0 e1 hS hA hf hL hF
    obtain ⟨t2, a1, b1⟩ := kk r u t T'.heap (locs ++ L) e1.symm (by rw [← e2]; exact X'.warmed.alike) hp hb k1 k2 k3 T' rfl X'
    exact ⟨t2, st t2 a1, b1⟩
  · obtain ⟨k1, k2, k3⟩ := vx_keep h0 e1 hS hAX hf hL hF
    obtain ⟨t2, a1, b1⟩ := kx E ce q u t T'.heap (locs ++ L) e1.symm (by rw [← e2]; exact X'.warmed.alike) hp hb k1 k2 k3 (by rw [e1]; exact hce) hcv hcl T' rfl X'
    exact ⟨t2, st.trans a1, b1⟩
theorem vx_callf {S SX : Type} {post : UInt32 → S → Prop} {px : SX → Prop} {B : S → State → Prop} {BX : String → SX → State → Prop} {AX : Nat → Prop} (hr : vx_Run p l e R s m args below meth c H locs cells slots mc ms (F0 m pc ls st0) rest (va_Qf post B A1 a) (vx_X px BX AX) free) (hS : va_S A0 H0 H locs) (hA : ∀ q, q < H.size → A1 q → A0 q) (hf : ∀ q, free q → A0 q) (hAX : ∀ q, q < H.size → AX q → A0 q)
    (kx : ∀ (E : String) (ce : Cell) (q9 : Addr) (u : SX) (t : State) (H1 : Heap) (locs1 : List Loc), t.heap = H1 → s.vm.Alike t.vm → px u → BX E u t → H.size ≤ H1.size → (∀ q : Nat, q < H.size → ¬ AX q → H1[q]? = H[q]?) → va_S A0 H0 H1 locs1 → H1[q9]? = some ce → ce.vm = .none → s.vm.findClass E = some ce.cls → vx_W p l e R s m args below meth c H1 locs1 (cells + mc) (slots + ms) Q (F0 m pc ls rest) q9)
    (kk : ∀ (r : UInt32) (u : S) (t : State) (H1 : Heap) (locs1 : List Loc), t.heap = H1 → s.vm.Alike t.vm → post r u → B u t → H.size ≤ H1.size → (∀ q : Nat, q < H.size → ¬ A1 q → H1[q]? = H[q]?) → va_S A0 H0 H1 locs1 → W p l e R s m args below meth c H1 locs1 (cells + mc) (slots + ms) Q (F0 m (pc + 3) ls (.float r :: rest))) : W p l e R s m args below meth c H locs cells slots Q (F0 m pc ls st0) := by
  intro T hT X
  rcases hr T hT X with ⟨v, st₀, t, T', L, h0, X', hL, e1, e2, ⟨⟨r, u, hv, hp, hb⟩, hF⟩, st⟩ | ⟨q, st₀, t, T', L, E, ce, h0, X', hL, e1, e2, ⟨u, hp, hb, hF⟩, hce, hcv, hcl, st⟩
  · cases hv
    obtain ⟨k1, k2, k3⟩ := vx_keep h0 e1 hS hA hf hL hF
    obtain ⟨t2, a1, b1⟩ := kk r u t T'.heap (locs ++ L) e1.symm (by rw [← e2]; exact X'.warmed.alike) hp hb k1 k2 k3 T' rfl X'
    exact ⟨t2, st t2 a1, b1⟩
  · obtain ⟨k1, k2, k3⟩ := vx_keep h0 e1 hS hAX hf hL hF
    obtain ⟨t2, a1, b1⟩ := kx E ce q u t T'.heap (locs ++ L) e1.symm (by rw [← e2]; exact X'.warmed.alike) hp hb k1 k2 k3 (by rw [e1]; exact hce) hcv hcl T' rfl X'
    exact ⟨t2, st.trans a1, b1⟩
theorem vx_calld {S SX : Type} {post : UInt64 → S → Prop} {px : SX → Prop} {B : S → State → Prop} {BX : String → SX → State → Prop} {AX : Nat → Prop} (hr : vx_Run p l e R s m args below meth c H locs cells slots mc ms (F0 m pc ls st0) rest (va_Qd post B A1 a) (vx_X px BX AX) free) (hS : va_S A0 H0 H locs) (hA : ∀ q, q < H.size → A1 q → A0 q) (hf : ∀ q, free q → A0 q) (hAX : ∀ q, q < H.size → AX q → A0 q)
    (kx : ∀ (E : String) (ce : Cell) (q9 : Addr) (u : SX) (t : State) (H1 : Heap) (locs1 : List Loc), t.heap = H1 → s.vm.Alike t.vm → px u → BX E u t → H.size ≤ H1.size → (∀ q : Nat, q < H.size → ¬ AX q → H1[q]? = H[q]?) → va_S A0 H0 H1 locs1 → H1[q9]? = some ce → ce.vm = .none → s.vm.findClass E = some ce.cls → vx_W p l e R s m args below meth c H1 locs1 (cells + mc) (slots + ms) Q (F0 m pc ls rest) q9)
    (kk : ∀ (r : UInt64) (u : S) (t : State) (H1 : Heap) (locs1 : List Loc), t.heap = H1 → s.vm.Alike t.vm → post r u → B u t → H.size ≤ H1.size → (∀ q : Nat, q < H.size → ¬ A1 q → H1[q]? = H[q]?) → va_S A0 H0 H1 locs1 → W p l e R s m args below meth c H1 locs1 (cells + mc) (slots + ms) Q (F0 m (pc + 3) ls (.double r :: rest))) : W p l e R s m args below meth c H locs cells slots Q (F0 m pc ls st0) := by
  intro T hT X
  rcases hr T hT X with ⟨v, st₀, t, T', L, h0, X', hL, e1, e2, ⟨⟨r, u, hv, hp, hb⟩, hF⟩, st⟩ | ⟨q, st₀, t, T', L, E, ce, h0, X', hL, e1, e2, ⟨u, hp, hb, hF⟩, hce, hcv, hcl, st⟩
  · cases hv
    obtain ⟨k1, k2, k3⟩ := vx_keep h0 e1 hS hA hf hL hF
    obtain ⟨t2, a1, b1⟩ := kk r u t T'.heap (locs ++ L) e1.symm (by rw [← e2]; exact X'.warmed.alike) hp hb k1 k2 k3 T' rfl X'
    exact ⟨t2, st t2 a1, b1⟩
  · obtain ⟨k1, k2, k3⟩ := vx_keep h0 e1 hS hAX hf hL hF
    obtain ⟨t2, a1, b1⟩ := kx E ce q u t T'.heap (locs ++ L) e1.symm (by rw [← e2]; exact X'.warmed.alike) hp hb k1 k2 k3 (by rw [e1]; exact hce) hcv hcl T' rfl X'
    exact ⟨t2, st.trans a1, b1⟩
theorem vx_callv {S SX : Type} {post : S → Prop} {px : SX → Prop} {B : S → State → Prop} {BX : String → SX → State → Prop} {AX : Nat → Prop} (hr : vx_Run p l e R s m args below meth c H locs cells slots mc ms (F0 m pc ls st0) rest (va_Qv post B A1 a) (vx_X px BX AX) free) (hS : va_S A0 H0 H locs) (hA : ∀ q, q < H.size → A1 q → A0 q) (hf : ∀ q, free q → A0 q) (hAX : ∀ q, q < H.size → AX q → A0 q)
    (kx : ∀ (E : String) (ce : Cell) (q9 : Addr) (u : SX) (t : State) (H1 : Heap) (locs1 : List Loc), t.heap = H1 → s.vm.Alike t.vm → px u → BX E u t → H.size ≤ H1.size → (∀ q : Nat, q < H.size → ¬ AX q → H1[q]? = H[q]?) → va_S A0 H0 H1 locs1 → H1[q9]? = some ce → ce.vm = .none → s.vm.findClass E = some ce.cls → vx_W p l e R s m args below meth c H1 locs1 (cells + mc) (slots + ms) Q (F0 m pc ls rest) q9)
    (kk : ∀ (u : S) (t : State) (H1 : Heap) (locs1 : List Loc), t.heap = H1 → s.vm.Alike t.vm → post u → B u t → H.size ≤ H1.size → (∀ q : Nat, q < H.size → ¬ A1 q → H1[q]? = H[q]?) → va_S A0 H0 H1 locs1 → W p l e R s m args below meth c H1 locs1 (cells + mc) (slots + ms) Q (F0 m (pc + 3) ls (rest))) : W p l e R s m args below meth c H locs cells slots Q (F0 m pc ls st0) := by
  intro T hT X
  rcases hr T hT X with ⟨v, st₀, t, T', L, h0, X', hL, e1, e2, ⟨⟨u, hv, hp, hb⟩, hF⟩, st⟩ | ⟨q, st₀, t, T', L, E, ce, h0, X', hL, e1, e2, ⟨u, hp, hb, hF⟩, hce, hcv, hcl, st⟩
  · cases hv
    obtain ⟨k1, k2, k3⟩ := vx_keep h0 e1 hS hA hf hL hF
    obtain ⟨t2, a1, b1⟩ := kk u t T'.heap (locs ++ L) e1.symm (by rw [← e2]; exact X'.warmed.alike) hp hb k1 k2 k3 T' rfl X'
    exact ⟨t2, st t2 a1, b1⟩
  · obtain ⟨k1, k2, k3⟩ := vx_keep h0 e1 hS hAX hf hL hF
    obtain ⟨t2, a1, b1⟩ := kx E ce q u t T'.heap (locs ++ L) e1.symm (by rw [← e2]; exact X'.warmed.alike) hp hb k1 k2 k3 (by rw [e1]; exact hce) hcv hcl T' rfl X'
    exact ⟨t2, st.trans a1, b1⟩
/-- caught by the row x of this method's table; the rows ahead don't take it -/
theorem vx_catch {own name : String} {E : String} {ce : Cell} {q : Addr} (hown : s.vm.findClass own = some m.cls) (pre : List ExceptionTableEntry) (x : ExceptionTableEntry) (suf : List ExceptionTableEntry) (hsplit : c.exceptionTable.toList = pre ++ x :: suf)
    (hpass : ∀ z ∈ pre, covers z pc = false ∨ (z.catchType ≠ 0 ∧ ∃ nm : String, (Cond.classLink own z.catchType nm).before args s = true ∧ va_Nc E nm s)) (hx : covers x pc = true) (h0 : x.catchType ≠ 0)
    (hlink : (Cond.classLink own x.catchType name).before args s = true) (hcast : (Cond.castable E name).before args s = true) (hcell : H[q]? = some ce) (hv : ce.vm = .none) (hcl : s.vm.findClass E = some ce.cls)
    (kk : W p l e R s m args below meth c H locs cells slots Q (F0 m x.handlerPc ls [.ref q])) : vx_W p l e R s m args below meth c H locs cells slots Q (F0 m pc ls rest) q := by
  intro T hT X
  have hpl : e.platform.magicAccessors = ({} : Platform).magicAccessors := by rw [X.admits.platform]
  obtain ⟨c3, c4, hc3, hc4, hasg⟩ := Cond.castable_spec hcast
  cases Option.some.inj (hc3.symm.trans hcl)
  obtain ⟨c5, hc5, hcl5⟩ := Cond.classLink_spec hown hlink e.platform hpl
  cases Option.some.inj (hc4.symm.trans hc5)
  obtain ⟨vm', X', st⟩ := X.thenCaughtThrough q (g := F0 m pc ls rest) rfl (Steps.refl _) (by rw [hT]; exact hcell) (by rw [hv]; rfl) (by obtain ⟨k9, h9, -⟩ := Vm.findClass_spec hcl; exact ⟨k9, h9⟩) pre x suf hsplit
    (fun z hz => by
      rcases hpass z hz with h | ⟨hz0, nm, hl1, hn1⟩
      · exact Or.inl h
      · obtain ⟨c6, hc6, hcl6⟩ := Cond.classLink_spec hown hl1 e.platform hpl
        obtain ⟨a8, b8, h1, h2, h3⟩ := hn1
        cases Option.some.inj (h1.symm.trans hcl)
        cases Option.some.inj (h2.symm.trans hc6)
        exact Or.inr ⟨hz0, _, hcl6, h3⟩) hx (Or.inr ⟨h0, c4, hcl5, hasg⟩)
  obtain ⟨t, a1, b1⟩ := kk (T.setVm vm') hT X'
  exact ⟨t, st.trans a1, b1⟩
end Rows
section Ends
variable {p : Program} {l : Launch} {e : Env} {R : Room} {s : State} {m : MethodId} {args : Array Value} {below : List Frame} {meth : Method} {c : Code} {H : Heap} {locs : List Loc} {cells slots : Nat} {Q : State → Prop}
variable {mc ms : Nat} {free : Addr → Prop} {A0 A1 : Nat → Prop} {H0 : Heap} {a : Array Value} {ls : Array Slot} {st0 rest : List Value}
variable {Qc : Array Value → State → Outcome → State → Prop} {XC : String → State → State → Prop}
/-- what a body that may throw owes at its end -/
def vx_MQ (below : List Frame) (Qc : Array Value → State → Outcome → State → Prop) (XC : String → State → State → Prop) (a : Array Value) (s : State) (mc ms : Nat) (free : Addr → Prop) : State → Prop := fun t =>
  ∃ o, t.status = .running ∧ Ended t below o ∧ vx_Q Qc XC mc ms free a s o t
theorem vx_ret {g : JFrame} {mc ms : Nat} (k : W p l e R s m args below meth c H locs cells slots (MQ below Qc args s mc ms free) g) : W p l e R s m args below meth c H locs cells slots (vx_MQ below Qc XC args s mc ms free) g := by
  intro T hT X
  obtain ⟨t, a1, o, b1, b2, b3, b4⟩ := k T hT X
  exact ⟨t, a1, o, b1, b2, Or.inl ⟨b3, b4⟩⟩
/-- not caught here: it goes on to the caller -/
theorem vx_widen {g : JFrame} {q : Addr} {k n : Nat} (h1 : cells ≤ k) (h2 : slots ≤ n) (kk : vx_W p l e R s m args below meth c H locs k n Q g q) : vx_W p l e R s m args below meth c H locs cells slots Q g q := fun T hT X => kk T hT (stand_widen X h1 h2)
theorem vx_out {pc : Nat} {E : String} {ce : Cell} {q : Addr} {mc ms : Nat} (hout : ∀ x ∈ c.exceptionTable.toList, covers x pc = false) (hlocks : meth.locks = false) (hcell : H[q]? = some ce) (hv : ce.vm = .none) (hcl : s.vm.findClass E = some ce.cls)
    (hx : ∀ t : State, t.heap = H → s.vm.Alike t.vm → XC E s t) (hf : ∀ z ∈ locs, free z.base) (hc : cells ≤ mc) (hs : slots ≤ ms) :
    vx_W p l e R s m args below meth c H locs cells slots (vx_MQ below Qc XC args s mc ms free) (F0 m pc ls rest) q := by
  intro T hT X
  obtain ⟨st1, hrun, hend, hW, hsm⟩ := X.leaveThrown q (g := F0 m pc ls rest) rfl rfl rfl hout hlocks
  have hcell9 : (T.setFrames (.throwing q :: below)).heap[q]? = some ce := by
    show T.heap[q]? = some ce
    rw [hT]; exact hcell
  exact ⟨_, st1, .threw q, hrun, hend, Or.inr ⟨q, rfl, E, ce, locs, hx _ hT hW.alike, hcell9, hv, hcl, hW, hsm.mono hc hs, hf⟩⟩
theorem vx_frame {U : State} {k n : Nat} (h : s.sameButNew ({ U with vm := s.vm } : State) locs k n) : s.heap.size ≤ U.heap.size ∧ ∀ q : Nat, q < s.heap.size → (∀ z ∈ locs, z.base ≠ q) → U.heap[q]? = s.heap[q]? := by
  obtain ⟨-, h2, -, -, -, h6⟩ := h
  refine ⟨h2, fun q hq hz => ?_⟩
  obtain ⟨c9, e1, e2, e3, e4⟩ := h6 q _ (Array.getElem?_eq_getElem hq)
  have hs : c9.slots = (s.heap[q]).slots := Array.ext_getElem? fun i => e4 i fun hm => hz _ hm rfl
  have h9 : c9 = s.heap[q] := by
    rw [hs] at e2
    exact e2
  have e5 : U.heap[q]? = some c9 := e1
  rw [e5, h9, Array.getElem?_eq_getElem hq]
/-- the words of a throw but the four that speak of the heap -/
def vx_no (w : Cond) : Bool := decide (w ≠ .isRef (.static Bundle.tN "UNASSIGNED_STACK" Bundle.steD)) && decide (w ≠ .isRef (.static Bundle.tN "SUPPRESSED_SENTINEL" Bundle.listD)) && decide (w ≠ .laysStatic Bundle.tN "UNASSIGNED_STACK" Bundle.steD) && decide (w ≠ .laysStatic Bundle.tN "SUPPRESSED_SENTINEL" Bundle.listD)
def vx_at0 (own : String) (ic : Nat) (X : String) (names : List String) : List Cond := (Bundle.ownAtoms0 own ic X names).filter vx_no
def vx_atS (own : String) (ic : Nat) (X : String) (names : List String) : List Cond := (Bundle.ownAtoms own ic X names).filter vx_no
/-- a word that the tables alone decide, or a good one -/
def vx_ot (w : Cond) : Bool := w.onTables || goodWord w
theorem vx_ot_at {args a' : Array Value} {s U : State} {w : Cond} (hW : s.WarmedH U.vm) (hvm : s.vm = U.vm) (hg : vx_ot w = true) (h : w.before args s = true) : w.before a' U = true := by
  simp only [vx_ot, Bool.or_eq_true] at hg
  rcases hg with hg | hg
  · exact va_tabs hg hvm h
  · exact word_at hW (good_of_word hg) h
/-- a list's words: the good ones out of the method's own list, the others by premises of their own -/
theorem vx_hat {args : Array Value} {s : State} {L B : List Cond} (h1 : ∀ w ∈ L.filter goodWord, w.before args s = true) (h2 : ∀ w ∈ L.filter (fun w => !goodWord w), w ∈ B) (h3 : ∀ w ∈ B, w.before args s = true) : ∀ w ∈ L, w.before args s = true := by
  intro w hw
  by_cases g : goodWord w = true
  · exact h1 w (List.mem_filter.mpr ⟨hw, g⟩)
  · refine h3 w (h2 w (List.mem_filter.mpr ⟨hw, ?_⟩))
    show (!goodWord w) = true
    cases hgw : goodWord w
    · rfl
    · exact absurd hgw g
theorem vx_c {args : Array Value} {s : State} {w : Cond} {B : List Cond} (h : w.before args s = true) (t : ∀ w ∈ B, w.before args s = true) : ∀ w' ∈ w :: B, w'.before args s = true := fun w' h' => (List.mem_cons.mp h').elim (fun e => by rw [e]; exact h) (t w')
theorem vx_n {args : Array Value} {s : State} : ∀ w ∈ ([] : List Cond), w.before args s = true := fun _ h => nomatch h
theorem vx_own {args : Array Value} {s : State} {L : List Cond} (h1 : ∀ w ∈ L.filter vx_no, w.before args s = true)
    (hU : (Cond.isRef (.static Bundle.tN "UNASSIGNED_STACK" Bundle.steD)).before args s = true) (hN : (Cond.isRef (.static Bundle.tN "SUPPRESSED_SENTINEL" Bundle.listD)).before args s = true)
    (lU : (Cond.laysStatic Bundle.tN "UNASSIGNED_STACK" Bundle.steD).before args s = true) (lN : (Cond.laysStatic Bundle.tN "SUPPRESSED_SENTINEL" Bundle.listD).before args s = true) : ∀ w ∈ L, w.before args s = true := by
  intro w hw
  by_cases e1 : w = .isRef (.static Bundle.tN "UNASSIGNED_STACK" Bundle.steD)
  · rw [e1]; exact hU
  · by_cases e2 : w = .isRef (.static Bundle.tN "SUPPRESSED_SENTINEL" Bundle.listD)
    · rw [e2]; exact hN
    · by_cases e3 : w = .laysStatic Bundle.tN "UNASSIGNED_STACK" Bundle.steD
      · rw [e3]; exact lU
      · by_cases e4 : w = .laysStatic Bundle.tN "SUPPRESSED_SENTINEL" Bundle.listD
        · rw [e4]; exact lN
        · exact h1 w (List.mem_filter.mpr ⟨hw, by unfold vx_no; rw [decide_eq_true e1, decide_eq_true e2, decide_eq_true e3, decide_eq_true e4]; rfl⟩)
/-- where a static field lies, its class's statics cell in H -/
def vx_L (C n d : String) (A : Nat → Prop) (U : State) (H : Heap) : Prop := ∃ (c : ClassId) (k : Class) (i : Nat) (f : Field) (a : Nat) (cell : Cell), U.vm.findClass C = some c ∧ U.fieldFound? C n d = some (c, k, i, f) ∧ f.isStatic = true ∧ k.statics = some a ∧ H[a]? = some cell ∧ cell.vm.isStatics = true ∧ cell.cls = c ∧ f.slot < cell.slots.size ∧ k.staticTypes[f.slot]? = some f.type ∧ ¬ A a
theorem vx_L.moved {C n d : String} {A : Nat → Prop} {u U : State} {H : Heap} (hvm : u.vm.Alike U.vm) (h : vx_L C n d A u H) : vx_L C n d A U H := by
  obtain ⟨c, k, i, f, a, cell, h1, h2, h3, h4, h5, h6, h7, h8, h9, h10⟩ := h
  obtain ⟨k', hi', he⟩ := State.fieldFound?_setVm hvm h2
  exact ⟨c, k', i, f, a, cell, by rw [hvm.findClass]; exact h1, hi', h3, by rw [he]; exact h4, h5, h6, h7, h8, by rw [he]; exact h9, h10⟩
theorem vx_L.kept {C n d : String} {A : Nat → Prop} {U : State} {H H1 : Heap} (h : vx_L C n d A U H) (hq : ∀ a : Nat, a < H.size → ¬ A a → H1[a]? = H[a]?) : vx_L C n d A U H1 := by
  obtain ⟨c, k, i, f, a, cell, h1, h2, h3, h4, h5, h6, h7, h8, h9, h10⟩ := h
  exact ⟨c, k, i, f, a, cell, h1, h2, h3, h4, by rw [hq a (Array.getElem?_eq_some_iff.mp h5).1 h10]; exact h5, h6, h7, h8, h9, h10⟩
theorem vx_L.narrow {C n d : String} {A B : Nat → Prop} {U : State} {H : Heap} (h : vx_L C n d A U H) (hAB : ∀ q, B q → A q) : vx_L C n d B U H := by
  obtain ⟨c, k, i, f, a, cell, h1, h2, h3, h4, h5, h6, h7, h8, h9, h10⟩ := h
  exact ⟨c, k, i, f, a, cell, h1, h2, h3, h4, h5, h6, h7, h8, h9, fun z => h10 (hAB _ z)⟩
theorem vx_L.word {C n d : String} {A : Nat → Prop} {s : State} {args : Array Value} (h : vx_L C n d A s s.heap) : (Cond.laysStatic C n d).before args s = true := by
  obtain ⟨c, k, i, f, a, cell, h1, h2, h3, h4, h5, h6, h7, h8, h9, -⟩ := h
  show (Cond.laysStatic C n d).holds args s none s [] = true
  exact Cond.laysStatic_of h1 h2 h3 h4 h5 h6 h7 h8 h9
/-- .. and what it holds: null or some reference -/
def vx_Zq (C n d : String) (A : Nat → Prop) (U : State) (H : Heap) : Prop := va_Zq C n d A U H ∧ vx_L C n d A U H
theorem vx_Zq.moved {C n d : String} {A : Nat → Prop} {u U : State} {H : Heap} (hvm : u.vm.Alike U.vm) (h : vx_Zq C n d A u H) : vx_Zq C n d A U H := ⟨va_Zq.moved hvm h.1, vx_L.moved hvm h.2⟩
theorem vx_Zq.kept {C n d : String} {A : Nat → Prop} {U : State} {H H1 : Heap} (h : vx_Zq C n d A U H) (hq : ∀ a : Nat, a < H.size → ¬ A a → H1[a]? = H[a]?) : vx_Zq C n d A U H1 := ⟨va_Zq.kept h.1 hq, vx_L.kept h.2 hq⟩
theorem vx_Zq.narrow {C n d : String} {A B : Nat → Prop} {U : State} {H : Heap} (h : vx_Zq C n d A U H) (hAB : ∀ q, B q → A q) : vx_Zq C n d B U H := ⟨va_Zq.narrow h.1 hAB, vx_L.narrow h.2 hAB⟩
theorem vx_Zqof {args : Array Value} {s : State} {C n d : String} {A : Nat → Prop} (hl : (Cond.laysStatic C n d).before args s = true) (hini : (Cond.initialized C).before args s = true) (h : (Cond.isRef (.static C n d)).before args s = true) (hA : ∀ a : Nat, a < s.heap.size → ¬ A a) : vx_Zq C n d A s s.heap := by
  refine ⟨va_Zqof hl hini h hA, ?_⟩
  obtain ⟨c, k, i, f, a, cell, h1, h2, h3, h4, h5, h6, h7, h8, h9⟩ := Cond.laysStatic_spec hl
  exact ⟨c, k, i, f, a, cell, h1, h2, h3, h4, h5, h6, h7, h8, h9, hA a (Array.getElem?_eq_some_iff.mp h5).1⟩
theorem vx_isRef {C n d : String} {v : Value} {A : Nat → Prop} {s : State} {args : Array Value} (h : va_Z C n d v A s s.heap) (hv : v.isRef = true) : (Cond.isRef (.static C n d)).before args s = true := by
  obtain ⟨cf, kf, fi, f, a, cell, h1, h2, h3, h4, h5, h6, h7, -⟩ := h
  have he : (Term.static C n d).eval args s none [] s = some v := by
    simp [Term.eval, State.fieldNamed?, h1, h2, h4, h5, h6, h7]
  simp only [Cond.before, Cond.holds, Cond.value, he]
  cases v <;> simp_all [Value.isRef]
theorem vx_isRefq {C n d : String} {A : Nat → Prop} {s : State} {args : Array Value} (h : va_Zq C n d A s s.heap) : (Cond.isRef (.static C n d)).before args s = true := by
  rcases h with h | ⟨t, h⟩
  · exact vx_isRef h rfl
  · exact vx_isRef h rfl
/-- the same frame, seen from here: as if the method were called anew in this heap -/
theorem vx_rebase {T : State} (X : Stand p l e R s m args below meth c T locs cells slots) {R' : Room} (hf : R'.frames ≤ R.frames) (hl : R'.locals ≤ R.locals) (hc : cells + R'.cells ≤ R.cells) (hs : slots + R'.slots ≤ R.slots) :
    Stand p l e R' ((T.setVm s.vm).setFrames (.invoking m args :: below)) m args below meth c T [] 0 0 := by
  have htop : (T.setVm s.vm).topJava?.isSome := X.here.top
  have hF : ((T.setVm s.vm).setFrames (.invoking m args :: below)).frames = .invoking m args :: below := State.frames_setFrames _ (State.cur_lt_of_top htop)
  obtain ⟨g₀, hg0⟩ := Option.isSome_iff_exists.mp htop
  obtain ⟨r, hr⟩ := State.topJava?_eq_some.mp hg0
  have hl9 : e.platform.stackLimits (T.setVm s.vm).me = e.platform.stackLimits s.me := X.limits
  have hb9 : (T.setVm s.vm).me.stackBytes = s.me.stackBytes := X.bytes
  refine ⟨X.admits, X.cas, X.clock, hF, ?_, X.hears, X.method, X.code, X.here, X.tail, X.warmed, ?_, ?_, ?_⟩
  · have h := X.room
    have hU : ((T.setVm s.vm).setFrames (.invoking m args :: below)).localsInUse = s.localsInUse := by
      rw [State.localsInUse_invoking hF (meth := meth) (c := c) X.method X.code, State.localsInUse_invoking X.frames X.method X.code]
    simp only [State.hasRoom, Bool.and_eq_true, decide_eq_true_eq] at h ⊢
    obtain ⟨⟨⟨⟨h1, h2, h3, h4, h5, h6⟩, h7⟩, h8⟩, h9⟩ := h
    rw [X.frames, List.length_cons] at h2 h3
    have q1 := X.heapSize
    have q2 := X.used
    simp only [hF, hU, List.length_cons, State.stackLimits_setFrames, State.stackBytes_setFrames, hl9, hb9]
    refine ⟨⟨⟨⟨by omega, by omega, by omega, by omega, by omega, h6⟩, ?_⟩, ?_⟩, X.book⟩
    · show T.heap.size + R'.cells ≤ e.platform.maxCells
      omega
    · show T.slotsUsed + R'.slots ≤ e.platform.maxSlots
      omega
  · rw [State.stackLimits_setFrames]; rfl
  · rw [State.stackBytes_setFrames]; rfl
  · refine ⟨?_, Nat.le_refl _, Nat.le_refl _, ?_, ?_, fun a c9 h9 => ⟨c9, h9, rfl, rfl, fun _ _ => rfl⟩⟩
    · obtain ⟨t, ht, -⟩ := State.frames_cons hr
      show T.setVm s.vm = { ((T.setVm s.vm).setFrames (.invoking m args :: below)).setFrames (T.setVm s.vm).frames with heap := T.heap, slotsUsed := T.slotsUsed }
      rw [State.setFrames_setFrames, State.setFrames_self ht]
      rfl
    · show T.slotsUsed = T.slotsUsed + ((T.heap.toList.drop T.heap.size).map (·.slots.size)).sum
      rw [List.drop_eq_nil_of_le (Nat.le_of_eq Array.length_toList)]
      rfl
    · show ((T.heap.toList.drop T.heap.size).map (·.slots.size)).sum ≤ 0
      rw [List.drop_eq_nil_of_le (Nat.le_of_eq Array.length_toList)]
      exact Nat.le_refl _
/-- 'throw new E()': new; dup; invokespecial; athrow -/
theorem vx_throw0 {cc : ByteArray} {pc : Nat} (hexec : p.tables.exec = Jvm.exec) (hb : c.code = cc) (hl : l.stackTraces = false) {own cls : String} {names : List String} {ik ic mc ms : Nat} {A : Nat → Prop}
    (hown : s.vm.findClass own = some m.cls) (hcls : Bundle.fit cls = true) (hnames : ∀ n ∈ names, Bundle.fit n = true)
    (hk : (Cond.classLink own ik cls).before args s = true) (hini : (Cond.initialized cls).before args s = true) (hat : ∀ w ∈ vx_at0 own ic cls names, w.before args s = true)
    (hgood : ∀ w ∈ Cond.classLink own ik cls :: Cond.initialized cls :: vx_at0 own ic cls names, vx_ot w = true)
    (hU : vx_Zq Bundle.tN "UNASSIGNED_STACK" Bundle.steD A s s.heap) (hN : vx_Zq Bundle.tN "SUPPRESSED_SENTINEL" Bundle.listD A s s.heap) (hS : va_S A s.heap H locs) (hsize : ls.size = c.maxLocals)
    (d0 : decode cc pc = .ok (.new ik, 3)) (d3 : decode cc (pc + 3) = .ok (.dup, 1)) (d4 : decode cc (pc + 4) = .ok (.invokespecial ic, 3)) (d7 : decode cc (pc + 7) = .ok (.athrow, 1))
    (hout : ∀ x ∈ c.exceptionTable.toList, covers x (pc + 7) = false)
    (hRframes : names.length + 3 < R.frames) (hRlocals : (rest.map fun v => v.category).sum + (13 * (names.length + 1) + 42) ≤ R.locals) (hRcells : cells + 1 ≤ R.cells) (hRslots : slots + 6 ≤ R.slots) (hlocks : meth.locks = false)
    (hx : ∀ t : State, s.vm.Alike t.vm → H.size ≤ t.heap.size → (∀ q : Nat, q < H.size → t.heap[q]? = H[q]?) → XC cls s t)
    (hf : ∀ z ∈ locs, free z.base) (hc : cells + 1 ≤ mc) (hs : slots + 6 ≤ ms) :
    W p l e R s m args below meth c H locs cells slots (vx_MQ below Qc XC args s mc ms free) (F0 m pc ls rest) := by
  intro T hT X
  have htr : e.platform.stackTraces = false := (show e.platform.stackTraces = l.stackTraces by rw [X.admits.platform]).trans hl
  have Y := vx_rebase X (R' := { frames := R.frames, locals := R.locals, cells := 1, slots := 6 }) (Nat.le_refl _) (Nat.le_refl _) hRcells hRslots
  obtain ⟨s', hA⟩ : ∃ z, z = (T.setVm s.vm).setFrames (.invoking m args :: below) := ⟨_, rfl⟩
  rw [← hA] at Y
  have hvm : s'.vm = s.vm := by rw [hA]; rfl
  have hhp : s'.heap = H := by rw [hA]; exact hT
  have hW0 : s.WarmedH s'.vm := by rw [hvm]; exact State.WarmedH.refl s
  have hat' : ∀ w ∈ vx_at0 own ic cls names, w.before args s' = true := fun w hw => vx_ot_at hW0 hvm.symm (hgood w (List.mem_cons_of_mem _ (List.mem_cons_of_mem _ hw))) (hat w hw)
  have hk' : (Cond.classLink own ik cls).before args s' = true := vx_ot_at hW0 hvm.symm (hgood _ List.mem_cons_self) hk
  have hini' : (Cond.initialized cls).before args s' = true := vx_ot_at hW0 hvm.symm (hgood _ (List.mem_cons_of_mem _ List.mem_cons_self)) hini
  have hU' : vx_Zq Bundle.tN "UNASSIGNED_STACK" Bundle.steD A s' s'.heap := by rw [hhp]; exact vx_Zq.moved hW0.alike (hU.kept hS.2.1)
  have hN' : vx_Zq Bundle.tN "SUPPRESSED_SENTINEL" Bundle.listD A s' s'.heap := by rw [hhp]; exact vx_Zq.moved hW0.alike (hN.kept hS.2.1)
  have h : ∀ w ∈ Bundle.ownAtoms0 own ic cls names, w.before args s' = true := vx_own hat' (vx_isRefq hU'.1) (vx_isRefq hN'.1) hU'.2.word hN'.2.word
  have hown' : s'.vm.findClass own = some m.cls := by rw [hvm]; exact hown
  have hins : (Cond.instantiable cls 6).before args s' = true := h _ (by simp [Bundle.ownAtoms0])
  obtain ⟨vm₁, cX, kX, hfX, hkX, -, -, X₁, st1⟩ := Y.newCold hexec (own := own) (C := cls) (index := ik) (n := 6) hown' hk' hins hini'
    (g := F0 m pc ls rest) rfl (by rw [hb]; exact d0) (Nat.le_refl _) (Nat.le_refl _)
  generalize hT1 : (T.setVm vm₁).pushCell { cls := cX, slots := kX.instanceTypes.map defaultValue, vm := .none } = T1 at X₁ st1
  have hcat : (Value.ref T.heap.size).category = 1 := rfl
  have hcellA : T1.heap[T.heap.size]? = some (freshCell cX kX) := by rw [← hT1]; exact State.heap_pushCell_size _ _
  have d3' : decode c.code (pc + 3) = .ok (.dup, 1) := by rw [hb]; exact d3
  obtain ⟨U, hsteps, hrun, hend, hW, hsame, ce, hce, hO⟩ := X₁.ctorThrow0 hexec htr (own := own) (cls := cls) (names := names) (ic := ic) hown' hcls hnames h (fun x hx => nomatch hx) hfX hkX hcellA (by rw [hhp, hT]; exact Nat.le_refl _)
    (g := { method := m, pc := pc + 4, locals := ls, stack := .ref T.heap.size :: .ref T.heap.size :: rest, locked := none }) rfl hsize rfl rfl (rest := rest) rfl
    (by rw [hb]; exact d4) (by rw [hb]; exact d7) hout hRframes (by simp only [List.map_cons, List.sum_cons, hcat]; omega) hlocks
  obtain ⟨f1, f2⟩ := vx_frame hsame
  rw [hhp] at f1 f2
  have hWs : s.WarmedH U.vm := State.WarmedH.trans hW0 hW
  have hcl : s.vm.findClass cls = some ce.cls := by
    have h9 := hO.cls
    rw [hvm] at h9
    exact h9
  have hall : s.sameButNew ({ U with vm := s.vm } : State) locs mc ms := by
    subst hA
    obtain ⟨e1, e2⟩ := hsame
    rw [State.setFrames_setFrames] at e1
    have h2 : (T.setVm s.vm).sameButNew ({ U with vm := s.vm } : State) [] (0 + 1) (0 + 6) := ⟨e1, e2⟩
    have h3 := X.same.trans h2
    rw [List.append_nil] at h3
    exact h3.mono hc hs
  refine ⟨U, ?_, .threw T.heap.size, hrun, hend, Or.inr ⟨T.heap.size, rfl, cls, ce, locs, hx U hWs.alike f1 (fun q hq => f2 q hq (fun z hz => nomatch hz)), hce, hO.vm, hcl, hWs, hall, hf⟩⟩
  refine st1 _ ?_
  show Steps p.tables e below (T1.setTop { method := m, pc := pc + 3, locals := ls, stack := .ref T.heap.size :: rest, locked := none }) _
  jvm_step X₁.here [X₁.here.top, hexec, d3', Value.category]
  exact hsteps
/-- 'throw new E("text")': new; dup; ldc; invokespecial; athrow -/
theorem vx_throwS {cc : ByteArray} {pc : Nat} (hexec : p.tables.exec = Jvm.exec) (hb : c.code = cc) (hl : l.stackTraces = false) {own cls text : String} {names : List String} {ik is ic mc ms sa : Nat} {A : Nat → Prop}
    (hown : s.vm.findClass own = some m.cls) (hcls : Bundle.fit cls = true) (hnames : ∀ n ∈ names, Bundle.fit n = true)
    (hk : (Cond.classLink own ik cls).before args s = true) (hini : (Cond.initialized cls).before args s = true) (hstr : vk_R own is text sa s) (hat : ∀ w ∈ vx_atS own ic cls names, w.before args s = true)
    (hgood : ∀ w ∈ Cond.classLink own ik cls :: Cond.initialized cls :: vx_atS own ic cls names, vx_ot w = true)
    (hU : vx_Zq Bundle.tN "UNASSIGNED_STACK" Bundle.steD A s s.heap) (hN : vx_Zq Bundle.tN "SUPPRESSED_SENTINEL" Bundle.listD A s s.heap) (hS : va_S A s.heap H locs) (hsize : ls.size = c.maxLocals)
    (d0 : decode cc pc = .ok (.new ik, 3)) (d3 : decode cc (pc + 3) = .ok (.dup, 1)) (d4 : decode cc (pc + 4) = .ok (.ldc is, 2)) (d6 : decode cc (pc + 6) = .ok (.invokespecial ic, 3)) (d9 : decode cc (pc + 9) = .ok (.athrow, 1))
    (hout : ∀ x ∈ c.exceptionTable.toList, covers x (pc + 9) = false)
    (hRframes : names.length + 3 < R.frames) (hRlocals : (rest.map fun v => v.category).sum + (13 * (names.length + 1) + 43) ≤ R.locals) (hRcells : cells + 1 ≤ R.cells) (hRslots : slots + 6 ≤ R.slots) (hlocks : meth.locks = false)
    (hx : ∀ t : State, s.vm.Alike t.vm → H.size ≤ t.heap.size → (∀ q : Nat, q < H.size → t.heap[q]? = H[q]?) → XC cls s t)
    (hf : ∀ z ∈ locs, free z.base) (hc : cells + 1 ≤ mc) (hs : slots + 6 ≤ ms) :
    W p l e R s m args below meth c H locs cells slots (vx_MQ below Qc XC args s mc ms free) (F0 m pc ls rest) := by
  intro T hT X
  have htr : e.platform.stackTraces = false := (show e.platform.stackTraces = l.stackTraces by rw [X.admits.platform]).trans hl
  have Y := vx_rebase X (R' := { frames := R.frames, locals := R.locals, cells := 1, slots := 6 }) (Nat.le_refl _) (Nat.le_refl _) hRcells hRslots
  obtain ⟨s', hA⟩ : ∃ z, z = (T.setVm s.vm).setFrames (.invoking m args :: below) := ⟨_, rfl⟩
  rw [← hA] at Y
  have hvm : s'.vm = s.vm := by rw [hA]; rfl
  have hhp : s'.heap = H := by rw [hA]; exact hT
  have hW0 : s.WarmedH s'.vm := by rw [hvm]; exact State.WarmedH.refl s
  have hat' : ∀ w ∈ vx_atS own ic cls names, w.before args s' = true := fun w hw => vx_ot_at hW0 hvm.symm (hgood w (List.mem_cons_of_mem _ (List.mem_cons_of_mem _ hw))) (hat w hw)
  have hk' : (Cond.classLink own ik cls).before args s' = true := vx_ot_at hW0 hvm.symm (hgood _ List.mem_cons_self) hk
  have hini' : (Cond.initialized cls).before args s' = true := vx_ot_at hW0 hvm.symm (hgood _ (List.mem_cons_of_mem _ List.mem_cons_self)) hini
  have hU' : vx_Zq Bundle.tN "UNASSIGNED_STACK" Bundle.steD A s' s'.heap := by rw [hhp]; exact vx_Zq.moved hW0.alike (hU.kept hS.2.1)
  have hN' : vx_Zq Bundle.tN "SUPPRESSED_SENTINEL" Bundle.listD A s' s'.heap := by rw [hhp]; exact vx_Zq.moved hW0.alike (hN.kept hS.2.1)
  have h : ∀ w ∈ Bundle.ownAtoms own ic cls names, w.before args s' = true := vx_own hat' (vx_isRefq hU'.1) (vx_isRefq hN'.1) hU'.2.word hN'.2.word
  have hown' : s'.vm.findClass own = some m.cls := by rw [hvm]; exact hown
  have hins : (Cond.instantiable cls 6).before args s' = true := h _ (by simp [Bundle.ownAtoms])
  obtain ⟨vm₁, cX, kX, hfX, hkX, -, -, X₁, st1⟩ := Y.newCold hexec (own := own) (C := cls) (index := ik) (n := 6) hown' hk' hins hini'
    (g := F0 m pc ls rest) rfl (by rw [hb]; exact d0) (Nat.le_refl _) (Nat.le_refl _)
  generalize hT1 : (T.setVm vm₁).pushCell { cls := cX, slots := kX.instanceTypes.map defaultValue, vm := .none } = T1 at X₁ st1
  have hcat : (Value.ref T.heap.size).category = 1 := rfl
  have hcellA : T1.heap[T.heap.size]? = some (freshCell cX kX) := by rw [← hT1]; exact State.heap_pushCell_size _ _
  have d3' : decode c.code (pc + 3) = .ok (.dup, 1) := by rw [hb]; exact d3
  have d4' : decode c.code (pc + 4) = .ok (.ldc is, 2) := by rw [hb]; exact d4
  have hstr' : vk_R own is text sa s' := vk_R.warm hW0 hstr
  obtain ⟨U, hsteps, hrun, hend, hW, hsame, ce, hce, hO⟩ := X₁.ctorThrowS hexec htr (own := own) (cls := cls) (names := names) (ic := ic) hown' hcls hnames h (fun x hx => nomatch hx) hfX hkX hcellA (by rw [hhp, hT]; exact Nat.le_refl _) (msg := .ref sa) rfl
    (g := { method := m, pc := pc + 6, locals := ls, stack := .ref sa :: .ref T.heap.size :: .ref T.heap.size :: rest, locked := none }) rfl hsize rfl rfl (rest := rest) rfl
    (by rw [hb]; exact d6) (by rw [hb]; exact d9) hout hRframes (by simp only [List.map_cons, List.sum_cons, hcat]; omega) hlocks
  obtain ⟨f1, f2⟩ := vx_frame hsame
  rw [hhp] at f1 f2
  have hWs : s.WarmedH U.vm := State.WarmedH.trans hW0 hW
  have hcl : s.vm.findClass cls = some ce.cls := by
    have h9 := hO.cls
    rw [hvm] at h9
    exact h9
  have hall : s.sameButNew ({ U with vm := s.vm } : State) locs mc ms := by
    subst hA
    obtain ⟨e1, e2⟩ := hsame
    rw [State.setFrames_setFrames] at e1
    have h2 : (T.setVm s.vm).sameButNew ({ U with vm := s.vm } : State) [] (0 + 1) (0 + 6) := ⟨e1, e2⟩
    have h3 := X.same.trans h2
    rw [List.append_nil] at h3
    exact h3.mono hc hs
  refine ⟨U, ?_, .threw T.heap.size, hrun, hend, Or.inr ⟨T.heap.size, rfl, cls, ce, locs, hx U hWs.alike f1 (fun q hq => f2 q hq (fun z hz => nomatch hz)), hce, hO.vm, hcl, hWs, hall, hf⟩⟩
  refine st1 _ ?_
  show Steps p.tables e below (T1.setTop { method := m, pc := pc + 3, locals := ls, stack := .ref T.heap.size :: rest, locked := none }) _
  jvm_step X₁.here [X₁.here.top, hexec, d3', Value.category]
  exact X₁.ldcString hexec (own := own) (text := text) (index := is) (a := sa) hown' hstr'.1 hstr'.2
    (g := { method := m, pc := pc + 4, locals := ls, stack := .ref T.heap.size :: .ref T.heap.size :: rest, locked := none }) rfl d4' _ hsteps
/-- 'throw new E("text")', the text by a wide index -/
theorem vx_throwSW {cc : ByteArray} {pc : Nat} (hexec : p.tables.exec = Jvm.exec) (hb : c.code = cc) (hl : l.stackTraces = false) {own cls text : String} {names : List String} {ik is ic mc ms sa : Nat} {A : Nat → Prop}
    (hown : s.vm.findClass own = some m.cls) (hcls : Bundle.fit cls = true) (hnames : ∀ n ∈ names, Bundle.fit n = true)
    (hk : (Cond.classLink own ik cls).before args s = true) (hini : (Cond.initialized cls).before args s = true) (hstr : vk_R own is text sa s) (hat : ∀ w ∈ vx_atS own ic cls names, w.before args s = true)
    (hgood : ∀ w ∈ Cond.classLink own ik cls :: Cond.initialized cls :: vx_atS own ic cls names, vx_ot w = true)
    (hU : vx_Zq Bundle.tN "UNASSIGNED_STACK" Bundle.steD A s s.heap) (hN : vx_Zq Bundle.tN "SUPPRESSED_SENTINEL" Bundle.listD A s s.heap) (hS : va_S A s.heap H locs) (hsize : ls.size = c.maxLocals)
    (d0 : decode cc pc = .ok (.new ik, 3)) (d3 : decode cc (pc + 3) = .ok (.dup, 1)) (d4 : decode cc (pc + 4) = .ok (.ldc_w is, 3)) (d7 : decode cc (pc + 7) = .ok (.invokespecial ic, 3)) (d10 : decode cc (pc + 10) = .ok (.athrow, 1))
    (hout : ∀ x ∈ c.exceptionTable.toList, covers x (pc + 10) = false)
    (hRframes : names.length + 3 < R.frames) (hRlocals : (rest.map fun v => v.category).sum + (13 * (names.length + 1) + 43) ≤ R.locals) (hRcells : cells + 1 ≤ R.cells) (hRslots : slots + 6 ≤ R.slots) (hlocks : meth.locks = false)
    (hx : ∀ t : State, s.vm.Alike t.vm → H.size ≤ t.heap.size → (∀ q : Nat, q < H.size → t.heap[q]? = H[q]?) → XC cls s t)
    (hf : ∀ z ∈ locs, free z.base) (hc : cells + 1 ≤ mc) (hs : slots + 6 ≤ ms) :
    W p l e R s m args below meth c H locs cells slots (vx_MQ below Qc XC args s mc ms free) (F0 m pc ls rest) := by
  intro T hT X
  have htr : e.platform.stackTraces = false := (show e.platform.stackTraces = l.stackTraces by rw [X.admits.platform]).trans hl
  have Y := vx_rebase X (R' := { frames := R.frames, locals := R.locals, cells := 1, slots := 6 }) (Nat.le_refl _) (Nat.le_refl _) hRcells hRslots
  obtain ⟨s', hA⟩ : ∃ z, z = (T.setVm s.vm).setFrames (.invoking m args :: below) := ⟨_, rfl⟩
  rw [← hA] at Y
  have hvm : s'.vm = s.vm := by rw [hA]; rfl
  have hhp : s'.heap = H := by rw [hA]; exact hT
  have hW0 : s.WarmedH s'.vm := by rw [hvm]; exact State.WarmedH.refl s
  have hat' : ∀ w ∈ vx_atS own ic cls names, w.before args s' = true := fun w hw => vx_ot_at hW0 hvm.symm (hgood w (List.mem_cons_of_mem _ (List.mem_cons_of_mem _ hw))) (hat w hw)
  have hk' : (Cond.classLink own ik cls).before args s' = true := vx_ot_at hW0 hvm.symm (hgood _ List.mem_cons_self) hk
  have hini' : (Cond.initialized cls).before args s' = true := vx_ot_at hW0 hvm.symm (hgood _ (List.mem_cons_of_mem _ List.mem_cons_self)) hini
  have hU' : vx_Zq Bundle.tN "UNASSIGNED_STACK" Bundle.steD A s' s'.heap := by rw [hhp]; exact vx_Zq.moved hW0.alike (hU.kept hS.2.1)
  have hN' : vx_Zq Bundle.tN "SUPPRESSED_SENTINEL" Bundle.listD A s' s'.heap := by rw [hhp]; exact vx_Zq.moved hW0.alike (hN.kept hS.2.1)
  have h : ∀ w ∈ Bundle.ownAtoms own ic cls names, w.before args s' = true := vx_own hat' (vx_isRefq hU'.1) (vx_isRefq hN'.1) hU'.2.word hN'.2.word
  have hown' : s'.vm.findClass own = some m.cls := by rw [hvm]; exact hown
  have hins : (Cond.instantiable cls 6).before args s' = true := h _ (by simp [Bundle.ownAtoms])
  obtain ⟨vm₁, cX, kX, hfX, hkX, -, -, X₁, st1⟩ := Y.newCold hexec (own := own) (C := cls) (index := ik) (n := 6) hown' hk' hins hini'
    (g := F0 m pc ls rest) rfl (by rw [hb]; exact d0) (Nat.le_refl _) (Nat.le_refl _)
  generalize hT1 : (T.setVm vm₁).pushCell { cls := cX, slots := kX.instanceTypes.map defaultValue, vm := .none } = T1 at X₁ st1
  have hcat : (Value.ref T.heap.size).category = 1 := rfl
  have hcellA : T1.heap[T.heap.size]? = some (freshCell cX kX) := by rw [← hT1]; exact State.heap_pushCell_size _ _
  have d3' : decode c.code (pc + 3) = .ok (.dup, 1) := by rw [hb]; exact d3
  have d4' : decode c.code (pc + 4) = .ok (.ldc_w is, 3) := by rw [hb]; exact d4
  have hstr' : vk_R own is text sa s' := vk_R.warm hW0 hstr
  obtain ⟨U, hsteps, hrun, hend, hW, hsame, ce, hce, hO⟩ := X₁.ctorThrowS hexec htr (own := own) (cls := cls) (names := names) (ic := ic) hown' hcls hnames h (fun x hx => nomatch hx) hfX hkX hcellA (by rw [hhp, hT]; exact Nat.le_refl _) (msg := .ref sa) rfl
    (g := { method := m, pc := pc + 7, locals := ls, stack := .ref sa :: .ref T.heap.size :: .ref T.heap.size :: rest, locked := none }) rfl hsize rfl rfl (rest := rest) rfl
    (by rw [hb]; exact d7) (by rw [hb]; exact d10) hout hRframes (by simp only [List.map_cons, List.sum_cons, hcat]; omega) hlocks
  obtain ⟨f1, f2⟩ := vx_frame hsame
  rw [hhp] at f1 f2
  have hWs : s.WarmedH U.vm := State.WarmedH.trans hW0 hW
  have hcl : s.vm.findClass cls = some ce.cls := by
    have h9 := hO.cls
    rw [hvm] at h9
    exact h9
  have hall : s.sameButNew ({ U with vm := s.vm } : State) locs mc ms := by
    subst hA
    obtain ⟨e1, e2⟩ := hsame
    rw [State.setFrames_setFrames] at e1
    have h2 : (T.setVm s.vm).sameButNew ({ U with vm := s.vm } : State) [] (0 + 1) (0 + 6) := ⟨e1, e2⟩
    have h3 := X.same.trans h2
    rw [List.append_nil] at h3
    exact h3.mono hc hs
  refine ⟨U, ?_, .threw T.heap.size, hrun, hend, Or.inr ⟨T.heap.size, rfl, cls, ce, locs, hx U hWs.alike f1 (fun q hq => f2 q hq (fun z hz => nomatch hz)), hce, hO.vm, hcl, hWs, hall, hf⟩⟩
  refine st1 _ ?_
  show Steps p.tables e below (T1.setTop { method := m, pc := pc + 3, locals := ls, stack := .ref T.heap.size :: rest, locked := none }) _
  jvm_step X₁.here [X₁.here.top, hexec, d3', Value.category]
  exact X₁.ldcStringW hexec (own := own) (text := text) (index := is) (a := sa) hown' hstr'.1 hstr'.2
    (g := { method := m, pc := pc + 4, locals := ls, stack := .ref T.heap.size :: .ref T.heap.size :: rest, locked := none }) rfl d4' _ hsteps
end Ends
section Bodies
variable {l : Launch}
theorem vx_ofW {y : MethodName} {ws ws' : List Cond} {rm : Room} {Pc : Array Value → State → Prop} {Qc : Array Value → State → Outcome → State → Prop} {XC : String → State → State → Prop} {mc ms : Nat} {free : Addr → Prop} {cc : ByteArray} {maxL : Nat} {ret : Option FieldType}
    (hy : plainName y.cls = true) (hw : ws = Cond.code y cc maxL ret :: ws')
    (body : ∀ p e s m args below meth c s₁, BodyLoose p l y (headSpec ws rm) cc maxL ret e s m args below meth c s₁ → c.maxLocals = maxL → (∀ x ∈ c.exceptionTable.toList, False) → Pc args s →
      W p l e (headSpec ws rm).room s m args below meth c s.heap [] 0 0 (vx_MQ below Qc XC args s mc ms free) (entryFrame m args maxL)) : vx_Met l y ws rm Pc Qc XC mc ms free := by
  refine MetFree.of_bodyS (code := cc) (maxLocals := maxL) (ret := ret) hy ?_ ?_
  · intro args s m h hn
    obtain ⟨meth, c, h1, h2, h3, h4, h5, h6, -, -⟩ := Cond.code_spec hn (atoms_spec (ws := ws) h _ (by rw [hw]; exact List.mem_cons_self))
    exact ⟨meth, c, h1, h2, h3, h4, h5, h6⟩
  · intro p e s m args below meth c s₁ B hml hP _
    have hh0 : s₁.heap = s.heap := by rw [B.state]; rfl
    have ht : ∀ x ∈ c.exceptionTable.toList, False := by
      obtain ⟨meth9, c9, h1, h2, -, -, -, -, h7, -⟩ := Cond.code_spec B.named (atoms_spec (ws := ws) B.pre _ (by rw [hw]; exact List.mem_cons_self))
      cases Option.some.inj (h1.symm.trans B.method)
      cases Option.some.inj (h2.symm.trans (Stand.of_body B).code)
      intro x hx
      rw [Array.isEmpty_iff.mp h7] at hx
      cases hx
    obtain ⟨t, a1, o, b1, b2, b3⟩ := body p e s m args below meth c s₁ B hml ht hP s₁ hh0 (Stand.of_body B)
    exact ⟨t, o, a1, b1, b2, b3⟩
/-- the table of a body with handlers -/
theorem vx_table {p : Program} {x y : MethodName} {S : Spec} {cc bytes : ByteArray} {maxL maxL' : Nat} {ret ret' : Option FieldType} {e : Env} {s s₁ : State} {m : MethodId} {args : Array Value} {below : List Frame} {meth : Method} {c : Code} {hh : List (Nat × Nat × Nat × Nat)}
    (B : BodyLoose p l y S cc maxL ret e s m args below meth c s₁) (h : (Cond.codeWith y bytes maxL' ret' hh).before args s = true) : c.exceptionTable.toList = tableOf hh := by
  obtain ⟨m9, meth9, c9, hn9, h1, h2, -, -, h6, -⟩ := Cond.codeWith_spec h
  cases Option.some.inj (hn9.symm.trans B.named)
  cases Option.some.inj (h1.symm.trans B.method)
  cases Option.some.inj (h2.symm.trans (Stand.of_body B).code)
  rw [← h6, table_eq]
end Bodies
end VXA
/-! ===== END ===== -/
/-! ===== BEGIN a static call of a method with an exception table ===== -/
section VXS
variable {p : Program} {l : Launch} {e : Env} {R : Room} {s : State} {m : MethodId} {args : Array Value} {below : List Frame} {meth : Method} {c : Code} {T : State} {H : Heap} {locs : List Loc} {cells slots : Nat}
abbrev vx_CSW (R : Room) (s : State) (args : Array Value) (own : String) (index : Nat) (y : MethodName) (bytes : ByteArray) (maxL : Nat) (ret : Option FieldType) (hh : List (Nat × Nat × Nat × Nat)) (ws : List Cond) (rm : Room) (mc ms n : Nat) : Prop :=
  (rm.cells = mc ∧ rm.slots = ms ∧ rm.frames + 1 ≤ R.frames ∧ 8 + (maxL + 11) + rm.locals ≤ R.locals ∧ (∀ w ∈ ws, ∀ (a' : Array Value) (U : State), s.WarmedH U.vm → w.before a' U = true) ∧ Cond.codeWith y bytes maxL ret hh ∈ ws) ∧
  (Cond.codeWith y bytes maxL ret hh).before args s = true ∧ (Cond.initialized y.cls).before args s = true ∧ (y.cls ≠ "java/lang/invoke/MethodHandle" ∧ y.cls ≠ "java/lang/invoke/VarHandle") ∧
  (∀ sig, parseMethodDescriptor y.desc = some sig → n = sig.parameters.length) ∧ (Cond.methodLink own index y).before args s = true ∧ (Cond.static y).before args s = true
theorem vx_cwSW {own : String} {index maxL mc ms : Nat} {y : MethodName} {bytes : ByteArray} {ret : Option FieldType} {hh : List (Nat × Nat × Nat × Nat)} {Ts ws ws' : List Cond} {rm : Room} (n : Nat) (ht : ∀ w ∈ Ts, w.before args s = true) (hT : GoodIn Ts (va_wsS own index y ws)) (hw : ws = Cond.codeWith y bytes maxL ret hh :: ws') (hrc : rm.cells = mc) (hrs : rm.slots = ms)
    (hd : y.cls ≠ "java/lang/invoke/MethodHandle" ∧ y.cls ≠ "java/lang/invoke/VarHandle" ∧ (parseMethodDescriptor y.desc).map (fun d => d.parameters.length) = some n) (hR : rm.frames + 1 ≤ R.frames ∧ 8 + (maxL + 11) + rm.locals ≤ R.locals) :
    vx_CSW R s args own index y bytes maxL ret hh ws rm mc ms n := by
  have ok : ∀ w ∈ va_wsS own index y ws, w.before args s = true := fun w h => ht w (hT w h).1
  have hG : GoodIn Ts ws := fun w h => hT w (by unfold va_wsS; exact List.mem_append_right _ h)
  have hc : Cond.codeWith y bytes maxL ret hh ∈ ws := by rw [hw]; exact List.mem_cons_self
  refine ⟨⟨hrc, hrs, hR.1, hR.2, pay_in ht hG, hc⟩, ht _ (hG _ hc).1, ok _ (by simp [va_wsS]), ⟨hd.1, hd.2.1⟩, fun sig h => ?_, ok _ (by simp [va_wsS]), ok _ (by simp [va_wsS])⟩
  have h2 := hd.2.2
  rw [h] at h2
  exact (Option.some.inj h2).symm
theorem vx_callSW (X : Stand p l e R s m args below meth c T locs cells slots) (hexec : p.tables.exec = Jvm.exec) {own : String} {index : Nat} {y : MethodName} {bytes : ByteArray} {maxL : Nat} {ret : Option FieldType} {hh : List (Nat × Nat × Nat × Nat)}
    (hown : s.vm.findClass own = some m.cls) (hlink : (Cond.methodLink own index y).before args s = true) (hstat : (Cond.static y).before args s = true) (hinit : (Cond.initialized y.cls).before args s = true)
    (hcode : (Cond.codeWith y bytes maxL ret hh).before args s = true) (hy : y.cls ≠ "java/lang/invoke/MethodHandle" ∧ y.cls ≠ "java/lang/invoke/VarHandle")
    {W9 : Nat} {Pre : Pt → Array Value → Prop} {Post : Pt → Array Value → Option Value → Pt → Prop} (hK : Back l R p e below s args y 3 W9 Pre Post)
    {g : JFrame} (hg : g.method = m) (hsize : g.locals.size = c.maxLocals) {argsL rest : List Value} (hlen : ∀ sig, parseMethodDescriptor y.desc = some sig → argsL.length = sig.parameters.length)
    (hstack : g.stack = argsL.reverse ++ rest) (hW : 2 * g.monitorRoom + (rest.map fun v => v.category).sum ≤ W9) (hdg : decode c.code g.pc = .ok (.invokestatic index, 3))
    (hpre : ∀ vm₁, s.WarmedH vm₁ → Pre ⟨T.setVm vm₁, locs, cells, slots⟩ argsL.toArray) :
    ∃ (v : Option Value) (vm₁ : Vm) (B : Pt), s.WarmedH vm₁ ∧ Stand p l e R s m args below meth c B.U B.locs B.cells B.slots ∧ Post ⟨T.setVm vm₁, locs, cells, slots⟩ argsL.toArray v B ∧
      ∀ target, Steps p.tables e below (B.U.setTop { g with pc := g.pc + 3, stack := v.toList ++ rest }) target → Steps p.tables e below (T.setTop g) target := by
  obtain ⟨mk, methM, cM, hnamed, hmethM, -, -, -, -, -, -, hsigM⟩ := Cond.codeWith_spec hcode
  have hstatic : methM.isStatic = true := Cond.static_spec hnamed hmethM hstat
  obtain ⟨kP, hkP, -⟩ := className_of_methodNamed hnamed
  have hinitP : kP.init = .initialized := Cond.initialized_spec (findClass_of_methodNamed hnamed) hkP hinit
  obtain ⟨vm₁, X₁, hstep₁⟩ := X.invokestatic hexec hown hlink hnamed hmethM hstatic hkP hinitP hy (g := g) hg (argsL := argsL) (rest := rest) (hlen _ hsigM) hstack hdg
  obtain ⟨v, B, X', hpost, hsteps⟩ := hK m meth c ⟨T.setVm vm₁, locs, cells, slots⟩ { g with stack := rest } (.invokestatic index) mk argsL.toArray X₁ hg hsize hdg hW (X₁.named hnamed) (hpre vm₁ X₁.warmed)
  exact ⟨v, vm₁, B, X₁.warmed, X', hpost, fun target h => hstep₁ _ fun acts => by rw [doInvoke_state]; exact hsteps.trans h⟩
theorem vx_runSW {y : MethodName} {bytes cc : ByteArray} {maxL nL mc ms n index : Nat} {ret : Option FieldType} {hh : List (Nat × Nat × Nat × Nat)} {ws : List Cond} {rm : Room} {Pc : Array Value → State → Prop} {Qc : Array Value → State → Outcome → State → Prop} {free : Addr → Prop} {Ts : List Cond} {own : String} {As rest : List Value} {g : JFrame}
    (S : CallFix p m c cc nL s args Ts own) (hM : Met l y ws rm Pc Qc mc ms free) (cw : vx_CSW R s args own index y bytes maxL ret hh ws rm mc ms n) (hp : PreS s H Pc As)
    (hg : g.method = m) (hn : As.length = n) (hsize : g.locals.size = nL) (hstack : g.stack = As.reverse ++ rest) (hW : 2 * g.monitorRoom + (rest.map fun v => v.category).sum ≤ 8) (hdg : decode cc g.pc = .ok (.invokestatic index, 3)) (hf : cells + mc ≤ R.cells ∧ slots + ms ≤ R.slots) :
    va_Run p l e R s m args below meth c H locs cells slots mc ms g rest (Qc As.toArray) (free) := by
  obtain ⟨⟨hrc, hrs, hfr, hlo, hws, hcw⟩, hcode, hini, hy, hlen, hl, hstt⟩ := cw
  have hK : Back l R p e below s args y 3 8 (PreOf R mc ms Pc) (PostOf Qc mc ms free) := va_backW (hh := hh) (bytes := bytes) (maxL := maxL) (ret := ret) hM hp.1 hrc hrs hfr hlo hws hcw (fun a' U hW => word_at hW (Or.inl (by first | rfl | simp [Cond.onTables, Cond.keeps, Cond.steady])) hini)
  obtain ⟨hx, hb, hml, ho, -⟩ := S
  intro T hT X
  obtain ⟨v, vm₁, ⟨U', l2, c2, s2⟩, hW₁, X', ⟨g', mk, t, L, e1, e2, hq, h1, hL, h2, h3⟩, st⟩ := vx_callSW X hx (hh := hh) (bytes := bytes) (maxL := maxL) (ret := ret) ho hl hstt hini hcode hy hK hg (hsize.trans hml.symm) (argsL := As) (rest := rest) (fun sig h => hn.trans (hlen sig h)) hstack hW (by rw [hb]; exact hdg)
    (fun vm₁ hW₁ => ⟨hf.1, hf.2, hp.2 (T.setVm vm₁) hT hW₁⟩)
  dsimp only [Pt.U, Pt.locs, Pt.cells, Pt.slots] at X' e1 e2 h1 h2 h3 st
  subst h1; subst h2; subst h3
  exact ⟨v, (T.setVm vm₁).calling g' mk As.toArray, t, U', L, hT, X', hL, e1, e2, hq, st⟩
/-- not caught here, past rows that name other classes: it goes on to the caller -/
theorem vx_outP {p : Program} {l : Launch} {e : Env} {R : Room} {s : State} {m : MethodId} {args : Array Value} {below : List Frame} {meth : Method} {c : Code} {H : Heap} {locs : List Loc} {cells slots : Nat} {free : Addr → Prop} {ls : Array Slot} {rest : List Value} {Qc : Array Value → State → Outcome → State → Prop} {XC : String → State → State → Prop}
    {pc : Nat} {own E : String} {ce : Cell} {q : Addr} {mc ms : Nat} (hown : s.vm.findClass own = some m.cls) (hlocks : meth.locks = false)
    (hpass : ∀ z ∈ c.exceptionTable.toList, covers z pc = false ∨ (z.catchType ≠ 0 ∧ ∃ nm : String, (Cond.classLink own z.catchType nm).before args s = true ∧ va_Nc E nm s)) (hcell : H[q]? = some ce) (hv : ce.vm = .none) (hcl : s.vm.findClass E = some ce.cls)
    (hx : ∀ t : State, t.heap = H → s.vm.Alike t.vm → XC E s t) (hf : ∀ z ∈ locs, free z.base) (hc : cells ≤ mc) (hs : slots ≤ ms) :
    vx_W p l e R s m args below meth c H locs cells slots (vx_MQ below Qc XC args s mc ms free) (F0 m pc ls rest) q := by
  intro T hT X
  have hpl : e.platform.magicAccessors = ({} : Platform).magicAccessors := by rw [X.admits.platform]
  obtain ⟨vm', hW', X', st⟩ := X.outThrough hlocks q (g := F0 m pc ls rest) rfl rfl rfl (cell := ce) (by rw [hT]; exact hcell) (by rw [hv]; rfl)
    (by obtain ⟨k9, h9, -⟩ := Vm.findClass_spec hcl; exact ⟨k9, h9⟩) (fun z hz => by
      rcases hpass z hz with h | ⟨hz0, nm, hl1, hn1⟩
      · exact Or.inl h
      · obtain ⟨c6, hc6, hcl6⟩ := Cond.classLink_spec hown hl1 e.platform hpl
        obtain ⟨a8, b8, h1, h2, h3⟩ := hn1
        cases Option.some.inj (h1.symm.trans hcl)
        cases Option.some.inj (h2.symm.trans hc6)
        exact Or.inr ⟨hz0, _, hcl6, h3⟩)
  obtain ⟨g₀, hfr⟩ := X'.frames_eq
  have hcell9 : ((T.setVm vm').setFrames (.throwing q :: below)).heap[q]? = some ce := by
    show T.heap[q]? = some ce
    rw [hT]; exact hcell
  have hend : Ended ((T.setVm vm').setFrames (.throwing q :: below)) below (.threw q) := State.frames_setFrames _ (State.cur_lt_of_frames hfr)
  refine ⟨(T.setVm vm').setFrames (.throwing q :: below), ?_, .threw q, X'.here.running, hend, Or.inr ⟨q, rfl, E, ce, locs, hx _ hT (X'.ends _).1.alike, hcell9, hv, hcl, (X'.ends _).1, (X'.ends _).2.mono hc hs, hf⟩⟩
  rw [X.pushThrowing_eq]
  exact st
/-- a thing of a world lies in the heap -/
theorem vx_lt {D : va_G} {cl : List vw_C} {ws : va_W} {H1 : Heap} (h : va_P D cl ws H1) {k : Nat} {q : Nat × va_E} (hk : ws[k]? = some q) : q.1 < H1.size := (h k q hk).lt
end VXS
/-! ===== END ===== -/
/-! ===== BEGIN methods with a table of their own: called by a name, returning or throwing ===== -/
section VXH
/-! vx_backW, vx_callVX, vx_callSX, vx_callVW, vx_runVW, vx_runVX, vx_runSX, vx_ofWH follow the same proofs as their sisters above (Free/Laws.lean, Shelf42/LK1.lean); vx_outP calls Shelf42/NT130.lean (outThrough). -/
section
variable {l : Launch} {R : Room} {p : Program} {e : Env} {below : List Frame} {s : State} {sargs : Array Value} {y : MethodName} {len W9 : Nat}
theorem vx_backW {ws : List Cond} {rm : Room} {Pc : Array Value → State → Prop} {Qc : Array Value → State → Outcome → State → Prop} {XC : String → State → State → Prop} {mc ms : Nat} {free : Addr → Prop} {bytes : ByteArray} {maxL : Nat} {ret : Option FieldType} {hh : List (Nat × Nat × Nat × Nat)}
    (hM : vx_Met l y ws rm Pc Qc XC mc ms free) (hblind : FrameBlind Pc) (hrc : rm.cells = mc) (hrs : rm.slots = ms)
    (hframes : rm.frames + 1 ≤ R.frames) (hlocals : W9 + (maxL + 11) + rm.locals ≤ R.locals)
    (hws : ∀ w ∈ ws, ∀ a' U, s.WarmedH U.vm → w.before a' U = true) (hcode : Cond.codeWith y bytes maxL ret hh ∈ ws) (hinit : ∀ a' U, s.WarmedH U.vm → (Cond.initialized y.cls).before a' U = true) :
    vx_Back l R p e below s sargs y len W9 (PreOf R mc ms Pc) (PostOf Qc mc ms free) (vx_Post XC mc ms free) := by
  intro m meth c A g ig mk a X hg hsize hdg hW hn hp
  have h1 : (headSpec ws rm).pre.before a A.U = true := atoms_intro fun w hw => hws w hw _ _ X.warmed
  have h2 : (Cond.codeWith y bytes maxL ret hh).before a A.U = true := hws _ hcode _ _ X.warmed
  have h3 : (Cond.initialized y.cls).before a A.U = true := hinit _ _ X.warmed
  have h4 : A.cells + (headSpec ws rm).room.cells ≤ R.cells := by rw [show (headSpec ws rm).room.cells = mc from hrc]; exact hp.1
  have h5 : A.slots + (headSpec ws rm).room.slots ≤ R.slots := by rw [show (headSpec ws rm).room.slots = ms from hrs]; exact hp.2.1
  have hPc : Pc a (A.U.calling g mk a) := hblind _ _ _ _ hp.2.2
  obtain ⟨U, Ls, c0, s0⟩ := A
  dsimp only [Pt.U, Pt.locs, Pt.cells, Pt.slots] at h1 h2 h3 h4 h5 X hn hPc ⊢
  obtain ⟨m9, methY, cY, hn9, hmY, hcY, -, hlY, -⟩ := Cond.codeWith_spec h2
  cases Option.some.inj (hn9.symm.trans hn)
  obtain ⟨kY, hkY, -⟩ := className_of_methodNamed hn
  have hinitY : kY.init = .initialized := Cond.initialized_spec (findClass_of_methodNamed hn) hkY h3
  have h : At U g.method c below := by rw [hg]; exact X.here
  have hlocals9 : W9 + (maxL + 11) + (headSpec ws rm).room.locals ≤ R.locals := hlocals
  have happ : (headSpec ws rm).appliesLoose y e.platform (U.calling g mk a) = true :=
    Spec.appliesLoose_calling (g := g) h hdg hn hkY hinitY
      (X.room_calling (g := g) (R' := (headSpec ws rm).room) hsize hmY hcY hframes (by rw [hlY]; omega) h4 h5) h1
  obtain ⟨mid, hmid⟩ := h.above
  have hfr : (U.setTop g).frames = (.java g :: mid) ++ below := by rw [State.frames_setTop' g h.top, hmid]; rfl
  obtain ⟨o, s₂, hsteps, -, hend, hq⟩ := Steps.callFree hM p X.admits X.cas X.clock (acts := []) hfr happ hPc trivial
  have hq' : vx_Q Qc XC mc ms free a (U.calling g mk a) o s₂ := hq
  rw [State.frames_setTop' g h.top] at hend
  obtain ⟨g₀, hg0⟩ := Option.isSome_iff_exists.mp h.top
  obtain ⟨r, hr⟩ := State.topJava?_eq_some.mp hg0
  have hr' : (({ U with heap := s₂.heap, slotsUsed := s₂.slotsUsed } : State).setVm s₂.vm).frames = .java g₀ :: r := hr
  rcases hq' with ⟨hqc, L, hfe, hL⟩ | ⟨q, rfl, E, ce, L, hx, hce, hcv, hcl, hW₂, hsm, hL⟩
  · obtain ⟨⟨v, rfl⟩, hW₂, e2, q2, q3, q4, q5, q6⟩ := id hfe
    have e3 : s₂ = ({ (U.calling g mk a).setFrames s₂.frames with heap := s₂.heap, slotsUsed := s₂.slotsUsed } : State).setVm s₂.vm := by
      have : s₂ = ({ s₂ with vm := (U.calling g mk a).vm } : State).setVm s₂.vm := rfl
      rw [e2] at this
      exact this
    obtain ⟨c₂, i₂, len₂, hc₂, hd₂, hf₂⟩ := hend
    have hW' : U.WarmedH s₂.vm := hW₂
    have hcc : c₂ = c := by
      have h1 : s₂.code? g.method = U.code? g.method := by
        rw [State.code?_eq, State.code?_eq, hW'.alike.method?]
      exact Option.some.inj (hc₂.symm.trans (h1.trans h.code))
    subst hcc
    have hlen : len₂ = len := by rw [hdg] at hd₂; cases hd₂; rfl
    subst hlen
    have hs₂ : s₂ = (({ U with heap := s₂.heap, slotsUsed := s₂.slotsUsed } : State).setVm s₂.vm).setTop { g with pc := g.pc + len₂, stack := v.toList ++ g.stack } := by
      refine e3.trans ?_
      rw [hf₂, State.calling_eq h.top, State.setFrames_setFrames, State.setTop_of_frames _ hr', hr]
      rfl
    have hsame : U.sameButNew ({ U with heap := s₂.heap, slotsUsed := s₂.slotsUsed } : State) L mc ms := by
      refine ⟨?_, q2, q3, q4, q5, q6⟩
      obtain ⟨t, ht, -⟩ := State.frames_cons hr
      show ({ U with heap := s₂.heap, slotsUsed := s₂.slotsUsed } : State) = { U.setFrames U.frames with heap := s₂.heap, slotsUsed := s₂.slotsUsed }
      rw [State.setFrames_self ht]
    subst hg
    refine Or.inl ⟨v, ⟨(({ U with heap := s₂.heap, slotsUsed := s₂.slotsUsed } : State).setVm s₂.vm), Ls ++ L, c0 + mc, s0 + ms⟩,
      ⟨X.admits, X.cas, X.clock, X.frames, X.room, X.hears, X.method, X.code, (X.here.setHeapUsed s₂.heap s₂.slotsUsed).setVm hW'.alike, X.tail, State.WarmedH.trans X.warmed hW', X.limits, X.bytes, X.same.trans (hsame.setVm s.vm)⟩,
      ⟨g, mk, s₂, L, rfl, rfl, hqc, rfl, hL, rfl, rfl⟩, ?_⟩
    show Steps p.tables e below _ ((({ U with heap := s₂.heap, slotsUsed := s₂.slotsUsed } : State).setVm s₂.vm).setTop { g with pc := g.pc + len₂, stack := v.toList ++ g.stack })
    rw [← hs₂]
    exact hsteps
  · obtain ⟨e2, q2, q3, q4, q5, q6⟩ := id hsm
    have e3 : s₂ = ({ (U.calling g mk a).setFrames s₂.frames with heap := s₂.heap, slotsUsed := s₂.slotsUsed } : State).setVm s₂.vm := by
      have : s₂ = ({ s₂ with vm := (U.calling g mk a).vm } : State).setVm s₂.vm := rfl
      rw [e2] at this
      exact this
    have hf₂ : s₂.frames = .throwing q :: .java g :: U.frames.tail := hend
    have hW' : U.WarmedH s₂.vm := hW₂
    have hs₂ : s₂ = ((({ U with heap := s₂.heap, slotsUsed := s₂.slotsUsed } : State).setVm s₂.vm).setTop g).pushFrame (.throwing q) := by
      refine e3.trans ?_
      rw [hf₂, State.calling_eq h.top, State.setFrames_setFrames, State.pushFrame, State.frames_setTop _ hr', State.setTop_of_frames _ hr', State.setFrames_setFrames, hr]
      rfl
    have hsame : U.sameButNew ({ U with heap := s₂.heap, slotsUsed := s₂.slotsUsed } : State) L mc ms := by
      refine ⟨?_, q2, q3, q4, q5, q6⟩
      obtain ⟨t, ht, -⟩ := State.frames_cons hr
      show ({ U with heap := s₂.heap, slotsUsed := s₂.slotsUsed } : State) = { U.setFrames U.frames with heap := s₂.heap, slotsUsed := s₂.slotsUsed }
      rw [State.setFrames_self ht]
    subst hg
    refine Or.inr ⟨q, ⟨(({ U with heap := s₂.heap, slotsUsed := s₂.slotsUsed } : State).setVm s₂.vm), Ls ++ L, c0 + mc, s0 + ms⟩,
      ⟨X.admits, X.cas, X.clock, X.frames, X.room, X.hears, X.method, X.code, (X.here.setHeapUsed s₂.heap s₂.slotsUsed).setVm hW'.alike, X.tail, State.WarmedH.trans X.warmed hW', X.limits, X.bytes, X.same.trans (hsame.setVm s.vm)⟩,
      ⟨g, mk, s₂, L, E, ce, rfl, rfl, hx, hce, hcv, hcl, rfl, hL, rfl, rfl⟩, ?_⟩
    show Steps p.tables e below _ (((({ U with heap := s₂.heap, slotsUsed := s₂.slotsUsed } : State).setVm s₂.vm).setTop g).pushFrame (.throwing q))
    rw [← hs₂]
    exact hsteps
end
variable {p : Program} {l : Launch} {e : Env} {R : Room} {s : State} {m : MethodId} {args : Array Value} {below : List Frame} {meth : Method} {c : Code} {T : State} {H : Heap} {locs : List Loc} {cells slots : Nat}
theorem vx_callVX (X : Stand p l e R s m args below meth c T locs cells slots) (hexec : p.tables.exec = Jvm.exec) {own C : String} {index : Nat} {y : MethodName} {bytes : ByteArray} {maxL : Nat} {ret : Option FieldType} {hh : List (Nat × Nat × Nat × Nat)}
    (hown : s.vm.findClass own = some m.cls) (hlink : (Cond.methodLink own index y).before args s = true) (hinst : (Cond.instanceMethod y).before args s = true) (hsel : (Cond.selects C y y).before args s = true)
    (hcode : (Cond.codeWith y bytes maxL ret hh).before args s = true) (hy : y.cls ≠ "java/lang/invoke/MethodHandle" ∧ y.cls ≠ "java/lang/invoke/VarHandle")
    {W9 : Nat} {Pre : Pt → Array Value → Prop} {Post : Pt → Array Value → Option Value → Pt → Prop} {PostX : Pt → Array Value → Addr → Pt → Prop} (hK : vx_Back l R p e below s args y 3 W9 Pre Post PostX)
    {b : Addr} {cellB : Cell} (hcell : T.heap[b]? = some cellB) (hobj : cellB.vm.isStatics = false) (hcls : s.vm.findClass C = some cellB.cls)
    {g : JFrame} (hg : g.method = m) (hsize : g.locals.size = c.maxLocals) {argsL rest : List Value} (hlen : ∀ sig, parseMethodDescriptor y.desc = some sig → argsL.length = sig.parameters.length)
    (hstack : g.stack = argsL.reverse ++ .ref b :: rest) (hW : 2 * g.monitorRoom + (rest.map fun v => v.category).sum ≤ W9) (hdg : decode c.code g.pc = .ok (.invokevirtual index, 3))
    (hpre : ∀ vm₁, s.WarmedH vm₁ → Pre ⟨T.setVm vm₁, locs, cells, slots⟩ (Value.ref b :: argsL).toArray) :
    (∃ (v : Option Value) (vm₁ : Vm) (B : Pt), s.WarmedH vm₁ ∧ Stand p l e R s m args below meth c B.U B.locs B.cells B.slots ∧ Post ⟨T.setVm vm₁, locs, cells, slots⟩ (Value.ref b :: argsL).toArray v B ∧
      ∀ target, Steps p.tables e below (B.U.setTop { g with pc := g.pc + 3, stack := v.toList ++ rest }) target → Steps p.tables e below (T.setTop g) target) ∨
    (∃ (q : Addr) (vm₁ : Vm) (B : Pt), s.WarmedH vm₁ ∧ Stand p l e R s m args below meth c B.U B.locs B.cells B.slots ∧ PostX ⟨T.setVm vm₁, locs, cells, slots⟩ (Value.ref b :: argsL).toArray q B ∧
      Steps p.tables e below (T.setTop g) ((B.U.setTop { g with stack := rest }).pushFrame (.throwing q))) := by
  obtain ⟨mk, methM, hnamed, hmethM, hstM, habM⟩ := Cond.instanceMethod_spec hinst
  obtain ⟨m8, methM', cM, hn8, hmethM', -, -, -, -, -, -, hsigM⟩ := Cond.codeWith_spec hcode
  cases Option.some.inj (hn8.symm.trans hnamed)
  cases hmethM.symm.trans hmethM'
  obtain ⟨c2, r2, m2, q1, q2, q3, q4, kP, hkP, hkPi⟩ := Cond.selects_spec hsel
  cases hcls.symm.trans q1
  cases (State.methodFound?_of_named hnamed hy).symm.trans q2
  cases hnamed.symm.trans q3
  have hselP : selectMethod e.platform s.vm cellB.cls mk = .method mk := by rw [Launch.admits_selectMethod X.admits]; exact q4
  obtain ⟨vm₁, X₁, hstep₁⟩ := X.invokevirtual hexec hown hlink hnamed hmethM hstM hkP hkPi hy (a := b) (cell := cellB) hcell
    (fun z h => by rw [h] at hobj; cases hobj) hselP hmethM habM hkP hkPi (g := g) hg (argsL := argsL) (rest := rest) (hlen _ hsigM) hstack hdg
  rcases hK m meth c ⟨T.setVm vm₁, locs, cells, slots⟩ { g with stack := rest } (.invokevirtual index) mk (Value.ref b :: argsL).toArray X₁ hg hsize hdg hW (X₁.named hnamed) (hpre vm₁ X₁.warmed) with ⟨v, B, X', hpost, hsteps⟩ | ⟨q, B, X', hpost, hsteps⟩
  · exact Or.inl ⟨v, vm₁, B, X₁.warmed, X', hpost, fun target h => hstep₁ _ fun acts => by rw [doInvoke_state]; exact hsteps.trans h⟩
  · exact Or.inr ⟨q, vm₁, B, X₁.warmed, X', hpost, hstep₁ _ fun acts => by rw [doInvoke_state]; exact hsteps⟩
theorem vx_callSX (X : Stand p l e R s m args below meth c T locs cells slots) (hexec : p.tables.exec = Jvm.exec) {own : String} {index : Nat} {y : MethodName} {bytes : ByteArray} {maxL : Nat} {ret : Option FieldType} {hh : List (Nat × Nat × Nat × Nat)}
    (hown : s.vm.findClass own = some m.cls) (hlink : (Cond.methodLink own index y).before args s = true) (hstat : (Cond.static y).before args s = true) (hinit : (Cond.initialized y.cls).before args s = true)
    (hcode : (Cond.codeWith y bytes maxL ret hh).before args s = true) (hy : y.cls ≠ "java/lang/invoke/MethodHandle" ∧ y.cls ≠ "java/lang/invoke/VarHandle")
    {W9 : Nat} {Pre : Pt → Array Value → Prop} {Post : Pt → Array Value → Option Value → Pt → Prop} {PostX : Pt → Array Value → Addr → Pt → Prop} (hK : vx_Back l R p e below s args y 3 W9 Pre Post PostX)
    {g : JFrame} (hg : g.method = m) (hsize : g.locals.size = c.maxLocals) {argsL rest : List Value} (hlen : ∀ sig, parseMethodDescriptor y.desc = some sig → argsL.length = sig.parameters.length)
    (hstack : g.stack = argsL.reverse ++ rest) (hW : 2 * g.monitorRoom + (rest.map fun v => v.category).sum ≤ W9) (hdg : decode c.code g.pc = .ok (.invokestatic index, 3))
    (hpre : ∀ vm₁, s.WarmedH vm₁ → Pre ⟨T.setVm vm₁, locs, cells, slots⟩ argsL.toArray) :
    (∃ (v : Option Value) (vm₁ : Vm) (B : Pt), s.WarmedH vm₁ ∧ Stand p l e R s m args below meth c B.U B.locs B.cells B.slots ∧ Post ⟨T.setVm vm₁, locs, cells, slots⟩ argsL.toArray v B ∧
      ∀ target, Steps p.tables e below (B.U.setTop { g with pc := g.pc + 3, stack := v.toList ++ rest }) target → Steps p.tables e below (T.setTop g) target) ∨
    (∃ (q : Addr) (vm₁ : Vm) (B : Pt), s.WarmedH vm₁ ∧ Stand p l e R s m args below meth c B.U B.locs B.cells B.slots ∧ PostX ⟨T.setVm vm₁, locs, cells, slots⟩ argsL.toArray q B ∧
      Steps p.tables e below (T.setTop g) ((B.U.setTop { g with stack := rest }).pushFrame (.throwing q))) := by
  obtain ⟨mk, methM, cM, hnamed, hmethM, -, -, -, -, -, -, hsigM⟩ := Cond.codeWith_spec hcode
  have hstatic : methM.isStatic = true := Cond.static_spec hnamed hmethM hstat
  obtain ⟨kP, hkP, -⟩ := className_of_methodNamed hnamed
  have hinitP : kP.init = .initialized := Cond.initialized_spec (findClass_of_methodNamed hnamed) hkP hinit
  obtain ⟨vm₁, X₁, hstep₁⟩ := X.invokestatic hexec hown hlink hnamed hmethM hstatic hkP hinitP hy (g := g) hg (argsL := argsL) (rest := rest) (hlen _ hsigM) hstack hdg
  rcases hK m meth c ⟨T.setVm vm₁, locs, cells, slots⟩ { g with stack := rest } (.invokestatic index) mk argsL.toArray X₁ hg hsize hdg hW (X₁.named hnamed) (hpre vm₁ X₁.warmed) with ⟨v, B, X', hpost, hsteps⟩ | ⟨q, B, X', hpost, hsteps⟩
  · exact Or.inl ⟨v, vm₁, B, X₁.warmed, X', hpost, fun target h => hstep₁ _ fun acts => by rw [doInvoke_state]; exact hsteps.trans h⟩
  · exact Or.inr ⟨q, vm₁, B, X₁.warmed, X', hpost, hstep₁ _ fun acts => by rw [doInvoke_state]; exact hsteps⟩
theorem vx_callVW (X : Stand p l e R s m args below meth c T locs cells slots) (hexec : p.tables.exec = Jvm.exec) {own C : String} {index : Nat} {y : MethodName} {bytes : ByteArray} {maxL : Nat} {ret : Option FieldType} {hh : List (Nat × Nat × Nat × Nat)}
    (hown : s.vm.findClass own = some m.cls) (hlink : (Cond.methodLink own index y).before args s = true) (hinst : (Cond.instanceMethod y).before args s = true) (hsel : (Cond.selects C y y).before args s = true)
    (hcode : (Cond.codeWith y bytes maxL ret hh).before args s = true) (hy : y.cls ≠ "java/lang/invoke/MethodHandle" ∧ y.cls ≠ "java/lang/invoke/VarHandle")
    {W9 : Nat} {Pre : Pt → Array Value → Prop} {Post : Pt → Array Value → Option Value → Pt → Prop} (hK : Back l R p e below s args y 3 W9 Pre Post)
    {b : Addr} {cellB : Cell} (hcell : T.heap[b]? = some cellB) (hobj : cellB.vm.isStatics = false) (hcls : s.vm.findClass C = some cellB.cls)
    {g : JFrame} (hg : g.method = m) (hsize : g.locals.size = c.maxLocals) {argsL rest : List Value} (hlen : ∀ sig, parseMethodDescriptor y.desc = some sig → argsL.length = sig.parameters.length)
    (hstack : g.stack = argsL.reverse ++ .ref b :: rest) (hW : 2 * g.monitorRoom + (rest.map fun v => v.category).sum ≤ W9) (hdg : decode c.code g.pc = .ok (.invokevirtual index, 3))
    (hpre : ∀ vm₁, s.WarmedH vm₁ → Pre ⟨T.setVm vm₁, locs, cells, slots⟩ (Value.ref b :: argsL).toArray) :
    ∃ (v : Option Value) (vm₁ : Vm) (B : Pt), s.WarmedH vm₁ ∧ Stand p l e R s m args below meth c B.U B.locs B.cells B.slots ∧ Post ⟨T.setVm vm₁, locs, cells, slots⟩ (Value.ref b :: argsL).toArray v B ∧
      ∀ target, Steps p.tables e below (B.U.setTop { g with pc := g.pc + 3, stack := v.toList ++ rest }) target → Steps p.tables e below (T.setTop g) target := by
  obtain ⟨mk, methM, hnamed, hmethM, hstM, habM⟩ := Cond.instanceMethod_spec hinst
  obtain ⟨m8, methM', cM, hn8, hmethM', -, -, -, -, -, -, hsigM⟩ := Cond.codeWith_spec hcode
  cases Option.some.inj (hn8.symm.trans hnamed)
  cases hmethM.symm.trans hmethM'
  obtain ⟨c2, r2, m2, q1, q2, q3, q4, kP, hkP, hkPi⟩ := Cond.selects_spec hsel
  cases hcls.symm.trans q1
  cases (State.methodFound?_of_named hnamed hy).symm.trans q2
  cases hnamed.symm.trans q3
  have hselP : selectMethod e.platform s.vm cellB.cls mk = .method mk := by rw [Launch.admits_selectMethod X.admits]; exact q4
  obtain ⟨vm₁, X₁, hstep₁⟩ := X.invokevirtual hexec hown hlink hnamed hmethM hstM hkP hkPi hy (a := b) (cell := cellB) hcell
    (fun z h => by rw [h] at hobj; cases hobj) hselP hmethM habM hkP hkPi (g := g) hg (argsL := argsL) (rest := rest) (hlen _ hsigM) hstack hdg
  obtain ⟨v, B, X', hpost, hsteps⟩ := hK m meth c ⟨T.setVm vm₁, locs, cells, slots⟩ { g with stack := rest } (.invokevirtual index) mk (Value.ref b :: argsL).toArray X₁ hg hsize hdg hW (X₁.named hnamed) (hpre vm₁ X₁.warmed)
  exact ⟨v, vm₁, B, X₁.warmed, X', hpost, fun target h => hstep₁ _ fun acts => by rw [doInvoke_state]; exact hsteps.trans h⟩
abbrev vx_CVW (R : Room) (s : State) (args : Array Value) (own C : String) (index : Nat) (y : MethodName) (bytes : ByteArray) (maxL : Nat) (ret : Option FieldType) (hh : List (Nat × Nat × Nat × Nat)) (ws : List Cond) (rm : Room) (mc ms n : Nat) : Prop :=
  (rm.cells = mc ∧ rm.slots = ms ∧ rm.frames + 1 ≤ R.frames ∧ 8 + (maxL + 11) + rm.locals ≤ R.locals ∧ (∀ w ∈ ws, ∀ (a' : Array Value) (U : State), s.WarmedH U.vm → w.before a' U = true) ∧ Cond.codeWith y bytes maxL ret hh ∈ ws) ∧
  (Cond.codeWith y bytes maxL ret hh).before args s = true ∧ (Cond.initialized y.cls).before args s = true ∧ (y.cls ≠ "java/lang/invoke/MethodHandle" ∧ y.cls ≠ "java/lang/invoke/VarHandle") ∧
  (∀ sig, parseMethodDescriptor y.desc = some sig → n = sig.parameters.length) ∧ (Cond.methodLink own index y).before args s = true ∧ (Cond.instanceMethod y).before args s = true ∧ (Cond.selects C y y).before args s = true
theorem vx_cwVW {own C : String} {index maxL mc ms : Nat} {y : MethodName} {bytes : ByteArray} {ret : Option FieldType} {hh : List (Nat × Nat × Nat × Nat)} {Ts ws ws' : List Cond} {rm : Room} (n : Nat) (ht : ∀ w ∈ Ts, w.before args s = true) (hT : GoodIn Ts (wsV own index C y ws)) (hw : ws = Cond.codeWith y bytes maxL ret hh :: ws') (hrc : rm.cells = mc) (hrs : rm.slots = ms)
    (hd : y.cls = C ∧ y.cls ≠ "java/lang/invoke/MethodHandle" ∧ y.cls ≠ "java/lang/invoke/VarHandle" ∧ (parseMethodDescriptor y.desc).map (fun d => d.parameters.length) = some n) (hR : rm.frames + 1 ≤ R.frames ∧ 8 + (maxL + 11) + rm.locals ≤ R.locals) :
    vx_CVW R s args own C index y bytes maxL ret hh ws rm mc ms n := by
  obtain ⟨hC, hd⟩ := hd
  subst hC
  have ok : ∀ w ∈ wsV own index y.cls y ws, w.before args s = true := fun w h => ht w (hT w h).1
  have hG : GoodIn Ts ws := fun w h => hT w (by unfold wsV; exact List.mem_append_right _ h)
  have hc : Cond.codeWith y bytes maxL ret hh ∈ ws := by rw [hw]; exact List.mem_cons_self
  refine ⟨⟨hrc, hrs, hR.1, hR.2, pay_in ht hG, hc⟩, ht _ (hG _ hc).1, ok _ (by simp [wsV]), ⟨hd.1, hd.2.1⟩, fun sig h => ?_, ok _ (by simp [wsV]), ok _ (by simp [wsV]), ok _ (by simp [wsV])⟩
  have h2 := hd.2.2
  rw [h] at h2
  exact (Option.some.inj h2).symm
theorem vx_runVW {y : MethodName} {bytes cc : ByteArray} {maxL nL mc ms n index : Nat} {ret : Option FieldType} {hh : List (Nat × Nat × Nat × Nat)} {ws : List Cond} {rm : Room} {Pc : Array Value → State → Prop} {Qc : Array Value → State → Outcome → State → Prop} {free : Addr → Prop} {Ts : List Cond} {own C : String} {b : Addr} {As rest : List Value} {g : JFrame}
    (S : CallFix p m c cc nL s args Ts own) (hM : Met l y ws rm Pc Qc mc ms free) (cw : vx_CVW R s args own C index y bytes maxL ret hh ws rm mc ms n) (hp : PreV s H C b Pc As)
    (hg : g.method = m) (hn : As.length = n) (hsize : g.locals.size = nL) (hstack : g.stack = As.reverse ++ .ref b :: rest) (hW : 2 * g.monitorRoom + (rest.map fun v => v.category).sum ≤ 8) (hdg : decode cc g.pc = .ok (.invokevirtual index, 3)) (hf : cells + mc ≤ R.cells ∧ slots + ms ≤ R.slots) :
    va_Run p l e R s m args below meth c H locs cells slots mc ms g rest (Qc (Value.ref b :: As).toArray) free := by
  obtain ⟨⟨hrc, hrs, hfr, hlo, hws, hcw⟩, hcode, hini, hy, hlen, hl, hin, hse⟩ := cw
  have hK : Back l R p e below s args y 3 8 (PreOf R mc ms Pc) (PostOf Qc mc ms free) := va_backW (hh := hh) (bytes := bytes) (maxL := maxL) (ret := ret) hM hp.1 hrc hrs hfr hlo hws hcw (fun a' U hW => word_at hW (Or.inl (by first | rfl | simp [Cond.onTables, Cond.keeps, Cond.steady])) hini)
  obtain ⟨hx, hb, hml, ho, -⟩ := S
  obtain ⟨-, ⟨cellB, hcB, hoB, hclB⟩, hPc⟩ := hp
  intro T hT X
  obtain ⟨v, vm₁, ⟨U', l2, c2, s2⟩, hW₁, X', ⟨g', mk, t, L, e1, e2, hq, h1, hL, h2, h3⟩, st⟩ := vx_callVW X hx (C := C) (hh := hh) (bytes := bytes) (maxL := maxL) (ret := ret) ho hl hin hse hcode hy hK (by rw [hT]; exact hcB) hoB hclB hg (hsize.trans hml.symm) (argsL := As) (rest := rest) (fun sig h => hn.trans (hlen sig h)) hstack hW (by rw [hb]; exact hdg)
    (fun vm₁ hW₁ => ⟨hf.1, hf.2, hPc (T.setVm vm₁) hT hW₁⟩)
  dsimp only [Pt.U, Pt.locs, Pt.cells, Pt.slots] at X' e1 e2 h1 h2 h3 st
  subst h1; subst h2; subst h3
  exact ⟨v, (T.setVm vm₁).calling g' mk (Value.ref b :: As).toArray, t, U', L, hT, X', hL, e1, e2, hq, st⟩
section
variable {y : MethodName} {bytes cc : ByteArray} {maxL nL mc ms n index : Nat} {ret : Option FieldType} {ws : List Cond} {rm : Room} {Pc : Array Value → State → Prop} {Qc : Array Value → State → Outcome → State → Prop} {XC : String → State → State → Prop} {free : Addr → Prop} {Ts : List Cond} {own C : String} {b : Addr} {As rest : List Value} {g : JFrame}
theorem vx_runVX {hh : List (Nat × Nat × Nat × Nat)} (S : CallFix p m c cc nL s args Ts own) (hM : vx_Met l y ws rm Pc Qc XC mc ms free) (cw : vx_CVW R s args own C index y bytes maxL ret hh ws rm mc ms n) (hp : PreV s H C b Pc As)
    (hg : g.method = m) (hn : As.length = n) (hsize : g.locals.size = nL) (hstack : g.stack = As.reverse ++ .ref b :: rest) (hW : 2 * g.monitorRoom + (rest.map fun v => v.category).sum ≤ 8) (hdg : decode cc g.pc = .ok (.invokevirtual index, 3)) (hf : cells + mc ≤ R.cells ∧ slots + ms ≤ R.slots) :
    vx_Run p l e R s m args below meth c H locs cells slots mc ms g rest (Qc (Value.ref b :: As).toArray) XC free := by
  obtain ⟨⟨hrc, hrs, hfr, hlo, hws, hcw⟩, hcode, hini, hy, hlen, hl, hin, hse⟩ := cw
  have hK : vx_Back l R p e below s args y 3 8 (PreOf R mc ms Pc) (PostOf Qc mc ms free) (vx_Post XC mc ms free) := vx_backW (hh := hh) (bytes := bytes) (maxL := maxL) (ret := ret) hM hp.1 hrc hrs hfr hlo hws hcw (fun a' U hW => word_at hW (Or.inl (by first | rfl | simp [Cond.onTables, Cond.keeps, Cond.steady])) hini)
  obtain ⟨hx, hb, hml, ho, -⟩ := S
  obtain ⟨-, ⟨cellB, hcB, hoB, hclB⟩, hPc⟩ := hp
  intro T hT X
  rcases vx_callVX X hx (C := C) (hh := hh) (bytes := bytes) (maxL := maxL) (ret := ret) ho hl hin hse hcode hy hK (by rw [hT]; exact hcB) hoB hclB hg (hsize.trans hml.symm) (argsL := As) (rest := rest) (fun sig h => hn.trans (hlen sig h)) hstack hW (by rw [hb]; exact hdg)
    (fun vm₁ hW₁ => ⟨hf.1, hf.2, hPc (T.setVm vm₁) hT hW₁⟩) with ⟨v, vm₁, ⟨U', l2, c2, s2⟩, hW₁, X', ⟨g', mk, t, L, e1, e2, hq, h1, hL, h2, h3⟩, st⟩ | ⟨q, vm₁, ⟨U', l2, c2, s2⟩, hW₁, X', ⟨g', mk, t, L, E, ce, e1, e2, hq, hce, hcv, hcl, h1, hL, h2, h3⟩, st⟩
  · dsimp only [Pt.U, Pt.locs, Pt.cells, Pt.slots] at X' e1 e2 h1 h2 h3 st
    subst h1; subst h2; subst h3
    exact Or.inl ⟨v, (T.setVm vm₁).calling g' mk (Value.ref b :: As).toArray, t, U', L, hT, X', hL, e1, e2, hq, st⟩
  · dsimp only [Pt.U, Pt.locs, Pt.cells, Pt.slots] at X' e1 e2 h1 h2 h3 st hcl
    subst h1; subst h2; subst h3
    exact Or.inr ⟨q, (T.setVm vm₁).calling g' mk (Value.ref b :: As).toArray, t, U', L, E, ce, hT, X', hL, e1, e2, hq, hce, hcv, vx_cls hW₁ hcl, st⟩
theorem vx_runSX {hh : List (Nat × Nat × Nat × Nat)} (S : CallFix p m c cc nL s args Ts own) (hM : vx_Met l y ws rm Pc Qc XC mc ms free) (cw : vx_CSW R s args own index y bytes maxL ret hh ws rm mc ms n) (hp : PreS s H Pc As)
    (hg : g.method = m) (hn : As.length = n) (hsize : g.locals.size = nL) (hstack : g.stack = As.reverse ++ rest) (hW : 2 * g.monitorRoom + (rest.map fun v => v.category).sum ≤ 8) (hdg : decode cc g.pc = .ok (.invokestatic index, 3)) (hf : cells + mc ≤ R.cells ∧ slots + ms ≤ R.slots) :
    vx_Run p l e R s m args below meth c H locs cells slots mc ms g rest (Qc As.toArray) XC free := by
  obtain ⟨⟨hrc, hrs, hfr, hlo, hws, hcw⟩, hcode, hini, hy, hlen, hl, hstt⟩ := cw
  have hK : vx_Back l R p e below s args y 3 8 (PreOf R mc ms Pc) (PostOf Qc mc ms free) (vx_Post XC mc ms free) := vx_backW (hh := hh) (bytes := bytes) (maxL := maxL) (ret := ret) hM hp.1 hrc hrs hfr hlo hws hcw (fun a' U hW => word_at hW (Or.inl (by first | rfl | simp [Cond.onTables, Cond.keeps, Cond.steady])) hini)
  obtain ⟨hx, hb, hml, ho, -⟩ := S
  intro T hT X
  rcases vx_callSX X hx (hh := hh) (bytes := bytes) (maxL := maxL) (ret := ret) ho hl hstt hini hcode hy hK hg (hsize.trans hml.symm) (argsL := As) (rest := rest) (fun sig h => hn.trans (hlen sig h)) hstack hW (by rw [hb]; exact hdg)
    (fun vm₁ hW₁ => ⟨hf.1, hf.2, hp.2 (T.setVm vm₁) hT hW₁⟩) with ⟨v, vm₁, ⟨U', l2, c2, s2⟩, hW₁, X', ⟨g', mk, t, L, e1, e2, hq, h1, hL, h2, h3⟩, st⟩ | ⟨q, vm₁, ⟨U', l2, c2, s2⟩, hW₁, X', ⟨g', mk, t, L, E, ce, e1, e2, hq, hce, hcv, hcl, h1, hL, h2, h3⟩, st⟩
  · dsimp only [Pt.U, Pt.locs, Pt.cells, Pt.slots] at X' e1 e2 h1 h2 h3 st
    subst h1; subst h2; subst h3
    exact Or.inl ⟨v, (T.setVm vm₁).calling g' mk As.toArray, t, U', L, hT, X', hL, e1, e2, hq, st⟩
  · dsimp only [Pt.U, Pt.locs, Pt.cells, Pt.slots] at X' e1 e2 h1 h2 h3 st hcl
    subst h1; subst h2; subst h3
    exact Or.inr ⟨q, (T.setVm vm₁).calling g' mk As.toArray, t, U', L, E, ce, hT, X', hL, e1, e2, hq, hce, hcv, vx_cls hW₁ hcl, st⟩
end
end VXH
theorem vx_ofWH {l : Launch} {y : MethodName} {ws ws' : List Cond} {rm : Room} {Pc : Array Value → State → Prop} {Qc : Array Value → State → Outcome → State → Prop} {XC : String → State → State → Prop} {mc ms : Nat} {free : Addr → Prop} {cc : ByteArray} {maxL : Nat} {ret : Option FieldType} {hh : List (Nat × Nat × Nat × Nat)}
    (hy : plainName y.cls = true) (hw : ws = Cond.codeWith y cc maxL ret hh :: ws')
    (body : ∀ p e s m args below meth c s₁, BodyLoose p l y (headSpec ws rm) cc maxL ret e s m args below meth c s₁ → c.maxLocals = maxL → Pc args s →
      W p l e (headSpec ws rm).room s m args below meth c s.heap [] 0 0 (vx_MQ below Qc XC args s mc ms free) (entryFrame m args maxL)) : vx_Met l y ws rm Pc Qc XC mc ms free := by
  refine MetFree.of_bodyS (code := cc) (maxLocals := maxL) (ret := ret) hy ?_ ?_
  · intro args s m h hn
    obtain ⟨m9, meth, c, hn9, h1, h2, h3, h4, -, h5, h6, -⟩ := Cond.codeWith_spec (atoms_spec (ws := ws) h _ (by rw [hw]; exact List.mem_cons_self))
    cases hn.symm.trans hn9
    exact ⟨meth, c, h1, h2, h3, h4, h5, h6⟩
  · intro p e s m args below meth c s₁ B hml hP _
    have hh0 : s₁.heap = s.heap := by rw [B.state]; rfl
    obtain ⟨t, a1, o, b1, b2, b3⟩ := body p e s m args below meth c s₁ B hml hP s₁ hh0 (Stand.of_body B)
    exact ⟨t, o, a1, b1, b2, b3⟩
/-! ===== END ===== -/
end
section
/-! whole numbers as ints (iI) and longs (lI) of the machine -/
def iI (z : Int) : Int32 := Int32.ofInt z
def lI (z : Int) : Int64 := Int64.ofInt z
abbrev r32 (z : Int) : Prop := -2147483648 ≤ z ∧ z ≤ 2147483647
abbrev r64 (z : Int) : Prop := -9223372036854775808 ≤ z ∧ z ≤ 9223372036854775807
theorem iI_toInt {z : Int} (h : r32 z) : (iI z).toInt = z := Int32.toInt_ofInt_of_le (by have := h.1; omega) (by have := h.2; omega)
theorem lI_toInt {z : Int} (h : r64 z) : (lI z).toInt = z := Int64.toInt_ofInt_of_le (by have := h.1; omega) (by have := h.2; omega)
theorem iI_of (x : Int32) : ∃ z : Int, r32 z ∧ x = iI z := ⟨x.toInt, ⟨by have := x.le_toInt; omega, by have := x.toInt_lt; omega⟩, (Int32.ofInt_toInt x).symm⟩
theorem iI_add (a b : Int) : iI a + iI b = iI (a + b) := (Int32.ofInt_add a b).symm
theorem iI_sub (a b : Int) : iI a - iI b = iI (a - b) := (Int32.ofInt_sub a b).symm
theorem iI_mul (a b : Int) : iI a * iI b = iI (a * b) := (Int32.ofInt_mul a b).symm
theorem iI_neg (a : Int) : -iI a = iI (-a) := (Int32.ofInt_neg a).symm
theorem lI_add (a b : Int) : lI a + lI b = lI (a + b) := (Int64.ofInt_add a b).symm
theorem lI_sub (a b : Int) : lI a - lI b = lI (a - b) := (Int64.ofInt_sub a b).symm
theorem lI_mul (a b : Int) : lI a * lI b = lI (a * b) := (Int64.ofInt_mul a b).symm
theorem lI_neg (a : Int) : -lI a = lI (-a) := (Int64.ofInt_neg a).symm
theorem iI_eq {a b : Int} (ha : r32 a) (hb : r32 b) : iI a = iI b ↔ a = b := ⟨fun h => by rw [← iI_toInt ha, ← iI_toInt hb, h], fun h => by rw [h]⟩
theorem iI_lt {a b : Int} (ha : r32 a) (hb : r32 b) : iI a < iI b ↔ a < b := by rw [Int32.lt_iff_toInt_lt, iI_toInt ha, iI_toInt hb]
theorem iI_le {a b : Int} (ha : r32 a) (hb : r32 b) : iI a ≤ iI b ↔ a ≤ b := by rw [Int32.le_iff_toInt_le, iI_toInt ha, iI_toInt hb]
theorem lI_eq {a b : Int} (ha : r64 a) (hb : r64 b) : lI a = lI b ↔ a = b := ⟨fun h => by rw [← lI_toInt ha, ← lI_toInt hb, h], fun h => by rw [h]⟩
theorem lI_lt {a b : Int} (ha : r64 a) (hb : r64 b) : lI a < lI b ↔ a < b := by rw [Int64.lt_iff_toInt_lt, lI_toInt ha, lI_toInt hb]
theorem lI_le {a b : Int} (ha : r64 a) (hb : r64 b) : lI a ≤ lI b ↔ a ≤ b := by rw [Int64.le_iff_toInt_le, lI_toInt ha, lI_toInt hb]
theorem iI_0 : iI 0 = 0 := rfl
theorem r32_0 : r32 0 := ⟨by decide, by decide⟩
theorem iI_eq0 {a : Int} (ha : r32 a) : iI a = 0 ↔ a = 0 := by rw [← iI_0]; exact iI_eq ha r32_0
theorem iI_lt0 {a : Int} (ha : r32 a) : iI a < 0 ↔ a < 0 := by rw [← iI_0]; exact iI_lt ha r32_0
theorem iI_le0 {a : Int} (ha : r32 a) : iI a ≤ 0 ↔ a ≤ 0 := by rw [← iI_0]; exact iI_le ha r32_0
theorem iI_0lt {a : Int} (ha : r32 a) : 0 < iI a ↔ 0 < a := by rw [← iI_0]; exact iI_lt r32_0 ha
theorem iI_0le {a : Int} (ha : r32 a) : 0 ≤ iI a ↔ 0 ≤ a := by rw [← iI_0]; exact iI_le r32_0 ha
theorem iI_div {a b : Int} (ha : r32 a) (hb : r32 b) (h : a ≠ -2147483648) : iI a / iI b = iI (a.tdiv b) := by
  apply Int32.toInt_inj.mp
  have hm : iI a ≠ Int32.minValue := fun q => h (by rw [← iI_toInt ha, q]; rfl)
  rw [Int32.toInt_div_of_ne_left _ _ hm, iI_toInt ha, iI_toInt hb, iI_toInt]
  have h1 := Int.natAbs_tdiv_le_natAbs a b
  have := ha.1
  have := ha.2
  constructor <;> omega
theorem iI_rem {a b : Int} (ha : r32 a) (hb : r32 b) : iI a - iI a / iI b * iI b = iI (a.tmod b) := by
  apply Int32.toInt_inj.mp
  rw [rem_toInt, iI_toInt ha, iI_toInt hb, iI_toInt]
  have h1 := Int.natAbs_tmod a b
  have h2 : a.natAbs % b.natAbs ≤ a.natAbs := Nat.mod_le _ _
  have := ha.1
  have := ha.2
  rcases Int.lt_or_le a 0 with q | q
  · have h3 : 0 ≤ (-a).tmod b := Int.tmod_nonneg _ (by omega)
    rw [Int.neg_tmod] at h3
    constructor <;> omega
  · have h3 : 0 ≤ a.tmod b := Int.tmod_nonneg _ q
    constructor <;> omega
theorem iI_long {a : Int} (ha : r32 a) : (iI a).toInt64 = lI a := by
  apply Int64.toInt_inj.mp
  rw [Int32.toInt_toInt64, iI_toInt ha, lI_toInt]
  have := ha.1
  have := ha.2
  constructor <;> omega
theorem iI_nat {k : Int} (h : 0 ≤ k) (h2 : k ≤ 2147483647) : (iI k).toNatClampNeg = k.toNat := by
  have e : (iI k).toInt = k := iI_toInt ⟨by omega, h2⟩
  show (iI k).toInt.toNat = k.toNat
  rw [e]
theorem vp_in_iI {k : Int} {n : Nat} (h : 0 ≤ k) (h2 : k < n) (hn : n < 2147483648) : vp_in (iI k) n := by
  rw [vp_in_iff, iI_toInt ⟨by omega, by omega⟩]
  exact ⟨h, h2⟩
/-- the contents of an array of ints -/
def aI (N : Int → Int) : Nat → Int32 := fun j => iI (N (j : Int))
/-- one number of them is another one -/
def iu (N : Int → Int) (k x : Int) : Int → Int := fun j => if j = k then x else N j
theorem iu_s {N : Int → Int} {k x : Int} : iu N k x k = x := if_pos rfl
theorem iu_n {N : Int → Int} {k x j : Int} (h : j ≠ k) : iu N k x j = N j := if_neg h
theorem aI_at {N : Int → Int} {k : Int} (h : 0 ≤ k) (h2 : k ≤ 2147483647) : aI N (iI k).toNatClampNeg = iI (N k) := by
  rw [iI_nat h h2]
  show iI (N ((k.toNat : Nat) : Int)) = iI (N k)
  rw [Int.toNat_of_nonneg h]
theorem aI_up {N : Int → Int} {k x : Int} (h : 0 ≤ k) (h2 : k ≤ 2147483647) : upd (aI N) (iI k).toNatClampNeg (iI x) = aI (iu N k x) := by
  funext j
  rw [iI_nat h h2]
  show (if j = k.toNat then iI x else iI (N (j : Int))) = iI (if (j : Int) = k then x else N (j : Int))
  by_cases q : j = k.toNat
  · rw [if_pos q, if_pos (by omega)]
  · rw [if_neg q, if_neg (by omega)]
section IX
variable {p : Program} {l : Launch} {e : Env} {R : Room} {s : State} {m : MethodId} {args : Array Value} {below : List Frame} {meth : Method} {c : Code} {H : Heap} {locs : List Loc} {cells slots : Nat} {Q : State → Prop} {cc : ByteArray} {pc : Nat} {ls : Array Slot} {rest : List Value}
theorem ix_iadd (hexec : p.tables.exec = Jvm.exec) (hb : c.code = cc) {x y : Int} (hdg : decode cc pc = .ok (.iadd, 1)) (k : W p l e R s m args below meth c H locs cells slots Q (F0 m (pc + 1) ls (.int (iI (x + y)) :: rest))) : W p l e R s m args below meth c H locs cells slots Q (F0 m pc ls (.int (iI y) :: .int (iI x) :: rest)) := lv_iadd hexec hb hdg (by rw [iI_add]; exact k)
theorem ix_isub (hexec : p.tables.exec = Jvm.exec) (hb : c.code = cc) {x y : Int} (hdg : decode cc pc = .ok (.isub, 1)) (k : W p l e R s m args below meth c H locs cells slots Q (F0 m (pc + 1) ls (.int (iI (x - y)) :: rest))) : W p l e R s m args below meth c H locs cells slots Q (F0 m pc ls (.int (iI y) :: .int (iI x) :: rest)) := lv_isub hexec hb hdg (by rw [iI_sub]; exact k)
theorem ix_imul (hexec : p.tables.exec = Jvm.exec) (hb : c.code = cc) {x y : Int} (hdg : decode cc pc = .ok (.imul, 1)) (k : W p l e R s m args below meth c H locs cells slots Q (F0 m (pc + 1) ls (.int (iI (x * y)) :: rest))) : W p l e R s m args below meth c H locs cells slots Q (F0 m pc ls (.int (iI y) :: .int (iI x) :: rest)) := lv_imul hexec hb hdg (by rw [iI_mul]; exact k)
theorem ix_ineg (hexec : p.tables.exec = Jvm.exec) (hb : c.code = cc) {x : Int} (hdg : decode cc pc = .ok (.ineg, 1)) (k : W p l e R s m args below meth c H locs cells slots Q (F0 m (pc + 1) ls (.int (iI (-x)) :: rest))) : W p l e R s m args below meth c H locs cells slots Q (F0 m pc ls (.int (iI x) :: rest)) := lv_ineg hexec hb hdg (by rw [iI_neg]; exact k)
theorem ix_idiv (hexec : p.tables.exec = Jvm.exec) (hb : c.code = cc) {x y : Int} (hdg : decode cc pc = .ok (.idiv, 1)) (hx : r32 x) (hy : r32 y) (hm : x ≠ -2147483648) (hne : y ≠ 0) (k : W p l e R s m args below meth c H locs cells slots Q (F0 m (pc + 1) ls (.int (iI (x.tdiv y)) :: rest))) : W p l e R s m args below meth c H locs cells slots Q (F0 m pc ls (.int (iI y) :: .int (iI x) :: rest)) := lv_idiv hexec hb hdg (fun q => hne ((iI_eq0 hy).mp q)) (by rw [iI_div hx hy hm]; exact k)
theorem ix_irem (hexec : p.tables.exec = Jvm.exec) (hb : c.code = cc) {x y : Int} (hdg : decode cc pc = .ok (.irem, 1)) (hx : r32 x) (hy : r32 y) (hne : y ≠ 0) (k : W p l e R s m args below meth c H locs cells slots Q (F0 m (pc + 1) ls (.int (iI (x.tmod y)) :: rest))) : W p l e R s m args below meth c H locs cells slots Q (F0 m pc ls (.int (iI y) :: .int (iI x) :: rest)) := lv_irem hexec hb hdg (fun q => hne ((iI_eq0 hy).mp q)) (by rw [iI_rem hx hy]; exact k)
theorem ix_ladd (hexec : p.tables.exec = Jvm.exec) (hb : c.code = cc) {x y : Int} (hdg : decode cc pc = .ok (.ladd, 1)) (k : W p l e R s m args below meth c H locs cells slots Q (F0 m (pc + 1) ls (.long (lI (x + y)) :: rest))) : W p l e R s m args below meth c H locs cells slots Q (F0 m pc ls (.long (lI y) :: .long (lI x) :: rest)) := lv_ladd hexec hb hdg (by rw [lI_add]; exact k)
theorem ix_lsub (hexec : p.tables.exec = Jvm.exec) (hb : c.code = cc) {x y : Int} (hdg : decode cc pc = .ok (.lsub, 1)) (k : W p l e R s m args below meth c H locs cells slots Q (F0 m (pc + 1) ls (.long (lI (x - y)) :: rest))) : W p l e R s m args below meth c H locs cells slots Q (F0 m pc ls (.long (lI y) :: .long (lI x) :: rest)) := lv_lsub hexec hb hdg (by rw [lI_sub]; exact k)
theorem ix_lmul (hexec : p.tables.exec = Jvm.exec) (hb : c.code = cc) {x y : Int} (hdg : decode cc pc = .ok (.lmul, 1)) (k : W p l e R s m args below meth c H locs cells slots Q (F0 m (pc + 1) ls (.long (lI (x * y)) :: rest))) : W p l e R s m args below meth c H locs cells slots Q (F0 m pc ls (.long (lI y) :: .long (lI x) :: rest)) := lv_lmul hexec hb hdg (by rw [lI_mul]; exact k)
theorem ix_lneg (hexec : p.tables.exec = Jvm.exec) (hb : c.code = cc) {x : Int} (hdg : decode cc pc = .ok (.lneg, 1)) (k : W p l e R s m args below meth c H locs cells slots Q (F0 m (pc + 1) ls (.long (lI (-x)) :: rest))) : W p l e R s m args below meth c H locs cells slots Q (F0 m pc ls (.long (lI x) :: rest)) := lv_lneg hexec hb hdg (by rw [lI_neg]; exact k)
theorem ix_i2l (hexec : p.tables.exec = Jvm.exec) (hb : c.code = cc) {x : Int} (hdg : decode cc pc = .ok (.i2l, 1)) (hx : r32 x) (k : W p l e R s m args below meth c H locs cells slots Q (F0 m (pc + 1) ls (.long (lI x) :: rest))) : W p l e R s m args below meth c H locs cells slots Q (F0 m pc ls (.int (iI x) :: rest)) := lv_i2l hexec hb hdg (iI_long hx) k
theorem ix_iconst (hexec : p.tables.exec = Jvm.exec) (hb : c.code = cc) {n : Int} (hdg : decode cc pc = .ok (.iconst n, 1)) (k : W p l e R s m args below meth c H locs cells slots Q (F0 m (pc + 1) ls (.int (iI n) :: rest))) : W p l e R s m args below meth c H locs cells slots Q (F0 m pc ls (rest)) := lv_iconst hexec hb hdg rfl k
theorem ix_bipush (hexec : p.tables.exec = Jvm.exec) (hb : c.code = cc) {n : Int} (hdg : decode cc pc = .ok (.bipush n, 2)) (hv : (Int8.ofInt n).toInt32 = iI n) (k : W p l e R s m args below meth c H locs cells slots Q (F0 m (pc + 2) ls (.int (iI n) :: rest))) : W p l e R s m args below meth c H locs cells slots Q (F0 m pc ls (rest)) := lv_bipush hexec hb hdg hv k
theorem ix_sipush (hexec : p.tables.exec = Jvm.exec) (hb : c.code = cc) {n : Int} (hdg : decode cc pc = .ok (.sipush n, 3)) (hv : (Int16.ofInt n).toInt32 = iI n) (k : W p l e R s m args below meth c H locs cells slots Q (F0 m (pc + 3) ls (.int (iI n) :: rest))) : W p l e R s m args below meth c H locs cells slots Q (F0 m pc ls (rest)) := lv_sipush hexec hb hdg hv k
theorem ix_iinc (hexec : p.tables.exec = Jvm.exec) (hb : c.code = cc) {i nL k : Nat} {n : Int} {x : Int} {lv lv2 : List (Nat × Value)} (hdg : decode cc pc = .ok (.iinc i n, 3)) (h : lv_has ls nL lv) (hk : lv[k]? = some (i, .int (iI x))) (hn : i < nL) (hl : (i, Value.int (iI (x + n))) :: lv.filter (fun q => !(q.1 == i) && !(q.1 + 1 == i && q.2.category == 2)) = lv2) (kk : ∀ ls2 : Array Slot, lv_has ls2 nL lv2 → W p l e R s m args below meth c H locs cells slots Q (F0 m (pc + 3) ls2 rest)) : W p l e R s m args below meth c H locs cells slots Q (F0 m pc ls rest) := lv_iinc hexec hb hdg h hk (iI_add x n) hn hl kk
theorem ix_if_eq (hexec : p.tables.exec = Jvm.exec) (hb : c.code = cc) {x : Int} {off : Int} {tgt : Nat} (hdg : decode cc pc = .ok (.ifCond .eq off, 3)) (ht : (pc : Int) + off = (tgt : Int)) (hx : r32 x) (kt : x = 0 → W p l e R s m args below meth c H locs cells slots Q (F0 m tgt ls (rest))) (kf : ¬ x = 0 → W p l e R s m args below meth c H locs cells slots Q (F0 m (pc + 3) ls (rest))) : W p l e R s m args below meth c H locs cells slots Q (F0 m pc ls (.int (iI x) :: rest)) := lv_if_eq hexec hb hdg ht (fun h => kt ((iI_eq0 hx).mp h)) (fun h => kf (fun h2 => h ((iI_eq0 hx).mpr h2)))
theorem ix_icmp_eq (hexec : p.tables.exec = Jvm.exec) (hb : c.code = cc) {x y : Int} {off : Int} {tgt : Nat} (hdg : decode cc pc = .ok (.if_icmp .eq off, 3)) (ht : (pc : Int) + off = (tgt : Int)) (hx : r32 x) (hy : r32 y) (kt : x = y → W p l e R s m args below meth c H locs cells slots Q (F0 m tgt ls (rest))) (kf : ¬ x = y → W p l e R s m args below meth c H locs cells slots Q (F0 m (pc + 3) ls (rest))) : W p l e R s m args below meth c H locs cells slots Q (F0 m pc ls (.int (iI y) :: .int (iI x) :: rest)) := lv_icmp_eq hexec hb hdg ht (fun h => kt ((iI_eq hx hy).mp h)) (fun h => kf (fun h2 => h ((iI_eq hx hy).mpr h2)))
theorem ix_if_lt (hexec : p.tables.exec = Jvm.exec) (hb : c.code = cc) {x : Int} {off : Int} {tgt : Nat} (hdg : decode cc pc = .ok (.ifCond .lt off, 3)) (ht : (pc : Int) + off = (tgt : Int)) (hx : r32 x) (kt : x < 0 → W p l e R s m args below meth c H locs cells slots Q (F0 m tgt ls (rest))) (kf : ¬ x < 0 → W p l e R s m args below meth c H locs cells slots Q (F0 m (pc + 3) ls (rest))) : W p l e R s m args below meth c H locs cells slots Q (F0 m pc ls (.int (iI x) :: rest)) := lv_if_lt hexec hb hdg ht (fun h => kt ((iI_lt0 hx).mp h)) (fun h => kf (fun h2 => h ((iI_lt0 hx).mpr h2)))
theorem ix_icmp_lt (hexec : p.tables.exec = Jvm.exec) (hb : c.code = cc) {x y : Int} {off : Int} {tgt : Nat} (hdg : decode cc pc = .ok (.if_icmp .lt off, 3)) (ht : (pc : Int) + off = (tgt : Int)) (hx : r32 x) (hy : r32 y) (kt : x < y → W p l e R s m args below meth c H locs cells slots Q (F0 m tgt ls (rest))) (kf : ¬ x < y → W p l e R s m args below meth c H locs cells slots Q (F0 m (pc + 3) ls (rest))) : W p l e R s m args below meth c H locs cells slots Q (F0 m pc ls (.int (iI y) :: .int (iI x) :: rest)) := lv_icmp_lt hexec hb hdg ht (fun h => kt ((iI_lt hx hy).mp h)) (fun h => kf (fun h2 => h ((iI_lt hx hy).mpr h2)))
theorem ix_if_le (hexec : p.tables.exec = Jvm.exec) (hb : c.code = cc) {x : Int} {off : Int} {tgt : Nat} (hdg : decode cc pc = .ok (.ifCond .le off, 3)) (ht : (pc : Int) + off = (tgt : Int)) (hx : r32 x) (kt : x ≤ 0 → W p l e R s m args below meth c H locs cells slots Q (F0 m tgt ls (rest))) (kf : ¬ x ≤ 0 → W p l e R s m args below meth c H locs cells slots Q (F0 m (pc + 3) ls (rest))) : W p l e R s m args below meth c H locs cells slots Q (F0 m pc ls (.int (iI x) :: rest)) := lv_if_le hexec hb hdg ht (fun h => kt ((iI_le0 hx).mp h)) (fun h => kf (fun h2 => h ((iI_le0 hx).mpr h2)))
theorem ix_icmp_le (hexec : p.tables.exec = Jvm.exec) (hb : c.code = cc) {x y : Int} {off : Int} {tgt : Nat} (hdg : decode cc pc = .ok (.if_icmp .le off, 3)) (ht : (pc : Int) + off = (tgt : Int)) (hx : r32 x) (hy : r32 y) (kt : x ≤ y → W p l e R s m args below meth c H locs cells slots Q (F0 m tgt ls (rest))) (kf : ¬ x ≤ y → W p l e R s m args below meth c H locs cells slots Q (F0 m (pc + 3) ls (rest))) : W p l e R s m args below meth c H locs cells slots Q (F0 m pc ls (.int (iI y) :: .int (iI x) :: rest)) := lv_icmp_le hexec hb hdg ht (fun h => kt ((iI_le hx hy).mp h)) (fun h => kf (fun h2 => h ((iI_le hx hy).mpr h2)))
theorem ix_if_gt (hexec : p.tables.exec = Jvm.exec) (hb : c.code = cc) {x : Int} {off : Int} {tgt : Nat} (hdg : decode cc pc = .ok (.ifCond .gt off, 3)) (ht : (pc : Int) + off = (tgt : Int)) (hx : r32 x) (kt : 0 < x → W p l e R s m args below meth c H locs cells slots Q (F0 m tgt ls (rest))) (kf : ¬ 0 < x → W p l e R s m args below meth c H locs cells slots Q (F0 m (pc + 3) ls (rest))) : W p l e R s m args below meth c H locs cells slots Q (F0 m pc ls (.int (iI x) :: rest)) := lv_if_gt hexec hb hdg ht (fun h => kt ((iI_0lt hx).mp h)) (fun h => kf (fun h2 => h ((iI_0lt hx).mpr h2)))
theorem ix_icmp_gt (hexec : p.tables.exec = Jvm.exec) (hb : c.code = cc) {x y : Int} {off : Int} {tgt : Nat} (hdg : decode cc pc = .ok (.if_icmp .gt off, 3)) (ht : (pc : Int) + off = (tgt : Int)) (hx : r32 x) (hy : r32 y) (kt : y < x → W p l e R s m args below meth c H locs cells slots Q (F0 m tgt ls (rest))) (kf : ¬ y < x → W p l e R s m args below meth c H locs cells slots Q (F0 m (pc + 3) ls (rest))) : W p l e R s m args below meth c H locs cells slots Q (F0 m pc ls (.int (iI y) :: .int (iI x) :: rest)) := lv_icmp_gt hexec hb hdg ht (fun h => kt ((iI_lt hy hx).mp h)) (fun h => kf (fun h2 => h ((iI_lt hy hx).mpr h2)))
theorem ix_if_ge (hexec : p.tables.exec = Jvm.exec) (hb : c.code = cc) {x : Int} {off : Int} {tgt : Nat} (hdg : decode cc pc = .ok (.ifCond .ge off, 3)) (ht : (pc : Int) + off = (tgt : Int)) (hx : r32 x) (kt : 0 ≤ x → W p l e R s m args below meth c H locs cells slots Q (F0 m tgt ls (rest))) (kf : ¬ 0 ≤ x → W p l e R s m args below meth c H locs cells slots Q (F0 m (pc + 3) ls (rest))) : W p l e R s m args below meth c H locs cells slots Q (F0 m pc ls (.int (iI x) :: rest)) := lv_if_ge hexec hb hdg ht (fun h => kt ((iI_0le hx).mp h)) (fun h => kf (fun h2 => h ((iI_0le hx).mpr h2)))
theorem ix_icmp_ge (hexec : p.tables.exec = Jvm.exec) (hb : c.code = cc) {x y : Int} {off : Int} {tgt : Nat} (hdg : decode cc pc = .ok (.if_icmp .ge off, 3)) (ht : (pc : Int) + off = (tgt : Int)) (hx : r32 x) (hy : r32 y) (kt : y ≤ x → W p l e R s m args below meth c H locs cells slots Q (F0 m tgt ls (rest))) (kf : ¬ y ≤ x → W p l e R s m args below meth c H locs cells slots Q (F0 m (pc + 3) ls (rest))) : W p l e R s m args below meth c H locs cells slots Q (F0 m pc ls (.int (iI y) :: .int (iI x) :: rest)) := lv_icmp_ge hexec hb hdg ht (fun h => kt ((iI_le hy hx).mp h)) (fun h => kf (fun h2 => h ((iI_le hy hx).mpr h2)))
theorem ix_if_ne (hexec : p.tables.exec = Jvm.exec) (hb : c.code = cc) {x : Int} {off : Int} {tgt : Nat} (hdg : decode cc pc = .ok (.ifCond .ne off, 3)) (ht : (pc : Int) + off = (tgt : Int)) (hx : r32 x) (kt : ¬ x = 0 → W p l e R s m args below meth c H locs cells slots Q (F0 m tgt ls (rest))) (kf : x = 0 → W p l e R s m args below meth c H locs cells slots Q (F0 m (pc + 3) ls (rest))) : W p l e R s m args below meth c H locs cells slots Q (F0 m pc ls (.int (iI x) :: rest)) := lv_if_ne hexec hb hdg ht (fun h => kt (fun h2 => h ((iI_eq0 hx).mpr h2))) (fun h => kf ((iI_eq0 hx).mp h))
theorem ix_icmp_ne (hexec : p.tables.exec = Jvm.exec) (hb : c.code = cc) {x y : Int} {off : Int} {tgt : Nat} (hdg : decode cc pc = .ok (.if_icmp .ne off, 3)) (ht : (pc : Int) + off = (tgt : Int)) (hx : r32 x) (hy : r32 y) (kt : ¬ x = y → W p l e R s m args below meth c H locs cells slots Q (F0 m tgt ls (rest))) (kf : x = y → W p l e R s m args below meth c H locs cells slots Q (F0 m (pc + 3) ls (rest))) : W p l e R s m args below meth c H locs cells slots Q (F0 m pc ls (.int (iI y) :: .int (iI x) :: rest)) := lv_icmp_ne hexec hb hdg ht (fun h => kt (fun h2 => h ((iI_eq hx hy).mpr h2))) (fun h => kf ((iI_eq hx hy).mp h))
theorem ix_eq {v : Int32} {x : Int} (h : v = iI x) (k : W p l e R s m args below meth c H locs cells slots Q (F0 m pc ls (.int (iI x) :: rest))) : W p l e R s m args below meth c H locs cells slots Q (F0 m pc ls (.int v :: rest)) := by rw [h]; exact k
theorem ix_z {x y : Int} (h : x = y) (k : W p l e R s m args below meth c H locs cells slots Q (F0 m pc ls (.int (iI y) :: rest))) : W p l e R s m args below meth c H locs cells slots Q (F0 m pc ls (.int (iI x) :: rest)) := by rw [h]; exact k
theorem ix_zl {x y : Int} (h : x = y) (k : W p l e R s m args below meth c H locs cells slots Q (F0 m pc ls (.long (lI y) :: rest))) : W p l e R s m args below meth c H locs cells slots Q (F0 m pc ls (.long (lI x) :: rest)) := by rw [h]; exact k
theorem ix_mono {Q2 : State → Prop} {g : JFrame} (h : ∀ t, Q t → Q2 t) (k : W p l e R s m args below meth c H locs cells slots Q g) : W p l e R s m args below meth c H locs cells slots Q2 g := fun T hT X => by obtain ⟨t, a, b⟩ := k T hT X; exact ⟨t, a, h t b⟩
variable {D : va_G} {cl : List vw_C} {ws : va_W} {tys : List (ClassId × FieldType)} {A : Nat → Prop} {H0 : Heap} {a : Nat}
theorem ix_iald (hexec : p.tables.exec = Jvm.exec) (hb : c.code = cc) (hK : va_K D cl tys s) (hP : va_P D cl ws H) (q0 t0 : Nat) {cA : ClassId} {n : Nat} {N : Int → Int} (ha : ws[q0]? = some (a, .inl (cA, n, .inl (aI N)))) (ht : tys[t0]? = some (cA, .int)) {k : Int} (h0 : 0 ≤ k) (h1 : k < n) (hn : n < 2147483648) (hdg : decode cc pc = .ok (.iaload, 1)) (kk : W p l e R s m args below meth c H locs cells slots Q (F0 m (pc + 1) ls (.int (iI (N k)) :: rest))) : W p l e R s m args below meth c H locs cells slots Q (F0 m pc ls (.int (iI k) :: .ref a :: rest)) := va_iald hexec hb hK hP q0 t0 ha ht (vp_in_iI h0 h1 hn) hdg (by rw [aI_at h0 (by omega)]; exact kk)
theorem ix_iast (hexec : p.tables.exec = Jvm.exec) (hb : c.code = cc) (hK : va_K D cl tys s) (hP : va_P D cl ws H) (hD : va_D A ws) (hS : va_S A H0 H locs) (q0 t0 : Nat) {cA : ClassId} {n : Nat} {N : Int → Int} (ha : ws[q0]? = some (a, .inl (cA, n, .inl (aI N)))) (ht : tys[t0]? = some (cA, .int)) {k x : Int} (h0 : 0 ≤ k) (h1 : k < n) (hn : n < 2147483648) (hdg : decode cc pc = .ok (.iastore, 1)) (kk : ∀ (H1 : Heap) (locs1 : List Loc), va_P D cl (ws.set q0 (a, .inl (cA, n, .inl (aI (iu N k x))))) H1 → va_D A (ws.set q0 (a, .inl (cA, n, .inl (aI (iu N k x))))) → va_S A H0 H1 locs1 → W p l e R s m args below meth c H1 locs1 cells slots Q (F0 m (pc + 1) ls rest)) : W p l e R s m args below meth c H locs cells slots Q (F0 m pc ls (.int (iI x) :: .int (iI k) :: .ref a :: rest)) := va_iast hexec hb hK hP hD hS q0 t0 ha ht (vp_in_iI h0 h1 hn) hdg (fun H1 locs1 b1 b2 b3 => kk H1 locs1 (by rw [← aI_up h0 (by omega)]; exact b1) (by rw [← aI_up h0 (by omega)]; exact b2) b3)
end IX
end
section
abbrev RX0 : String := "RadicalAnswers$Factor"
def TX0 : u_T := fun k => match k with
  | 0 => ("RadicalAnswers$Factor", "times", "I", false)
  | 1 => ("RadicalAnswers$Factor", "a", "I", false)
  | 2 => ("RadicalAnswers$Factor", "b", "I", false)
  | 3 => ("RadicalAnswers$Factor", "c", "I", false)
  | 4 => ("RadicalAnswers$Factor", "outside", "I", false)
  | _ => ("RadicalAnswers$Factor", "inside", "I", false)
def tyX0 : Nat → FieldType := fun k => match k with
  | 0 => .int
  | 1 => .int
  | 2 => .int
  | 3 => .int
  | 4 => .int
  | _ => .int
theorem nmX0 : ∀ a, a < 6 → ∀ b, b < 6 → a ≠ b → (TX0 a).2.1 ≠ (TX0 b).2.1 := by decide +kernel
theorem tyX0_ok : ∀ k, k < 6 → parseFieldDescriptor (TX0 k).2.2.1 = some (tyX0 k) := by decide +kernel
abbrev RX1 : String := "RadicalAnswers"
def TX1 : u_T := fun k => match k with
  | 0 => ("RadicalAnswers", "numbers", "[I", true)
  | 1 => ("RadicalAnswers", "rest", "[I", true)
  | 2 => ("RadicalAnswers", "draft", "[I", true)
  | 3 => ("RadicalAnswers", "found", "[LRadicalAnswers$Factor;", true)
  | 4 => ("RadicalAnswers", "foundCount", "I", false)
  | 5 => ("RadicalAnswers", "commonNumber", "I", false)
  | _ => ("RadicalAnswers", "isSplit", "Z", false)
def tyX1 : Nat → FieldType := fun k => match k with
  | 0 => .array .int
  | 1 => .array .int
  | 2 => .array .int
  | 3 => .array (.object "RadicalAnswers$Factor")
  | 4 => .int
  | 5 => .int
  | _ => .boolean
theorem nmX1 : ∀ a, a < 7 → ∀ b, b < 7 → a ≠ b → (TX1 a).2.1 ≠ (TX1 b).2.1 := by decide +kernel
theorem tyX1_ok : ∀ k, k < 7 → parseFieldDescriptor (TX1 k).2.2.1 = some (tyX1 k) := by decide +kernel
abbrev RX2 : String := "RadicalAnswersModel"
def TX2 : u_T := fun k => match k with
  | 0 => ("RadicalAnswersModel", "code", "I", false)
  | 1 => ("RadicalAnswersModel", "numbers", "[I", true)
  | 2 => ("RadicalAnswersModel", "rest", "[J", true)
  | 3 => ("RadicalAnswersModel", "quotient", "[J", true)
  | 4 => ("RadicalAnswersModel", "content", "I", false)
  | 5 => ("RadicalAnswersModel", "factors", "I", false)
  | 6 => ("RadicalAnswersModel", "as", "[I", true)
  | 7 => ("RadicalAnswersModel", "bs", "[I", true)
  | 8 => ("RadicalAnswersModel", "cs", "[I", true)
  | 9 => ("RadicalAnswersModel", "often", "[I", true)
  | 10 => ("RadicalAnswersModel", "pUp", "J", false)
  | 11 => ("RadicalAnswersModel", "pDown", "J", false)
  | 12 => ("RadicalAnswersModel", "qUp", "J", false)
  | 13 => ("RadicalAnswersModel", "qDown", "J", false)
  | 14 => ("RadicalAnswersModel", "square", "J", false)
  | 15 => ("RadicalAnswersModel", "up", "J", false)
  | _ => ("RadicalAnswersModel", "down", "J", false)
def tyX2 : Nat → FieldType := fun k => match k with
  | 0 => .int
  | 1 => .array .int
  | 2 => .array .long
  | 3 => .array .long
  | 4 => .int
  | 5 => .int
  | 6 => .array .int
  | 7 => .array .int
  | 8 => .array .int
  | 9 => .array .int
  | 10 => .long
  | 11 => .long
  | 12 => .long
  | 13 => .long
  | 14 => .long
  | 15 => .long
  | _ => .long
theorem nmX2 : ∀ a, a < 17 → ∀ b, b < 17 → a ≠ b → (TX2 a).2.1 ≠ (TX2 b).2.1 := by decide +kernel
theorem tyX2_ok : ∀ k, k < 17 → parseFieldDescriptor (TX2 k).2.2.1 = some (tyX2 k) := by decide +kernel
abbrev RL : String := "RadicalAnswersLaw"
abbrev vwCl : List vw_C := [(RX0, TX0, 6), (RX1, TX1, 7), (RX2, TX2, 17)]
abbrev cX1_init : ByteArray := prog_1_method_1_code
abbrev yX1_init : MethodName := ⟨RX1, "<init>", "()V"⟩
abbrev cX1_put : ByteArray := prog_1_method_2_code
abbrev yX1_put : MethodName := ⟨RX1, "put", "(II)Z"⟩
abbrev cX1_at : ByteArray := prog_1_method_3_code
abbrev yX1_at : MethodName := ⟨RX1, "at", "(I)I"⟩
abbrev cX1_change : ByteArray := prog_1_method_4_code
abbrev yX1_change : MethodName := ⟨RX1, "change", "(I)Z"⟩
abbrev cX1_factors : ByteArray := prog_1_method_5_code
abbrev yX1_factors : MethodName := ⟨RX1, "factors", "()I"⟩
abbrev cX1_factor : ByteArray := prog_1_method_6_code
abbrev yX1_factor : MethodName := ⟨RX1, "factor", "(II)I"⟩
abbrev cX1_content : ByteArray := prog_1_method_7_code
abbrev yX1_content : MethodName := ⟨RX1, "content", "()I"⟩
abbrev cX1_left : ByteArray := prog_1_method_8_code
abbrev yX1_left : MethodName := ⟨RX1, "left", "(I)I"⟩
abbrev cX1_answer : ByteArray := prog_1_method_9_code
abbrev yX1_answer : MethodName := ⟨RX1, "answer", "(III)I"⟩
abbrev cX1_real : ByteArray := prog_1_method_10_code
abbrev yX1_real : MethodName := ⟨RX1, "real", "()I"⟩
abbrev cX1_floor : ByteArray := prog_1_method_11_code
abbrev yX1_floor : MethodName := ⟨RX1, "floor", "(IZ)I"⟩
abbrev cX1_compare : ByteArray := prog_1_method_12_code
abbrev yX1_compare : MethodName := ⟨RX1, "compare", "(IZIZ)I"⟩
abbrev cX1_clear : ByteArray := prog_1_method_13_code
abbrev yX1_clear : MethodName := ⟨RX1, "clear", "()V"⟩
abbrev cX1_checkPower : ByteArray := prog_1_method_14_code
abbrev yX1_checkPower : MethodName := ⟨RX1, "checkPower", "(I)V"⟩
abbrev cX1_checkReal : ByteArray := prog_1_method_15_code
abbrev yX1_checkReal : MethodName := ⟨RX1, "checkReal", "(LRadicalAnswers$Factor;)V"⟩
abbrev cX1_isInLimits : ByteArray := prog_1_method_16_code
abbrev yX1_isInLimits : MethodName := ⟨RX1, "isInLimits", "(I)Z"⟩
abbrev cX1_numbered : ByteArray := prog_1_method_17_code
abbrev yX1_numbered : MethodName := ⟨RX1, "numbered", "(I)LRadicalAnswers$Factor;"⟩
abbrev cX1_draftChange : ByteArray := prog_1_method_18_code
abbrev yX1_draftChange : MethodName := ⟨RX1, "draftChange", "(II)V"⟩
abbrev cX1_draftShift : ByteArray := prog_1_method_19_code
abbrev yX1_draftShift : MethodName := ⟨RX1, "draftShift", "(I)V"⟩
abbrev cX1_split : ByteArray := prog_1_method_20_code
abbrev yX1_split : MethodName := ⟨RX1, "split", "()V"⟩
abbrev cX1_takeOutContent : ByteArray := prog_1_method_21_code
abbrev yX1_takeOutContent : MethodName := ⟨RX1, "takeOutContent", "(I)V"⟩
abbrev cX1_takeOutLinearFactors : ByteArray := prog_1_method_22_code
abbrev yX1_takeOutLinearFactors : MethodName := ⟨RX1, "takeOutLinearFactors", "()V"⟩
abbrev cX1_takeOutQuadraticFactors : ByteArray := prog_1_method_23_code
abbrev yX1_takeOutQuadraticFactors : MethodName := ⟨RX1, "takeOutQuadraticFactors", "()V"⟩
abbrev cX1_takeOut : ByteArray := prog_1_method_24_code
abbrev yX1_takeOut : MethodName := ⟨RX1, "takeOut", "(III)V"⟩
abbrev cX1_divideRest : ByteArray := prog_1_method_25_code
abbrev yX1_divideRest : MethodName := ⟨RX1, "divideRest", "(III)Z"⟩
abbrev cX1_addFactor : ByteArray := prog_1_method_26_code
abbrev yX1_addFactor : MethodName := ⟨RX1, "addFactor", "(IIII)V"⟩
abbrev cX1_degreeOf : ByteArray := prog_1_method_27_code
abbrev yX1_degreeOf : MethodName := ⟨RX1, "degreeOf", "([I)I"⟩
abbrev cX1_commonDivisor : ByteArray := prog_1_method_28_code
abbrev yX1_commonDivisor : MethodName := ⟨RX1, "commonDivisor", "(II)I"⟩
abbrev cX1_greatestSquareDividing : ByteArray := prog_1_method_29_code
abbrev yX1_greatestSquareDividing : MethodName := ⟨RX1, "greatestSquareDividing", "(I)I"⟩
abbrev cX1_wholeRoot : ByteArray := prog_1_method_30_code
abbrev yX1_wholeRoot : MethodName := ⟨RX1, "wholeRoot", "(I)I"⟩
abbrev cX1_signOfSum : ByteArray := prog_1_method_31_code
abbrev yX1_signOfSum : MethodName := ⟨RX1, "signOfSum", "(JJJJJ)I"⟩
abbrev cX1_signOfRoots : ByteArray := prog_1_method_32_code
abbrev yX1_signOfRoots : MethodName := ⟨RX1, "signOfRoots", "(JJJJ)I"⟩
abbrev cX1_signedSquare : ByteArray := prog_1_method_33_code
abbrev yX1_signedSquare : MethodName := ⟨RX1, "signedSquare", "(J)J"⟩
abbrev cX2_init : ByteArray := prog_4_method_1_code
abbrev yX2_init : MethodName := ⟨RX2, "<init>", "()V"⟩
abbrev cX2_thrown : ByteArray := prog_4_method_2_code
abbrev yX2_thrown : MethodName := ⟨RX2, "thrown", "()I"⟩
abbrev cX2_raise : ByteArray := prog_4_method_3_code
abbrev yX2_raise : MethodName := ⟨RX2, "raise", "(I)I"⟩
abbrev cX2_in : ByteArray := prog_4_method_4_code
abbrev yX2_in : MethodName := ⟨RX2, "in", "(JJJ)Z"⟩
abbrev cX2_size : ByteArray := prog_4_method_5_code
abbrev yX2_size : MethodName := ⟨RX2, "size", "(J)J"⟩
abbrev cX2_divisor : ByteArray := prog_4_method_6_code
abbrev yX2_divisor : MethodName := ⟨RX2, "divisor", "(JJ)J"⟩
abbrev cX2_lowest : ByteArray := prog_4_method_7_code
abbrev yX2_lowest : MethodName := ⟨RX2, "lowest", "(JJ)V"⟩
abbrev cX2_put : ByteArray := prog_4_method_8_code
abbrev yX2_put : MethodName := ⟨RX2, "put", "(II)Z"⟩
abbrev cX2_at : ByteArray := prog_4_method_9_code
abbrev yX2_at : MethodName := ⟨RX2, "at", "(I)I"⟩
abbrev cX2_clear : ByteArray := prog_4_method_10_code
abbrev yX2_clear : MethodName := ⟨RX2, "clear", "()V"⟩
abbrev cX2_degree : ByteArray := prog_4_method_11_code
abbrev yX2_degree : MethodName := ⟨RX2, "degree", "()I"⟩
abbrev cX2_change : ByteArray := prog_4_method_12_code
abbrev yX2_change : MethodName := ⟨RX2, "change", "(I)Z"⟩
abbrev cX2_restDegree : ByteArray := prog_4_method_13_code
abbrev yX2_restDegree : MethodName := ⟨RX2, "restDegree", "()I"⟩
abbrev cX2_divides : ByteArray := prog_4_method_14_code
abbrev yX2_divides : MethodName := ⟨RX2, "divides", "(III)Z"⟩
abbrev cX2_take : ByteArray := prog_4_method_15_code
abbrev yX2_take : MethodName := ⟨RX2, "take", "(III)V"⟩
abbrev cX2_order : ByteArray := prog_4_method_16_code
abbrev yX2_order : MethodName := ⟨RX2, "order", "()V"⟩
abbrev cX2_isNone : ByteArray := prog_4_method_17_code
abbrev yX2_isNone : MethodName := ⟨RX2, "isNone", "()Z"⟩
abbrev cX2_find : ByteArray := prog_4_method_18_code
abbrev yX2_find : MethodName := ⟨RX2, "find", "()V"⟩
abbrev cX2_factors : ByteArray := prog_4_method_19_code
abbrev yX2_factors : MethodName := ⟨RX2, "factors", "()I"⟩
abbrev cX2_isFactor : ByteArray := prog_4_method_20_code
abbrev yX2_isFactor : MethodName := ⟨RX2, "isFactor", "(I)Z"⟩
abbrev cX2_answerOf : ByteArray := prog_4_method_21_code
abbrev yX2_answerOf : MethodName := ⟨RX2, "answerOf", "(I)V"⟩
abbrev cX2_factor : ByteArray := prog_4_method_22_code
abbrev yX2_factor : MethodName := ⟨RX2, "factor", "(II)I"⟩
abbrev cX2_content : ByteArray := prog_4_method_23_code
abbrev yX2_content : MethodName := ⟨RX2, "content", "()I"⟩
abbrev cX2_left : ByteArray := prog_4_method_24_code
abbrev yX2_left : MethodName := ⟨RX2, "left", "(I)I"⟩
abbrev cX2_answer : ByteArray := prog_4_method_25_code
abbrev yX2_answer : MethodName := ⟨RX2, "answer", "(III)I"⟩
abbrev cX2_isReal : ByteArray := prog_4_method_26_code
abbrev yX2_isReal : MethodName := ⟨RX2, "isReal", "(I)Z"⟩
abbrev cX2_real : ByteArray := prog_4_method_27_code
abbrev yX2_real : MethodName := ⟨RX2, "real", "()I"⟩
abbrev cX2_sign : ByteArray := prog_4_method_28_code
abbrev yX2_sign : MethodName := ⟨RX2, "sign", "(IZJJ)I"⟩
abbrev cX2_floor : ByteArray := prog_4_method_29_code
abbrev yX2_floor : MethodName := ⟨RX2, "floor", "(IZ)I"⟩
abbrev cX2_compare : ByteArray := prog_4_method_30_code
abbrev yX2_compare : MethodName := ⟨RX2, "compare", "(IZIZ)I"⟩
abbrev cX2_leading : ByteArray := prog_4_method_31_code
abbrev yX2_leading : MethodName := ⟨RX2, "leading", "(I)J"⟩
abbrev cX2_middle : ByteArray := prog_4_method_32_code
abbrev yX2_middle : MethodName := ⟨RX2, "middle", "(I)J"⟩
abbrev cX2_under : ByteArray := prog_4_method_33_code
abbrev yX2_under : MethodName := ⟨RX2, "under", "(I)J"⟩
abbrev cX2_signOf : ByteArray := prog_4_method_34_code
abbrev yX2_signOf : MethodName := ⟨RX2, "signOf", "(J)I"⟩
abbrev cX2_rootSign : ByteArray := prog_4_method_35_code
abbrev yX2_rootSign : MethodName := ⟨RX2, "rootSign", "(JJJ)I"⟩
abbrev cX2_allSign : ByteArray := prog_4_method_36_code
abbrev yX2_allSign : MethodName := ⟨RX2, "allSign", "(JJJJJ)I"⟩
abbrev cX0_init : ByteArray := prog_2_method_1_code
abbrev yX0_init : MethodName := ⟨RX0, "<init>", "()V"⟩
abbrev cX0_become : ByteArray := prog_2_method_2_code
abbrev yX0_become : MethodName := ⟨RX0, "become", "(IIII)V"⟩
abbrev cX0_isLinear : ByteArray := prog_2_method_3_code
abbrev yX0_isLinear : MethodName := ⟨RX0, "isLinear", "()Z"⟩
abbrev cX0_isReal : ByteArray := prog_2_method_4_code
abbrev yX0_isReal : MethodName := ⟨RX0, "isReal", "()Z"⟩
abbrev cX0_middle : ByteArray := prog_2_method_5_code
abbrev yX0_middle : MethodName := ⟨RX0, "middle", "()I"⟩
abbrev cX0_under : ByteArray := prog_2_method_6_code
abbrev yX0_under : MethodName := ⟨RX0, "under", "()I"⟩
abbrev cX0_below : ByteArray := prog_2_method_7_code
abbrev yX0_below : MethodName := ⟨RX0, "below", "()I"⟩
abbrev cX0_standsBefore : ByteArray := prog_2_method_8_code
abbrev yX0_standsBefore : MethodName := ⟨RX0, "standsBefore", "(LRadicalAnswers$Factor;)Z"⟩
abbrev cL_put : ByteArray := method_3_code
abbrev yL_put : MethodName := ⟨RL, "put", "(LRadicalAnswers;II[J)I"⟩
abbrev cL_at : ByteArray := method_4_code
abbrev yL_at : MethodName := ⟨RL, "at", "(LRadicalAnswers;I[J)I"⟩
abbrev cL_change : ByteArray := method_5_code
abbrev yL_change : MethodName := ⟨RL, "change", "(LRadicalAnswers;I[J)I"⟩
abbrev cL_factors : ByteArray := method_6_code
abbrev yL_factors : MethodName := ⟨RL, "factors", "(LRadicalAnswers;[J)I"⟩
abbrev cL_factor : ByteArray := method_7_code
abbrev yL_factor : MethodName := ⟨RL, "factor", "(LRadicalAnswers;II[J)I"⟩
abbrev cL_content : ByteArray := method_8_code
abbrev yL_content : MethodName := ⟨RL, "content", "(LRadicalAnswers;[J)I"⟩
abbrev cL_left : ByteArray := method_9_code
abbrev yL_left : MethodName := ⟨RL, "left", "(LRadicalAnswers;I[J)I"⟩
abbrev cL_answer : ByteArray := method_10_code
abbrev yL_answer : MethodName := ⟨RL, "answer", "(LRadicalAnswers;III[J)I"⟩
abbrev cL_real : ByteArray := method_11_code
abbrev yL_real : MethodName := ⟨RL, "real", "(LRadicalAnswers;[J)I"⟩
abbrev cL_floor : ByteArray := method_12_code
abbrev yL_floor : MethodName := ⟨RL, "floor", "(LRadicalAnswers;IZ[J)I"⟩
abbrev cL_compare : ByteArray := method_13_code
abbrev yL_compare : MethodName := ⟨RL, "compare", "(LRadicalAnswers;IZIZ[J)I"⟩
abbrev cL_law : ByteArray := code
abbrev yL_law : MethodName := ⟨RL, "law", "([I)Z"⟩
/-- the words that every method may use and hand on -/
def wsA : List Cond := lw_tbl.filter goodWord
/-- the others: they hold as long as the tables only grow -/
def wsB : List Cond := lw_tbl.filter (fun w => !goodWord w)
theorem wsA_t {w : Cond} (h : w ∈ tables_1) (g : goodWord w = true) : w ∈ wsA := List.mem_filter.mpr ⟨List.mem_append_right _ h, g⟩
theorem wsA_p {w : Cond} (h : w ∈ k2_sels lw_privs) (g : goodWord w = true) : w ∈ wsA := List.mem_filter.mpr ⟨List.mem_append_left _ h, g⟩
theorem wsB_t {w : Cond} (h : w ∈ tables_1) (g : goodWord w = false) : w ∈ wsB := List.mem_filter.mpr ⟨List.mem_append_right _ h, by rw [g]; rfl⟩
theorem wsA_good : GoodIn wsA wsA := fun w h => ⟨h, good_of_word (List.mem_filter.mp h).2⟩
theorem wsA_sub {k : Cond} (h : k ∈ wsA) : GoodIn wsA (k :: wsA) := fun w q => (List.mem_cons.mp q).elim (fun e => by rw [e]; exact wsA_good k h) (fun q => wsA_good w q)
theorem gS {own : String} {idx : Nat} {y : MethodName} {k : Cond} (h1 : Cond.methodLink own idx y ∈ wsA) (h2 : Cond.static y ∈ wsA) (h3 : Cond.initialized own ∈ wsA) (h4 : k ∈ wsA) : GoodIn wsA (wsS own idx y (k :: wsA)) := fun w q => by
  simp only [wsS, List.cons_append, List.nil_append, List.mem_cons] at q
  rcases q with rfl | rfl | rfl | rfl | q
  · exact wsA_good _ h1
  · exact wsA_good _ h2
  · exact wsA_good _ h3
  · exact wsA_good _ h4
  · exact wsA_good _ q
theorem gV {own C : String} {idx : Nat} {y : MethodName} {k : Cond} (h1 : Cond.methodLink own idx y ∈ wsA) (h2 : Cond.instanceMethod y ∈ wsA) (h3 : Cond.selects C y y ∈ wsA) (h5 : Cond.initialized C ∈ wsA) (h4 : k ∈ wsA) : GoodIn wsA (wsV own idx C y (k :: wsA)) := fun w q => by
  simp only [wsV, List.cons_append, List.nil_append, List.mem_cons] at q
  rcases q with rfl | rfl | rfl | rfl | rfl | q
  · exact wsA_good _ h1
  · exact wsA_good _ h2
  · exact wsA_good _ h3
  · exact wsA_good _ h5
  · exact wsA_good _ h4
  · exact wsA_good _ q
end
section
theorem mA_0 : Cond.initialized "RadicalAnswersLaw" ∈ wsA := wsA_t (List.mem_of_getElem? (i := 0) (by decide +kernel)) (by decide +kernel)
theorem mA_1 : Cond.initialized "RadicalAnswers" ∈ wsA := wsA_t (List.mem_of_getElem? (i := 1) (by decide +kernel)) (by decide +kernel)
theorem mA_2 : Cond.initialized "RadicalAnswers$Factor" ∈ wsA := wsA_t (List.mem_of_getElem? (i := 2) (by decide +kernel)) (by decide +kernel)
theorem mA_3 : Cond.initialized "RadicalAnswersModel" ∈ wsA := wsA_t (List.mem_of_getElem? (i := 3) (by decide +kernel)) (by decide +kernel)
theorem mA_4 : Cond.initialized "java/lang/Throwable" ∈ wsA := wsA_t (List.mem_of_getElem? (i := 4) (by decide +kernel)) (by decide +kernel)
theorem mA_5 : Cond.initialized "java/lang/Exception" ∈ wsA := wsA_t (List.mem_of_getElem? (i := 5) (by decide +kernel)) (by decide +kernel)
theorem mA_6 : Cond.initialized "java/lang/RuntimeException" ∈ wsA := wsA_t (List.mem_of_getElem? (i := 6) (by decide +kernel)) (by decide +kernel)
theorem mA_7 : Cond.initialized "java/lang/IndexOutOfBoundsException" ∈ wsA := wsA_t (List.mem_of_getElem? (i := 7) (by decide +kernel)) (by decide +kernel)
theorem mA_8 : Cond.initialized "java/lang/IllegalArgumentException" ∈ wsA := wsA_t (List.mem_of_getElem? (i := 8) (by decide +kernel)) (by decide +kernel)
theorem mA_9 : Cond.initialized "java/lang/System" ∈ wsA := wsA_t (List.mem_of_getElem? (i := 9) (by decide +kernel)) (by decide +kernel)
theorem mA_10 : Cond.initialized "java/lang/IllegalStateException" ∈ wsA := wsA_t (List.mem_of_getElem? (i := 10) (by decide +kernel)) (by decide +kernel)
theorem mA_11 : Cond.initialized "java/lang/Math" ∈ wsA := wsA_t (List.mem_of_getElem? (i := 11) (by decide +kernel)) (by decide +kernel)
theorem mA_12 : Cond.classLink "RadicalAnswersLaw" (8 : Nat) "RadicalAnswers" ∈ wsA := wsA_t (List.mem_of_getElem? (i := 12) (by decide +kernel)) (by decide +kernel)
theorem mA_13 : Cond.instantiable "RadicalAnswers" (7 : Nat) ∈ wsA := wsA_t (List.mem_of_getElem? (i := 13) (by decide +kernel)) (by decide +kernel)
theorem mA_14 : Cond.methodLink "RadicalAnswersLaw" (56 : Nat) (⟨"RadicalAnswers", "<init>", "()V"⟩ : MethodName) ∈ wsA := wsA_t (List.mem_of_getElem? (i := 14) (by decide +kernel)) (by decide +kernel)
theorem mA_15 : Cond.instanceMethod (⟨"RadicalAnswers", "<init>", "()V"⟩ : MethodName) ∈ wsA := wsA_t (List.mem_of_getElem? (i := 15) (by decide +kernel)) (by decide +kernel)
theorem mA_16 : Cond.code (⟨"RadicalAnswers", "<init>", "()V"⟩ : MethodName) prog_1_method_1_code (2 : Nat) (Option.none : Option Jvm.ClassFile.FieldType) ∈ wsA := wsA_t (List.mem_of_getElem? (i := 16) (by decide +kernel)) (by decide +kernel)
theorem mA_17 : Cond.methodLink "RadicalAnswers" (1 : Nat) (⟨"java/lang/Object", "<init>", "()V"⟩ : MethodName) ∈ wsA := wsA_t (List.mem_of_getElem? (i := 17) (by decide +kernel)) (by decide +kernel)
theorem mA_18 : Cond.instanceMethod (⟨"java/lang/Object", "<init>", "()V"⟩ : MethodName) ∈ wsA := wsA_t (List.mem_of_getElem? (i := 18) (by decide +kernel)) (by decide +kernel)
theorem mA_19 : Cond.code (⟨"java/lang/Object", "<init>", "()V"⟩ : MethodName) object_method_1_code (1 : Nat) (Option.none : Option Jvm.ClassFile.FieldType) ∈ wsA := wsA_t (List.mem_of_getElem? (i := 19) (by decide +kernel)) (by decide +kernel)
theorem mA_20 : Cond.classLink "RadicalAnswers" (19 : Nat) "RadicalAnswers$Factor" ∈ wsA := wsA_t (List.mem_of_getElem? (i := 20) (by decide +kernel)) (by decide +kernel)
theorem mA_22 : Cond.instantiable "RadicalAnswers$Factor" (6 : Nat) ∈ wsA := wsA_t (List.mem_of_getElem? (i := 22) (by decide +kernel)) (by decide +kernel)
theorem mA_24 : Cond.instanceMethod (⟨"RadicalAnswers$Factor", "<init>", "()V"⟩ : MethodName) ∈ wsA := wsA_t (List.mem_of_getElem? (i := 24) (by decide +kernel)) (by decide +kernel)
theorem mA_25 : Cond.code (⟨"RadicalAnswers$Factor", "<init>", "()V"⟩ : MethodName) prog_2_method_1_code (1 : Nat) (Option.none : Option Jvm.ClassFile.FieldType) ∈ wsA := wsA_t (List.mem_of_getElem? (i := 25) (by decide +kernel)) (by decide +kernel)
theorem mA_26 : Cond.methodLink "RadicalAnswers$Factor" (1 : Nat) (⟨"java/lang/Object", "<init>", "()V"⟩ : MethodName) ∈ wsA := wsA_t (List.mem_of_getElem? (i := 26) (by decide +kernel)) (by decide +kernel)
theorem mA_27 : Cond.fieldLink "RadicalAnswers$Factor" (19 : Nat) "RadicalAnswers$Factor" "times" "I" ∈ wsA := wsA_t (List.mem_of_getElem? (i := 27) (by decide +kernel)) (by decide +kernel)
theorem mA_29 : Cond.fieldLink "RadicalAnswers$Factor" (7 : Nat) "RadicalAnswers$Factor" "a" "I" ∈ wsA := wsA_t (List.mem_of_getElem? (i := 29) (by decide +kernel)) (by decide +kernel)
theorem mA_31 : Cond.fieldLink "RadicalAnswers$Factor" (13 : Nat) "RadicalAnswers$Factor" "b" "I" ∈ wsA := wsA_t (List.mem_of_getElem? (i := 31) (by decide +kernel)) (by decide +kernel)
theorem mA_33 : Cond.fieldLink "RadicalAnswers$Factor" (16 : Nat) "RadicalAnswers$Factor" "c" "I" ∈ wsA := wsA_t (List.mem_of_getElem? (i := 33) (by decide +kernel)) (by decide +kernel)
theorem mA_35 : Cond.fieldLink "RadicalAnswers$Factor" (28 : Nat) "RadicalAnswers$Factor" "outside" "I" ∈ wsA := wsA_t (List.mem_of_getElem? (i := 35) (by decide +kernel)) (by decide +kernel)
theorem mA_37 : Cond.fieldLink "RadicalAnswers$Factor" (31 : Nat) "RadicalAnswers$Factor" "inside" "I" ∈ wsA := wsA_t (List.mem_of_getElem? (i := 37) (by decide +kernel)) (by decide +kernel)
theorem mA_39 : Cond.lays "RadicalAnswers$Factor" "RadicalAnswers$Factor" "times" "I" ∈ wsA := wsA_t (List.mem_of_getElem? (i := 39) (by decide +kernel)) (by decide +kernel)
theorem mA_41 : Cond.lays "RadicalAnswers$Factor" "RadicalAnswers$Factor" "a" "I" ∈ wsA := wsA_t (List.mem_of_getElem? (i := 41) (by decide +kernel)) (by decide +kernel)
theorem mA_43 : Cond.lays "RadicalAnswers$Factor" "RadicalAnswers$Factor" "b" "I" ∈ wsA := wsA_t (List.mem_of_getElem? (i := 43) (by decide +kernel)) (by decide +kernel)
theorem mA_45 : Cond.lays "RadicalAnswers$Factor" "RadicalAnswers$Factor" "c" "I" ∈ wsA := wsA_t (List.mem_of_getElem? (i := 45) (by decide +kernel)) (by decide +kernel)
theorem mA_47 : Cond.lays "RadicalAnswers$Factor" "RadicalAnswers$Factor" "outside" "I" ∈ wsA := wsA_t (List.mem_of_getElem? (i := 47) (by decide +kernel)) (by decide +kernel)
theorem mA_49 : Cond.lays "RadicalAnswers$Factor" "RadicalAnswers$Factor" "inside" "I" ∈ wsA := wsA_t (List.mem_of_getElem? (i := 49) (by decide +kernel)) (by decide +kernel)
theorem mA_52 : Cond.arrayClass FieldType.int ∈ wsA := wsA_t (List.mem_of_getElem? (i := 52) (by decide +kernel)) (by decide +kernel)
theorem mA_53 : Cond.fieldLink "RadicalAnswers" (9 : Nat) "RadicalAnswers" "numbers" "[I" ∈ wsA := wsA_t (List.mem_of_getElem? (i := 53) (by decide +kernel)) (by decide +kernel)
theorem mA_54 : Cond.fieldLink "RadicalAnswers" (13 : Nat) "RadicalAnswers" "rest" "[I" ∈ wsA := wsA_t (List.mem_of_getElem? (i := 54) (by decide +kernel)) (by decide +kernel)
theorem mA_55 : Cond.fieldLink "RadicalAnswers" (16 : Nat) "RadicalAnswers" "draft" "[I" ∈ wsA := wsA_t (List.mem_of_getElem? (i := 55) (by decide +kernel)) (by decide +kernel)
theorem mA_56 : Cond.fieldLink "RadicalAnswers" (21 : Nat) "RadicalAnswers" "found" "[LRadicalAnswers$Factor;" ∈ wsA := wsA_t (List.mem_of_getElem? (i := 56) (by decide +kernel)) (by decide +kernel)
theorem mA_57 : Cond.fieldLink "RadicalAnswers" (64 : Nat) "RadicalAnswers" "foundCount" "I" ∈ wsA := wsA_t (List.mem_of_getElem? (i := 57) (by decide +kernel)) (by decide +kernel)
theorem mA_58 : Cond.fieldLink "RadicalAnswers" (93 : Nat) "RadicalAnswers" "commonNumber" "I" ∈ wsA := wsA_t (List.mem_of_getElem? (i := 58) (by decide +kernel)) (by decide +kernel)
theorem mA_59 : Cond.fieldLink "RadicalAnswers" (41 : Nat) "RadicalAnswers" "isSplit" "Z" ∈ wsA := wsA_t (List.mem_of_getElem? (i := 59) (by decide +kernel)) (by decide +kernel)
theorem mA_60 : Cond.laysFinal "RadicalAnswers" "RadicalAnswers" "numbers" "[I" ∈ wsA := wsA_t (List.mem_of_getElem? (i := 60) (by decide +kernel)) (by decide +kernel)
theorem mA_62 : Cond.laysFinal "RadicalAnswers" "RadicalAnswers" "rest" "[I" ∈ wsA := wsA_t (List.mem_of_getElem? (i := 62) (by decide +kernel)) (by decide +kernel)
theorem mA_64 : Cond.laysFinal "RadicalAnswers" "RadicalAnswers" "draft" "[I" ∈ wsA := wsA_t (List.mem_of_getElem? (i := 64) (by decide +kernel)) (by decide +kernel)
theorem mA_66 : Cond.laysFinal "RadicalAnswers" "RadicalAnswers" "found" "[LRadicalAnswers$Factor;" ∈ wsA := wsA_t (List.mem_of_getElem? (i := 66) (by decide +kernel)) (by decide +kernel)
theorem mA_68 : Cond.lays "RadicalAnswers" "RadicalAnswers" "foundCount" "I" ∈ wsA := wsA_t (List.mem_of_getElem? (i := 68) (by decide +kernel)) (by decide +kernel)
theorem mA_70 : Cond.lays "RadicalAnswers" "RadicalAnswers" "commonNumber" "I" ∈ wsA := wsA_t (List.mem_of_getElem? (i := 70) (by decide +kernel)) (by decide +kernel)
theorem mA_72 : Cond.lays "RadicalAnswers" "RadicalAnswers" "isSplit" "Z" ∈ wsA := wsA_t (List.mem_of_getElem? (i := 72) (by decide +kernel)) (by decide +kernel)
theorem mA_75 : Cond.methodLink "RadicalAnswersLaw" (104 : Nat) (⟨"RadicalAnswers", "clear", "()V"⟩ : MethodName) ∈ wsA := wsA_t (List.mem_of_getElem? (i := 75) (by decide +kernel)) (by decide +kernel)
theorem mA_76 : Cond.instanceMethod (⟨"RadicalAnswers", "clear", "()V"⟩ : MethodName) ∈ wsA := wsA_t (List.mem_of_getElem? (i := 76) (by decide +kernel)) (by decide +kernel)
theorem mA_77 : Cond.selects "RadicalAnswers" (⟨"RadicalAnswers", "clear", "()V"⟩ : MethodName) (⟨"RadicalAnswers", "clear", "()V"⟩ : MethodName) ∈ wsA := wsA_t (List.mem_of_getElem? (i := 77) (by decide +kernel)) (by decide +kernel)
theorem mA_78 : Cond.code (⟨"RadicalAnswers", "clear", "()V"⟩ : MethodName) prog_1_method_13_code (2 : Nat) (Option.none : Option Jvm.ClassFile.FieldType) ∈ wsA := wsA_t (List.mem_of_getElem? (i := 78) (by decide +kernel)) (by decide +kernel)
theorem mA_79 : Cond.methodLink "RadicalAnswersLaw" (60 : Nat) (⟨"RadicalAnswersLaw", "put", "(LRadicalAnswers;II[J)I"⟩ : MethodName) ∈ wsA := wsA_t (List.mem_of_getElem? (i := 79) (by decide +kernel)) (by decide +kernel)
theorem mA_80 : Cond.static (⟨"RadicalAnswersLaw", "put", "(LRadicalAnswers;II[J)I"⟩ : MethodName) ∈ wsA := wsA_t (List.mem_of_getElem? (i := 80) (by decide +kernel)) (by decide +kernel)
theorem mA_82 : Cond.classLink "RadicalAnswersLaw" (13 : Nat) "java/lang/IndexOutOfBoundsException" ∈ wsA := wsA_t (List.mem_of_getElem? (i := 82) (by decide +kernel)) (by decide +kernel)
theorem mA_83 : Cond.classLink "RadicalAnswersLaw" (15 : Nat) "java/lang/IllegalArgumentException" ∈ wsA := wsA_t (List.mem_of_getElem? (i := 83) (by decide +kernel)) (by decide +kernel)
theorem mA_84 : Cond.methodLink "RadicalAnswersLaw" (7 : Nat) (⟨"RadicalAnswers", "put", "(II)Z"⟩ : MethodName) ∈ wsA := wsA_t (List.mem_of_getElem? (i := 84) (by decide +kernel)) (by decide +kernel)
theorem mA_85 : Cond.instanceMethod (⟨"RadicalAnswers", "put", "(II)Z"⟩ : MethodName) ∈ wsA := wsA_t (List.mem_of_getElem? (i := 85) (by decide +kernel)) (by decide +kernel)
theorem mA_86 : Cond.selects "RadicalAnswers" (⟨"RadicalAnswers", "put", "(II)Z"⟩ : MethodName) (⟨"RadicalAnswers", "put", "(II)Z"⟩ : MethodName) ∈ wsA := wsA_t (List.mem_of_getElem? (i := 86) (by decide +kernel)) (by decide +kernel)
theorem mA_87 : Cond.code (⟨"RadicalAnswers", "put", "(II)Z"⟩ : MethodName) prog_1_method_2_code (3 : Nat) (Option.some FieldType.boolean) ∈ wsA := wsA_t (List.mem_of_getElem? (i := 87) (by decide +kernel)) (by decide +kernel)
theorem mA_88 : Cond.methodLink "RadicalAnswers" (26 : Nat) (⟨"RadicalAnswers", "checkPower", "(I)V"⟩ : MethodName) ∈ wsA := wsA_t (List.mem_of_getElem? (i := 88) (by decide +kernel)) (by decide +kernel)
theorem mA_89 : Cond.static (⟨"RadicalAnswers", "checkPower", "(I)V"⟩ : MethodName) ∈ wsA := wsA_t (List.mem_of_getElem? (i := 89) (by decide +kernel)) (by decide +kernel)
theorem mA_90 : Cond.code (⟨"RadicalAnswers", "checkPower", "(I)V"⟩ : MethodName) prog_1_method_14_code (1 : Nat) (Option.none : Option Jvm.ClassFile.FieldType) ∈ wsA := wsA_t (List.mem_of_getElem? (i := 90) (by decide +kernel)) (by decide +kernel)
theorem mA_91 : Cond.classLink "RadicalAnswers" (135 : Nat) "java/lang/IndexOutOfBoundsException" ∈ wsA := wsA_t (List.mem_of_getElem? (i := 91) (by decide +kernel)) (by decide +kernel)
theorem mA_92 : Cond.instantiable "java/lang/IndexOutOfBoundsException" (6 : Nat) ∈ wsA := wsA_t (List.mem_of_getElem? (i := 92) (by decide +kernel)) (by decide +kernel)
theorem mA_100 : Cond.selects "java/lang/IndexOutOfBoundsException" (⟨"java/lang/Throwable", "fillInStackTrace", "(I)Ljava/lang/Throwable;"⟩ : MethodName) (⟨"java/lang/Throwable", "fillInStackTrace", "(I)Ljava/lang/Throwable;"⟩ : MethodName) ∈ wsA := wsA_t (List.mem_of_getElem? (i := 100) (by decide +kernel)) (by decide +kernel)
theorem mA_101 : Cond.selects "java/lang/IndexOutOfBoundsException" (⟨"java/lang/Throwable", "fillInStackTrace", "()Ljava/lang/Throwable;"⟩ : MethodName) (⟨"java/lang/Throwable", "fillInStackTrace", "()Ljava/lang/Throwable;"⟩ : MethodName) ∈ wsA := wsA_t (List.mem_of_getElem? (i := 101) (by decide +kernel)) (by decide +kernel)
theorem mA_102 : Cond.lays "java/lang/IndexOutOfBoundsException" "java/lang/Throwable" "cause" "Ljava/lang/Throwable;" ∈ wsA := wsA_t (List.mem_of_getElem? (i := 102) (by decide +kernel)) (by decide +kernel)
theorem mA_103 : Cond.lays "java/lang/Throwable" "java/lang/Throwable" "cause" "Ljava/lang/Throwable;" ∈ wsA := wsA_t (List.mem_of_getElem? (i := 103) (by decide +kernel)) (by decide +kernel)
theorem mA_104 : Cond.lays "java/lang/IndexOutOfBoundsException" "java/lang/Throwable" "stackTrace" "[Ljava/lang/StackTraceElement;" ∈ wsA := wsA_t (List.mem_of_getElem? (i := 104) (by decide +kernel)) (by decide +kernel)
theorem mA_105 : Cond.lays "java/lang/Throwable" "java/lang/Throwable" "stackTrace" "[Ljava/lang/StackTraceElement;" ∈ wsA := wsA_t (List.mem_of_getElem? (i := 105) (by decide +kernel)) (by decide +kernel)
theorem mA_106 : Cond.lays "java/lang/IndexOutOfBoundsException" "java/lang/Throwable" "suppressedExceptions" "Ljava/util/List;" ∈ wsA := wsA_t (List.mem_of_getElem? (i := 106) (by decide +kernel)) (by decide +kernel)
theorem mA_107 : Cond.lays "java/lang/Throwable" "java/lang/Throwable" "suppressedExceptions" "Ljava/util/List;" ∈ wsA := wsA_t (List.mem_of_getElem? (i := 107) (by decide +kernel)) (by decide +kernel)
theorem mA_108 : Cond.lays "java/lang/IndexOutOfBoundsException" "java/lang/Throwable" "detailMessage" "Ljava/lang/String;" ∈ wsA := wsA_t (List.mem_of_getElem? (i := 108) (by decide +kernel)) (by decide +kernel)
theorem mA_109 : Cond.lays "java/lang/Throwable" "java/lang/Throwable" "detailMessage" "Ljava/lang/String;" ∈ wsA := wsA_t (List.mem_of_getElem? (i := 109) (by decide +kernel)) (by decide +kernel)
theorem mA_110 : Cond.lays "java/lang/IndexOutOfBoundsException" "java/lang/Throwable" "backtrace" "Ljava/lang/Object;" ∈ wsA := wsA_t (List.mem_of_getElem? (i := 110) (by decide +kernel)) (by decide +kernel)
theorem mA_111 : Cond.lays "java/lang/Throwable" "java/lang/Throwable" "backtrace" "Ljava/lang/Object;" ∈ wsA := wsA_t (List.mem_of_getElem? (i := 111) (by decide +kernel)) (by decide +kernel)
theorem mA_112 : Cond.fieldLink "java/lang/Throwable" (198 : Nat) "java/lang/Throwable" "backtrace" "Ljava/lang/Object;" ∈ wsA := wsA_t (List.mem_of_getElem? (i := 112) (by decide +kernel)) (by decide +kernel)
theorem mA_114 : Cond.instanceMethod (⟨"java/lang/Throwable", "<init>", "()V"⟩ : MethodName) ∈ wsA := wsA_t (List.mem_of_getElem? (i := 114) (by decide +kernel)) (by decide +kernel)
theorem mA_115 : Cond.code (⟨"java/lang/Throwable", "<init>", "()V"⟩ : MethodName) prog_13_method_1_code (1 : Nat) (Option.none : Option Jvm.ClassFile.FieldType) ∈ wsA := wsA_t (List.mem_of_getElem? (i := 115) (by decide +kernel)) (by decide +kernel)
theorem mA_116 : Cond.methodLink "java/lang/Throwable" (1 : Nat) (⟨"java/lang/Object", "<init>", "()V"⟩ : MethodName) ∈ wsA := wsA_t (List.mem_of_getElem? (i := 116) (by decide +kernel)) (by decide +kernel)
theorem mA_117 : Cond.fieldLink "java/lang/Throwable" (13 : Nat) "java/lang/Throwable" "UNASSIGNED_STACK" "[Ljava/lang/StackTraceElement;" ∈ wsA := wsA_t (List.mem_of_getElem? (i := 117) (by decide +kernel)) (by decide +kernel)
theorem mA_119 : Cond.fieldLink "java/lang/Throwable" (20 : Nat) "java/lang/Throwable" "SUPPRESSED_SENTINEL" "Ljava/util/List;" ∈ wsA := wsA_t (List.mem_of_getElem? (i := 119) (by decide +kernel)) (by decide +kernel)
theorem mA_121 : Cond.methodLink "java/lang/Throwable" (27 : Nat) (⟨"java/lang/Throwable", "fillInStackTrace", "()Ljava/lang/Throwable;"⟩ : MethodName) ∈ wsA := wsA_t (List.mem_of_getElem? (i := 121) (by decide +kernel)) (by decide +kernel)
theorem mA_122 : Cond.instanceMethod (⟨"java/lang/Throwable", "fillInStackTrace", "()Ljava/lang/Throwable;"⟩ : MethodName) ∈ wsA := wsA_t (List.mem_of_getElem? (i := 122) (by decide +kernel)) (by decide +kernel)
theorem mA_124 : Cond.selects "java/lang/IllegalArgumentException" (⟨"java/lang/Throwable", "fillInStackTrace", "()Ljava/lang/Throwable;"⟩ : MethodName) (⟨"java/lang/Throwable", "fillInStackTrace", "()Ljava/lang/Throwable;"⟩ : MethodName) ∈ wsA := wsA_t (List.mem_of_getElem? (i := 124) (by decide +kernel)) (by decide +kernel)
theorem mA_125 : Cond.selects "java/lang/IllegalStateException" (⟨"java/lang/Throwable", "fillInStackTrace", "()Ljava/lang/Throwable;"⟩ : MethodName) (⟨"java/lang/Throwable", "fillInStackTrace", "()Ljava/lang/Throwable;"⟩ : MethodName) ∈ wsA := wsA_t (List.mem_of_getElem? (i := 125) (by decide +kernel)) (by decide +kernel)
theorem mA_127 : Cond.methodLink "java/lang/Throwable" (202 : Nat) (⟨"java/lang/Throwable", "fillInStackTrace", "(I)Ljava/lang/Throwable;"⟩ : MethodName) ∈ wsA := wsA_t (List.mem_of_getElem? (i := 127) (by decide +kernel)) (by decide +kernel)
theorem mA_129 : Cond.instanceMethod (⟨"java/lang/Throwable", "fillInStackTrace", "(I)Ljava/lang/Throwable;"⟩ : MethodName) ∈ wsA := wsA_t (List.mem_of_getElem? (i := 129) (by decide +kernel)) (by decide +kernel)
theorem mA_130 : Cond.instantiable "java/lang/Throwable" (6 : Nat) ∈ wsA := wsA_t (List.mem_of_getElem? (i := 130) (by decide +kernel)) (by decide +kernel)
theorem mA_131 : Cond.native (⟨"java/lang/Throwable", "fillInStackTrace", "(I)Ljava/lang/Throwable;"⟩ : MethodName) ∈ wsA := wsA_t (List.mem_of_getElem? (i := 131) (by decide +kernel)) (by decide +kernel)
theorem mA_133 : Cond.methodLink "RadicalAnswers" (139 : Nat) (⟨"java/lang/IndexOutOfBoundsException", "<init>", "(Ljava/lang/String;)V"⟩ : MethodName) ∈ wsA := wsA_t (List.mem_of_getElem? (i := 133) (by decide +kernel)) (by decide +kernel)
theorem mA_134 : Cond.instanceMethod (⟨"java/lang/IndexOutOfBoundsException", "<init>", "(Ljava/lang/String;)V"⟩ : MethodName) ∈ wsA := wsA_t (List.mem_of_getElem? (i := 134) (by decide +kernel)) (by decide +kernel)
theorem mA_135 : Cond.code (⟨"java/lang/IndexOutOfBoundsException", "<init>", "(Ljava/lang/String;)V"⟩ : MethodName) prog_8_method_2_code (2 : Nat) (Option.none : Option Jvm.ClassFile.FieldType) ∈ wsA := wsA_t (List.mem_of_getElem? (i := 135) (by decide +kernel)) (by decide +kernel)
theorem mA_136 : Cond.methodLink "java/lang/IndexOutOfBoundsException" (7 : Nat) (⟨"java/lang/RuntimeException", "<init>", "(Ljava/lang/String;)V"⟩ : MethodName) ∈ wsA := wsA_t (List.mem_of_getElem? (i := 136) (by decide +kernel)) (by decide +kernel)
theorem mA_137 : Cond.instanceMethod (⟨"java/lang/RuntimeException", "<init>", "(Ljava/lang/String;)V"⟩ : MethodName) ∈ wsA := wsA_t (List.mem_of_getElem? (i := 137) (by decide +kernel)) (by decide +kernel)
theorem mA_138 : Cond.code (⟨"java/lang/RuntimeException", "<init>", "(Ljava/lang/String;)V"⟩ : MethodName) prog_10_method_2_code (2 : Nat) (Option.none : Option Jvm.ClassFile.FieldType) ∈ wsA := wsA_t (List.mem_of_getElem? (i := 138) (by decide +kernel)) (by decide +kernel)
theorem mA_139 : Cond.methodLink "java/lang/RuntimeException" (7 : Nat) (⟨"java/lang/Exception", "<init>", "(Ljava/lang/String;)V"⟩ : MethodName) ∈ wsA := wsA_t (List.mem_of_getElem? (i := 139) (by decide +kernel)) (by decide +kernel)
theorem mA_140 : Cond.instanceMethod (⟨"java/lang/Exception", "<init>", "(Ljava/lang/String;)V"⟩ : MethodName) ∈ wsA := wsA_t (List.mem_of_getElem? (i := 140) (by decide +kernel)) (by decide +kernel)
theorem mA_141 : Cond.code (⟨"java/lang/Exception", "<init>", "(Ljava/lang/String;)V"⟩ : MethodName) prog_5_method_2_code (2 : Nat) (Option.none : Option Jvm.ClassFile.FieldType) ∈ wsA := wsA_t (List.mem_of_getElem? (i := 141) (by decide +kernel)) (by decide +kernel)
theorem mA_142 : Cond.methodLink "java/lang/Exception" (7 : Nat) (⟨"java/lang/Throwable", "<init>", "(Ljava/lang/String;)V"⟩ : MethodName) ∈ wsA := wsA_t (List.mem_of_getElem? (i := 142) (by decide +kernel)) (by decide +kernel)
theorem mA_143 : Cond.instanceMethod (⟨"java/lang/Throwable", "<init>", "(Ljava/lang/String;)V"⟩ : MethodName) ∈ wsA := wsA_t (List.mem_of_getElem? (i := 143) (by decide +kernel)) (by decide +kernel)
theorem mA_144 : Cond.code (⟨"java/lang/Throwable", "<init>", "(Ljava/lang/String;)V"⟩ : MethodName) prog_13_method_2_code (2 : Nat) (Option.none : Option Jvm.ClassFile.FieldType) ∈ wsA := wsA_t (List.mem_of_getElem? (i := 144) (by decide +kernel)) (by decide +kernel)
theorem mA_145 : Cond.fieldLink "java/lang/Throwable" (198 : Nat) "java/lang/Throwable" "backtrace" "Ljava/lang/Object;" ∈ wsA := wsA_t (List.mem_of_getElem? (i := 145) (by decide +kernel)) (by decide +kernel)
theorem mA_146 : Cond.fieldLink "java/lang/Throwable" (31 : Nat) "java/lang/Throwable" "detailMessage" "Ljava/lang/String;" ∈ wsA := wsA_t (List.mem_of_getElem? (i := 146) (by decide +kernel)) (by decide +kernel)
theorem mA_147 : Cond.fieldLink "java/lang/Throwable" (7 : Nat) "java/lang/Throwable" "cause" "Ljava/lang/Throwable;" ∈ wsA := wsA_t (List.mem_of_getElem? (i := 147) (by decide +kernel)) (by decide +kernel)
theorem mA_148 : Cond.fieldLink "java/lang/Throwable" (17 : Nat) "java/lang/Throwable" "stackTrace" "[Ljava/lang/StackTraceElement;" ∈ wsA := wsA_t (List.mem_of_getElem? (i := 148) (by decide +kernel)) (by decide +kernel)
theorem mA_149 : Cond.fieldLink "java/lang/Throwable" (24 : Nat) "java/lang/Throwable" "suppressedExceptions" "Ljava/util/List;" ∈ wsA := wsA_t (List.mem_of_getElem? (i := 149) (by decide +kernel)) (by decide +kernel)
theorem mA_154 : Cond.lays "java/lang/IndexOutOfBoundsException" "java/lang/Throwable" "depth" "I" ∈ wsA := wsA_t (List.mem_of_getElem? (i := 154) (by decide +kernel)) (by decide +kernel)
theorem mA_158 : Cond.arrayClass FieldType.byte ∈ wsA := wsA_t (List.mem_of_getElem? (i := 158) (by decide +kernel)) (by decide +kernel)
theorem mA_159 : Cond.methodLink "RadicalAnswers" (30 : Nat) (⟨"RadicalAnswers", "isInLimits", "(I)Z"⟩ : MethodName) ∈ wsA := wsA_t (List.mem_of_getElem? (i := 159) (by decide +kernel)) (by decide +kernel)
theorem mA_160 : Cond.static (⟨"RadicalAnswers", "isInLimits", "(I)Z"⟩ : MethodName) ∈ wsA := wsA_t (List.mem_of_getElem? (i := 160) (by decide +kernel)) (by decide +kernel)
theorem mA_161 : Cond.code (⟨"RadicalAnswers", "isInLimits", "(I)Z"⟩ : MethodName) prog_1_method_16_code (1 : Nat) (Option.some FieldType.boolean) ∈ wsA := wsA_t (List.mem_of_getElem? (i := 161) (by decide +kernel)) (by decide +kernel)
theorem mA_162 : Cond.classLink "RadicalAnswers" (34 : Nat) "java/lang/IllegalArgumentException" ∈ wsA := wsA_t (List.mem_of_getElem? (i := 162) (by decide +kernel)) (by decide +kernel)
theorem mA_163 : Cond.instantiable "java/lang/IllegalArgumentException" (6 : Nat) ∈ wsA := wsA_t (List.mem_of_getElem? (i := 163) (by decide +kernel)) (by decide +kernel)
theorem mA_165 : Cond.selects "java/lang/IllegalArgumentException" (⟨"java/lang/Throwable", "fillInStackTrace", "(I)Ljava/lang/Throwable;"⟩ : MethodName) (⟨"java/lang/Throwable", "fillInStackTrace", "(I)Ljava/lang/Throwable;"⟩ : MethodName) ∈ wsA := wsA_t (List.mem_of_getElem? (i := 165) (by decide +kernel)) (by decide +kernel)
theorem mA_166 : Cond.lays "java/lang/IllegalArgumentException" "java/lang/Throwable" "cause" "Ljava/lang/Throwable;" ∈ wsA := wsA_t (List.mem_of_getElem? (i := 166) (by decide +kernel)) (by decide +kernel)
theorem mA_167 : Cond.lays "java/lang/IllegalArgumentException" "java/lang/Throwable" "stackTrace" "[Ljava/lang/StackTraceElement;" ∈ wsA := wsA_t (List.mem_of_getElem? (i := 167) (by decide +kernel)) (by decide +kernel)
theorem mA_168 : Cond.lays "java/lang/IllegalArgumentException" "java/lang/Throwable" "suppressedExceptions" "Ljava/util/List;" ∈ wsA := wsA_t (List.mem_of_getElem? (i := 168) (by decide +kernel)) (by decide +kernel)
theorem mA_169 : Cond.lays "java/lang/IllegalArgumentException" "java/lang/Throwable" "detailMessage" "Ljava/lang/String;" ∈ wsA := wsA_t (List.mem_of_getElem? (i := 169) (by decide +kernel)) (by decide +kernel)
theorem mA_170 : Cond.lays "java/lang/IllegalArgumentException" "java/lang/Throwable" "backtrace" "Ljava/lang/Object;" ∈ wsA := wsA_t (List.mem_of_getElem? (i := 170) (by decide +kernel)) (by decide +kernel)
theorem mA_172 : Cond.methodLink "RadicalAnswers" (38 : Nat) (⟨"java/lang/IllegalArgumentException", "<init>", "(Ljava/lang/String;)V"⟩ : MethodName) ∈ wsA := wsA_t (List.mem_of_getElem? (i := 172) (by decide +kernel)) (by decide +kernel)
theorem mA_173 : Cond.instanceMethod (⟨"java/lang/IllegalArgumentException", "<init>", "(Ljava/lang/String;)V"⟩ : MethodName) ∈ wsA := wsA_t (List.mem_of_getElem? (i := 173) (by decide +kernel)) (by decide +kernel)
theorem mA_174 : Cond.code (⟨"java/lang/IllegalArgumentException", "<init>", "(Ljava/lang/String;)V"⟩ : MethodName) prog_6_method_2_code (2 : Nat) (Option.none : Option Jvm.ClassFile.FieldType) ∈ wsA := wsA_t (List.mem_of_getElem? (i := 174) (by decide +kernel)) (by decide +kernel)
theorem mA_175 : Cond.methodLink "java/lang/IllegalArgumentException" (7 : Nat) (⟨"java/lang/RuntimeException", "<init>", "(Ljava/lang/String;)V"⟩ : MethodName) ∈ wsA := wsA_t (List.mem_of_getElem? (i := 175) (by decide +kernel)) (by decide +kernel)
theorem mA_176 : Cond.lays "java/lang/IllegalArgumentException" "java/lang/Throwable" "depth" "I" ∈ wsA := wsA_t (List.mem_of_getElem? (i := 176) (by decide +kernel)) (by decide +kernel)
theorem mA_178 : Cond.methodLink "RadicalAnswersLaw" (69 : Nat) (⟨"RadicalAnswersLaw", "at", "(LRadicalAnswers;I[J)I"⟩ : MethodName) ∈ wsA := wsA_t (List.mem_of_getElem? (i := 178) (by decide +kernel)) (by decide +kernel)
theorem mA_179 : Cond.static (⟨"RadicalAnswersLaw", "at", "(LRadicalAnswers;I[J)I"⟩ : MethodName) ∈ wsA := wsA_t (List.mem_of_getElem? (i := 179) (by decide +kernel)) (by decide +kernel)
theorem mA_181 : Cond.methodLink "RadicalAnswersLaw" (17 : Nat) (⟨"RadicalAnswers", "at", "(I)I"⟩ : MethodName) ∈ wsA := wsA_t (List.mem_of_getElem? (i := 181) (by decide +kernel)) (by decide +kernel)
theorem mA_182 : Cond.instanceMethod (⟨"RadicalAnswers", "at", "(I)I"⟩ : MethodName) ∈ wsA := wsA_t (List.mem_of_getElem? (i := 182) (by decide +kernel)) (by decide +kernel)
theorem mA_183 : Cond.selects "RadicalAnswers" (⟨"RadicalAnswers", "at", "(I)I"⟩ : MethodName) (⟨"RadicalAnswers", "at", "(I)I"⟩ : MethodName) ∈ wsA := wsA_t (List.mem_of_getElem? (i := 183) (by decide +kernel)) (by decide +kernel)
theorem mA_184 : Cond.code (⟨"RadicalAnswers", "at", "(I)I"⟩ : MethodName) prog_1_method_3_code (2 : Nat) (Option.some FieldType.int) ∈ wsA := wsA_t (List.mem_of_getElem? (i := 184) (by decide +kernel)) (by decide +kernel)
theorem mA_185 : Cond.methodLink "RadicalAnswersLaw" (73 : Nat) (⟨"RadicalAnswersLaw", "change", "(LRadicalAnswers;I[J)I"⟩ : MethodName) ∈ wsA := wsA_t (List.mem_of_getElem? (i := 185) (by decide +kernel)) (by decide +kernel)
theorem mA_186 : Cond.static (⟨"RadicalAnswersLaw", "change", "(LRadicalAnswers;I[J)I"⟩ : MethodName) ∈ wsA := wsA_t (List.mem_of_getElem? (i := 186) (by decide +kernel)) (by decide +kernel)
theorem mA_188 : Cond.methodLink "RadicalAnswersLaw" (21 : Nat) (⟨"RadicalAnswers", "change", "(I)Z"⟩ : MethodName) ∈ wsA := wsA_t (List.mem_of_getElem? (i := 188) (by decide +kernel)) (by decide +kernel)
theorem mA_189 : Cond.instanceMethod (⟨"RadicalAnswers", "change", "(I)Z"⟩ : MethodName) ∈ wsA := wsA_t (List.mem_of_getElem? (i := 189) (by decide +kernel)) (by decide +kernel)
theorem mA_190 : Cond.selects "RadicalAnswers" (⟨"RadicalAnswers", "change", "(I)Z"⟩ : MethodName) (⟨"RadicalAnswers", "change", "(I)Z"⟩ : MethodName) ∈ wsA := wsA_t (List.mem_of_getElem? (i := 190) (by decide +kernel)) (by decide +kernel)
theorem mA_191 : Cond.code (⟨"RadicalAnswers", "change", "(I)Z"⟩ : MethodName) prog_1_method_4_code (7 : Nat) (Option.some FieldType.boolean) ∈ wsA := wsA_t (List.mem_of_getElem? (i := 191) (by decide +kernel)) (by decide +kernel)
theorem mA_193 : Cond.methodLink "RadicalAnswers" (47 : Nat) (⟨"RadicalAnswers", "degreeOf", "([I)I"⟩ : MethodName) ∈ wsA := wsA_t (List.mem_of_getElem? (i := 193) (by decide +kernel)) (by decide +kernel)
theorem mA_194 : Cond.static (⟨"RadicalAnswers", "degreeOf", "([I)I"⟩ : MethodName) ∈ wsA := wsA_t (List.mem_of_getElem? (i := 194) (by decide +kernel)) (by decide +kernel)
theorem mA_195 : Cond.code (⟨"RadicalAnswers", "degreeOf", "([I)I"⟩ : MethodName) prog_1_method_27_code (2 : Nat) (Option.some FieldType.int) ∈ wsA := wsA_t (List.mem_of_getElem? (i := 195) (by decide +kernel)) (by decide +kernel)
theorem mA_196 : Cond.methodLink "RadicalAnswers" (51 : Nat) (⟨"RadicalAnswers", "draftChange", "(II)V"⟩ : MethodName) ∈ wsA := wsA_t (List.mem_of_getElem? (i := 196) (by decide +kernel)) (by decide +kernel)
theorem mA_198 : Cond.instanceMethod (⟨"RadicalAnswers", "draftChange", "(II)V"⟩ : MethodName) ∈ wsA := wsA_t (List.mem_of_getElem? (i := 198) (by decide +kernel)) (by decide +kernel)
theorem mA_199 : Cond.code (⟨"RadicalAnswers", "draftChange", "(II)V"⟩ : MethodName) prog_1_method_18_code (4 : Nat) (Option.none : Option Jvm.ClassFile.FieldType) ∈ wsA := wsA_t (List.mem_of_getElem? (i := 199) (by decide +kernel)) (by decide +kernel)
theorem mA_200 : Cond.methodLink "RadicalAnswers" (55 : Nat) (⟨"java/lang/System", "arraycopy", "(Ljava/lang/Object;ILjava/lang/Object;II)V"⟩ : MethodName) ∈ wsA := wsA_t (List.mem_of_getElem? (i := 200) (by decide +kernel)) (by decide +kernel)
theorem mA_201 : Cond.static (⟨"java/lang/System", "arraycopy", "(Ljava/lang/Object;ILjava/lang/Object;II)V"⟩ : MethodName) ∈ wsA := wsA_t (List.mem_of_getElem? (i := 201) (by decide +kernel)) (by decide +kernel)
theorem mA_202 : Cond.native (⟨"java/lang/System", "arraycopy", "(Ljava/lang/Object;ILjava/lang/Object;II)V"⟩ : MethodName) ∈ wsA := wsA_t (List.mem_of_getElem? (i := 202) (by decide +kernel)) (by decide +kernel)
theorem mA_203 : Cond.methodLink "RadicalAnswers" (144 : Nat) (⟨"RadicalAnswers", "draftShift", "(I)V"⟩ : MethodName) ∈ wsA := wsA_t (List.mem_of_getElem? (i := 203) (by decide +kernel)) (by decide +kernel)
theorem mA_205 : Cond.instanceMethod (⟨"RadicalAnswers", "draftShift", "(I)V"⟩ : MethodName) ∈ wsA := wsA_t (List.mem_of_getElem? (i := 205) (by decide +kernel)) (by decide +kernel)
theorem mA_206 : Cond.code (⟨"RadicalAnswers", "draftShift", "(I)V"⟩ : MethodName) prog_1_method_19_code (4 : Nat) (Option.none : Option Jvm.ClassFile.FieldType) ∈ wsA := wsA_t (List.mem_of_getElem? (i := 206) (by decide +kernel)) (by decide +kernel)
theorem mA_207 : Cond.methodLink "RadicalAnswersLaw" (76 : Nat) (⟨"RadicalAnswersLaw", "factors", "(LRadicalAnswers;[J)I"⟩ : MethodName) ∈ wsA := wsA_t (List.mem_of_getElem? (i := 207) (by decide +kernel)) (by decide +kernel)
theorem mA_208 : Cond.static (⟨"RadicalAnswersLaw", "factors", "(LRadicalAnswers;[J)I"⟩ : MethodName) ∈ wsA := wsA_t (List.mem_of_getElem? (i := 208) (by decide +kernel)) (by decide +kernel)
theorem mA_210 : Cond.classLink "RadicalAnswersLaw" (29 : Nat) "java/lang/IllegalStateException" ∈ wsA := wsA_t (List.mem_of_getElem? (i := 210) (by decide +kernel)) (by decide +kernel)
theorem mA_211 : Cond.methodLink "RadicalAnswersLaw" (25 : Nat) (⟨"RadicalAnswers", "factors", "()I"⟩ : MethodName) ∈ wsA := wsA_t (List.mem_of_getElem? (i := 211) (by decide +kernel)) (by decide +kernel)
theorem mA_212 : Cond.instanceMethod (⟨"RadicalAnswers", "factors", "()I"⟩ : MethodName) ∈ wsA := wsA_t (List.mem_of_getElem? (i := 212) (by decide +kernel)) (by decide +kernel)
theorem mA_213 : Cond.selects "RadicalAnswers" (⟨"RadicalAnswers", "factors", "()I"⟩ : MethodName) (⟨"RadicalAnswers", "factors", "()I"⟩ : MethodName) ∈ wsA := wsA_t (List.mem_of_getElem? (i := 213) (by decide +kernel)) (by decide +kernel)
theorem mA_214 : Cond.code (⟨"RadicalAnswers", "factors", "()I"⟩ : MethodName) prog_1_method_5_code (1 : Nat) (Option.some FieldType.int) ∈ wsA := wsA_t (List.mem_of_getElem? (i := 214) (by decide +kernel)) (by decide +kernel)
theorem mA_215 : Cond.methodLink "RadicalAnswers" (61 : Nat) (⟨"RadicalAnswers", "split", "()V"⟩ : MethodName) ∈ wsA := wsA_t (List.mem_of_getElem? (i := 215) (by decide +kernel)) (by decide +kernel)
theorem mA_217 : Cond.instanceMethod (⟨"RadicalAnswers", "split", "()V"⟩ : MethodName) ∈ wsA := wsA_t (List.mem_of_getElem? (i := 217) (by decide +kernel)) (by decide +kernel)
theorem mA_218 : Cond.code (⟨"RadicalAnswers", "split", "()V"⟩ : MethodName) prog_1_method_20_code (2 : Nat) (Option.none : Option Jvm.ClassFile.FieldType) ∈ wsA := wsA_t (List.mem_of_getElem? (i := 218) (by decide +kernel)) (by decide +kernel)
theorem mA_219 : Cond.classLink "RadicalAnswers" (147 : Nat) "java/lang/IllegalStateException" ∈ wsA := wsA_t (List.mem_of_getElem? (i := 219) (by decide +kernel)) (by decide +kernel)
theorem mA_220 : Cond.instantiable "java/lang/IllegalStateException" (6 : Nat) ∈ wsA := wsA_t (List.mem_of_getElem? (i := 220) (by decide +kernel)) (by decide +kernel)
theorem mA_222 : Cond.selects "java/lang/IllegalStateException" (⟨"java/lang/Throwable", "fillInStackTrace", "(I)Ljava/lang/Throwable;"⟩ : MethodName) (⟨"java/lang/Throwable", "fillInStackTrace", "(I)Ljava/lang/Throwable;"⟩ : MethodName) ∈ wsA := wsA_t (List.mem_of_getElem? (i := 222) (by decide +kernel)) (by decide +kernel)
theorem mA_223 : Cond.lays "java/lang/IllegalStateException" "java/lang/Throwable" "cause" "Ljava/lang/Throwable;" ∈ wsA := wsA_t (List.mem_of_getElem? (i := 223) (by decide +kernel)) (by decide +kernel)
theorem mA_224 : Cond.lays "java/lang/IllegalStateException" "java/lang/Throwable" "stackTrace" "[Ljava/lang/StackTraceElement;" ∈ wsA := wsA_t (List.mem_of_getElem? (i := 224) (by decide +kernel)) (by decide +kernel)
theorem mA_225 : Cond.lays "java/lang/IllegalStateException" "java/lang/Throwable" "suppressedExceptions" "Ljava/util/List;" ∈ wsA := wsA_t (List.mem_of_getElem? (i := 225) (by decide +kernel)) (by decide +kernel)
theorem mA_226 : Cond.lays "java/lang/IllegalStateException" "java/lang/Throwable" "detailMessage" "Ljava/lang/String;" ∈ wsA := wsA_t (List.mem_of_getElem? (i := 226) (by decide +kernel)) (by decide +kernel)
theorem mA_227 : Cond.lays "java/lang/IllegalStateException" "java/lang/Throwable" "backtrace" "Ljava/lang/Object;" ∈ wsA := wsA_t (List.mem_of_getElem? (i := 227) (by decide +kernel)) (by decide +kernel)
theorem mA_229 : Cond.methodLink "RadicalAnswers" (151 : Nat) (⟨"java/lang/IllegalStateException", "<init>", "(Ljava/lang/String;)V"⟩ : MethodName) ∈ wsA := wsA_t (List.mem_of_getElem? (i := 229) (by decide +kernel)) (by decide +kernel)
theorem mA_230 : Cond.instanceMethod (⟨"java/lang/IllegalStateException", "<init>", "(Ljava/lang/String;)V"⟩ : MethodName) ∈ wsA := wsA_t (List.mem_of_getElem? (i := 230) (by decide +kernel)) (by decide +kernel)
theorem mA_231 : Cond.code (⟨"java/lang/IllegalStateException", "<init>", "(Ljava/lang/String;)V"⟩ : MethodName) prog_7_method_2_code (2 : Nat) (Option.none : Option Jvm.ClassFile.FieldType) ∈ wsA := wsA_t (List.mem_of_getElem? (i := 231) (by decide +kernel)) (by decide +kernel)
theorem mA_232 : Cond.methodLink "java/lang/IllegalStateException" (7 : Nat) (⟨"java/lang/RuntimeException", "<init>", "(Ljava/lang/String;)V"⟩ : MethodName) ∈ wsA := wsA_t (List.mem_of_getElem? (i := 232) (by decide +kernel)) (by decide +kernel)
theorem mA_233 : Cond.lays "java/lang/IllegalStateException" "java/lang/Throwable" "depth" "I" ∈ wsA := wsA_t (List.mem_of_getElem? (i := 233) (by decide +kernel)) (by decide +kernel)
theorem mA_235 : Cond.methodLink "RadicalAnswers" (152 : Nat) (⟨"RadicalAnswers", "takeOutContent", "(I)V"⟩ : MethodName) ∈ wsA := wsA_t (List.mem_of_getElem? (i := 235) (by decide +kernel)) (by decide +kernel)
theorem mA_237 : Cond.instanceMethod (⟨"RadicalAnswers", "takeOutContent", "(I)V"⟩ : MethodName) ∈ wsA := wsA_t (List.mem_of_getElem? (i := 237) (by decide +kernel)) (by decide +kernel)
theorem mA_238 : Cond.code (⟨"RadicalAnswers", "takeOutContent", "(I)V"⟩ : MethodName) prog_1_method_21_code (7 : Nat) (Option.none : Option Jvm.ClassFile.FieldType) ∈ wsA := wsA_t (List.mem_of_getElem? (i := 238) (by decide +kernel)) (by decide +kernel)
theorem mA_239 : Cond.methodLink "RadicalAnswers" (108 : Nat) (⟨"RadicalAnswers", "commonDivisor", "(II)I"⟩ : MethodName) ∈ wsA := wsA_t (List.mem_of_getElem? (i := 239) (by decide +kernel)) (by decide +kernel)
theorem mA_240 : Cond.static (⟨"RadicalAnswers", "commonDivisor", "(II)I"⟩ : MethodName) ∈ wsA := wsA_t (List.mem_of_getElem? (i := 240) (by decide +kernel)) (by decide +kernel)
theorem mA_241 : Cond.code (⟨"RadicalAnswers", "commonDivisor", "(II)I"⟩ : MethodName) prog_1_method_28_code (6 : Nat) (Option.some FieldType.int) ∈ wsA := wsA_t (List.mem_of_getElem? (i := 241) (by decide +kernel)) (by decide +kernel)
theorem mA_242 : Cond.methodLink "RadicalAnswers" (180 : Nat) (⟨"java/lang/Math", "abs", "(I)I"⟩ : MethodName) ∈ wsA := wsA_t (List.mem_of_getElem? (i := 242) (by decide +kernel)) (by decide +kernel)
theorem mA_243 : Cond.static (⟨"java/lang/Math", "abs", "(I)I"⟩ : MethodName) ∈ wsA := wsA_t (List.mem_of_getElem? (i := 243) (by decide +kernel)) (by decide +kernel)
theorem mA_244 : Cond.code (⟨"java/lang/Math", "abs", "(I)I"⟩ : MethodName) prog_9_method_59_code (1 : Nat) (Option.some FieldType.int) ∈ wsA := wsA_t (List.mem_of_getElem? (i := 244) (by decide +kernel)) (by decide +kernel)
theorem mA_245 : Cond.methodLink "RadicalAnswers" (155 : Nat) (⟨"RadicalAnswers", "takeOutLinearFactors", "()V"⟩ : MethodName) ∈ wsA := wsA_t (List.mem_of_getElem? (i := 245) (by decide +kernel)) (by decide +kernel)
theorem mA_247 : Cond.instanceMethod (⟨"RadicalAnswers", "takeOutLinearFactors", "()V"⟩ : MethodName) ∈ wsA := wsA_t (List.mem_of_getElem? (i := 247) (by decide +kernel)) (by decide +kernel)
theorem mA_248 : Cond.code (⟨"RadicalAnswers", "takeOutLinearFactors", "()V"⟩ : MethodName) prog_1_method_22_code (4 : Nat) (Option.none : Option Jvm.ClassFile.FieldType) ∈ wsA := wsA_t (List.mem_of_getElem? (i := 248) (by decide +kernel)) (by decide +kernel)
theorem mA_249 : Cond.methodLink "RadicalAnswers" (161 : Nat) (⟨"RadicalAnswers", "takeOut", "(III)V"⟩ : MethodName) ∈ wsA := wsA_t (List.mem_of_getElem? (i := 249) (by decide +kernel)) (by decide +kernel)
theorem mA_251 : Cond.instanceMethod (⟨"RadicalAnswers", "takeOut", "(III)V"⟩ : MethodName) ∈ wsA := wsA_t (List.mem_of_getElem? (i := 251) (by decide +kernel)) (by decide +kernel)
theorem mA_252 : Cond.code (⟨"RadicalAnswers", "takeOut", "(III)V"⟩ : MethodName) prog_1_method_24_code (5 : Nat) (Option.none : Option Jvm.ClassFile.FieldType) ∈ wsA := wsA_t (List.mem_of_getElem? (i := 252) (by decide +kernel)) (by decide +kernel)
theorem mA_253 : Cond.methodLink "RadicalAnswers" (165 : Nat) (⟨"RadicalAnswers", "divideRest", "(III)Z"⟩ : MethodName) ∈ wsA := wsA_t (List.mem_of_getElem? (i := 253) (by decide +kernel)) (by decide +kernel)
theorem mA_255 : Cond.instanceMethod (⟨"RadicalAnswers", "divideRest", "(III)Z"⟩ : MethodName) ∈ wsA := wsA_t (List.mem_of_getElem? (i := 255) (by decide +kernel)) (by decide +kernel)
theorem mA_256 : Cond.code (⟨"RadicalAnswers", "divideRest", "(III)Z"⟩ : MethodName) prog_1_method_25_code (8 : Nat) (Option.some FieldType.boolean) ∈ wsA := wsA_t (List.mem_of_getElem? (i := 256) (by decide +kernel)) (by decide +kernel)
theorem mA_257 : Cond.methodLink "RadicalAnswers" (169 : Nat) (⟨"RadicalAnswers", "addFactor", "(IIII)V"⟩ : MethodName) ∈ wsA := wsA_t (List.mem_of_getElem? (i := 257) (by decide +kernel)) (by decide +kernel)
theorem mA_259 : Cond.instanceMethod (⟨"RadicalAnswers", "addFactor", "(IIII)V"⟩ : MethodName) ∈ wsA := wsA_t (List.mem_of_getElem? (i := 259) (by decide +kernel)) (by decide +kernel)
theorem mA_260 : Cond.code (⟨"RadicalAnswers", "addFactor", "(IIII)V"⟩ : MethodName) prog_1_method_26_code (7 : Nat) (Option.none : Option Jvm.ClassFile.FieldType) ∈ wsA := wsA_t (List.mem_of_getElem? (i := 260) (by decide +kernel)) (by decide +kernel)
theorem mA_263 : Cond.instanceMethod (⟨"RadicalAnswers$Factor", "become", "(IIII)V"⟩ : MethodName) ∈ wsA := wsA_t (List.mem_of_getElem? (i := 263) (by decide +kernel)) (by decide +kernel)
theorem mA_264 : Cond.code (⟨"RadicalAnswers$Factor", "become", "(IIII)V"⟩ : MethodName) prog_2_method_2_code (6 : Nat) (Option.none : Option Jvm.ClassFile.FieldType) ∈ wsA := wsA_t (List.mem_of_getElem? (i := 264) (by decide +kernel)) (by decide +kernel)
theorem mA_266 : Cond.static (⟨"RadicalAnswers", "greatestSquareDividing", "(I)I"⟩ : MethodName) ∈ wsA := wsA_t (List.mem_of_getElem? (i := 266) (by decide +kernel)) (by decide +kernel)
theorem mA_267 : Cond.code (⟨"RadicalAnswers", "greatestSquareDividing", "(I)I"⟩ : MethodName) prog_1_method_29_code (4 : Nat) (Option.some FieldType.int) ∈ wsA := wsA_t (List.mem_of_getElem? (i := 267) (by decide +kernel)) (by decide +kernel)
theorem mA_270 : Cond.instanceMethod (⟨"RadicalAnswers$Factor", "standsBefore", "(LRadicalAnswers$Factor;)Z"⟩ : MethodName) ∈ wsA := wsA_t (List.mem_of_getElem? (i := 270) (by decide +kernel)) (by decide +kernel)
theorem mA_271 : Cond.code (⟨"RadicalAnswers$Factor", "standsBefore", "(LRadicalAnswers$Factor;)Z"⟩ : MethodName) prog_2_method_8_code (2 : Nat) (Option.some FieldType.boolean) ∈ wsA := wsA_t (List.mem_of_getElem? (i := 271) (by decide +kernel)) (by decide +kernel)
theorem mA_272 : Cond.methodLink "RadicalAnswers$Factor" (34 : Nat) (⟨"RadicalAnswers$Factor", "isLinear", "()Z"⟩ : MethodName) ∈ wsA := wsA_t (List.mem_of_getElem? (i := 272) (by decide +kernel)) (by decide +kernel)
theorem mA_274 : Cond.instanceMethod (⟨"RadicalAnswers$Factor", "isLinear", "()Z"⟩ : MethodName) ∈ wsA := wsA_t (List.mem_of_getElem? (i := 274) (by decide +kernel)) (by decide +kernel)
theorem mA_275 : Cond.code (⟨"RadicalAnswers$Factor", "isLinear", "()Z"⟩ : MethodName) prog_2_method_3_code (1 : Nat) (Option.some FieldType.boolean) ∈ wsA := wsA_t (List.mem_of_getElem? (i := 275) (by decide +kernel)) (by decide +kernel)
theorem mA_276 : Cond.methodLink "RadicalAnswers$Factor" (38 : Nat) (⟨"RadicalAnswers$Factor", "middle", "()I"⟩ : MethodName) ∈ wsA := wsA_t (List.mem_of_getElem? (i := 276) (by decide +kernel)) (by decide +kernel)
theorem mA_278 : Cond.instanceMethod (⟨"RadicalAnswers$Factor", "middle", "()I"⟩ : MethodName) ∈ wsA := wsA_t (List.mem_of_getElem? (i := 278) (by decide +kernel)) (by decide +kernel)
theorem mA_279 : Cond.code (⟨"RadicalAnswers$Factor", "middle", "()I"⟩ : MethodName) prog_2_method_5_code (1 : Nat) (Option.some FieldType.int) ∈ wsA := wsA_t (List.mem_of_getElem? (i := 279) (by decide +kernel)) (by decide +kernel)
theorem mA_280 : Cond.methodLink "RadicalAnswers$Factor" (42 : Nat) (⟨"RadicalAnswers$Factor", "below", "()I"⟩ : MethodName) ∈ wsA := wsA_t (List.mem_of_getElem? (i := 280) (by decide +kernel)) (by decide +kernel)
theorem mA_282 : Cond.instanceMethod (⟨"RadicalAnswers$Factor", "below", "()I"⟩ : MethodName) ∈ wsA := wsA_t (List.mem_of_getElem? (i := 282) (by decide +kernel)) (by decide +kernel)
theorem mA_283 : Cond.code (⟨"RadicalAnswers$Factor", "below", "()I"⟩ : MethodName) prog_2_method_7_code (1 : Nat) (Option.some FieldType.int) ∈ wsA := wsA_t (List.mem_of_getElem? (i := 283) (by decide +kernel)) (by decide +kernel)
theorem mA_284 : Cond.methodLink "RadicalAnswers" (158 : Nat) (⟨"RadicalAnswers", "takeOutQuadraticFactors", "()V"⟩ : MethodName) ∈ wsA := wsA_t (List.mem_of_getElem? (i := 284) (by decide +kernel)) (by decide +kernel)
theorem mA_286 : Cond.instanceMethod (⟨"RadicalAnswers", "takeOutQuadraticFactors", "()V"⟩ : MethodName) ∈ wsA := wsA_t (List.mem_of_getElem? (i := 286) (by decide +kernel)) (by decide +kernel)
theorem mA_287 : Cond.code (⟨"RadicalAnswers", "takeOutQuadraticFactors", "()V"⟩ : MethodName) prog_1_method_23_code (7 : Nat) (Option.none : Option Jvm.ClassFile.FieldType) ∈ wsA := wsA_t (List.mem_of_getElem? (i := 287) (by decide +kernel)) (by decide +kernel)
theorem mA_288 : Cond.methodLink "RadicalAnswersLaw" (80 : Nat) (⟨"RadicalAnswersLaw", "factor", "(LRadicalAnswers;II[J)I"⟩ : MethodName) ∈ wsA := wsA_t (List.mem_of_getElem? (i := 288) (by decide +kernel)) (by decide +kernel)
theorem mA_289 : Cond.static (⟨"RadicalAnswersLaw", "factor", "(LRadicalAnswers;II[J)I"⟩ : MethodName) ∈ wsA := wsA_t (List.mem_of_getElem? (i := 289) (by decide +kernel)) (by decide +kernel)
theorem mA_291 : Cond.methodLink "RadicalAnswersLaw" (31 : Nat) (⟨"RadicalAnswers", "factor", "(II)I"⟩ : MethodName) ∈ wsA := wsA_t (List.mem_of_getElem? (i := 291) (by decide +kernel)) (by decide +kernel)
theorem mA_292 : Cond.instanceMethod (⟨"RadicalAnswers", "factor", "(II)I"⟩ : MethodName) ∈ wsA := wsA_t (List.mem_of_getElem? (i := 292) (by decide +kernel)) (by decide +kernel)
theorem mA_293 : Cond.selects "RadicalAnswers" (⟨"RadicalAnswers", "factor", "(II)I"⟩ : MethodName) (⟨"RadicalAnswers", "factor", "(II)I"⟩ : MethodName) ∈ wsA := wsA_t (List.mem_of_getElem? (i := 293) (by decide +kernel)) (by decide +kernel)
theorem mA_294 : Cond.code (⟨"RadicalAnswers", "factor", "(II)I"⟩ : MethodName) prog_1_method_6_code (4 : Nat) (Option.some FieldType.int) ∈ wsA := wsA_t (List.mem_of_getElem? (i := 294) (by decide +kernel)) (by decide +kernel)
theorem mA_295 : Cond.methodLink "RadicalAnswers" (68 : Nat) (⟨"RadicalAnswers", "numbered", "(I)LRadicalAnswers$Factor;"⟩ : MethodName) ∈ wsA := wsA_t (List.mem_of_getElem? (i := 295) (by decide +kernel)) (by decide +kernel)
theorem mA_297 : Cond.instanceMethod (⟨"RadicalAnswers", "numbered", "(I)LRadicalAnswers$Factor;"⟩ : MethodName) ∈ wsA := wsA_t (List.mem_of_getElem? (i := 297) (by decide +kernel)) (by decide +kernel)
theorem mA_298 : Cond.code (⟨"RadicalAnswers", "numbered", "(I)LRadicalAnswers$Factor;"⟩ : MethodName) prog_1_method_17_code (2 : Nat) (Option.some (FieldType.object "RadicalAnswers$Factor")) ∈ wsA := wsA_t (List.mem_of_getElem? (i := 298) (by decide +kernel)) (by decide +kernel)
theorem mA_302 : Cond.methodLink "RadicalAnswersLaw" (83 : Nat) (⟨"RadicalAnswersLaw", "content", "(LRadicalAnswers;[J)I"⟩ : MethodName) ∈ wsA := wsA_t (List.mem_of_getElem? (i := 302) (by decide +kernel)) (by decide +kernel)
theorem mA_303 : Cond.static (⟨"RadicalAnswersLaw", "content", "(LRadicalAnswers;[J)I"⟩ : MethodName) ∈ wsA := wsA_t (List.mem_of_getElem? (i := 303) (by decide +kernel)) (by decide +kernel)
theorem mA_305 : Cond.methodLink "RadicalAnswersLaw" (35 : Nat) (⟨"RadicalAnswers", "content", "()I"⟩ : MethodName) ∈ wsA := wsA_t (List.mem_of_getElem? (i := 305) (by decide +kernel)) (by decide +kernel)
theorem mA_306 : Cond.instanceMethod (⟨"RadicalAnswers", "content", "()I"⟩ : MethodName) ∈ wsA := wsA_t (List.mem_of_getElem? (i := 306) (by decide +kernel)) (by decide +kernel)
theorem mA_307 : Cond.selects "RadicalAnswers" (⟨"RadicalAnswers", "content", "()I"⟩ : MethodName) (⟨"RadicalAnswers", "content", "()I"⟩ : MethodName) ∈ wsA := wsA_t (List.mem_of_getElem? (i := 307) (by decide +kernel)) (by decide +kernel)
theorem mA_308 : Cond.code (⟨"RadicalAnswers", "content", "()I"⟩ : MethodName) prog_1_method_7_code (1 : Nat) (Option.some FieldType.int) ∈ wsA := wsA_t (List.mem_of_getElem? (i := 308) (by decide +kernel)) (by decide +kernel)
theorem mA_309 : Cond.methodLink "RadicalAnswersLaw" (86 : Nat) (⟨"RadicalAnswersLaw", "left", "(LRadicalAnswers;I[J)I"⟩ : MethodName) ∈ wsA := wsA_t (List.mem_of_getElem? (i := 309) (by decide +kernel)) (by decide +kernel)
theorem mA_310 : Cond.static (⟨"RadicalAnswersLaw", "left", "(LRadicalAnswers;I[J)I"⟩ : MethodName) ∈ wsA := wsA_t (List.mem_of_getElem? (i := 310) (by decide +kernel)) (by decide +kernel)
theorem mA_312 : Cond.methodLink "RadicalAnswersLaw" (38 : Nat) (⟨"RadicalAnswers", "left", "(I)I"⟩ : MethodName) ∈ wsA := wsA_t (List.mem_of_getElem? (i := 312) (by decide +kernel)) (by decide +kernel)
theorem mA_313 : Cond.instanceMethod (⟨"RadicalAnswers", "left", "(I)I"⟩ : MethodName) ∈ wsA := wsA_t (List.mem_of_getElem? (i := 313) (by decide +kernel)) (by decide +kernel)
theorem mA_314 : Cond.selects "RadicalAnswers" (⟨"RadicalAnswers", "left", "(I)I"⟩ : MethodName) (⟨"RadicalAnswers", "left", "(I)I"⟩ : MethodName) ∈ wsA := wsA_t (List.mem_of_getElem? (i := 314) (by decide +kernel)) (by decide +kernel)
theorem mA_315 : Cond.code (⟨"RadicalAnswers", "left", "(I)I"⟩ : MethodName) prog_1_method_8_code (2 : Nat) (Option.some FieldType.int) ∈ wsA := wsA_t (List.mem_of_getElem? (i := 315) (by decide +kernel)) (by decide +kernel)
theorem mA_316 : Cond.methodLink "RadicalAnswersLaw" (89 : Nat) (⟨"RadicalAnswersLaw", "answer", "(LRadicalAnswers;III[J)I"⟩ : MethodName) ∈ wsA := wsA_t (List.mem_of_getElem? (i := 316) (by decide +kernel)) (by decide +kernel)
theorem mA_317 : Cond.static (⟨"RadicalAnswersLaw", "answer", "(LRadicalAnswers;III[J)I"⟩ : MethodName) ∈ wsA := wsA_t (List.mem_of_getElem? (i := 317) (by decide +kernel)) (by decide +kernel)
theorem mA_319 : Cond.methodLink "RadicalAnswersLaw" (41 : Nat) (⟨"RadicalAnswers", "answer", "(III)I"⟩ : MethodName) ∈ wsA := wsA_t (List.mem_of_getElem? (i := 319) (by decide +kernel)) (by decide +kernel)
theorem mA_320 : Cond.instanceMethod (⟨"RadicalAnswers", "answer", "(III)I"⟩ : MethodName) ∈ wsA := wsA_t (List.mem_of_getElem? (i := 320) (by decide +kernel)) (by decide +kernel)
theorem mA_321 : Cond.selects "RadicalAnswers" (⟨"RadicalAnswers", "answer", "(III)I"⟩ : MethodName) (⟨"RadicalAnswers", "answer", "(III)I"⟩ : MethodName) ∈ wsA := wsA_t (List.mem_of_getElem? (i := 321) (by decide +kernel)) (by decide +kernel)
theorem mA_322 : Cond.code (⟨"RadicalAnswers", "answer", "(III)I"⟩ : MethodName) prog_1_method_9_code (8 : Nat) (Option.some FieldType.int) ∈ wsA := wsA_t (List.mem_of_getElem? (i := 322) (by decide +kernel)) (by decide +kernel)
theorem mA_326 : Cond.methodLink "RadicalAnswersLaw" (93 : Nat) (⟨"RadicalAnswersLaw", "real", "(LRadicalAnswers;[J)I"⟩ : MethodName) ∈ wsA := wsA_t (List.mem_of_getElem? (i := 326) (by decide +kernel)) (by decide +kernel)
theorem mA_327 : Cond.static (⟨"RadicalAnswersLaw", "real", "(LRadicalAnswers;[J)I"⟩ : MethodName) ∈ wsA := wsA_t (List.mem_of_getElem? (i := 327) (by decide +kernel)) (by decide +kernel)
theorem mA_329 : Cond.methodLink "RadicalAnswersLaw" (45 : Nat) (⟨"RadicalAnswers", "real", "()I"⟩ : MethodName) ∈ wsA := wsA_t (List.mem_of_getElem? (i := 329) (by decide +kernel)) (by decide +kernel)
theorem mA_330 : Cond.instanceMethod (⟨"RadicalAnswers", "real", "()I"⟩ : MethodName) ∈ wsA := wsA_t (List.mem_of_getElem? (i := 330) (by decide +kernel)) (by decide +kernel)
theorem mA_331 : Cond.selects "RadicalAnswers" (⟨"RadicalAnswers", "real", "()I"⟩ : MethodName) (⟨"RadicalAnswers", "real", "()I"⟩ : MethodName) ∈ wsA := wsA_t (List.mem_of_getElem? (i := 331) (by decide +kernel)) (by decide +kernel)
theorem mA_332 : Cond.code (⟨"RadicalAnswers", "real", "()I"⟩ : MethodName) prog_1_method_10_code (3 : Nat) (Option.some FieldType.int) ∈ wsA := wsA_t (List.mem_of_getElem? (i := 332) (by decide +kernel)) (by decide +kernel)
theorem mA_335 : Cond.instanceMethod (⟨"RadicalAnswers$Factor", "isReal", "()Z"⟩ : MethodName) ∈ wsA := wsA_t (List.mem_of_getElem? (i := 335) (by decide +kernel)) (by decide +kernel)
theorem mA_336 : Cond.code (⟨"RadicalAnswers$Factor", "isReal", "()Z"⟩ : MethodName) prog_2_method_4_code (1 : Nat) (Option.some FieldType.boolean) ∈ wsA := wsA_t (List.mem_of_getElem? (i := 336) (by decide +kernel)) (by decide +kernel)
theorem mA_337 : Cond.methodLink "RadicalAnswersLaw" (96 : Nat) (⟨"RadicalAnswersLaw", "floor", "(LRadicalAnswers;IZ[J)I"⟩ : MethodName) ∈ wsA := wsA_t (List.mem_of_getElem? (i := 337) (by decide +kernel)) (by decide +kernel)
theorem mA_338 : Cond.static (⟨"RadicalAnswersLaw", "floor", "(LRadicalAnswers;IZ[J)I"⟩ : MethodName) ∈ wsA := wsA_t (List.mem_of_getElem? (i := 338) (by decide +kernel)) (by decide +kernel)
theorem mA_340 : Cond.methodLink "RadicalAnswersLaw" (48 : Nat) (⟨"RadicalAnswers", "floor", "(IZ)I"⟩ : MethodName) ∈ wsA := wsA_t (List.mem_of_getElem? (i := 340) (by decide +kernel)) (by decide +kernel)
theorem mA_341 : Cond.instanceMethod (⟨"RadicalAnswers", "floor", "(IZ)I"⟩ : MethodName) ∈ wsA := wsA_t (List.mem_of_getElem? (i := 341) (by decide +kernel)) (by decide +kernel)
theorem mA_342 : Cond.selects "RadicalAnswers" (⟨"RadicalAnswers", "floor", "(IZ)I"⟩ : MethodName) (⟨"RadicalAnswers", "floor", "(IZ)I"⟩ : MethodName) ∈ wsA := wsA_t (List.mem_of_getElem? (i := 342) (by decide +kernel)) (by decide +kernel)
theorem mA_343 : Cond.code (⟨"RadicalAnswers", "floor", "(IZ)I"⟩ : MethodName) prog_1_method_11_code (6 : Nat) (Option.some FieldType.int) ∈ wsA := wsA_t (List.mem_of_getElem? (i := 343) (by decide +kernel)) (by decide +kernel)
theorem mA_344 : Cond.methodLink "RadicalAnswers" (115 : Nat) (⟨"RadicalAnswers", "checkReal", "(LRadicalAnswers$Factor;)V"⟩ : MethodName) ∈ wsA := wsA_t (List.mem_of_getElem? (i := 344) (by decide +kernel)) (by decide +kernel)
theorem mA_345 : Cond.static (⟨"RadicalAnswers", "checkReal", "(LRadicalAnswers$Factor;)V"⟩ : MethodName) ∈ wsA := wsA_t (List.mem_of_getElem? (i := 345) (by decide +kernel)) (by decide +kernel)
theorem mA_346 : Cond.code (⟨"RadicalAnswers", "checkReal", "(LRadicalAnswers$Factor;)V"⟩ : MethodName) prog_1_method_15_code (1 : Nat) (Option.none : Option Jvm.ClassFile.FieldType) ∈ wsA := wsA_t (List.mem_of_getElem? (i := 346) (by decide +kernel)) (by decide +kernel)
theorem mA_350 : Cond.instanceMethod (⟨"RadicalAnswers$Factor", "under", "()I"⟩ : MethodName) ∈ wsA := wsA_t (List.mem_of_getElem? (i := 350) (by decide +kernel)) (by decide +kernel)
theorem mA_351 : Cond.code (⟨"RadicalAnswers$Factor", "under", "()I"⟩ : MethodName) prog_2_method_6_code (1 : Nat) (Option.some FieldType.int) ∈ wsA := wsA_t (List.mem_of_getElem? (i := 351) (by decide +kernel)) (by decide +kernel)
theorem mA_352 : Cond.methodLink "RadicalAnswers" (122 : Nat) (⟨"RadicalAnswers", "wholeRoot", "(I)I"⟩ : MethodName) ∈ wsA := wsA_t (List.mem_of_getElem? (i := 352) (by decide +kernel)) (by decide +kernel)
theorem mA_353 : Cond.static (⟨"RadicalAnswers", "wholeRoot", "(I)I"⟩ : MethodName) ∈ wsA := wsA_t (List.mem_of_getElem? (i := 353) (by decide +kernel)) (by decide +kernel)
theorem mA_354 : Cond.code (⟨"RadicalAnswers", "wholeRoot", "(I)I"⟩ : MethodName) prog_1_method_30_code (2 : Nat) (Option.some FieldType.int) ∈ wsA := wsA_t (List.mem_of_getElem? (i := 354) (by decide +kernel)) (by decide +kernel)
theorem mA_355 : Cond.methodLink "RadicalAnswers" (126 : Nat) (⟨"java/lang/Math", "floorDiv", "(II)I"⟩ : MethodName) ∈ wsA := wsA_t (List.mem_of_getElem? (i := 355) (by decide +kernel)) (by decide +kernel)
theorem mA_356 : Cond.static (⟨"java/lang/Math", "floorDiv", "(II)I"⟩ : MethodName) ∈ wsA := wsA_t (List.mem_of_getElem? (i := 356) (by decide +kernel)) (by decide +kernel)
theorem mA_357 : Cond.code (⟨"java/lang/Math", "floorDiv", "(II)I"⟩ : MethodName) prog_9_method_47_code (3 : Nat) (Option.some FieldType.int) ∈ wsA := wsA_t (List.mem_of_getElem? (i := 357) (by decide +kernel)) (by decide +kernel)
theorem mA_358 : Cond.methodLink "RadicalAnswersLaw" (100 : Nat) (⟨"RadicalAnswersLaw", "compare", "(LRadicalAnswers;IZIZ[J)I"⟩ : MethodName) ∈ wsA := wsA_t (List.mem_of_getElem? (i := 358) (by decide +kernel)) (by decide +kernel)
theorem mA_359 : Cond.static (⟨"RadicalAnswersLaw", "compare", "(LRadicalAnswers;IZIZ[J)I"⟩ : MethodName) ∈ wsA := wsA_t (List.mem_of_getElem? (i := 359) (by decide +kernel)) (by decide +kernel)
theorem mA_361 : Cond.methodLink "RadicalAnswersLaw" (52 : Nat) (⟨"RadicalAnswers", "compare", "(IZIZ)I"⟩ : MethodName) ∈ wsA := wsA_t (List.mem_of_getElem? (i := 361) (by decide +kernel)) (by decide +kernel)
theorem mA_362 : Cond.instanceMethod (⟨"RadicalAnswers", "compare", "(IZIZ)I"⟩ : MethodName) ∈ wsA := wsA_t (List.mem_of_getElem? (i := 362) (by decide +kernel)) (by decide +kernel)
theorem mA_363 : Cond.selects "RadicalAnswers" (⟨"RadicalAnswers", "compare", "(IZIZ)I"⟩ : MethodName) (⟨"RadicalAnswers", "compare", "(IZIZ)I"⟩ : MethodName) ∈ wsA := wsA_t (List.mem_of_getElem? (i := 363) (by decide +kernel)) (by decide +kernel)
theorem mA_364 : Cond.code (⟨"RadicalAnswers", "compare", "(IZIZ)I"⟩ : MethodName) prog_1_method_12_code (13 : Nat) (Option.some FieldType.int) ∈ wsA := wsA_t (List.mem_of_getElem? (i := 364) (by decide +kernel)) (by decide +kernel)
theorem mA_365 : Cond.methodLink "RadicalAnswers" (131 : Nat) (⟨"RadicalAnswers", "signOfSum", "(JJJJJ)I"⟩ : MethodName) ∈ wsA := wsA_t (List.mem_of_getElem? (i := 365) (by decide +kernel)) (by decide +kernel)
theorem mA_366 : Cond.static (⟨"RadicalAnswers", "signOfSum", "(JJJJJ)I"⟩ : MethodName) ∈ wsA := wsA_t (List.mem_of_getElem? (i := 366) (by decide +kernel)) (by decide +kernel)
theorem mA_367 : Cond.code (⟨"RadicalAnswers", "signOfSum", "(JJJJJ)I"⟩ : MethodName) prog_1_method_31_code (14 : Nat) (Option.some FieldType.int) ∈ wsA := wsA_t (List.mem_of_getElem? (i := 367) (by decide +kernel)) (by decide +kernel)
theorem mA_368 : Cond.methodLink "RadicalAnswers" (183 : Nat) (⟨"RadicalAnswers", "signOfRoots", "(JJJJ)I"⟩ : MethodName) ∈ wsA := wsA_t (List.mem_of_getElem? (i := 368) (by decide +kernel)) (by decide +kernel)
theorem mA_369 : Cond.static (⟨"RadicalAnswers", "signOfRoots", "(JJJJ)I"⟩ : MethodName) ∈ wsA := wsA_t (List.mem_of_getElem? (i := 369) (by decide +kernel)) (by decide +kernel)
theorem mA_370 : Cond.code (⟨"RadicalAnswers", "signOfRoots", "(JJJJ)I"⟩ : MethodName) prog_1_method_32_code (10 : Nat) (Option.some FieldType.int) ∈ wsA := wsA_t (List.mem_of_getElem? (i := 370) (by decide +kernel)) (by decide +kernel)
theorem mA_371 : Cond.methodLink "RadicalAnswers" (187 : Nat) (⟨"RadicalAnswers", "signedSquare", "(J)J"⟩ : MethodName) ∈ wsA := wsA_t (List.mem_of_getElem? (i := 371) (by decide +kernel)) (by decide +kernel)
theorem mA_372 : Cond.static (⟨"RadicalAnswers", "signedSquare", "(J)J"⟩ : MethodName) ∈ wsA := wsA_t (List.mem_of_getElem? (i := 372) (by decide +kernel)) (by decide +kernel)
theorem mA_373 : Cond.code (⟨"RadicalAnswers", "signedSquare", "(J)J"⟩ : MethodName) prog_1_method_33_code (2 : Nat) (Option.some FieldType.long) ∈ wsA := wsA_t (List.mem_of_getElem? (i := 373) (by decide +kernel)) (by decide +kernel)
theorem mA_374 : Cond.constantLong "RadicalAnswers" (191 : Nat) (2 : Int64) ∈ wsA := wsA_t (List.mem_of_getElem? (i := 374) (by decide +kernel)) (by decide +kernel)
theorem mA_375 : Cond.classLink "RadicalAnswersLaw" (57 : Nat) "RadicalAnswersModel" ∈ wsA := wsA_t (List.mem_of_getElem? (i := 375) (by decide +kernel)) (by decide +kernel)
theorem mA_376 : Cond.instantiable "RadicalAnswersModel" (17 : Nat) ∈ wsA := wsA_t (List.mem_of_getElem? (i := 376) (by decide +kernel)) (by decide +kernel)
theorem mA_377 : Cond.methodLink "RadicalAnswersLaw" (59 : Nat) (⟨"RadicalAnswersModel", "<init>", "()V"⟩ : MethodName) ∈ wsA := wsA_t (List.mem_of_getElem? (i := 377) (by decide +kernel)) (by decide +kernel)
theorem mA_378 : Cond.instanceMethod (⟨"RadicalAnswersModel", "<init>", "()V"⟩ : MethodName) ∈ wsA := wsA_t (List.mem_of_getElem? (i := 378) (by decide +kernel)) (by decide +kernel)
theorem mA_379 : Cond.code (⟨"RadicalAnswersModel", "<init>", "()V"⟩ : MethodName) prog_4_method_1_code (1 : Nat) (Option.none : Option Jvm.ClassFile.FieldType) ∈ wsA := wsA_t (List.mem_of_getElem? (i := 379) (by decide +kernel)) (by decide +kernel)
theorem mA_380 : Cond.methodLink "RadicalAnswersModel" (1 : Nat) (⟨"java/lang/Object", "<init>", "()V"⟩ : MethodName) ∈ wsA := wsA_t (List.mem_of_getElem? (i := 380) (by decide +kernel)) (by decide +kernel)
theorem mA_381 : Cond.fieldLink "RadicalAnswersModel" (32 : Nat) "RadicalAnswersModel" "code" "I" ∈ wsA := wsA_t (List.mem_of_getElem? (i := 381) (by decide +kernel)) (by decide +kernel)
theorem mA_382 : Cond.fieldLink "RadicalAnswersModel" (7 : Nat) "RadicalAnswersModel" "numbers" "[I" ∈ wsA := wsA_t (List.mem_of_getElem? (i := 382) (by decide +kernel)) (by decide +kernel)
theorem mA_383 : Cond.fieldLink "RadicalAnswersModel" (13 : Nat) "RadicalAnswersModel" "rest" "[J" ∈ wsA := wsA_t (List.mem_of_getElem? (i := 383) (by decide +kernel)) (by decide +kernel)
theorem mA_384 : Cond.fieldLink "RadicalAnswersModel" (17 : Nat) "RadicalAnswersModel" "quotient" "[J" ∈ wsA := wsA_t (List.mem_of_getElem? (i := 384) (by decide +kernel)) (by decide +kernel)
theorem mA_385 : Cond.fieldLink "RadicalAnswersModel" (79 : Nat) "RadicalAnswersModel" "content" "I" ∈ wsA := wsA_t (List.mem_of_getElem? (i := 385) (by decide +kernel)) (by decide +kernel)
theorem mA_386 : Cond.fieldLink "RadicalAnswersModel" (72 : Nat) "RadicalAnswersModel" "factors" "I" ∈ wsA := wsA_t (List.mem_of_getElem? (i := 386) (by decide +kernel)) (by decide +kernel)
theorem mA_387 : Cond.fieldLink "RadicalAnswersModel" (20 : Nat) "RadicalAnswersModel" "as" "[I" ∈ wsA := wsA_t (List.mem_of_getElem? (i := 387) (by decide +kernel)) (by decide +kernel)
theorem mA_388 : Cond.fieldLink "RadicalAnswersModel" (23 : Nat) "RadicalAnswersModel" "bs" "[I" ∈ wsA := wsA_t (List.mem_of_getElem? (i := 388) (by decide +kernel)) (by decide +kernel)
theorem mA_389 : Cond.fieldLink "RadicalAnswersModel" (26 : Nat) "RadicalAnswersModel" "cs" "[I" ∈ wsA := wsA_t (List.mem_of_getElem? (i := 389) (by decide +kernel)) (by decide +kernel)
theorem mA_390 : Cond.fieldLink "RadicalAnswersModel" (29 : Nat) "RadicalAnswersModel" "often" "[I" ∈ wsA := wsA_t (List.mem_of_getElem? (i := 390) (by decide +kernel)) (by decide +kernel)
theorem mA_391 : Cond.fieldLink "RadicalAnswersModel" (113 : Nat) "RadicalAnswersModel" "pUp" "J" ∈ wsA := wsA_t (List.mem_of_getElem? (i := 391) (by decide +kernel)) (by decide +kernel)
theorem mA_392 : Cond.fieldLink "RadicalAnswersModel" (116 : Nat) "RadicalAnswersModel" "pDown" "J" ∈ wsA := wsA_t (List.mem_of_getElem? (i := 392) (by decide +kernel)) (by decide +kernel)
theorem mA_393 : Cond.fieldLink "RadicalAnswersModel" (103 : Nat) "RadicalAnswersModel" "qUp" "J" ∈ wsA := wsA_t (List.mem_of_getElem? (i := 393) (by decide +kernel)) (by decide +kernel)
theorem mA_394 : Cond.fieldLink "RadicalAnswersModel" (106 : Nat) "RadicalAnswersModel" "qDown" "J" ∈ wsA := wsA_t (List.mem_of_getElem? (i := 394) (by decide +kernel)) (by decide +kernel)
theorem mA_395 : Cond.fieldLink "RadicalAnswersModel" (100 : Nat) "RadicalAnswersModel" "square" "J" ∈ wsA := wsA_t (List.mem_of_getElem? (i := 395) (by decide +kernel)) (by decide +kernel)
theorem mA_396 : Cond.fieldLink "RadicalAnswersModel" (44 : Nat) "RadicalAnswersModel" "up" "J" ∈ wsA := wsA_t (List.mem_of_getElem? (i := 396) (by decide +kernel)) (by decide +kernel)
theorem mA_397 : Cond.fieldLink "RadicalAnswersModel" (48 : Nat) "RadicalAnswersModel" "down" "J" ∈ wsA := wsA_t (List.mem_of_getElem? (i := 397) (by decide +kernel)) (by decide +kernel)
theorem mA_398 : Cond.lays "RadicalAnswersModel" "RadicalAnswersModel" "code" "I" ∈ wsA := wsA_t (List.mem_of_getElem? (i := 398) (by decide +kernel)) (by decide +kernel)
theorem mA_400 : Cond.laysFinal "RadicalAnswersModel" "RadicalAnswersModel" "numbers" "[I" ∈ wsA := wsA_t (List.mem_of_getElem? (i := 400) (by decide +kernel)) (by decide +kernel)
theorem mA_402 : Cond.laysFinal "RadicalAnswersModel" "RadicalAnswersModel" "rest" "[J" ∈ wsA := wsA_t (List.mem_of_getElem? (i := 402) (by decide +kernel)) (by decide +kernel)
theorem mA_404 : Cond.laysFinal "RadicalAnswersModel" "RadicalAnswersModel" "quotient" "[J" ∈ wsA := wsA_t (List.mem_of_getElem? (i := 404) (by decide +kernel)) (by decide +kernel)
theorem mA_406 : Cond.lays "RadicalAnswersModel" "RadicalAnswersModel" "content" "I" ∈ wsA := wsA_t (List.mem_of_getElem? (i := 406) (by decide +kernel)) (by decide +kernel)
theorem mA_408 : Cond.lays "RadicalAnswersModel" "RadicalAnswersModel" "factors" "I" ∈ wsA := wsA_t (List.mem_of_getElem? (i := 408) (by decide +kernel)) (by decide +kernel)
theorem mA_410 : Cond.laysFinal "RadicalAnswersModel" "RadicalAnswersModel" "as" "[I" ∈ wsA := wsA_t (List.mem_of_getElem? (i := 410) (by decide +kernel)) (by decide +kernel)
theorem mA_412 : Cond.laysFinal "RadicalAnswersModel" "RadicalAnswersModel" "bs" "[I" ∈ wsA := wsA_t (List.mem_of_getElem? (i := 412) (by decide +kernel)) (by decide +kernel)
theorem mA_414 : Cond.laysFinal "RadicalAnswersModel" "RadicalAnswersModel" "cs" "[I" ∈ wsA := wsA_t (List.mem_of_getElem? (i := 414) (by decide +kernel)) (by decide +kernel)
theorem mA_416 : Cond.laysFinal "RadicalAnswersModel" "RadicalAnswersModel" "often" "[I" ∈ wsA := wsA_t (List.mem_of_getElem? (i := 416) (by decide +kernel)) (by decide +kernel)
theorem mA_418 : Cond.lays "RadicalAnswersModel" "RadicalAnswersModel" "pUp" "J" ∈ wsA := wsA_t (List.mem_of_getElem? (i := 418) (by decide +kernel)) (by decide +kernel)
theorem mA_420 : Cond.lays "RadicalAnswersModel" "RadicalAnswersModel" "pDown" "J" ∈ wsA := wsA_t (List.mem_of_getElem? (i := 420) (by decide +kernel)) (by decide +kernel)
theorem mA_422 : Cond.lays "RadicalAnswersModel" "RadicalAnswersModel" "qUp" "J" ∈ wsA := wsA_t (List.mem_of_getElem? (i := 422) (by decide +kernel)) (by decide +kernel)
theorem mA_424 : Cond.lays "RadicalAnswersModel" "RadicalAnswersModel" "qDown" "J" ∈ wsA := wsA_t (List.mem_of_getElem? (i := 424) (by decide +kernel)) (by decide +kernel)
theorem mA_426 : Cond.lays "RadicalAnswersModel" "RadicalAnswersModel" "square" "J" ∈ wsA := wsA_t (List.mem_of_getElem? (i := 426) (by decide +kernel)) (by decide +kernel)
theorem mA_428 : Cond.lays "RadicalAnswersModel" "RadicalAnswersModel" "up" "J" ∈ wsA := wsA_t (List.mem_of_getElem? (i := 428) (by decide +kernel)) (by decide +kernel)
theorem mA_430 : Cond.lays "RadicalAnswersModel" "RadicalAnswersModel" "down" "J" ∈ wsA := wsA_t (List.mem_of_getElem? (i := 430) (by decide +kernel)) (by decide +kernel)
theorem mA_433 : Cond.arrayClass FieldType.long ∈ wsA := wsA_t (List.mem_of_getElem? (i := 433) (by decide +kernel)) (by decide +kernel)
theorem mA_434 : Cond.methodLink "RadicalAnswersLaw" (66 : Nat) (⟨"RadicalAnswersModel", "thrown", "()I"⟩ : MethodName) ∈ wsA := wsA_t (List.mem_of_getElem? (i := 434) (by decide +kernel)) (by decide +kernel)
theorem mA_435 : Cond.instanceMethod (⟨"RadicalAnswersModel", "thrown", "()I"⟩ : MethodName) ∈ wsA := wsA_t (List.mem_of_getElem? (i := 435) (by decide +kernel)) (by decide +kernel)
theorem mA_436 : Cond.selects "RadicalAnswersModel" (⟨"RadicalAnswersModel", "thrown", "()I"⟩ : MethodName) (⟨"RadicalAnswersModel", "thrown", "()I"⟩ : MethodName) ∈ wsA := wsA_t (List.mem_of_getElem? (i := 436) (by decide +kernel)) (by decide +kernel)
theorem mA_437 : Cond.code (⟨"RadicalAnswersModel", "thrown", "()I"⟩ : MethodName) prog_4_method_2_code (1 : Nat) (Option.some FieldType.int) ∈ wsA := wsA_t (List.mem_of_getElem? (i := 437) (by decide +kernel)) (by decide +kernel)
theorem mA_438 : Cond.methodLink "RadicalAnswersLaw" (65 : Nat) (⟨"RadicalAnswersModel", "put", "(II)Z"⟩ : MethodName) ∈ wsA := wsA_t (List.mem_of_getElem? (i := 438) (by decide +kernel)) (by decide +kernel)
theorem mA_439 : Cond.instanceMethod (⟨"RadicalAnswersModel", "put", "(II)Z"⟩ : MethodName) ∈ wsA := wsA_t (List.mem_of_getElem? (i := 439) (by decide +kernel)) (by decide +kernel)
theorem mA_440 : Cond.selects "RadicalAnswersModel" (⟨"RadicalAnswersModel", "put", "(II)Z"⟩ : MethodName) (⟨"RadicalAnswersModel", "put", "(II)Z"⟩ : MethodName) ∈ wsA := wsA_t (List.mem_of_getElem? (i := 440) (by decide +kernel)) (by decide +kernel)
theorem mA_441 : Cond.code (⟨"RadicalAnswersModel", "put", "(II)Z"⟩ : MethodName) prog_4_method_8_code (4 : Nat) (Option.some FieldType.boolean) ∈ wsA := wsA_t (List.mem_of_getElem? (i := 441) (by decide +kernel)) (by decide +kernel)
theorem mA_442 : Cond.constantLong "RadicalAnswersModel" (51 : Nat) (4 : Int64) ∈ wsA := wsA_t (List.mem_of_getElem? (i := 442) (by decide +kernel)) (by decide +kernel)
theorem mA_443 : Cond.methodLink "RadicalAnswersModel" (53 : Nat) (⟨"RadicalAnswersModel", "in", "(JJJ)Z"⟩ : MethodName) ∈ wsA := wsA_t (List.mem_of_getElem? (i := 443) (by decide +kernel)) (by decide +kernel)
theorem mA_444 : Cond.static (⟨"RadicalAnswersModel", "in", "(JJJ)Z"⟩ : MethodName) ∈ wsA := wsA_t (List.mem_of_getElem? (i := 444) (by decide +kernel)) (by decide +kernel)
theorem mA_445 : Cond.code (⟨"RadicalAnswersModel", "in", "(JJJ)Z"⟩ : MethodName) prog_4_method_4_code (6 : Nat) (Option.some FieldType.boolean) ∈ wsA := wsA_t (List.mem_of_getElem? (i := 445) (by decide +kernel)) (by decide +kernel)
theorem mA_446 : Cond.constantLong "RadicalAnswersModel" (57 : Nat) (-20 : Int64) ∈ wsA := wsA_t (List.mem_of_getElem? (i := 446) (by decide +kernel)) (by decide +kernel)
theorem mA_447 : Cond.constantLong "RadicalAnswersModel" (59 : Nat) (20 : Int64) ∈ wsA := wsA_t (List.mem_of_getElem? (i := 447) (by decide +kernel)) (by decide +kernel)
theorem mA_448 : Cond.methodLink "RadicalAnswersLaw" (72 : Nat) (⟨"RadicalAnswersModel", "at", "(I)I"⟩ : MethodName) ∈ wsA := wsA_t (List.mem_of_getElem? (i := 448) (by decide +kernel)) (by decide +kernel)
theorem mA_449 : Cond.instanceMethod (⟨"RadicalAnswersModel", "at", "(I)I"⟩ : MethodName) ∈ wsA := wsA_t (List.mem_of_getElem? (i := 449) (by decide +kernel)) (by decide +kernel)
theorem mA_450 : Cond.selects "RadicalAnswersModel" (⟨"RadicalAnswersModel", "at", "(I)I"⟩ : MethodName) (⟨"RadicalAnswersModel", "at", "(I)I"⟩ : MethodName) ∈ wsA := wsA_t (List.mem_of_getElem? (i := 450) (by decide +kernel)) (by decide +kernel)
theorem mA_451 : Cond.code (⟨"RadicalAnswersModel", "at", "(I)I"⟩ : MethodName) prog_4_method_9_code (2 : Nat) (Option.some FieldType.int) ∈ wsA := wsA_t (List.mem_of_getElem? (i := 451) (by decide +kernel)) (by decide +kernel)
theorem mA_452 : Cond.methodLink "RadicalAnswersLaw" (107 : Nat) (⟨"RadicalAnswersModel", "clear", "()V"⟩ : MethodName) ∈ wsA := wsA_t (List.mem_of_getElem? (i := 452) (by decide +kernel)) (by decide +kernel)
theorem mA_453 : Cond.instanceMethod (⟨"RadicalAnswersModel", "clear", "()V"⟩ : MethodName) ∈ wsA := wsA_t (List.mem_of_getElem? (i := 453) (by decide +kernel)) (by decide +kernel)
theorem mA_454 : Cond.selects "RadicalAnswersModel" (⟨"RadicalAnswersModel", "clear", "()V"⟩ : MethodName) (⟨"RadicalAnswersModel", "clear", "()V"⟩ : MethodName) ∈ wsA := wsA_t (List.mem_of_getElem? (i := 454) (by decide +kernel)) (by decide +kernel)
theorem mA_455 : Cond.code (⟨"RadicalAnswersModel", "clear", "()V"⟩ : MethodName) prog_4_method_10_code (2 : Nat) (Option.none : Option Jvm.ClassFile.FieldType) ∈ wsA := wsA_t (List.mem_of_getElem? (i := 455) (by decide +kernel)) (by decide +kernel)
theorem mA_456 : Cond.methodLink "RadicalAnswersLaw" (75 : Nat) (⟨"RadicalAnswersModel", "change", "(I)Z"⟩ : MethodName) ∈ wsA := wsA_t (List.mem_of_getElem? (i := 456) (by decide +kernel)) (by decide +kernel)
theorem mA_457 : Cond.instanceMethod (⟨"RadicalAnswersModel", "change", "(I)Z"⟩ : MethodName) ∈ wsA := wsA_t (List.mem_of_getElem? (i := 457) (by decide +kernel)) (by decide +kernel)
theorem mA_458 : Cond.selects "RadicalAnswersModel" (⟨"RadicalAnswersModel", "change", "(I)Z"⟩ : MethodName) (⟨"RadicalAnswersModel", "change", "(I)Z"⟩ : MethodName) ∈ wsA := wsA_t (List.mem_of_getElem? (i := 458) (by decide +kernel)) (by decide +kernel)
theorem mA_459 : Cond.code (⟨"RadicalAnswersModel", "change", "(I)Z"⟩ : MethodName) prog_4_method_12_code (5 : Nat) (Option.some FieldType.boolean) ∈ wsA := wsA_t (List.mem_of_getElem? (i := 459) (by decide +kernel)) (by decide +kernel)
theorem mA_460 : Cond.constantLong "RadicalAnswersModel" (61 : Nat) (-1 : Int64) ∈ wsA := wsA_t (List.mem_of_getElem? (i := 460) (by decide +kernel)) (by decide +kernel)
theorem mA_461 : Cond.constantLong "RadicalAnswersModel" (63 : Nat) (2 : Int64) ∈ wsA := wsA_t (List.mem_of_getElem? (i := 461) (by decide +kernel)) (by decide +kernel)
theorem mA_462 : Cond.methodLink "RadicalAnswersModel" (65 : Nat) (⟨"RadicalAnswersModel", "degree", "()I"⟩ : MethodName) ∈ wsA := wsA_t (List.mem_of_getElem? (i := 462) (by decide +kernel)) (by decide +kernel)
theorem mA_464 : Cond.instanceMethod (⟨"RadicalAnswersModel", "degree", "()I"⟩ : MethodName) ∈ wsA := wsA_t (List.mem_of_getElem? (i := 464) (by decide +kernel)) (by decide +kernel)
theorem mA_465 : Cond.code (⟨"RadicalAnswersModel", "degree", "()I"⟩ : MethodName) prog_4_method_11_code (2 : Nat) (Option.some FieldType.int) ∈ wsA := wsA_t (List.mem_of_getElem? (i := 465) (by decide +kernel)) (by decide +kernel)
theorem mA_466 : Cond.methodLink "RadicalAnswersLaw" (79 : Nat) (⟨"RadicalAnswersModel", "factors", "()I"⟩ : MethodName) ∈ wsA := wsA_t (List.mem_of_getElem? (i := 466) (by decide +kernel)) (by decide +kernel)
theorem mA_467 : Cond.instanceMethod (⟨"RadicalAnswersModel", "factors", "()I"⟩ : MethodName) ∈ wsA := wsA_t (List.mem_of_getElem? (i := 467) (by decide +kernel)) (by decide +kernel)
theorem mA_468 : Cond.selects "RadicalAnswersModel" (⟨"RadicalAnswersModel", "factors", "()I"⟩ : MethodName) (⟨"RadicalAnswersModel", "factors", "()I"⟩ : MethodName) ∈ wsA := wsA_t (List.mem_of_getElem? (i := 468) (by decide +kernel)) (by decide +kernel)
theorem mA_469 : Cond.code (⟨"RadicalAnswersModel", "factors", "()I"⟩ : MethodName) prog_4_method_19_code (1 : Nat) (Option.some FieldType.int) ∈ wsA := wsA_t (List.mem_of_getElem? (i := 469) (by decide +kernel)) (by decide +kernel)
theorem mA_470 : Cond.methodLink "RadicalAnswersModel" (89 : Nat) (⟨"RadicalAnswersModel", "isNone", "()Z"⟩ : MethodName) ∈ wsA := wsA_t (List.mem_of_getElem? (i := 470) (by decide +kernel)) (by decide +kernel)
theorem mA_472 : Cond.instanceMethod (⟨"RadicalAnswersModel", "isNone", "()Z"⟩ : MethodName) ∈ wsA := wsA_t (List.mem_of_getElem? (i := 472) (by decide +kernel)) (by decide +kernel)
theorem mA_473 : Cond.code (⟨"RadicalAnswersModel", "isNone", "()Z"⟩ : MethodName) prog_4_method_17_code (1 : Nat) (Option.some FieldType.boolean) ∈ wsA := wsA_t (List.mem_of_getElem? (i := 473) (by decide +kernel)) (by decide +kernel)
theorem mA_474 : Cond.methodLink "RadicalAnswersModel" (93 : Nat) (⟨"RadicalAnswersModel", "raise", "(I)I"⟩ : MethodName) ∈ wsA := wsA_t (List.mem_of_getElem? (i := 474) (by decide +kernel)) (by decide +kernel)
theorem mA_476 : Cond.instanceMethod (⟨"RadicalAnswersModel", "raise", "(I)I"⟩ : MethodName) ∈ wsA := wsA_t (List.mem_of_getElem? (i := 476) (by decide +kernel)) (by decide +kernel)
theorem mA_477 : Cond.code (⟨"RadicalAnswersModel", "raise", "(I)I"⟩ : MethodName) prog_4_method_3_code (2 : Nat) (Option.some FieldType.int) ∈ wsA := wsA_t (List.mem_of_getElem? (i := 477) (by decide +kernel)) (by decide +kernel)
theorem mA_478 : Cond.methodLink "RadicalAnswersModel" (97 : Nat) (⟨"RadicalAnswersModel", "find", "()V"⟩ : MethodName) ∈ wsA := wsA_t (List.mem_of_getElem? (i := 478) (by decide +kernel)) (by decide +kernel)
theorem mA_480 : Cond.instanceMethod (⟨"RadicalAnswersModel", "find", "()V"⟩ : MethodName) ∈ wsA := wsA_t (List.mem_of_getElem? (i := 480) (by decide +kernel)) (by decide +kernel)
theorem mA_481 : Cond.code (⟨"RadicalAnswersModel", "find", "()V"⟩ : MethodName) prog_4_method_18_code (7 : Nat) (Option.none : Option Jvm.ClassFile.FieldType) ∈ wsA := wsA_t (List.mem_of_getElem? (i := 481) (by decide +kernel)) (by decide +kernel)
theorem mA_482 : Cond.methodLink "RadicalAnswersModel" (40 : Nat) (⟨"RadicalAnswersModel", "divisor", "(JJ)J"⟩ : MethodName) ∈ wsA := wsA_t (List.mem_of_getElem? (i := 482) (by decide +kernel)) (by decide +kernel)
theorem mA_483 : Cond.static (⟨"RadicalAnswersModel", "divisor", "(JJ)J"⟩ : MethodName) ∈ wsA := wsA_t (List.mem_of_getElem? (i := 483) (by decide +kernel)) (by decide +kernel)
theorem mA_484 : Cond.code (⟨"RadicalAnswersModel", "divisor", "(JJ)J"⟩ : MethodName) prog_4_method_6_code (10 : Nat) (Option.some FieldType.long) ∈ wsA := wsA_t (List.mem_of_getElem? (i := 484) (by decide +kernel)) (by decide +kernel)
theorem mA_485 : Cond.methodLink "RadicalAnswersModel" (36 : Nat) (⟨"RadicalAnswersModel", "size", "(J)J"⟩ : MethodName) ∈ wsA := wsA_t (List.mem_of_getElem? (i := 485) (by decide +kernel)) (by decide +kernel)
theorem mA_486 : Cond.static (⟨"RadicalAnswersModel", "size", "(J)J"⟩ : MethodName) ∈ wsA := wsA_t (List.mem_of_getElem? (i := 486) (by decide +kernel)) (by decide +kernel)
theorem mA_487 : Cond.code (⟨"RadicalAnswersModel", "size", "(J)J"⟩ : MethodName) prog_4_method_5_code (2 : Nat) (Option.some FieldType.long) ∈ wsA := wsA_t (List.mem_of_getElem? (i := 487) (by decide +kernel)) (by decide +kernel)
theorem mA_488 : Cond.methodLink "RadicalAnswersModel" (82 : Nat) (⟨"RadicalAnswersModel", "take", "(III)V"⟩ : MethodName) ∈ wsA := wsA_t (List.mem_of_getElem? (i := 488) (by decide +kernel)) (by decide +kernel)
theorem mA_490 : Cond.instanceMethod (⟨"RadicalAnswersModel", "take", "(III)V"⟩ : MethodName) ∈ wsA := wsA_t (List.mem_of_getElem? (i := 490) (by decide +kernel)) (by decide +kernel)
theorem mA_491 : Cond.code (⟨"RadicalAnswersModel", "take", "(III)V"⟩ : MethodName) prog_4_method_15_code (5 : Nat) (Option.none : Option Jvm.ClassFile.FieldType) ∈ wsA := wsA_t (List.mem_of_getElem? (i := 491) (by decide +kernel)) (by decide +kernel)
theorem mA_492 : Cond.methodLink "RadicalAnswersModel" (75 : Nat) (⟨"RadicalAnswersModel", "divides", "(III)Z"⟩ : MethodName) ∈ wsA := wsA_t (List.mem_of_getElem? (i := 492) (by decide +kernel)) (by decide +kernel)
theorem mA_494 : Cond.instanceMethod (⟨"RadicalAnswersModel", "divides", "(III)Z"⟩ : MethodName) ∈ wsA := wsA_t (List.mem_of_getElem? (i := 494) (by decide +kernel)) (by decide +kernel)
theorem mA_495 : Cond.code (⟨"RadicalAnswersModel", "divides", "(III)Z"⟩ : MethodName) prog_4_method_14_code (9 : Nat) (Option.some FieldType.boolean) ∈ wsA := wsA_t (List.mem_of_getElem? (i := 495) (by decide +kernel)) (by decide +kernel)
theorem mA_496 : Cond.methodLink "RadicalAnswersModel" (69 : Nat) (⟨"RadicalAnswersModel", "restDegree", "()I"⟩ : MethodName) ∈ wsA := wsA_t (List.mem_of_getElem? (i := 496) (by decide +kernel)) (by decide +kernel)
theorem mA_498 : Cond.instanceMethod (⟨"RadicalAnswersModel", "restDegree", "()I"⟩ : MethodName) ∈ wsA := wsA_t (List.mem_of_getElem? (i := 498) (by decide +kernel)) (by decide +kernel)
theorem mA_499 : Cond.code (⟨"RadicalAnswersModel", "restDegree", "()I"⟩ : MethodName) prog_4_method_13_code (2 : Nat) (Option.some FieldType.int) ∈ wsA := wsA_t (List.mem_of_getElem? (i := 499) (by decide +kernel)) (by decide +kernel)
theorem mA_500 : Cond.methodLink "RadicalAnswersModel" (86 : Nat) (⟨"RadicalAnswersModel", "order", "()V"⟩ : MethodName) ∈ wsA := wsA_t (List.mem_of_getElem? (i := 500) (by decide +kernel)) (by decide +kernel)
theorem mA_502 : Cond.instanceMethod (⟨"RadicalAnswersModel", "order", "()V"⟩ : MethodName) ∈ wsA := wsA_t (List.mem_of_getElem? (i := 502) (by decide +kernel)) (by decide +kernel)
theorem mA_503 : Cond.code (⟨"RadicalAnswersModel", "order", "()V"⟩ : MethodName) prog_4_method_16_code (3 : Nat) (Option.none : Option Jvm.ClassFile.FieldType) ∈ wsA := wsA_t (List.mem_of_getElem? (i := 503) (by decide +kernel)) (by decide +kernel)
theorem mA_504 : Cond.methodLink "RadicalAnswersLaw" (82 : Nat) (⟨"RadicalAnswersModel", "factor", "(II)I"⟩ : MethodName) ∈ wsA := wsA_t (List.mem_of_getElem? (i := 504) (by decide +kernel)) (by decide +kernel)
theorem mA_505 : Cond.instanceMethod (⟨"RadicalAnswersModel", "factor", "(II)I"⟩ : MethodName) ∈ wsA := wsA_t (List.mem_of_getElem? (i := 505) (by decide +kernel)) (by decide +kernel)
theorem mA_506 : Cond.selects "RadicalAnswersModel" (⟨"RadicalAnswersModel", "factor", "(II)I"⟩ : MethodName) (⟨"RadicalAnswersModel", "factor", "(II)I"⟩ : MethodName) ∈ wsA := wsA_t (List.mem_of_getElem? (i := 506) (by decide +kernel)) (by decide +kernel)
theorem mA_507 : Cond.code (⟨"RadicalAnswersModel", "factor", "(II)I"⟩ : MethodName) prog_4_method_22_code (3 : Nat) (Option.some FieldType.int) ∈ wsA := wsA_t (List.mem_of_getElem? (i := 507) (by decide +kernel)) (by decide +kernel)
theorem mA_508 : Cond.methodLink "RadicalAnswersModel" (119 : Nat) (⟨"RadicalAnswersModel", "isFactor", "(I)Z"⟩ : MethodName) ∈ wsA := wsA_t (List.mem_of_getElem? (i := 508) (by decide +kernel)) (by decide +kernel)
theorem mA_510 : Cond.instanceMethod (⟨"RadicalAnswersModel", "isFactor", "(I)Z"⟩ : MethodName) ∈ wsA := wsA_t (List.mem_of_getElem? (i := 510) (by decide +kernel)) (by decide +kernel)
theorem mA_511 : Cond.code (⟨"RadicalAnswersModel", "isFactor", "(I)Z"⟩ : MethodName) prog_4_method_20_code (2 : Nat) (Option.some FieldType.boolean) ∈ wsA := wsA_t (List.mem_of_getElem? (i := 511) (by decide +kernel)) (by decide +kernel)
theorem mA_512 : Cond.constantLong "RadicalAnswersModel" (123 : Nat) (5 : Int64) ∈ wsA := wsA_t (List.mem_of_getElem? (i := 512) (by decide +kernel)) (by decide +kernel)
theorem mA_513 : Cond.methodLink "RadicalAnswersModel" (125 : Nat) (⟨"RadicalAnswersModel", "answerOf", "(I)V"⟩ : MethodName) ∈ wsA := wsA_t (List.mem_of_getElem? (i := 513) (by decide +kernel)) (by decide +kernel)
theorem mA_515 : Cond.instanceMethod (⟨"RadicalAnswersModel", "answerOf", "(I)V"⟩ : MethodName) ∈ wsA := wsA_t (List.mem_of_getElem? (i := 515) (by decide +kernel)) (by decide +kernel)
theorem mA_516 : Cond.code (⟨"RadicalAnswersModel", "answerOf", "(I)V"⟩ : MethodName) prog_4_method_21_code (12 : Nat) (Option.none : Option Jvm.ClassFile.FieldType) ∈ wsA := wsA_t (List.mem_of_getElem? (i := 516) (by decide +kernel)) (by decide +kernel)
theorem mA_517 : Cond.methodLink "RadicalAnswersModel" (109 : Nat) (⟨"RadicalAnswersModel", "lowest", "(JJ)V"⟩ : MethodName) ∈ wsA := wsA_t (List.mem_of_getElem? (i := 517) (by decide +kernel)) (by decide +kernel)
theorem mA_519 : Cond.instanceMethod (⟨"RadicalAnswersModel", "lowest", "(JJ)V"⟩ : MethodName) ∈ wsA := wsA_t (List.mem_of_getElem? (i := 519) (by decide +kernel)) (by decide +kernel)
theorem mA_520 : Cond.code (⟨"RadicalAnswersModel", "lowest", "(JJ)V"⟩ : MethodName) prog_4_method_7_code (7 : Nat) (Option.none : Option Jvm.ClassFile.FieldType) ∈ wsA := wsA_t (List.mem_of_getElem? (i := 520) (by decide +kernel)) (by decide +kernel)
theorem mA_521 : Cond.methodLink "RadicalAnswersLaw" (85 : Nat) (⟨"RadicalAnswersModel", "content", "()I"⟩ : MethodName) ∈ wsA := wsA_t (List.mem_of_getElem? (i := 521) (by decide +kernel)) (by decide +kernel)
theorem mA_522 : Cond.instanceMethod (⟨"RadicalAnswersModel", "content", "()I"⟩ : MethodName) ∈ wsA := wsA_t (List.mem_of_getElem? (i := 522) (by decide +kernel)) (by decide +kernel)
theorem mA_523 : Cond.selects "RadicalAnswersModel" (⟨"RadicalAnswersModel", "content", "()I"⟩ : MethodName) (⟨"RadicalAnswersModel", "content", "()I"⟩ : MethodName) ∈ wsA := wsA_t (List.mem_of_getElem? (i := 523) (by decide +kernel)) (by decide +kernel)
theorem mA_524 : Cond.code (⟨"RadicalAnswersModel", "content", "()I"⟩ : MethodName) prog_4_method_23_code (1 : Nat) (Option.some FieldType.int) ∈ wsA := wsA_t (List.mem_of_getElem? (i := 524) (by decide +kernel)) (by decide +kernel)
theorem mA_525 : Cond.methodLink "RadicalAnswersLaw" (88 : Nat) (⟨"RadicalAnswersModel", "left", "(I)I"⟩ : MethodName) ∈ wsA := wsA_t (List.mem_of_getElem? (i := 525) (by decide +kernel)) (by decide +kernel)
theorem mA_526 : Cond.instanceMethod (⟨"RadicalAnswersModel", "left", "(I)I"⟩ : MethodName) ∈ wsA := wsA_t (List.mem_of_getElem? (i := 526) (by decide +kernel)) (by decide +kernel)
theorem mA_527 : Cond.selects "RadicalAnswersModel" (⟨"RadicalAnswersModel", "left", "(I)I"⟩ : MethodName) (⟨"RadicalAnswersModel", "left", "(I)I"⟩ : MethodName) ∈ wsA := wsA_t (List.mem_of_getElem? (i := 527) (by decide +kernel)) (by decide +kernel)
theorem mA_528 : Cond.code (⟨"RadicalAnswersModel", "left", "(I)I"⟩ : MethodName) prog_4_method_24_code (2 : Nat) (Option.some FieldType.int) ∈ wsA := wsA_t (List.mem_of_getElem? (i := 528) (by decide +kernel)) (by decide +kernel)
theorem mA_529 : Cond.methodLink "RadicalAnswersLaw" (92 : Nat) (⟨"RadicalAnswersModel", "answer", "(III)I"⟩ : MethodName) ∈ wsA := wsA_t (List.mem_of_getElem? (i := 529) (by decide +kernel)) (by decide +kernel)
theorem mA_530 : Cond.instanceMethod (⟨"RadicalAnswersModel", "answer", "(III)I"⟩ : MethodName) ∈ wsA := wsA_t (List.mem_of_getElem? (i := 530) (by decide +kernel)) (by decide +kernel)
theorem mA_531 : Cond.selects "RadicalAnswersModel" (⟨"RadicalAnswersModel", "answer", "(III)I"⟩ : MethodName) (⟨"RadicalAnswersModel", "answer", "(III)I"⟩ : MethodName) ∈ wsA := wsA_t (List.mem_of_getElem? (i := 531) (by decide +kernel)) (by decide +kernel)
theorem mA_532 : Cond.code (⟨"RadicalAnswersModel", "answer", "(III)I"⟩ : MethodName) prog_4_method_25_code (4 : Nat) (Option.some FieldType.int) ∈ wsA := wsA_t (List.mem_of_getElem? (i := 532) (by decide +kernel)) (by decide +kernel)
theorem mA_533 : Cond.methodLink "RadicalAnswersLaw" (95 : Nat) (⟨"RadicalAnswersModel", "real", "()I"⟩ : MethodName) ∈ wsA := wsA_t (List.mem_of_getElem? (i := 533) (by decide +kernel)) (by decide +kernel)
theorem mA_534 : Cond.instanceMethod (⟨"RadicalAnswersModel", "real", "()I"⟩ : MethodName) ∈ wsA := wsA_t (List.mem_of_getElem? (i := 534) (by decide +kernel)) (by decide +kernel)
theorem mA_535 : Cond.selects "RadicalAnswersModel" (⟨"RadicalAnswersModel", "real", "()I"⟩ : MethodName) (⟨"RadicalAnswersModel", "real", "()I"⟩ : MethodName) ∈ wsA := wsA_t (List.mem_of_getElem? (i := 535) (by decide +kernel)) (by decide +kernel)
theorem mA_536 : Cond.code (⟨"RadicalAnswersModel", "real", "()I"⟩ : MethodName) prog_4_method_27_code (3 : Nat) (Option.some FieldType.int) ∈ wsA := wsA_t (List.mem_of_getElem? (i := 536) (by decide +kernel)) (by decide +kernel)
theorem mA_537 : Cond.methodLink "RadicalAnswersModel" (129 : Nat) (⟨"RadicalAnswersModel", "isReal", "(I)Z"⟩ : MethodName) ∈ wsA := wsA_t (List.mem_of_getElem? (i := 537) (by decide +kernel)) (by decide +kernel)
theorem mA_539 : Cond.instanceMethod (⟨"RadicalAnswersModel", "isReal", "(I)Z"⟩ : MethodName) ∈ wsA := wsA_t (List.mem_of_getElem? (i := 539) (by decide +kernel)) (by decide +kernel)
theorem mA_540 : Cond.code (⟨"RadicalAnswersModel", "isReal", "(I)Z"⟩ : MethodName) prog_4_method_26_code (2 : Nat) (Option.some FieldType.boolean) ∈ wsA := wsA_t (List.mem_of_getElem? (i := 540) (by decide +kernel)) (by decide +kernel)
theorem mA_541 : Cond.methodLink "RadicalAnswersLaw" (99 : Nat) (⟨"RadicalAnswersModel", "floor", "(IZ)I"⟩ : MethodName) ∈ wsA := wsA_t (List.mem_of_getElem? (i := 541) (by decide +kernel)) (by decide +kernel)
theorem mA_542 : Cond.instanceMethod (⟨"RadicalAnswersModel", "floor", "(IZ)I"⟩ : MethodName) ∈ wsA := wsA_t (List.mem_of_getElem? (i := 542) (by decide +kernel)) (by decide +kernel)
theorem mA_543 : Cond.selects "RadicalAnswersModel" (⟨"RadicalAnswersModel", "floor", "(IZ)I"⟩ : MethodName) (⟨"RadicalAnswersModel", "floor", "(IZ)I"⟩ : MethodName) ∈ wsA := wsA_t (List.mem_of_getElem? (i := 543) (by decide +kernel)) (by decide +kernel)
theorem mA_544 : Cond.code (⟨"RadicalAnswersModel", "floor", "(IZ)I"⟩ : MethodName) prog_4_method_29_code (4 : Nat) (Option.some FieldType.int) ∈ wsA := wsA_t (List.mem_of_getElem? (i := 544) (by decide +kernel)) (by decide +kernel)
theorem mA_545 : Cond.methodLink "RadicalAnswersModel" (132 : Nat) (⟨"RadicalAnswersModel", "sign", "(IZJJ)I"⟩ : MethodName) ∈ wsA := wsA_t (List.mem_of_getElem? (i := 545) (by decide +kernel)) (by decide +kernel)
theorem mA_547 : Cond.instanceMethod (⟨"RadicalAnswersModel", "sign", "(IZJJ)I"⟩ : MethodName) ∈ wsA := wsA_t (List.mem_of_getElem? (i := 547) (by decide +kernel)) (by decide +kernel)
theorem mA_548 : Cond.code (⟨"RadicalAnswersModel", "sign", "(IZJJ)I"⟩ : MethodName) prog_4_method_28_code (15 : Nat) (Option.some FieldType.int) ∈ wsA := wsA_t (List.mem_of_getElem? (i := 548) (by decide +kernel)) (by decide +kernel)
theorem mA_549 : Cond.methodLink "RadicalAnswersLaw" (103 : Nat) (⟨"RadicalAnswersModel", "compare", "(IZIZ)I"⟩ : MethodName) ∈ wsA := wsA_t (List.mem_of_getElem? (i := 549) (by decide +kernel)) (by decide +kernel)
theorem mA_550 : Cond.instanceMethod (⟨"RadicalAnswersModel", "compare", "(IZIZ)I"⟩ : MethodName) ∈ wsA := wsA_t (List.mem_of_getElem? (i := 550) (by decide +kernel)) (by decide +kernel)
theorem mA_551 : Cond.selects "RadicalAnswersModel" (⟨"RadicalAnswersModel", "compare", "(IZIZ)I"⟩ : MethodName) (⟨"RadicalAnswersModel", "compare", "(IZIZ)I"⟩ : MethodName) ∈ wsA := wsA_t (List.mem_of_getElem? (i := 551) (by decide +kernel)) (by decide +kernel)
theorem mA_552 : Cond.code (⟨"RadicalAnswersModel", "compare", "(IZIZ)I"⟩ : MethodName) prog_4_method_30_code (13 : Nat) (Option.some FieldType.int) ∈ wsA := wsA_t (List.mem_of_getElem? (i := 552) (by decide +kernel)) (by decide +kernel)
theorem mA_553 : Cond.methodLink "RadicalAnswersModel" (136 : Nat) (⟨"RadicalAnswersModel", "leading", "(I)J"⟩ : MethodName) ∈ wsA := wsA_t (List.mem_of_getElem? (i := 553) (by decide +kernel)) (by decide +kernel)
theorem mA_555 : Cond.instanceMethod (⟨"RadicalAnswersModel", "leading", "(I)J"⟩ : MethodName) ∈ wsA := wsA_t (List.mem_of_getElem? (i := 555) (by decide +kernel)) (by decide +kernel)
theorem mA_556 : Cond.code (⟨"RadicalAnswersModel", "leading", "(I)J"⟩ : MethodName) prog_4_method_31_code (2 : Nat) (Option.some FieldType.long) ∈ wsA := wsA_t (List.mem_of_getElem? (i := 556) (by decide +kernel)) (by decide +kernel)
theorem mA_557 : Cond.methodLink "RadicalAnswersModel" (140 : Nat) (⟨"RadicalAnswersModel", "middle", "(I)J"⟩ : MethodName) ∈ wsA := wsA_t (List.mem_of_getElem? (i := 557) (by decide +kernel)) (by decide +kernel)
theorem mA_559 : Cond.instanceMethod (⟨"RadicalAnswersModel", "middle", "(I)J"⟩ : MethodName) ∈ wsA := wsA_t (List.mem_of_getElem? (i := 559) (by decide +kernel)) (by decide +kernel)
theorem mA_560 : Cond.code (⟨"RadicalAnswersModel", "middle", "(I)J"⟩ : MethodName) prog_4_method_32_code (2 : Nat) (Option.some FieldType.long) ∈ wsA := wsA_t (List.mem_of_getElem? (i := 560) (by decide +kernel)) (by decide +kernel)
theorem mA_561 : Cond.methodLink "RadicalAnswersModel" (143 : Nat) (⟨"RadicalAnswersModel", "under", "(I)J"⟩ : MethodName) ∈ wsA := wsA_t (List.mem_of_getElem? (i := 561) (by decide +kernel)) (by decide +kernel)
theorem mA_563 : Cond.instanceMethod (⟨"RadicalAnswersModel", "under", "(I)J"⟩ : MethodName) ∈ wsA := wsA_t (List.mem_of_getElem? (i := 563) (by decide +kernel)) (by decide +kernel)
theorem mA_564 : Cond.code (⟨"RadicalAnswersModel", "under", "(I)J"⟩ : MethodName) prog_4_method_33_code (2 : Nat) (Option.some FieldType.long) ∈ wsA := wsA_t (List.mem_of_getElem? (i := 564) (by decide +kernel)) (by decide +kernel)
theorem mA_565 : Cond.methodLink "RadicalAnswersModel" (146 : Nat) (⟨"RadicalAnswersModel", "allSign", "(JJJJJ)I"⟩ : MethodName) ∈ wsA := wsA_t (List.mem_of_getElem? (i := 565) (by decide +kernel)) (by decide +kernel)
theorem mA_566 : Cond.static (⟨"RadicalAnswersModel", "allSign", "(JJJJJ)I"⟩ : MethodName) ∈ wsA := wsA_t (List.mem_of_getElem? (i := 566) (by decide +kernel)) (by decide +kernel)
theorem mA_567 : Cond.code (⟨"RadicalAnswersModel", "allSign", "(JJJJJ)I"⟩ : MethodName) prog_4_method_36_code (12 : Nat) (Option.some FieldType.int) ∈ wsA := wsA_t (List.mem_of_getElem? (i := 567) (by decide +kernel)) (by decide +kernel)
theorem mA_568 : Cond.methodLink "RadicalAnswersModel" (154 : Nat) (⟨"RadicalAnswersModel", "rootSign", "(JJJ)I"⟩ : MethodName) ∈ wsA := wsA_t (List.mem_of_getElem? (i := 568) (by decide +kernel)) (by decide +kernel)
theorem mA_569 : Cond.static (⟨"RadicalAnswersModel", "rootSign", "(JJJ)I"⟩ : MethodName) ∈ wsA := wsA_t (List.mem_of_getElem? (i := 569) (by decide +kernel)) (by decide +kernel)
theorem mA_570 : Cond.code (⟨"RadicalAnswersModel", "rootSign", "(JJJ)I"⟩ : MethodName) prog_4_method_35_code (8 : Nat) (Option.some FieldType.int) ∈ wsA := wsA_t (List.mem_of_getElem? (i := 570) (by decide +kernel)) (by decide +kernel)
theorem mA_571 : Cond.methodLink "RadicalAnswersModel" (150 : Nat) (⟨"RadicalAnswersModel", "signOf", "(J)I"⟩ : MethodName) ∈ wsA := wsA_t (List.mem_of_getElem? (i := 571) (by decide +kernel)) (by decide +kernel)
theorem mA_572 : Cond.static (⟨"RadicalAnswersModel", "signOf", "(J)I"⟩ : MethodName) ∈ wsA := wsA_t (List.mem_of_getElem? (i := 572) (by decide +kernel)) (by decide +kernel)
theorem mA_573 : Cond.code (⟨"RadicalAnswersModel", "signOf", "(J)I"⟩ : MethodName) prog_4_method_34_code (2 : Nat) (Option.some FieldType.int) ∈ wsA := wsA_t (List.mem_of_getElem? (i := 573) (by decide +kernel)) (by decide +kernel)
theorem mP_0 : Cond.selects "java/lang/Throwable" (⟨"java/lang/Throwable", "fillInStackTrace", "(I)Ljava/lang/Throwable;"⟩ : MethodName) (⟨"java/lang/Throwable", "fillInStackTrace", "(I)Ljava/lang/Throwable;"⟩ : MethodName) ∈ wsA := wsA_p (List.mem_of_getElem? (i := 0) (by decide +kernel)) (by decide +kernel)
theorem mP_1 : Cond.selects "RadicalAnswers" (⟨"RadicalAnswers", "draftChange", "(II)V"⟩ : MethodName) (⟨"RadicalAnswers", "draftChange", "(II)V"⟩ : MethodName) ∈ wsA := wsA_p (List.mem_of_getElem? (i := 1) (by decide +kernel)) (by decide +kernel)
theorem mP_2 : Cond.selects "RadicalAnswers" (⟨"RadicalAnswers", "draftShift", "(I)V"⟩ : MethodName) (⟨"RadicalAnswers", "draftShift", "(I)V"⟩ : MethodName) ∈ wsA := wsA_p (List.mem_of_getElem? (i := 2) (by decide +kernel)) (by decide +kernel)
theorem mP_3 : Cond.selects "RadicalAnswers" (⟨"RadicalAnswers", "split", "()V"⟩ : MethodName) (⟨"RadicalAnswers", "split", "()V"⟩ : MethodName) ∈ wsA := wsA_p (List.mem_of_getElem? (i := 3) (by decide +kernel)) (by decide +kernel)
theorem mP_4 : Cond.selects "RadicalAnswers" (⟨"RadicalAnswers", "takeOutContent", "(I)V"⟩ : MethodName) (⟨"RadicalAnswers", "takeOutContent", "(I)V"⟩ : MethodName) ∈ wsA := wsA_p (List.mem_of_getElem? (i := 4) (by decide +kernel)) (by decide +kernel)
theorem mP_5 : Cond.selects "RadicalAnswers" (⟨"RadicalAnswers", "takeOutLinearFactors", "()V"⟩ : MethodName) (⟨"RadicalAnswers", "takeOutLinearFactors", "()V"⟩ : MethodName) ∈ wsA := wsA_p (List.mem_of_getElem? (i := 5) (by decide +kernel)) (by decide +kernel)
theorem mP_6 : Cond.selects "RadicalAnswers" (⟨"RadicalAnswers", "takeOut", "(III)V"⟩ : MethodName) (⟨"RadicalAnswers", "takeOut", "(III)V"⟩ : MethodName) ∈ wsA := wsA_p (List.mem_of_getElem? (i := 6) (by decide +kernel)) (by decide +kernel)
theorem mP_7 : Cond.selects "RadicalAnswers" (⟨"RadicalAnswers", "divideRest", "(III)Z"⟩ : MethodName) (⟨"RadicalAnswers", "divideRest", "(III)Z"⟩ : MethodName) ∈ wsA := wsA_p (List.mem_of_getElem? (i := 7) (by decide +kernel)) (by decide +kernel)
theorem mP_8 : Cond.selects "RadicalAnswers" (⟨"RadicalAnswers", "addFactor", "(IIII)V"⟩ : MethodName) (⟨"RadicalAnswers", "addFactor", "(IIII)V"⟩ : MethodName) ∈ wsA := wsA_p (List.mem_of_getElem? (i := 8) (by decide +kernel)) (by decide +kernel)
theorem mP_9 : Cond.selects "RadicalAnswers$Factor" (⟨"RadicalAnswers$Factor", "become", "(IIII)V"⟩ : MethodName) (⟨"RadicalAnswers$Factor", "become", "(IIII)V"⟩ : MethodName) ∈ wsA := wsA_p (List.mem_of_getElem? (i := 9) (by decide +kernel)) (by decide +kernel)
theorem mP_10 : Cond.selects "RadicalAnswers$Factor" (⟨"RadicalAnswers$Factor", "standsBefore", "(LRadicalAnswers$Factor;)Z"⟩ : MethodName) (⟨"RadicalAnswers$Factor", "standsBefore", "(LRadicalAnswers$Factor;)Z"⟩ : MethodName) ∈ wsA := wsA_p (List.mem_of_getElem? (i := 10) (by decide +kernel)) (by decide +kernel)
theorem mP_11 : Cond.selects "RadicalAnswers$Factor" (⟨"RadicalAnswers$Factor", "isLinear", "()Z"⟩ : MethodName) (⟨"RadicalAnswers$Factor", "isLinear", "()Z"⟩ : MethodName) ∈ wsA := wsA_p (List.mem_of_getElem? (i := 11) (by decide +kernel)) (by decide +kernel)
theorem mP_12 : Cond.selects "RadicalAnswers$Factor" (⟨"RadicalAnswers$Factor", "middle", "()I"⟩ : MethodName) (⟨"RadicalAnswers$Factor", "middle", "()I"⟩ : MethodName) ∈ wsA := wsA_p (List.mem_of_getElem? (i := 12) (by decide +kernel)) (by decide +kernel)
theorem mP_13 : Cond.selects "RadicalAnswers$Factor" (⟨"RadicalAnswers$Factor", "below", "()I"⟩ : MethodName) (⟨"RadicalAnswers$Factor", "below", "()I"⟩ : MethodName) ∈ wsA := wsA_p (List.mem_of_getElem? (i := 13) (by decide +kernel)) (by decide +kernel)
theorem mP_14 : Cond.selects "RadicalAnswers" (⟨"RadicalAnswers", "takeOutQuadraticFactors", "()V"⟩ : MethodName) (⟨"RadicalAnswers", "takeOutQuadraticFactors", "()V"⟩ : MethodName) ∈ wsA := wsA_p (List.mem_of_getElem? (i := 14) (by decide +kernel)) (by decide +kernel)
theorem mP_15 : Cond.selects "RadicalAnswers" (⟨"RadicalAnswers", "numbered", "(I)LRadicalAnswers$Factor;"⟩ : MethodName) (⟨"RadicalAnswers", "numbered", "(I)LRadicalAnswers$Factor;"⟩ : MethodName) ∈ wsA := wsA_p (List.mem_of_getElem? (i := 15) (by decide +kernel)) (by decide +kernel)
theorem mP_16 : Cond.selects "RadicalAnswers$Factor" (⟨"RadicalAnswers$Factor", "isReal", "()Z"⟩ : MethodName) (⟨"RadicalAnswers$Factor", "isReal", "()Z"⟩ : MethodName) ∈ wsA := wsA_p (List.mem_of_getElem? (i := 16) (by decide +kernel)) (by decide +kernel)
theorem mP_17 : Cond.selects "RadicalAnswers$Factor" (⟨"RadicalAnswers$Factor", "under", "()I"⟩ : MethodName) (⟨"RadicalAnswers$Factor", "under", "()I"⟩ : MethodName) ∈ wsA := wsA_p (List.mem_of_getElem? (i := 17) (by decide +kernel)) (by decide +kernel)
theorem mP_18 : Cond.selects "RadicalAnswersModel" (⟨"RadicalAnswersModel", "degree", "()I"⟩ : MethodName) (⟨"RadicalAnswersModel", "degree", "()I"⟩ : MethodName) ∈ wsA := wsA_p (List.mem_of_getElem? (i := 18) (by decide +kernel)) (by decide +kernel)
theorem mP_19 : Cond.selects "RadicalAnswersModel" (⟨"RadicalAnswersModel", "isNone", "()Z"⟩ : MethodName) (⟨"RadicalAnswersModel", "isNone", "()Z"⟩ : MethodName) ∈ wsA := wsA_p (List.mem_of_getElem? (i := 19) (by decide +kernel)) (by decide +kernel)
theorem mP_20 : Cond.selects "RadicalAnswersModel" (⟨"RadicalAnswersModel", "raise", "(I)I"⟩ : MethodName) (⟨"RadicalAnswersModel", "raise", "(I)I"⟩ : MethodName) ∈ wsA := wsA_p (List.mem_of_getElem? (i := 20) (by decide +kernel)) (by decide +kernel)
theorem mP_21 : Cond.selects "RadicalAnswersModel" (⟨"RadicalAnswersModel", "find", "()V"⟩ : MethodName) (⟨"RadicalAnswersModel", "find", "()V"⟩ : MethodName) ∈ wsA := wsA_p (List.mem_of_getElem? (i := 21) (by decide +kernel)) (by decide +kernel)
theorem mP_22 : Cond.selects "RadicalAnswersModel" (⟨"RadicalAnswersModel", "take", "(III)V"⟩ : MethodName) (⟨"RadicalAnswersModel", "take", "(III)V"⟩ : MethodName) ∈ wsA := wsA_p (List.mem_of_getElem? (i := 22) (by decide +kernel)) (by decide +kernel)
theorem mP_23 : Cond.selects "RadicalAnswersModel" (⟨"RadicalAnswersModel", "divides", "(III)Z"⟩ : MethodName) (⟨"RadicalAnswersModel", "divides", "(III)Z"⟩ : MethodName) ∈ wsA := wsA_p (List.mem_of_getElem? (i := 23) (by decide +kernel)) (by decide +kernel)
theorem mP_24 : Cond.selects "RadicalAnswersModel" (⟨"RadicalAnswersModel", "restDegree", "()I"⟩ : MethodName) (⟨"RadicalAnswersModel", "restDegree", "()I"⟩ : MethodName) ∈ wsA := wsA_p (List.mem_of_getElem? (i := 24) (by decide +kernel)) (by decide +kernel)
theorem mP_25 : Cond.selects "RadicalAnswersModel" (⟨"RadicalAnswersModel", "order", "()V"⟩ : MethodName) (⟨"RadicalAnswersModel", "order", "()V"⟩ : MethodName) ∈ wsA := wsA_p (List.mem_of_getElem? (i := 25) (by decide +kernel)) (by decide +kernel)
theorem mP_26 : Cond.selects "RadicalAnswersModel" (⟨"RadicalAnswersModel", "isFactor", "(I)Z"⟩ : MethodName) (⟨"RadicalAnswersModel", "isFactor", "(I)Z"⟩ : MethodName) ∈ wsA := wsA_p (List.mem_of_getElem? (i := 26) (by decide +kernel)) (by decide +kernel)
theorem mP_27 : Cond.selects "RadicalAnswersModel" (⟨"RadicalAnswersModel", "answerOf", "(I)V"⟩ : MethodName) (⟨"RadicalAnswersModel", "answerOf", "(I)V"⟩ : MethodName) ∈ wsA := wsA_p (List.mem_of_getElem? (i := 27) (by decide +kernel)) (by decide +kernel)
theorem mP_28 : Cond.selects "RadicalAnswersModel" (⟨"RadicalAnswersModel", "lowest", "(JJ)V"⟩ : MethodName) (⟨"RadicalAnswersModel", "lowest", "(JJ)V"⟩ : MethodName) ∈ wsA := wsA_p (List.mem_of_getElem? (i := 28) (by decide +kernel)) (by decide +kernel)
theorem mP_29 : Cond.selects "RadicalAnswersModel" (⟨"RadicalAnswersModel", "isReal", "(I)Z"⟩ : MethodName) (⟨"RadicalAnswersModel", "isReal", "(I)Z"⟩ : MethodName) ∈ wsA := wsA_p (List.mem_of_getElem? (i := 29) (by decide +kernel)) (by decide +kernel)
theorem mP_30 : Cond.selects "RadicalAnswersModel" (⟨"RadicalAnswersModel", "sign", "(IZJJ)I"⟩ : MethodName) (⟨"RadicalAnswersModel", "sign", "(IZJJ)I"⟩ : MethodName) ∈ wsA := wsA_p (List.mem_of_getElem? (i := 30) (by decide +kernel)) (by decide +kernel)
theorem mP_31 : Cond.selects "RadicalAnswersModel" (⟨"RadicalAnswersModel", "leading", "(I)J"⟩ : MethodName) (⟨"RadicalAnswersModel", "leading", "(I)J"⟩ : MethodName) ∈ wsA := wsA_p (List.mem_of_getElem? (i := 31) (by decide +kernel)) (by decide +kernel)
theorem mP_32 : Cond.selects "RadicalAnswersModel" (⟨"RadicalAnswersModel", "middle", "(I)J"⟩ : MethodName) (⟨"RadicalAnswersModel", "middle", "(I)J"⟩ : MethodName) ∈ wsA := wsA_p (List.mem_of_getElem? (i := 32) (by decide +kernel)) (by decide +kernel)
theorem mP_33 : Cond.selects "RadicalAnswersModel" (⟨"RadicalAnswersModel", "under", "(I)J"⟩ : MethodName) (⟨"RadicalAnswersModel", "under", "(I)J"⟩ : MethodName) ∈ wsA := wsA_p (List.mem_of_getElem? (i := 33) (by decide +kernel)) (by decide +kernel)
theorem mB_21 : Cond.arrayOver (FieldType.object "RadicalAnswers$Factor") ∈ wsB := wsB_t (List.mem_of_getElem? (i := 21) (by decide +kernel)) (by decide +kernel)
theorem mB_23 : Cond.methodLinkNest "RadicalAnswers" (25 : Nat) (⟨"RadicalAnswers$Factor", "<init>", "()V"⟩ : MethodName) "RadicalAnswers" ∈ wsB := wsB_t (List.mem_of_getElem? (i := 23) (by decide +kernel)) (by decide +kernel)
theorem mB_28 : Cond.fieldLinkNest "RadicalAnswers" (76 : Nat) "RadicalAnswers$Factor" "times" "I" "RadicalAnswers" ∈ wsB := wsB_t (List.mem_of_getElem? (i := 28) (by decide +kernel)) (by decide +kernel)
theorem mB_30 : Cond.fieldLinkNest "RadicalAnswers" (79 : Nat) "RadicalAnswers$Factor" "a" "I" "RadicalAnswers" ∈ wsB := wsB_t (List.mem_of_getElem? (i := 30) (by decide +kernel)) (by decide +kernel)
theorem mB_32 : Cond.fieldLinkNest "RadicalAnswers" (82 : Nat) "RadicalAnswers$Factor" "b" "I" "RadicalAnswers" ∈ wsB := wsB_t (List.mem_of_getElem? (i := 32) (by decide +kernel)) (by decide +kernel)
theorem mB_34 : Cond.fieldLinkNest "RadicalAnswers" (85 : Nat) "RadicalAnswers$Factor" "c" "I" "RadicalAnswers" ∈ wsB := wsB_t (List.mem_of_getElem? (i := 34) (by decide +kernel)) (by decide +kernel)
theorem mB_36 : Cond.fieldLinkNest "RadicalAnswers" (102 : Nat) "RadicalAnswers$Factor" "outside" "I" "RadicalAnswers" ∈ wsB := wsB_t (List.mem_of_getElem? (i := 36) (by decide +kernel)) (by decide +kernel)
theorem mB_38 : Cond.fieldLinkNest "RadicalAnswers" (88 : Nat) "RadicalAnswers$Factor" "inside" "I" "RadicalAnswers" ∈ wsB := wsB_t (List.mem_of_getElem? (i := 38) (by decide +kernel)) (by decide +kernel)
theorem mB_93 : Cond.castable "java/lang/IndexOutOfBoundsException" "java/lang/IndexOutOfBoundsException" ∈ wsB := wsB_t (List.mem_of_getElem? (i := 93) (by decide +kernel)) (by decide +kernel)
theorem mB_94 : Cond.declares (⟨"java/lang/RuntimeException", "<init>", "()V"⟩ : MethodName) ∈ wsB := wsB_t (List.mem_of_getElem? (i := 94) (by decide +kernel)) (by decide +kernel)
theorem mB_95 : Cond.declares (⟨"java/lang/RuntimeException", "<init>", "(Ljava/lang/String;)V"⟩ : MethodName) ∈ wsB := wsB_t (List.mem_of_getElem? (i := 95) (by decide +kernel)) (by decide +kernel)
theorem mB_96 : Cond.declares (⟨"java/lang/Exception", "<init>", "()V"⟩ : MethodName) ∈ wsB := wsB_t (List.mem_of_getElem? (i := 96) (by decide +kernel)) (by decide +kernel)
theorem mB_97 : Cond.declares (⟨"java/lang/Exception", "<init>", "(Ljava/lang/String;)V"⟩ : MethodName) ∈ wsB := wsB_t (List.mem_of_getElem? (i := 97) (by decide +kernel)) (by decide +kernel)
theorem mB_98 : Cond.declares (⟨"java/lang/Throwable", "<init>", "()V"⟩ : MethodName) ∈ wsB := wsB_t (List.mem_of_getElem? (i := 98) (by decide +kernel)) (by decide +kernel)
theorem mB_99 : Cond.declares (⟨"java/lang/Throwable", "<init>", "(Ljava/lang/String;)V"⟩ : MethodName) ∈ wsB := wsB_t (List.mem_of_getElem? (i := 99) (by decide +kernel)) (by decide +kernel)
theorem mB_132 : Cond.stringRef "RadicalAnswers" (137 : Nat) "no such power" ∈ wsB := wsB_t (List.mem_of_getElem? (i := 132) (by decide +kernel)) (by decide +kernel)
theorem mB_164 : Cond.castable "java/lang/IllegalArgumentException" "java/lang/IllegalArgumentException" ∈ wsB := wsB_t (List.mem_of_getElem? (i := 164) (by decide +kernel)) (by decide +kernel)
theorem mB_171 : Cond.stringRef "RadicalAnswers" (36 : Nat) "not -20 .. 20" ∈ wsB := wsB_t (List.mem_of_getElem? (i := 171) (by decide +kernel)) (by decide +kernel)
theorem mB_192 : Cond.stringRef "RadicalAnswers" (45 : Nat) "no such change" ∈ wsB := wsB_t (List.mem_of_getElem? (i := 192) (by decide +kernel)) (by decide +kernel)
theorem mB_221 : Cond.castable "java/lang/IllegalStateException" "java/lang/IllegalStateException" ∈ wsB := wsB_t (List.mem_of_getElem? (i := 221) (by decide +kernel)) (by decide +kernel)
theorem mB_228 : Cond.stringRef "RadicalAnswers" (149 : Nat) "the equation is 0" ∈ wsB := wsB_t (List.mem_of_getElem? (i := 228) (by decide +kernel)) (by decide +kernel)
theorem mB_261 : Cond.methodLinkNest "RadicalAnswers" (173 : Nat) (⟨"RadicalAnswers$Factor", "become", "(IIII)V"⟩ : MethodName) "RadicalAnswers" ∈ wsB := wsB_t (List.mem_of_getElem? (i := 261) (by decide +kernel)) (by decide +kernel)
theorem mB_265 : Cond.methodLinkNest "RadicalAnswers$Factor" (22 : Nat) (⟨"RadicalAnswers", "greatestSquareDividing", "(I)I"⟩ : MethodName) "RadicalAnswers" ∈ wsB := wsB_t (List.mem_of_getElem? (i := 265) (by decide +kernel)) (by decide +kernel)
theorem mB_268 : Cond.methodLinkNest "RadicalAnswers" (176 : Nat) (⟨"RadicalAnswers$Factor", "standsBefore", "(LRadicalAnswers$Factor;)Z"⟩ : MethodName) "RadicalAnswers" ∈ wsB := wsB_t (List.mem_of_getElem? (i := 268) (by decide +kernel)) (by decide +kernel)
theorem mB_299 : Cond.stringRef "RadicalAnswers" (142 : Nat) "no such factor" ∈ wsB := wsB_t (List.mem_of_getElem? (i := 299) (by decide +kernel)) (by decide +kernel)
theorem mB_300 : Cond.methodLinkNest "RadicalAnswers" (72 : Nat) (⟨"RadicalAnswers$Factor", "isLinear", "()Z"⟩ : MethodName) "RadicalAnswers" ∈ wsB := wsB_t (List.mem_of_getElem? (i := 300) (by decide +kernel)) (by decide +kernel)
theorem mB_301 : Cond.stringRef "RadicalAnswers" (91 : Nat) "no such what" ∈ wsB := wsB_t (List.mem_of_getElem? (i := 301) (by decide +kernel)) (by decide +kernel)
theorem mB_323 : Cond.stringRef "RadicalAnswers" (96 : Nat) "no such part of an answer" ∈ wsB := wsB_t (List.mem_of_getElem? (i := 323) (by decide +kernel)) (by decide +kernel)
theorem mB_324 : Cond.methodLinkNest "RadicalAnswers" (98 : Nat) (⟨"RadicalAnswers$Factor", "middle", "()I"⟩ : MethodName) "RadicalAnswers" ∈ wsB := wsB_t (List.mem_of_getElem? (i := 324) (by decide +kernel)) (by decide +kernel)
theorem mB_325 : Cond.methodLinkNest "RadicalAnswers" (105 : Nat) (⟨"RadicalAnswers$Factor", "below", "()I"⟩ : MethodName) "RadicalAnswers" ∈ wsB := wsB_t (List.mem_of_getElem? (i := 325) (by decide +kernel)) (by decide +kernel)
theorem mB_333 : Cond.methodLinkNest "RadicalAnswers" (112 : Nat) (⟨"RadicalAnswers$Factor", "isReal", "()Z"⟩ : MethodName) "RadicalAnswers" ∈ wsB := wsB_t (List.mem_of_getElem? (i := 333) (by decide +kernel)) (by decide +kernel)
theorem mB_347 : Cond.stringRef "RadicalAnswers" (140 : Nat) "not real" ∈ wsB := wsB_t (List.mem_of_getElem? (i := 347) (by decide +kernel)) (by decide +kernel)
theorem mB_348 : Cond.methodLinkNest "RadicalAnswers" (119 : Nat) (⟨"RadicalAnswers$Factor", "under", "()I"⟩ : MethodName) "RadicalAnswers" ∈ wsB := wsB_t (List.mem_of_getElem? (i := 348) (by decide +kernel)) (by decide +kernel)
theorem inX0 : ∀ w ∈ u_ws RX0 TX0 6, w ∈ wsA := fun w h => wsA_t ((by decide +kernel : ∀ w ∈ u_ws RX0 TX0 6, w ∈ tables_1) w h) ((by decide +kernel : ∀ w ∈ u_ws RX0 TX0 6, goodWord w = true) w h)
theorem inX1 : ∀ w ∈ u_ws RX1 TX1 7, w ∈ wsA := fun w h => wsA_t ((by decide +kernel : ∀ w ∈ u_ws RX1 TX1 7, w ∈ tables_1) w h) ((by decide +kernel : ∀ w ∈ u_ws RX1 TX1 7, goodWord w = true) w h)
theorem inX2 : ∀ w ∈ u_ws RX2 TX2 17, w ∈ wsA := fun w h => wsA_t ((by decide +kernel : ∀ w ∈ u_ws RX2 TX2 17, w ∈ tables_1) w h) ((by decide +kernel : ∀ w ∈ u_ws RX2 TX2 17, goodWord w = true) w h)
end
section
theorem dX1_init_0 : decode cX1_init 0 = .ok (.aload_n 0, 1) := by decide +kernel
theorem dX1_init_1 : decode cX1_init 1 = .ok (.invokespecial 1, 3) := by decide +kernel
theorem dX1_init_4 : decode cX1_init 4 = .ok (.aload_n 0, 1) := by decide +kernel
theorem dX1_init_5 : decode cX1_init 5 = .ok (.iconst 5, 1) := by decide +kernel
theorem dX1_init_6 : decode cX1_init 6 = .ok (.newarray .int, 2) := by decide +kernel
theorem dX1_init_8 : decode cX1_init 8 = .ok (.putfield 9, 3) := by decide +kernel
theorem dX1_init_11 : decode cX1_init 11 = .ok (.aload_n 0, 1) := by decide +kernel
theorem dX1_init_12 : decode cX1_init 12 = .ok (.iconst 5, 1) := by decide +kernel
theorem dX1_init_13 : decode cX1_init 13 = .ok (.newarray .int, 2) := by decide +kernel
theorem dX1_init_15 : decode cX1_init 15 = .ok (.putfield 13, 3) := by decide +kernel
theorem dX1_init_18 : decode cX1_init 18 = .ok (.aload_n 0, 1) := by decide +kernel
theorem dX1_init_19 : decode cX1_init 19 = .ok (.iconst 5, 1) := by decide +kernel
theorem dX1_init_20 : decode cX1_init 20 = .ok (.newarray .int, 2) := by decide +kernel
theorem dX1_init_22 : decode cX1_init 22 = .ok (.putfield 16, 3) := by decide +kernel
theorem dX1_init_25 : decode cX1_init 25 = .ok (.aload_n 0, 1) := by decide +kernel
theorem dX1_init_26 : decode cX1_init 26 = .ok (.iconst 4, 1) := by decide +kernel
theorem dX1_init_27 : decode cX1_init 27 = .ok (.anewarray 19, 3) := by decide +kernel
theorem dX1_init_30 : decode cX1_init 30 = .ok (.putfield 21, 3) := by decide +kernel
theorem dX1_init_33 : decode cX1_init 33 = .ok (.iconst 0, 1) := by decide +kernel
theorem dX1_init_34 : decode cX1_init 34 = .ok (.istore_n 1, 1) := by decide +kernel
theorem dX1_init_35 : decode cX1_init 35 = .ok (.iload_n 1, 1) := by decide +kernel
theorem dX1_init_36 : decode cX1_init 36 = .ok (.aload_n 0, 1) := by decide +kernel
theorem dX1_init_37 : decode cX1_init 37 = .ok (.getfield 21, 3) := by decide +kernel
theorem dX1_init_40 : decode cX1_init 40 = .ok (.arraylength, 1) := by decide +kernel
theorem dX1_init_41 : decode cX1_init 41 = .ok (.if_icmp .ge 22, 3) := by decide +kernel
theorem dX1_init_44 : decode cX1_init 44 = .ok (.aload_n 0, 1) := by decide +kernel
theorem dX1_init_45 : decode cX1_init 45 = .ok (.getfield 21, 3) := by decide +kernel
theorem dX1_init_48 : decode cX1_init 48 = .ok (.iload_n 1, 1) := by decide +kernel
theorem dX1_init_49 : decode cX1_init 49 = .ok (.new 19, 3) := by decide +kernel
theorem dX1_init_52 : decode cX1_init 52 = .ok (.dup, 1) := by decide +kernel
theorem dX1_init_53 : decode cX1_init 53 = .ok (.invokespecial 25, 3) := by decide +kernel
theorem dX1_init_56 : decode cX1_init 56 = .ok (.aastore, 1) := by decide +kernel
theorem dX1_init_57 : decode cX1_init 57 = .ok (.iinc 1 1, 3) := by decide +kernel
theorem dX1_init_60 : decode cX1_init 60 = .ok (.goto (-25), 3) := by decide +kernel
theorem dX1_init_63 : decode cX1_init 63 = .ok (.return_, 1) := by decide +kernel
theorem dX1_put_0 : decode cX1_put 0 = .ok (.iload_n 1, 1) := by decide +kernel
theorem dX1_put_1 : decode cX1_put 1 = .ok (.invokestatic 26, 3) := by decide +kernel
theorem dX1_put_4 : decode cX1_put 4 = .ok (.iload_n 2, 1) := by decide +kernel
theorem dX1_put_5 : decode cX1_put 5 = .ok (.invokestatic 30, 3) := by decide +kernel
theorem dX1_put_8 : decode cX1_put 8 = .ok (.ifCond .ne 13, 3) := by decide +kernel
theorem dX1_put_11 : decode cX1_put 11 = .ok (.new 34, 3) := by decide +kernel
theorem dX1_put_14 : decode cX1_put 14 = .ok (.dup, 1) := by decide +kernel
theorem dX1_put_15 : decode cX1_put 15 = .ok (.ldc 36, 2) := by decide +kernel
theorem dX1_put_17 : decode cX1_put 17 = .ok (.invokespecial 38, 3) := by decide +kernel
theorem dX1_put_20 : decode cX1_put 20 = .ok (.athrow, 1) := by decide +kernel
theorem dX1_put_21 : decode cX1_put 21 = .ok (.aload_n 0, 1) := by decide +kernel
theorem dX1_put_22 : decode cX1_put 22 = .ok (.getfield 9, 3) := by decide +kernel
theorem dX1_put_25 : decode cX1_put 25 = .ok (.iload_n 1, 1) := by decide +kernel
theorem dX1_put_26 : decode cX1_put 26 = .ok (.iaload, 1) := by decide +kernel
theorem dX1_put_27 : decode cX1_put 27 = .ok (.iload_n 2, 1) := by decide +kernel
theorem dX1_put_28 : decode cX1_put 28 = .ok (.if_icmp .ne 5, 3) := by decide +kernel
theorem dX1_put_31 : decode cX1_put 31 = .ok (.iconst 0, 1) := by decide +kernel
theorem dX1_put_32 : decode cX1_put 32 = .ok (.ireturn, 1) := by decide +kernel
theorem dX1_put_33 : decode cX1_put 33 = .ok (.aload_n 0, 1) := by decide +kernel
theorem dX1_put_34 : decode cX1_put 34 = .ok (.getfield 9, 3) := by decide +kernel
theorem dX1_put_37 : decode cX1_put 37 = .ok (.iload_n 1, 1) := by decide +kernel
theorem dX1_put_38 : decode cX1_put 38 = .ok (.iload_n 2, 1) := by decide +kernel
theorem dX1_put_39 : decode cX1_put 39 = .ok (.iastore, 1) := by decide +kernel
theorem dX1_put_40 : decode cX1_put 40 = .ok (.aload_n 0, 1) := by decide +kernel
theorem dX1_put_41 : decode cX1_put 41 = .ok (.iconst 0, 1) := by decide +kernel
theorem dX1_put_42 : decode cX1_put 42 = .ok (.putfield 41, 3) := by decide +kernel
theorem dX1_put_45 : decode cX1_put 45 = .ok (.iconst 1, 1) := by decide +kernel
theorem dX1_put_46 : decode cX1_put 46 = .ok (.ireturn, 1) := by decide +kernel
theorem dX1_at_0 : decode cX1_at 0 = .ok (.iload_n 1, 1) := by decide +kernel
theorem dX1_at_1 : decode cX1_at 1 = .ok (.invokestatic 26, 3) := by decide +kernel
theorem dX1_at_4 : decode cX1_at 4 = .ok (.aload_n 0, 1) := by decide +kernel
theorem dX1_at_5 : decode cX1_at 5 = .ok (.getfield 9, 3) := by decide +kernel
theorem dX1_at_8 : decode cX1_at 8 = .ok (.iload_n 1, 1) := by decide +kernel
theorem dX1_at_9 : decode cX1_at 9 = .ok (.iaload, 1) := by decide +kernel
theorem dX1_at_10 : decode cX1_at 10 = .ok (.ireturn, 1) := by decide +kernel
theorem dX1_change_0 : decode cX1_change 0 = .ok (.iload_n 1, 1) := by decide +kernel
theorem dX1_change_1 : decode cX1_change 1 = .ok (.iconst (-1), 1) := by decide +kernel
theorem dX1_change_2 : decode cX1_change 2 = .ok (.if_icmp .lt 8, 3) := by decide +kernel
theorem dX1_change_5 : decode cX1_change 5 = .ok (.iload_n 1, 1) := by decide +kernel
theorem dX1_change_6 : decode cX1_change 6 = .ok (.iconst 2, 1) := by decide +kernel
theorem dX1_change_7 : decode cX1_change 7 = .ok (.if_icmp .le 13, 3) := by decide +kernel
theorem dX1_change_10 : decode cX1_change 10 = .ok (.new 34, 3) := by decide +kernel
theorem dX1_change_13 : decode cX1_change 13 = .ok (.dup, 1) := by decide +kernel
theorem dX1_change_14 : decode cX1_change 14 = .ok (.ldc 45, 2) := by decide +kernel
theorem dX1_change_16 : decode cX1_change 16 = .ok (.invokespecial 38, 3) := by decide +kernel
theorem dX1_change_19 : decode cX1_change 19 = .ok (.athrow, 1) := by decide +kernel
theorem dX1_change_20 : decode cX1_change 20 = .ok (.aload_n 0, 1) := by decide +kernel
theorem dX1_change_21 : decode cX1_change 21 = .ok (.getfield 9, 3) := by decide +kernel
theorem dX1_change_24 : decode cX1_change 24 = .ok (.invokestatic 47, 3) := by decide +kernel
theorem dX1_change_27 : decode cX1_change 27 = .ok (.istore_n 2, 1) := by decide +kernel
theorem dX1_change_28 : decode cX1_change 28 = .ok (.iload_n 2, 1) := by decide +kernel
theorem dX1_change_29 : decode cX1_change 29 = .ok (.ifCond .ge 5, 3) := by decide +kernel
theorem dX1_change_32 : decode cX1_change 32 = .ok (.iconst 0, 1) := by decide +kernel
theorem dX1_change_33 : decode cX1_change 33 = .ok (.ireturn, 1) := by decide +kernel
theorem dX1_change_34 : decode cX1_change 34 = .ok (.aload_n 0, 1) := by decide +kernel
theorem dX1_change_35 : decode cX1_change 35 = .ok (.iload_n 1, 1) := by decide +kernel
theorem dX1_change_36 : decode cX1_change 36 = .ok (.iload_n 2, 1) := by decide +kernel
theorem dX1_change_37 : decode cX1_change 37 = .ok (.invokevirtual 51, 3) := by decide +kernel
theorem dX1_change_40 : decode cX1_change 40 = .ok (.aload_n 0, 1) := by decide +kernel
theorem dX1_change_41 : decode cX1_change 41 = .ok (.getfield 16, 3) := by decide +kernel
theorem dX1_change_44 : decode cX1_change 44 = .ok (.astore_n 3, 1) := by decide +kernel
theorem dX1_change_45 : decode cX1_change 45 = .ok (.aload_n 3, 1) := by decide +kernel
theorem dX1_change_46 : decode cX1_change 46 = .ok (.arraylength, 1) := by decide +kernel
theorem dX1_change_47 : decode cX1_change 47 = .ok (.istore 4, 2) := by decide +kernel
theorem dX1_change_49 : decode cX1_change 49 = .ok (.iconst 0, 1) := by decide +kernel
theorem dX1_change_50 : decode cX1_change 50 = .ok (.istore 5, 2) := by decide +kernel
theorem dX1_change_52 : decode cX1_change 52 = .ok (.iload 5, 2) := by decide +kernel
theorem dX1_change_54 : decode cX1_change 54 = .ok (.iload 4, 2) := by decide +kernel
theorem dX1_change_56 : decode cX1_change 56 = .ok (.if_icmp .ge 25, 3) := by decide +kernel
theorem dX1_change_59 : decode cX1_change 59 = .ok (.aload_n 3, 1) := by decide +kernel
theorem dX1_change_60 : decode cX1_change 60 = .ok (.iload 5, 2) := by decide +kernel
theorem dX1_change_62 : decode cX1_change 62 = .ok (.iaload, 1) := by decide +kernel
theorem dX1_change_63 : decode cX1_change 63 = .ok (.istore 6, 2) := by decide +kernel
theorem dX1_change_65 : decode cX1_change 65 = .ok (.iload 6, 2) := by decide +kernel
theorem dX1_change_67 : decode cX1_change 67 = .ok (.invokestatic 30, 3) := by decide +kernel
theorem dX1_change_70 : decode cX1_change 70 = .ok (.ifCond .ne 5, 3) := by decide +kernel
theorem dX1_change_73 : decode cX1_change 73 = .ok (.iconst 0, 1) := by decide +kernel
theorem dX1_change_74 : decode cX1_change 74 = .ok (.ireturn, 1) := by decide +kernel
theorem dX1_change_75 : decode cX1_change 75 = .ok (.iinc 5 1, 3) := by decide +kernel
theorem dX1_change_78 : decode cX1_change 78 = .ok (.goto (-26), 3) := by decide +kernel
theorem dX1_change_81 : decode cX1_change 81 = .ok (.aload_n 0, 1) := by decide +kernel
theorem dX1_change_82 : decode cX1_change 82 = .ok (.getfield 16, 3) := by decide +kernel
theorem dX1_change_85 : decode cX1_change 85 = .ok (.iconst 0, 1) := by decide +kernel
theorem dX1_change_86 : decode cX1_change 86 = .ok (.aload_n 0, 1) := by decide +kernel
theorem dX1_change_87 : decode cX1_change 87 = .ok (.getfield 9, 3) := by decide +kernel
theorem dX1_change_90 : decode cX1_change 90 = .ok (.iconst 0, 1) := by decide +kernel
theorem dX1_change_91 : decode cX1_change 91 = .ok (.aload_n 0, 1) := by decide +kernel
theorem dX1_change_92 : decode cX1_change 92 = .ok (.getfield 9, 3) := by decide +kernel
theorem dX1_change_95 : decode cX1_change 95 = .ok (.arraylength, 1) := by decide +kernel
theorem dX1_change_96 : decode cX1_change 96 = .ok (.invokestatic 55, 3) := by decide +kernel
theorem dX1_change_99 : decode cX1_change 99 = .ok (.aload_n 0, 1) := by decide +kernel
theorem dX1_change_100 : decode cX1_change 100 = .ok (.iconst 0, 1) := by decide +kernel
theorem dX1_change_101 : decode cX1_change 101 = .ok (.putfield 41, 3) := by decide +kernel
theorem dX1_change_104 : decode cX1_change 104 = .ok (.iconst 1, 1) := by decide +kernel
theorem dX1_change_105 : decode cX1_change 105 = .ok (.ireturn, 1) := by decide +kernel
theorem dX1_factors_0 : decode cX1_factors 0 = .ok (.aload_n 0, 1) := by decide +kernel
theorem dX1_factors_1 : decode cX1_factors 1 = .ok (.invokevirtual 61, 3) := by decide +kernel
theorem dX1_factors_4 : decode cX1_factors 4 = .ok (.aload_n 0, 1) := by decide +kernel
theorem dX1_factors_5 : decode cX1_factors 5 = .ok (.getfield 64, 3) := by decide +kernel
theorem dX1_factors_8 : decode cX1_factors 8 = .ok (.ireturn, 1) := by decide +kernel
theorem dX1_factor_0 : decode cX1_factor 0 = .ok (.aload_n 0, 1) := by decide +kernel
theorem dX1_factor_1 : decode cX1_factor 1 = .ok (.invokevirtual 61, 3) := by decide +kernel
theorem dX1_factor_4 : decode cX1_factor 4 = .ok (.aload_n 0, 1) := by decide +kernel
theorem dX1_factor_5 : decode cX1_factor 5 = .ok (.iload_n 1, 1) := by decide +kernel
theorem dX1_factor_6 : decode cX1_factor 6 = .ok (.invokevirtual 68, 3) := by decide +kernel
theorem dX1_factor_9 : decode cX1_factor 9 = .ok (.astore_n 3, 1) := by decide +kernel
theorem dX1_factor_10 : decode cX1_factor 10 = .ok (.iload_n 2, 1) := by decide +kernel
theorem dX1_factor_11 : decode cX1_factor 11 = .ok (.tableswitch 75 0 5 #[37, 50, 55, 60, 65, 70], 37) := by decide +kernel
theorem dX1_factor_48 : decode cX1_factor 48 = .ok (.aload_n 3, 1) := by decide +kernel
theorem dX1_factor_49 : decode cX1_factor 49 = .ok (.invokevirtual 72, 3) := by decide +kernel
theorem dX1_factor_52 : decode cX1_factor 52 = .ok (.ifCond .eq 7, 3) := by decide +kernel
theorem dX1_factor_55 : decode cX1_factor 55 = .ok (.iconst 1, 1) := by decide +kernel
theorem dX1_factor_56 : decode cX1_factor 56 = .ok (.goto 4, 3) := by decide +kernel
theorem dX1_factor_59 : decode cX1_factor 59 = .ok (.iconst 2, 1) := by decide +kernel
theorem dX1_factor_60 : decode cX1_factor 60 = .ok (.ireturn, 1) := by decide +kernel
theorem dX1_factor_61 : decode cX1_factor 61 = .ok (.aload_n 3, 1) := by decide +kernel
theorem dX1_factor_62 : decode cX1_factor 62 = .ok (.getfield 76, 3) := by decide +kernel
theorem dX1_factor_65 : decode cX1_factor 65 = .ok (.ireturn, 1) := by decide +kernel
theorem dX1_factor_66 : decode cX1_factor 66 = .ok (.aload_n 3, 1) := by decide +kernel
theorem dX1_factor_67 : decode cX1_factor 67 = .ok (.getfield 79, 3) := by decide +kernel
theorem dX1_factor_70 : decode cX1_factor 70 = .ok (.ireturn, 1) := by decide +kernel
theorem dX1_factor_71 : decode cX1_factor 71 = .ok (.aload_n 3, 1) := by decide +kernel
theorem dX1_factor_72 : decode cX1_factor 72 = .ok (.getfield 82, 3) := by decide +kernel
theorem dX1_factor_75 : decode cX1_factor 75 = .ok (.ireturn, 1) := by decide +kernel
theorem dX1_factor_76 : decode cX1_factor 76 = .ok (.aload_n 3, 1) := by decide +kernel
theorem dX1_factor_77 : decode cX1_factor 77 = .ok (.getfield 85, 3) := by decide +kernel
theorem dX1_factor_80 : decode cX1_factor 80 = .ok (.ireturn, 1) := by decide +kernel
theorem dX1_factor_81 : decode cX1_factor 81 = .ok (.aload_n 3, 1) := by decide +kernel
theorem dX1_factor_82 : decode cX1_factor 82 = .ok (.getfield 88, 3) := by decide +kernel
theorem dX1_factor_85 : decode cX1_factor 85 = .ok (.ireturn, 1) := by decide +kernel
theorem dX1_factor_86 : decode cX1_factor 86 = .ok (.new 34, 3) := by decide +kernel
theorem dX1_factor_89 : decode cX1_factor 89 = .ok (.dup, 1) := by decide +kernel
theorem dX1_factor_90 : decode cX1_factor 90 = .ok (.ldc 91, 2) := by decide +kernel
theorem dX1_factor_92 : decode cX1_factor 92 = .ok (.invokespecial 38, 3) := by decide +kernel
theorem dX1_factor_95 : decode cX1_factor 95 = .ok (.athrow, 1) := by decide +kernel
theorem dX1_content_0 : decode cX1_content 0 = .ok (.aload_n 0, 1) := by decide +kernel
theorem dX1_content_1 : decode cX1_content 1 = .ok (.invokevirtual 61, 3) := by decide +kernel
theorem dX1_content_4 : decode cX1_content 4 = .ok (.aload_n 0, 1) := by decide +kernel
theorem dX1_content_5 : decode cX1_content 5 = .ok (.getfield 93, 3) := by decide +kernel
theorem dX1_content_8 : decode cX1_content 8 = .ok (.ireturn, 1) := by decide +kernel
theorem dX1_left_0 : decode cX1_left 0 = .ok (.aload_n 0, 1) := by decide +kernel
theorem dX1_left_1 : decode cX1_left 1 = .ok (.invokevirtual 61, 3) := by decide +kernel
theorem dX1_left_4 : decode cX1_left 4 = .ok (.iload_n 1, 1) := by decide +kernel
theorem dX1_left_5 : decode cX1_left 5 = .ok (.invokestatic 26, 3) := by decide +kernel
theorem dX1_left_8 : decode cX1_left 8 = .ok (.aload_n 0, 1) := by decide +kernel
theorem dX1_left_9 : decode cX1_left 9 = .ok (.getfield 13, 3) := by decide +kernel
theorem dX1_left_12 : decode cX1_left 12 = .ok (.iload_n 1, 1) := by decide +kernel
theorem dX1_left_13 : decode cX1_left 13 = .ok (.iaload, 1) := by decide +kernel
theorem dX1_left_14 : decode cX1_left 14 = .ok (.ireturn, 1) := by decide +kernel
theorem dX1_answer_0 : decode cX1_answer 0 = .ok (.aload_n 0, 1) := by decide +kernel
theorem dX1_answer_1 : decode cX1_answer 1 = .ok (.invokevirtual 61, 3) := by decide +kernel
theorem dX1_answer_4 : decode cX1_answer 4 = .ok (.aload_n 0, 1) := by decide +kernel
theorem dX1_answer_5 : decode cX1_answer 5 = .ok (.iload_n 1, 1) := by decide +kernel
theorem dX1_answer_6 : decode cX1_answer 6 = .ok (.invokevirtual 68, 3) := by decide +kernel
theorem dX1_answer_9 : decode cX1_answer 9 = .ok (.astore 4, 2) := by decide +kernel
theorem dX1_answer_11 : decode cX1_answer 11 = .ok (.iload_n 2, 1) := by decide +kernel
theorem dX1_answer_12 : decode cX1_answer 12 = .ok (.ifCond .lt 17, 3) := by decide +kernel
theorem dX1_answer_15 : decode cX1_answer 15 = .ok (.iload_n 2, 1) := by decide +kernel
theorem dX1_answer_16 : decode cX1_answer 16 = .ok (.iconst 1, 1) := by decide +kernel
theorem dX1_answer_17 : decode cX1_answer 17 = .ok (.if_icmp .gt 12, 3) := by decide +kernel
theorem dX1_answer_20 : decode cX1_answer 20 = .ok (.iload_n 3, 1) := by decide +kernel
theorem dX1_answer_21 : decode cX1_answer 21 = .ok (.ifCond .lt 8, 3) := by decide +kernel
theorem dX1_answer_24 : decode cX1_answer 24 = .ok (.iload_n 3, 1) := by decide +kernel
theorem dX1_answer_25 : decode cX1_answer 25 = .ok (.iconst 1, 1) := by decide +kernel
theorem dX1_answer_26 : decode cX1_answer 26 = .ok (.if_icmp .le 13, 3) := by decide +kernel
theorem dX1_answer_29 : decode cX1_answer 29 = .ok (.new 34, 3) := by decide +kernel
theorem dX1_answer_32 : decode cX1_answer 32 = .ok (.dup, 1) := by decide +kernel
theorem dX1_answer_33 : decode cX1_answer 33 = .ok (.ldc 96, 2) := by decide +kernel
theorem dX1_answer_35 : decode cX1_answer 35 = .ok (.invokespecial 38, 3) := by decide +kernel
theorem dX1_answer_38 : decode cX1_answer 38 = .ok (.athrow, 1) := by decide +kernel
theorem dX1_answer_39 : decode cX1_answer 39 = .ok (.iload_n 2, 1) := by decide +kernel
theorem dX1_answer_40 : decode cX1_answer 40 = .ok (.ifCond .ne 11, 3) := by decide +kernel
theorem dX1_answer_43 : decode cX1_answer 43 = .ok (.aload 4, 2) := by decide +kernel
theorem dX1_answer_45 : decode cX1_answer 45 = .ok (.invokevirtual 98, 3) := by decide +kernel
theorem dX1_answer_48 : decode cX1_answer 48 = .ok (.goto 8, 3) := by decide +kernel
theorem dX1_answer_51 : decode cX1_answer 51 = .ok (.aload 4, 2) := by decide +kernel
theorem dX1_answer_53 : decode cX1_answer 53 = .ok (.getfield 102, 3) := by decide +kernel
theorem dX1_answer_56 : decode cX1_answer 56 = .ok (.istore 5, 2) := by decide +kernel
theorem dX1_answer_58 : decode cX1_answer 58 = .ok (.aload 4, 2) := by decide +kernel
theorem dX1_answer_60 : decode cX1_answer 60 = .ok (.invokevirtual 105, 3) := by decide +kernel
theorem dX1_answer_63 : decode cX1_answer 63 = .ok (.istore 6, 2) := by decide +kernel
theorem dX1_answer_65 : decode cX1_answer 65 = .ok (.iload 5, 2) := by decide +kernel
theorem dX1_answer_67 : decode cX1_answer 67 = .ok (.iload 6, 2) := by decide +kernel
theorem dX1_answer_69 : decode cX1_answer 69 = .ok (.invokestatic 108, 3) := by decide +kernel
theorem dX1_answer_72 : decode cX1_answer 72 = .ok (.istore 7, 2) := by decide +kernel
theorem dX1_answer_74 : decode cX1_answer 74 = .ok (.iload 7, 2) := by decide +kernel
theorem dX1_answer_76 : decode cX1_answer 76 = .ok (.ifCond .ne 5, 3) := by decide +kernel
theorem dX1_answer_79 : decode cX1_answer 79 = .ok (.iconst 0, 1) := by decide +kernel
theorem dX1_answer_80 : decode cX1_answer 80 = .ok (.ireturn, 1) := by decide +kernel
theorem dX1_answer_81 : decode cX1_answer 81 = .ok (.iload_n 3, 1) := by decide +kernel
theorem dX1_answer_82 : decode cX1_answer 82 = .ok (.ifCond .ne 8, 3) := by decide +kernel
theorem dX1_answer_85 : decode cX1_answer 85 = .ok (.iload 5, 2) := by decide +kernel
theorem dX1_answer_87 : decode cX1_answer 87 = .ok (.goto 5, 3) := by decide +kernel
theorem dX1_answer_90 : decode cX1_answer 90 = .ok (.iload 6, 2) := by decide +kernel
theorem dX1_answer_92 : decode cX1_answer 92 = .ok (.iload 7, 2) := by decide +kernel
theorem dX1_answer_94 : decode cX1_answer 94 = .ok (.idiv, 1) := by decide +kernel
theorem dX1_answer_95 : decode cX1_answer 95 = .ok (.ireturn, 1) := by decide +kernel
theorem dX1_real_0 : decode cX1_real 0 = .ok (.aload_n 0, 1) := by decide +kernel
theorem dX1_real_1 : decode cX1_real 1 = .ok (.invokevirtual 61, 3) := by decide +kernel
theorem dX1_real_4 : decode cX1_real 4 = .ok (.iconst 0, 1) := by decide +kernel
theorem dX1_real_5 : decode cX1_real 5 = .ok (.istore_n 1, 1) := by decide +kernel
theorem dX1_real_6 : decode cX1_real 6 = .ok (.iconst 0, 1) := by decide +kernel
theorem dX1_real_7 : decode cX1_real 7 = .ok (.istore_n 2, 1) := by decide +kernel
theorem dX1_real_8 : decode cX1_real 8 = .ok (.iload_n 2, 1) := by decide +kernel
theorem dX1_real_9 : decode cX1_real 9 = .ok (.aload_n 0, 1) := by decide +kernel
theorem dX1_real_10 : decode cX1_real 10 = .ok (.getfield 64, 3) := by decide +kernel
theorem dX1_real_13 : decode cX1_real 13 = .ok (.if_icmp .ge 51, 3) := by decide +kernel
theorem dX1_real_16 : decode cX1_real 16 = .ok (.iload_n 2, 1) := by decide +kernel
theorem dX1_real_17 : decode cX1_real 17 = .ok (.aload_n 0, 1) := by decide +kernel
theorem dX1_real_18 : decode cX1_real 18 = .ok (.getfield 21, 3) := by decide +kernel
theorem dX1_real_21 : decode cX1_real 21 = .ok (.arraylength, 1) := by decide +kernel
theorem dX1_real_22 : decode cX1_real 22 = .ok (.if_icmp .ge 42, 3) := by decide +kernel
theorem dX1_real_25 : decode cX1_real 25 = .ok (.aload_n 0, 1) := by decide +kernel
theorem dX1_real_26 : decode cX1_real 26 = .ok (.getfield 21, 3) := by decide +kernel
theorem dX1_real_29 : decode cX1_real 29 = .ok (.iload_n 2, 1) := by decide +kernel
theorem dX1_real_30 : decode cX1_real 30 = .ok (.aaload, 1) := by decide +kernel
theorem dX1_real_31 : decode cX1_real 31 = .ok (.invokevirtual 72, 3) := by decide +kernel
theorem dX1_real_34 : decode cX1_real 34 = .ok (.ifCond .eq 9, 3) := by decide +kernel
theorem dX1_real_37 : decode cX1_real 37 = .ok (.iinc 1 1, 3) := by decide +kernel
theorem dX1_real_40 : decode cX1_real 40 = .ok (.goto 18, 3) := by decide +kernel
theorem dX1_real_43 : decode cX1_real 43 = .ok (.aload_n 0, 1) := by decide +kernel
theorem dX1_real_44 : decode cX1_real 44 = .ok (.getfield 21, 3) := by decide +kernel
theorem dX1_real_47 : decode cX1_real 47 = .ok (.iload_n 2, 1) := by decide +kernel
theorem dX1_real_48 : decode cX1_real 48 = .ok (.aaload, 1) := by decide +kernel
theorem dX1_real_49 : decode cX1_real 49 = .ok (.invokevirtual 112, 3) := by decide +kernel
theorem dX1_real_52 : decode cX1_real 52 = .ok (.ifCond .eq 6, 3) := by decide +kernel
theorem dX1_real_55 : decode cX1_real 55 = .ok (.iinc 1 2, 3) := by decide +kernel
theorem dX1_real_58 : decode cX1_real 58 = .ok (.iinc 2 1, 3) := by decide +kernel
theorem dX1_real_61 : decode cX1_real 61 = .ok (.goto (-53), 3) := by decide +kernel
theorem dX1_real_64 : decode cX1_real 64 = .ok (.iload_n 1, 1) := by decide +kernel
theorem dX1_real_65 : decode cX1_real 65 = .ok (.ireturn, 1) := by decide +kernel
theorem dX1_floor_0 : decode cX1_floor 0 = .ok (.aload_n 0, 1) := by decide +kernel
theorem dX1_floor_1 : decode cX1_floor 1 = .ok (.invokevirtual 61, 3) := by decide +kernel
theorem dX1_floor_4 : decode cX1_floor 4 = .ok (.aload_n 0, 1) := by decide +kernel
theorem dX1_floor_5 : decode cX1_floor 5 = .ok (.iload_n 1, 1) := by decide +kernel
theorem dX1_floor_6 : decode cX1_floor 6 = .ok (.invokevirtual 68, 3) := by decide +kernel
theorem dX1_floor_9 : decode cX1_floor 9 = .ok (.astore_n 3, 1) := by decide +kernel
theorem dX1_floor_10 : decode cX1_floor 10 = .ok (.aload_n 3, 1) := by decide +kernel
theorem dX1_floor_11 : decode cX1_floor 11 = .ok (.invokestatic 115, 3) := by decide +kernel
theorem dX1_floor_14 : decode cX1_floor 14 = .ok (.aload_n 3, 1) := by decide +kernel
theorem dX1_floor_15 : decode cX1_floor 15 = .ok (.invokevirtual 105, 3) := by decide +kernel
theorem dX1_floor_18 : decode cX1_floor 18 = .ok (.istore 4, 2) := by decide +kernel
theorem dX1_floor_20 : decode cX1_floor 20 = .ok (.iload 4, 2) := by decide +kernel
theorem dX1_floor_22 : decode cX1_floor 22 = .ok (.iconst 1, 1) := by decide +kernel
theorem dX1_floor_23 : decode cX1_floor 23 = .ok (.if_icmp .ge 5, 3) := by decide +kernel
theorem dX1_floor_26 : decode cX1_floor 26 = .ok (.iconst 0, 1) := by decide +kernel
theorem dX1_floor_27 : decode cX1_floor 27 = .ok (.ireturn, 1) := by decide +kernel
theorem dX1_floor_28 : decode cX1_floor 28 = .ok (.aload_n 3, 1) := by decide +kernel
theorem dX1_floor_29 : decode cX1_floor 29 = .ok (.invokevirtual 119, 3) := by decide +kernel
theorem dX1_floor_32 : decode cX1_floor 32 = .ok (.invokestatic 122, 3) := by decide +kernel
theorem dX1_floor_35 : decode cX1_floor 35 = .ok (.istore 5, 2) := by decide +kernel
theorem dX1_floor_37 : decode cX1_floor 37 = .ok (.iload_n 2, 1) := by decide +kernel
theorem dX1_floor_38 : decode cX1_floor 38 = .ok (.ifCond .ne 10, 3) := by decide +kernel
theorem dX1_floor_41 : decode cX1_floor 41 = .ok (.aload_n 3, 1) := by decide +kernel
theorem dX1_floor_42 : decode cX1_floor 42 = .ok (.invokevirtual 72, 3) := by decide +kernel
theorem dX1_floor_45 : decode cX1_floor 45 = .ok (.ifCond .eq 16, 3) := by decide +kernel
theorem dX1_floor_48 : decode cX1_floor 48 = .ok (.aload_n 3, 1) := by decide +kernel
theorem dX1_floor_49 : decode cX1_floor 49 = .ok (.invokevirtual 98, 3) := by decide +kernel
theorem dX1_floor_52 : decode cX1_floor 52 = .ok (.iload 5, 2) := by decide +kernel
theorem dX1_floor_54 : decode cX1_floor 54 = .ok (.iadd, 1) := by decide +kernel
theorem dX1_floor_55 : decode cX1_floor 55 = .ok (.iload 4, 2) := by decide +kernel
theorem dX1_floor_57 : decode cX1_floor 57 = .ok (.invokestatic 126, 3) := by decide +kernel
theorem dX1_floor_60 : decode cX1_floor 60 = .ok (.ireturn, 1) := by decide +kernel
theorem dX1_floor_61 : decode cX1_floor 61 = .ok (.aload_n 3, 1) := by decide +kernel
theorem dX1_floor_62 : decode cX1_floor 62 = .ok (.invokevirtual 98, 3) := by decide +kernel
theorem dX1_floor_65 : decode cX1_floor 65 = .ok (.iload 5, 2) := by decide +kernel
theorem dX1_floor_67 : decode cX1_floor 67 = .ok (.isub, 1) := by decide +kernel
theorem dX1_floor_68 : decode cX1_floor 68 = .ok (.iconst 1, 1) := by decide +kernel
theorem dX1_floor_69 : decode cX1_floor 69 = .ok (.isub, 1) := by decide +kernel
theorem dX1_floor_70 : decode cX1_floor 70 = .ok (.iload 4, 2) := by decide +kernel
theorem dX1_floor_72 : decode cX1_floor 72 = .ok (.invokestatic 126, 3) := by decide +kernel
theorem dX1_floor_75 : decode cX1_floor 75 = .ok (.ireturn, 1) := by decide +kernel
theorem dX1_compare_0 : decode cX1_compare 0 = .ok (.aload_n 0, 1) := by decide +kernel
theorem dX1_compare_1 : decode cX1_compare 1 = .ok (.invokevirtual 61, 3) := by decide +kernel
theorem dX1_compare_4 : decode cX1_compare 4 = .ok (.aload_n 0, 1) := by decide +kernel
theorem dX1_compare_5 : decode cX1_compare 5 = .ok (.iload_n 1, 1) := by decide +kernel
theorem dX1_compare_6 : decode cX1_compare 6 = .ok (.invokevirtual 68, 3) := by decide +kernel
theorem dX1_compare_9 : decode cX1_compare 9 = .ok (.astore 5, 2) := by decide +kernel
theorem dX1_compare_11 : decode cX1_compare 11 = .ok (.aload_n 0, 1) := by decide +kernel
theorem dX1_compare_12 : decode cX1_compare 12 = .ok (.iload_n 3, 1) := by decide +kernel
theorem dX1_compare_13 : decode cX1_compare 13 = .ok (.invokevirtual 68, 3) := by decide +kernel
theorem dX1_compare_16 : decode cX1_compare 16 = .ok (.astore 6, 2) := by decide +kernel
theorem dX1_compare_18 : decode cX1_compare 18 = .ok (.aload 5, 2) := by decide +kernel
theorem dX1_compare_20 : decode cX1_compare 20 = .ok (.invokestatic 115, 3) := by decide +kernel
theorem dX1_compare_23 : decode cX1_compare 23 = .ok (.aload 6, 2) := by decide +kernel
theorem dX1_compare_25 : decode cX1_compare 25 = .ok (.invokestatic 115, 3) := by decide +kernel
theorem dX1_compare_28 : decode cX1_compare 28 = .ok (.aload 5, 2) := by decide +kernel
theorem dX1_compare_30 : decode cX1_compare 30 = .ok (.invokevirtual 98, 3) := by decide +kernel
theorem dX1_compare_33 : decode cX1_compare 33 = .ok (.i2l, 1) := by decide +kernel
theorem dX1_compare_34 : decode cX1_compare 34 = .ok (.aload 6, 2) := by decide +kernel
theorem dX1_compare_36 : decode cX1_compare 36 = .ok (.invokevirtual 105, 3) := by decide +kernel
theorem dX1_compare_39 : decode cX1_compare 39 = .ok (.i2l, 1) := by decide +kernel
theorem dX1_compare_40 : decode cX1_compare 40 = .ok (.lmul, 1) := by decide +kernel
theorem dX1_compare_41 : decode cX1_compare 41 = .ok (.aload 6, 2) := by decide +kernel
theorem dX1_compare_43 : decode cX1_compare 43 = .ok (.invokevirtual 98, 3) := by decide +kernel
theorem dX1_compare_46 : decode cX1_compare 46 = .ok (.i2l, 1) := by decide +kernel
theorem dX1_compare_47 : decode cX1_compare 47 = .ok (.aload 5, 2) := by decide +kernel
theorem dX1_compare_49 : decode cX1_compare 49 = .ok (.invokevirtual 105, 3) := by decide +kernel
theorem dX1_compare_52 : decode cX1_compare 52 = .ok (.i2l, 1) := by decide +kernel
theorem dX1_compare_53 : decode cX1_compare 53 = .ok (.lmul, 1) := by decide +kernel
theorem dX1_compare_54 : decode cX1_compare 54 = .ok (.lsub, 1) := by decide +kernel
theorem dX1_compare_55 : decode cX1_compare 55 = .ok (.lstore 7, 2) := by decide +kernel
theorem dX1_compare_57 : decode cX1_compare 57 = .ok (.iload_n 2, 1) := by decide +kernel
theorem dX1_compare_58 : decode cX1_compare 58 = .ok (.ifCond .eq 12, 3) := by decide +kernel
theorem dX1_compare_61 : decode cX1_compare 61 = .ok (.aload 6, 2) := by decide +kernel
theorem dX1_compare_63 : decode cX1_compare 63 = .ok (.invokevirtual 105, 3) := by decide +kernel
theorem dX1_compare_66 : decode cX1_compare 66 = .ok (.i2l, 1) := by decide +kernel
theorem dX1_compare_67 : decode cX1_compare 67 = .ok (.goto 10, 3) := by decide +kernel
theorem dX1_compare_70 : decode cX1_compare 70 = .ok (.aload 6, 2) := by decide +kernel
theorem dX1_compare_72 : decode cX1_compare 72 = .ok (.invokevirtual 105, 3) := by decide +kernel
theorem dX1_compare_75 : decode cX1_compare 75 = .ok (.ineg, 1) := by decide +kernel
theorem dX1_compare_76 : decode cX1_compare 76 = .ok (.i2l, 1) := by decide +kernel
theorem dX1_compare_77 : decode cX1_compare 77 = .ok (.lstore 9, 2) := by decide +kernel
theorem dX1_compare_79 : decode cX1_compare 79 = .ok (.iload 4, 2) := by decide +kernel
theorem dX1_compare_81 : decode cX1_compare 81 = .ok (.ifCond .eq 13, 3) := by decide +kernel
theorem dX1_compare_84 : decode cX1_compare 84 = .ok (.aload 5, 2) := by decide +kernel
theorem dX1_compare_86 : decode cX1_compare 86 = .ok (.invokevirtual 105, 3) := by decide +kernel
theorem dX1_compare_89 : decode cX1_compare 89 = .ok (.ineg, 1) := by decide +kernel
theorem dX1_compare_90 : decode cX1_compare 90 = .ok (.i2l, 1) := by decide +kernel
theorem dX1_compare_91 : decode cX1_compare 91 = .ok (.goto 9, 3) := by decide +kernel
theorem dX1_compare_94 : decode cX1_compare 94 = .ok (.aload 5, 2) := by decide +kernel
theorem dX1_compare_96 : decode cX1_compare 96 = .ok (.invokevirtual 105, 3) := by decide +kernel
theorem dX1_compare_99 : decode cX1_compare 99 = .ok (.i2l, 1) := by decide +kernel
theorem dX1_compare_100 : decode cX1_compare 100 = .ok (.lstore 11, 2) := by decide +kernel
theorem dX1_compare_102 : decode cX1_compare 102 = .ok (.lload 7, 2) := by decide +kernel
theorem dX1_compare_104 : decode cX1_compare 104 = .ok (.lload 9, 2) := by decide +kernel
theorem dX1_compare_106 : decode cX1_compare 106 = .ok (.aload 5, 2) := by decide +kernel
theorem dX1_compare_108 : decode cX1_compare 108 = .ok (.invokevirtual 119, 3) := by decide +kernel
theorem dX1_compare_111 : decode cX1_compare 111 = .ok (.i2l, 1) := by decide +kernel
theorem dX1_compare_112 : decode cX1_compare 112 = .ok (.lload 11, 2) := by decide +kernel
theorem dX1_compare_114 : decode cX1_compare 114 = .ok (.aload 6, 2) := by decide +kernel
theorem dX1_compare_116 : decode cX1_compare 116 = .ok (.invokevirtual 119, 3) := by decide +kernel
theorem dX1_compare_119 : decode cX1_compare 119 = .ok (.i2l, 1) := by decide +kernel
theorem dX1_compare_120 : decode cX1_compare 120 = .ok (.invokestatic 131, 3) := by decide +kernel
theorem dX1_compare_123 : decode cX1_compare 123 = .ok (.ireturn, 1) := by decide +kernel
theorem dX1_clear_0 : decode cX1_clear 0 = .ok (.iconst 0, 1) := by decide +kernel
theorem dX1_clear_1 : decode cX1_clear 1 = .ok (.istore_n 1, 1) := by decide +kernel
theorem dX1_clear_2 : decode cX1_clear 2 = .ok (.iload_n 1, 1) := by decide +kernel
theorem dX1_clear_3 : decode cX1_clear 3 = .ok (.aload_n 0, 1) := by decide +kernel
theorem dX1_clear_4 : decode cX1_clear 4 = .ok (.getfield 9, 3) := by decide +kernel
theorem dX1_clear_7 : decode cX1_clear 7 = .ok (.arraylength, 1) := by decide +kernel
theorem dX1_clear_8 : decode cX1_clear 8 = .ok (.if_icmp .ge 16, 3) := by decide +kernel
theorem dX1_clear_11 : decode cX1_clear 11 = .ok (.aload_n 0, 1) := by decide +kernel
theorem dX1_clear_12 : decode cX1_clear 12 = .ok (.getfield 9, 3) := by decide +kernel
theorem dX1_clear_15 : decode cX1_clear 15 = .ok (.iload_n 1, 1) := by decide +kernel
theorem dX1_clear_16 : decode cX1_clear 16 = .ok (.iconst 0, 1) := by decide +kernel
theorem dX1_clear_17 : decode cX1_clear 17 = .ok (.iastore, 1) := by decide +kernel
theorem dX1_clear_18 : decode cX1_clear 18 = .ok (.iinc 1 1, 3) := by decide +kernel
theorem dX1_clear_21 : decode cX1_clear 21 = .ok (.goto (-19), 3) := by decide +kernel
theorem dX1_clear_24 : decode cX1_clear 24 = .ok (.aload_n 0, 1) := by decide +kernel
theorem dX1_clear_25 : decode cX1_clear 25 = .ok (.iconst 0, 1) := by decide +kernel
theorem dX1_clear_26 : decode cX1_clear 26 = .ok (.putfield 41, 3) := by decide +kernel
theorem dX1_clear_29 : decode cX1_clear 29 = .ok (.return_, 1) := by decide +kernel
theorem dX1_checkPower_0 : decode cX1_checkPower 0 = .ok (.iload_n 0, 1) := by decide +kernel
theorem dX1_checkPower_1 : decode cX1_checkPower 1 = .ok (.ifCond .lt 8, 3) := by decide +kernel
theorem dX1_checkPower_4 : decode cX1_checkPower 4 = .ok (.iload_n 0, 1) := by decide +kernel
theorem dX1_checkPower_5 : decode cX1_checkPower 5 = .ok (.iconst 4, 1) := by decide +kernel
theorem dX1_checkPower_6 : decode cX1_checkPower 6 = .ok (.if_icmp .le 13, 3) := by decide +kernel
theorem dX1_checkPower_9 : decode cX1_checkPower 9 = .ok (.new 135, 3) := by decide +kernel
theorem dX1_checkPower_12 : decode cX1_checkPower 12 = .ok (.dup, 1) := by decide +kernel
theorem dX1_checkPower_13 : decode cX1_checkPower 13 = .ok (.ldc 137, 2) := by decide +kernel
theorem dX1_checkPower_15 : decode cX1_checkPower 15 = .ok (.invokespecial 139, 3) := by decide +kernel
theorem dX1_checkPower_18 : decode cX1_checkPower 18 = .ok (.athrow, 1) := by decide +kernel
theorem dX1_checkPower_19 : decode cX1_checkPower 19 = .ok (.return_, 1) := by decide +kernel
theorem dX1_checkReal_0 : decode cX1_checkReal 0 = .ok (.aload_n 0, 1) := by decide +kernel
theorem dX1_checkReal_1 : decode cX1_checkReal 1 = .ok (.invokevirtual 112, 3) := by decide +kernel
theorem dX1_checkReal_4 : decode cX1_checkReal 4 = .ok (.ifCond .ne 13, 3) := by decide +kernel
theorem dX1_checkReal_7 : decode cX1_checkReal 7 = .ok (.new 34, 3) := by decide +kernel
theorem dX1_checkReal_10 : decode cX1_checkReal 10 = .ok (.dup, 1) := by decide +kernel
theorem dX1_checkReal_11 : decode cX1_checkReal 11 = .ok (.ldc 140, 2) := by decide +kernel
theorem dX1_checkReal_13 : decode cX1_checkReal 13 = .ok (.invokespecial 38, 3) := by decide +kernel
theorem dX1_checkReal_16 : decode cX1_checkReal 16 = .ok (.athrow, 1) := by decide +kernel
theorem dX1_checkReal_17 : decode cX1_checkReal 17 = .ok (.return_, 1) := by decide +kernel
theorem dX1_isInLimits_0 : decode cX1_isInLimits 0 = .ok (.iload_n 0, 1) := by decide +kernel
theorem dX1_isInLimits_1 : decode cX1_isInLimits 1 = .ok (.bipush (-20), 2) := by decide +kernel
theorem dX1_isInLimits_3 : decode cX1_isInLimits 3 = .ok (.if_icmp .lt 13, 3) := by decide +kernel
theorem dX1_isInLimits_6 : decode cX1_isInLimits 6 = .ok (.iload_n 0, 1) := by decide +kernel
theorem dX1_isInLimits_7 : decode cX1_isInLimits 7 = .ok (.bipush 20, 2) := by decide +kernel
theorem dX1_isInLimits_9 : decode cX1_isInLimits 9 = .ok (.if_icmp .gt 7, 3) := by decide +kernel
theorem dX1_isInLimits_12 : decode cX1_isInLimits 12 = .ok (.iconst 1, 1) := by decide +kernel
theorem dX1_isInLimits_13 : decode cX1_isInLimits 13 = .ok (.goto 4, 3) := by decide +kernel
theorem dX1_isInLimits_16 : decode cX1_isInLimits 16 = .ok (.iconst 0, 1) := by decide +kernel
theorem dX1_isInLimits_17 : decode cX1_isInLimits 17 = .ok (.ireturn, 1) := by decide +kernel
theorem dX1_numbered_0 : decode cX1_numbered 0 = .ok (.iload_n 1, 1) := by decide +kernel
theorem dX1_numbered_1 : decode cX1_numbered 1 = .ok (.ifCond .lt 20, 3) := by decide +kernel
theorem dX1_numbered_4 : decode cX1_numbered 4 = .ok (.iload_n 1, 1) := by decide +kernel
theorem dX1_numbered_5 : decode cX1_numbered 5 = .ok (.aload_n 0, 1) := by decide +kernel
theorem dX1_numbered_6 : decode cX1_numbered 6 = .ok (.getfield 64, 3) := by decide +kernel
theorem dX1_numbered_9 : decode cX1_numbered 9 = .ok (.if_icmp .ge 12, 3) := by decide +kernel
theorem dX1_numbered_12 : decode cX1_numbered 12 = .ok (.iload_n 1, 1) := by decide +kernel
theorem dX1_numbered_13 : decode cX1_numbered 13 = .ok (.aload_n 0, 1) := by decide +kernel
theorem dX1_numbered_14 : decode cX1_numbered 14 = .ok (.getfield 21, 3) := by decide +kernel
theorem dX1_numbered_17 : decode cX1_numbered 17 = .ok (.arraylength, 1) := by decide +kernel
theorem dX1_numbered_18 : decode cX1_numbered 18 = .ok (.if_icmp .lt 13, 3) := by decide +kernel
theorem dX1_numbered_21 : decode cX1_numbered 21 = .ok (.new 135, 3) := by decide +kernel
theorem dX1_numbered_24 : decode cX1_numbered 24 = .ok (.dup, 1) := by decide +kernel
theorem dX1_numbered_25 : decode cX1_numbered 25 = .ok (.ldc 142, 2) := by decide +kernel
theorem dX1_numbered_27 : decode cX1_numbered 27 = .ok (.invokespecial 139, 3) := by decide +kernel
theorem dX1_numbered_30 : decode cX1_numbered 30 = .ok (.athrow, 1) := by decide +kernel
theorem dX1_numbered_31 : decode cX1_numbered 31 = .ok (.aload_n 0, 1) := by decide +kernel
theorem dX1_numbered_32 : decode cX1_numbered 32 = .ok (.getfield 21, 3) := by decide +kernel
theorem dX1_numbered_35 : decode cX1_numbered 35 = .ok (.iload_n 1, 1) := by decide +kernel
theorem dX1_numbered_36 : decode cX1_numbered 36 = .ok (.aaload, 1) := by decide +kernel
theorem dX1_numbered_37 : decode cX1_numbered 37 = .ok (.areturn, 1) := by decide +kernel
theorem dX1_draftChange_0 : decode cX1_draftChange 0 = .ok (.aload_n 0, 1) := by decide +kernel
theorem dX1_draftChange_1 : decode cX1_draftChange 1 = .ok (.getfield 9, 3) := by decide +kernel
theorem dX1_draftChange_4 : decode cX1_draftChange 4 = .ok (.iconst 0, 1) := by decide +kernel
theorem dX1_draftChange_5 : decode cX1_draftChange 5 = .ok (.aload_n 0, 1) := by decide +kernel
theorem dX1_draftChange_6 : decode cX1_draftChange 6 = .ok (.getfield 16, 3) := by decide +kernel
theorem dX1_draftChange_9 : decode cX1_draftChange 9 = .ok (.iconst 0, 1) := by decide +kernel
theorem dX1_draftChange_10 : decode cX1_draftChange 10 = .ok (.aload_n 0, 1) := by decide +kernel
theorem dX1_draftChange_11 : decode cX1_draftChange 11 = .ok (.getfield 16, 3) := by decide +kernel
theorem dX1_draftChange_14 : decode cX1_draftChange 14 = .ok (.arraylength, 1) := by decide +kernel
theorem dX1_draftChange_15 : decode cX1_draftChange 15 = .ok (.invokestatic 55, 3) := by decide +kernel
theorem dX1_draftChange_18 : decode cX1_draftChange 18 = .ok (.iload_n 1, 1) := by decide +kernel
theorem dX1_draftChange_19 : decode cX1_draftChange 19 = .ok (.iconst 2, 1) := by decide +kernel
theorem dX1_draftChange_20 : decode cX1_draftChange 20 = .ok (.if_icmp .ne 42, 3) := by decide +kernel
theorem dX1_draftChange_23 : decode cX1_draftChange 23 = .ok (.iconst 0, 1) := by decide +kernel
theorem dX1_draftChange_24 : decode cX1_draftChange 24 = .ok (.istore_n 3, 1) := by decide +kernel
theorem dX1_draftChange_25 : decode cX1_draftChange 25 = .ok (.iload_n 3, 1) := by decide +kernel
theorem dX1_draftChange_26 : decode cX1_draftChange 26 = .ok (.iload_n 2, 1) := by decide +kernel
theorem dX1_draftChange_27 : decode cX1_draftChange 27 = .ok (.if_icmp .gt 32, 3) := by decide +kernel
theorem dX1_draftChange_30 : decode cX1_draftChange 30 = .ok (.iload_n 2, 1) := by decide +kernel
theorem dX1_draftChange_31 : decode cX1_draftChange 31 = .ok (.aload_n 0, 1) := by decide +kernel
theorem dX1_draftChange_32 : decode cX1_draftChange 32 = .ok (.getfield 16, 3) := by decide +kernel
theorem dX1_draftChange_35 : decode cX1_draftChange 35 = .ok (.arraylength, 1) := by decide +kernel
theorem dX1_draftChange_36 : decode cX1_draftChange 36 = .ok (.if_icmp .ge 23, 3) := by decide +kernel
theorem dX1_draftChange_39 : decode cX1_draftChange 39 = .ok (.aload_n 0, 1) := by decide +kernel
theorem dX1_draftChange_40 : decode cX1_draftChange 40 = .ok (.getfield 16, 3) := by decide +kernel
theorem dX1_draftChange_43 : decode cX1_draftChange 43 = .ok (.iload_n 3, 1) := by decide +kernel
theorem dX1_draftChange_44 : decode cX1_draftChange 44 = .ok (.aload_n 0, 1) := by decide +kernel
theorem dX1_draftChange_45 : decode cX1_draftChange 45 = .ok (.getfield 9, 3) := by decide +kernel
theorem dX1_draftChange_48 : decode cX1_draftChange 48 = .ok (.iload_n 2, 1) := by decide +kernel
theorem dX1_draftChange_49 : decode cX1_draftChange 49 = .ok (.iload_n 3, 1) := by decide +kernel
theorem dX1_draftChange_50 : decode cX1_draftChange 50 = .ok (.isub, 1) := by decide +kernel
theorem dX1_draftChange_51 : decode cX1_draftChange 51 = .ok (.iaload, 1) := by decide +kernel
theorem dX1_draftChange_52 : decode cX1_draftChange 52 = .ok (.iastore, 1) := by decide +kernel
theorem dX1_draftChange_53 : decode cX1_draftChange 53 = .ok (.iinc 3 1, 3) := by decide +kernel
theorem dX1_draftChange_56 : decode cX1_draftChange 56 = .ok (.goto (-31), 3) := by decide +kernel
theorem dX1_draftChange_59 : decode cX1_draftChange 59 = .ok (.goto 45, 3) := by decide +kernel
theorem dX1_draftChange_62 : decode cX1_draftChange 62 = .ok (.iload_n 1, 1) := by decide +kernel
theorem dX1_draftChange_63 : decode cX1_draftChange 63 = .ok (.ifCond .ne 36, 3) := by decide +kernel
theorem dX1_draftChange_66 : decode cX1_draftChange 66 = .ok (.iconst 1, 1) := by decide +kernel
theorem dX1_draftChange_67 : decode cX1_draftChange 67 = .ok (.istore_n 3, 1) := by decide +kernel
theorem dX1_draftChange_68 : decode cX1_draftChange 68 = .ok (.iload_n 3, 1) := by decide +kernel
theorem dX1_draftChange_69 : decode cX1_draftChange 69 = .ok (.aload_n 0, 1) := by decide +kernel
theorem dX1_draftChange_70 : decode cX1_draftChange 70 = .ok (.getfield 16, 3) := by decide +kernel
theorem dX1_draftChange_73 : decode cX1_draftChange 73 = .ok (.arraylength, 1) := by decide +kernel
theorem dX1_draftChange_74 : decode cX1_draftChange 74 = .ok (.if_icmp .ge 22, 3) := by decide +kernel
theorem dX1_draftChange_77 : decode cX1_draftChange 77 = .ok (.aload_n 0, 1) := by decide +kernel
theorem dX1_draftChange_78 : decode cX1_draftChange 78 = .ok (.getfield 16, 3) := by decide +kernel
theorem dX1_draftChange_81 : decode cX1_draftChange 81 = .ok (.iload_n 3, 1) := by decide +kernel
theorem dX1_draftChange_82 : decode cX1_draftChange 82 = .ok (.aload_n 0, 1) := by decide +kernel
theorem dX1_draftChange_83 : decode cX1_draftChange 83 = .ok (.getfield 16, 3) := by decide +kernel
theorem dX1_draftChange_86 : decode cX1_draftChange 86 = .ok (.iload_n 3, 1) := by decide +kernel
theorem dX1_draftChange_87 : decode cX1_draftChange 87 = .ok (.iaload, 1) := by decide +kernel
theorem dX1_draftChange_88 : decode cX1_draftChange 88 = .ok (.ineg, 1) := by decide +kernel
theorem dX1_draftChange_89 : decode cX1_draftChange 89 = .ok (.iastore, 1) := by decide +kernel
theorem dX1_draftChange_90 : decode cX1_draftChange 90 = .ok (.iinc 3 2, 3) := by decide +kernel
theorem dX1_draftChange_93 : decode cX1_draftChange 93 = .ok (.goto (-25), 3) := by decide +kernel
theorem dX1_draftChange_96 : decode cX1_draftChange 96 = .ok (.goto 8, 3) := by decide +kernel
theorem dX1_draftChange_99 : decode cX1_draftChange 99 = .ok (.aload_n 0, 1) := by decide +kernel
theorem dX1_draftChange_100 : decode cX1_draftChange 100 = .ok (.iload_n 1, 1) := by decide +kernel
theorem dX1_draftChange_101 : decode cX1_draftChange 101 = .ok (.invokevirtual 144, 3) := by decide +kernel
theorem dX1_draftChange_104 : decode cX1_draftChange 104 = .ok (.return_, 1) := by decide +kernel
theorem dX1_draftShift_0 : decode cX1_draftShift 0 = .ok (.iconst 0, 1) := by decide +kernel
theorem dX1_draftShift_1 : decode cX1_draftShift 1 = .ok (.istore_n 2, 1) := by decide +kernel
theorem dX1_draftShift_2 : decode cX1_draftShift 2 = .ok (.iload_n 2, 1) := by decide +kernel
theorem dX1_draftShift_3 : decode cX1_draftShift 3 = .ok (.iconst 4, 1) := by decide +kernel
theorem dX1_draftShift_4 : decode cX1_draftShift 4 = .ok (.if_icmp .ge 41, 3) := by decide +kernel
theorem dX1_draftShift_7 : decode cX1_draftShift 7 = .ok (.iconst 3, 1) := by decide +kernel
theorem dX1_draftShift_8 : decode cX1_draftShift 8 = .ok (.istore_n 3, 1) := by decide +kernel
theorem dX1_draftShift_9 : decode cX1_draftShift 9 = .ok (.iload_n 3, 1) := by decide +kernel
theorem dX1_draftShift_10 : decode cX1_draftShift 10 = .ok (.iload_n 2, 1) := by decide +kernel
theorem dX1_draftShift_11 : decode cX1_draftShift 11 = .ok (.if_icmp .lt 28, 3) := by decide +kernel
theorem dX1_draftShift_14 : decode cX1_draftShift 14 = .ok (.aload_n 0, 1) := by decide +kernel
theorem dX1_draftShift_15 : decode cX1_draftShift 15 = .ok (.getfield 16, 3) := by decide +kernel
theorem dX1_draftShift_18 : decode cX1_draftShift 18 = .ok (.iload_n 3, 1) := by decide +kernel
theorem dX1_draftShift_19 : decode cX1_draftShift 19 = .ok (.dup2, 1) := by decide +kernel
theorem dX1_draftShift_20 : decode cX1_draftShift 20 = .ok (.iaload, 1) := by decide +kernel
theorem dX1_draftShift_21 : decode cX1_draftShift 21 = .ok (.iload_n 1, 1) := by decide +kernel
theorem dX1_draftShift_22 : decode cX1_draftShift 22 = .ok (.aload_n 0, 1) := by decide +kernel
theorem dX1_draftShift_23 : decode cX1_draftShift 23 = .ok (.getfield 16, 3) := by decide +kernel
theorem dX1_draftShift_26 : decode cX1_draftShift 26 = .ok (.iload_n 3, 1) := by decide +kernel
theorem dX1_draftShift_27 : decode cX1_draftShift 27 = .ok (.iconst 1, 1) := by decide +kernel
theorem dX1_draftShift_28 : decode cX1_draftShift 28 = .ok (.iadd, 1) := by decide +kernel
theorem dX1_draftShift_29 : decode cX1_draftShift 29 = .ok (.iaload, 1) := by decide +kernel
theorem dX1_draftShift_30 : decode cX1_draftShift 30 = .ok (.imul, 1) := by decide +kernel
theorem dX1_draftShift_31 : decode cX1_draftShift 31 = .ok (.iadd, 1) := by decide +kernel
theorem dX1_draftShift_32 : decode cX1_draftShift 32 = .ok (.iastore, 1) := by decide +kernel
theorem dX1_draftShift_33 : decode cX1_draftShift 33 = .ok (.iinc 3 (-1), 3) := by decide +kernel
theorem dX1_draftShift_36 : decode cX1_draftShift 36 = .ok (.goto (-27), 3) := by decide +kernel
theorem dX1_draftShift_39 : decode cX1_draftShift 39 = .ok (.iinc 2 1, 3) := by decide +kernel
theorem dX1_draftShift_42 : decode cX1_draftShift 42 = .ok (.goto (-40), 3) := by decide +kernel
theorem dX1_draftShift_45 : decode cX1_draftShift 45 = .ok (.return_, 1) := by decide +kernel
theorem dX1_split_0 : decode cX1_split 0 = .ok (.aload_n 0, 1) := by decide +kernel
theorem dX1_split_1 : decode cX1_split 1 = .ok (.getfield 9, 3) := by decide +kernel
theorem dX1_split_4 : decode cX1_split 4 = .ok (.invokestatic 47, 3) := by decide +kernel
theorem dX1_split_7 : decode cX1_split 7 = .ok (.istore_n 1, 1) := by decide +kernel
theorem dX1_split_8 : decode cX1_split 8 = .ok (.iload_n 1, 1) := by decide +kernel
theorem dX1_split_9 : decode cX1_split 9 = .ok (.ifCond .ge 13, 3) := by decide +kernel
theorem dX1_split_12 : decode cX1_split 12 = .ok (.new 147, 3) := by decide +kernel
theorem dX1_split_15 : decode cX1_split 15 = .ok (.dup, 1) := by decide +kernel
theorem dX1_split_16 : decode cX1_split 16 = .ok (.ldc 149, 2) := by decide +kernel
theorem dX1_split_18 : decode cX1_split 18 = .ok (.invokespecial 151, 3) := by decide +kernel
theorem dX1_split_21 : decode cX1_split 21 = .ok (.athrow, 1) := by decide +kernel
theorem dX1_split_22 : decode cX1_split 22 = .ok (.aload_n 0, 1) := by decide +kernel
theorem dX1_split_23 : decode cX1_split 23 = .ok (.getfield 41, 3) := by decide +kernel
theorem dX1_split_26 : decode cX1_split 26 = .ok (.ifCond .eq 4, 3) := by decide +kernel
theorem dX1_split_29 : decode cX1_split 29 = .ok (.return_, 1) := by decide +kernel
theorem dX1_split_30 : decode cX1_split 30 = .ok (.aload_n 0, 1) := by decide +kernel
theorem dX1_split_31 : decode cX1_split 31 = .ok (.iconst 0, 1) := by decide +kernel
theorem dX1_split_32 : decode cX1_split 32 = .ok (.putfield 64, 3) := by decide +kernel
theorem dX1_split_35 : decode cX1_split 35 = .ok (.aload_n 0, 1) := by decide +kernel
theorem dX1_split_36 : decode cX1_split 36 = .ok (.iload_n 1, 1) := by decide +kernel
theorem dX1_split_37 : decode cX1_split 37 = .ok (.invokevirtual 152, 3) := by decide +kernel
theorem dX1_split_40 : decode cX1_split 40 = .ok (.aload_n 0, 1) := by decide +kernel
theorem dX1_split_41 : decode cX1_split 41 = .ok (.invokevirtual 155, 3) := by decide +kernel
theorem dX1_split_44 : decode cX1_split 44 = .ok (.aload_n 0, 1) := by decide +kernel
theorem dX1_split_45 : decode cX1_split 45 = .ok (.invokevirtual 158, 3) := by decide +kernel
theorem dX1_split_48 : decode cX1_split 48 = .ok (.aload_n 0, 1) := by decide +kernel
theorem dX1_split_49 : decode cX1_split 49 = .ok (.iconst 1, 1) := by decide +kernel
theorem dX1_split_50 : decode cX1_split 50 = .ok (.putfield 41, 3) := by decide +kernel
theorem dX1_split_53 : decode cX1_split 53 = .ok (.return_, 1) := by decide +kernel
theorem dX1_takeOutContent_0 : decode cX1_takeOutContent 0 = .ok (.iconst 0, 1) := by decide +kernel
theorem dX1_takeOutContent_1 : decode cX1_takeOutContent 1 = .ok (.istore_n 2, 1) := by decide +kernel
theorem dX1_takeOutContent_2 : decode cX1_takeOutContent 2 = .ok (.aload_n 0, 1) := by decide +kernel
theorem dX1_takeOutContent_3 : decode cX1_takeOutContent 3 = .ok (.getfield 9, 3) := by decide +kernel
theorem dX1_takeOutContent_6 : decode cX1_takeOutContent 6 = .ok (.astore_n 3, 1) := by decide +kernel
theorem dX1_takeOutContent_7 : decode cX1_takeOutContent 7 = .ok (.aload_n 3, 1) := by decide +kernel
theorem dX1_takeOutContent_8 : decode cX1_takeOutContent 8 = .ok (.arraylength, 1) := by decide +kernel
theorem dX1_takeOutContent_9 : decode cX1_takeOutContent 9 = .ok (.istore 4, 2) := by decide +kernel
theorem dX1_takeOutContent_11 : decode cX1_takeOutContent 11 = .ok (.iconst 0, 1) := by decide +kernel
theorem dX1_takeOutContent_12 : decode cX1_takeOutContent 12 = .ok (.istore 5, 2) := by decide +kernel
theorem dX1_takeOutContent_14 : decode cX1_takeOutContent 14 = .ok (.iload 5, 2) := by decide +kernel
theorem dX1_takeOutContent_16 : decode cX1_takeOutContent 16 = .ok (.iload 4, 2) := by decide +kernel
theorem dX1_takeOutContent_18 : decode cX1_takeOutContent 18 = .ok (.if_icmp .ge 22, 3) := by decide +kernel
theorem dX1_takeOutContent_21 : decode cX1_takeOutContent 21 = .ok (.aload_n 3, 1) := by decide +kernel
theorem dX1_takeOutContent_22 : decode cX1_takeOutContent 22 = .ok (.iload 5, 2) := by decide +kernel
theorem dX1_takeOutContent_24 : decode cX1_takeOutContent 24 = .ok (.iaload, 1) := by decide +kernel
theorem dX1_takeOutContent_25 : decode cX1_takeOutContent 25 = .ok (.istore 6, 2) := by decide +kernel
theorem dX1_takeOutContent_27 : decode cX1_takeOutContent 27 = .ok (.iload_n 2, 1) := by decide +kernel
theorem dX1_takeOutContent_28 : decode cX1_takeOutContent 28 = .ok (.iload 6, 2) := by decide +kernel
theorem dX1_takeOutContent_30 : decode cX1_takeOutContent 30 = .ok (.invokestatic 108, 3) := by decide +kernel
theorem dX1_takeOutContent_33 : decode cX1_takeOutContent 33 = .ok (.istore_n 2, 1) := by decide +kernel
theorem dX1_takeOutContent_34 : decode cX1_takeOutContent 34 = .ok (.iinc 5 1, 3) := by decide +kernel
theorem dX1_takeOutContent_37 : decode cX1_takeOutContent 37 = .ok (.goto (-23), 3) := by decide +kernel
theorem dX1_takeOutContent_40 : decode cX1_takeOutContent 40 = .ok (.aload_n 0, 1) := by decide +kernel
theorem dX1_takeOutContent_41 : decode cX1_takeOutContent 41 = .ok (.aload_n 0, 1) := by decide +kernel
theorem dX1_takeOutContent_42 : decode cX1_takeOutContent 42 = .ok (.getfield 9, 3) := by decide +kernel
theorem dX1_takeOutContent_45 : decode cX1_takeOutContent 45 = .ok (.iload_n 1, 1) := by decide +kernel
theorem dX1_takeOutContent_46 : decode cX1_takeOutContent 46 = .ok (.iaload, 1) := by decide +kernel
theorem dX1_takeOutContent_47 : decode cX1_takeOutContent 47 = .ok (.ifCond .ge 8, 3) := by decide +kernel
theorem dX1_takeOutContent_50 : decode cX1_takeOutContent 50 = .ok (.iload_n 2, 1) := by decide +kernel
theorem dX1_takeOutContent_51 : decode cX1_takeOutContent 51 = .ok (.ineg, 1) := by decide +kernel
theorem dX1_takeOutContent_52 : decode cX1_takeOutContent 52 = .ok (.goto 4, 3) := by decide +kernel
theorem dX1_takeOutContent_55 : decode cX1_takeOutContent 55 = .ok (.iload_n 2, 1) := by decide +kernel
theorem dX1_takeOutContent_56 : decode cX1_takeOutContent 56 = .ok (.putfield 93, 3) := by decide +kernel
theorem dX1_takeOutContent_59 : decode cX1_takeOutContent 59 = .ok (.iconst 0, 1) := by decide +kernel
theorem dX1_takeOutContent_60 : decode cX1_takeOutContent 60 = .ok (.istore_n 3, 1) := by decide +kernel
theorem dX1_takeOutContent_61 : decode cX1_takeOutContent 61 = .ok (.iload_n 3, 1) := by decide +kernel
theorem dX1_takeOutContent_62 : decode cX1_takeOutContent 62 = .ok (.aload_n 0, 1) := by decide +kernel
theorem dX1_takeOutContent_63 : decode cX1_takeOutContent 63 = .ok (.getfield 13, 3) := by decide +kernel
theorem dX1_takeOutContent_66 : decode cX1_takeOutContent 66 = .ok (.arraylength, 1) := by decide +kernel
theorem dX1_takeOutContent_67 : decode cX1_takeOutContent 67 = .ok (.if_icmp .ge 37, 3) := by decide +kernel
theorem dX1_takeOutContent_70 : decode cX1_takeOutContent 70 = .ok (.aload_n 0, 1) := by decide +kernel
theorem dX1_takeOutContent_71 : decode cX1_takeOutContent 71 = .ok (.getfield 13, 3) := by decide +kernel
theorem dX1_takeOutContent_74 : decode cX1_takeOutContent 74 = .ok (.iload_n 3, 1) := by decide +kernel
theorem dX1_takeOutContent_75 : decode cX1_takeOutContent 75 = .ok (.aload_n 0, 1) := by decide +kernel
theorem dX1_takeOutContent_76 : decode cX1_takeOutContent 76 = .ok (.getfield 93, 3) := by decide +kernel
theorem dX1_takeOutContent_79 : decode cX1_takeOutContent 79 = .ok (.ifCond .ne 7, 3) := by decide +kernel
theorem dX1_takeOutContent_82 : decode cX1_takeOutContent 82 = .ok (.iconst 0, 1) := by decide +kernel
theorem dX1_takeOutContent_83 : decode cX1_takeOutContent 83 = .ok (.goto 14, 3) := by decide +kernel
theorem dX1_takeOutContent_86 : decode cX1_takeOutContent 86 = .ok (.aload_n 0, 1) := by decide +kernel
theorem dX1_takeOutContent_87 : decode cX1_takeOutContent 87 = .ok (.getfield 9, 3) := by decide +kernel
theorem dX1_takeOutContent_90 : decode cX1_takeOutContent 90 = .ok (.iload_n 3, 1) := by decide +kernel
theorem dX1_takeOutContent_91 : decode cX1_takeOutContent 91 = .ok (.iaload, 1) := by decide +kernel
theorem dX1_takeOutContent_92 : decode cX1_takeOutContent 92 = .ok (.aload_n 0, 1) := by decide +kernel
theorem dX1_takeOutContent_93 : decode cX1_takeOutContent 93 = .ok (.getfield 93, 3) := by decide +kernel
theorem dX1_takeOutContent_96 : decode cX1_takeOutContent 96 = .ok (.idiv, 1) := by decide +kernel
theorem dX1_takeOutContent_97 : decode cX1_takeOutContent 97 = .ok (.iastore, 1) := by decide +kernel
theorem dX1_takeOutContent_98 : decode cX1_takeOutContent 98 = .ok (.iinc 3 1, 3) := by decide +kernel
theorem dX1_takeOutContent_101 : decode cX1_takeOutContent 101 = .ok (.goto (-40), 3) := by decide +kernel
theorem dX1_takeOutContent_104 : decode cX1_takeOutContent 104 = .ok (.return_, 1) := by decide +kernel
theorem dX1_takeOutLinearFactors_0 : decode cX1_takeOutLinearFactors 0 = .ok (.iconst 1, 1) := by decide +kernel
theorem dX1_takeOutLinearFactors_1 : decode cX1_takeOutLinearFactors 1 = .ok (.istore_n 1, 1) := by decide +kernel
theorem dX1_takeOutLinearFactors_2 : decode cX1_takeOutLinearFactors 2 = .ok (.iload_n 1, 1) := by decide +kernel
theorem dX1_takeOutLinearFactors_3 : decode cX1_takeOutLinearFactors 3 = .ok (.bipush 20, 2) := by decide +kernel
theorem dX1_takeOutLinearFactors_5 : decode cX1_takeOutLinearFactors 5 = .ok (.if_icmp .gt 54, 3) := by decide +kernel
theorem dX1_takeOutLinearFactors_8 : decode cX1_takeOutLinearFactors 8 = .ok (.aload_n 0, 1) := by decide +kernel
theorem dX1_takeOutLinearFactors_9 : decode cX1_takeOutLinearFactors 9 = .ok (.getfield 13, 3) := by decide +kernel
theorem dX1_takeOutLinearFactors_12 : decode cX1_takeOutLinearFactors 12 = .ok (.invokestatic 47, 3) := by decide +kernel
theorem dX1_takeOutLinearFactors_15 : decode cX1_takeOutLinearFactors 15 = .ok (.istore_n 2, 1) := by decide +kernel
theorem dX1_takeOutLinearFactors_16 : decode cX1_takeOutLinearFactors 16 = .ok (.iload_n 2, 1) := by decide +kernel
theorem dX1_takeOutLinearFactors_17 : decode cX1_takeOutLinearFactors 17 = .ok (.ifCond .le 36, 3) := by decide +kernel
theorem dX1_takeOutLinearFactors_20 : decode cX1_takeOutLinearFactors 20 = .ok (.aload_n 0, 1) := by decide +kernel
theorem dX1_takeOutLinearFactors_21 : decode cX1_takeOutLinearFactors 21 = .ok (.getfield 13, 3) := by decide +kernel
theorem dX1_takeOutLinearFactors_24 : decode cX1_takeOutLinearFactors 24 = .ok (.iload_n 2, 1) := by decide +kernel
theorem dX1_takeOutLinearFactors_25 : decode cX1_takeOutLinearFactors 25 = .ok (.iaload, 1) := by decide +kernel
theorem dX1_takeOutLinearFactors_26 : decode cX1_takeOutLinearFactors 26 = .ok (.iload_n 1, 1) := by decide +kernel
theorem dX1_takeOutLinearFactors_27 : decode cX1_takeOutLinearFactors 27 = .ok (.irem, 1) := by decide +kernel
theorem dX1_takeOutLinearFactors_28 : decode cX1_takeOutLinearFactors 28 = .ok (.ifCond .ne 25, 3) := by decide +kernel
theorem dX1_takeOutLinearFactors_31 : decode cX1_takeOutLinearFactors 31 = .ok (.bipush (-20), 2) := by decide +kernel
theorem dX1_takeOutLinearFactors_33 : decode cX1_takeOutLinearFactors 33 = .ok (.istore_n 3, 1) := by decide +kernel
theorem dX1_takeOutLinearFactors_34 : decode cX1_takeOutLinearFactors 34 = .ok (.iload_n 3, 1) := by decide +kernel
theorem dX1_takeOutLinearFactors_35 : decode cX1_takeOutLinearFactors 35 = .ok (.bipush 20, 2) := by decide +kernel
theorem dX1_takeOutLinearFactors_37 : decode cX1_takeOutLinearFactors 37 = .ok (.if_icmp .gt 16, 3) := by decide +kernel
theorem dX1_takeOutLinearFactors_40 : decode cX1_takeOutLinearFactors 40 = .ok (.aload_n 0, 1) := by decide +kernel
theorem dX1_takeOutLinearFactors_41 : decode cX1_takeOutLinearFactors 41 = .ok (.iconst 0, 1) := by decide +kernel
theorem dX1_takeOutLinearFactors_42 : decode cX1_takeOutLinearFactors 42 = .ok (.iload_n 1, 1) := by decide +kernel
theorem dX1_takeOutLinearFactors_43 : decode cX1_takeOutLinearFactors 43 = .ok (.iload_n 3, 1) := by decide +kernel
theorem dX1_takeOutLinearFactors_44 : decode cX1_takeOutLinearFactors 44 = .ok (.invokevirtual 161, 3) := by decide +kernel
theorem dX1_takeOutLinearFactors_47 : decode cX1_takeOutLinearFactors 47 = .ok (.iinc 3 1, 3) := by decide +kernel
theorem dX1_takeOutLinearFactors_50 : decode cX1_takeOutLinearFactors 50 = .ok (.goto (-16), 3) := by decide +kernel
theorem dX1_takeOutLinearFactors_53 : decode cX1_takeOutLinearFactors 53 = .ok (.iinc 1 1, 3) := by decide +kernel
theorem dX1_takeOutLinearFactors_56 : decode cX1_takeOutLinearFactors 56 = .ok (.goto (-54), 3) := by decide +kernel
theorem dX1_takeOutLinearFactors_59 : decode cX1_takeOutLinearFactors 59 = .ok (.return_, 1) := by decide +kernel
theorem dX1_takeOutQuadraticFactors_0 : decode cX1_takeOutQuadraticFactors 0 = .ok (.aload_n 0, 1) := by decide +kernel
theorem dX1_takeOutQuadraticFactors_1 : decode cX1_takeOutQuadraticFactors 1 = .ok (.getfield 13, 3) := by decide +kernel
theorem dX1_takeOutQuadraticFactors_4 : decode cX1_takeOutQuadraticFactors 4 = .ok (.invokestatic 47, 3) := by decide +kernel
theorem dX1_takeOutQuadraticFactors_7 : decode cX1_takeOutQuadraticFactors 7 = .ok (.iconst 4, 1) := by decide +kernel
theorem dX1_takeOutQuadraticFactors_8 : decode cX1_takeOutQuadraticFactors 8 = .ok (.if_icmp .ne 12, 3) := by decide +kernel
theorem dX1_takeOutQuadraticFactors_11 : decode cX1_takeOutQuadraticFactors 11 = .ok (.aload_n 0, 1) := by decide +kernel
theorem dX1_takeOutQuadraticFactors_12 : decode cX1_takeOutQuadraticFactors 12 = .ok (.getfield 13, 3) := by decide +kernel
theorem dX1_takeOutQuadraticFactors_15 : decode cX1_takeOutQuadraticFactors 15 = .ok (.iconst 4, 1) := by decide +kernel
theorem dX1_takeOutQuadraticFactors_16 : decode cX1_takeOutQuadraticFactors 16 = .ok (.iaload, 1) := by decide +kernel
theorem dX1_takeOutQuadraticFactors_17 : decode cX1_takeOutQuadraticFactors 17 = .ok (.goto 4, 3) := by decide +kernel
theorem dX1_takeOutQuadraticFactors_20 : decode cX1_takeOutQuadraticFactors 20 = .ok (.iconst 0, 1) := by decide +kernel
theorem dX1_takeOutQuadraticFactors_21 : decode cX1_takeOutQuadraticFactors 21 = .ok (.istore_n 1, 1) := by decide +kernel
theorem dX1_takeOutQuadraticFactors_22 : decode cX1_takeOutQuadraticFactors 22 = .ok (.aload_n 0, 1) := by decide +kernel
theorem dX1_takeOutQuadraticFactors_23 : decode cX1_takeOutQuadraticFactors 23 = .ok (.getfield 13, 3) := by decide +kernel
theorem dX1_takeOutQuadraticFactors_26 : decode cX1_takeOutQuadraticFactors 26 = .ok (.iconst 0, 1) := by decide +kernel
theorem dX1_takeOutQuadraticFactors_27 : decode cX1_takeOutQuadraticFactors 27 = .ok (.iaload, 1) := by decide +kernel
theorem dX1_takeOutQuadraticFactors_28 : decode cX1_takeOutQuadraticFactors 28 = .ok (.istore_n 2, 1) := by decide +kernel
theorem dX1_takeOutQuadraticFactors_29 : decode cX1_takeOutQuadraticFactors 29 = .ok (.iconst 1, 1) := by decide +kernel
theorem dX1_takeOutQuadraticFactors_30 : decode cX1_takeOutQuadraticFactors 30 = .ok (.istore_n 3, 1) := by decide +kernel
theorem dX1_takeOutQuadraticFactors_31 : decode cX1_takeOutQuadraticFactors 31 = .ok (.iload_n 3, 1) := by decide +kernel
theorem dX1_takeOutQuadraticFactors_32 : decode cX1_takeOutQuadraticFactors 32 = .ok (.bipush 20, 2) := by decide +kernel
theorem dX1_takeOutQuadraticFactors_34 : decode cX1_takeOutQuadraticFactors 34 = .ok (.if_icmp .gt 96, 3) := by decide +kernel
theorem dX1_takeOutQuadraticFactors_37 : decode cX1_takeOutQuadraticFactors 37 = .ok (.iload_n 3, 1) := by decide +kernel
theorem dX1_takeOutQuadraticFactors_38 : decode cX1_takeOutQuadraticFactors 38 = .ok (.iload_n 3, 1) := by decide +kernel
theorem dX1_takeOutQuadraticFactors_39 : decode cX1_takeOutQuadraticFactors 39 = .ok (.imul, 1) := by decide +kernel
theorem dX1_takeOutQuadraticFactors_40 : decode cX1_takeOutQuadraticFactors 40 = .ok (.iload_n 1, 1) := by decide +kernel
theorem dX1_takeOutQuadraticFactors_41 : decode cX1_takeOutQuadraticFactors 41 = .ok (.if_icmp .gt 89, 3) := by decide +kernel
theorem dX1_takeOutQuadraticFactors_44 : decode cX1_takeOutQuadraticFactors 44 = .ok (.iload_n 1, 1) := by decide +kernel
theorem dX1_takeOutQuadraticFactors_45 : decode cX1_takeOutQuadraticFactors 45 = .ok (.iload_n 3, 1) := by decide +kernel
theorem dX1_takeOutQuadraticFactors_46 : decode cX1_takeOutQuadraticFactors 46 = .ok (.irem, 1) := by decide +kernel
theorem dX1_takeOutQuadraticFactors_47 : decode cX1_takeOutQuadraticFactors 47 = .ok (.ifCond .eq 6, 3) := by decide +kernel
theorem dX1_takeOutQuadraticFactors_50 : decode cX1_takeOutQuadraticFactors 50 = .ok (.goto 74, 3) := by decide +kernel
theorem dX1_takeOutQuadraticFactors_53 : decode cX1_takeOutQuadraticFactors 53 = .ok (.iconst 2, 1) := by decide +kernel
theorem dX1_takeOutQuadraticFactors_54 : decode cX1_takeOutQuadraticFactors 54 = .ok (.iload_n 3, 1) := by decide +kernel
theorem dX1_takeOutQuadraticFactors_55 : decode cX1_takeOutQuadraticFactors 55 = .ok (.imul, 1) := by decide +kernel
theorem dX1_takeOutQuadraticFactors_56 : decode cX1_takeOutQuadraticFactors 56 = .ok (.bipush 40, 2) := by decide +kernel
theorem dX1_takeOutQuadraticFactors_58 : decode cX1_takeOutQuadraticFactors 58 = .ok (.iload_n 3, 1) := by decide +kernel
theorem dX1_takeOutQuadraticFactors_59 : decode cX1_takeOutQuadraticFactors 59 = .ok (.imul, 1) := by decide +kernel
theorem dX1_takeOutQuadraticFactors_60 : decode cX1_takeOutQuadraticFactors 60 = .ok (.iload_n 1, 1) := by decide +kernel
theorem dX1_takeOutQuadraticFactors_61 : decode cX1_takeOutQuadraticFactors 61 = .ok (.idiv, 1) := by decide +kernel
theorem dX1_takeOutQuadraticFactors_62 : decode cX1_takeOutQuadraticFactors 62 = .ok (.iadd, 1) := by decide +kernel
theorem dX1_takeOutQuadraticFactors_63 : decode cX1_takeOutQuadraticFactors 63 = .ok (.istore 4, 2) := by decide +kernel
theorem dX1_takeOutQuadraticFactors_65 : decode cX1_takeOutQuadraticFactors 65 = .ok (.bipush (-20), 2) := by decide +kernel
theorem dX1_takeOutQuadraticFactors_67 : decode cX1_takeOutQuadraticFactors 67 = .ok (.istore 5, 2) := by decide +kernel
theorem dX1_takeOutQuadraticFactors_69 : decode cX1_takeOutQuadraticFactors 69 = .ok (.iload 5, 2) := by decide +kernel
theorem dX1_takeOutQuadraticFactors_71 : decode cX1_takeOutQuadraticFactors 71 = .ok (.bipush 20, 2) := by decide +kernel
theorem dX1_takeOutQuadraticFactors_73 : decode cX1_takeOutQuadraticFactors 73 = .ok (.if_icmp .gt 51, 3) := by decide +kernel
theorem dX1_takeOutQuadraticFactors_76 : decode cX1_takeOutQuadraticFactors 76 = .ok (.iload 5, 2) := by decide +kernel
theorem dX1_takeOutQuadraticFactors_78 : decode cX1_takeOutQuadraticFactors 78 = .ok (.ifCond .eq 40, 3) := by decide +kernel
theorem dX1_takeOutQuadraticFactors_81 : decode cX1_takeOutQuadraticFactors 81 = .ok (.iload_n 2, 1) := by decide +kernel
theorem dX1_takeOutQuadraticFactors_82 : decode cX1_takeOutQuadraticFactors 82 = .ok (.iload 5, 2) := by decide +kernel
theorem dX1_takeOutQuadraticFactors_84 : decode cX1_takeOutQuadraticFactors 84 = .ok (.irem, 1) := by decide +kernel
theorem dX1_takeOutQuadraticFactors_85 : decode cX1_takeOutQuadraticFactors 85 = .ok (.ifCond .eq 6, 3) := by decide +kernel
theorem dX1_takeOutQuadraticFactors_88 : decode cX1_takeOutQuadraticFactors 88 = .ok (.goto 30, 3) := by decide +kernel
theorem dX1_takeOutQuadraticFactors_91 : decode cX1_takeOutQuadraticFactors 91 = .ok (.iload 4, 2) := by decide +kernel
theorem dX1_takeOutQuadraticFactors_93 : decode cX1_takeOutQuadraticFactors 93 = .ok (.ineg, 1) := by decide +kernel
theorem dX1_takeOutQuadraticFactors_94 : decode cX1_takeOutQuadraticFactors 94 = .ok (.istore 6, 2) := by decide +kernel
theorem dX1_takeOutQuadraticFactors_96 : decode cX1_takeOutQuadraticFactors 96 = .ok (.iload 6, 2) := by decide +kernel
theorem dX1_takeOutQuadraticFactors_98 : decode cX1_takeOutQuadraticFactors 98 = .ok (.iload 4, 2) := by decide +kernel
theorem dX1_takeOutQuadraticFactors_100 : decode cX1_takeOutQuadraticFactors 100 = .ok (.if_icmp .gt 18, 3) := by decide +kernel
theorem dX1_takeOutQuadraticFactors_103 : decode cX1_takeOutQuadraticFactors 103 = .ok (.aload_n 0, 1) := by decide +kernel
theorem dX1_takeOutQuadraticFactors_104 : decode cX1_takeOutQuadraticFactors 104 = .ok (.iload_n 3, 1) := by decide +kernel
theorem dX1_takeOutQuadraticFactors_105 : decode cX1_takeOutQuadraticFactors 105 = .ok (.iload 6, 2) := by decide +kernel
theorem dX1_takeOutQuadraticFactors_107 : decode cX1_takeOutQuadraticFactors 107 = .ok (.iload 5, 2) := by decide +kernel
theorem dX1_takeOutQuadraticFactors_109 : decode cX1_takeOutQuadraticFactors 109 = .ok (.invokevirtual 161, 3) := by decide +kernel
theorem dX1_takeOutQuadraticFactors_112 : decode cX1_takeOutQuadraticFactors 112 = .ok (.iinc 6 1, 3) := by decide +kernel
theorem dX1_takeOutQuadraticFactors_115 : decode cX1_takeOutQuadraticFactors 115 = .ok (.goto (-19), 3) := by decide +kernel
theorem dX1_takeOutQuadraticFactors_118 : decode cX1_takeOutQuadraticFactors 118 = .ok (.iinc 5 1, 3) := by decide +kernel
theorem dX1_takeOutQuadraticFactors_121 : decode cX1_takeOutQuadraticFactors 121 = .ok (.goto (-52), 3) := by decide +kernel
theorem dX1_takeOutQuadraticFactors_124 : decode cX1_takeOutQuadraticFactors 124 = .ok (.iinc 3 1, 3) := by decide +kernel
theorem dX1_takeOutQuadraticFactors_127 : decode cX1_takeOutQuadraticFactors 127 = .ok (.goto (-96), 3) := by decide +kernel
theorem dX1_takeOutQuadraticFactors_130 : decode cX1_takeOutQuadraticFactors 130 = .ok (.aload_n 0, 1) := by decide +kernel
theorem dX1_takeOutQuadraticFactors_131 : decode cX1_takeOutQuadraticFactors 131 = .ok (.getfield 13, 3) := by decide +kernel
theorem dX1_takeOutQuadraticFactors_134 : decode cX1_takeOutQuadraticFactors 134 = .ok (.invokestatic 47, 3) := by decide +kernel
theorem dX1_takeOutQuadraticFactors_137 : decode cX1_takeOutQuadraticFactors 137 = .ok (.iconst 2, 1) := by decide +kernel
theorem dX1_takeOutQuadraticFactors_138 : decode cX1_takeOutQuadraticFactors 138 = .ok (.if_icmp .ne 25, 3) := by decide +kernel
theorem dX1_takeOutQuadraticFactors_141 : decode cX1_takeOutQuadraticFactors 141 = .ok (.aload_n 0, 1) := by decide +kernel
theorem dX1_takeOutQuadraticFactors_142 : decode cX1_takeOutQuadraticFactors 142 = .ok (.aload_n 0, 1) := by decide +kernel
theorem dX1_takeOutQuadraticFactors_143 : decode cX1_takeOutQuadraticFactors 143 = .ok (.getfield 13, 3) := by decide +kernel
theorem dX1_takeOutQuadraticFactors_146 : decode cX1_takeOutQuadraticFactors 146 = .ok (.iconst 2, 1) := by decide +kernel
theorem dX1_takeOutQuadraticFactors_147 : decode cX1_takeOutQuadraticFactors 147 = .ok (.iaload, 1) := by decide +kernel
theorem dX1_takeOutQuadraticFactors_148 : decode cX1_takeOutQuadraticFactors 148 = .ok (.aload_n 0, 1) := by decide +kernel
theorem dX1_takeOutQuadraticFactors_149 : decode cX1_takeOutQuadraticFactors 149 = .ok (.getfield 13, 3) := by decide +kernel
theorem dX1_takeOutQuadraticFactors_152 : decode cX1_takeOutQuadraticFactors 152 = .ok (.iconst 1, 1) := by decide +kernel
theorem dX1_takeOutQuadraticFactors_153 : decode cX1_takeOutQuadraticFactors 153 = .ok (.iaload, 1) := by decide +kernel
theorem dX1_takeOutQuadraticFactors_154 : decode cX1_takeOutQuadraticFactors 154 = .ok (.aload_n 0, 1) := by decide +kernel
theorem dX1_takeOutQuadraticFactors_155 : decode cX1_takeOutQuadraticFactors 155 = .ok (.getfield 13, 3) := by decide +kernel
theorem dX1_takeOutQuadraticFactors_158 : decode cX1_takeOutQuadraticFactors 158 = .ok (.iconst 0, 1) := by decide +kernel
theorem dX1_takeOutQuadraticFactors_159 : decode cX1_takeOutQuadraticFactors 159 = .ok (.iaload, 1) := by decide +kernel
theorem dX1_takeOutQuadraticFactors_160 : decode cX1_takeOutQuadraticFactors 160 = .ok (.invokevirtual 161, 3) := by decide +kernel
theorem dX1_takeOutQuadraticFactors_163 : decode cX1_takeOutQuadraticFactors 163 = .ok (.return_, 1) := by decide +kernel
theorem dX1_takeOut_0 : decode cX1_takeOut 0 = .ok (.iconst 0, 1) := by decide +kernel
theorem dX1_takeOut_1 : decode cX1_takeOut 1 = .ok (.istore 4, 2) := by decide +kernel
theorem dX1_takeOut_3 : decode cX1_takeOut 3 = .ok (.iload 4, 2) := by decide +kernel
theorem dX1_takeOut_5 : decode cX1_takeOut 5 = .ok (.iconst 4, 1) := by decide +kernel
theorem dX1_takeOut_6 : decode cX1_takeOut 6 = .ok (.if_icmp .ge 19, 3) := by decide +kernel
theorem dX1_takeOut_9 : decode cX1_takeOut 9 = .ok (.aload_n 0, 1) := by decide +kernel
theorem dX1_takeOut_10 : decode cX1_takeOut 10 = .ok (.iload_n 1, 1) := by decide +kernel
theorem dX1_takeOut_11 : decode cX1_takeOut 11 = .ok (.iload_n 2, 1) := by decide +kernel
theorem dX1_takeOut_12 : decode cX1_takeOut 12 = .ok (.iload_n 3, 1) := by decide +kernel
theorem dX1_takeOut_13 : decode cX1_takeOut 13 = .ok (.invokevirtual 165, 3) := by decide +kernel
theorem dX1_takeOut_16 : decode cX1_takeOut 16 = .ok (.ifCond .eq 9, 3) := by decide +kernel
theorem dX1_takeOut_19 : decode cX1_takeOut 19 = .ok (.iinc 4 1, 3) := by decide +kernel
theorem dX1_takeOut_22 : decode cX1_takeOut 22 = .ok (.goto (-19), 3) := by decide +kernel
theorem dX1_takeOut_25 : decode cX1_takeOut 25 = .ok (.iload 4, 2) := by decide +kernel
theorem dX1_takeOut_27 : decode cX1_takeOut 27 = .ok (.ifCond .le 12, 3) := by decide +kernel
theorem dX1_takeOut_30 : decode cX1_takeOut 30 = .ok (.aload_n 0, 1) := by decide +kernel
theorem dX1_takeOut_31 : decode cX1_takeOut 31 = .ok (.iload_n 1, 1) := by decide +kernel
theorem dX1_takeOut_32 : decode cX1_takeOut 32 = .ok (.iload_n 2, 1) := by decide +kernel
theorem dX1_takeOut_33 : decode cX1_takeOut 33 = .ok (.iload_n 3, 1) := by decide +kernel
theorem dX1_takeOut_34 : decode cX1_takeOut 34 = .ok (.iload 4, 2) := by decide +kernel
theorem dX1_takeOut_36 : decode cX1_takeOut 36 = .ok (.invokevirtual 169, 3) := by decide +kernel
theorem dX1_takeOut_39 : decode cX1_takeOut 39 = .ok (.return_, 1) := by decide +kernel
theorem dX1_divideRest_0 : decode cX1_divideRest 0 = .ok (.iload_n 1, 1) := by decide +kernel
theorem dX1_divideRest_1 : decode cX1_divideRest 1 = .ok (.ifCond .ne 7, 3) := by decide +kernel
theorem dX1_divideRest_4 : decode cX1_divideRest 4 = .ok (.iconst 1, 1) := by decide +kernel
theorem dX1_divideRest_5 : decode cX1_divideRest 5 = .ok (.goto 4, 3) := by decide +kernel
theorem dX1_divideRest_8 : decode cX1_divideRest 8 = .ok (.iconst 2, 1) := by decide +kernel
theorem dX1_divideRest_9 : decode cX1_divideRest 9 = .ok (.istore 4, 2) := by decide +kernel
theorem dX1_divideRest_11 : decode cX1_divideRest 11 = .ok (.iload_n 1, 1) := by decide +kernel
theorem dX1_divideRest_12 : decode cX1_divideRest 12 = .ok (.ifCond .ne 7, 3) := by decide +kernel
theorem dX1_divideRest_15 : decode cX1_divideRest 15 = .ok (.iload_n 2, 1) := by decide +kernel
theorem dX1_divideRest_16 : decode cX1_divideRest 16 = .ok (.goto 4, 3) := by decide +kernel
theorem dX1_divideRest_19 : decode cX1_divideRest 19 = .ok (.iload_n 1, 1) := by decide +kernel
theorem dX1_divideRest_20 : decode cX1_divideRest 20 = .ok (.istore 5, 2) := by decide +kernel
theorem dX1_divideRest_22 : decode cX1_divideRest 22 = .ok (.aload_n 0, 1) := by decide +kernel
theorem dX1_divideRest_23 : decode cX1_divideRest 23 = .ok (.getfield 13, 3) := by decide +kernel
theorem dX1_divideRest_26 : decode cX1_divideRest 26 = .ok (.invokestatic 47, 3) := by decide +kernel
theorem dX1_divideRest_29 : decode cX1_divideRest 29 = .ok (.istore 6, 2) := by decide +kernel
theorem dX1_divideRest_31 : decode cX1_divideRest 31 = .ok (.iload 5, 2) := by decide +kernel
theorem dX1_divideRest_33 : decode cX1_divideRest 33 = .ok (.ifCond .eq 10, 3) := by decide +kernel
theorem dX1_divideRest_36 : decode cX1_divideRest 36 = .ok (.iload 6, 2) := by decide +kernel
theorem dX1_divideRest_38 : decode cX1_divideRest 38 = .ok (.iload 4, 2) := by decide +kernel
theorem dX1_divideRest_40 : decode cX1_divideRest 40 = .ok (.if_icmp .ge 5, 3) := by decide +kernel
theorem dX1_divideRest_43 : decode cX1_divideRest 43 = .ok (.iconst 0, 1) := by decide +kernel
theorem dX1_divideRest_44 : decode cX1_divideRest 44 = .ok (.ireturn, 1) := by decide +kernel
theorem dX1_divideRest_45 : decode cX1_divideRest 45 = .ok (.aload_n 0, 1) := by decide +kernel
theorem dX1_divideRest_46 : decode cX1_divideRest 46 = .ok (.getfield 13, 3) := by decide +kernel
theorem dX1_divideRest_49 : decode cX1_divideRest 49 = .ok (.iconst 0, 1) := by decide +kernel
theorem dX1_divideRest_50 : decode cX1_divideRest 50 = .ok (.aload_n 0, 1) := by decide +kernel
theorem dX1_divideRest_51 : decode cX1_divideRest 51 = .ok (.getfield 16, 3) := by decide +kernel
theorem dX1_divideRest_54 : decode cX1_divideRest 54 = .ok (.iconst 0, 1) := by decide +kernel
theorem dX1_divideRest_55 : decode cX1_divideRest 55 = .ok (.aload_n 0, 1) := by decide +kernel
theorem dX1_divideRest_56 : decode cX1_divideRest 56 = .ok (.getfield 16, 3) := by decide +kernel
theorem dX1_divideRest_59 : decode cX1_divideRest 59 = .ok (.arraylength, 1) := by decide +kernel
theorem dX1_divideRest_60 : decode cX1_divideRest 60 = .ok (.invokestatic 55, 3) := by decide +kernel
theorem dX1_divideRest_63 : decode cX1_divideRest 63 = .ok (.iload 6, 2) := by decide +kernel
theorem dX1_divideRest_65 : decode cX1_divideRest 65 = .ok (.istore 7, 2) := by decide +kernel
theorem dX1_divideRest_67 : decode cX1_divideRest 67 = .ok (.iload 7, 2) := by decide +kernel
theorem dX1_divideRest_69 : decode cX1_divideRest 69 = .ok (.iload 4, 2) := by decide +kernel
theorem dX1_divideRest_71 : decode cX1_divideRest 71 = .ok (.if_icmp .lt 85, 3) := by decide +kernel
theorem dX1_divideRest_74 : decode cX1_divideRest 74 = .ok (.aload_n 0, 1) := by decide +kernel
theorem dX1_divideRest_75 : decode cX1_divideRest 75 = .ok (.getfield 16, 3) := by decide +kernel
theorem dX1_divideRest_78 : decode cX1_divideRest 78 = .ok (.iload 7, 2) := by decide +kernel
theorem dX1_divideRest_80 : decode cX1_divideRest 80 = .ok (.iaload, 1) := by decide +kernel
theorem dX1_divideRest_81 : decode cX1_divideRest 81 = .ok (.iload 5, 2) := by decide +kernel
theorem dX1_divideRest_83 : decode cX1_divideRest 83 = .ok (.irem, 1) := by decide +kernel
theorem dX1_divideRest_84 : decode cX1_divideRest 84 = .ok (.ifCond .eq 5, 3) := by decide +kernel
theorem dX1_divideRest_87 : decode cX1_divideRest 87 = .ok (.iconst 0, 1) := by decide +kernel
theorem dX1_divideRest_88 : decode cX1_divideRest 88 = .ok (.ireturn, 1) := by decide +kernel
theorem dX1_divideRest_89 : decode cX1_divideRest 89 = .ok (.aload_n 0, 1) := by decide +kernel
theorem dX1_divideRest_90 : decode cX1_divideRest 90 = .ok (.getfield 16, 3) := by decide +kernel
theorem dX1_divideRest_93 : decode cX1_divideRest 93 = .ok (.iload 7, 2) := by decide +kernel
theorem dX1_divideRest_95 : decode cX1_divideRest 95 = .ok (.dup2, 1) := by decide +kernel
theorem dX1_divideRest_96 : decode cX1_divideRest 96 = .ok (.iaload, 1) := by decide +kernel
theorem dX1_divideRest_97 : decode cX1_divideRest 97 = .ok (.iload 5, 2) := by decide +kernel
theorem dX1_divideRest_99 : decode cX1_divideRest 99 = .ok (.idiv, 1) := by decide +kernel
theorem dX1_divideRest_100 : decode cX1_divideRest 100 = .ok (.iastore, 1) := by decide +kernel
theorem dX1_divideRest_101 : decode cX1_divideRest 101 = .ok (.aload_n 0, 1) := by decide +kernel
theorem dX1_divideRest_102 : decode cX1_divideRest 102 = .ok (.getfield 16, 3) := by decide +kernel
theorem dX1_divideRest_105 : decode cX1_divideRest 105 = .ok (.iload 7, 2) := by decide +kernel
theorem dX1_divideRest_107 : decode cX1_divideRest 107 = .ok (.iload 4, 2) := by decide +kernel
theorem dX1_divideRest_109 : decode cX1_divideRest 109 = .ok (.isub, 1) := by decide +kernel
theorem dX1_divideRest_110 : decode cX1_divideRest 110 = .ok (.dup2, 1) := by decide +kernel
theorem dX1_divideRest_111 : decode cX1_divideRest 111 = .ok (.iaload, 1) := by decide +kernel
theorem dX1_divideRest_112 : decode cX1_divideRest 112 = .ok (.aload_n 0, 1) := by decide +kernel
theorem dX1_divideRest_113 : decode cX1_divideRest 113 = .ok (.getfield 16, 3) := by decide +kernel
theorem dX1_divideRest_116 : decode cX1_divideRest 116 = .ok (.iload 7, 2) := by decide +kernel
theorem dX1_divideRest_118 : decode cX1_divideRest 118 = .ok (.iaload, 1) := by decide +kernel
theorem dX1_divideRest_119 : decode cX1_divideRest 119 = .ok (.iload_n 3, 1) := by decide +kernel
theorem dX1_divideRest_120 : decode cX1_divideRest 120 = .ok (.imul, 1) := by decide +kernel
theorem dX1_divideRest_121 : decode cX1_divideRest 121 = .ok (.isub, 1) := by decide +kernel
theorem dX1_divideRest_122 : decode cX1_divideRest 122 = .ok (.iastore, 1) := by decide +kernel
theorem dX1_divideRest_123 : decode cX1_divideRest 123 = .ok (.iload 4, 2) := by decide +kernel
theorem dX1_divideRest_125 : decode cX1_divideRest 125 = .ok (.iconst 2, 1) := by decide +kernel
theorem dX1_divideRest_126 : decode cX1_divideRest 126 = .ok (.if_icmp .ne 24, 3) := by decide +kernel
theorem dX1_divideRest_129 : decode cX1_divideRest 129 = .ok (.aload_n 0, 1) := by decide +kernel
theorem dX1_divideRest_130 : decode cX1_divideRest 130 = .ok (.getfield 16, 3) := by decide +kernel
theorem dX1_divideRest_133 : decode cX1_divideRest 133 = .ok (.iload 7, 2) := by decide +kernel
theorem dX1_divideRest_135 : decode cX1_divideRest 135 = .ok (.iconst 1, 1) := by decide +kernel
theorem dX1_divideRest_136 : decode cX1_divideRest 136 = .ok (.isub, 1) := by decide +kernel
theorem dX1_divideRest_137 : decode cX1_divideRest 137 = .ok (.dup2, 1) := by decide +kernel
theorem dX1_divideRest_138 : decode cX1_divideRest 138 = .ok (.iaload, 1) := by decide +kernel
theorem dX1_divideRest_139 : decode cX1_divideRest 139 = .ok (.aload_n 0, 1) := by decide +kernel
theorem dX1_divideRest_140 : decode cX1_divideRest 140 = .ok (.getfield 16, 3) := by decide +kernel
theorem dX1_divideRest_143 : decode cX1_divideRest 143 = .ok (.iload 7, 2) := by decide +kernel
theorem dX1_divideRest_145 : decode cX1_divideRest 145 = .ok (.iaload, 1) := by decide +kernel
theorem dX1_divideRest_146 : decode cX1_divideRest 146 = .ok (.iload_n 2, 1) := by decide +kernel
theorem dX1_divideRest_147 : decode cX1_divideRest 147 = .ok (.imul, 1) := by decide +kernel
theorem dX1_divideRest_148 : decode cX1_divideRest 148 = .ok (.isub, 1) := by decide +kernel
theorem dX1_divideRest_149 : decode cX1_divideRest 149 = .ok (.iastore, 1) := by decide +kernel
theorem dX1_divideRest_150 : decode cX1_divideRest 150 = .ok (.iinc 7 (-1), 3) := by decide +kernel
theorem dX1_divideRest_153 : decode cX1_divideRest 153 = .ok (.goto (-86), 3) := by decide +kernel
theorem dX1_divideRest_156 : decode cX1_divideRest 156 = .ok (.aload_n 0, 1) := by decide +kernel
theorem dX1_divideRest_157 : decode cX1_divideRest 157 = .ok (.getfield 16, 3) := by decide +kernel
theorem dX1_divideRest_160 : decode cX1_divideRest 160 = .ok (.iconst 0, 1) := by decide +kernel
theorem dX1_divideRest_161 : decode cX1_divideRest 161 = .ok (.iaload, 1) := by decide +kernel
theorem dX1_divideRest_162 : decode cX1_divideRest 162 = .ok (.ifCond .ne 15, 3) := by decide +kernel
theorem dX1_divideRest_165 : decode cX1_divideRest 165 = .ok (.aload_n 0, 1) := by decide +kernel
theorem dX1_divideRest_166 : decode cX1_divideRest 166 = .ok (.getfield 16, 3) := by decide +kernel
theorem dX1_divideRest_169 : decode cX1_divideRest 169 = .ok (.iload 4, 2) := by decide +kernel
theorem dX1_divideRest_171 : decode cX1_divideRest 171 = .ok (.iconst 1, 1) := by decide +kernel
theorem dX1_divideRest_172 : decode cX1_divideRest 172 = .ok (.isub, 1) := by decide +kernel
theorem dX1_divideRest_173 : decode cX1_divideRest 173 = .ok (.iaload, 1) := by decide +kernel
theorem dX1_divideRest_174 : decode cX1_divideRest 174 = .ok (.ifCond .eq 5, 3) := by decide +kernel
theorem dX1_divideRest_177 : decode cX1_divideRest 177 = .ok (.iconst 0, 1) := by decide +kernel
theorem dX1_divideRest_178 : decode cX1_divideRest 178 = .ok (.ireturn, 1) := by decide +kernel
theorem dX1_divideRest_179 : decode cX1_divideRest 179 = .ok (.iconst 0, 1) := by decide +kernel
theorem dX1_divideRest_180 : decode cX1_divideRest 180 = .ok (.istore 7, 2) := by decide +kernel
theorem dX1_divideRest_182 : decode cX1_divideRest 182 = .ok (.iload 7, 2) := by decide +kernel
theorem dX1_divideRest_184 : decode cX1_divideRest 184 = .ok (.aload_n 0, 1) := by decide +kernel
theorem dX1_divideRest_185 : decode cX1_divideRest 185 = .ok (.getfield 13, 3) := by decide +kernel
theorem dX1_divideRest_188 : decode cX1_divideRest 188 = .ok (.arraylength, 1) := by decide +kernel
theorem dX1_divideRest_189 : decode cX1_divideRest 189 = .ok (.if_icmp .ge 40, 3) := by decide +kernel
theorem dX1_divideRest_192 : decode cX1_divideRest 192 = .ok (.aload_n 0, 1) := by decide +kernel
theorem dX1_divideRest_193 : decode cX1_divideRest 193 = .ok (.getfield 13, 3) := by decide +kernel
theorem dX1_divideRest_196 : decode cX1_divideRest 196 = .ok (.iload 7, 2) := by decide +kernel
theorem dX1_divideRest_198 : decode cX1_divideRest 198 = .ok (.iload 7, 2) := by decide +kernel
theorem dX1_divideRest_200 : decode cX1_divideRest 200 = .ok (.iload 4, 2) := by decide +kernel
theorem dX1_divideRest_202 : decode cX1_divideRest 202 = .ok (.iadd, 1) := by decide +kernel
theorem dX1_divideRest_203 : decode cX1_divideRest 203 = .ok (.iload 6, 2) := by decide +kernel
theorem dX1_divideRest_205 : decode cX1_divideRest 205 = .ok (.if_icmp .gt 16, 3) := by decide +kernel
theorem dX1_divideRest_208 : decode cX1_divideRest 208 = .ok (.aload_n 0, 1) := by decide +kernel
theorem dX1_divideRest_209 : decode cX1_divideRest 209 = .ok (.getfield 16, 3) := by decide +kernel
theorem dX1_divideRest_212 : decode cX1_divideRest 212 = .ok (.iload 7, 2) := by decide +kernel
theorem dX1_divideRest_214 : decode cX1_divideRest 214 = .ok (.iload 4, 2) := by decide +kernel
theorem dX1_divideRest_216 : decode cX1_divideRest 216 = .ok (.iadd, 1) := by decide +kernel
theorem dX1_divideRest_217 : decode cX1_divideRest 217 = .ok (.iaload, 1) := by decide +kernel
theorem dX1_divideRest_218 : decode cX1_divideRest 218 = .ok (.goto 4, 3) := by decide +kernel
theorem dX1_divideRest_221 : decode cX1_divideRest 221 = .ok (.iconst 0, 1) := by decide +kernel
theorem dX1_divideRest_222 : decode cX1_divideRest 222 = .ok (.iastore, 1) := by decide +kernel
theorem dX1_divideRest_223 : decode cX1_divideRest 223 = .ok (.iinc 7 1, 3) := by decide +kernel
theorem dX1_divideRest_226 : decode cX1_divideRest 226 = .ok (.goto (-44), 3) := by decide +kernel
theorem dX1_divideRest_229 : decode cX1_divideRest 229 = .ok (.iconst 1, 1) := by decide +kernel
theorem dX1_divideRest_230 : decode cX1_divideRest 230 = .ok (.ireturn, 1) := by decide +kernel
theorem dX1_addFactor_0 : decode cX1_addFactor 0 = .ok (.aload_n 0, 1) := by decide +kernel
theorem dX1_addFactor_1 : decode cX1_addFactor 1 = .ok (.getfield 64, 3) := by decide +kernel
theorem dX1_addFactor_4 : decode cX1_addFactor 4 = .ok (.aload_n 0, 1) := by decide +kernel
theorem dX1_addFactor_5 : decode cX1_addFactor 5 = .ok (.getfield 21, 3) := by decide +kernel
theorem dX1_addFactor_8 : decode cX1_addFactor 8 = .ok (.arraylength, 1) := by decide +kernel
theorem dX1_addFactor_9 : decode cX1_addFactor 9 = .ok (.if_icmp .lt 4, 3) := by decide +kernel
theorem dX1_addFactor_12 : decode cX1_addFactor 12 = .ok (.return_, 1) := by decide +kernel
theorem dX1_addFactor_13 : decode cX1_addFactor 13 = .ok (.aload_n 0, 1) := by decide +kernel
theorem dX1_addFactor_14 : decode cX1_addFactor 14 = .ok (.getfield 21, 3) := by decide +kernel
theorem dX1_addFactor_17 : decode cX1_addFactor 17 = .ok (.aload_n 0, 1) := by decide +kernel
theorem dX1_addFactor_18 : decode cX1_addFactor 18 = .ok (.getfield 64, 3) := by decide +kernel
theorem dX1_addFactor_21 : decode cX1_addFactor 21 = .ok (.aaload, 1) := by decide +kernel
theorem dX1_addFactor_22 : decode cX1_addFactor 22 = .ok (.astore 5, 2) := by decide +kernel
theorem dX1_addFactor_24 : decode cX1_addFactor 24 = .ok (.aload 5, 2) := by decide +kernel
theorem dX1_addFactor_26 : decode cX1_addFactor 26 = .ok (.iload_n 1, 1) := by decide +kernel
theorem dX1_addFactor_27 : decode cX1_addFactor 27 = .ok (.iload_n 2, 1) := by decide +kernel
theorem dX1_addFactor_28 : decode cX1_addFactor 28 = .ok (.iload_n 3, 1) := by decide +kernel
theorem dX1_addFactor_29 : decode cX1_addFactor 29 = .ok (.iload 4, 2) := by decide +kernel
theorem dX1_addFactor_31 : decode cX1_addFactor 31 = .ok (.invokevirtual 173, 3) := by decide +kernel
theorem dX1_addFactor_34 : decode cX1_addFactor 34 = .ok (.aload_n 0, 1) := by decide +kernel
theorem dX1_addFactor_35 : decode cX1_addFactor 35 = .ok (.getfield 64, 3) := by decide +kernel
theorem dX1_addFactor_38 : decode cX1_addFactor 38 = .ok (.istore 6, 2) := by decide +kernel
theorem dX1_addFactor_40 : decode cX1_addFactor 40 = .ok (.iload 6, 2) := by decide +kernel
theorem dX1_addFactor_42 : decode cX1_addFactor 42 = .ok (.ifCond .le 42, 3) := by decide +kernel
theorem dX1_addFactor_45 : decode cX1_addFactor 45 = .ok (.aload 5, 2) := by decide +kernel
theorem dX1_addFactor_47 : decode cX1_addFactor 47 = .ok (.aload_n 0, 1) := by decide +kernel
theorem dX1_addFactor_48 : decode cX1_addFactor 48 = .ok (.getfield 21, 3) := by decide +kernel
theorem dX1_addFactor_51 : decode cX1_addFactor 51 = .ok (.iload 6, 2) := by decide +kernel
theorem dX1_addFactor_53 : decode cX1_addFactor 53 = .ok (.iconst 1, 1) := by decide +kernel
theorem dX1_addFactor_54 : decode cX1_addFactor 54 = .ok (.isub, 1) := by decide +kernel
theorem dX1_addFactor_55 : decode cX1_addFactor 55 = .ok (.aaload, 1) := by decide +kernel
theorem dX1_addFactor_56 : decode cX1_addFactor 56 = .ok (.invokevirtual 176, 3) := by decide +kernel
theorem dX1_addFactor_59 : decode cX1_addFactor 59 = .ok (.ifCond .eq 25, 3) := by decide +kernel
theorem dX1_addFactor_62 : decode cX1_addFactor 62 = .ok (.aload_n 0, 1) := by decide +kernel
theorem dX1_addFactor_63 : decode cX1_addFactor 63 = .ok (.getfield 21, 3) := by decide +kernel
theorem dX1_addFactor_66 : decode cX1_addFactor 66 = .ok (.iload 6, 2) := by decide +kernel
theorem dX1_addFactor_68 : decode cX1_addFactor 68 = .ok (.aload_n 0, 1) := by decide +kernel
theorem dX1_addFactor_69 : decode cX1_addFactor 69 = .ok (.getfield 21, 3) := by decide +kernel
theorem dX1_addFactor_72 : decode cX1_addFactor 72 = .ok (.iload 6, 2) := by decide +kernel
theorem dX1_addFactor_74 : decode cX1_addFactor 74 = .ok (.iconst 1, 1) := by decide +kernel
theorem dX1_addFactor_75 : decode cX1_addFactor 75 = .ok (.isub, 1) := by decide +kernel
theorem dX1_addFactor_76 : decode cX1_addFactor 76 = .ok (.aaload, 1) := by decide +kernel
theorem dX1_addFactor_77 : decode cX1_addFactor 77 = .ok (.aastore, 1) := by decide +kernel
theorem dX1_addFactor_78 : decode cX1_addFactor 78 = .ok (.iinc 6 (-1), 3) := by decide +kernel
theorem dX1_addFactor_81 : decode cX1_addFactor 81 = .ok (.goto (-41), 3) := by decide +kernel
theorem dX1_addFactor_84 : decode cX1_addFactor 84 = .ok (.aload_n 0, 1) := by decide +kernel
theorem dX1_addFactor_85 : decode cX1_addFactor 85 = .ok (.getfield 21, 3) := by decide +kernel
theorem dX1_addFactor_88 : decode cX1_addFactor 88 = .ok (.iload 6, 2) := by decide +kernel
theorem dX1_addFactor_90 : decode cX1_addFactor 90 = .ok (.aload 5, 2) := by decide +kernel
theorem dX1_addFactor_92 : decode cX1_addFactor 92 = .ok (.aastore, 1) := by decide +kernel
theorem dX1_addFactor_93 : decode cX1_addFactor 93 = .ok (.aload_n 0, 1) := by decide +kernel
theorem dX1_addFactor_94 : decode cX1_addFactor 94 = .ok (.dup, 1) := by decide +kernel
theorem dX1_addFactor_95 : decode cX1_addFactor 95 = .ok (.getfield 64, 3) := by decide +kernel
theorem dX1_addFactor_98 : decode cX1_addFactor 98 = .ok (.iconst 1, 1) := by decide +kernel
theorem dX1_addFactor_99 : decode cX1_addFactor 99 = .ok (.iadd, 1) := by decide +kernel
theorem dX1_addFactor_100 : decode cX1_addFactor 100 = .ok (.putfield 64, 3) := by decide +kernel
theorem dX1_addFactor_103 : decode cX1_addFactor 103 = .ok (.return_, 1) := by decide +kernel
theorem dX1_degreeOf_0 : decode cX1_degreeOf 0 = .ok (.aload_n 0, 1) := by decide +kernel
theorem dX1_degreeOf_1 : decode cX1_degreeOf 1 = .ok (.arraylength, 1) := by decide +kernel
theorem dX1_degreeOf_2 : decode cX1_degreeOf 2 = .ok (.iconst 1, 1) := by decide +kernel
theorem dX1_degreeOf_3 : decode cX1_degreeOf 3 = .ok (.isub, 1) := by decide +kernel
theorem dX1_degreeOf_4 : decode cX1_degreeOf 4 = .ok (.istore_n 1, 1) := by decide +kernel
theorem dX1_degreeOf_5 : decode cX1_degreeOf 5 = .ok (.iload_n 1, 1) := by decide +kernel
theorem dX1_degreeOf_6 : decode cX1_degreeOf 6 = .ok (.ifCond .lt 15, 3) := by decide +kernel
theorem dX1_degreeOf_9 : decode cX1_degreeOf 9 = .ok (.aload_n 0, 1) := by decide +kernel
theorem dX1_degreeOf_10 : decode cX1_degreeOf 10 = .ok (.iload_n 1, 1) := by decide +kernel
theorem dX1_degreeOf_11 : decode cX1_degreeOf 11 = .ok (.iaload, 1) := by decide +kernel
theorem dX1_degreeOf_12 : decode cX1_degreeOf 12 = .ok (.ifCond .ne 9, 3) := by decide +kernel
theorem dX1_degreeOf_15 : decode cX1_degreeOf 15 = .ok (.iinc 1 (-1), 3) := by decide +kernel
theorem dX1_degreeOf_18 : decode cX1_degreeOf 18 = .ok (.goto (-13), 3) := by decide +kernel
theorem dX1_degreeOf_21 : decode cX1_degreeOf 21 = .ok (.iload_n 1, 1) := by decide +kernel
theorem dX1_degreeOf_22 : decode cX1_degreeOf 22 = .ok (.ireturn, 1) := by decide +kernel
theorem dX1_commonDivisor_0 : decode cX1_commonDivisor 0 = .ok (.iload_n 0, 1) := by decide +kernel
theorem dX1_commonDivisor_1 : decode cX1_commonDivisor 1 = .ok (.invokestatic 180, 3) := by decide +kernel
theorem dX1_commonDivisor_4 : decode cX1_commonDivisor 4 = .ok (.istore_n 2, 1) := by decide +kernel
theorem dX1_commonDivisor_5 : decode cX1_commonDivisor 5 = .ok (.iload_n 1, 1) := by decide +kernel
theorem dX1_commonDivisor_6 : decode cX1_commonDivisor 6 = .ok (.invokestatic 180, 3) := by decide +kernel
theorem dX1_commonDivisor_9 : decode cX1_commonDivisor 9 = .ok (.istore_n 3, 1) := by decide +kernel
theorem dX1_commonDivisor_10 : decode cX1_commonDivisor 10 = .ok (.iconst 0, 1) := by decide +kernel
theorem dX1_commonDivisor_11 : decode cX1_commonDivisor 11 = .ok (.istore 4, 2) := by decide +kernel
theorem dX1_commonDivisor_13 : decode cX1_commonDivisor 13 = .ok (.iload 4, 2) := by decide +kernel
theorem dX1_commonDivisor_15 : decode cX1_commonDivisor 15 = .ok (.bipush 100, 2) := by decide +kernel
theorem dX1_commonDivisor_17 : decode cX1_commonDivisor 17 = .ok (.if_icmp .ge 23, 3) := by decide +kernel
theorem dX1_commonDivisor_20 : decode cX1_commonDivisor 20 = .ok (.iload_n 3, 1) := by decide +kernel
theorem dX1_commonDivisor_21 : decode cX1_commonDivisor 21 = .ok (.ifCond .eq 19, 3) := by decide +kernel
theorem dX1_commonDivisor_24 : decode cX1_commonDivisor 24 = .ok (.iload_n 2, 1) := by decide +kernel
theorem dX1_commonDivisor_25 : decode cX1_commonDivisor 25 = .ok (.iload_n 3, 1) := by decide +kernel
theorem dX1_commonDivisor_26 : decode cX1_commonDivisor 26 = .ok (.irem, 1) := by decide +kernel
theorem dX1_commonDivisor_27 : decode cX1_commonDivisor 27 = .ok (.istore 5, 2) := by decide +kernel
theorem dX1_commonDivisor_29 : decode cX1_commonDivisor 29 = .ok (.iload_n 3, 1) := by decide +kernel
theorem dX1_commonDivisor_30 : decode cX1_commonDivisor 30 = .ok (.istore_n 2, 1) := by decide +kernel
theorem dX1_commonDivisor_31 : decode cX1_commonDivisor 31 = .ok (.iload 5, 2) := by decide +kernel
theorem dX1_commonDivisor_33 : decode cX1_commonDivisor 33 = .ok (.istore_n 3, 1) := by decide +kernel
theorem dX1_commonDivisor_34 : decode cX1_commonDivisor 34 = .ok (.iinc 4 1, 3) := by decide +kernel
theorem dX1_commonDivisor_37 : decode cX1_commonDivisor 37 = .ok (.goto (-24), 3) := by decide +kernel
theorem dX1_commonDivisor_40 : decode cX1_commonDivisor 40 = .ok (.iload_n 2, 1) := by decide +kernel
theorem dX1_commonDivisor_41 : decode cX1_commonDivisor 41 = .ok (.ireturn, 1) := by decide +kernel
theorem dX1_greatestSquareDividing_0 : decode cX1_greatestSquareDividing 0 = .ok (.iload_n 0, 1) := by decide +kernel
theorem dX1_greatestSquareDividing_1 : decode cX1_greatestSquareDividing 1 = .ok (.ifCond .ge 8, 3) := by decide +kernel
theorem dX1_greatestSquareDividing_4 : decode cX1_greatestSquareDividing 4 = .ok (.iload_n 0, 1) := by decide +kernel
theorem dX1_greatestSquareDividing_5 : decode cX1_greatestSquareDividing 5 = .ok (.ineg, 1) := by decide +kernel
theorem dX1_greatestSquareDividing_6 : decode cX1_greatestSquareDividing 6 = .ok (.goto 4, 3) := by decide +kernel
theorem dX1_greatestSquareDividing_9 : decode cX1_greatestSquareDividing 9 = .ok (.iload_n 0, 1) := by decide +kernel
theorem dX1_greatestSquareDividing_10 : decode cX1_greatestSquareDividing 10 = .ok (.istore_n 1, 1) := by decide +kernel
theorem dX1_greatestSquareDividing_11 : decode cX1_greatestSquareDividing 11 = .ok (.iconst 0, 1) := by decide +kernel
theorem dX1_greatestSquareDividing_12 : decode cX1_greatestSquareDividing 12 = .ok (.istore_n 2, 1) := by decide +kernel
theorem dX1_greatestSquareDividing_13 : decode cX1_greatestSquareDividing 13 = .ok (.iconst 1, 1) := by decide +kernel
theorem dX1_greatestSquareDividing_14 : decode cX1_greatestSquareDividing 14 = .ok (.istore_n 3, 1) := by decide +kernel
theorem dX1_greatestSquareDividing_15 : decode cX1_greatestSquareDividing 15 = .ok (.iload_n 3, 1) := by decide +kernel
theorem dX1_greatestSquareDividing_16 : decode cX1_greatestSquareDividing 16 = .ok (.sipush 1000, 3) := by decide +kernel
theorem dX1_greatestSquareDividing_19 : decode cX1_greatestSquareDividing 19 = .ok (.if_icmp .gt 26, 3) := by decide +kernel
theorem dX1_greatestSquareDividing_22 : decode cX1_greatestSquareDividing 22 = .ok (.iload_n 3, 1) := by decide +kernel
theorem dX1_greatestSquareDividing_23 : decode cX1_greatestSquareDividing 23 = .ok (.iload_n 3, 1) := by decide +kernel
theorem dX1_greatestSquareDividing_24 : decode cX1_greatestSquareDividing 24 = .ok (.imul, 1) := by decide +kernel
theorem dX1_greatestSquareDividing_25 : decode cX1_greatestSquareDividing 25 = .ok (.iload_n 1, 1) := by decide +kernel
theorem dX1_greatestSquareDividing_26 : decode cX1_greatestSquareDividing 26 = .ok (.if_icmp .gt 19, 3) := by decide +kernel
theorem dX1_greatestSquareDividing_29 : decode cX1_greatestSquareDividing 29 = .ok (.iload_n 1, 1) := by decide +kernel
theorem dX1_greatestSquareDividing_30 : decode cX1_greatestSquareDividing 30 = .ok (.iload_n 3, 1) := by decide +kernel
theorem dX1_greatestSquareDividing_31 : decode cX1_greatestSquareDividing 31 = .ok (.iload_n 3, 1) := by decide +kernel
theorem dX1_greatestSquareDividing_32 : decode cX1_greatestSquareDividing 32 = .ok (.imul, 1) := by decide +kernel
theorem dX1_greatestSquareDividing_33 : decode cX1_greatestSquareDividing 33 = .ok (.irem, 1) := by decide +kernel
theorem dX1_greatestSquareDividing_34 : decode cX1_greatestSquareDividing 34 = .ok (.ifCond .ne 5, 3) := by decide +kernel
theorem dX1_greatestSquareDividing_37 : decode cX1_greatestSquareDividing 37 = .ok (.iload_n 3, 1) := by decide +kernel
theorem dX1_greatestSquareDividing_38 : decode cX1_greatestSquareDividing 38 = .ok (.istore_n 2, 1) := by decide +kernel
theorem dX1_greatestSquareDividing_39 : decode cX1_greatestSquareDividing 39 = .ok (.iinc 3 1, 3) := by decide +kernel
theorem dX1_greatestSquareDividing_42 : decode cX1_greatestSquareDividing 42 = .ok (.goto (-27), 3) := by decide +kernel
theorem dX1_greatestSquareDividing_45 : decode cX1_greatestSquareDividing 45 = .ok (.iload_n 2, 1) := by decide +kernel
theorem dX1_greatestSquareDividing_46 : decode cX1_greatestSquareDividing 46 = .ok (.ireturn, 1) := by decide +kernel
theorem dX1_wholeRoot_0 : decode cX1_wholeRoot 0 = .ok (.iconst 0, 1) := by decide +kernel
theorem dX1_wholeRoot_1 : decode cX1_wholeRoot 1 = .ok (.istore_n 1, 1) := by decide +kernel
theorem dX1_wholeRoot_2 : decode cX1_wholeRoot 2 = .ok (.iload_n 1, 1) := by decide +kernel
theorem dX1_wholeRoot_3 : decode cX1_wholeRoot 3 = .ok (.sipush 1000, 3) := by decide +kernel
theorem dX1_wholeRoot_6 : decode cX1_wholeRoot 6 = .ok (.if_icmp .ge 20, 3) := by decide +kernel
theorem dX1_wholeRoot_9 : decode cX1_wholeRoot 9 = .ok (.iload_n 1, 1) := by decide +kernel
theorem dX1_wholeRoot_10 : decode cX1_wholeRoot 10 = .ok (.iconst 1, 1) := by decide +kernel
theorem dX1_wholeRoot_11 : decode cX1_wholeRoot 11 = .ok (.iadd, 1) := by decide +kernel
theorem dX1_wholeRoot_12 : decode cX1_wholeRoot 12 = .ok (.iload_n 1, 1) := by decide +kernel
theorem dX1_wholeRoot_13 : decode cX1_wholeRoot 13 = .ok (.iconst 1, 1) := by decide +kernel
theorem dX1_wholeRoot_14 : decode cX1_wholeRoot 14 = .ok (.iadd, 1) := by decide +kernel
theorem dX1_wholeRoot_15 : decode cX1_wholeRoot 15 = .ok (.imul, 1) := by decide +kernel
theorem dX1_wholeRoot_16 : decode cX1_wholeRoot 16 = .ok (.iload_n 0, 1) := by decide +kernel
theorem dX1_wholeRoot_17 : decode cX1_wholeRoot 17 = .ok (.if_icmp .gt 9, 3) := by decide +kernel
theorem dX1_wholeRoot_20 : decode cX1_wholeRoot 20 = .ok (.iinc 1 1, 3) := by decide +kernel
theorem dX1_wholeRoot_23 : decode cX1_wholeRoot 23 = .ok (.goto (-21), 3) := by decide +kernel
theorem dX1_wholeRoot_26 : decode cX1_wholeRoot 26 = .ok (.iload_n 1, 1) := by decide +kernel
theorem dX1_wholeRoot_27 : decode cX1_wholeRoot 27 = .ok (.ireturn, 1) := by decide +kernel
theorem dX1_signOfSum_0 : decode cX1_signOfSum 0 = .ok (.lload_n 2, 1) := by decide +kernel
theorem dX1_signOfSum_1 : decode cX1_signOfSum 1 = .ok (.lload 4, 2) := by decide +kernel
theorem dX1_signOfSum_3 : decode cX1_signOfSum 3 = .ok (.lload 6, 2) := by decide +kernel
theorem dX1_signOfSum_5 : decode cX1_signOfSum 5 = .ok (.lload 8, 2) := by decide +kernel
theorem dX1_signOfSum_7 : decode cX1_signOfSum 7 = .ok (.invokestatic 183, 3) := by decide +kernel
theorem dX1_signOfSum_10 : decode cX1_signOfSum 10 = .ok (.i2l, 1) := by decide +kernel
theorem dX1_signOfSum_11 : decode cX1_signOfSum 11 = .ok (.lstore 10, 2) := by decide +kernel
theorem dX1_signOfSum_13 : decode cX1_signOfSum 13 = .ok (.lload_n 0, 1) := by decide +kernel
theorem dX1_signOfSum_14 : decode cX1_signOfSum 14 = .ok (.invokestatic 187, 3) := by decide +kernel
theorem dX1_signOfSum_17 : decode cX1_signOfSum 17 = .ok (.lload 10, 2) := by decide +kernel
theorem dX1_signOfSum_19 : decode cX1_signOfSum 19 = .ok (.lload_n 2, 1) := by decide +kernel
theorem dX1_signOfSum_20 : decode cX1_signOfSum 20 = .ok (.lload_n 2, 1) := by decide +kernel
theorem dX1_signOfSum_21 : decode cX1_signOfSum 21 = .ok (.lmul, 1) := by decide +kernel
theorem dX1_signOfSum_22 : decode cX1_signOfSum 22 = .ok (.lload 4, 2) := by decide +kernel
theorem dX1_signOfSum_24 : decode cX1_signOfSum 24 = .ok (.lmul, 1) := by decide +kernel
theorem dX1_signOfSum_25 : decode cX1_signOfSum 25 = .ok (.lload 6, 2) := by decide +kernel
theorem dX1_signOfSum_27 : decode cX1_signOfSum 27 = .ok (.lload 6, 2) := by decide +kernel
theorem dX1_signOfSum_29 : decode cX1_signOfSum 29 = .ok (.lmul, 1) := by decide +kernel
theorem dX1_signOfSum_30 : decode cX1_signOfSum 30 = .ok (.lload 8, 2) := by decide +kernel
theorem dX1_signOfSum_32 : decode cX1_signOfSum 32 = .ok (.lmul, 1) := by decide +kernel
theorem dX1_signOfSum_33 : decode cX1_signOfSum 33 = .ok (.ladd, 1) := by decide +kernel
theorem dX1_signOfSum_34 : decode cX1_signOfSum 34 = .ok (.lmul, 1) := by decide +kernel
theorem dX1_signOfSum_35 : decode cX1_signOfSum 35 = .ok (.ladd, 1) := by decide +kernel
theorem dX1_signOfSum_36 : decode cX1_signOfSum 36 = .ok (.lstore 12, 2) := by decide +kernel
theorem dX1_signOfSum_38 : decode cX1_signOfSum 38 = .ok (.lload 12, 2) := by decide +kernel
theorem dX1_signOfSum_40 : decode cX1_signOfSum 40 = .ok (.lconst 1, 1) := by decide +kernel
theorem dX1_signOfSum_41 : decode cX1_signOfSum 41 = .ok (.ldc2_w 191, 3) := by decide +kernel
theorem dX1_signOfSum_44 : decode cX1_signOfSum 44 = .ok (.lload 10, 2) := by decide +kernel
theorem dX1_signOfSum_46 : decode cX1_signOfSum 46 = .ok (.lmul, 1) := by decide +kernel
theorem dX1_signOfSum_47 : decode cX1_signOfSum 47 = .ok (.lload_n 2, 1) := by decide +kernel
theorem dX1_signOfSum_48 : decode cX1_signOfSum 48 = .ok (.lmul, 1) := by decide +kernel
theorem dX1_signOfSum_49 : decode cX1_signOfSum 49 = .ok (.lload 6, 2) := by decide +kernel
theorem dX1_signOfSum_51 : decode cX1_signOfSum 51 = .ok (.lmul, 1) := by decide +kernel
theorem dX1_signOfSum_52 : decode cX1_signOfSum 52 = .ok (.lload 4, 2) := by decide +kernel
theorem dX1_signOfSum_54 : decode cX1_signOfSum 54 = .ok (.lload 8, 2) := by decide +kernel
theorem dX1_signOfSum_56 : decode cX1_signOfSum 56 = .ok (.lmul, 1) := by decide +kernel
theorem dX1_signOfSum_57 : decode cX1_signOfSum 57 = .ok (.invokestatic 183, 3) := by decide +kernel
theorem dX1_signOfSum_60 : decode cX1_signOfSum 60 = .ok (.ireturn, 1) := by decide +kernel
theorem dX1_signOfRoots_0 : decode cX1_signOfRoots 0 = .ok (.lload_n 0, 1) := by decide +kernel
theorem dX1_signOfRoots_1 : decode cX1_signOfRoots 1 = .ok (.invokestatic 187, 3) := by decide +kernel
theorem dX1_signOfRoots_4 : decode cX1_signOfRoots 4 = .ok (.lload_n 2, 1) := by decide +kernel
theorem dX1_signOfRoots_5 : decode cX1_signOfRoots 5 = .ok (.lmul, 1) := by decide +kernel
theorem dX1_signOfRoots_6 : decode cX1_signOfRoots 6 = .ok (.lload 4, 2) := by decide +kernel
theorem dX1_signOfRoots_8 : decode cX1_signOfRoots 8 = .ok (.invokestatic 187, 3) := by decide +kernel
theorem dX1_signOfRoots_11 : decode cX1_signOfRoots 11 = .ok (.lload 6, 2) := by decide +kernel
theorem dX1_signOfRoots_13 : decode cX1_signOfRoots 13 = .ok (.lmul, 1) := by decide +kernel
theorem dX1_signOfRoots_14 : decode cX1_signOfRoots 14 = .ok (.ladd, 1) := by decide +kernel
theorem dX1_signOfRoots_15 : decode cX1_signOfRoots 15 = .ok (.lstore 8, 2) := by decide +kernel
theorem dX1_signOfRoots_17 : decode cX1_signOfRoots 17 = .ok (.lload 8, 2) := by decide +kernel
theorem dX1_signOfRoots_19 : decode cX1_signOfRoots 19 = .ok (.lconst 0, 1) := by decide +kernel
theorem dX1_signOfRoots_20 : decode cX1_signOfRoots 20 = .ok (.lcmp, 1) := by decide +kernel
theorem dX1_signOfRoots_21 : decode cX1_signOfRoots 21 = .ok (.ifCond .ge 7, 3) := by decide +kernel
theorem dX1_signOfRoots_24 : decode cX1_signOfRoots 24 = .ok (.iconst (-1), 1) := by decide +kernel
theorem dX1_signOfRoots_25 : decode cX1_signOfRoots 25 = .ok (.goto 15, 3) := by decide +kernel
theorem dX1_signOfRoots_28 : decode cX1_signOfRoots 28 = .ok (.lload 8, 2) := by decide +kernel
theorem dX1_signOfRoots_30 : decode cX1_signOfRoots 30 = .ok (.lconst 0, 1) := by decide +kernel
theorem dX1_signOfRoots_31 : decode cX1_signOfRoots 31 = .ok (.lcmp, 1) := by decide +kernel
theorem dX1_signOfRoots_32 : decode cX1_signOfRoots 32 = .ok (.ifCond .le 7, 3) := by decide +kernel
theorem dX1_signOfRoots_35 : decode cX1_signOfRoots 35 = .ok (.iconst 1, 1) := by decide +kernel
theorem dX1_signOfRoots_36 : decode cX1_signOfRoots 36 = .ok (.goto 4, 3) := by decide +kernel
theorem dX1_signOfRoots_39 : decode cX1_signOfRoots 39 = .ok (.iconst 0, 1) := by decide +kernel
theorem dX1_signOfRoots_40 : decode cX1_signOfRoots 40 = .ok (.ireturn, 1) := by decide +kernel
theorem dX1_signedSquare_0 : decode cX1_signedSquare 0 = .ok (.lload_n 0, 1) := by decide +kernel
theorem dX1_signedSquare_1 : decode cX1_signedSquare 1 = .ok (.lconst 0, 1) := by decide +kernel
theorem dX1_signedSquare_2 : decode cX1_signedSquare 2 = .ok (.lcmp, 1) := by decide +kernel
theorem dX1_signedSquare_3 : decode cX1_signedSquare 3 = .ok (.ifCond .ge 10, 3) := by decide +kernel
theorem dX1_signedSquare_6 : decode cX1_signedSquare 6 = .ok (.lload_n 0, 1) := by decide +kernel
theorem dX1_signedSquare_7 : decode cX1_signedSquare 7 = .ok (.lneg, 1) := by decide +kernel
theorem dX1_signedSquare_8 : decode cX1_signedSquare 8 = .ok (.lload_n 0, 1) := by decide +kernel
theorem dX1_signedSquare_9 : decode cX1_signedSquare 9 = .ok (.lmul, 1) := by decide +kernel
theorem dX1_signedSquare_10 : decode cX1_signedSquare 10 = .ok (.goto 6, 3) := by decide +kernel
theorem dX1_signedSquare_13 : decode cX1_signedSquare 13 = .ok (.lload_n 0, 1) := by decide +kernel
theorem dX1_signedSquare_14 : decode cX1_signedSquare 14 = .ok (.lload_n 0, 1) := by decide +kernel
theorem dX1_signedSquare_15 : decode cX1_signedSquare 15 = .ok (.lmul, 1) := by decide +kernel
theorem dX1_signedSquare_16 : decode cX1_signedSquare 16 = .ok (.lreturn, 1) := by decide +kernel
theorem dX0_init_0 : decode cX0_init 0 = .ok (.aload_n 0, 1) := by decide +kernel
theorem dX0_init_1 : decode cX0_init 1 = .ok (.invokespecial 1, 3) := by decide +kernel
theorem dX0_init_4 : decode cX0_init 4 = .ok (.return_, 1) := by decide +kernel
theorem dX0_become_0 : decode cX0_become 0 = .ok (.aload_n 0, 1) := by decide +kernel
theorem dX0_become_1 : decode cX0_become 1 = .ok (.iload_n 1, 1) := by decide +kernel
theorem dX0_become_2 : decode cX0_become 2 = .ok (.putfield 7, 3) := by decide +kernel
theorem dX0_become_5 : decode cX0_become 5 = .ok (.aload_n 0, 1) := by decide +kernel
theorem dX0_become_6 : decode cX0_become 6 = .ok (.iload_n 2, 1) := by decide +kernel
theorem dX0_become_7 : decode cX0_become 7 = .ok (.putfield 13, 3) := by decide +kernel
theorem dX0_become_10 : decode cX0_become 10 = .ok (.aload_n 0, 1) := by decide +kernel
theorem dX0_become_11 : decode cX0_become 11 = .ok (.iload_n 3, 1) := by decide +kernel
theorem dX0_become_12 : decode cX0_become 12 = .ok (.putfield 16, 3) := by decide +kernel
theorem dX0_become_15 : decode cX0_become 15 = .ok (.aload_n 0, 1) := by decide +kernel
theorem dX0_become_16 : decode cX0_become 16 = .ok (.iload 4, 2) := by decide +kernel
theorem dX0_become_18 : decode cX0_become 18 = .ok (.putfield 19, 3) := by decide +kernel
theorem dX0_become_21 : decode cX0_become 21 = .ok (.aload_n 0, 1) := by decide +kernel
theorem dX0_become_22 : decode cX0_become 22 = .ok (.getfield 7, 3) := by decide +kernel
theorem dX0_become_25 : decode cX0_become 25 = .ok (.ifCond .ne 7, 3) := by decide +kernel
theorem dX0_become_28 : decode cX0_become 28 = .ok (.iconst 0, 1) := by decide +kernel
theorem dX0_become_29 : decode cX0_become 29 = .ok (.goto 24, 3) := by decide +kernel
theorem dX0_become_32 : decode cX0_become 32 = .ok (.aload_n 0, 1) := by decide +kernel
theorem dX0_become_33 : decode cX0_become 33 = .ok (.getfield 13, 3) := by decide +kernel
theorem dX0_become_36 : decode cX0_become 36 = .ok (.aload_n 0, 1) := by decide +kernel
theorem dX0_become_37 : decode cX0_become 37 = .ok (.getfield 13, 3) := by decide +kernel
theorem dX0_become_40 : decode cX0_become 40 = .ok (.imul, 1) := by decide +kernel
theorem dX0_become_41 : decode cX0_become 41 = .ok (.iconst 4, 1) := by decide +kernel
theorem dX0_become_42 : decode cX0_become 42 = .ok (.aload_n 0, 1) := by decide +kernel
theorem dX0_become_43 : decode cX0_become 43 = .ok (.getfield 7, 3) := by decide +kernel
theorem dX0_become_46 : decode cX0_become 46 = .ok (.imul, 1) := by decide +kernel
theorem dX0_become_47 : decode cX0_become 47 = .ok (.aload_n 0, 1) := by decide +kernel
theorem dX0_become_48 : decode cX0_become 48 = .ok (.getfield 16, 3) := by decide +kernel
theorem dX0_become_51 : decode cX0_become 51 = .ok (.imul, 1) := by decide +kernel
theorem dX0_become_52 : decode cX0_become 52 = .ok (.isub, 1) := by decide +kernel
theorem dX0_become_53 : decode cX0_become 53 = .ok (.istore 5, 2) := by decide +kernel
theorem dX0_become_55 : decode cX0_become 55 = .ok (.aload_n 0, 1) := by decide +kernel
theorem dX0_become_56 : decode cX0_become 56 = .ok (.iload 5, 2) := by decide +kernel
theorem dX0_become_58 : decode cX0_become 58 = .ok (.invokestatic 22, 3) := by decide +kernel
theorem dX0_become_61 : decode cX0_become 61 = .ok (.putfield 28, 3) := by decide +kernel
theorem dX0_become_64 : decode cX0_become 64 = .ok (.aload_n 0, 1) := by decide +kernel
theorem dX0_become_65 : decode cX0_become 65 = .ok (.aload_n 0, 1) := by decide +kernel
theorem dX0_become_66 : decode cX0_become 66 = .ok (.getfield 28, 3) := by decide +kernel
theorem dX0_become_69 : decode cX0_become 69 = .ok (.ifCond .ne 7, 3) := by decide +kernel
theorem dX0_become_72 : decode cX0_become 72 = .ok (.iconst 0, 1) := by decide +kernel
theorem dX0_become_73 : decode cX0_become 73 = .ok (.goto 15, 3) := by decide +kernel
theorem dX0_become_76 : decode cX0_become 76 = .ok (.iload 5, 2) := by decide +kernel
theorem dX0_become_78 : decode cX0_become 78 = .ok (.aload_n 0, 1) := by decide +kernel
theorem dX0_become_79 : decode cX0_become 79 = .ok (.getfield 28, 3) := by decide +kernel
theorem dX0_become_82 : decode cX0_become 82 = .ok (.aload_n 0, 1) := by decide +kernel
theorem dX0_become_83 : decode cX0_become 83 = .ok (.getfield 28, 3) := by decide +kernel
theorem dX0_become_86 : decode cX0_become 86 = .ok (.imul, 1) := by decide +kernel
theorem dX0_become_87 : decode cX0_become 87 = .ok (.idiv, 1) := by decide +kernel
theorem dX0_become_88 : decode cX0_become 88 = .ok (.putfield 31, 3) := by decide +kernel
theorem dX0_become_91 : decode cX0_become 91 = .ok (.return_, 1) := by decide +kernel
theorem dX0_isLinear_0 : decode cX0_isLinear 0 = .ok (.aload_n 0, 1) := by decide +kernel
theorem dX0_isLinear_1 : decode cX0_isLinear 1 = .ok (.getfield 7, 3) := by decide +kernel
theorem dX0_isLinear_4 : decode cX0_isLinear 4 = .ok (.ifCond .ne 7, 3) := by decide +kernel
theorem dX0_isLinear_7 : decode cX0_isLinear 7 = .ok (.iconst 1, 1) := by decide +kernel
theorem dX0_isLinear_8 : decode cX0_isLinear 8 = .ok (.goto 4, 3) := by decide +kernel
theorem dX0_isLinear_11 : decode cX0_isLinear 11 = .ok (.iconst 0, 1) := by decide +kernel
theorem dX0_isLinear_12 : decode cX0_isLinear 12 = .ok (.ireturn, 1) := by decide +kernel
theorem dX0_isReal_0 : decode cX0_isReal 0 = .ok (.aload_n 0, 1) := by decide +kernel
theorem dX0_isReal_1 : decode cX0_isReal 1 = .ok (.getfield 31, 3) := by decide +kernel
theorem dX0_isReal_4 : decode cX0_isReal 4 = .ok (.ifCond .lt 7, 3) := by decide +kernel
theorem dX0_isReal_7 : decode cX0_isReal 7 = .ok (.iconst 1, 1) := by decide +kernel
theorem dX0_isReal_8 : decode cX0_isReal 8 = .ok (.goto 4, 3) := by decide +kernel
theorem dX0_isReal_11 : decode cX0_isReal 11 = .ok (.iconst 0, 1) := by decide +kernel
theorem dX0_isReal_12 : decode cX0_isReal 12 = .ok (.ireturn, 1) := by decide +kernel
theorem dX0_middle_0 : decode cX0_middle 0 = .ok (.aload_n 0, 1) := by decide +kernel
theorem dX0_middle_1 : decode cX0_middle 1 = .ok (.getfield 7, 3) := by decide +kernel
theorem dX0_middle_4 : decode cX0_middle 4 = .ok (.ifCond .ne 11, 3) := by decide +kernel
theorem dX0_middle_7 : decode cX0_middle 7 = .ok (.aload_n 0, 1) := by decide +kernel
theorem dX0_middle_8 : decode cX0_middle 8 = .ok (.getfield 16, 3) := by decide +kernel
theorem dX0_middle_11 : decode cX0_middle 11 = .ok (.ineg, 1) := by decide +kernel
theorem dX0_middle_12 : decode cX0_middle 12 = .ok (.goto 8, 3) := by decide +kernel
theorem dX0_middle_15 : decode cX0_middle 15 = .ok (.aload_n 0, 1) := by decide +kernel
theorem dX0_middle_16 : decode cX0_middle 16 = .ok (.getfield 13, 3) := by decide +kernel
theorem dX0_middle_19 : decode cX0_middle 19 = .ok (.ineg, 1) := by decide +kernel
theorem dX0_middle_20 : decode cX0_middle 20 = .ok (.ireturn, 1) := by decide +kernel
theorem dX0_under_0 : decode cX0_under 0 = .ok (.aload_n 0, 1) := by decide +kernel
theorem dX0_under_1 : decode cX0_under 1 = .ok (.getfield 28, 3) := by decide +kernel
theorem dX0_under_4 : decode cX0_under 4 = .ok (.aload_n 0, 1) := by decide +kernel
theorem dX0_under_5 : decode cX0_under 5 = .ok (.getfield 28, 3) := by decide +kernel
theorem dX0_under_8 : decode cX0_under 8 = .ok (.imul, 1) := by decide +kernel
theorem dX0_under_9 : decode cX0_under 9 = .ok (.aload_n 0, 1) := by decide +kernel
theorem dX0_under_10 : decode cX0_under 10 = .ok (.getfield 31, 3) := by decide +kernel
theorem dX0_under_13 : decode cX0_under 13 = .ok (.imul, 1) := by decide +kernel
theorem dX0_under_14 : decode cX0_under 14 = .ok (.ireturn, 1) := by decide +kernel
theorem dX0_below_0 : decode cX0_below 0 = .ok (.aload_n 0, 1) := by decide +kernel
theorem dX0_below_1 : decode cX0_below 1 = .ok (.getfield 7, 3) := by decide +kernel
theorem dX0_below_4 : decode cX0_below 4 = .ok (.ifCond .ne 10, 3) := by decide +kernel
theorem dX0_below_7 : decode cX0_below 7 = .ok (.aload_n 0, 1) := by decide +kernel
theorem dX0_below_8 : decode cX0_below 8 = .ok (.getfield 13, 3) := by decide +kernel
theorem dX0_below_11 : decode cX0_below 11 = .ok (.goto 9, 3) := by decide +kernel
theorem dX0_below_14 : decode cX0_below 14 = .ok (.iconst 2, 1) := by decide +kernel
theorem dX0_below_15 : decode cX0_below 15 = .ok (.aload_n 0, 1) := by decide +kernel
theorem dX0_below_16 : decode cX0_below 16 = .ok (.getfield 7, 3) := by decide +kernel
theorem dX0_below_19 : decode cX0_below 19 = .ok (.imul, 1) := by decide +kernel
theorem dX0_below_20 : decode cX0_below 20 = .ok (.ireturn, 1) := by decide +kernel
theorem dX0_standsBefore_0 : decode cX0_standsBefore 0 = .ok (.aload_n 0, 1) := by decide +kernel
theorem dX0_standsBefore_1 : decode cX0_standsBefore 1 = .ok (.invokevirtual 34, 3) := by decide +kernel
theorem dX0_standsBefore_4 : decode cX0_standsBefore 4 = .ok (.aload_n 1, 1) := by decide +kernel
theorem dX0_standsBefore_5 : decode cX0_standsBefore 5 = .ok (.invokevirtual 34, 3) := by decide +kernel
theorem dX0_standsBefore_8 : decode cX0_standsBefore 8 = .ok (.if_icmp .eq 8, 3) := by decide +kernel
theorem dX0_standsBefore_11 : decode cX0_standsBefore 11 = .ok (.aload_n 0, 1) := by decide +kernel
theorem dX0_standsBefore_12 : decode cX0_standsBefore 12 = .ok (.invokevirtual 34, 3) := by decide +kernel
theorem dX0_standsBefore_15 : decode cX0_standsBefore 15 = .ok (.ireturn, 1) := by decide +kernel
theorem dX0_standsBefore_16 : decode cX0_standsBefore 16 = .ok (.aload_n 0, 1) := by decide +kernel
theorem dX0_standsBefore_17 : decode cX0_standsBefore 17 = .ok (.invokevirtual 34, 3) := by decide +kernel
theorem dX0_standsBefore_20 : decode cX0_standsBefore 20 = .ok (.ifCond .eq 30, 3) := by decide +kernel
theorem dX0_standsBefore_23 : decode cX0_standsBefore 23 = .ok (.aload_n 0, 1) := by decide +kernel
theorem dX0_standsBefore_24 : decode cX0_standsBefore 24 = .ok (.invokevirtual 38, 3) := by decide +kernel
theorem dX0_standsBefore_27 : decode cX0_standsBefore 27 = .ok (.aload_n 1, 1) := by decide +kernel
theorem dX0_standsBefore_28 : decode cX0_standsBefore 28 = .ok (.invokevirtual 42, 3) := by decide +kernel
theorem dX0_standsBefore_31 : decode cX0_standsBefore 31 = .ok (.imul, 1) := by decide +kernel
theorem dX0_standsBefore_32 : decode cX0_standsBefore 32 = .ok (.aload_n 1, 1) := by decide +kernel
theorem dX0_standsBefore_33 : decode cX0_standsBefore 33 = .ok (.invokevirtual 38, 3) := by decide +kernel
theorem dX0_standsBefore_36 : decode cX0_standsBefore 36 = .ok (.aload_n 0, 1) := by decide +kernel
theorem dX0_standsBefore_37 : decode cX0_standsBefore 37 = .ok (.invokevirtual 42, 3) := by decide +kernel
theorem dX0_standsBefore_40 : decode cX0_standsBefore 40 = .ok (.imul, 1) := by decide +kernel
theorem dX0_standsBefore_41 : decode cX0_standsBefore 41 = .ok (.if_icmp .ge 7, 3) := by decide +kernel
theorem dX0_standsBefore_44 : decode cX0_standsBefore 44 = .ok (.iconst 1, 1) := by decide +kernel
theorem dX0_standsBefore_45 : decode cX0_standsBefore 45 = .ok (.goto 4, 3) := by decide +kernel
theorem dX0_standsBefore_48 : decode cX0_standsBefore 48 = .ok (.iconst 0, 1) := by decide +kernel
theorem dX0_standsBefore_49 : decode cX0_standsBefore 49 = .ok (.ireturn, 1) := by decide +kernel
theorem dX0_standsBefore_50 : decode cX0_standsBefore 50 = .ok (.aload_n 0, 1) := by decide +kernel
theorem dX0_standsBefore_51 : decode cX0_standsBefore 51 = .ok (.getfield 7, 3) := by decide +kernel
theorem dX0_standsBefore_54 : decode cX0_standsBefore 54 = .ok (.aload_n 1, 1) := by decide +kernel
theorem dX0_standsBefore_55 : decode cX0_standsBefore 55 = .ok (.getfield 7, 3) := by decide +kernel
theorem dX0_standsBefore_58 : decode cX0_standsBefore 58 = .ok (.if_icmp .eq 20, 3) := by decide +kernel
theorem dX0_standsBefore_61 : decode cX0_standsBefore 61 = .ok (.aload_n 0, 1) := by decide +kernel
theorem dX0_standsBefore_62 : decode cX0_standsBefore 62 = .ok (.getfield 7, 3) := by decide +kernel
theorem dX0_standsBefore_65 : decode cX0_standsBefore 65 = .ok (.aload_n 1, 1) := by decide +kernel
theorem dX0_standsBefore_66 : decode cX0_standsBefore 66 = .ok (.getfield 7, 3) := by decide +kernel
theorem dX0_standsBefore_69 : decode cX0_standsBefore 69 = .ok (.if_icmp .ge 7, 3) := by decide +kernel
theorem dX0_standsBefore_72 : decode cX0_standsBefore 72 = .ok (.iconst 1, 1) := by decide +kernel
theorem dX0_standsBefore_73 : decode cX0_standsBefore 73 = .ok (.goto 4, 3) := by decide +kernel
theorem dX0_standsBefore_76 : decode cX0_standsBefore 76 = .ok (.iconst 0, 1) := by decide +kernel
theorem dX0_standsBefore_77 : decode cX0_standsBefore 77 = .ok (.ireturn, 1) := by decide +kernel
theorem dX0_standsBefore_78 : decode cX0_standsBefore 78 = .ok (.aload_n 0, 1) := by decide +kernel
theorem dX0_standsBefore_79 : decode cX0_standsBefore 79 = .ok (.getfield 13, 3) := by decide +kernel
theorem dX0_standsBefore_82 : decode cX0_standsBefore 82 = .ok (.aload_n 1, 1) := by decide +kernel
theorem dX0_standsBefore_83 : decode cX0_standsBefore 83 = .ok (.getfield 13, 3) := by decide +kernel
theorem dX0_standsBefore_86 : decode cX0_standsBefore 86 = .ok (.if_icmp .eq 22, 3) := by decide +kernel
theorem dX0_standsBefore_89 : decode cX0_standsBefore 89 = .ok (.aload_n 0, 1) := by decide +kernel
theorem dX0_standsBefore_90 : decode cX0_standsBefore 90 = .ok (.getfield 13, 3) := by decide +kernel
theorem dX0_standsBefore_93 : decode cX0_standsBefore 93 = .ok (.aload_n 1, 1) := by decide +kernel
theorem dX0_standsBefore_94 : decode cX0_standsBefore 94 = .ok (.getfield 13, 3) := by decide +kernel
theorem dX0_standsBefore_97 : decode cX0_standsBefore 97 = .ok (.if_icmp .ge 7, 3) := by decide +kernel
theorem dX0_standsBefore_100 : decode cX0_standsBefore 100 = .ok (.iconst 1, 1) := by decide +kernel
theorem dX0_standsBefore_101 : decode cX0_standsBefore 101 = .ok (.goto 23, 3) := by decide +kernel
theorem dX0_standsBefore_104 : decode cX0_standsBefore 104 = .ok (.iconst 0, 1) := by decide +kernel
theorem dX0_standsBefore_105 : decode cX0_standsBefore 105 = .ok (.goto 19, 3) := by decide +kernel
theorem dX0_standsBefore_108 : decode cX0_standsBefore 108 = .ok (.aload_n 0, 1) := by decide +kernel
theorem dX0_standsBefore_109 : decode cX0_standsBefore 109 = .ok (.getfield 16, 3) := by decide +kernel
theorem dX0_standsBefore_112 : decode cX0_standsBefore 112 = .ok (.aload_n 1, 1) := by decide +kernel
theorem dX0_standsBefore_113 : decode cX0_standsBefore 113 = .ok (.getfield 16, 3) := by decide +kernel
theorem dX0_standsBefore_116 : decode cX0_standsBefore 116 = .ok (.if_icmp .ge 7, 3) := by decide +kernel
theorem dX0_standsBefore_119 : decode cX0_standsBefore 119 = .ok (.iconst 1, 1) := by decide +kernel
theorem dX0_standsBefore_120 : decode cX0_standsBefore 120 = .ok (.goto 4, 3) := by decide +kernel
theorem dX0_standsBefore_123 : decode cX0_standsBefore 123 = .ok (.iconst 0, 1) := by decide +kernel
theorem dX0_standsBefore_124 : decode cX0_standsBefore 124 = .ok (.ireturn, 1) := by decide +kernel
end
section
theorem dX2_init_0 : decode cX2_init 0 = .ok (.aload_n 0, 1) := by decide +kernel
theorem dX2_init_1 : decode cX2_init 1 = .ok (.invokespecial 1, 3) := by decide +kernel
theorem dX2_init_4 : decode cX2_init 4 = .ok (.aload_n 0, 1) := by decide +kernel
theorem dX2_init_5 : decode cX2_init 5 = .ok (.iconst 5, 1) := by decide +kernel
theorem dX2_init_6 : decode cX2_init 6 = .ok (.newarray .int, 2) := by decide +kernel
theorem dX2_init_8 : decode cX2_init 8 = .ok (.putfield 7, 3) := by decide +kernel
theorem dX2_init_11 : decode cX2_init 11 = .ok (.aload_n 0, 1) := by decide +kernel
theorem dX2_init_12 : decode cX2_init 12 = .ok (.iconst 5, 1) := by decide +kernel
theorem dX2_init_13 : decode cX2_init 13 = .ok (.newarray .long, 2) := by decide +kernel
theorem dX2_init_15 : decode cX2_init 15 = .ok (.putfield 13, 3) := by decide +kernel
theorem dX2_init_18 : decode cX2_init 18 = .ok (.aload_n 0, 1) := by decide +kernel
theorem dX2_init_19 : decode cX2_init 19 = .ok (.iconst 5, 1) := by decide +kernel
theorem dX2_init_20 : decode cX2_init 20 = .ok (.newarray .long, 2) := by decide +kernel
theorem dX2_init_22 : decode cX2_init 22 = .ok (.putfield 17, 3) := by decide +kernel
theorem dX2_init_25 : decode cX2_init 25 = .ok (.aload_n 0, 1) := by decide +kernel
theorem dX2_init_26 : decode cX2_init 26 = .ok (.iconst 5, 1) := by decide +kernel
theorem dX2_init_27 : decode cX2_init 27 = .ok (.newarray .int, 2) := by decide +kernel
theorem dX2_init_29 : decode cX2_init 29 = .ok (.putfield 20, 3) := by decide +kernel
theorem dX2_init_32 : decode cX2_init 32 = .ok (.aload_n 0, 1) := by decide +kernel
theorem dX2_init_33 : decode cX2_init 33 = .ok (.iconst 5, 1) := by decide +kernel
theorem dX2_init_34 : decode cX2_init 34 = .ok (.newarray .int, 2) := by decide +kernel
theorem dX2_init_36 : decode cX2_init 36 = .ok (.putfield 23, 3) := by decide +kernel
theorem dX2_init_39 : decode cX2_init 39 = .ok (.aload_n 0, 1) := by decide +kernel
theorem dX2_init_40 : decode cX2_init 40 = .ok (.iconst 5, 1) := by decide +kernel
theorem dX2_init_41 : decode cX2_init 41 = .ok (.newarray .int, 2) := by decide +kernel
theorem dX2_init_43 : decode cX2_init 43 = .ok (.putfield 26, 3) := by decide +kernel
theorem dX2_init_46 : decode cX2_init 46 = .ok (.aload_n 0, 1) := by decide +kernel
theorem dX2_init_47 : decode cX2_init 47 = .ok (.iconst 5, 1) := by decide +kernel
theorem dX2_init_48 : decode cX2_init 48 = .ok (.newarray .int, 2) := by decide +kernel
theorem dX2_init_50 : decode cX2_init 50 = .ok (.putfield 29, 3) := by decide +kernel
theorem dX2_init_53 : decode cX2_init 53 = .ok (.return_, 1) := by decide +kernel
theorem dX2_thrown_0 : decode cX2_thrown 0 = .ok (.aload_n 0, 1) := by decide +kernel
theorem dX2_thrown_1 : decode cX2_thrown 1 = .ok (.getfield 32, 3) := by decide +kernel
theorem dX2_thrown_4 : decode cX2_thrown 4 = .ok (.ireturn, 1) := by decide +kernel
theorem dX2_raise_0 : decode cX2_raise 0 = .ok (.aload_n 0, 1) := by decide +kernel
theorem dX2_raise_1 : decode cX2_raise 1 = .ok (.iload_n 1, 1) := by decide +kernel
theorem dX2_raise_2 : decode cX2_raise 2 = .ok (.putfield 32, 3) := by decide +kernel
theorem dX2_raise_5 : decode cX2_raise 5 = .ok (.iconst 0, 1) := by decide +kernel
theorem dX2_raise_6 : decode cX2_raise 6 = .ok (.ireturn, 1) := by decide +kernel
theorem dX2_in_0 : decode cX2_in 0 = .ok (.lload_n 0, 1) := by decide +kernel
theorem dX2_in_1 : decode cX2_in 1 = .ok (.lload_n 2, 1) := by decide +kernel
theorem dX2_in_2 : decode cX2_in 2 = .ok (.lcmp, 1) := by decide +kernel
theorem dX2_in_3 : decode cX2_in 3 = .ok (.ifCond .lt 14, 3) := by decide +kernel
theorem dX2_in_6 : decode cX2_in 6 = .ok (.lload_n 0, 1) := by decide +kernel
theorem dX2_in_7 : decode cX2_in 7 = .ok (.lload 4, 2) := by decide +kernel
theorem dX2_in_9 : decode cX2_in 9 = .ok (.lcmp, 1) := by decide +kernel
theorem dX2_in_10 : decode cX2_in 10 = .ok (.ifCond .gt 7, 3) := by decide +kernel
theorem dX2_in_13 : decode cX2_in 13 = .ok (.iconst 1, 1) := by decide +kernel
theorem dX2_in_14 : decode cX2_in 14 = .ok (.goto 4, 3) := by decide +kernel
theorem dX2_in_17 : decode cX2_in 17 = .ok (.iconst 0, 1) := by decide +kernel
theorem dX2_in_18 : decode cX2_in 18 = .ok (.ireturn, 1) := by decide +kernel
theorem dX2_size_0 : decode cX2_size 0 = .ok (.lload_n 0, 1) := by decide +kernel
theorem dX2_size_1 : decode cX2_size 1 = .ok (.lconst 0, 1) := by decide +kernel
theorem dX2_size_2 : decode cX2_size 2 = .ok (.lcmp, 1) := by decide +kernel
theorem dX2_size_3 : decode cX2_size 3 = .ok (.ifCond .ge 8, 3) := by decide +kernel
theorem dX2_size_6 : decode cX2_size 6 = .ok (.lload_n 0, 1) := by decide +kernel
theorem dX2_size_7 : decode cX2_size 7 = .ok (.lneg, 1) := by decide +kernel
theorem dX2_size_8 : decode cX2_size 8 = .ok (.goto 4, 3) := by decide +kernel
theorem dX2_size_11 : decode cX2_size 11 = .ok (.lload_n 0, 1) := by decide +kernel
theorem dX2_size_12 : decode cX2_size 12 = .ok (.lreturn, 1) := by decide +kernel
theorem dX2_divisor_0 : decode cX2_divisor 0 = .ok (.lload_n 0, 1) := by decide +kernel
theorem dX2_divisor_1 : decode cX2_divisor 1 = .ok (.invokestatic 36, 3) := by decide +kernel
theorem dX2_divisor_4 : decode cX2_divisor 4 = .ok (.lstore 4, 2) := by decide +kernel
theorem dX2_divisor_6 : decode cX2_divisor 6 = .ok (.lload_n 2, 1) := by decide +kernel
theorem dX2_divisor_7 : decode cX2_divisor 7 = .ok (.invokestatic 36, 3) := by decide +kernel
theorem dX2_divisor_10 : decode cX2_divisor 10 = .ok (.lstore 6, 2) := by decide +kernel
theorem dX2_divisor_12 : decode cX2_divisor 12 = .ok (.lload 6, 2) := by decide +kernel
theorem dX2_divisor_14 : decode cX2_divisor 14 = .ok (.lconst 0, 1) := by decide +kernel
theorem dX2_divisor_15 : decode cX2_divisor 15 = .ok (.lcmp, 1) := by decide +kernel
theorem dX2_divisor_16 : decode cX2_divisor 16 = .ok (.ifCond .eq 21, 3) := by decide +kernel
theorem dX2_divisor_19 : decode cX2_divisor 19 = .ok (.lload 4, 2) := by decide +kernel
theorem dX2_divisor_21 : decode cX2_divisor 21 = .ok (.lload 6, 2) := by decide +kernel
theorem dX2_divisor_23 : decode cX2_divisor 23 = .ok (.lrem, 1) := by decide +kernel
theorem dX2_divisor_24 : decode cX2_divisor 24 = .ok (.lstore 8, 2) := by decide +kernel
theorem dX2_divisor_26 : decode cX2_divisor 26 = .ok (.lload 6, 2) := by decide +kernel
theorem dX2_divisor_28 : decode cX2_divisor 28 = .ok (.lstore 4, 2) := by decide +kernel
theorem dX2_divisor_30 : decode cX2_divisor 30 = .ok (.lload 8, 2) := by decide +kernel
theorem dX2_divisor_32 : decode cX2_divisor 32 = .ok (.lstore 6, 2) := by decide +kernel
theorem dX2_divisor_34 : decode cX2_divisor 34 = .ok (.goto (-22), 3) := by decide +kernel
theorem dX2_divisor_37 : decode cX2_divisor 37 = .ok (.lload 4, 2) := by decide +kernel
theorem dX2_divisor_39 : decode cX2_divisor 39 = .ok (.lreturn, 1) := by decide +kernel
theorem dX2_lowest_0 : decode cX2_lowest 0 = .ok (.lload_n 1, 1) := by decide +kernel
theorem dX2_lowest_1 : decode cX2_lowest 1 = .ok (.lload_n 3, 1) := by decide +kernel
theorem dX2_lowest_2 : decode cX2_lowest 2 = .ok (.invokestatic 40, 3) := by decide +kernel
theorem dX2_lowest_5 : decode cX2_lowest 5 = .ok (.lstore 5, 2) := by decide +kernel
theorem dX2_lowest_7 : decode cX2_lowest 7 = .ok (.aload_n 0, 1) := by decide +kernel
theorem dX2_lowest_8 : decode cX2_lowest 8 = .ok (.lload_n 3, 1) := by decide +kernel
theorem dX2_lowest_9 : decode cX2_lowest 9 = .ok (.lconst 0, 1) := by decide +kernel
theorem dX2_lowest_10 : decode cX2_lowest 10 = .ok (.lcmp, 1) := by decide +kernel
theorem dX2_lowest_11 : decode cX2_lowest 11 = .ok (.ifCond .ge 11, 3) := by decide +kernel
theorem dX2_lowest_14 : decode cX2_lowest 14 = .ok (.lload_n 1, 1) := by decide +kernel
theorem dX2_lowest_15 : decode cX2_lowest 15 = .ok (.lload 5, 2) := by decide +kernel
theorem dX2_lowest_17 : decode cX2_lowest 17 = .ok (.ldiv, 1) := by decide +kernel
theorem dX2_lowest_18 : decode cX2_lowest 18 = .ok (.lneg, 1) := by decide +kernel
theorem dX2_lowest_19 : decode cX2_lowest 19 = .ok (.goto 7, 3) := by decide +kernel
theorem dX2_lowest_22 : decode cX2_lowest 22 = .ok (.lload_n 1, 1) := by decide +kernel
theorem dX2_lowest_23 : decode cX2_lowest 23 = .ok (.lload 5, 2) := by decide +kernel
theorem dX2_lowest_25 : decode cX2_lowest 25 = .ok (.ldiv, 1) := by decide +kernel
theorem dX2_lowest_26 : decode cX2_lowest 26 = .ok (.putfield 44, 3) := by decide +kernel
theorem dX2_lowest_29 : decode cX2_lowest 29 = .ok (.aload_n 0, 1) := by decide +kernel
theorem dX2_lowest_30 : decode cX2_lowest 30 = .ok (.lload_n 3, 1) := by decide +kernel
theorem dX2_lowest_31 : decode cX2_lowest 31 = .ok (.lconst 0, 1) := by decide +kernel
theorem dX2_lowest_32 : decode cX2_lowest 32 = .ok (.lcmp, 1) := by decide +kernel
theorem dX2_lowest_33 : decode cX2_lowest 33 = .ok (.ifCond .ge 11, 3) := by decide +kernel
theorem dX2_lowest_36 : decode cX2_lowest 36 = .ok (.lload_n 3, 1) := by decide +kernel
theorem dX2_lowest_37 : decode cX2_lowest 37 = .ok (.lload 5, 2) := by decide +kernel
theorem dX2_lowest_39 : decode cX2_lowest 39 = .ok (.ldiv, 1) := by decide +kernel
theorem dX2_lowest_40 : decode cX2_lowest 40 = .ok (.lneg, 1) := by decide +kernel
theorem dX2_lowest_41 : decode cX2_lowest 41 = .ok (.goto 7, 3) := by decide +kernel
theorem dX2_lowest_44 : decode cX2_lowest 44 = .ok (.lload_n 3, 1) := by decide +kernel
theorem dX2_lowest_45 : decode cX2_lowest 45 = .ok (.lload 5, 2) := by decide +kernel
theorem dX2_lowest_47 : decode cX2_lowest 47 = .ok (.ldiv, 1) := by decide +kernel
theorem dX2_lowest_48 : decode cX2_lowest 48 = .ok (.putfield 48, 3) := by decide +kernel
theorem dX2_lowest_51 : decode cX2_lowest 51 = .ok (.return_, 1) := by decide +kernel
theorem dX2_put_0 : decode cX2_put 0 = .ok (.aload_n 0, 1) := by decide +kernel
theorem dX2_put_1 : decode cX2_put 1 = .ok (.iload_n 1, 1) := by decide +kernel
theorem dX2_put_2 : decode cX2_put 2 = .ok (.i2l, 1) := by decide +kernel
theorem dX2_put_3 : decode cX2_put 3 = .ok (.lconst 0, 1) := by decide +kernel
theorem dX2_put_4 : decode cX2_put 4 = .ok (.ldc2_w 51, 3) := by decide +kernel
theorem dX2_put_7 : decode cX2_put 7 = .ok (.invokestatic 53, 3) := by decide +kernel
theorem dX2_put_10 : decode cX2_put 10 = .ok (.ifCond .ne 7, 3) := by decide +kernel
theorem dX2_put_13 : decode cX2_put 13 = .ok (.iconst 1, 1) := by decide +kernel
theorem dX2_put_14 : decode cX2_put 14 = .ok (.goto 22, 3) := by decide +kernel
theorem dX2_put_17 : decode cX2_put 17 = .ok (.iload_n 2, 1) := by decide +kernel
theorem dX2_put_18 : decode cX2_put 18 = .ok (.i2l, 1) := by decide +kernel
theorem dX2_put_19 : decode cX2_put 19 = .ok (.ldc2_w 57, 3) := by decide +kernel
theorem dX2_put_22 : decode cX2_put 22 = .ok (.ldc2_w 59, 3) := by decide +kernel
theorem dX2_put_25 : decode cX2_put 25 = .ok (.invokestatic 53, 3) := by decide +kernel
theorem dX2_put_28 : decode cX2_put 28 = .ok (.ifCond .eq 7, 3) := by decide +kernel
theorem dX2_put_31 : decode cX2_put 31 = .ok (.iconst 0, 1) := by decide +kernel
theorem dX2_put_32 : decode cX2_put 32 = .ok (.goto 4, 3) := by decide +kernel
theorem dX2_put_35 : decode cX2_put 35 = .ok (.iconst 2, 1) := by decide +kernel
theorem dX2_put_36 : decode cX2_put 36 = .ok (.putfield 32, 3) := by decide +kernel
theorem dX2_put_39 : decode cX2_put 39 = .ok (.aload_n 0, 1) := by decide +kernel
theorem dX2_put_40 : decode cX2_put 40 = .ok (.getfield 32, 3) := by decide +kernel
theorem dX2_put_43 : decode cX2_put 43 = .ok (.ifCond .le 5, 3) := by decide +kernel
theorem dX2_put_46 : decode cX2_put 46 = .ok (.iconst 0, 1) := by decide +kernel
theorem dX2_put_47 : decode cX2_put 47 = .ok (.ireturn, 1) := by decide +kernel
theorem dX2_put_48 : decode cX2_put 48 = .ok (.aload_n 0, 1) := by decide +kernel
theorem dX2_put_49 : decode cX2_put 49 = .ok (.getfield 7, 3) := by decide +kernel
theorem dX2_put_52 : decode cX2_put 52 = .ok (.iload_n 1, 1) := by decide +kernel
theorem dX2_put_53 : decode cX2_put 53 = .ok (.iaload, 1) := by decide +kernel
theorem dX2_put_54 : decode cX2_put 54 = .ok (.iload_n 2, 1) := by decide +kernel
theorem dX2_put_55 : decode cX2_put 55 = .ok (.if_icmp .eq 7, 3) := by decide +kernel
theorem dX2_put_58 : decode cX2_put 58 = .ok (.iconst 1, 1) := by decide +kernel
theorem dX2_put_59 : decode cX2_put 59 = .ok (.goto 4, 3) := by decide +kernel
theorem dX2_put_62 : decode cX2_put 62 = .ok (.iconst 0, 1) := by decide +kernel
theorem dX2_put_63 : decode cX2_put 63 = .ok (.istore_n 3, 1) := by decide +kernel
theorem dX2_put_64 : decode cX2_put 64 = .ok (.aload_n 0, 1) := by decide +kernel
theorem dX2_put_65 : decode cX2_put 65 = .ok (.getfield 7, 3) := by decide +kernel
theorem dX2_put_68 : decode cX2_put 68 = .ok (.iload_n 1, 1) := by decide +kernel
theorem dX2_put_69 : decode cX2_put 69 = .ok (.iload_n 2, 1) := by decide +kernel
theorem dX2_put_70 : decode cX2_put 70 = .ok (.iastore, 1) := by decide +kernel
theorem dX2_put_71 : decode cX2_put 71 = .ok (.iload_n 3, 1) := by decide +kernel
theorem dX2_put_72 : decode cX2_put 72 = .ok (.ireturn, 1) := by decide +kernel
theorem dX2_at_0 : decode cX2_at 0 = .ok (.aload_n 0, 1) := by decide +kernel
theorem dX2_at_1 : decode cX2_at 1 = .ok (.iload_n 1, 1) := by decide +kernel
theorem dX2_at_2 : decode cX2_at 2 = .ok (.i2l, 1) := by decide +kernel
theorem dX2_at_3 : decode cX2_at 3 = .ok (.lconst 0, 1) := by decide +kernel
theorem dX2_at_4 : decode cX2_at 4 = .ok (.ldc2_w 51, 3) := by decide +kernel
theorem dX2_at_7 : decode cX2_at 7 = .ok (.invokestatic 53, 3) := by decide +kernel
theorem dX2_at_10 : decode cX2_at 10 = .ok (.ifCond .eq 7, 3) := by decide +kernel
theorem dX2_at_13 : decode cX2_at 13 = .ok (.iconst 0, 1) := by decide +kernel
theorem dX2_at_14 : decode cX2_at 14 = .ok (.goto 4, 3) := by decide +kernel
theorem dX2_at_17 : decode cX2_at 17 = .ok (.iconst 1, 1) := by decide +kernel
theorem dX2_at_18 : decode cX2_at 18 = .ok (.putfield 32, 3) := by decide +kernel
theorem dX2_at_21 : decode cX2_at 21 = .ok (.aload_n 0, 1) := by decide +kernel
theorem dX2_at_22 : decode cX2_at 22 = .ok (.getfield 32, 3) := by decide +kernel
theorem dX2_at_25 : decode cX2_at 25 = .ok (.ifCond .le 7, 3) := by decide +kernel
theorem dX2_at_28 : decode cX2_at 28 = .ok (.iconst 0, 1) := by decide +kernel
theorem dX2_at_29 : decode cX2_at 29 = .ok (.goto 9, 3) := by decide +kernel
theorem dX2_at_32 : decode cX2_at 32 = .ok (.aload_n 0, 1) := by decide +kernel
theorem dX2_at_33 : decode cX2_at 33 = .ok (.getfield 7, 3) := by decide +kernel
theorem dX2_at_36 : decode cX2_at 36 = .ok (.iload_n 1, 1) := by decide +kernel
theorem dX2_at_37 : decode cX2_at 37 = .ok (.iaload, 1) := by decide +kernel
theorem dX2_at_38 : decode cX2_at 38 = .ok (.ireturn, 1) := by decide +kernel
theorem dX2_clear_0 : decode cX2_clear 0 = .ok (.aload_n 0, 1) := by decide +kernel
theorem dX2_clear_1 : decode cX2_clear 1 = .ok (.iconst 0, 1) := by decide +kernel
theorem dX2_clear_2 : decode cX2_clear 2 = .ok (.putfield 32, 3) := by decide +kernel
theorem dX2_clear_5 : decode cX2_clear 5 = .ok (.iconst 0, 1) := by decide +kernel
theorem dX2_clear_6 : decode cX2_clear 6 = .ok (.istore_n 1, 1) := by decide +kernel
theorem dX2_clear_7 : decode cX2_clear 7 = .ok (.iload_n 1, 1) := by decide +kernel
theorem dX2_clear_8 : decode cX2_clear 8 = .ok (.iconst 5, 1) := by decide +kernel
theorem dX2_clear_9 : decode cX2_clear 9 = .ok (.if_icmp .ge 16, 3) := by decide +kernel
theorem dX2_clear_12 : decode cX2_clear 12 = .ok (.aload_n 0, 1) := by decide +kernel
theorem dX2_clear_13 : decode cX2_clear 13 = .ok (.getfield 7, 3) := by decide +kernel
theorem dX2_clear_16 : decode cX2_clear 16 = .ok (.iload_n 1, 1) := by decide +kernel
theorem dX2_clear_17 : decode cX2_clear 17 = .ok (.iconst 0, 1) := by decide +kernel
theorem dX2_clear_18 : decode cX2_clear 18 = .ok (.iastore, 1) := by decide +kernel
theorem dX2_clear_19 : decode cX2_clear 19 = .ok (.iinc 1 1, 3) := by decide +kernel
theorem dX2_clear_22 : decode cX2_clear 22 = .ok (.goto (-15), 3) := by decide +kernel
theorem dX2_clear_25 : decode cX2_clear 25 = .ok (.return_, 1) := by decide +kernel
theorem dX2_degree_0 : decode cX2_degree 0 = .ok (.iconst 4, 1) := by decide +kernel
theorem dX2_degree_1 : decode cX2_degree 1 = .ok (.istore_n 1, 1) := by decide +kernel
theorem dX2_degree_2 : decode cX2_degree 2 = .ok (.iload_n 1, 1) := by decide +kernel
theorem dX2_degree_3 : decode cX2_degree 3 = .ok (.ifCond .lt 18, 3) := by decide +kernel
theorem dX2_degree_6 : decode cX2_degree 6 = .ok (.aload_n 0, 1) := by decide +kernel
theorem dX2_degree_7 : decode cX2_degree 7 = .ok (.getfield 7, 3) := by decide +kernel
theorem dX2_degree_10 : decode cX2_degree 10 = .ok (.iload_n 1, 1) := by decide +kernel
theorem dX2_degree_11 : decode cX2_degree 11 = .ok (.iaload, 1) := by decide +kernel
theorem dX2_degree_12 : decode cX2_degree 12 = .ok (.ifCond .ne 9, 3) := by decide +kernel
theorem dX2_degree_15 : decode cX2_degree 15 = .ok (.iinc 1 (-1), 3) := by decide +kernel
theorem dX2_degree_18 : decode cX2_degree 18 = .ok (.goto (-16), 3) := by decide +kernel
theorem dX2_degree_21 : decode cX2_degree 21 = .ok (.iload_n 1, 1) := by decide +kernel
theorem dX2_degree_22 : decode cX2_degree 22 = .ok (.ireturn, 1) := by decide +kernel
theorem dX2_change_0 : decode cX2_change 0 = .ok (.aload_n 0, 1) := by decide +kernel
theorem dX2_change_1 : decode cX2_change 1 = .ok (.iload_n 1, 1) := by decide +kernel
theorem dX2_change_2 : decode cX2_change 2 = .ok (.i2l, 1) := by decide +kernel
theorem dX2_change_3 : decode cX2_change 3 = .ok (.ldc2_w 61, 3) := by decide +kernel
theorem dX2_change_6 : decode cX2_change 6 = .ok (.ldc2_w 63, 3) := by decide +kernel
theorem dX2_change_9 : decode cX2_change 9 = .ok (.invokestatic 53, 3) := by decide +kernel
theorem dX2_change_12 : decode cX2_change 12 = .ok (.ifCond .eq 7, 3) := by decide +kernel
theorem dX2_change_15 : decode cX2_change 15 = .ok (.iconst 0, 1) := by decide +kernel
theorem dX2_change_16 : decode cX2_change 16 = .ok (.goto 4, 3) := by decide +kernel
theorem dX2_change_19 : decode cX2_change 19 = .ok (.iconst 1, 1) := by decide +kernel
theorem dX2_change_20 : decode cX2_change 20 = .ok (.putfield 32, 3) := by decide +kernel
theorem dX2_change_23 : decode cX2_change 23 = .ok (.aload_n 0, 1) := by decide +kernel
theorem dX2_change_24 : decode cX2_change 24 = .ok (.invokevirtual 65, 3) := by decide +kernel
theorem dX2_change_27 : decode cX2_change 27 = .ok (.istore_n 2, 1) := by decide +kernel
theorem dX2_change_28 : decode cX2_change 28 = .ok (.aload_n 0, 1) := by decide +kernel
theorem dX2_change_29 : decode cX2_change 29 = .ok (.getfield 32, 3) := by decide +kernel
theorem dX2_change_32 : decode cX2_change 32 = .ok (.ifCond .gt 7, 3) := by decide +kernel
theorem dX2_change_35 : decode cX2_change 35 = .ok (.iload_n 2, 1) := by decide +kernel
theorem dX2_change_36 : decode cX2_change 36 = .ok (.ifCond .ge 5, 3) := by decide +kernel
theorem dX2_change_39 : decode cX2_change 39 = .ok (.iconst 0, 1) := by decide +kernel
theorem dX2_change_40 : decode cX2_change 40 = .ok (.ireturn, 1) := by decide +kernel
theorem dX2_change_41 : decode cX2_change 41 = .ok (.iconst 0, 1) := by decide +kernel
theorem dX2_change_42 : decode cX2_change 42 = .ok (.istore_n 3, 1) := by decide +kernel
theorem dX2_change_43 : decode cX2_change 43 = .ok (.iload_n 3, 1) := by decide +kernel
theorem dX2_change_44 : decode cX2_change 44 = .ok (.iconst 5, 1) := by decide +kernel
theorem dX2_change_45 : decode cX2_change 45 = .ok (.if_icmp .ge 66, 3) := by decide +kernel
theorem dX2_change_48 : decode cX2_change 48 = .ok (.aload_n 0, 1) := by decide +kernel
theorem dX2_change_49 : decode cX2_change 49 = .ok (.getfield 13, 3) := by decide +kernel
theorem dX2_change_52 : decode cX2_change 52 = .ok (.iload_n 3, 1) := by decide +kernel
theorem dX2_change_53 : decode cX2_change 53 = .ok (.iload_n 1, 1) := by decide +kernel
theorem dX2_change_54 : decode cX2_change 54 = .ok (.iconst 2, 1) := by decide +kernel
theorem dX2_change_55 : decode cX2_change 55 = .ok (.if_icmp .ne 20, 3) := by decide +kernel
theorem dX2_change_58 : decode cX2_change 58 = .ok (.iload_n 3, 1) := by decide +kernel
theorem dX2_change_59 : decode cX2_change 59 = .ok (.iload_n 2, 1) := by decide +kernel
theorem dX2_change_60 : decode cX2_change 60 = .ok (.if_icmp .gt 15, 3) := by decide +kernel
theorem dX2_change_63 : decode cX2_change 63 = .ok (.aload_n 0, 1) := by decide +kernel
theorem dX2_change_64 : decode cX2_change 64 = .ok (.getfield 7, 3) := by decide +kernel
theorem dX2_change_67 : decode cX2_change 67 = .ok (.iload_n 2, 1) := by decide +kernel
theorem dX2_change_68 : decode cX2_change 68 = .ok (.iload_n 3, 1) := by decide +kernel
theorem dX2_change_69 : decode cX2_change 69 = .ok (.isub, 1) := by decide +kernel
theorem dX2_change_70 : decode cX2_change 70 = .ok (.iaload, 1) := by decide +kernel
theorem dX2_change_71 : decode cX2_change 71 = .ok (.i2l, 1) := by decide +kernel
theorem dX2_change_72 : decode cX2_change 72 = .ok (.goto 32, 3) := by decide +kernel
theorem dX2_change_75 : decode cX2_change 75 = .ok (.iload_n 1, 1) := by decide +kernel
theorem dX2_change_76 : decode cX2_change 76 = .ok (.ifCond .ne 21, 3) := by decide +kernel
theorem dX2_change_79 : decode cX2_change 79 = .ok (.iload_n 3, 1) := by decide +kernel
theorem dX2_change_80 : decode cX2_change 80 = .ok (.iconst 2, 1) := by decide +kernel
theorem dX2_change_81 : decode cX2_change 81 = .ok (.irem, 1) := by decide +kernel
theorem dX2_change_82 : decode cX2_change 82 = .ok (.iconst 1, 1) := by decide +kernel
theorem dX2_change_83 : decode cX2_change 83 = .ok (.if_icmp .ne 14, 3) := by decide +kernel
theorem dX2_change_86 : decode cX2_change 86 = .ok (.aload_n 0, 1) := by decide +kernel
theorem dX2_change_87 : decode cX2_change 87 = .ok (.getfield 7, 3) := by decide +kernel
theorem dX2_change_90 : decode cX2_change 90 = .ok (.iload_n 3, 1) := by decide +kernel
theorem dX2_change_91 : decode cX2_change 91 = .ok (.iaload, 1) := by decide +kernel
theorem dX2_change_92 : decode cX2_change 92 = .ok (.ineg, 1) := by decide +kernel
theorem dX2_change_93 : decode cX2_change 93 = .ok (.i2l, 1) := by decide +kernel
theorem dX2_change_94 : decode cX2_change 94 = .ok (.goto 10, 3) := by decide +kernel
theorem dX2_change_97 : decode cX2_change 97 = .ok (.aload_n 0, 1) := by decide +kernel
theorem dX2_change_98 : decode cX2_change 98 = .ok (.getfield 7, 3) := by decide +kernel
theorem dX2_change_101 : decode cX2_change 101 = .ok (.iload_n 3, 1) := by decide +kernel
theorem dX2_change_102 : decode cX2_change 102 = .ok (.iaload, 1) := by decide +kernel
theorem dX2_change_103 : decode cX2_change 103 = .ok (.i2l, 1) := by decide +kernel
theorem dX2_change_104 : decode cX2_change 104 = .ok (.lastore, 1) := by decide +kernel
theorem dX2_change_105 : decode cX2_change 105 = .ok (.iinc 3 1, 3) := by decide +kernel
theorem dX2_change_108 : decode cX2_change 108 = .ok (.goto (-65), 3) := by decide +kernel
theorem dX2_change_111 : decode cX2_change 111 = .ok (.iload_n 1, 1) := by decide +kernel
theorem dX2_change_112 : decode cX2_change 112 = .ok (.iconst 1, 1) := by decide +kernel
theorem dX2_change_113 : decode cX2_change 113 = .ok (.if_icmp .eq 8, 3) := by decide +kernel
theorem dX2_change_116 : decode cX2_change 116 = .ok (.iload_n 1, 1) := by decide +kernel
theorem dX2_change_117 : decode cX2_change 117 = .ok (.iconst (-1), 1) := by decide +kernel
theorem dX2_change_118 : decode cX2_change 118 = .ok (.if_icmp .ne 53, 3) := by decide +kernel
theorem dX2_change_121 : decode cX2_change 121 = .ok (.iconst 0, 1) := by decide +kernel
theorem dX2_change_122 : decode cX2_change 122 = .ok (.istore_n 3, 1) := by decide +kernel
theorem dX2_change_123 : decode cX2_change 123 = .ok (.iload_n 3, 1) := by decide +kernel
theorem dX2_change_124 : decode cX2_change 124 = .ok (.iconst 4, 1) := by decide +kernel
theorem dX2_change_125 : decode cX2_change 125 = .ok (.if_icmp .ge 46, 3) := by decide +kernel
theorem dX2_change_128 : decode cX2_change 128 = .ok (.iconst 3, 1) := by decide +kernel
theorem dX2_change_129 : decode cX2_change 129 = .ok (.istore 4, 2) := by decide +kernel
theorem dX2_change_131 : decode cX2_change 131 = .ok (.iload 4, 2) := by decide +kernel
theorem dX2_change_133 : decode cX2_change 133 = .ok (.iload_n 3, 1) := by decide +kernel
theorem dX2_change_134 : decode cX2_change 134 = .ok (.if_icmp .lt 31, 3) := by decide +kernel
theorem dX2_change_137 : decode cX2_change 137 = .ok (.aload_n 0, 1) := by decide +kernel
theorem dX2_change_138 : decode cX2_change 138 = .ok (.getfield 13, 3) := by decide +kernel
theorem dX2_change_141 : decode cX2_change 141 = .ok (.iload 4, 2) := by decide +kernel
theorem dX2_change_143 : decode cX2_change 143 = .ok (.dup2, 1) := by decide +kernel
theorem dX2_change_144 : decode cX2_change 144 = .ok (.laload, 1) := by decide +kernel
theorem dX2_change_145 : decode cX2_change 145 = .ok (.iload_n 1, 1) := by decide +kernel
theorem dX2_change_146 : decode cX2_change 146 = .ok (.i2l, 1) := by decide +kernel
theorem dX2_change_147 : decode cX2_change 147 = .ok (.aload_n 0, 1) := by decide +kernel
theorem dX2_change_148 : decode cX2_change 148 = .ok (.getfield 13, 3) := by decide +kernel
theorem dX2_change_151 : decode cX2_change 151 = .ok (.iload 4, 2) := by decide +kernel
theorem dX2_change_153 : decode cX2_change 153 = .ok (.iconst 1, 1) := by decide +kernel
theorem dX2_change_154 : decode cX2_change 154 = .ok (.iadd, 1) := by decide +kernel
theorem dX2_change_155 : decode cX2_change 155 = .ok (.laload, 1) := by decide +kernel
theorem dX2_change_156 : decode cX2_change 156 = .ok (.lmul, 1) := by decide +kernel
theorem dX2_change_157 : decode cX2_change 157 = .ok (.ladd, 1) := by decide +kernel
theorem dX2_change_158 : decode cX2_change 158 = .ok (.lastore, 1) := by decide +kernel
theorem dX2_change_159 : decode cX2_change 159 = .ok (.iinc 4 (-1), 3) := by decide +kernel
theorem dX2_change_162 : decode cX2_change 162 = .ok (.goto (-31), 3) := by decide +kernel
theorem dX2_change_165 : decode cX2_change 165 = .ok (.iinc 3 1, 3) := by decide +kernel
theorem dX2_change_168 : decode cX2_change 168 = .ok (.goto (-45), 3) := by decide +kernel
theorem dX2_change_171 : decode cX2_change 171 = .ok (.iconst 0, 1) := by decide +kernel
theorem dX2_change_172 : decode cX2_change 172 = .ok (.istore_n 3, 1) := by decide +kernel
theorem dX2_change_173 : decode cX2_change 173 = .ok (.iload_n 3, 1) := by decide +kernel
theorem dX2_change_174 : decode cX2_change 174 = .ok (.iconst 5, 1) := by decide +kernel
theorem dX2_change_175 : decode cX2_change 175 = .ok (.if_icmp .ge 29, 3) := by decide +kernel
theorem dX2_change_178 : decode cX2_change 178 = .ok (.aload_n 0, 1) := by decide +kernel
theorem dX2_change_179 : decode cX2_change 179 = .ok (.getfield 13, 3) := by decide +kernel
theorem dX2_change_182 : decode cX2_change 182 = .ok (.iload_n 3, 1) := by decide +kernel
theorem dX2_change_183 : decode cX2_change 183 = .ok (.laload, 1) := by decide +kernel
theorem dX2_change_184 : decode cX2_change 184 = .ok (.ldc2_w 57, 3) := by decide +kernel
theorem dX2_change_187 : decode cX2_change 187 = .ok (.ldc2_w 59, 3) := by decide +kernel
theorem dX2_change_190 : decode cX2_change 190 = .ok (.invokestatic 53, 3) := by decide +kernel
theorem dX2_change_193 : decode cX2_change 193 = .ok (.ifCond .ne 5, 3) := by decide +kernel
theorem dX2_change_196 : decode cX2_change 196 = .ok (.iconst 0, 1) := by decide +kernel
theorem dX2_change_197 : decode cX2_change 197 = .ok (.ireturn, 1) := by decide +kernel
theorem dX2_change_198 : decode cX2_change 198 = .ok (.iinc 3 1, 3) := by decide +kernel
theorem dX2_change_201 : decode cX2_change 201 = .ok (.goto (-28), 3) := by decide +kernel
theorem dX2_change_204 : decode cX2_change 204 = .ok (.iconst 0, 1) := by decide +kernel
theorem dX2_change_205 : decode cX2_change 205 = .ok (.istore_n 3, 1) := by decide +kernel
theorem dX2_change_206 : decode cX2_change 206 = .ok (.iload_n 3, 1) := by decide +kernel
theorem dX2_change_207 : decode cX2_change 207 = .ok (.iconst 5, 1) := by decide +kernel
theorem dX2_change_208 : decode cX2_change 208 = .ok (.if_icmp .ge 22, 3) := by decide +kernel
theorem dX2_change_211 : decode cX2_change 211 = .ok (.aload_n 0, 1) := by decide +kernel
theorem dX2_change_212 : decode cX2_change 212 = .ok (.getfield 7, 3) := by decide +kernel
theorem dX2_change_215 : decode cX2_change 215 = .ok (.iload_n 3, 1) := by decide +kernel
theorem dX2_change_216 : decode cX2_change 216 = .ok (.aload_n 0, 1) := by decide +kernel
theorem dX2_change_217 : decode cX2_change 217 = .ok (.getfield 13, 3) := by decide +kernel
theorem dX2_change_220 : decode cX2_change 220 = .ok (.iload_n 3, 1) := by decide +kernel
theorem dX2_change_221 : decode cX2_change 221 = .ok (.laload, 1) := by decide +kernel
theorem dX2_change_222 : decode cX2_change 222 = .ok (.l2i, 1) := by decide +kernel
theorem dX2_change_223 : decode cX2_change 223 = .ok (.iastore, 1) := by decide +kernel
theorem dX2_change_224 : decode cX2_change 224 = .ok (.iinc 3 1, 3) := by decide +kernel
theorem dX2_change_227 : decode cX2_change 227 = .ok (.goto (-21), 3) := by decide +kernel
theorem dX2_change_230 : decode cX2_change 230 = .ok (.iconst 1, 1) := by decide +kernel
theorem dX2_change_231 : decode cX2_change 231 = .ok (.ireturn, 1) := by decide +kernel
theorem dX2_restDegree_0 : decode cX2_restDegree 0 = .ok (.iconst 4, 1) := by decide +kernel
theorem dX2_restDegree_1 : decode cX2_restDegree 1 = .ok (.istore_n 1, 1) := by decide +kernel
theorem dX2_restDegree_2 : decode cX2_restDegree 2 = .ok (.aload_n 0, 1) := by decide +kernel
theorem dX2_restDegree_3 : decode cX2_restDegree 3 = .ok (.getfield 13, 3) := by decide +kernel
theorem dX2_restDegree_6 : decode cX2_restDegree 6 = .ok (.iload_n 1, 1) := by decide +kernel
theorem dX2_restDegree_7 : decode cX2_restDegree 7 = .ok (.laload, 1) := by decide +kernel
theorem dX2_restDegree_8 : decode cX2_restDegree 8 = .ok (.lconst 0, 1) := by decide +kernel
theorem dX2_restDegree_9 : decode cX2_restDegree 9 = .ok (.lcmp, 1) := by decide +kernel
theorem dX2_restDegree_10 : decode cX2_restDegree 10 = .ok (.ifCond .ne 9, 3) := by decide +kernel
theorem dX2_restDegree_13 : decode cX2_restDegree 13 = .ok (.iinc 1 (-1), 3) := by decide +kernel
theorem dX2_restDegree_16 : decode cX2_restDegree 16 = .ok (.goto (-14), 3) := by decide +kernel
theorem dX2_restDegree_19 : decode cX2_restDegree 19 = .ok (.iload_n 1, 1) := by decide +kernel
theorem dX2_restDegree_20 : decode cX2_restDegree 20 = .ok (.ireturn, 1) := by decide +kernel
theorem dX2_divides_0 : decode cX2_divides 0 = .ok (.iload_n 1, 1) := by decide +kernel
theorem dX2_divides_1 : decode cX2_divides 1 = .ok (.ifCond .ne 7, 3) := by decide +kernel
theorem dX2_divides_4 : decode cX2_divides 4 = .ok (.iconst 1, 1) := by decide +kernel
theorem dX2_divides_5 : decode cX2_divides 5 = .ok (.goto 4, 3) := by decide +kernel
theorem dX2_divides_8 : decode cX2_divides 8 = .ok (.iconst 2, 1) := by decide +kernel
theorem dX2_divides_9 : decode cX2_divides 9 = .ok (.istore 4, 2) := by decide +kernel
theorem dX2_divides_11 : decode cX2_divides 11 = .ok (.aload_n 0, 1) := by decide +kernel
theorem dX2_divides_12 : decode cX2_divides 12 = .ok (.invokevirtual 69, 3) := by decide +kernel
theorem dX2_divides_15 : decode cX2_divides 15 = .ok (.istore 5, 2) := by decide +kernel
theorem dX2_divides_17 : decode cX2_divides 17 = .ok (.iload 5, 2) := by decide +kernel
theorem dX2_divides_19 : decode cX2_divides 19 = .ok (.iload 4, 2) := by decide +kernel
theorem dX2_divides_21 : decode cX2_divides 21 = .ok (.if_icmp .ge 5, 3) := by decide +kernel
theorem dX2_divides_24 : decode cX2_divides 24 = .ok (.iconst 0, 1) := by decide +kernel
theorem dX2_divides_25 : decode cX2_divides 25 = .ok (.ireturn, 1) := by decide +kernel
theorem dX2_divides_26 : decode cX2_divides 26 = .ok (.iconst 0, 1) := by decide +kernel
theorem dX2_divides_27 : decode cX2_divides 27 = .ok (.istore 6, 2) := by decide +kernel
theorem dX2_divides_29 : decode cX2_divides 29 = .ok (.iload 6, 2) := by decide +kernel
theorem dX2_divides_31 : decode cX2_divides 31 = .ok (.iconst 5, 1) := by decide +kernel
theorem dX2_divides_32 : decode cX2_divides 32 = .ok (.if_icmp .ge 17, 3) := by decide +kernel
theorem dX2_divides_35 : decode cX2_divides 35 = .ok (.aload_n 0, 1) := by decide +kernel
theorem dX2_divides_36 : decode cX2_divides 36 = .ok (.getfield 17, 3) := by decide +kernel
theorem dX2_divides_39 : decode cX2_divides 39 = .ok (.iload 6, 2) := by decide +kernel
theorem dX2_divides_41 : decode cX2_divides 41 = .ok (.lconst 0, 1) := by decide +kernel
theorem dX2_divides_42 : decode cX2_divides 42 = .ok (.lastore, 1) := by decide +kernel
theorem dX2_divides_43 : decode cX2_divides 43 = .ok (.iinc 6 1, 3) := by decide +kernel
theorem dX2_divides_46 : decode cX2_divides 46 = .ok (.goto (-17), 3) := by decide +kernel
theorem dX2_divides_49 : decode cX2_divides 49 = .ok (.iload 5, 2) := by decide +kernel
theorem dX2_divides_51 : decode cX2_divides 51 = .ok (.istore 6, 2) := by decide +kernel
theorem dX2_divides_53 : decode cX2_divides 53 = .ok (.iload 6, 2) := by decide +kernel
theorem dX2_divides_55 : decode cX2_divides 55 = .ok (.ifCond .lt 211, 3) := by decide +kernel
theorem dX2_divides_58 : decode cX2_divides 58 = .ok (.aload_n 0, 1) := by decide +kernel
theorem dX2_divides_59 : decode cX2_divides 59 = .ok (.getfield 13, 3) := by decide +kernel
theorem dX2_divides_62 : decode cX2_divides 62 = .ok (.iload 6, 2) := by decide +kernel
theorem dX2_divides_64 : decode cX2_divides 64 = .ok (.laload, 1) := by decide +kernel
theorem dX2_divides_65 : decode cX2_divides 65 = .ok (.lstore 7, 2) := by decide +kernel
theorem dX2_divides_67 : decode cX2_divides 67 = .ok (.iload 4, 2) := by decide +kernel
theorem dX2_divides_69 : decode cX2_divides 69 = .ok (.iconst 1, 1) := by decide +kernel
theorem dX2_divides_70 : decode cX2_divides 70 = .ok (.if_icmp .ne 72, 3) := by decide +kernel
theorem dX2_divides_73 : decode cX2_divides 73 = .ok (.iload 6, 2) := by decide +kernel
theorem dX2_divides_75 : decode cX2_divides 75 = .ok (.iload 5, 2) := by decide +kernel
theorem dX2_divides_77 : decode cX2_divides 77 = .ok (.if_icmp .ge 18, 3) := by decide +kernel
theorem dX2_divides_80 : decode cX2_divides 80 = .ok (.lload 7, 2) := by decide +kernel
theorem dX2_divides_82 : decode cX2_divides 82 = .ok (.iload_n 3, 1) := by decide +kernel
theorem dX2_divides_83 : decode cX2_divides 83 = .ok (.i2l, 1) := by decide +kernel
theorem dX2_divides_84 : decode cX2_divides 84 = .ok (.aload_n 0, 1) := by decide +kernel
theorem dX2_divides_85 : decode cX2_divides 85 = .ok (.getfield 17, 3) := by decide +kernel
theorem dX2_divides_88 : decode cX2_divides 88 = .ok (.iload 6, 2) := by decide +kernel
theorem dX2_divides_90 : decode cX2_divides 90 = .ok (.laload, 1) := by decide +kernel
theorem dX2_divides_91 : decode cX2_divides 91 = .ok (.lmul, 1) := by decide +kernel
theorem dX2_divides_92 : decode cX2_divides 92 = .ok (.lsub, 1) := by decide +kernel
theorem dX2_divides_93 : decode cX2_divides 93 = .ok (.lstore 7, 2) := by decide +kernel
theorem dX2_divides_95 : decode cX2_divides 95 = .ok (.iload 6, 2) := by decide +kernel
theorem dX2_divides_97 : decode cX2_divides 97 = .ok (.ifCond .ne 16, 3) := by decide +kernel
theorem dX2_divides_100 : decode cX2_divides 100 = .ok (.lload 7, 2) := by decide +kernel
theorem dX2_divides_102 : decode cX2_divides 102 = .ok (.lconst 0, 1) := by decide +kernel
theorem dX2_divides_103 : decode cX2_divides 103 = .ok (.lcmp, 1) := by decide +kernel
theorem dX2_divides_104 : decode cX2_divides 104 = .ok (.ifCond .ne 7, 3) := by decide +kernel
theorem dX2_divides_107 : decode cX2_divides 107 = .ok (.iconst 1, 1) := by decide +kernel
theorem dX2_divides_108 : decode cX2_divides 108 = .ok (.goto 4, 3) := by decide +kernel
theorem dX2_divides_111 : decode cX2_divides 111 = .ok (.iconst 0, 1) := by decide +kernel
theorem dX2_divides_112 : decode cX2_divides 112 = .ok (.ireturn, 1) := by decide +kernel
theorem dX2_divides_113 : decode cX2_divides 113 = .ok (.lload 7, 2) := by decide +kernel
theorem dX2_divides_115 : decode cX2_divides 115 = .ok (.iload_n 2, 1) := by decide +kernel
theorem dX2_divides_116 : decode cX2_divides 116 = .ok (.i2l, 1) := by decide +kernel
theorem dX2_divides_117 : decode cX2_divides 117 = .ok (.lrem, 1) := by decide +kernel
theorem dX2_divides_118 : decode cX2_divides 118 = .ok (.lconst 0, 1) := by decide +kernel
theorem dX2_divides_119 : decode cX2_divides 119 = .ok (.lcmp, 1) := by decide +kernel
theorem dX2_divides_120 : decode cX2_divides 120 = .ok (.ifCond .eq 5, 3) := by decide +kernel
theorem dX2_divides_123 : decode cX2_divides 123 = .ok (.iconst 0, 1) := by decide +kernel
theorem dX2_divides_124 : decode cX2_divides 124 = .ok (.ireturn, 1) := by decide +kernel
theorem dX2_divides_125 : decode cX2_divides 125 = .ok (.aload_n 0, 1) := by decide +kernel
theorem dX2_divides_126 : decode cX2_divides 126 = .ok (.getfield 17, 3) := by decide +kernel
theorem dX2_divides_129 : decode cX2_divides 129 = .ok (.iload 6, 2) := by decide +kernel
theorem dX2_divides_131 : decode cX2_divides 131 = .ok (.iconst 1, 1) := by decide +kernel
theorem dX2_divides_132 : decode cX2_divides 132 = .ok (.isub, 1) := by decide +kernel
theorem dX2_divides_133 : decode cX2_divides 133 = .ok (.lload 7, 2) := by decide +kernel
theorem dX2_divides_135 : decode cX2_divides 135 = .ok (.iload_n 2, 1) := by decide +kernel
theorem dX2_divides_136 : decode cX2_divides 136 = .ok (.i2l, 1) := by decide +kernel
theorem dX2_divides_137 : decode cX2_divides 137 = .ok (.ldiv, 1) := by decide +kernel
theorem dX2_divides_138 : decode cX2_divides 138 = .ok (.lastore, 1) := by decide +kernel
theorem dX2_divides_139 : decode cX2_divides 139 = .ok (.goto 121, 3) := by decide +kernel
theorem dX2_divides_142 : decode cX2_divides 142 = .ok (.iload 6, 2) := by decide +kernel
theorem dX2_divides_144 : decode cX2_divides 144 = .ok (.iconst 1, 1) := by decide +kernel
theorem dX2_divides_145 : decode cX2_divides 145 = .ok (.isub, 1) := by decide +kernel
theorem dX2_divides_146 : decode cX2_divides 146 = .ok (.ifCond .lt 27, 3) := by decide +kernel
theorem dX2_divides_149 : decode cX2_divides 149 = .ok (.iload 6, 2) := by decide +kernel
theorem dX2_divides_151 : decode cX2_divides 151 = .ok (.iload 5, 2) := by decide +kernel
theorem dX2_divides_153 : decode cX2_divides 153 = .ok (.if_icmp .ge 20, 3) := by decide +kernel
theorem dX2_divides_156 : decode cX2_divides 156 = .ok (.lload 7, 2) := by decide +kernel
theorem dX2_divides_158 : decode cX2_divides 158 = .ok (.iload_n 2, 1) := by decide +kernel
theorem dX2_divides_159 : decode cX2_divides 159 = .ok (.i2l, 1) := by decide +kernel
theorem dX2_divides_160 : decode cX2_divides 160 = .ok (.aload_n 0, 1) := by decide +kernel
theorem dX2_divides_161 : decode cX2_divides 161 = .ok (.getfield 17, 3) := by decide +kernel
theorem dX2_divides_164 : decode cX2_divides 164 = .ok (.iload 6, 2) := by decide +kernel
theorem dX2_divides_166 : decode cX2_divides 166 = .ok (.iconst 1, 1) := by decide +kernel
theorem dX2_divides_167 : decode cX2_divides 167 = .ok (.isub, 1) := by decide +kernel
theorem dX2_divides_168 : decode cX2_divides 168 = .ok (.laload, 1) := by decide +kernel
theorem dX2_divides_169 : decode cX2_divides 169 = .ok (.lmul, 1) := by decide +kernel
theorem dX2_divides_170 : decode cX2_divides 170 = .ok (.lsub, 1) := by decide +kernel
theorem dX2_divides_171 : decode cX2_divides 171 = .ok (.lstore 7, 2) := by decide +kernel
theorem dX2_divides_173 : decode cX2_divides 173 = .ok (.iload 6, 2) := by decide +kernel
theorem dX2_divides_175 : decode cX2_divides 175 = .ok (.ifCond .ne 20, 3) := by decide +kernel
theorem dX2_divides_178 : decode cX2_divides 178 = .ok (.lload 7, 2) := by decide +kernel
theorem dX2_divides_180 : decode cX2_divides 180 = .ok (.iload_n 3, 1) := by decide +kernel
theorem dX2_divides_181 : decode cX2_divides 181 = .ok (.i2l, 1) := by decide +kernel
theorem dX2_divides_182 : decode cX2_divides 182 = .ok (.aload_n 0, 1) := by decide +kernel
theorem dX2_divides_183 : decode cX2_divides 183 = .ok (.getfield 17, 3) := by decide +kernel
theorem dX2_divides_186 : decode cX2_divides 186 = .ok (.iconst 0, 1) := by decide +kernel
theorem dX2_divides_187 : decode cX2_divides 187 = .ok (.laload, 1) := by decide +kernel
theorem dX2_divides_188 : decode cX2_divides 188 = .ok (.lmul, 1) := by decide +kernel
theorem dX2_divides_189 : decode cX2_divides 189 = .ok (.lsub, 1) := by decide +kernel
theorem dX2_divides_190 : decode cX2_divides 190 = .ok (.lstore 7, 2) := by decide +kernel
theorem dX2_divides_192 : decode cX2_divides 192 = .ok (.goto 27, 3) := by decide +kernel
theorem dX2_divides_195 : decode cX2_divides 195 = .ok (.iload 6, 2) := by decide +kernel
theorem dX2_divides_197 : decode cX2_divides 197 = .ok (.iload 5, 2) := by decide +kernel
theorem dX2_divides_199 : decode cX2_divides 199 = .ok (.iconst 2, 1) := by decide +kernel
theorem dX2_divides_200 : decode cX2_divides 200 = .ok (.isub, 1) := by decide +kernel
theorem dX2_divides_201 : decode cX2_divides 201 = .ok (.if_icmp .gt 18, 3) := by decide +kernel
theorem dX2_divides_204 : decode cX2_divides 204 = .ok (.lload 7, 2) := by decide +kernel
theorem dX2_divides_206 : decode cX2_divides 206 = .ok (.iload_n 3, 1) := by decide +kernel
theorem dX2_divides_207 : decode cX2_divides 207 = .ok (.i2l, 1) := by decide +kernel
theorem dX2_divides_208 : decode cX2_divides 208 = .ok (.aload_n 0, 1) := by decide +kernel
theorem dX2_divides_209 : decode cX2_divides 209 = .ok (.getfield 17, 3) := by decide +kernel
theorem dX2_divides_212 : decode cX2_divides 212 = .ok (.iload 6, 2) := by decide +kernel
theorem dX2_divides_214 : decode cX2_divides 214 = .ok (.laload, 1) := by decide +kernel
theorem dX2_divides_215 : decode cX2_divides 215 = .ok (.lmul, 1) := by decide +kernel
theorem dX2_divides_216 : decode cX2_divides 216 = .ok (.lsub, 1) := by decide +kernel
theorem dX2_divides_217 : decode cX2_divides 217 = .ok (.lstore 7, 2) := by decide +kernel
theorem dX2_divides_219 : decode cX2_divides 219 = .ok (.iload 6, 2) := by decide +kernel
theorem dX2_divides_221 : decode cX2_divides 221 = .ok (.iconst 2, 1) := by decide +kernel
theorem dX2_divides_222 : decode cX2_divides 222 = .ok (.if_icmp .ge 12, 3) := by decide +kernel
theorem dX2_divides_225 : decode cX2_divides 225 = .ok (.lload 7, 2) := by decide +kernel
theorem dX2_divides_227 : decode cX2_divides 227 = .ok (.lconst 0, 1) := by decide +kernel
theorem dX2_divides_228 : decode cX2_divides 228 = .ok (.lcmp, 1) := by decide +kernel
theorem dX2_divides_229 : decode cX2_divides 229 = .ok (.ifCond .eq 31, 3) := by decide +kernel
theorem dX2_divides_232 : decode cX2_divides 232 = .ok (.iconst 0, 1) := by decide +kernel
theorem dX2_divides_233 : decode cX2_divides 233 = .ok (.ireturn, 1) := by decide +kernel
theorem dX2_divides_234 : decode cX2_divides 234 = .ok (.lload 7, 2) := by decide +kernel
theorem dX2_divides_236 : decode cX2_divides 236 = .ok (.iload_n 1, 1) := by decide +kernel
theorem dX2_divides_237 : decode cX2_divides 237 = .ok (.i2l, 1) := by decide +kernel
theorem dX2_divides_238 : decode cX2_divides 238 = .ok (.lrem, 1) := by decide +kernel
theorem dX2_divides_239 : decode cX2_divides 239 = .ok (.lconst 0, 1) := by decide +kernel
theorem dX2_divides_240 : decode cX2_divides 240 = .ok (.lcmp, 1) := by decide +kernel
theorem dX2_divides_241 : decode cX2_divides 241 = .ok (.ifCond .eq 5, 3) := by decide +kernel
theorem dX2_divides_244 : decode cX2_divides 244 = .ok (.iconst 0, 1) := by decide +kernel
theorem dX2_divides_245 : decode cX2_divides 245 = .ok (.ireturn, 1) := by decide +kernel
theorem dX2_divides_246 : decode cX2_divides 246 = .ok (.aload_n 0, 1) := by decide +kernel
theorem dX2_divides_247 : decode cX2_divides 247 = .ok (.getfield 17, 3) := by decide +kernel
theorem dX2_divides_250 : decode cX2_divides 250 = .ok (.iload 6, 2) := by decide +kernel
theorem dX2_divides_252 : decode cX2_divides 252 = .ok (.iconst 2, 1) := by decide +kernel
theorem dX2_divides_253 : decode cX2_divides 253 = .ok (.isub, 1) := by decide +kernel
theorem dX2_divides_254 : decode cX2_divides 254 = .ok (.lload 7, 2) := by decide +kernel
theorem dX2_divides_256 : decode cX2_divides 256 = .ok (.iload_n 1, 1) := by decide +kernel
theorem dX2_divides_257 : decode cX2_divides 257 = .ok (.i2l, 1) := by decide +kernel
theorem dX2_divides_258 : decode cX2_divides 258 = .ok (.ldiv, 1) := by decide +kernel
theorem dX2_divides_259 : decode cX2_divides 259 = .ok (.lastore, 1) := by decide +kernel
theorem dX2_divides_260 : decode cX2_divides 260 = .ok (.iinc 6 (-1), 3) := by decide +kernel
theorem dX2_divides_263 : decode cX2_divides 263 = .ok (.goto (-210), 3) := by decide +kernel
theorem dX2_divides_266 : decode cX2_divides 266 = .ok (.iconst 1, 1) := by decide +kernel
theorem dX2_divides_267 : decode cX2_divides 267 = .ok (.ireturn, 1) := by decide +kernel
theorem dX2_take_0 : decode cX2_take 0 = .ok (.aload_n 0, 1) := by decide +kernel
theorem dX2_take_1 : decode cX2_take 1 = .ok (.getfield 20, 3) := by decide +kernel
theorem dX2_take_4 : decode cX2_take 4 = .ok (.aload_n 0, 1) := by decide +kernel
theorem dX2_take_5 : decode cX2_take 5 = .ok (.getfield 72, 3) := by decide +kernel
theorem dX2_take_8 : decode cX2_take 8 = .ok (.iload_n 1, 1) := by decide +kernel
theorem dX2_take_9 : decode cX2_take 9 = .ok (.iastore, 1) := by decide +kernel
theorem dX2_take_10 : decode cX2_take 10 = .ok (.aload_n 0, 1) := by decide +kernel
theorem dX2_take_11 : decode cX2_take 11 = .ok (.getfield 23, 3) := by decide +kernel
theorem dX2_take_14 : decode cX2_take 14 = .ok (.aload_n 0, 1) := by decide +kernel
theorem dX2_take_15 : decode cX2_take 15 = .ok (.getfield 72, 3) := by decide +kernel
theorem dX2_take_18 : decode cX2_take 18 = .ok (.iload_n 2, 1) := by decide +kernel
theorem dX2_take_19 : decode cX2_take 19 = .ok (.iastore, 1) := by decide +kernel
theorem dX2_take_20 : decode cX2_take 20 = .ok (.aload_n 0, 1) := by decide +kernel
theorem dX2_take_21 : decode cX2_take 21 = .ok (.getfield 26, 3) := by decide +kernel
theorem dX2_take_24 : decode cX2_take 24 = .ok (.aload_n 0, 1) := by decide +kernel
theorem dX2_take_25 : decode cX2_take 25 = .ok (.getfield 72, 3) := by decide +kernel
theorem dX2_take_28 : decode cX2_take 28 = .ok (.iload_n 3, 1) := by decide +kernel
theorem dX2_take_29 : decode cX2_take 29 = .ok (.iastore, 1) := by decide +kernel
theorem dX2_take_30 : decode cX2_take 30 = .ok (.aload_n 0, 1) := by decide +kernel
theorem dX2_take_31 : decode cX2_take 31 = .ok (.getfield 29, 3) := by decide +kernel
theorem dX2_take_34 : decode cX2_take 34 = .ok (.aload_n 0, 1) := by decide +kernel
theorem dX2_take_35 : decode cX2_take 35 = .ok (.getfield 72, 3) := by decide +kernel
theorem dX2_take_38 : decode cX2_take 38 = .ok (.iconst 0, 1) := by decide +kernel
theorem dX2_take_39 : decode cX2_take 39 = .ok (.iastore, 1) := by decide +kernel
theorem dX2_take_40 : decode cX2_take 40 = .ok (.aload_n 0, 1) := by decide +kernel
theorem dX2_take_41 : decode cX2_take 41 = .ok (.iload_n 1, 1) := by decide +kernel
theorem dX2_take_42 : decode cX2_take 42 = .ok (.iload_n 2, 1) := by decide +kernel
theorem dX2_take_43 : decode cX2_take 43 = .ok (.iload_n 3, 1) := by decide +kernel
theorem dX2_take_44 : decode cX2_take 44 = .ok (.invokevirtual 75, 3) := by decide +kernel
theorem dX2_take_47 : decode cX2_take 47 = .ok (.ifCond .eq 48, 3) := by decide +kernel
theorem dX2_take_50 : decode cX2_take 50 = .ok (.iconst 0, 1) := by decide +kernel
theorem dX2_take_51 : decode cX2_take 51 = .ok (.istore 4, 2) := by decide +kernel
theorem dX2_take_53 : decode cX2_take 53 = .ok (.iload 4, 2) := by decide +kernel
theorem dX2_take_55 : decode cX2_take 55 = .ok (.iconst 5, 1) := by decide +kernel
theorem dX2_take_56 : decode cX2_take 56 = .ok (.if_icmp .ge 23, 3) := by decide +kernel
theorem dX2_take_59 : decode cX2_take 59 = .ok (.aload_n 0, 1) := by decide +kernel
theorem dX2_take_60 : decode cX2_take 60 = .ok (.getfield 13, 3) := by decide +kernel
theorem dX2_take_63 : decode cX2_take 63 = .ok (.iload 4, 2) := by decide +kernel
theorem dX2_take_65 : decode cX2_take 65 = .ok (.aload_n 0, 1) := by decide +kernel
theorem dX2_take_66 : decode cX2_take 66 = .ok (.getfield 17, 3) := by decide +kernel
theorem dX2_take_69 : decode cX2_take 69 = .ok (.iload 4, 2) := by decide +kernel
theorem dX2_take_71 : decode cX2_take 71 = .ok (.laload, 1) := by decide +kernel
theorem dX2_take_72 : decode cX2_take 72 = .ok (.lastore, 1) := by decide +kernel
theorem dX2_take_73 : decode cX2_take 73 = .ok (.iinc 4 1, 3) := by decide +kernel
theorem dX2_take_76 : decode cX2_take 76 = .ok (.goto (-23), 3) := by decide +kernel
theorem dX2_take_79 : decode cX2_take 79 = .ok (.aload_n 0, 1) := by decide +kernel
theorem dX2_take_80 : decode cX2_take 80 = .ok (.getfield 29, 3) := by decide +kernel
theorem dX2_take_83 : decode cX2_take 83 = .ok (.aload_n 0, 1) := by decide +kernel
theorem dX2_take_84 : decode cX2_take 84 = .ok (.getfield 72, 3) := by decide +kernel
theorem dX2_take_87 : decode cX2_take 87 = .ok (.dup2, 1) := by decide +kernel
theorem dX2_take_88 : decode cX2_take 88 = .ok (.iaload, 1) := by decide +kernel
theorem dX2_take_89 : decode cX2_take 89 = .ok (.iconst 1, 1) := by decide +kernel
theorem dX2_take_90 : decode cX2_take 90 = .ok (.iadd, 1) := by decide +kernel
theorem dX2_take_91 : decode cX2_take 91 = .ok (.iastore, 1) := by decide +kernel
theorem dX2_take_92 : decode cX2_take 92 = .ok (.goto (-52), 3) := by decide +kernel
theorem dX2_take_95 : decode cX2_take 95 = .ok (.aload_n 0, 1) := by decide +kernel
theorem dX2_take_96 : decode cX2_take 96 = .ok (.getfield 29, 3) := by decide +kernel
theorem dX2_take_99 : decode cX2_take 99 = .ok (.aload_n 0, 1) := by decide +kernel
theorem dX2_take_100 : decode cX2_take 100 = .ok (.getfield 72, 3) := by decide +kernel
theorem dX2_take_103 : decode cX2_take 103 = .ok (.iaload, 1) := by decide +kernel
theorem dX2_take_104 : decode cX2_take 104 = .ok (.ifCond .le 13, 3) := by decide +kernel
theorem dX2_take_107 : decode cX2_take 107 = .ok (.aload_n 0, 1) := by decide +kernel
theorem dX2_take_108 : decode cX2_take 108 = .ok (.dup, 1) := by decide +kernel
theorem dX2_take_109 : decode cX2_take 109 = .ok (.getfield 72, 3) := by decide +kernel
theorem dX2_take_112 : decode cX2_take 112 = .ok (.iconst 1, 1) := by decide +kernel
theorem dX2_take_113 : decode cX2_take 113 = .ok (.iadd, 1) := by decide +kernel
theorem dX2_take_114 : decode cX2_take 114 = .ok (.putfield 72, 3) := by decide +kernel
theorem dX2_take_117 : decode cX2_take 117 = .ok (.return_, 1) := by decide +kernel
theorem dX2_order_0 : decode cX2_order 0 = .ok (.aload_n 0, 1) := by decide +kernel
theorem dX2_order_1 : decode cX2_order 1 = .ok (.getfield 72, 3) := by decide +kernel
theorem dX2_order_4 : decode cX2_order 4 = .ok (.iconst 1, 1) := by decide +kernel
theorem dX2_order_5 : decode cX2_order 5 = .ok (.isub, 1) := by decide +kernel
theorem dX2_order_6 : decode cX2_order 6 = .ok (.istore_n 1, 1) := by decide +kernel
theorem dX2_order_7 : decode cX2_order 7 = .ok (.iload_n 1, 1) := by decide +kernel
theorem dX2_order_8 : decode cX2_order 8 = .ok (.ifCond .le 140, 3) := by decide +kernel
theorem dX2_order_11 : decode cX2_order 11 = .ok (.aload_n 0, 1) := by decide +kernel
theorem dX2_order_12 : decode cX2_order 12 = .ok (.getfield 26, 3) := by decide +kernel
theorem dX2_order_15 : decode cX2_order 15 = .ok (.iload_n 1, 1) := by decide +kernel
theorem dX2_order_16 : decode cX2_order 16 = .ok (.iconst 1, 1) := by decide +kernel
theorem dX2_order_17 : decode cX2_order 17 = .ok (.isub, 1) := by decide +kernel
theorem dX2_order_18 : decode cX2_order 18 = .ok (.iaload, 1) := by decide +kernel
theorem dX2_order_19 : decode cX2_order 19 = .ok (.ineg, 1) := by decide +kernel
theorem dX2_order_20 : decode cX2_order 20 = .ok (.i2l, 1) := by decide +kernel
theorem dX2_order_21 : decode cX2_order 21 = .ok (.aload_n 0, 1) := by decide +kernel
theorem dX2_order_22 : decode cX2_order 22 = .ok (.getfield 23, 3) := by decide +kernel
theorem dX2_order_25 : decode cX2_order 25 = .ok (.iload_n 1, 1) := by decide +kernel
theorem dX2_order_26 : decode cX2_order 26 = .ok (.iaload, 1) := by decide +kernel
theorem dX2_order_27 : decode cX2_order 27 = .ok (.i2l, 1) := by decide +kernel
theorem dX2_order_28 : decode cX2_order 28 = .ok (.lmul, 1) := by decide +kernel
theorem dX2_order_29 : decode cX2_order 29 = .ok (.aload_n 0, 1) := by decide +kernel
theorem dX2_order_30 : decode cX2_order 30 = .ok (.getfield 26, 3) := by decide +kernel
theorem dX2_order_33 : decode cX2_order 33 = .ok (.iload_n 1, 1) := by decide +kernel
theorem dX2_order_34 : decode cX2_order 34 = .ok (.iaload, 1) := by decide +kernel
theorem dX2_order_35 : decode cX2_order 35 = .ok (.ineg, 1) := by decide +kernel
theorem dX2_order_36 : decode cX2_order 36 = .ok (.i2l, 1) := by decide +kernel
theorem dX2_order_37 : decode cX2_order 37 = .ok (.aload_n 0, 1) := by decide +kernel
theorem dX2_order_38 : decode cX2_order 38 = .ok (.getfield 23, 3) := by decide +kernel
theorem dX2_order_41 : decode cX2_order 41 = .ok (.iload_n 1, 1) := by decide +kernel
theorem dX2_order_42 : decode cX2_order 42 = .ok (.iconst 1, 1) := by decide +kernel
theorem dX2_order_43 : decode cX2_order 43 = .ok (.isub, 1) := by decide +kernel
theorem dX2_order_44 : decode cX2_order 44 = .ok (.iaload, 1) := by decide +kernel
theorem dX2_order_45 : decode cX2_order 45 = .ok (.i2l, 1) := by decide +kernel
theorem dX2_order_46 : decode cX2_order 46 = .ok (.lmul, 1) := by decide +kernel
theorem dX2_order_47 : decode cX2_order 47 = .ok (.lcmp, 1) := by decide +kernel
theorem dX2_order_48 : decode cX2_order 48 = .ok (.ifCond .ge 4, 3) := by decide +kernel
theorem dX2_order_51 : decode cX2_order 51 = .ok (.return_, 1) := by decide +kernel
theorem dX2_order_52 : decode cX2_order 52 = .ok (.aload_n 0, 1) := by decide +kernel
theorem dX2_order_53 : decode cX2_order 53 = .ok (.getfield 23, 3) := by decide +kernel
theorem dX2_order_56 : decode cX2_order 56 = .ok (.iload_n 1, 1) := by decide +kernel
theorem dX2_order_57 : decode cX2_order 57 = .ok (.iaload, 1) := by decide +kernel
theorem dX2_order_58 : decode cX2_order 58 = .ok (.istore_n 2, 1) := by decide +kernel
theorem dX2_order_59 : decode cX2_order 59 = .ok (.aload_n 0, 1) := by decide +kernel
theorem dX2_order_60 : decode cX2_order 60 = .ok (.getfield 23, 3) := by decide +kernel
theorem dX2_order_63 : decode cX2_order 63 = .ok (.iload_n 1, 1) := by decide +kernel
theorem dX2_order_64 : decode cX2_order 64 = .ok (.aload_n 0, 1) := by decide +kernel
theorem dX2_order_65 : decode cX2_order 65 = .ok (.getfield 23, 3) := by decide +kernel
theorem dX2_order_68 : decode cX2_order 68 = .ok (.iload_n 1, 1) := by decide +kernel
theorem dX2_order_69 : decode cX2_order 69 = .ok (.iconst 1, 1) := by decide +kernel
theorem dX2_order_70 : decode cX2_order 70 = .ok (.isub, 1) := by decide +kernel
theorem dX2_order_71 : decode cX2_order 71 = .ok (.iaload, 1) := by decide +kernel
theorem dX2_order_72 : decode cX2_order 72 = .ok (.iastore, 1) := by decide +kernel
theorem dX2_order_73 : decode cX2_order 73 = .ok (.aload_n 0, 1) := by decide +kernel
theorem dX2_order_74 : decode cX2_order 74 = .ok (.getfield 23, 3) := by decide +kernel
theorem dX2_order_77 : decode cX2_order 77 = .ok (.iload_n 1, 1) := by decide +kernel
theorem dX2_order_78 : decode cX2_order 78 = .ok (.iconst 1, 1) := by decide +kernel
theorem dX2_order_79 : decode cX2_order 79 = .ok (.isub, 1) := by decide +kernel
theorem dX2_order_80 : decode cX2_order 80 = .ok (.iload_n 2, 1) := by decide +kernel
theorem dX2_order_81 : decode cX2_order 81 = .ok (.iastore, 1) := by decide +kernel
theorem dX2_order_82 : decode cX2_order 82 = .ok (.aload_n 0, 1) := by decide +kernel
theorem dX2_order_83 : decode cX2_order 83 = .ok (.getfield 26, 3) := by decide +kernel
theorem dX2_order_86 : decode cX2_order 86 = .ok (.iload_n 1, 1) := by decide +kernel
theorem dX2_order_87 : decode cX2_order 87 = .ok (.iaload, 1) := by decide +kernel
theorem dX2_order_88 : decode cX2_order 88 = .ok (.istore_n 2, 1) := by decide +kernel
theorem dX2_order_89 : decode cX2_order 89 = .ok (.aload_n 0, 1) := by decide +kernel
theorem dX2_order_90 : decode cX2_order 90 = .ok (.getfield 26, 3) := by decide +kernel
theorem dX2_order_93 : decode cX2_order 93 = .ok (.iload_n 1, 1) := by decide +kernel
theorem dX2_order_94 : decode cX2_order 94 = .ok (.aload_n 0, 1) := by decide +kernel
theorem dX2_order_95 : decode cX2_order 95 = .ok (.getfield 26, 3) := by decide +kernel
theorem dX2_order_98 : decode cX2_order 98 = .ok (.iload_n 1, 1) := by decide +kernel
theorem dX2_order_99 : decode cX2_order 99 = .ok (.iconst 1, 1) := by decide +kernel
theorem dX2_order_100 : decode cX2_order 100 = .ok (.isub, 1) := by decide +kernel
theorem dX2_order_101 : decode cX2_order 101 = .ok (.iaload, 1) := by decide +kernel
theorem dX2_order_102 : decode cX2_order 102 = .ok (.iastore, 1) := by decide +kernel
theorem dX2_order_103 : decode cX2_order 103 = .ok (.aload_n 0, 1) := by decide +kernel
theorem dX2_order_104 : decode cX2_order 104 = .ok (.getfield 26, 3) := by decide +kernel
theorem dX2_order_107 : decode cX2_order 107 = .ok (.iload_n 1, 1) := by decide +kernel
theorem dX2_order_108 : decode cX2_order 108 = .ok (.iconst 1, 1) := by decide +kernel
theorem dX2_order_109 : decode cX2_order 109 = .ok (.isub, 1) := by decide +kernel
theorem dX2_order_110 : decode cX2_order 110 = .ok (.iload_n 2, 1) := by decide +kernel
theorem dX2_order_111 : decode cX2_order 111 = .ok (.iastore, 1) := by decide +kernel
theorem dX2_order_112 : decode cX2_order 112 = .ok (.aload_n 0, 1) := by decide +kernel
theorem dX2_order_113 : decode cX2_order 113 = .ok (.getfield 29, 3) := by decide +kernel
theorem dX2_order_116 : decode cX2_order 116 = .ok (.iload_n 1, 1) := by decide +kernel
theorem dX2_order_117 : decode cX2_order 117 = .ok (.iaload, 1) := by decide +kernel
theorem dX2_order_118 : decode cX2_order 118 = .ok (.istore_n 2, 1) := by decide +kernel
theorem dX2_order_119 : decode cX2_order 119 = .ok (.aload_n 0, 1) := by decide +kernel
theorem dX2_order_120 : decode cX2_order 120 = .ok (.getfield 29, 3) := by decide +kernel
theorem dX2_order_123 : decode cX2_order 123 = .ok (.iload_n 1, 1) := by decide +kernel
theorem dX2_order_124 : decode cX2_order 124 = .ok (.aload_n 0, 1) := by decide +kernel
theorem dX2_order_125 : decode cX2_order 125 = .ok (.getfield 29, 3) := by decide +kernel
theorem dX2_order_128 : decode cX2_order 128 = .ok (.iload_n 1, 1) := by decide +kernel
theorem dX2_order_129 : decode cX2_order 129 = .ok (.iconst 1, 1) := by decide +kernel
theorem dX2_order_130 : decode cX2_order 130 = .ok (.isub, 1) := by decide +kernel
theorem dX2_order_131 : decode cX2_order 131 = .ok (.iaload, 1) := by decide +kernel
theorem dX2_order_132 : decode cX2_order 132 = .ok (.iastore, 1) := by decide +kernel
theorem dX2_order_133 : decode cX2_order 133 = .ok (.aload_n 0, 1) := by decide +kernel
theorem dX2_order_134 : decode cX2_order 134 = .ok (.getfield 29, 3) := by decide +kernel
theorem dX2_order_137 : decode cX2_order 137 = .ok (.iload_n 1, 1) := by decide +kernel
theorem dX2_order_138 : decode cX2_order 138 = .ok (.iconst 1, 1) := by decide +kernel
theorem dX2_order_139 : decode cX2_order 139 = .ok (.isub, 1) := by decide +kernel
theorem dX2_order_140 : decode cX2_order 140 = .ok (.iload_n 2, 1) := by decide +kernel
theorem dX2_order_141 : decode cX2_order 141 = .ok (.iastore, 1) := by decide +kernel
theorem dX2_order_142 : decode cX2_order 142 = .ok (.iinc 1 (-1), 3) := by decide +kernel
theorem dX2_order_145 : decode cX2_order 145 = .ok (.goto (-138), 3) := by decide +kernel
theorem dX2_order_148 : decode cX2_order 148 = .ok (.return_, 1) := by decide +kernel
theorem dX2_isNone_0 : decode cX2_isNone 0 = .ok (.aload_n 0, 1) := by decide +kernel
theorem dX2_isNone_1 : decode cX2_isNone 1 = .ok (.invokevirtual 65, 3) := by decide +kernel
theorem dX2_isNone_4 : decode cX2_isNone 4 = .ok (.ifCond .ge 7, 3) := by decide +kernel
theorem dX2_isNone_7 : decode cX2_isNone 7 = .ok (.iconst 1, 1) := by decide +kernel
theorem dX2_isNone_8 : decode cX2_isNone 8 = .ok (.goto 4, 3) := by decide +kernel
theorem dX2_isNone_11 : decode cX2_isNone 11 = .ok (.iconst 0, 1) := by decide +kernel
theorem dX2_isNone_12 : decode cX2_isNone 12 = .ok (.ireturn, 1) := by decide +kernel
theorem dX2_find_0 : decode cX2_find 0 = .ok (.aload_n 0, 1) := by decide +kernel
theorem dX2_find_1 : decode cX2_find 1 = .ok (.iconst 0, 1) := by decide +kernel
theorem dX2_find_2 : decode cX2_find 2 = .ok (.putfield 72, 3) := by decide +kernel
theorem dX2_find_5 : decode cX2_find 5 = .ok (.aload_n 0, 1) := by decide +kernel
theorem dX2_find_6 : decode cX2_find 6 = .ok (.invokevirtual 65, 3) := by decide +kernel
theorem dX2_find_9 : decode cX2_find 9 = .ok (.istore_n 1, 1) := by decide +kernel
theorem dX2_find_10 : decode cX2_find 10 = .ok (.lconst 0, 1) := by decide +kernel
theorem dX2_find_11 : decode cX2_find 11 = .ok (.lstore_n 2, 1) := by decide +kernel
theorem dX2_find_12 : decode cX2_find 12 = .ok (.iconst 0, 1) := by decide +kernel
theorem dX2_find_13 : decode cX2_find 13 = .ok (.istore 4, 2) := by decide +kernel
theorem dX2_find_15 : decode cX2_find 15 = .ok (.iload 4, 2) := by decide +kernel
theorem dX2_find_17 : decode cX2_find 17 = .ok (.iconst 5, 1) := by decide +kernel
theorem dX2_find_18 : decode cX2_find 18 = .ok (.if_icmp .ge 22, 3) := by decide +kernel
theorem dX2_find_21 : decode cX2_find 21 = .ok (.lload_n 2, 1) := by decide +kernel
theorem dX2_find_22 : decode cX2_find 22 = .ok (.aload_n 0, 1) := by decide +kernel
theorem dX2_find_23 : decode cX2_find 23 = .ok (.getfield 7, 3) := by decide +kernel
theorem dX2_find_26 : decode cX2_find 26 = .ok (.iload 4, 2) := by decide +kernel
theorem dX2_find_28 : decode cX2_find 28 = .ok (.iaload, 1) := by decide +kernel
theorem dX2_find_29 : decode cX2_find 29 = .ok (.i2l, 1) := by decide +kernel
theorem dX2_find_30 : decode cX2_find 30 = .ok (.invokestatic 40, 3) := by decide +kernel
theorem dX2_find_33 : decode cX2_find 33 = .ok (.lstore_n 2, 1) := by decide +kernel
theorem dX2_find_34 : decode cX2_find 34 = .ok (.iinc 4 1, 3) := by decide +kernel
theorem dX2_find_37 : decode cX2_find 37 = .ok (.goto (-22), 3) := by decide +kernel
theorem dX2_find_40 : decode cX2_find 40 = .ok (.aload_n 0, 1) := by decide +kernel
theorem dX2_find_41 : decode cX2_find 41 = .ok (.aload_n 0, 1) := by decide +kernel
theorem dX2_find_42 : decode cX2_find 42 = .ok (.getfield 7, 3) := by decide +kernel
theorem dX2_find_45 : decode cX2_find 45 = .ok (.iload_n 1, 1) := by decide +kernel
theorem dX2_find_46 : decode cX2_find 46 = .ok (.iaload, 1) := by decide +kernel
theorem dX2_find_47 : decode cX2_find 47 = .ok (.ifCond .ge 8, 3) := by decide +kernel
theorem dX2_find_50 : decode cX2_find 50 = .ok (.lload_n 2, 1) := by decide +kernel
theorem dX2_find_51 : decode cX2_find 51 = .ok (.lneg, 1) := by decide +kernel
theorem dX2_find_52 : decode cX2_find 52 = .ok (.goto 4, 3) := by decide +kernel
theorem dX2_find_55 : decode cX2_find 55 = .ok (.lload_n 2, 1) := by decide +kernel
theorem dX2_find_56 : decode cX2_find 56 = .ok (.l2i, 1) := by decide +kernel
theorem dX2_find_57 : decode cX2_find 57 = .ok (.putfield 79, 3) := by decide +kernel
theorem dX2_find_60 : decode cX2_find 60 = .ok (.iconst 0, 1) := by decide +kernel
theorem dX2_find_61 : decode cX2_find 61 = .ok (.istore 4, 2) := by decide +kernel
theorem dX2_find_63 : decode cX2_find 63 = .ok (.iload 4, 2) := by decide +kernel
theorem dX2_find_65 : decode cX2_find 65 = .ok (.iconst 5, 1) := by decide +kernel
theorem dX2_find_66 : decode cX2_find 66 = .ok (.if_icmp .ge 29, 3) := by decide +kernel
theorem dX2_find_69 : decode cX2_find 69 = .ok (.aload_n 0, 1) := by decide +kernel
theorem dX2_find_70 : decode cX2_find 70 = .ok (.getfield 13, 3) := by decide +kernel
theorem dX2_find_73 : decode cX2_find 73 = .ok (.iload 4, 2) := by decide +kernel
theorem dX2_find_75 : decode cX2_find 75 = .ok (.aload_n 0, 1) := by decide +kernel
theorem dX2_find_76 : decode cX2_find 76 = .ok (.getfield 7, 3) := by decide +kernel
theorem dX2_find_79 : decode cX2_find 79 = .ok (.iload 4, 2) := by decide +kernel
theorem dX2_find_81 : decode cX2_find 81 = .ok (.iaload, 1) := by decide +kernel
theorem dX2_find_82 : decode cX2_find 82 = .ok (.aload_n 0, 1) := by decide +kernel
theorem dX2_find_83 : decode cX2_find 83 = .ok (.getfield 79, 3) := by decide +kernel
theorem dX2_find_86 : decode cX2_find 86 = .ok (.idiv, 1) := by decide +kernel
theorem dX2_find_87 : decode cX2_find 87 = .ok (.i2l, 1) := by decide +kernel
theorem dX2_find_88 : decode cX2_find 88 = .ok (.lastore, 1) := by decide +kernel
theorem dX2_find_89 : decode cX2_find 89 = .ok (.iinc 4 1, 3) := by decide +kernel
theorem dX2_find_92 : decode cX2_find 92 = .ok (.goto (-29), 3) := by decide +kernel
theorem dX2_find_95 : decode cX2_find 95 = .ok (.iconst 1, 1) := by decide +kernel
theorem dX2_find_96 : decode cX2_find 96 = .ok (.istore 4, 2) := by decide +kernel
theorem dX2_find_98 : decode cX2_find 98 = .ok (.iload 4, 2) := by decide +kernel
theorem dX2_find_100 : decode cX2_find 100 = .ok (.bipush 20, 2) := by decide +kernel
theorem dX2_find_102 : decode cX2_find 102 = .ok (.if_icmp .gt 71, 3) := by decide +kernel
theorem dX2_find_105 : decode cX2_find 105 = .ok (.bipush (-20), 2) := by decide +kernel
theorem dX2_find_107 : decode cX2_find 107 = .ok (.istore 5, 2) := by decide +kernel
theorem dX2_find_109 : decode cX2_find 109 = .ok (.iload 5, 2) := by decide +kernel
theorem dX2_find_111 : decode cX2_find 111 = .ok (.bipush 20, 2) := by decide +kernel
theorem dX2_find_113 : decode cX2_find 113 = .ok (.if_icmp .gt 54, 3) := by decide +kernel
theorem dX2_find_116 : decode cX2_find 116 = .ok (.iload 4, 2) := by decide +kernel
theorem dX2_find_118 : decode cX2_find 118 = .ok (.i2l, 1) := by decide +kernel
theorem dX2_find_119 : decode cX2_find 119 = .ok (.iload 5, 2) := by decide +kernel
theorem dX2_find_121 : decode cX2_find 121 = .ok (.i2l, 1) := by decide +kernel
theorem dX2_find_122 : decode cX2_find 122 = .ok (.invokestatic 40, 3) := by decide +kernel
theorem dX2_find_125 : decode cX2_find 125 = .ok (.lconst 1, 1) := by decide +kernel
theorem dX2_find_126 : decode cX2_find 126 = .ok (.lcmp, 1) := by decide +kernel
theorem dX2_find_127 : decode cX2_find 127 = .ok (.ifCond .eq 6, 3) := by decide +kernel
theorem dX2_find_130 : decode cX2_find 130 = .ok (.goto 31, 3) := by decide +kernel
theorem dX2_find_133 : decode cX2_find 133 = .ok (.aload_n 0, 1) := by decide +kernel
theorem dX2_find_134 : decode cX2_find 134 = .ok (.getfield 72, 3) := by decide +kernel
theorem dX2_find_137 : decode cX2_find 137 = .ok (.istore 6, 2) := by decide +kernel
theorem dX2_find_139 : decode cX2_find 139 = .ok (.aload_n 0, 1) := by decide +kernel
theorem dX2_find_140 : decode cX2_find 140 = .ok (.iconst 0, 1) := by decide +kernel
theorem dX2_find_141 : decode cX2_find 141 = .ok (.iload 4, 2) := by decide +kernel
theorem dX2_find_143 : decode cX2_find 143 = .ok (.iload 5, 2) := by decide +kernel
theorem dX2_find_145 : decode cX2_find 145 = .ok (.invokevirtual 82, 3) := by decide +kernel
theorem dX2_find_148 : decode cX2_find 148 = .ok (.aload_n 0, 1) := by decide +kernel
theorem dX2_find_149 : decode cX2_find 149 = .ok (.getfield 72, 3) := by decide +kernel
theorem dX2_find_152 : decode cX2_find 152 = .ok (.iload 6, 2) := by decide +kernel
theorem dX2_find_154 : decode cX2_find 154 = .ok (.if_icmp .le 7, 3) := by decide +kernel
theorem dX2_find_157 : decode cX2_find 157 = .ok (.aload_n 0, 1) := by decide +kernel
theorem dX2_find_158 : decode cX2_find 158 = .ok (.invokevirtual 86, 3) := by decide +kernel
theorem dX2_find_161 : decode cX2_find 161 = .ok (.iinc 5 1, 3) := by decide +kernel
theorem dX2_find_164 : decode cX2_find 164 = .ok (.goto (-55), 3) := by decide +kernel
theorem dX2_find_167 : decode cX2_find 167 = .ok (.iinc 4 1, 3) := by decide +kernel
theorem dX2_find_170 : decode cX2_find 170 = .ok (.goto (-72), 3) := by decide +kernel
theorem dX2_find_173 : decode cX2_find 173 = .ok (.iconst 1, 1) := by decide +kernel
theorem dX2_find_174 : decode cX2_find 174 = .ok (.istore 4, 2) := by decide +kernel
theorem dX2_find_176 : decode cX2_find 176 = .ok (.iload 4, 2) := by decide +kernel
theorem dX2_find_178 : decode cX2_find 178 = .ok (.bipush 20, 2) := by decide +kernel
theorem dX2_find_180 : decode cX2_find 180 = .ok (.if_icmp .gt 196, 3) := by decide +kernel
theorem dX2_find_183 : decode cX2_find 183 = .ok (.aload_n 0, 1) := by decide +kernel
theorem dX2_find_184 : decode cX2_find 184 = .ok (.invokevirtual 69, 3) := by decide +kernel
theorem dX2_find_187 : decode cX2_find 187 = .ok (.iconst 1, 1) := by decide +kernel
theorem dX2_find_188 : decode cX2_find 188 = .ok (.if_icmp .le 188, 3) := by decide +kernel
theorem dX2_find_191 : decode cX2_find 191 = .ok (.aload_n 0, 1) := by decide +kernel
theorem dX2_find_192 : decode cX2_find 192 = .ok (.getfield 13, 3) := by decide +kernel
theorem dX2_find_195 : decode cX2_find 195 = .ok (.aload_n 0, 1) := by decide +kernel
theorem dX2_find_196 : decode cX2_find 196 = .ok (.invokevirtual 69, 3) := by decide +kernel
theorem dX2_find_199 : decode cX2_find 199 = .ok (.laload, 1) := by decide +kernel
theorem dX2_find_200 : decode cX2_find 200 = .ok (.iload 4, 2) := by decide +kernel
theorem dX2_find_202 : decode cX2_find 202 = .ok (.i2l, 1) := by decide +kernel
theorem dX2_find_203 : decode cX2_find 203 = .ok (.lrem, 1) := by decide +kernel
theorem dX2_find_204 : decode cX2_find 204 = .ok (.lconst 0, 1) := by decide +kernel
theorem dX2_find_205 : decode cX2_find 205 = .ok (.lcmp, 1) := by decide +kernel
theorem dX2_find_206 : decode cX2_find 206 = .ok (.ifCond .eq 6, 3) := by decide +kernel
theorem dX2_find_209 : decode cX2_find 209 = .ok (.goto 161, 3) := by decide +kernel
theorem dX2_find_212 : decode cX2_find 212 = .ok (.sipush (-240), 3) := by decide +kernel
theorem dX2_find_215 : decode cX2_find 215 = .ok (.istore 5, 2) := by decide +kernel
theorem dX2_find_217 : decode cX2_find 217 = .ok (.iload 5, 2) := by decide +kernel
theorem dX2_find_219 : decode cX2_find 219 = .ok (.sipush 240, 3) := by decide +kernel
theorem dX2_find_222 : decode cX2_find 222 = .ok (.if_icmp .gt 148, 3) := by decide +kernel
theorem dX2_find_225 : decode cX2_find 225 = .ok (.bipush (-20), 2) := by decide +kernel
theorem dX2_find_227 : decode cX2_find 227 = .ok (.istore 6, 2) := by decide +kernel
theorem dX2_find_229 : decode cX2_find 229 = .ok (.iload 6, 2) := by decide +kernel
theorem dX2_find_231 : decode cX2_find 231 = .ok (.bipush 20, 2) := by decide +kernel
theorem dX2_find_233 : decode cX2_find 233 = .ok (.if_icmp .gt 131, 3) := by decide +kernel
theorem dX2_find_236 : decode cX2_find 236 = .ok (.iload 6, 2) := by decide +kernel
theorem dX2_find_238 : decode cX2_find 238 = .ok (.ifCond .eq 120, 3) := by decide +kernel
theorem dX2_find_241 : decode cX2_find 241 = .ok (.iload 4, 2) := by decide +kernel
theorem dX2_find_243 : decode cX2_find 243 = .ok (.iload 5, 2) := by decide +kernel
theorem dX2_find_245 : decode cX2_find 245 = .ok (.iadd, 1) := by decide +kernel
theorem dX2_find_246 : decode cX2_find 246 = .ok (.iload 6, 2) := by decide +kernel
theorem dX2_find_248 : decode cX2_find 248 = .ok (.iadd, 1) := by decide +kernel
theorem dX2_find_249 : decode cX2_find 249 = .ok (.ifCond .eq 109, 3) := by decide +kernel
theorem dX2_find_252 : decode cX2_find 252 = .ok (.aload_n 0, 1) := by decide +kernel
theorem dX2_find_253 : decode cX2_find 253 = .ok (.getfield 13, 3) := by decide +kernel
theorem dX2_find_256 : decode cX2_find 256 = .ok (.iconst 0, 1) := by decide +kernel
theorem dX2_find_257 : decode cX2_find 257 = .ok (.laload, 1) := by decide +kernel
theorem dX2_find_258 : decode cX2_find 258 = .ok (.iload 6, 2) := by decide +kernel
theorem dX2_find_260 : decode cX2_find 260 = .ok (.i2l, 1) := by decide +kernel
theorem dX2_find_261 : decode cX2_find 261 = .ok (.lrem, 1) := by decide +kernel
theorem dX2_find_262 : decode cX2_find 262 = .ok (.lconst 0, 1) := by decide +kernel
theorem dX2_find_263 : decode cX2_find 263 = .ok (.lcmp, 1) := by decide +kernel
theorem dX2_find_264 : decode cX2_find 264 = .ok (.ifCond .ne 94, 3) := by decide +kernel
theorem dX2_find_267 : decode cX2_find 267 = .ok (.aload_n 0, 1) := by decide +kernel
theorem dX2_find_268 : decode cX2_find 268 = .ok (.getfield 13, 3) := by decide +kernel
theorem dX2_find_271 : decode cX2_find 271 = .ok (.iconst 0, 1) := by decide +kernel
theorem dX2_find_272 : decode cX2_find 272 = .ok (.laload, 1) := by decide +kernel
theorem dX2_find_273 : decode cX2_find 273 = .ok (.aload_n 0, 1) := by decide +kernel
theorem dX2_find_274 : decode cX2_find 274 = .ok (.getfield 13, 3) := by decide +kernel
theorem dX2_find_277 : decode cX2_find 277 = .ok (.iconst 1, 1) := by decide +kernel
theorem dX2_find_278 : decode cX2_find 278 = .ok (.laload, 1) := by decide +kernel
theorem dX2_find_279 : decode cX2_find 279 = .ok (.ladd, 1) := by decide +kernel
theorem dX2_find_280 : decode cX2_find 280 = .ok (.aload_n 0, 1) := by decide +kernel
theorem dX2_find_281 : decode cX2_find 281 = .ok (.getfield 13, 3) := by decide +kernel
theorem dX2_find_284 : decode cX2_find 284 = .ok (.iconst 2, 1) := by decide +kernel
theorem dX2_find_285 : decode cX2_find 285 = .ok (.laload, 1) := by decide +kernel
theorem dX2_find_286 : decode cX2_find 286 = .ok (.ladd, 1) := by decide +kernel
theorem dX2_find_287 : decode cX2_find 287 = .ok (.aload_n 0, 1) := by decide +kernel
theorem dX2_find_288 : decode cX2_find 288 = .ok (.getfield 13, 3) := by decide +kernel
theorem dX2_find_291 : decode cX2_find 291 = .ok (.iconst 3, 1) := by decide +kernel
theorem dX2_find_292 : decode cX2_find 292 = .ok (.laload, 1) := by decide +kernel
theorem dX2_find_293 : decode cX2_find 293 = .ok (.ladd, 1) := by decide +kernel
theorem dX2_find_294 : decode cX2_find 294 = .ok (.aload_n 0, 1) := by decide +kernel
theorem dX2_find_295 : decode cX2_find 295 = .ok (.getfield 13, 3) := by decide +kernel
theorem dX2_find_298 : decode cX2_find 298 = .ok (.iconst 4, 1) := by decide +kernel
theorem dX2_find_299 : decode cX2_find 299 = .ok (.laload, 1) := by decide +kernel
theorem dX2_find_300 : decode cX2_find 300 = .ok (.ladd, 1) := by decide +kernel
theorem dX2_find_301 : decode cX2_find 301 = .ok (.iload 4, 2) := by decide +kernel
theorem dX2_find_303 : decode cX2_find 303 = .ok (.iload 5, 2) := by decide +kernel
theorem dX2_find_305 : decode cX2_find 305 = .ok (.iadd, 1) := by decide +kernel
theorem dX2_find_306 : decode cX2_find 306 = .ok (.iload 6, 2) := by decide +kernel
theorem dX2_find_308 : decode cX2_find 308 = .ok (.iadd, 1) := by decide +kernel
theorem dX2_find_309 : decode cX2_find 309 = .ok (.i2l, 1) := by decide +kernel
theorem dX2_find_310 : decode cX2_find 310 = .ok (.lrem, 1) := by decide +kernel
theorem dX2_find_311 : decode cX2_find 311 = .ok (.lconst 0, 1) := by decide +kernel
theorem dX2_find_312 : decode cX2_find 312 = .ok (.lcmp, 1) := by decide +kernel
theorem dX2_find_313 : decode cX2_find 313 = .ok (.ifCond .ne 45, 3) := by decide +kernel
theorem dX2_find_316 : decode cX2_find 316 = .ok (.iload 4, 2) := by decide +kernel
theorem dX2_find_318 : decode cX2_find 318 = .ok (.i2l, 1) := by decide +kernel
theorem dX2_find_319 : decode cX2_find 319 = .ok (.iload 5, 2) := by decide +kernel
theorem dX2_find_321 : decode cX2_find 321 = .ok (.i2l, 1) := by decide +kernel
theorem dX2_find_322 : decode cX2_find 322 = .ok (.invokestatic 40, 3) := by decide +kernel
theorem dX2_find_325 : decode cX2_find 325 = .ok (.iload 6, 2) := by decide +kernel
theorem dX2_find_327 : decode cX2_find 327 = .ok (.i2l, 1) := by decide +kernel
theorem dX2_find_328 : decode cX2_find 328 = .ok (.invokestatic 40, 3) := by decide +kernel
theorem dX2_find_331 : decode cX2_find 331 = .ok (.lconst 1, 1) := by decide +kernel
theorem dX2_find_332 : decode cX2_find 332 = .ok (.lcmp, 1) := by decide +kernel
theorem dX2_find_333 : decode cX2_find 333 = .ok (.ifCond .eq 6, 3) := by decide +kernel
theorem dX2_find_336 : decode cX2_find 336 = .ok (.goto 22, 3) := by decide +kernel
theorem dX2_find_339 : decode cX2_find 339 = .ok (.aload_n 0, 1) := by decide +kernel
theorem dX2_find_340 : decode cX2_find 340 = .ok (.iload 4, 2) := by decide +kernel
theorem dX2_find_342 : decode cX2_find 342 = .ok (.iload 5, 2) := by decide +kernel
theorem dX2_find_344 : decode cX2_find 344 = .ok (.iload 6, 2) := by decide +kernel
theorem dX2_find_346 : decode cX2_find 346 = .ok (.invokevirtual 82, 3) := by decide +kernel
theorem dX2_find_349 : decode cX2_find 349 = .ok (.aload_n 0, 1) := by decide +kernel
theorem dX2_find_350 : decode cX2_find 350 = .ok (.invokevirtual 69, 3) := by decide +kernel
theorem dX2_find_353 : decode cX2_find 353 = .ok (.iconst 2, 1) := by decide +kernel
theorem dX2_find_354 : decode cX2_find 354 = .ok (.if_icmp .ge 4, 3) := by decide +kernel
theorem dX2_find_357 : decode cX2_find 357 = .ok (.return_, 1) := by decide +kernel
theorem dX2_find_358 : decode cX2_find 358 = .ok (.iinc 6 1, 3) := by decide +kernel
theorem dX2_find_361 : decode cX2_find 361 = .ok (.goto (-132), 3) := by decide +kernel
theorem dX2_find_364 : decode cX2_find 364 = .ok (.iinc 5 1, 3) := by decide +kernel
theorem dX2_find_367 : decode cX2_find 367 = .ok (.goto (-150), 3) := by decide +kernel
theorem dX2_find_370 : decode cX2_find 370 = .ok (.iinc 4 1, 3) := by decide +kernel
theorem dX2_find_373 : decode cX2_find 373 = .ok (.goto (-197), 3) := by decide +kernel
theorem dX2_find_376 : decode cX2_find 376 = .ok (.return_, 1) := by decide +kernel
theorem dX2_factors_0 : decode cX2_factors 0 = .ok (.aload_n 0, 1) := by decide +kernel
theorem dX2_factors_1 : decode cX2_factors 1 = .ok (.invokevirtual 89, 3) := by decide +kernel
theorem dX2_factors_4 : decode cX2_factors 4 = .ok (.ifCond .eq 9, 3) := by decide +kernel
theorem dX2_factors_7 : decode cX2_factors 7 = .ok (.aload_n 0, 1) := by decide +kernel
theorem dX2_factors_8 : decode cX2_factors 8 = .ok (.iconst 1, 1) := by decide +kernel
theorem dX2_factors_9 : decode cX2_factors 9 = .ok (.invokevirtual 93, 3) := by decide +kernel
theorem dX2_factors_12 : decode cX2_factors 12 = .ok (.ireturn, 1) := by decide +kernel
theorem dX2_factors_13 : decode cX2_factors 13 = .ok (.aload_n 0, 1) := by decide +kernel
theorem dX2_factors_14 : decode cX2_factors 14 = .ok (.iconst 0, 1) := by decide +kernel
theorem dX2_factors_15 : decode cX2_factors 15 = .ok (.putfield 32, 3) := by decide +kernel
theorem dX2_factors_18 : decode cX2_factors 18 = .ok (.aload_n 0, 1) := by decide +kernel
theorem dX2_factors_19 : decode cX2_factors 19 = .ok (.invokevirtual 97, 3) := by decide +kernel
theorem dX2_factors_22 : decode cX2_factors 22 = .ok (.aload_n 0, 1) := by decide +kernel
theorem dX2_factors_23 : decode cX2_factors 23 = .ok (.getfield 72, 3) := by decide +kernel
theorem dX2_factors_26 : decode cX2_factors 26 = .ok (.ireturn, 1) := by decide +kernel
theorem dX2_isFactor_0 : decode cX2_isFactor 0 = .ok (.aload_n 0, 1) := by decide +kernel
theorem dX2_isFactor_1 : decode cX2_isFactor 1 = .ok (.aload_n 0, 1) := by decide +kernel
theorem dX2_isFactor_2 : decode cX2_isFactor 2 = .ok (.invokevirtual 89, 3) := by decide +kernel
theorem dX2_isFactor_5 : decode cX2_isFactor 5 = .ok (.ifCond .eq 7, 3) := by decide +kernel
theorem dX2_isFactor_8 : decode cX2_isFactor 8 = .ok (.iconst 1, 1) := by decide +kernel
theorem dX2_isFactor_9 : decode cX2_isFactor 9 = .ok (.goto 4, 3) := by decide +kernel
theorem dX2_isFactor_12 : decode cX2_isFactor 12 = .ok (.iconst 0, 1) := by decide +kernel
theorem dX2_isFactor_13 : decode cX2_isFactor 13 = .ok (.putfield 32, 3) := by decide +kernel
theorem dX2_isFactor_16 : decode cX2_isFactor 16 = .ok (.aload_n 0, 1) := by decide +kernel
theorem dX2_isFactor_17 : decode cX2_isFactor 17 = .ok (.getfield 32, 3) := by decide +kernel
theorem dX2_isFactor_20 : decode cX2_isFactor 20 = .ok (.ifCond .le 5, 3) := by decide +kernel
theorem dX2_isFactor_23 : decode cX2_isFactor 23 = .ok (.iconst 0, 1) := by decide +kernel
theorem dX2_isFactor_24 : decode cX2_isFactor 24 = .ok (.ireturn, 1) := by decide +kernel
theorem dX2_isFactor_25 : decode cX2_isFactor 25 = .ok (.aload_n 0, 1) := by decide +kernel
theorem dX2_isFactor_26 : decode cX2_isFactor 26 = .ok (.invokevirtual 97, 3) := by decide +kernel
theorem dX2_isFactor_29 : decode cX2_isFactor 29 = .ok (.aload_n 0, 1) := by decide +kernel
theorem dX2_isFactor_30 : decode cX2_isFactor 30 = .ok (.iload_n 1, 1) := by decide +kernel
theorem dX2_isFactor_31 : decode cX2_isFactor 31 = .ok (.i2l, 1) := by decide +kernel
theorem dX2_isFactor_32 : decode cX2_isFactor 32 = .ok (.lconst 0, 1) := by decide +kernel
theorem dX2_isFactor_33 : decode cX2_isFactor 33 = .ok (.aload_n 0, 1) := by decide +kernel
theorem dX2_isFactor_34 : decode cX2_isFactor 34 = .ok (.getfield 72, 3) := by decide +kernel
theorem dX2_isFactor_37 : decode cX2_isFactor 37 = .ok (.iconst 1, 1) := by decide +kernel
theorem dX2_isFactor_38 : decode cX2_isFactor 38 = .ok (.isub, 1) := by decide +kernel
theorem dX2_isFactor_39 : decode cX2_isFactor 39 = .ok (.i2l, 1) := by decide +kernel
theorem dX2_isFactor_40 : decode cX2_isFactor 40 = .ok (.invokestatic 53, 3) := by decide +kernel
theorem dX2_isFactor_43 : decode cX2_isFactor 43 = .ok (.ifCond .eq 7, 3) := by decide +kernel
theorem dX2_isFactor_46 : decode cX2_isFactor 46 = .ok (.iconst 0, 1) := by decide +kernel
theorem dX2_isFactor_47 : decode cX2_isFactor 47 = .ok (.goto 4, 3) := by decide +kernel
theorem dX2_isFactor_50 : decode cX2_isFactor 50 = .ok (.iconst 2, 1) := by decide +kernel
theorem dX2_isFactor_51 : decode cX2_isFactor 51 = .ok (.putfield 32, 3) := by decide +kernel
theorem dX2_isFactor_54 : decode cX2_isFactor 54 = .ok (.aload_n 0, 1) := by decide +kernel
theorem dX2_isFactor_55 : decode cX2_isFactor 55 = .ok (.getfield 32, 3) := by decide +kernel
theorem dX2_isFactor_58 : decode cX2_isFactor 58 = .ok (.ifCond .ne 7, 3) := by decide +kernel
theorem dX2_isFactor_61 : decode cX2_isFactor 61 = .ok (.iconst 1, 1) := by decide +kernel
theorem dX2_isFactor_62 : decode cX2_isFactor 62 = .ok (.goto 4, 3) := by decide +kernel
theorem dX2_isFactor_65 : decode cX2_isFactor 65 = .ok (.iconst 0, 1) := by decide +kernel
theorem dX2_isFactor_66 : decode cX2_isFactor 66 = .ok (.ireturn, 1) := by decide +kernel
theorem dX2_answerOf_0 : decode cX2_answerOf 0 = .ok (.aload_n 0, 1) := by decide +kernel
theorem dX2_answerOf_1 : decode cX2_answerOf 1 = .ok (.getfield 20, 3) := by decide +kernel
theorem dX2_answerOf_4 : decode cX2_answerOf 4 = .ok (.iload_n 1, 1) := by decide +kernel
theorem dX2_answerOf_5 : decode cX2_answerOf 5 = .ok (.iaload, 1) := by decide +kernel
theorem dX2_answerOf_6 : decode cX2_answerOf 6 = .ok (.i2l, 1) := by decide +kernel
theorem dX2_answerOf_7 : decode cX2_answerOf 7 = .ok (.lstore_n 2, 1) := by decide +kernel
theorem dX2_answerOf_8 : decode cX2_answerOf 8 = .ok (.aload_n 0, 1) := by decide +kernel
theorem dX2_answerOf_9 : decode cX2_answerOf 9 = .ok (.getfield 23, 3) := by decide +kernel
theorem dX2_answerOf_12 : decode cX2_answerOf 12 = .ok (.iload_n 1, 1) := by decide +kernel
theorem dX2_answerOf_13 : decode cX2_answerOf 13 = .ok (.iaload, 1) := by decide +kernel
theorem dX2_answerOf_14 : decode cX2_answerOf 14 = .ok (.i2l, 1) := by decide +kernel
theorem dX2_answerOf_15 : decode cX2_answerOf 15 = .ok (.lstore 4, 2) := by decide +kernel
theorem dX2_answerOf_17 : decode cX2_answerOf 17 = .ok (.aload_n 0, 1) := by decide +kernel
theorem dX2_answerOf_18 : decode cX2_answerOf 18 = .ok (.getfield 26, 3) := by decide +kernel
theorem dX2_answerOf_21 : decode cX2_answerOf 21 = .ok (.iload_n 1, 1) := by decide +kernel
theorem dX2_answerOf_22 : decode cX2_answerOf 22 = .ok (.iaload, 1) := by decide +kernel
theorem dX2_answerOf_23 : decode cX2_answerOf 23 = .ok (.i2l, 1) := by decide +kernel
theorem dX2_answerOf_24 : decode cX2_answerOf 24 = .ok (.lstore 6, 2) := by decide +kernel
theorem dX2_answerOf_26 : decode cX2_answerOf 26 = .ok (.aload_n 0, 1) := by decide +kernel
theorem dX2_answerOf_27 : decode cX2_answerOf 27 = .ok (.lconst 0, 1) := by decide +kernel
theorem dX2_answerOf_28 : decode cX2_answerOf 28 = .ok (.putfield 100, 3) := by decide +kernel
theorem dX2_answerOf_31 : decode cX2_answerOf 31 = .ok (.aload_n 0, 1) := by decide +kernel
theorem dX2_answerOf_32 : decode cX2_answerOf 32 = .ok (.lconst 0, 1) := by decide +kernel
theorem dX2_answerOf_33 : decode cX2_answerOf 33 = .ok (.putfield 103, 3) := by decide +kernel
theorem dX2_answerOf_36 : decode cX2_answerOf 36 = .ok (.aload_n 0, 1) := by decide +kernel
theorem dX2_answerOf_37 : decode cX2_answerOf 37 = .ok (.lconst 1, 1) := by decide +kernel
theorem dX2_answerOf_38 : decode cX2_answerOf 38 = .ok (.putfield 106, 3) := by decide +kernel
theorem dX2_answerOf_41 : decode cX2_answerOf 41 = .ok (.aload_n 0, 1) := by decide +kernel
theorem dX2_answerOf_42 : decode cX2_answerOf 42 = .ok (.lload_n 2, 1) := by decide +kernel
theorem dX2_answerOf_43 : decode cX2_answerOf 43 = .ok (.lconst 0, 1) := by decide +kernel
theorem dX2_answerOf_44 : decode cX2_answerOf 44 = .ok (.lcmp, 1) := by decide +kernel
theorem dX2_answerOf_45 : decode cX2_answerOf 45 = .ok (.ifCond .ne 9, 3) := by decide +kernel
theorem dX2_answerOf_48 : decode cX2_answerOf 48 = .ok (.lload 6, 2) := by decide +kernel
theorem dX2_answerOf_50 : decode cX2_answerOf 50 = .ok (.lneg, 1) := by decide +kernel
theorem dX2_answerOf_51 : decode cX2_answerOf 51 = .ok (.goto 6, 3) := by decide +kernel
theorem dX2_answerOf_54 : decode cX2_answerOf 54 = .ok (.lload 4, 2) := by decide +kernel
theorem dX2_answerOf_56 : decode cX2_answerOf 56 = .ok (.lneg, 1) := by decide +kernel
theorem dX2_answerOf_57 : decode cX2_answerOf 57 = .ok (.lload_n 2, 1) := by decide +kernel
theorem dX2_answerOf_58 : decode cX2_answerOf 58 = .ok (.lconst 0, 1) := by decide +kernel
theorem dX2_answerOf_59 : decode cX2_answerOf 59 = .ok (.lcmp, 1) := by decide +kernel
theorem dX2_answerOf_60 : decode cX2_answerOf 60 = .ok (.ifCond .ne 8, 3) := by decide +kernel
theorem dX2_answerOf_63 : decode cX2_answerOf 63 = .ok (.lload 4, 2) := by decide +kernel
theorem dX2_answerOf_65 : decode cX2_answerOf 65 = .ok (.goto 8, 3) := by decide +kernel
theorem dX2_answerOf_68 : decode cX2_answerOf 68 = .ok (.ldc2_w 63, 3) := by decide +kernel
theorem dX2_answerOf_71 : decode cX2_answerOf 71 = .ok (.lload_n 2, 1) := by decide +kernel
theorem dX2_answerOf_72 : decode cX2_answerOf 72 = .ok (.lmul, 1) := by decide +kernel
theorem dX2_answerOf_73 : decode cX2_answerOf 73 = .ok (.invokevirtual 109, 3) := by decide +kernel
theorem dX2_answerOf_76 : decode cX2_answerOf 76 = .ok (.aload_n 0, 1) := by decide +kernel
theorem dX2_answerOf_77 : decode cX2_answerOf 77 = .ok (.aload_n 0, 1) := by decide +kernel
theorem dX2_answerOf_78 : decode cX2_answerOf 78 = .ok (.getfield 44, 3) := by decide +kernel
theorem dX2_answerOf_81 : decode cX2_answerOf 81 = .ok (.putfield 113, 3) := by decide +kernel
theorem dX2_answerOf_84 : decode cX2_answerOf 84 = .ok (.aload_n 0, 1) := by decide +kernel
theorem dX2_answerOf_85 : decode cX2_answerOf 85 = .ok (.aload_n 0, 1) := by decide +kernel
theorem dX2_answerOf_86 : decode cX2_answerOf 86 = .ok (.getfield 48, 3) := by decide +kernel
theorem dX2_answerOf_89 : decode cX2_answerOf 89 = .ok (.putfield 116, 3) := by decide +kernel
theorem dX2_answerOf_92 : decode cX2_answerOf 92 = .ok (.lload_n 2, 1) := by decide +kernel
theorem dX2_answerOf_93 : decode cX2_answerOf 93 = .ok (.lconst 0, 1) := by decide +kernel
theorem dX2_answerOf_94 : decode cX2_answerOf 94 = .ok (.lcmp, 1) := by decide +kernel
theorem dX2_answerOf_95 : decode cX2_answerOf 95 = .ok (.ifCond .ne 4, 3) := by decide +kernel
theorem dX2_answerOf_98 : decode cX2_answerOf 98 = .ok (.return_, 1) := by decide +kernel
theorem dX2_answerOf_99 : decode cX2_answerOf 99 = .ok (.aload_n 0, 1) := by decide +kernel
theorem dX2_answerOf_100 : decode cX2_answerOf 100 = .ok (.lload 4, 2) := by decide +kernel
theorem dX2_answerOf_102 : decode cX2_answerOf 102 = .ok (.lload 4, 2) := by decide +kernel
theorem dX2_answerOf_104 : decode cX2_answerOf 104 = .ok (.lmul, 1) := by decide +kernel
theorem dX2_answerOf_105 : decode cX2_answerOf 105 = .ok (.ldc2_w 51, 3) := by decide +kernel
theorem dX2_answerOf_108 : decode cX2_answerOf 108 = .ok (.lload_n 2, 1) := by decide +kernel
theorem dX2_answerOf_109 : decode cX2_answerOf 109 = .ok (.lmul, 1) := by decide +kernel
theorem dX2_answerOf_110 : decode cX2_answerOf 110 = .ok (.lload 6, 2) := by decide +kernel
theorem dX2_answerOf_112 : decode cX2_answerOf 112 = .ok (.lmul, 1) := by decide +kernel
theorem dX2_answerOf_113 : decode cX2_answerOf 113 = .ok (.lsub, 1) := by decide +kernel
theorem dX2_answerOf_114 : decode cX2_answerOf 114 = .ok (.putfield 100, 3) := by decide +kernel
theorem dX2_answerOf_117 : decode cX2_answerOf 117 = .ok (.lconst 1, 1) := by decide +kernel
theorem dX2_answerOf_118 : decode cX2_answerOf 118 = .ok (.lstore 8, 2) := by decide +kernel
theorem dX2_answerOf_120 : decode cX2_answerOf 120 = .ok (.ldc2_w 63, 3) := by decide +kernel
theorem dX2_answerOf_123 : decode cX2_answerOf 123 = .ok (.lstore 10, 2) := by decide +kernel
theorem dX2_answerOf_125 : decode cX2_answerOf 125 = .ok (.lload 10, 2) := by decide +kernel
theorem dX2_answerOf_127 : decode cX2_answerOf 127 = .ok (.lload 10, 2) := by decide +kernel
theorem dX2_answerOf_129 : decode cX2_answerOf 129 = .ok (.lmul, 1) := by decide +kernel
theorem dX2_answerOf_130 : decode cX2_answerOf 130 = .ok (.aload_n 0, 1) := by decide +kernel
theorem dX2_answerOf_131 : decode cX2_answerOf 131 = .ok (.getfield 100, 3) := by decide +kernel
theorem dX2_answerOf_134 : decode cX2_answerOf 134 = .ok (.invokestatic 36, 3) := by decide +kernel
theorem dX2_answerOf_137 : decode cX2_answerOf 137 = .ok (.lcmp, 1) := by decide +kernel
theorem dX2_answerOf_138 : decode cX2_answerOf 138 = .ok (.ifCond .gt 51, 3) := by decide +kernel
theorem dX2_answerOf_141 : decode cX2_answerOf 141 = .ok (.aload_n 0, 1) := by decide +kernel
theorem dX2_answerOf_142 : decode cX2_answerOf 142 = .ok (.getfield 100, 3) := by decide +kernel
theorem dX2_answerOf_145 : decode cX2_answerOf 145 = .ok (.lload 10, 2) := by decide +kernel
theorem dX2_answerOf_147 : decode cX2_answerOf 147 = .ok (.lload 10, 2) := by decide +kernel
theorem dX2_answerOf_149 : decode cX2_answerOf 149 = .ok (.lmul, 1) := by decide +kernel
theorem dX2_answerOf_150 : decode cX2_answerOf 150 = .ok (.lrem, 1) := by decide +kernel
theorem dX2_answerOf_151 : decode cX2_answerOf 151 = .ok (.lconst 0, 1) := by decide +kernel
theorem dX2_answerOf_152 : decode cX2_answerOf 152 = .ok (.lcmp, 1) := by decide +kernel
theorem dX2_answerOf_153 : decode cX2_answerOf 153 = .ok (.ifCond .ne 27, 3) := by decide +kernel
theorem dX2_answerOf_156 : decode cX2_answerOf 156 = .ok (.aload_n 0, 1) := by decide +kernel
theorem dX2_answerOf_157 : decode cX2_answerOf 157 = .ok (.dup, 1) := by decide +kernel
theorem dX2_answerOf_158 : decode cX2_answerOf 158 = .ok (.getfield 100, 3) := by decide +kernel
theorem dX2_answerOf_161 : decode cX2_answerOf 161 = .ok (.lload 10, 2) := by decide +kernel
theorem dX2_answerOf_163 : decode cX2_answerOf 163 = .ok (.lload 10, 2) := by decide +kernel
theorem dX2_answerOf_165 : decode cX2_answerOf 165 = .ok (.lmul, 1) := by decide +kernel
theorem dX2_answerOf_166 : decode cX2_answerOf 166 = .ok (.ldiv, 1) := by decide +kernel
theorem dX2_answerOf_167 : decode cX2_answerOf 167 = .ok (.putfield 100, 3) := by decide +kernel
theorem dX2_answerOf_170 : decode cX2_answerOf 170 = .ok (.lload 8, 2) := by decide +kernel
theorem dX2_answerOf_172 : decode cX2_answerOf 172 = .ok (.lload 10, 2) := by decide +kernel
theorem dX2_answerOf_174 : decode cX2_answerOf 174 = .ok (.lmul, 1) := by decide +kernel
theorem dX2_answerOf_175 : decode cX2_answerOf 175 = .ok (.lstore 8, 2) := by decide +kernel
theorem dX2_answerOf_177 : decode cX2_answerOf 177 = .ok (.goto (-36), 3) := by decide +kernel
theorem dX2_answerOf_180 : decode cX2_answerOf 180 = .ok (.lload 10, 2) := by decide +kernel
theorem dX2_answerOf_182 : decode cX2_answerOf 182 = .ok (.lconst 1, 1) := by decide +kernel
theorem dX2_answerOf_183 : decode cX2_answerOf 183 = .ok (.ladd, 1) := by decide +kernel
theorem dX2_answerOf_184 : decode cX2_answerOf 184 = .ok (.lstore 10, 2) := by decide +kernel
theorem dX2_answerOf_186 : decode cX2_answerOf 186 = .ok (.goto (-61), 3) := by decide +kernel
theorem dX2_answerOf_189 : decode cX2_answerOf 189 = .ok (.aload_n 0, 1) := by decide +kernel
theorem dX2_answerOf_190 : decode cX2_answerOf 190 = .ok (.lload 8, 2) := by decide +kernel
theorem dX2_answerOf_192 : decode cX2_answerOf 192 = .ok (.ldc2_w 63, 3) := by decide +kernel
theorem dX2_answerOf_195 : decode cX2_answerOf 195 = .ok (.lload_n 2, 1) := by decide +kernel
theorem dX2_answerOf_196 : decode cX2_answerOf 196 = .ok (.lmul, 1) := by decide +kernel
theorem dX2_answerOf_197 : decode cX2_answerOf 197 = .ok (.invokevirtual 109, 3) := by decide +kernel
theorem dX2_answerOf_200 : decode cX2_answerOf 200 = .ok (.aload_n 0, 1) := by decide +kernel
theorem dX2_answerOf_201 : decode cX2_answerOf 201 = .ok (.aload_n 0, 1) := by decide +kernel
theorem dX2_answerOf_202 : decode cX2_answerOf 202 = .ok (.getfield 44, 3) := by decide +kernel
theorem dX2_answerOf_205 : decode cX2_answerOf 205 = .ok (.putfield 103, 3) := by decide +kernel
theorem dX2_answerOf_208 : decode cX2_answerOf 208 = .ok (.aload_n 0, 1) := by decide +kernel
theorem dX2_answerOf_209 : decode cX2_answerOf 209 = .ok (.aload_n 0, 1) := by decide +kernel
theorem dX2_answerOf_210 : decode cX2_answerOf 210 = .ok (.getfield 48, 3) := by decide +kernel
theorem dX2_answerOf_213 : decode cX2_answerOf 213 = .ok (.putfield 106, 3) := by decide +kernel
theorem dX2_answerOf_216 : decode cX2_answerOf 216 = .ok (.return_, 1) := by decide +kernel
theorem dX2_factor_0 : decode cX2_factor 0 = .ok (.aload_n 0, 1) := by decide +kernel
theorem dX2_factor_1 : decode cX2_factor 1 = .ok (.iload_n 1, 1) := by decide +kernel
theorem dX2_factor_2 : decode cX2_factor 2 = .ok (.invokevirtual 119, 3) := by decide +kernel
theorem dX2_factor_5 : decode cX2_factor 5 = .ok (.ifCond .ne 5, 3) := by decide +kernel
theorem dX2_factor_8 : decode cX2_factor 8 = .ok (.iconst 0, 1) := by decide +kernel
theorem dX2_factor_9 : decode cX2_factor 9 = .ok (.ireturn, 1) := by decide +kernel
theorem dX2_factor_10 : decode cX2_factor 10 = .ok (.aload_n 0, 1) := by decide +kernel
theorem dX2_factor_11 : decode cX2_factor 11 = .ok (.iload_n 2, 1) := by decide +kernel
theorem dX2_factor_12 : decode cX2_factor 12 = .ok (.i2l, 1) := by decide +kernel
theorem dX2_factor_13 : decode cX2_factor 13 = .ok (.lconst 0, 1) := by decide +kernel
theorem dX2_factor_14 : decode cX2_factor 14 = .ok (.ldc2_w 123, 3) := by decide +kernel
theorem dX2_factor_17 : decode cX2_factor 17 = .ok (.invokestatic 53, 3) := by decide +kernel
theorem dX2_factor_20 : decode cX2_factor 20 = .ok (.ifCond .eq 7, 3) := by decide +kernel
theorem dX2_factor_23 : decode cX2_factor 23 = .ok (.iconst 0, 1) := by decide +kernel
theorem dX2_factor_24 : decode cX2_factor 24 = .ok (.goto 4, 3) := by decide +kernel
theorem dX2_factor_27 : decode cX2_factor 27 = .ok (.iconst 3, 1) := by decide +kernel
theorem dX2_factor_28 : decode cX2_factor 28 = .ok (.putfield 32, 3) := by decide +kernel
theorem dX2_factor_31 : decode cX2_factor 31 = .ok (.aload_n 0, 1) := by decide +kernel
theorem dX2_factor_32 : decode cX2_factor 32 = .ok (.getfield 32, 3) := by decide +kernel
theorem dX2_factor_35 : decode cX2_factor 35 = .ok (.ifCond .le 5, 3) := by decide +kernel
theorem dX2_factor_38 : decode cX2_factor 38 = .ok (.iconst 0, 1) := by decide +kernel
theorem dX2_factor_39 : decode cX2_factor 39 = .ok (.ireturn, 1) := by decide +kernel
theorem dX2_factor_40 : decode cX2_factor 40 = .ok (.iload_n 2, 1) := by decide +kernel
theorem dX2_factor_41 : decode cX2_factor 41 = .ok (.iconst 2, 1) := by decide +kernel
theorem dX2_factor_42 : decode cX2_factor 42 = .ok (.if_icmp .ge 32, 3) := by decide +kernel
theorem dX2_factor_45 : decode cX2_factor 45 = .ok (.iload_n 2, 1) := by decide +kernel
theorem dX2_factor_46 : decode cX2_factor 46 = .ok (.iconst 1, 1) := by decide +kernel
theorem dX2_factor_47 : decode cX2_factor 47 = .ok (.if_icmp .ne 12, 3) := by decide +kernel
theorem dX2_factor_50 : decode cX2_factor 50 = .ok (.aload_n 0, 1) := by decide +kernel
theorem dX2_factor_51 : decode cX2_factor 51 = .ok (.getfield 29, 3) := by decide +kernel
theorem dX2_factor_54 : decode cX2_factor 54 = .ok (.iload_n 1, 1) := by decide +kernel
theorem dX2_factor_55 : decode cX2_factor 55 = .ok (.iaload, 1) := by decide +kernel
theorem dX2_factor_56 : decode cX2_factor 56 = .ok (.goto 17, 3) := by decide +kernel
theorem dX2_factor_59 : decode cX2_factor 59 = .ok (.aload_n 0, 1) := by decide +kernel
theorem dX2_factor_60 : decode cX2_factor 60 = .ok (.getfield 20, 3) := by decide +kernel
theorem dX2_factor_63 : decode cX2_factor 63 = .ok (.iload_n 1, 1) := by decide +kernel
theorem dX2_factor_64 : decode cX2_factor 64 = .ok (.iaload, 1) := by decide +kernel
theorem dX2_factor_65 : decode cX2_factor 65 = .ok (.ifCond .ne 7, 3) := by decide +kernel
theorem dX2_factor_68 : decode cX2_factor 68 = .ok (.iconst 1, 1) := by decide +kernel
theorem dX2_factor_69 : decode cX2_factor 69 = .ok (.goto 4, 3) := by decide +kernel
theorem dX2_factor_72 : decode cX2_factor 72 = .ok (.iconst 2, 1) := by decide +kernel
theorem dX2_factor_73 : decode cX2_factor 73 = .ok (.ireturn, 1) := by decide +kernel
theorem dX2_factor_74 : decode cX2_factor 74 = .ok (.iload_n 2, 1) := by decide +kernel
theorem dX2_factor_75 : decode cX2_factor 75 = .ok (.iconst 5, 1) := by decide +kernel
theorem dX2_factor_76 : decode cX2_factor 76 = .ok (.if_icmp .ge 38, 3) := by decide +kernel
theorem dX2_factor_79 : decode cX2_factor 79 = .ok (.iload_n 2, 1) := by decide +kernel
theorem dX2_factor_80 : decode cX2_factor 80 = .ok (.iconst 2, 1) := by decide +kernel
theorem dX2_factor_81 : decode cX2_factor 81 = .ok (.if_icmp .ne 12, 3) := by decide +kernel
theorem dX2_factor_84 : decode cX2_factor 84 = .ok (.aload_n 0, 1) := by decide +kernel
theorem dX2_factor_85 : decode cX2_factor 85 = .ok (.getfield 20, 3) := by decide +kernel
theorem dX2_factor_88 : decode cX2_factor 88 = .ok (.iload_n 1, 1) := by decide +kernel
theorem dX2_factor_89 : decode cX2_factor 89 = .ok (.iaload, 1) := by decide +kernel
theorem dX2_factor_90 : decode cX2_factor 90 = .ok (.goto 23, 3) := by decide +kernel
theorem dX2_factor_93 : decode cX2_factor 93 = .ok (.iload_n 2, 1) := by decide +kernel
theorem dX2_factor_94 : decode cX2_factor 94 = .ok (.iconst 3, 1) := by decide +kernel
theorem dX2_factor_95 : decode cX2_factor 95 = .ok (.if_icmp .ne 12, 3) := by decide +kernel
theorem dX2_factor_98 : decode cX2_factor 98 = .ok (.aload_n 0, 1) := by decide +kernel
theorem dX2_factor_99 : decode cX2_factor 99 = .ok (.getfield 23, 3) := by decide +kernel
theorem dX2_factor_102 : decode cX2_factor 102 = .ok (.iload_n 1, 1) := by decide +kernel
theorem dX2_factor_103 : decode cX2_factor 103 = .ok (.iaload, 1) := by decide +kernel
theorem dX2_factor_104 : decode cX2_factor 104 = .ok (.goto 9, 3) := by decide +kernel
theorem dX2_factor_107 : decode cX2_factor 107 = .ok (.aload_n 0, 1) := by decide +kernel
theorem dX2_factor_108 : decode cX2_factor 108 = .ok (.getfield 26, 3) := by decide +kernel
theorem dX2_factor_111 : decode cX2_factor 111 = .ok (.iload_n 1, 1) := by decide +kernel
theorem dX2_factor_112 : decode cX2_factor 112 = .ok (.iaload, 1) := by decide +kernel
theorem dX2_factor_113 : decode cX2_factor 113 = .ok (.ireturn, 1) := by decide +kernel
theorem dX2_factor_114 : decode cX2_factor 114 = .ok (.aload_n 0, 1) := by decide +kernel
theorem dX2_factor_115 : decode cX2_factor 115 = .ok (.iload_n 1, 1) := by decide +kernel
theorem dX2_factor_116 : decode cX2_factor 116 = .ok (.invokevirtual 125, 3) := by decide +kernel
theorem dX2_factor_119 : decode cX2_factor 119 = .ok (.aload_n 0, 1) := by decide +kernel
theorem dX2_factor_120 : decode cX2_factor 120 = .ok (.getfield 100, 3) := by decide +kernel
theorem dX2_factor_123 : decode cX2_factor 123 = .ok (.l2i, 1) := by decide +kernel
theorem dX2_factor_124 : decode cX2_factor 124 = .ok (.ireturn, 1) := by decide +kernel
theorem dX2_content_0 : decode cX2_content 0 = .ok (.aload_n 0, 1) := by decide +kernel
theorem dX2_content_1 : decode cX2_content 1 = .ok (.invokevirtual 89, 3) := by decide +kernel
theorem dX2_content_4 : decode cX2_content 4 = .ok (.ifCond .eq 9, 3) := by decide +kernel
theorem dX2_content_7 : decode cX2_content 7 = .ok (.aload_n 0, 1) := by decide +kernel
theorem dX2_content_8 : decode cX2_content 8 = .ok (.iconst 1, 1) := by decide +kernel
theorem dX2_content_9 : decode cX2_content 9 = .ok (.invokevirtual 93, 3) := by decide +kernel
theorem dX2_content_12 : decode cX2_content 12 = .ok (.ireturn, 1) := by decide +kernel
theorem dX2_content_13 : decode cX2_content 13 = .ok (.aload_n 0, 1) := by decide +kernel
theorem dX2_content_14 : decode cX2_content 14 = .ok (.iconst 0, 1) := by decide +kernel
theorem dX2_content_15 : decode cX2_content 15 = .ok (.putfield 32, 3) := by decide +kernel
theorem dX2_content_18 : decode cX2_content 18 = .ok (.aload_n 0, 1) := by decide +kernel
theorem dX2_content_19 : decode cX2_content 19 = .ok (.invokevirtual 97, 3) := by decide +kernel
theorem dX2_content_22 : decode cX2_content 22 = .ok (.aload_n 0, 1) := by decide +kernel
theorem dX2_content_23 : decode cX2_content 23 = .ok (.getfield 79, 3) := by decide +kernel
theorem dX2_content_26 : decode cX2_content 26 = .ok (.ireturn, 1) := by decide +kernel
theorem dX2_left_0 : decode cX2_left 0 = .ok (.aload_n 0, 1) := by decide +kernel
theorem dX2_left_1 : decode cX2_left 1 = .ok (.invokevirtual 89, 3) := by decide +kernel
theorem dX2_left_4 : decode cX2_left 4 = .ok (.ifCond .eq 9, 3) := by decide +kernel
theorem dX2_left_7 : decode cX2_left 7 = .ok (.aload_n 0, 1) := by decide +kernel
theorem dX2_left_8 : decode cX2_left 8 = .ok (.iconst 1, 1) := by decide +kernel
theorem dX2_left_9 : decode cX2_left 9 = .ok (.invokevirtual 93, 3) := by decide +kernel
theorem dX2_left_12 : decode cX2_left 12 = .ok (.ireturn, 1) := by decide +kernel
theorem dX2_left_13 : decode cX2_left 13 = .ok (.aload_n 0, 1) := by decide +kernel
theorem dX2_left_14 : decode cX2_left 14 = .ok (.iload_n 1, 1) := by decide +kernel
theorem dX2_left_15 : decode cX2_left 15 = .ok (.i2l, 1) := by decide +kernel
theorem dX2_left_16 : decode cX2_left 16 = .ok (.lconst 0, 1) := by decide +kernel
theorem dX2_left_17 : decode cX2_left 17 = .ok (.ldc2_w 51, 3) := by decide +kernel
theorem dX2_left_20 : decode cX2_left 20 = .ok (.invokestatic 53, 3) := by decide +kernel
theorem dX2_left_23 : decode cX2_left 23 = .ok (.ifCond .eq 7, 3) := by decide +kernel
theorem dX2_left_26 : decode cX2_left 26 = .ok (.iconst 0, 1) := by decide +kernel
theorem dX2_left_27 : decode cX2_left 27 = .ok (.goto 4, 3) := by decide +kernel
theorem dX2_left_30 : decode cX2_left 30 = .ok (.iconst 2, 1) := by decide +kernel
theorem dX2_left_31 : decode cX2_left 31 = .ok (.putfield 32, 3) := by decide +kernel
theorem dX2_left_34 : decode cX2_left 34 = .ok (.aload_n 0, 1) := by decide +kernel
theorem dX2_left_35 : decode cX2_left 35 = .ok (.getfield 32, 3) := by decide +kernel
theorem dX2_left_38 : decode cX2_left 38 = .ok (.ifCond .le 5, 3) := by decide +kernel
theorem dX2_left_41 : decode cX2_left 41 = .ok (.iconst 0, 1) := by decide +kernel
theorem dX2_left_42 : decode cX2_left 42 = .ok (.ireturn, 1) := by decide +kernel
theorem dX2_left_43 : decode cX2_left 43 = .ok (.aload_n 0, 1) := by decide +kernel
theorem dX2_left_44 : decode cX2_left 44 = .ok (.invokevirtual 97, 3) := by decide +kernel
theorem dX2_left_47 : decode cX2_left 47 = .ok (.aload_n 0, 1) := by decide +kernel
theorem dX2_left_48 : decode cX2_left 48 = .ok (.getfield 13, 3) := by decide +kernel
theorem dX2_left_51 : decode cX2_left 51 = .ok (.iload_n 1, 1) := by decide +kernel
theorem dX2_left_52 : decode cX2_left 52 = .ok (.laload, 1) := by decide +kernel
theorem dX2_left_53 : decode cX2_left 53 = .ok (.l2i, 1) := by decide +kernel
theorem dX2_left_54 : decode cX2_left 54 = .ok (.ireturn, 1) := by decide +kernel
theorem dX2_answer_0 : decode cX2_answer 0 = .ok (.aload_n 0, 1) := by decide +kernel
theorem dX2_answer_1 : decode cX2_answer 1 = .ok (.iload_n 1, 1) := by decide +kernel
theorem dX2_answer_2 : decode cX2_answer 2 = .ok (.invokevirtual 119, 3) := by decide +kernel
theorem dX2_answer_5 : decode cX2_answer 5 = .ok (.ifCond .ne 5, 3) := by decide +kernel
theorem dX2_answer_8 : decode cX2_answer 8 = .ok (.iconst 0, 1) := by decide +kernel
theorem dX2_answer_9 : decode cX2_answer 9 = .ok (.ireturn, 1) := by decide +kernel
theorem dX2_answer_10 : decode cX2_answer 10 = .ok (.aload_n 0, 1) := by decide +kernel
theorem dX2_answer_11 : decode cX2_answer 11 = .ok (.iload_n 2, 1) := by decide +kernel
theorem dX2_answer_12 : decode cX2_answer 12 = .ok (.i2l, 1) := by decide +kernel
theorem dX2_answer_13 : decode cX2_answer 13 = .ok (.lconst 0, 1) := by decide +kernel
theorem dX2_answer_14 : decode cX2_answer 14 = .ok (.lconst 1, 1) := by decide +kernel
theorem dX2_answer_15 : decode cX2_answer 15 = .ok (.invokestatic 53, 3) := by decide +kernel
theorem dX2_answer_18 : decode cX2_answer 18 = .ok (.ifCond .eq 17, 3) := by decide +kernel
theorem dX2_answer_21 : decode cX2_answer 21 = .ok (.iload_n 3, 1) := by decide +kernel
theorem dX2_answer_22 : decode cX2_answer 22 = .ok (.i2l, 1) := by decide +kernel
theorem dX2_answer_23 : decode cX2_answer 23 = .ok (.lconst 0, 1) := by decide +kernel
theorem dX2_answer_24 : decode cX2_answer 24 = .ok (.lconst 1, 1) := by decide +kernel
theorem dX2_answer_25 : decode cX2_answer 25 = .ok (.invokestatic 53, 3) := by decide +kernel
theorem dX2_answer_28 : decode cX2_answer 28 = .ok (.ifCond .eq 7, 3) := by decide +kernel
theorem dX2_answer_31 : decode cX2_answer 31 = .ok (.iconst 0, 1) := by decide +kernel
theorem dX2_answer_32 : decode cX2_answer 32 = .ok (.goto 4, 3) := by decide +kernel
theorem dX2_answer_35 : decode cX2_answer 35 = .ok (.iconst 3, 1) := by decide +kernel
theorem dX2_answer_36 : decode cX2_answer 36 = .ok (.putfield 32, 3) := by decide +kernel
theorem dX2_answer_39 : decode cX2_answer 39 = .ok (.aload_n 0, 1) := by decide +kernel
theorem dX2_answer_40 : decode cX2_answer 40 = .ok (.getfield 32, 3) := by decide +kernel
theorem dX2_answer_43 : decode cX2_answer 43 = .ok (.ifCond .le 5, 3) := by decide +kernel
theorem dX2_answer_46 : decode cX2_answer 46 = .ok (.iconst 0, 1) := by decide +kernel
theorem dX2_answer_47 : decode cX2_answer 47 = .ok (.ireturn, 1) := by decide +kernel
theorem dX2_answer_48 : decode cX2_answer 48 = .ok (.aload_n 0, 1) := by decide +kernel
theorem dX2_answer_49 : decode cX2_answer 49 = .ok (.iload_n 1, 1) := by decide +kernel
theorem dX2_answer_50 : decode cX2_answer 50 = .ok (.invokevirtual 125, 3) := by decide +kernel
theorem dX2_answer_53 : decode cX2_answer 53 = .ok (.iload_n 2, 1) := by decide +kernel
theorem dX2_answer_54 : decode cX2_answer 54 = .ok (.ifCond .ne 21, 3) := by decide +kernel
theorem dX2_answer_57 : decode cX2_answer 57 = .ok (.iload_n 3, 1) := by decide +kernel
theorem dX2_answer_58 : decode cX2_answer 58 = .ok (.ifCond .ne 10, 3) := by decide +kernel
theorem dX2_answer_61 : decode cX2_answer 61 = .ok (.aload_n 0, 1) := by decide +kernel
theorem dX2_answer_62 : decode cX2_answer 62 = .ok (.getfield 113, 3) := by decide +kernel
theorem dX2_answer_65 : decode cX2_answer 65 = .ok (.goto 25, 3) := by decide +kernel
theorem dX2_answer_68 : decode cX2_answer 68 = .ok (.aload_n 0, 1) := by decide +kernel
theorem dX2_answer_69 : decode cX2_answer 69 = .ok (.getfield 116, 3) := by decide +kernel
theorem dX2_answer_72 : decode cX2_answer 72 = .ok (.goto 18, 3) := by decide +kernel
theorem dX2_answer_75 : decode cX2_answer 75 = .ok (.iload_n 3, 1) := by decide +kernel
theorem dX2_answer_76 : decode cX2_answer 76 = .ok (.ifCond .ne 10, 3) := by decide +kernel
theorem dX2_answer_79 : decode cX2_answer 79 = .ok (.aload_n 0, 1) := by decide +kernel
theorem dX2_answer_80 : decode cX2_answer 80 = .ok (.getfield 103, 3) := by decide +kernel
theorem dX2_answer_83 : decode cX2_answer 83 = .ok (.goto 7, 3) := by decide +kernel
theorem dX2_answer_86 : decode cX2_answer 86 = .ok (.aload_n 0, 1) := by decide +kernel
theorem dX2_answer_87 : decode cX2_answer 87 = .ok (.getfield 106, 3) := by decide +kernel
theorem dX2_answer_90 : decode cX2_answer 90 = .ok (.l2i, 1) := by decide +kernel
theorem dX2_answer_91 : decode cX2_answer 91 = .ok (.ireturn, 1) := by decide +kernel
theorem dX2_isReal_0 : decode cX2_isReal 0 = .ok (.aload_n 0, 1) := by decide +kernel
theorem dX2_isReal_1 : decode cX2_isReal 1 = .ok (.getfield 20, 3) := by decide +kernel
theorem dX2_isReal_4 : decode cX2_isReal 4 = .ok (.iload_n 1, 1) := by decide +kernel
theorem dX2_isReal_5 : decode cX2_isReal 5 = .ok (.iaload, 1) := by decide +kernel
theorem dX2_isReal_6 : decode cX2_isReal 6 = .ok (.ifCond .eq 41, 3) := by decide +kernel
theorem dX2_isReal_9 : decode cX2_isReal 9 = .ok (.aload_n 0, 1) := by decide +kernel
theorem dX2_isReal_10 : decode cX2_isReal 10 = .ok (.getfield 23, 3) := by decide +kernel
theorem dX2_isReal_13 : decode cX2_isReal 13 = .ok (.iload_n 1, 1) := by decide +kernel
theorem dX2_isReal_14 : decode cX2_isReal 14 = .ok (.iaload, 1) := by decide +kernel
theorem dX2_isReal_15 : decode cX2_isReal 15 = .ok (.i2l, 1) := by decide +kernel
theorem dX2_isReal_16 : decode cX2_isReal 16 = .ok (.aload_n 0, 1) := by decide +kernel
theorem dX2_isReal_17 : decode cX2_isReal 17 = .ok (.getfield 23, 3) := by decide +kernel
theorem dX2_isReal_20 : decode cX2_isReal 20 = .ok (.iload_n 1, 1) := by decide +kernel
theorem dX2_isReal_21 : decode cX2_isReal 21 = .ok (.iaload, 1) := by decide +kernel
theorem dX2_isReal_22 : decode cX2_isReal 22 = .ok (.i2l, 1) := by decide +kernel
theorem dX2_isReal_23 : decode cX2_isReal 23 = .ok (.lmul, 1) := by decide +kernel
theorem dX2_isReal_24 : decode cX2_isReal 24 = .ok (.ldc2_w 51, 3) := by decide +kernel
theorem dX2_isReal_27 : decode cX2_isReal 27 = .ok (.aload_n 0, 1) := by decide +kernel
theorem dX2_isReal_28 : decode cX2_isReal 28 = .ok (.getfield 20, 3) := by decide +kernel
theorem dX2_isReal_31 : decode cX2_isReal 31 = .ok (.iload_n 1, 1) := by decide +kernel
theorem dX2_isReal_32 : decode cX2_isReal 32 = .ok (.iaload, 1) := by decide +kernel
theorem dX2_isReal_33 : decode cX2_isReal 33 = .ok (.i2l, 1) := by decide +kernel
theorem dX2_isReal_34 : decode cX2_isReal 34 = .ok (.lmul, 1) := by decide +kernel
theorem dX2_isReal_35 : decode cX2_isReal 35 = .ok (.aload_n 0, 1) := by decide +kernel
theorem dX2_isReal_36 : decode cX2_isReal 36 = .ok (.getfield 26, 3) := by decide +kernel
theorem dX2_isReal_39 : decode cX2_isReal 39 = .ok (.iload_n 1, 1) := by decide +kernel
theorem dX2_isReal_40 : decode cX2_isReal 40 = .ok (.iaload, 1) := by decide +kernel
theorem dX2_isReal_41 : decode cX2_isReal 41 = .ok (.i2l, 1) := by decide +kernel
theorem dX2_isReal_42 : decode cX2_isReal 42 = .ok (.lmul, 1) := by decide +kernel
theorem dX2_isReal_43 : decode cX2_isReal 43 = .ok (.lcmp, 1) := by decide +kernel
theorem dX2_isReal_44 : decode cX2_isReal 44 = .ok (.ifCond .le 7, 3) := by decide +kernel
theorem dX2_isReal_47 : decode cX2_isReal 47 = .ok (.iconst 1, 1) := by decide +kernel
theorem dX2_isReal_48 : decode cX2_isReal 48 = .ok (.goto 4, 3) := by decide +kernel
theorem dX2_isReal_51 : decode cX2_isReal 51 = .ok (.iconst 0, 1) := by decide +kernel
theorem dX2_isReal_52 : decode cX2_isReal 52 = .ok (.ireturn, 1) := by decide +kernel
theorem dX2_real_0 : decode cX2_real 0 = .ok (.aload_n 0, 1) := by decide +kernel
theorem dX2_real_1 : decode cX2_real 1 = .ok (.invokevirtual 89, 3) := by decide +kernel
theorem dX2_real_4 : decode cX2_real 4 = .ok (.ifCond .eq 9, 3) := by decide +kernel
theorem dX2_real_7 : decode cX2_real 7 = .ok (.aload_n 0, 1) := by decide +kernel
theorem dX2_real_8 : decode cX2_real 8 = .ok (.iconst 1, 1) := by decide +kernel
theorem dX2_real_9 : decode cX2_real 9 = .ok (.invokevirtual 93, 3) := by decide +kernel
theorem dX2_real_12 : decode cX2_real 12 = .ok (.ireturn, 1) := by decide +kernel
theorem dX2_real_13 : decode cX2_real 13 = .ok (.aload_n 0, 1) := by decide +kernel
theorem dX2_real_14 : decode cX2_real 14 = .ok (.iconst 0, 1) := by decide +kernel
theorem dX2_real_15 : decode cX2_real 15 = .ok (.putfield 32, 3) := by decide +kernel
theorem dX2_real_18 : decode cX2_real 18 = .ok (.aload_n 0, 1) := by decide +kernel
theorem dX2_real_19 : decode cX2_real 19 = .ok (.invokevirtual 97, 3) := by decide +kernel
theorem dX2_real_22 : decode cX2_real 22 = .ok (.iconst 0, 1) := by decide +kernel
theorem dX2_real_23 : decode cX2_real 23 = .ok (.istore_n 1, 1) := by decide +kernel
theorem dX2_real_24 : decode cX2_real 24 = .ok (.iconst 0, 1) := by decide +kernel
theorem dX2_real_25 : decode cX2_real 25 = .ok (.istore_n 2, 1) := by decide +kernel
theorem dX2_real_26 : decode cX2_real 26 = .ok (.iload_n 2, 1) := by decide +kernel
theorem dX2_real_27 : decode cX2_real 27 = .ok (.aload_n 0, 1) := by decide +kernel
theorem dX2_real_28 : decode cX2_real 28 = .ok (.getfield 72, 3) := by decide +kernel
theorem dX2_real_31 : decode cX2_real 31 = .ok (.if_icmp .ge 34, 3) := by decide +kernel
theorem dX2_real_34 : decode cX2_real 34 = .ok (.aload_n 0, 1) := by decide +kernel
theorem dX2_real_35 : decode cX2_real 35 = .ok (.iload_n 2, 1) := by decide +kernel
theorem dX2_real_36 : decode cX2_real 36 = .ok (.invokevirtual 129, 3) := by decide +kernel
theorem dX2_real_39 : decode cX2_real 39 = .ok (.ifCond .eq 20, 3) := by decide +kernel
theorem dX2_real_42 : decode cX2_real 42 = .ok (.iload_n 1, 1) := by decide +kernel
theorem dX2_real_43 : decode cX2_real 43 = .ok (.aload_n 0, 1) := by decide +kernel
theorem dX2_real_44 : decode cX2_real 44 = .ok (.getfield 20, 3) := by decide +kernel
theorem dX2_real_47 : decode cX2_real 47 = .ok (.iload_n 2, 1) := by decide +kernel
theorem dX2_real_48 : decode cX2_real 48 = .ok (.iaload, 1) := by decide +kernel
theorem dX2_real_49 : decode cX2_real 49 = .ok (.ifCond .ne 7, 3) := by decide +kernel
theorem dX2_real_52 : decode cX2_real 52 = .ok (.iconst 1, 1) := by decide +kernel
theorem dX2_real_53 : decode cX2_real 53 = .ok (.goto 4, 3) := by decide +kernel
theorem dX2_real_56 : decode cX2_real 56 = .ok (.iconst 2, 1) := by decide +kernel
theorem dX2_real_57 : decode cX2_real 57 = .ok (.iadd, 1) := by decide +kernel
theorem dX2_real_58 : decode cX2_real 58 = .ok (.istore_n 1, 1) := by decide +kernel
theorem dX2_real_59 : decode cX2_real 59 = .ok (.iinc 2 1, 3) := by decide +kernel
theorem dX2_real_62 : decode cX2_real 62 = .ok (.goto (-36), 3) := by decide +kernel
theorem dX2_real_65 : decode cX2_real 65 = .ok (.iload_n 1, 1) := by decide +kernel
theorem dX2_real_66 : decode cX2_real 66 = .ok (.ireturn, 1) := by decide +kernel
theorem dX2_sign_0 : decode cX2_sign 0 = .ok (.aload_n 0, 1) := by decide +kernel
theorem dX2_sign_1 : decode cX2_sign 1 = .ok (.getfield 20, 3) := by decide +kernel
theorem dX2_sign_4 : decode cX2_sign 4 = .ok (.iload_n 1, 1) := by decide +kernel
theorem dX2_sign_5 : decode cX2_sign 5 = .ok (.iaload, 1) := by decide +kernel
theorem dX2_sign_6 : decode cX2_sign 6 = .ok (.i2l, 1) := by decide +kernel
theorem dX2_sign_7 : decode cX2_sign 7 = .ok (.lstore 7, 2) := by decide +kernel
theorem dX2_sign_9 : decode cX2_sign 9 = .ok (.aload_n 0, 1) := by decide +kernel
theorem dX2_sign_10 : decode cX2_sign 10 = .ok (.getfield 23, 3) := by decide +kernel
theorem dX2_sign_13 : decode cX2_sign 13 = .ok (.iload_n 1, 1) := by decide +kernel
theorem dX2_sign_14 : decode cX2_sign 14 = .ok (.iaload, 1) := by decide +kernel
theorem dX2_sign_15 : decode cX2_sign 15 = .ok (.i2l, 1) := by decide +kernel
theorem dX2_sign_16 : decode cX2_sign 16 = .ok (.lstore 9, 2) := by decide +kernel
theorem dX2_sign_18 : decode cX2_sign 18 = .ok (.aload_n 0, 1) := by decide +kernel
theorem dX2_sign_19 : decode cX2_sign 19 = .ok (.getfield 26, 3) := by decide +kernel
theorem dX2_sign_22 : decode cX2_sign 22 = .ok (.iload_n 1, 1) := by decide +kernel
theorem dX2_sign_23 : decode cX2_sign 23 = .ok (.iaload, 1) := by decide +kernel
theorem dX2_sign_24 : decode cX2_sign 24 = .ok (.i2l, 1) := by decide +kernel
theorem dX2_sign_25 : decode cX2_sign 25 = .ok (.lstore 11, 2) := by decide +kernel
theorem dX2_sign_27 : decode cX2_sign 27 = .ok (.lload 7, 2) := by decide +kernel
theorem dX2_sign_29 : decode cX2_sign 29 = .ok (.lconst 0, 1) := by decide +kernel
theorem dX2_sign_30 : decode cX2_sign 30 = .ok (.lcmp, 1) := by decide +kernel
theorem dX2_sign_31 : decode cX2_sign 31 = .ok (.ifCond .ne 40, 3) := by decide +kernel
theorem dX2_sign_34 : decode cX2_sign 34 = .ok (.lload 11, 2) := by decide +kernel
theorem dX2_sign_36 : decode cX2_sign 36 = .ok (.lneg, 1) := by decide +kernel
theorem dX2_sign_37 : decode cX2_sign 37 = .ok (.lload 5, 2) := by decide +kernel
theorem dX2_sign_39 : decode cX2_sign 39 = .ok (.lmul, 1) := by decide +kernel
theorem dX2_sign_40 : decode cX2_sign 40 = .ok (.lload_n 3, 1) := by decide +kernel
theorem dX2_sign_41 : decode cX2_sign 41 = .ok (.lload 9, 2) := by decide +kernel
theorem dX2_sign_43 : decode cX2_sign 43 = .ok (.lmul, 1) := by decide +kernel
theorem dX2_sign_44 : decode cX2_sign 44 = .ok (.lsub, 1) := by decide +kernel
theorem dX2_sign_45 : decode cX2_sign 45 = .ok (.lstore 13, 2) := by decide +kernel
theorem dX2_sign_47 : decode cX2_sign 47 = .ok (.lload 13, 2) := by decide +kernel
theorem dX2_sign_49 : decode cX2_sign 49 = .ok (.lconst 0, 1) := by decide +kernel
theorem dX2_sign_50 : decode cX2_sign 50 = .ok (.lcmp, 1) := by decide +kernel
theorem dX2_sign_51 : decode cX2_sign 51 = .ok (.ifCond .le 7, 3) := by decide +kernel
theorem dX2_sign_54 : decode cX2_sign 54 = .ok (.iconst 1, 1) := by decide +kernel
theorem dX2_sign_55 : decode cX2_sign 55 = .ok (.goto 15, 3) := by decide +kernel
theorem dX2_sign_58 : decode cX2_sign 58 = .ok (.lload 13, 2) := by decide +kernel
theorem dX2_sign_60 : decode cX2_sign 60 = .ok (.lconst 0, 1) := by decide +kernel
theorem dX2_sign_61 : decode cX2_sign 61 = .ok (.lcmp, 1) := by decide +kernel
theorem dX2_sign_62 : decode cX2_sign 62 = .ok (.ifCond .ge 7, 3) := by decide +kernel
theorem dX2_sign_65 : decode cX2_sign 65 = .ok (.iconst (-1), 1) := by decide +kernel
theorem dX2_sign_66 : decode cX2_sign 66 = .ok (.goto 4, 3) := by decide +kernel
theorem dX2_sign_69 : decode cX2_sign 69 = .ok (.iconst 0, 1) := by decide +kernel
theorem dX2_sign_70 : decode cX2_sign 70 = .ok (.ireturn, 1) := by decide +kernel
theorem dX2_sign_71 : decode cX2_sign 71 = .ok (.lload 7, 2) := by decide +kernel
theorem dX2_sign_73 : decode cX2_sign 73 = .ok (.lload_n 3, 1) := by decide +kernel
theorem dX2_sign_74 : decode cX2_sign 74 = .ok (.lmul, 1) := by decide +kernel
theorem dX2_sign_75 : decode cX2_sign 75 = .ok (.lload_n 3, 1) := by decide +kernel
theorem dX2_sign_76 : decode cX2_sign 76 = .ok (.lmul, 1) := by decide +kernel
theorem dX2_sign_77 : decode cX2_sign 77 = .ok (.lload 9, 2) := by decide +kernel
theorem dX2_sign_79 : decode cX2_sign 79 = .ok (.lload_n 3, 1) := by decide +kernel
theorem dX2_sign_80 : decode cX2_sign 80 = .ok (.lmul, 1) := by decide +kernel
theorem dX2_sign_81 : decode cX2_sign 81 = .ok (.lload 5, 2) := by decide +kernel
theorem dX2_sign_83 : decode cX2_sign 83 = .ok (.lmul, 1) := by decide +kernel
theorem dX2_sign_84 : decode cX2_sign 84 = .ok (.ladd, 1) := by decide +kernel
theorem dX2_sign_85 : decode cX2_sign 85 = .ok (.lload 11, 2) := by decide +kernel
theorem dX2_sign_87 : decode cX2_sign 87 = .ok (.lload 5, 2) := by decide +kernel
theorem dX2_sign_89 : decode cX2_sign 89 = .ok (.lmul, 1) := by decide +kernel
theorem dX2_sign_90 : decode cX2_sign 90 = .ok (.lload 5, 2) := by decide +kernel
theorem dX2_sign_92 : decode cX2_sign 92 = .ok (.lmul, 1) := by decide +kernel
theorem dX2_sign_93 : decode cX2_sign 93 = .ok (.ladd, 1) := by decide +kernel
theorem dX2_sign_94 : decode cX2_sign 94 = .ok (.lstore 13, 2) := by decide +kernel
theorem dX2_sign_96 : decode cX2_sign 96 = .ok (.lload 13, 2) := by decide +kernel
theorem dX2_sign_98 : decode cX2_sign 98 = .ok (.lconst 0, 1) := by decide +kernel
theorem dX2_sign_99 : decode cX2_sign 99 = .ok (.lcmp, 1) := by decide +kernel
theorem dX2_sign_100 : decode cX2_sign 100 = .ok (.ifCond .ge 13, 3) := by decide +kernel
theorem dX2_sign_103 : decode cX2_sign 103 = .ok (.iload_n 2, 1) := by decide +kernel
theorem dX2_sign_104 : decode cX2_sign 104 = .ok (.ifCond .eq 7, 3) := by decide +kernel
theorem dX2_sign_107 : decode cX2_sign 107 = .ok (.iconst 1, 1) := by decide +kernel
theorem dX2_sign_108 : decode cX2_sign 108 = .ok (.goto 4, 3) := by decide +kernel
theorem dX2_sign_111 : decode cX2_sign 111 = .ok (.iconst (-1), 1) := by decide +kernel
theorem dX2_sign_112 : decode cX2_sign 112 = .ok (.ireturn, 1) := by decide +kernel
theorem dX2_sign_113 : decode cX2_sign 113 = .ok (.ldc2_w 63, 3) := by decide +kernel
theorem dX2_sign_116 : decode cX2_sign 116 = .ok (.lload 7, 2) := by decide +kernel
theorem dX2_sign_118 : decode cX2_sign 118 = .ok (.lmul, 1) := by decide +kernel
theorem dX2_sign_119 : decode cX2_sign 119 = .ok (.lload_n 3, 1) := by decide +kernel
theorem dX2_sign_120 : decode cX2_sign 120 = .ok (.lmul, 1) := by decide +kernel
theorem dX2_sign_121 : decode cX2_sign 121 = .ok (.lload 9, 2) := by decide +kernel
theorem dX2_sign_123 : decode cX2_sign 123 = .ok (.lload 5, 2) := by decide +kernel
theorem dX2_sign_125 : decode cX2_sign 125 = .ok (.lmul, 1) := by decide +kernel
theorem dX2_sign_126 : decode cX2_sign 126 = .ok (.ladd, 1) := by decide +kernel
theorem dX2_sign_127 : decode cX2_sign 127 = .ok (.lconst 0, 1) := by decide +kernel
theorem dX2_sign_128 : decode cX2_sign 128 = .ok (.lcmp, 1) := by decide +kernel
theorem dX2_sign_129 : decode cX2_sign 129 = .ok (.ifCond .ge 7, 3) := by decide +kernel
theorem dX2_sign_132 : decode cX2_sign 132 = .ok (.iconst 1, 1) := by decide +kernel
theorem dX2_sign_133 : decode cX2_sign 133 = .ok (.goto 4, 3) := by decide +kernel
theorem dX2_sign_136 : decode cX2_sign 136 = .ok (.iconst (-1), 1) := by decide +kernel
theorem dX2_sign_137 : decode cX2_sign 137 = .ok (.ireturn, 1) := by decide +kernel
theorem dX2_floor_0 : decode cX2_floor 0 = .ok (.aload_n 0, 1) := by decide +kernel
theorem dX2_floor_1 : decode cX2_floor 1 = .ok (.iload_n 1, 1) := by decide +kernel
theorem dX2_floor_2 : decode cX2_floor 2 = .ok (.invokevirtual 119, 3) := by decide +kernel
theorem dX2_floor_5 : decode cX2_floor 5 = .ok (.ifCond .ne 5, 3) := by decide +kernel
theorem dX2_floor_8 : decode cX2_floor 8 = .ok (.iconst 0, 1) := by decide +kernel
theorem dX2_floor_9 : decode cX2_floor 9 = .ok (.ireturn, 1) := by decide +kernel
theorem dX2_floor_10 : decode cX2_floor 10 = .ok (.aload_n 0, 1) := by decide +kernel
theorem dX2_floor_11 : decode cX2_floor 11 = .ok (.aload_n 0, 1) := by decide +kernel
theorem dX2_floor_12 : decode cX2_floor 12 = .ok (.iload_n 1, 1) := by decide +kernel
theorem dX2_floor_13 : decode cX2_floor 13 = .ok (.invokevirtual 129, 3) := by decide +kernel
theorem dX2_floor_16 : decode cX2_floor 16 = .ok (.ifCond .eq 7, 3) := by decide +kernel
theorem dX2_floor_19 : decode cX2_floor 19 = .ok (.iconst 0, 1) := by decide +kernel
theorem dX2_floor_20 : decode cX2_floor 20 = .ok (.goto 4, 3) := by decide +kernel
theorem dX2_floor_23 : decode cX2_floor 23 = .ok (.iconst 3, 1) := by decide +kernel
theorem dX2_floor_24 : decode cX2_floor 24 = .ok (.putfield 32, 3) := by decide +kernel
theorem dX2_floor_27 : decode cX2_floor 27 = .ok (.aload_n 0, 1) := by decide +kernel
theorem dX2_floor_28 : decode cX2_floor 28 = .ok (.getfield 32, 3) := by decide +kernel
theorem dX2_floor_31 : decode cX2_floor 31 = .ok (.ifCond .le 5, 3) := by decide +kernel
theorem dX2_floor_34 : decode cX2_floor 34 = .ok (.iconst 0, 1) := by decide +kernel
theorem dX2_floor_35 : decode cX2_floor 35 = .ok (.ireturn, 1) := by decide +kernel
theorem dX2_floor_36 : decode cX2_floor 36 = .ok (.sipush (-1000), 3) := by decide +kernel
theorem dX2_floor_39 : decode cX2_floor 39 = .ok (.istore_n 3, 1) := by decide +kernel
theorem dX2_floor_40 : decode cX2_floor 40 = .ok (.aload_n 0, 1) := by decide +kernel
theorem dX2_floor_41 : decode cX2_floor 41 = .ok (.iload_n 1, 1) := by decide +kernel
theorem dX2_floor_42 : decode cX2_floor 42 = .ok (.iload_n 2, 1) := by decide +kernel
theorem dX2_floor_43 : decode cX2_floor 43 = .ok (.iload_n 3, 1) := by decide +kernel
theorem dX2_floor_44 : decode cX2_floor 44 = .ok (.iconst 1, 1) := by decide +kernel
theorem dX2_floor_45 : decode cX2_floor 45 = .ok (.iadd, 1) := by decide +kernel
theorem dX2_floor_46 : decode cX2_floor 46 = .ok (.i2l, 1) := by decide +kernel
theorem dX2_floor_47 : decode cX2_floor 47 = .ok (.lconst 1, 1) := by decide +kernel
theorem dX2_floor_48 : decode cX2_floor 48 = .ok (.invokevirtual 132, 3) := by decide +kernel
theorem dX2_floor_51 : decode cX2_floor 51 = .ok (.ifCond .lt 9, 3) := by decide +kernel
theorem dX2_floor_54 : decode cX2_floor 54 = .ok (.iinc 3 1, 3) := by decide +kernel
theorem dX2_floor_57 : decode cX2_floor 57 = .ok (.goto (-17), 3) := by decide +kernel
theorem dX2_floor_60 : decode cX2_floor 60 = .ok (.iload_n 3, 1) := by decide +kernel
theorem dX2_floor_61 : decode cX2_floor 61 = .ok (.ireturn, 1) := by decide +kernel
theorem dX2_compare_0 : decode cX2_compare 0 = .ok (.aload_n 0, 1) := by decide +kernel
theorem dX2_compare_1 : decode cX2_compare 1 = .ok (.iload_n 1, 1) := by decide +kernel
theorem dX2_compare_2 : decode cX2_compare 2 = .ok (.invokevirtual 119, 3) := by decide +kernel
theorem dX2_compare_5 : decode cX2_compare 5 = .ok (.ifCond .ne 5, 3) := by decide +kernel
theorem dX2_compare_8 : decode cX2_compare 8 = .ok (.iconst 0, 1) := by decide +kernel
theorem dX2_compare_9 : decode cX2_compare 9 = .ok (.ireturn, 1) := by decide +kernel
theorem dX2_compare_10 : decode cX2_compare 10 = .ok (.iload_n 3, 1) := by decide +kernel
theorem dX2_compare_11 : decode cX2_compare 11 = .ok (.i2l, 1) := by decide +kernel
theorem dX2_compare_12 : decode cX2_compare 12 = .ok (.lconst 0, 1) := by decide +kernel
theorem dX2_compare_13 : decode cX2_compare 13 = .ok (.aload_n 0, 1) := by decide +kernel
theorem dX2_compare_14 : decode cX2_compare 14 = .ok (.getfield 72, 3) := by decide +kernel
theorem dX2_compare_17 : decode cX2_compare 17 = .ok (.iconst 1, 1) := by decide +kernel
theorem dX2_compare_18 : decode cX2_compare 18 = .ok (.isub, 1) := by decide +kernel
theorem dX2_compare_19 : decode cX2_compare 19 = .ok (.i2l, 1) := by decide +kernel
theorem dX2_compare_20 : decode cX2_compare 20 = .ok (.invokestatic 53, 3) := by decide +kernel
theorem dX2_compare_23 : decode cX2_compare 23 = .ok (.ifCond .ne 9, 3) := by decide +kernel
theorem dX2_compare_26 : decode cX2_compare 26 = .ok (.aload_n 0, 1) := by decide +kernel
theorem dX2_compare_27 : decode cX2_compare 27 = .ok (.iconst 2, 1) := by decide +kernel
theorem dX2_compare_28 : decode cX2_compare 28 = .ok (.invokevirtual 93, 3) := by decide +kernel
theorem dX2_compare_31 : decode cX2_compare 31 = .ok (.ireturn, 1) := by decide +kernel
theorem dX2_compare_32 : decode cX2_compare 32 = .ok (.aload_n 0, 1) := by decide +kernel
theorem dX2_compare_33 : decode cX2_compare 33 = .ok (.aload_n 0, 1) := by decide +kernel
theorem dX2_compare_34 : decode cX2_compare 34 = .ok (.iload_n 1, 1) := by decide +kernel
theorem dX2_compare_35 : decode cX2_compare 35 = .ok (.invokevirtual 129, 3) := by decide +kernel
theorem dX2_compare_38 : decode cX2_compare 38 = .ok (.ifCond .eq 15, 3) := by decide +kernel
theorem dX2_compare_41 : decode cX2_compare 41 = .ok (.aload_n 0, 1) := by decide +kernel
theorem dX2_compare_42 : decode cX2_compare 42 = .ok (.iload_n 3, 1) := by decide +kernel
theorem dX2_compare_43 : decode cX2_compare 43 = .ok (.invokevirtual 129, 3) := by decide +kernel
theorem dX2_compare_46 : decode cX2_compare 46 = .ok (.ifCond .eq 7, 3) := by decide +kernel
theorem dX2_compare_49 : decode cX2_compare 49 = .ok (.iconst 0, 1) := by decide +kernel
theorem dX2_compare_50 : decode cX2_compare 50 = .ok (.goto 4, 3) := by decide +kernel
theorem dX2_compare_53 : decode cX2_compare 53 = .ok (.iconst 3, 1) := by decide +kernel
theorem dX2_compare_54 : decode cX2_compare 54 = .ok (.putfield 32, 3) := by decide +kernel
theorem dX2_compare_57 : decode cX2_compare 57 = .ok (.aload_n 0, 1) := by decide +kernel
theorem dX2_compare_58 : decode cX2_compare 58 = .ok (.getfield 32, 3) := by decide +kernel
theorem dX2_compare_61 : decode cX2_compare 61 = .ok (.ifCond .le 5, 3) := by decide +kernel
theorem dX2_compare_64 : decode cX2_compare 64 = .ok (.iconst 0, 1) := by decide +kernel
theorem dX2_compare_65 : decode cX2_compare 65 = .ok (.ireturn, 1) := by decide +kernel
theorem dX2_compare_66 : decode cX2_compare 66 = .ok (.iload_n 1, 1) := by decide +kernel
theorem dX2_compare_67 : decode cX2_compare 67 = .ok (.iload_n 3, 1) := by decide +kernel
theorem dX2_compare_68 : decode cX2_compare 68 = .ok (.if_icmp .ne 20, 3) := by decide +kernel
theorem dX2_compare_71 : decode cX2_compare 71 = .ok (.iload_n 2, 1) := by decide +kernel
theorem dX2_compare_72 : decode cX2_compare 72 = .ok (.iload 4, 2) := by decide +kernel
theorem dX2_compare_74 : decode cX2_compare 74 = .ok (.if_icmp .eq 12, 3) := by decide +kernel
theorem dX2_compare_77 : decode cX2_compare 77 = .ok (.aload_n 0, 1) := by decide +kernel
theorem dX2_compare_78 : decode cX2_compare 78 = .ok (.getfield 20, 3) := by decide +kernel
theorem dX2_compare_81 : decode cX2_compare 81 = .ok (.iload_n 1, 1) := by decide +kernel
theorem dX2_compare_82 : decode cX2_compare 82 = .ok (.iaload, 1) := by decide +kernel
theorem dX2_compare_83 : decode cX2_compare 83 = .ok (.ifCond .ne 5, 3) := by decide +kernel
theorem dX2_compare_86 : decode cX2_compare 86 = .ok (.iconst 0, 1) := by decide +kernel
theorem dX2_compare_87 : decode cX2_compare 87 = .ok (.ireturn, 1) := by decide +kernel
theorem dX2_compare_88 : decode cX2_compare 88 = .ok (.iload_n 1, 1) := by decide +kernel
theorem dX2_compare_89 : decode cX2_compare 89 = .ok (.iload_n 3, 1) := by decide +kernel
theorem dX2_compare_90 : decode cX2_compare 90 = .ok (.if_icmp .ne 13, 3) := by decide +kernel
theorem dX2_compare_93 : decode cX2_compare 93 = .ok (.iload_n 2, 1) := by decide +kernel
theorem dX2_compare_94 : decode cX2_compare 94 = .ok (.ifCond .eq 7, 3) := by decide +kernel
theorem dX2_compare_97 : decode cX2_compare 97 = .ok (.iconst 1, 1) := by decide +kernel
theorem dX2_compare_98 : decode cX2_compare 98 = .ok (.goto 4, 3) := by decide +kernel
theorem dX2_compare_101 : decode cX2_compare 101 = .ok (.iconst (-1), 1) := by decide +kernel
theorem dX2_compare_102 : decode cX2_compare 102 = .ok (.ireturn, 1) := by decide +kernel
theorem dX2_compare_103 : decode cX2_compare 103 = .ok (.aload_n 0, 1) := by decide +kernel
theorem dX2_compare_104 : decode cX2_compare 104 = .ok (.iload_n 1, 1) := by decide +kernel
theorem dX2_compare_105 : decode cX2_compare 105 = .ok (.invokevirtual 136, 3) := by decide +kernel
theorem dX2_compare_108 : decode cX2_compare 108 = .ok (.lstore 5, 2) := by decide +kernel
theorem dX2_compare_110 : decode cX2_compare 110 = .ok (.aload_n 0, 1) := by decide +kernel
theorem dX2_compare_111 : decode cX2_compare 111 = .ok (.iload_n 3, 1) := by decide +kernel
theorem dX2_compare_112 : decode cX2_compare 112 = .ok (.invokevirtual 136, 3) := by decide +kernel
theorem dX2_compare_115 : decode cX2_compare 115 = .ok (.lstore 7, 2) := by decide +kernel
theorem dX2_compare_117 : decode cX2_compare 117 = .ok (.lload 7, 2) := by decide +kernel
theorem dX2_compare_119 : decode cX2_compare 119 = .ok (.iload_n 2, 1) := by decide +kernel
theorem dX2_compare_120 : decode cX2_compare 120 = .ok (.ifCond .eq 7, 3) := by decide +kernel
theorem dX2_compare_123 : decode cX2_compare 123 = .ok (.lconst 1, 1) := by decide +kernel
theorem dX2_compare_124 : decode cX2_compare 124 = .ok (.goto 6, 3) := by decide +kernel
theorem dX2_compare_127 : decode cX2_compare 127 = .ok (.ldc2_w 61, 3) := by decide +kernel
theorem dX2_compare_130 : decode cX2_compare 130 = .ok (.lmul, 1) := by decide +kernel
theorem dX2_compare_131 : decode cX2_compare 131 = .ok (.lstore 9, 2) := by decide +kernel
theorem dX2_compare_133 : decode cX2_compare 133 = .ok (.lload 5, 2) := by decide +kernel
theorem dX2_compare_135 : decode cX2_compare 135 = .ok (.iload 4, 2) := by decide +kernel
theorem dX2_compare_137 : decode cX2_compare 137 = .ok (.ifCond .eq 9, 3) := by decide +kernel
theorem dX2_compare_140 : decode cX2_compare 140 = .ok (.ldc2_w 61, 3) := by decide +kernel
theorem dX2_compare_143 : decode cX2_compare 143 = .ok (.goto 4, 3) := by decide +kernel
theorem dX2_compare_146 : decode cX2_compare 146 = .ok (.lconst 1, 1) := by decide +kernel
theorem dX2_compare_147 : decode cX2_compare 147 = .ok (.lmul, 1) := by decide +kernel
theorem dX2_compare_148 : decode cX2_compare 148 = .ok (.lstore 11, 2) := by decide +kernel
theorem dX2_compare_150 : decode cX2_compare 150 = .ok (.lload 5, 2) := by decide +kernel
theorem dX2_compare_152 : decode cX2_compare 152 = .ok (.aload_n 0, 1) := by decide +kernel
theorem dX2_compare_153 : decode cX2_compare 153 = .ok (.iload_n 3, 1) := by decide +kernel
theorem dX2_compare_154 : decode cX2_compare 154 = .ok (.invokevirtual 140, 3) := by decide +kernel
theorem dX2_compare_157 : decode cX2_compare 157 = .ok (.lmul, 1) := by decide +kernel
theorem dX2_compare_158 : decode cX2_compare 158 = .ok (.lload 7, 2) := by decide +kernel
theorem dX2_compare_160 : decode cX2_compare 160 = .ok (.aload_n 0, 1) := by decide +kernel
theorem dX2_compare_161 : decode cX2_compare 161 = .ok (.iload_n 1, 1) := by decide +kernel
theorem dX2_compare_162 : decode cX2_compare 162 = .ok (.invokevirtual 140, 3) := by decide +kernel
theorem dX2_compare_165 : decode cX2_compare 165 = .ok (.lmul, 1) := by decide +kernel
theorem dX2_compare_166 : decode cX2_compare 166 = .ok (.lsub, 1) := by decide +kernel
theorem dX2_compare_167 : decode cX2_compare 167 = .ok (.lload 9, 2) := by decide +kernel
theorem dX2_compare_169 : decode cX2_compare 169 = .ok (.aload_n 0, 1) := by decide +kernel
theorem dX2_compare_170 : decode cX2_compare 170 = .ok (.iload_n 1, 1) := by decide +kernel
theorem dX2_compare_171 : decode cX2_compare 171 = .ok (.invokevirtual 143, 3) := by decide +kernel
theorem dX2_compare_174 : decode cX2_compare 174 = .ok (.lload 11, 2) := by decide +kernel
theorem dX2_compare_176 : decode cX2_compare 176 = .ok (.aload_n 0, 1) := by decide +kernel
theorem dX2_compare_177 : decode cX2_compare 177 = .ok (.iload_n 3, 1) := by decide +kernel
theorem dX2_compare_178 : decode cX2_compare 178 = .ok (.invokevirtual 143, 3) := by decide +kernel
theorem dX2_compare_181 : decode cX2_compare 181 = .ok (.invokestatic 146, 3) := by decide +kernel
theorem dX2_compare_184 : decode cX2_compare 184 = .ok (.ireturn, 1) := by decide +kernel
theorem dX2_leading_0 : decode cX2_leading 0 = .ok (.aload_n 0, 1) := by decide +kernel
theorem dX2_leading_1 : decode cX2_leading 1 = .ok (.getfield 20, 3) := by decide +kernel
theorem dX2_leading_4 : decode cX2_leading 4 = .ok (.iload_n 1, 1) := by decide +kernel
theorem dX2_leading_5 : decode cX2_leading 5 = .ok (.iaload, 1) := by decide +kernel
theorem dX2_leading_6 : decode cX2_leading 6 = .ok (.ifCond .ne 13, 3) := by decide +kernel
theorem dX2_leading_9 : decode cX2_leading 9 = .ok (.aload_n 0, 1) := by decide +kernel
theorem dX2_leading_10 : decode cX2_leading 10 = .ok (.getfield 23, 3) := by decide +kernel
theorem dX2_leading_13 : decode cX2_leading 13 = .ok (.iload_n 1, 1) := by decide +kernel
theorem dX2_leading_14 : decode cX2_leading 14 = .ok (.iaload, 1) := by decide +kernel
theorem dX2_leading_15 : decode cX2_leading 15 = .ok (.i2l, 1) := by decide +kernel
theorem dX2_leading_16 : decode cX2_leading 16 = .ok (.goto 10, 3) := by decide +kernel
theorem dX2_leading_19 : decode cX2_leading 19 = .ok (.aload_n 0, 1) := by decide +kernel
theorem dX2_leading_20 : decode cX2_leading 20 = .ok (.getfield 20, 3) := by decide +kernel
theorem dX2_leading_23 : decode cX2_leading 23 = .ok (.iload_n 1, 1) := by decide +kernel
theorem dX2_leading_24 : decode cX2_leading 24 = .ok (.iaload, 1) := by decide +kernel
theorem dX2_leading_25 : decode cX2_leading 25 = .ok (.i2l, 1) := by decide +kernel
theorem dX2_leading_26 : decode cX2_leading 26 = .ok (.lreturn, 1) := by decide +kernel
theorem dX2_middle_0 : decode cX2_middle 0 = .ok (.aload_n 0, 1) := by decide +kernel
theorem dX2_middle_1 : decode cX2_middle 1 = .ok (.getfield 20, 3) := by decide +kernel
theorem dX2_middle_4 : decode cX2_middle 4 = .ok (.iload_n 1, 1) := by decide +kernel
theorem dX2_middle_5 : decode cX2_middle 5 = .ok (.iaload, 1) := by decide +kernel
theorem dX2_middle_6 : decode cX2_middle 6 = .ok (.ifCond .ne 17, 3) := by decide +kernel
theorem dX2_middle_9 : decode cX2_middle 9 = .ok (.ldc2_w 63, 3) := by decide +kernel
theorem dX2_middle_12 : decode cX2_middle 12 = .ok (.aload_n 0, 1) := by decide +kernel
theorem dX2_middle_13 : decode cX2_middle 13 = .ok (.getfield 26, 3) := by decide +kernel
theorem dX2_middle_16 : decode cX2_middle 16 = .ok (.iload_n 1, 1) := by decide +kernel
theorem dX2_middle_17 : decode cX2_middle 17 = .ok (.iaload, 1) := by decide +kernel
theorem dX2_middle_18 : decode cX2_middle 18 = .ok (.i2l, 1) := by decide +kernel
theorem dX2_middle_19 : decode cX2_middle 19 = .ok (.lmul, 1) := by decide +kernel
theorem dX2_middle_20 : decode cX2_middle 20 = .ok (.goto 10, 3) := by decide +kernel
theorem dX2_middle_23 : decode cX2_middle 23 = .ok (.aload_n 0, 1) := by decide +kernel
theorem dX2_middle_24 : decode cX2_middle 24 = .ok (.getfield 23, 3) := by decide +kernel
theorem dX2_middle_27 : decode cX2_middle 27 = .ok (.iload_n 1, 1) := by decide +kernel
theorem dX2_middle_28 : decode cX2_middle 28 = .ok (.iaload, 1) := by decide +kernel
theorem dX2_middle_29 : decode cX2_middle 29 = .ok (.i2l, 1) := by decide +kernel
theorem dX2_middle_30 : decode cX2_middle 30 = .ok (.lreturn, 1) := by decide +kernel
theorem dX2_under_0 : decode cX2_under 0 = .ok (.aload_n 0, 1) := by decide +kernel
theorem dX2_under_1 : decode cX2_under 1 = .ok (.getfield 20, 3) := by decide +kernel
theorem dX2_under_4 : decode cX2_under 4 = .ok (.iload_n 1, 1) := by decide +kernel
theorem dX2_under_5 : decode cX2_under 5 = .ok (.iaload, 1) := by decide +kernel
theorem dX2_under_6 : decode cX2_under 6 = .ok (.ifCond .ne 7, 3) := by decide +kernel
theorem dX2_under_9 : decode cX2_under 9 = .ok (.lconst 0, 1) := by decide +kernel
theorem dX2_under_10 : decode cX2_under 10 = .ok (.goto 38, 3) := by decide +kernel
theorem dX2_under_13 : decode cX2_under 13 = .ok (.aload_n 0, 1) := by decide +kernel
theorem dX2_under_14 : decode cX2_under 14 = .ok (.getfield 23, 3) := by decide +kernel
theorem dX2_under_17 : decode cX2_under 17 = .ok (.iload_n 1, 1) := by decide +kernel
theorem dX2_under_18 : decode cX2_under 18 = .ok (.iaload, 1) := by decide +kernel
theorem dX2_under_19 : decode cX2_under 19 = .ok (.i2l, 1) := by decide +kernel
theorem dX2_under_20 : decode cX2_under 20 = .ok (.aload_n 0, 1) := by decide +kernel
theorem dX2_under_21 : decode cX2_under 21 = .ok (.getfield 23, 3) := by decide +kernel
theorem dX2_under_24 : decode cX2_under 24 = .ok (.iload_n 1, 1) := by decide +kernel
theorem dX2_under_25 : decode cX2_under 25 = .ok (.iaload, 1) := by decide +kernel
theorem dX2_under_26 : decode cX2_under 26 = .ok (.i2l, 1) := by decide +kernel
theorem dX2_under_27 : decode cX2_under 27 = .ok (.lmul, 1) := by decide +kernel
theorem dX2_under_28 : decode cX2_under 28 = .ok (.ldc2_w 51, 3) := by decide +kernel
theorem dX2_under_31 : decode cX2_under 31 = .ok (.aload_n 0, 1) := by decide +kernel
theorem dX2_under_32 : decode cX2_under 32 = .ok (.getfield 20, 3) := by decide +kernel
theorem dX2_under_35 : decode cX2_under 35 = .ok (.iload_n 1, 1) := by decide +kernel
theorem dX2_under_36 : decode cX2_under 36 = .ok (.iaload, 1) := by decide +kernel
theorem dX2_under_37 : decode cX2_under 37 = .ok (.i2l, 1) := by decide +kernel
theorem dX2_under_38 : decode cX2_under 38 = .ok (.lmul, 1) := by decide +kernel
theorem dX2_under_39 : decode cX2_under 39 = .ok (.aload_n 0, 1) := by decide +kernel
theorem dX2_under_40 : decode cX2_under 40 = .ok (.getfield 26, 3) := by decide +kernel
theorem dX2_under_43 : decode cX2_under 43 = .ok (.iload_n 1, 1) := by decide +kernel
theorem dX2_under_44 : decode cX2_under 44 = .ok (.iaload, 1) := by decide +kernel
theorem dX2_under_45 : decode cX2_under 45 = .ok (.i2l, 1) := by decide +kernel
theorem dX2_under_46 : decode cX2_under 46 = .ok (.lmul, 1) := by decide +kernel
theorem dX2_under_47 : decode cX2_under 47 = .ok (.lsub, 1) := by decide +kernel
theorem dX2_under_48 : decode cX2_under 48 = .ok (.lreturn, 1) := by decide +kernel
theorem dX2_signOf_0 : decode cX2_signOf 0 = .ok (.lload_n 0, 1) := by decide +kernel
theorem dX2_signOf_1 : decode cX2_signOf 1 = .ok (.lconst 0, 1) := by decide +kernel
theorem dX2_signOf_2 : decode cX2_signOf 2 = .ok (.lcmp, 1) := by decide +kernel
theorem dX2_signOf_3 : decode cX2_signOf 3 = .ok (.ifCond .le 7, 3) := by decide +kernel
theorem dX2_signOf_6 : decode cX2_signOf 6 = .ok (.iconst 1, 1) := by decide +kernel
theorem dX2_signOf_7 : decode cX2_signOf 7 = .ok (.goto 14, 3) := by decide +kernel
theorem dX2_signOf_10 : decode cX2_signOf 10 = .ok (.lload_n 0, 1) := by decide +kernel
theorem dX2_signOf_11 : decode cX2_signOf 11 = .ok (.lconst 0, 1) := by decide +kernel
theorem dX2_signOf_12 : decode cX2_signOf 12 = .ok (.lcmp, 1) := by decide +kernel
theorem dX2_signOf_13 : decode cX2_signOf 13 = .ok (.ifCond .ge 7, 3) := by decide +kernel
theorem dX2_signOf_16 : decode cX2_signOf 16 = .ok (.iconst (-1), 1) := by decide +kernel
theorem dX2_signOf_17 : decode cX2_signOf 17 = .ok (.goto 4, 3) := by decide +kernel
theorem dX2_signOf_20 : decode cX2_signOf 20 = .ok (.iconst 0, 1) := by decide +kernel
theorem dX2_signOf_21 : decode cX2_signOf 21 = .ok (.ireturn, 1) := by decide +kernel
theorem dX2_rootSign_0 : decode cX2_rootSign 0 = .ok (.lload_n 0, 1) := by decide +kernel
theorem dX2_rootSign_1 : decode cX2_rootSign 1 = .ok (.invokestatic 150, 3) := by decide +kernel
theorem dX2_rootSign_4 : decode cX2_rootSign 4 = .ok (.istore 6, 2) := by decide +kernel
theorem dX2_rootSign_6 : decode cX2_rootSign 6 = .ok (.lload 4, 2) := by decide +kernel
theorem dX2_rootSign_8 : decode cX2_rootSign 8 = .ok (.lconst 0, 1) := by decide +kernel
theorem dX2_rootSign_9 : decode cX2_rootSign 9 = .ok (.lcmp, 1) := by decide +kernel
theorem dX2_rootSign_10 : decode cX2_rootSign 10 = .ok (.ifCond .ne 7, 3) := by decide +kernel
theorem dX2_rootSign_13 : decode cX2_rootSign 13 = .ok (.iconst 0, 1) := by decide +kernel
theorem dX2_rootSign_14 : decode cX2_rootSign 14 = .ok (.goto 7, 3) := by decide +kernel
theorem dX2_rootSign_17 : decode cX2_rootSign 17 = .ok (.lload_n 2, 1) := by decide +kernel
theorem dX2_rootSign_18 : decode cX2_rootSign 18 = .ok (.invokestatic 150, 3) := by decide +kernel
theorem dX2_rootSign_21 : decode cX2_rootSign 21 = .ok (.istore 7, 2) := by decide +kernel
theorem dX2_rootSign_23 : decode cX2_rootSign 23 = .ok (.iload 6, 2) := by decide +kernel
theorem dX2_rootSign_25 : decode cX2_rootSign 25 = .ok (.ifCond .eq 15, 3) := by decide +kernel
theorem dX2_rootSign_28 : decode cX2_rootSign 28 = .ok (.iload 7, 2) := by decide +kernel
theorem dX2_rootSign_30 : decode cX2_rootSign 30 = .ok (.ifCond .eq 10, 3) := by decide +kernel
theorem dX2_rootSign_33 : decode cX2_rootSign 33 = .ok (.iload 6, 2) := by decide +kernel
theorem dX2_rootSign_35 : decode cX2_rootSign 35 = .ok (.iload 7, 2) := by decide +kernel
theorem dX2_rootSign_37 : decode cX2_rootSign 37 = .ok (.if_icmp .ne 16, 3) := by decide +kernel
theorem dX2_rootSign_40 : decode cX2_rootSign 40 = .ok (.iload 6, 2) := by decide +kernel
theorem dX2_rootSign_42 : decode cX2_rootSign 42 = .ok (.ifCond .ne 8, 3) := by decide +kernel
theorem dX2_rootSign_45 : decode cX2_rootSign 45 = .ok (.iload 7, 2) := by decide +kernel
theorem dX2_rootSign_47 : decode cX2_rootSign 47 = .ok (.goto 5, 3) := by decide +kernel
theorem dX2_rootSign_50 : decode cX2_rootSign 50 = .ok (.iload 6, 2) := by decide +kernel
theorem dX2_rootSign_52 : decode cX2_rootSign 52 = .ok (.ireturn, 1) := by decide +kernel
theorem dX2_rootSign_53 : decode cX2_rootSign 53 = .ok (.iload 6, 2) := by decide +kernel
theorem dX2_rootSign_55 : decode cX2_rootSign 55 = .ok (.lload_n 0, 1) := by decide +kernel
theorem dX2_rootSign_56 : decode cX2_rootSign 56 = .ok (.lload_n 0, 1) := by decide +kernel
theorem dX2_rootSign_57 : decode cX2_rootSign 57 = .ok (.lmul, 1) := by decide +kernel
theorem dX2_rootSign_58 : decode cX2_rootSign 58 = .ok (.lload_n 2, 1) := by decide +kernel
theorem dX2_rootSign_59 : decode cX2_rootSign 59 = .ok (.lload_n 2, 1) := by decide +kernel
theorem dX2_rootSign_60 : decode cX2_rootSign 60 = .ok (.lmul, 1) := by decide +kernel
theorem dX2_rootSign_61 : decode cX2_rootSign 61 = .ok (.lload 4, 2) := by decide +kernel
theorem dX2_rootSign_63 : decode cX2_rootSign 63 = .ok (.lmul, 1) := by decide +kernel
theorem dX2_rootSign_64 : decode cX2_rootSign 64 = .ok (.lsub, 1) := by decide +kernel
theorem dX2_rootSign_65 : decode cX2_rootSign 65 = .ok (.invokestatic 150, 3) := by decide +kernel
theorem dX2_rootSign_68 : decode cX2_rootSign 68 = .ok (.imul, 1) := by decide +kernel
theorem dX2_rootSign_69 : decode cX2_rootSign 69 = .ok (.ireturn, 1) := by decide +kernel
theorem dX2_allSign_0 : decode cX2_allSign 0 = .ok (.lload_n 0, 1) := by decide +kernel
theorem dX2_allSign_1 : decode cX2_allSign 1 = .ok (.lload_n 2, 1) := by decide +kernel
theorem dX2_allSign_2 : decode cX2_allSign 2 = .ok (.lload 4, 2) := by decide +kernel
theorem dX2_allSign_4 : decode cX2_allSign 4 = .ok (.invokestatic 154, 3) := by decide +kernel
theorem dX2_allSign_7 : decode cX2_allSign 7 = .ok (.istore 10, 2) := by decide +kernel
theorem dX2_allSign_9 : decode cX2_allSign 9 = .ok (.lload 8, 2) := by decide +kernel
theorem dX2_allSign_11 : decode cX2_allSign 11 = .ok (.lconst 0, 1) := by decide +kernel
theorem dX2_allSign_12 : decode cX2_allSign 12 = .ok (.lcmp, 1) := by decide +kernel
theorem dX2_allSign_13 : decode cX2_allSign 13 = .ok (.ifCond .ne 7, 3) := by decide +kernel
theorem dX2_allSign_16 : decode cX2_allSign 16 = .ok (.iconst 0, 1) := by decide +kernel
theorem dX2_allSign_17 : decode cX2_allSign 17 = .ok (.goto 8, 3) := by decide +kernel
theorem dX2_allSign_20 : decode cX2_allSign 20 = .ok (.lload 6, 2) := by decide +kernel
theorem dX2_allSign_22 : decode cX2_allSign 22 = .ok (.invokestatic 150, 3) := by decide +kernel
theorem dX2_allSign_25 : decode cX2_allSign 25 = .ok (.istore 11, 2) := by decide +kernel
theorem dX2_allSign_27 : decode cX2_allSign 27 = .ok (.iload 10, 2) := by decide +kernel
theorem dX2_allSign_29 : decode cX2_allSign 29 = .ok (.ifCond .eq 15, 3) := by decide +kernel
theorem dX2_allSign_32 : decode cX2_allSign 32 = .ok (.iload 11, 2) := by decide +kernel
theorem dX2_allSign_34 : decode cX2_allSign 34 = .ok (.ifCond .eq 10, 3) := by decide +kernel
theorem dX2_allSign_37 : decode cX2_allSign 37 = .ok (.iload 10, 2) := by decide +kernel
theorem dX2_allSign_39 : decode cX2_allSign 39 = .ok (.iload 11, 2) := by decide +kernel
theorem dX2_allSign_41 : decode cX2_allSign 41 = .ok (.if_icmp .ne 16, 3) := by decide +kernel
theorem dX2_allSign_44 : decode cX2_allSign 44 = .ok (.iload 10, 2) := by decide +kernel
theorem dX2_allSign_46 : decode cX2_allSign 46 = .ok (.ifCond .ne 8, 3) := by decide +kernel
theorem dX2_allSign_49 : decode cX2_allSign 49 = .ok (.iload 11, 2) := by decide +kernel
theorem dX2_allSign_51 : decode cX2_allSign 51 = .ok (.goto 5, 3) := by decide +kernel
theorem dX2_allSign_54 : decode cX2_allSign 54 = .ok (.iload 10, 2) := by decide +kernel
theorem dX2_allSign_56 : decode cX2_allSign 56 = .ok (.ireturn, 1) := by decide +kernel
theorem dX2_allSign_57 : decode cX2_allSign 57 = .ok (.iload 10, 2) := by decide +kernel
theorem dX2_allSign_59 : decode cX2_allSign 59 = .ok (.lload_n 0, 1) := by decide +kernel
theorem dX2_allSign_60 : decode cX2_allSign 60 = .ok (.lload_n 0, 1) := by decide +kernel
theorem dX2_allSign_61 : decode cX2_allSign 61 = .ok (.lmul, 1) := by decide +kernel
theorem dX2_allSign_62 : decode cX2_allSign 62 = .ok (.lload_n 2, 1) := by decide +kernel
theorem dX2_allSign_63 : decode cX2_allSign 63 = .ok (.lload_n 2, 1) := by decide +kernel
theorem dX2_allSign_64 : decode cX2_allSign 64 = .ok (.lmul, 1) := by decide +kernel
theorem dX2_allSign_65 : decode cX2_allSign 65 = .ok (.lload 4, 2) := by decide +kernel
theorem dX2_allSign_67 : decode cX2_allSign 67 = .ok (.lmul, 1) := by decide +kernel
theorem dX2_allSign_68 : decode cX2_allSign 68 = .ok (.ladd, 1) := by decide +kernel
theorem dX2_allSign_69 : decode cX2_allSign 69 = .ok (.lload 6, 2) := by decide +kernel
theorem dX2_allSign_71 : decode cX2_allSign 71 = .ok (.lload 6, 2) := by decide +kernel
theorem dX2_allSign_73 : decode cX2_allSign 73 = .ok (.lmul, 1) := by decide +kernel
theorem dX2_allSign_74 : decode cX2_allSign 74 = .ok (.lload 8, 2) := by decide +kernel
theorem dX2_allSign_76 : decode cX2_allSign 76 = .ok (.lmul, 1) := by decide +kernel
theorem dX2_allSign_77 : decode cX2_allSign 77 = .ok (.lsub, 1) := by decide +kernel
theorem dX2_allSign_78 : decode cX2_allSign 78 = .ok (.ldc2_w 63, 3) := by decide +kernel
theorem dX2_allSign_81 : decode cX2_allSign 81 = .ok (.lload_n 0, 1) := by decide +kernel
theorem dX2_allSign_82 : decode cX2_allSign 82 = .ok (.lmul, 1) := by decide +kernel
theorem dX2_allSign_83 : decode cX2_allSign 83 = .ok (.lload_n 2, 1) := by decide +kernel
theorem dX2_allSign_84 : decode cX2_allSign 84 = .ok (.lmul, 1) := by decide +kernel
theorem dX2_allSign_85 : decode cX2_allSign 85 = .ok (.lload 4, 2) := by decide +kernel
theorem dX2_allSign_87 : decode cX2_allSign 87 = .ok (.invokestatic 154, 3) := by decide +kernel
theorem dX2_allSign_90 : decode cX2_allSign 90 = .ok (.imul, 1) := by decide +kernel
theorem dX2_allSign_91 : decode cX2_allSign 91 = .ok (.ireturn, 1) := by decide +kernel
end
section
theorem dL_put_0 : decode cL_put 0 = .ok (.aload_n 3, 1) := by decide +kernel
theorem dL_put_1 : decode cL_put 1 = .ok (.iconst 0, 1) := by decide +kernel
theorem dL_put_2 : decode cL_put 2 = .ok (.aload_n 0, 1) := by decide +kernel
theorem dL_put_3 : decode cL_put 3 = .ok (.iload_n 1, 1) := by decide +kernel
theorem dL_put_4 : decode cL_put 4 = .ok (.iload_n 2, 1) := by decide +kernel
theorem dL_put_5 : decode cL_put 5 = .ok (.invokevirtual 7, 3) := by decide +kernel
theorem dL_put_8 : decode cL_put 8 = .ok (.ifCond .eq 7, 3) := by decide +kernel
theorem dL_put_11 : decode cL_put 11 = .ok (.lconst 1, 1) := by decide +kernel
theorem dL_put_12 : decode cL_put 12 = .ok (.goto 4, 3) := by decide +kernel
theorem dL_put_15 : decode cL_put 15 = .ok (.lconst 0, 1) := by decide +kernel
theorem dL_put_16 : decode cL_put 16 = .ok (.lastore, 1) := by decide +kernel
theorem dL_put_17 : decode cL_put 17 = .ok (.goto 11, 3) := by decide +kernel
theorem dL_put_20 : decode cL_put 20 = .ok (.astore 4, 2) := by decide +kernel
theorem dL_put_22 : decode cL_put 22 = .ok (.iconst 1, 1) := by decide +kernel
theorem dL_put_23 : decode cL_put 23 = .ok (.ireturn, 1) := by decide +kernel
theorem dL_put_24 : decode cL_put 24 = .ok (.astore 4, 2) := by decide +kernel
theorem dL_put_26 : decode cL_put 26 = .ok (.iconst 2, 1) := by decide +kernel
theorem dL_put_27 : decode cL_put 27 = .ok (.ireturn, 1) := by decide +kernel
theorem dL_put_28 : decode cL_put 28 = .ok (.iconst 0, 1) := by decide +kernel
theorem dL_put_29 : decode cL_put 29 = .ok (.ireturn, 1) := by decide +kernel
theorem dL_at_0 : decode cL_at 0 = .ok (.aload_n 2, 1) := by decide +kernel
theorem dL_at_1 : decode cL_at 1 = .ok (.iconst 0, 1) := by decide +kernel
theorem dL_at_2 : decode cL_at 2 = .ok (.aload_n 0, 1) := by decide +kernel
theorem dL_at_3 : decode cL_at 3 = .ok (.iload_n 1, 1) := by decide +kernel
theorem dL_at_4 : decode cL_at 4 = .ok (.invokevirtual 17, 3) := by decide +kernel
theorem dL_at_7 : decode cL_at 7 = .ok (.i2l, 1) := by decide +kernel
theorem dL_at_8 : decode cL_at 8 = .ok (.lastore, 1) := by decide +kernel
theorem dL_at_9 : decode cL_at 9 = .ok (.goto 6, 3) := by decide +kernel
theorem dL_at_12 : decode cL_at 12 = .ok (.astore_n 3, 1) := by decide +kernel
theorem dL_at_13 : decode cL_at 13 = .ok (.iconst 1, 1) := by decide +kernel
theorem dL_at_14 : decode cL_at 14 = .ok (.ireturn, 1) := by decide +kernel
theorem dL_at_15 : decode cL_at 15 = .ok (.iconst 0, 1) := by decide +kernel
theorem dL_at_16 : decode cL_at 16 = .ok (.ireturn, 1) := by decide +kernel
theorem dL_change_0 : decode cL_change 0 = .ok (.aload_n 2, 1) := by decide +kernel
theorem dL_change_1 : decode cL_change 1 = .ok (.iconst 0, 1) := by decide +kernel
theorem dL_change_2 : decode cL_change 2 = .ok (.aload_n 0, 1) := by decide +kernel
theorem dL_change_3 : decode cL_change 3 = .ok (.iload_n 1, 1) := by decide +kernel
theorem dL_change_4 : decode cL_change 4 = .ok (.invokevirtual 21, 3) := by decide +kernel
theorem dL_change_7 : decode cL_change 7 = .ok (.ifCond .eq 7, 3) := by decide +kernel
theorem dL_change_10 : decode cL_change 10 = .ok (.lconst 1, 1) := by decide +kernel
theorem dL_change_11 : decode cL_change 11 = .ok (.goto 4, 3) := by decide +kernel
theorem dL_change_14 : decode cL_change 14 = .ok (.lconst 0, 1) := by decide +kernel
theorem dL_change_15 : decode cL_change 15 = .ok (.lastore, 1) := by decide +kernel
theorem dL_change_16 : decode cL_change 16 = .ok (.goto 6, 3) := by decide +kernel
theorem dL_change_19 : decode cL_change 19 = .ok (.astore_n 3, 1) := by decide +kernel
theorem dL_change_20 : decode cL_change 20 = .ok (.iconst 1, 1) := by decide +kernel
theorem dL_change_21 : decode cL_change 21 = .ok (.ireturn, 1) := by decide +kernel
theorem dL_change_22 : decode cL_change 22 = .ok (.iconst 0, 1) := by decide +kernel
theorem dL_change_23 : decode cL_change 23 = .ok (.ireturn, 1) := by decide +kernel
theorem dL_factors_0 : decode cL_factors 0 = .ok (.aload_n 1, 1) := by decide +kernel
theorem dL_factors_1 : decode cL_factors 1 = .ok (.iconst 0, 1) := by decide +kernel
theorem dL_factors_2 : decode cL_factors 2 = .ok (.aload_n 0, 1) := by decide +kernel
theorem dL_factors_3 : decode cL_factors 3 = .ok (.invokevirtual 25, 3) := by decide +kernel
theorem dL_factors_6 : decode cL_factors 6 = .ok (.i2l, 1) := by decide +kernel
theorem dL_factors_7 : decode cL_factors 7 = .ok (.lastore, 1) := by decide +kernel
theorem dL_factors_8 : decode cL_factors 8 = .ok (.goto 6, 3) := by decide +kernel
theorem dL_factors_11 : decode cL_factors 11 = .ok (.astore_n 2, 1) := by decide +kernel
theorem dL_factors_12 : decode cL_factors 12 = .ok (.iconst 1, 1) := by decide +kernel
theorem dL_factors_13 : decode cL_factors 13 = .ok (.ireturn, 1) := by decide +kernel
theorem dL_factors_14 : decode cL_factors 14 = .ok (.iconst 0, 1) := by decide +kernel
theorem dL_factors_15 : decode cL_factors 15 = .ok (.ireturn, 1) := by decide +kernel
theorem dL_factor_0 : decode cL_factor 0 = .ok (.aload_n 3, 1) := by decide +kernel
theorem dL_factor_1 : decode cL_factor 1 = .ok (.iconst 0, 1) := by decide +kernel
theorem dL_factor_2 : decode cL_factor 2 = .ok (.aload_n 0, 1) := by decide +kernel
theorem dL_factor_3 : decode cL_factor 3 = .ok (.iload_n 1, 1) := by decide +kernel
theorem dL_factor_4 : decode cL_factor 4 = .ok (.iload_n 2, 1) := by decide +kernel
theorem dL_factor_5 : decode cL_factor 5 = .ok (.invokevirtual 31, 3) := by decide +kernel
theorem dL_factor_8 : decode cL_factor 8 = .ok (.i2l, 1) := by decide +kernel
theorem dL_factor_9 : decode cL_factor 9 = .ok (.lastore, 1) := by decide +kernel
theorem dL_factor_10 : decode cL_factor 10 = .ok (.goto 15, 3) := by decide +kernel
theorem dL_factor_13 : decode cL_factor 13 = .ok (.astore 4, 2) := by decide +kernel
theorem dL_factor_15 : decode cL_factor 15 = .ok (.iconst 1, 1) := by decide +kernel
theorem dL_factor_16 : decode cL_factor 16 = .ok (.ireturn, 1) := by decide +kernel
theorem dL_factor_17 : decode cL_factor 17 = .ok (.astore 4, 2) := by decide +kernel
theorem dL_factor_19 : decode cL_factor 19 = .ok (.iconst 2, 1) := by decide +kernel
theorem dL_factor_20 : decode cL_factor 20 = .ok (.ireturn, 1) := by decide +kernel
theorem dL_factor_21 : decode cL_factor 21 = .ok (.astore 4, 2) := by decide +kernel
theorem dL_factor_23 : decode cL_factor 23 = .ok (.iconst 3, 1) := by decide +kernel
theorem dL_factor_24 : decode cL_factor 24 = .ok (.ireturn, 1) := by decide +kernel
theorem dL_factor_25 : decode cL_factor 25 = .ok (.iconst 0, 1) := by decide +kernel
theorem dL_factor_26 : decode cL_factor 26 = .ok (.ireturn, 1) := by decide +kernel
theorem dL_content_0 : decode cL_content 0 = .ok (.aload_n 1, 1) := by decide +kernel
theorem dL_content_1 : decode cL_content 1 = .ok (.iconst 0, 1) := by decide +kernel
theorem dL_content_2 : decode cL_content 2 = .ok (.aload_n 0, 1) := by decide +kernel
theorem dL_content_3 : decode cL_content 3 = .ok (.invokevirtual 35, 3) := by decide +kernel
theorem dL_content_6 : decode cL_content 6 = .ok (.i2l, 1) := by decide +kernel
theorem dL_content_7 : decode cL_content 7 = .ok (.lastore, 1) := by decide +kernel
theorem dL_content_8 : decode cL_content 8 = .ok (.goto 6, 3) := by decide +kernel
theorem dL_content_11 : decode cL_content 11 = .ok (.astore_n 2, 1) := by decide +kernel
theorem dL_content_12 : decode cL_content 12 = .ok (.iconst 1, 1) := by decide +kernel
theorem dL_content_13 : decode cL_content 13 = .ok (.ireturn, 1) := by decide +kernel
theorem dL_content_14 : decode cL_content 14 = .ok (.iconst 0, 1) := by decide +kernel
theorem dL_content_15 : decode cL_content 15 = .ok (.ireturn, 1) := by decide +kernel
theorem dL_left_0 : decode cL_left 0 = .ok (.aload_n 2, 1) := by decide +kernel
theorem dL_left_1 : decode cL_left 1 = .ok (.iconst 0, 1) := by decide +kernel
theorem dL_left_2 : decode cL_left 2 = .ok (.aload_n 0, 1) := by decide +kernel
theorem dL_left_3 : decode cL_left 3 = .ok (.iload_n 1, 1) := by decide +kernel
theorem dL_left_4 : decode cL_left 4 = .ok (.invokevirtual 38, 3) := by decide +kernel
theorem dL_left_7 : decode cL_left 7 = .ok (.i2l, 1) := by decide +kernel
theorem dL_left_8 : decode cL_left 8 = .ok (.lastore, 1) := by decide +kernel
theorem dL_left_9 : decode cL_left 9 = .ok (.goto 9, 3) := by decide +kernel
theorem dL_left_12 : decode cL_left 12 = .ok (.astore_n 3, 1) := by decide +kernel
theorem dL_left_13 : decode cL_left 13 = .ok (.iconst 1, 1) := by decide +kernel
theorem dL_left_14 : decode cL_left 14 = .ok (.ireturn, 1) := by decide +kernel
theorem dL_left_15 : decode cL_left 15 = .ok (.astore_n 3, 1) := by decide +kernel
theorem dL_left_16 : decode cL_left 16 = .ok (.iconst 2, 1) := by decide +kernel
theorem dL_left_17 : decode cL_left 17 = .ok (.ireturn, 1) := by decide +kernel
theorem dL_left_18 : decode cL_left 18 = .ok (.iconst 0, 1) := by decide +kernel
theorem dL_left_19 : decode cL_left 19 = .ok (.ireturn, 1) := by decide +kernel
theorem dL_answer_0 : decode cL_answer 0 = .ok (.aload 4, 2) := by decide +kernel
theorem dL_answer_2 : decode cL_answer 2 = .ok (.iconst 0, 1) := by decide +kernel
theorem dL_answer_3 : decode cL_answer 3 = .ok (.aload_n 0, 1) := by decide +kernel
theorem dL_answer_4 : decode cL_answer 4 = .ok (.iload_n 1, 1) := by decide +kernel
theorem dL_answer_5 : decode cL_answer 5 = .ok (.iload_n 2, 1) := by decide +kernel
theorem dL_answer_6 : decode cL_answer 6 = .ok (.iload_n 3, 1) := by decide +kernel
theorem dL_answer_7 : decode cL_answer 7 = .ok (.invokevirtual 41, 3) := by decide +kernel
theorem dL_answer_10 : decode cL_answer 10 = .ok (.i2l, 1) := by decide +kernel
theorem dL_answer_11 : decode cL_answer 11 = .ok (.lastore, 1) := by decide +kernel
theorem dL_answer_12 : decode cL_answer 12 = .ok (.goto 15, 3) := by decide +kernel
theorem dL_answer_15 : decode cL_answer 15 = .ok (.astore 5, 2) := by decide +kernel
theorem dL_answer_17 : decode cL_answer 17 = .ok (.iconst 1, 1) := by decide +kernel
theorem dL_answer_18 : decode cL_answer 18 = .ok (.ireturn, 1) := by decide +kernel
theorem dL_answer_19 : decode cL_answer 19 = .ok (.astore 5, 2) := by decide +kernel
theorem dL_answer_21 : decode cL_answer 21 = .ok (.iconst 2, 1) := by decide +kernel
theorem dL_answer_22 : decode cL_answer 22 = .ok (.ireturn, 1) := by decide +kernel
theorem dL_answer_23 : decode cL_answer 23 = .ok (.astore 5, 2) := by decide +kernel
theorem dL_answer_25 : decode cL_answer 25 = .ok (.iconst 3, 1) := by decide +kernel
theorem dL_answer_26 : decode cL_answer 26 = .ok (.ireturn, 1) := by decide +kernel
theorem dL_answer_27 : decode cL_answer 27 = .ok (.iconst 0, 1) := by decide +kernel
theorem dL_answer_28 : decode cL_answer 28 = .ok (.ireturn, 1) := by decide +kernel
theorem dL_real_0 : decode cL_real 0 = .ok (.aload_n 1, 1) := by decide +kernel
theorem dL_real_1 : decode cL_real 1 = .ok (.iconst 0, 1) := by decide +kernel
theorem dL_real_2 : decode cL_real 2 = .ok (.aload_n 0, 1) := by decide +kernel
theorem dL_real_3 : decode cL_real 3 = .ok (.invokevirtual 45, 3) := by decide +kernel
theorem dL_real_6 : decode cL_real 6 = .ok (.i2l, 1) := by decide +kernel
theorem dL_real_7 : decode cL_real 7 = .ok (.lastore, 1) := by decide +kernel
theorem dL_real_8 : decode cL_real 8 = .ok (.goto 6, 3) := by decide +kernel
theorem dL_real_11 : decode cL_real 11 = .ok (.astore_n 2, 1) := by decide +kernel
theorem dL_real_12 : decode cL_real 12 = .ok (.iconst 1, 1) := by decide +kernel
theorem dL_real_13 : decode cL_real 13 = .ok (.ireturn, 1) := by decide +kernel
theorem dL_real_14 : decode cL_real 14 = .ok (.iconst 0, 1) := by decide +kernel
theorem dL_real_15 : decode cL_real 15 = .ok (.ireturn, 1) := by decide +kernel
theorem dL_floor_0 : decode cL_floor 0 = .ok (.aload_n 3, 1) := by decide +kernel
theorem dL_floor_1 : decode cL_floor 1 = .ok (.iconst 0, 1) := by decide +kernel
theorem dL_floor_2 : decode cL_floor 2 = .ok (.aload_n 0, 1) := by decide +kernel
theorem dL_floor_3 : decode cL_floor 3 = .ok (.iload_n 1, 1) := by decide +kernel
theorem dL_floor_4 : decode cL_floor 4 = .ok (.iload_n 2, 1) := by decide +kernel
theorem dL_floor_5 : decode cL_floor 5 = .ok (.invokevirtual 48, 3) := by decide +kernel
theorem dL_floor_8 : decode cL_floor 8 = .ok (.i2l, 1) := by decide +kernel
theorem dL_floor_9 : decode cL_floor 9 = .ok (.lastore, 1) := by decide +kernel
theorem dL_floor_10 : decode cL_floor 10 = .ok (.goto 15, 3) := by decide +kernel
theorem dL_floor_13 : decode cL_floor 13 = .ok (.astore 4, 2) := by decide +kernel
theorem dL_floor_15 : decode cL_floor 15 = .ok (.iconst 1, 1) := by decide +kernel
theorem dL_floor_16 : decode cL_floor 16 = .ok (.ireturn, 1) := by decide +kernel
theorem dL_floor_17 : decode cL_floor 17 = .ok (.astore 4, 2) := by decide +kernel
theorem dL_floor_19 : decode cL_floor 19 = .ok (.iconst 2, 1) := by decide +kernel
theorem dL_floor_20 : decode cL_floor 20 = .ok (.ireturn, 1) := by decide +kernel
theorem dL_floor_21 : decode cL_floor 21 = .ok (.astore 4, 2) := by decide +kernel
theorem dL_floor_23 : decode cL_floor 23 = .ok (.iconst 3, 1) := by decide +kernel
theorem dL_floor_24 : decode cL_floor 24 = .ok (.ireturn, 1) := by decide +kernel
theorem dL_floor_25 : decode cL_floor 25 = .ok (.iconst 0, 1) := by decide +kernel
theorem dL_floor_26 : decode cL_floor 26 = .ok (.ireturn, 1) := by decide +kernel
theorem dL_compare_0 : decode cL_compare 0 = .ok (.aload 5, 2) := by decide +kernel
theorem dL_compare_2 : decode cL_compare 2 = .ok (.iconst 0, 1) := by decide +kernel
theorem dL_compare_3 : decode cL_compare 3 = .ok (.aload_n 0, 1) := by decide +kernel
theorem dL_compare_4 : decode cL_compare 4 = .ok (.iload_n 1, 1) := by decide +kernel
theorem dL_compare_5 : decode cL_compare 5 = .ok (.iload_n 2, 1) := by decide +kernel
theorem dL_compare_6 : decode cL_compare 6 = .ok (.iload_n 3, 1) := by decide +kernel
theorem dL_compare_7 : decode cL_compare 7 = .ok (.iload 4, 2) := by decide +kernel
theorem dL_compare_9 : decode cL_compare 9 = .ok (.invokevirtual 52, 3) := by decide +kernel
theorem dL_compare_12 : decode cL_compare 12 = .ok (.i2l, 1) := by decide +kernel
theorem dL_compare_13 : decode cL_compare 13 = .ok (.lastore, 1) := by decide +kernel
theorem dL_compare_14 : decode cL_compare 14 = .ok (.goto 15, 3) := by decide +kernel
theorem dL_compare_17 : decode cL_compare 17 = .ok (.astore 6, 2) := by decide +kernel
theorem dL_compare_19 : decode cL_compare 19 = .ok (.iconst 1, 1) := by decide +kernel
theorem dL_compare_20 : decode cL_compare 20 = .ok (.ireturn, 1) := by decide +kernel
theorem dL_compare_21 : decode cL_compare 21 = .ok (.astore 6, 2) := by decide +kernel
theorem dL_compare_23 : decode cL_compare 23 = .ok (.iconst 2, 1) := by decide +kernel
theorem dL_compare_24 : decode cL_compare 24 = .ok (.ireturn, 1) := by decide +kernel
theorem dL_compare_25 : decode cL_compare 25 = .ok (.astore 6, 2) := by decide +kernel
theorem dL_compare_27 : decode cL_compare 27 = .ok (.iconst 3, 1) := by decide +kernel
theorem dL_compare_28 : decode cL_compare 28 = .ok (.ireturn, 1) := by decide +kernel
theorem dL_compare_29 : decode cL_compare 29 = .ok (.iconst 0, 1) := by decide +kernel
theorem dL_compare_30 : decode cL_compare 30 = .ok (.ireturn, 1) := by decide +kernel
theorem dL_law_0 : decode cL_law 0 = .ok (.new 8, 3) := by decide +kernel
theorem dL_law_3 : decode cL_law 3 = .ok (.dup, 1) := by decide +kernel
theorem dL_law_4 : decode cL_law 4 = .ok (.invokespecial 56, 3) := by decide +kernel
theorem dL_law_7 : decode cL_law 7 = .ok (.astore_n 1, 1) := by decide +kernel
theorem dL_law_8 : decode cL_law 8 = .ok (.new 57, 3) := by decide +kernel
theorem dL_law_11 : decode cL_law 11 = .ok (.dup, 1) := by decide +kernel
theorem dL_law_12 : decode cL_law 12 = .ok (.invokespecial 59, 3) := by decide +kernel
theorem dL_law_15 : decode cL_law 15 = .ok (.astore_n 2, 1) := by decide +kernel
theorem dL_law_16 : decode cL_law 16 = .ok (.iconst 1, 1) := by decide +kernel
theorem dL_law_17 : decode cL_law 17 = .ok (.newarray .long, 2) := by decide +kernel
theorem dL_law_19 : decode cL_law 19 = .ok (.astore_n 3, 1) := by decide +kernel
theorem dL_law_20 : decode cL_law 20 = .ok (.iconst 0, 1) := by decide +kernel
theorem dL_law_21 : decode cL_law 21 = .ok (.istore 4, 2) := by decide +kernel
theorem dL_law_23 : decode cL_law 23 = .ok (.iload 4, 2) := by decide +kernel
theorem dL_law_25 : decode cL_law 25 = .ok (.aload_n 0, 1) := by decide +kernel
theorem dL_law_26 : decode cL_law 26 = .ok (.arraylength, 1) := by decide +kernel
theorem dL_law_27 : decode cL_law 27 = .ok (.iconst 5, 1) := by decide +kernel
theorem dL_law_28 : decode cL_law 28 = .ok (.isub, 1) := by decide +kernel
theorem dL_law_29 : decode cL_law 29 = .ok (.if_icmp .gt 826, 3) := by decide +kernel
theorem dL_law_32 : decode cL_law 32 = .ok (.aload_n 0, 1) := by decide +kernel
theorem dL_law_33 : decode cL_law 33 = .ok (.iload 4, 2) := by decide +kernel
theorem dL_law_35 : decode cL_law 35 = .ok (.iaload, 1) := by decide +kernel
theorem dL_law_36 : decode cL_law 36 = .ok (.bipush 15, 2) := by decide +kernel
theorem dL_law_38 : decode cL_law 38 = .ok (.iand, 1) := by decide +kernel
theorem dL_law_39 : decode cL_law 39 = .ok (.tableswitch 810 0 11 #[61, 136, 192, 255, 299, 367, 411, 467, 547, 591, 675, 799], 61) := by decide +kernel
theorem dL_law_100 : decode cL_law 100 = .ok (.aload_n 1, 1) := by decide +kernel
theorem dL_law_101 : decode cL_law 101 = .ok (.aload_n 0, 1) := by decide +kernel
theorem dL_law_102 : decode cL_law 102 = .ok (.iload 4, 2) := by decide +kernel
theorem dL_law_104 : decode cL_law 104 = .ok (.iconst 1, 1) := by decide +kernel
theorem dL_law_105 : decode cL_law 105 = .ok (.iadd, 1) := by decide +kernel
theorem dL_law_106 : decode cL_law 106 = .ok (.iaload, 1) := by decide +kernel
theorem dL_law_107 : decode cL_law 107 = .ok (.aload_n 0, 1) := by decide +kernel
theorem dL_law_108 : decode cL_law 108 = .ok (.iload 4, 2) := by decide +kernel
theorem dL_law_110 : decode cL_law 110 = .ok (.iconst 2, 1) := by decide +kernel
theorem dL_law_111 : decode cL_law 111 = .ok (.iadd, 1) := by decide +kernel
theorem dL_law_112 : decode cL_law 112 = .ok (.iaload, 1) := by decide +kernel
theorem dL_law_113 : decode cL_law 113 = .ok (.aload_n 3, 1) := by decide +kernel
theorem dL_law_114 : decode cL_law 114 = .ok (.invokestatic 60, 3) := by decide +kernel
theorem dL_law_117 : decode cL_law 117 = .ok (.istore 5, 2) := by decide +kernel
theorem dL_law_119 : decode cL_law 119 = .ok (.aload_n 2, 1) := by decide +kernel
theorem dL_law_120 : decode cL_law 120 = .ok (.aload_n 0, 1) := by decide +kernel
theorem dL_law_121 : decode cL_law 121 = .ok (.iload 4, 2) := by decide +kernel
theorem dL_law_123 : decode cL_law 123 = .ok (.iconst 1, 1) := by decide +kernel
theorem dL_law_124 : decode cL_law 124 = .ok (.iadd, 1) := by decide +kernel
theorem dL_law_125 : decode cL_law 125 = .ok (.iaload, 1) := by decide +kernel
theorem dL_law_126 : decode cL_law 126 = .ok (.aload_n 0, 1) := by decide +kernel
theorem dL_law_127 : decode cL_law 127 = .ok (.iload 4, 2) := by decide +kernel
theorem dL_law_129 : decode cL_law 129 = .ok (.iconst 2, 1) := by decide +kernel
theorem dL_law_130 : decode cL_law 130 = .ok (.iadd, 1) := by decide +kernel
theorem dL_law_131 : decode cL_law 131 = .ok (.iaload, 1) := by decide +kernel
theorem dL_law_132 : decode cL_law 132 = .ok (.invokevirtual 65, 3) := by decide +kernel
theorem dL_law_135 : decode cL_law 135 = .ok (.istore 6, 2) := by decide +kernel
theorem dL_law_137 : decode cL_law 137 = .ok (.aload_n 2, 1) := by decide +kernel
theorem dL_law_138 : decode cL_law 138 = .ok (.invokevirtual 66, 3) := by decide +kernel
theorem dL_law_141 : decode cL_law 141 = .ok (.iload 5, 2) := by decide +kernel
theorem dL_law_143 : decode cL_law 143 = .ok (.if_icmp .eq 5, 3) := by decide +kernel
theorem dL_law_146 : decode cL_law 146 = .ok (.iconst 0, 1) := by decide +kernel
theorem dL_law_147 : decode cL_law 147 = .ok (.ireturn, 1) := by decide +kernel
theorem dL_law_148 : decode cL_law 148 = .ok (.iload 5, 2) := by decide +kernel
theorem dL_law_150 : decode cL_law 150 = .ok (.ifCond .ne 22, 3) := by decide +kernel
theorem dL_law_153 : decode cL_law 153 = .ok (.aload_n 3, 1) := by decide +kernel
theorem dL_law_154 : decode cL_law 154 = .ok (.iconst 0, 1) := by decide +kernel
theorem dL_law_155 : decode cL_law 155 = .ok (.laload, 1) := by decide +kernel
theorem dL_law_156 : decode cL_law 156 = .ok (.iload 6, 2) := by decide +kernel
theorem dL_law_158 : decode cL_law 158 = .ok (.ifCond .eq 7, 3) := by decide +kernel
theorem dL_law_161 : decode cL_law 161 = .ok (.lconst 1, 1) := by decide +kernel
theorem dL_law_162 : decode cL_law 162 = .ok (.goto 4, 3) := by decide +kernel
theorem dL_law_165 : decode cL_law 165 = .ok (.lconst 0, 1) := by decide +kernel
theorem dL_law_166 : decode cL_law 166 = .ok (.lcmp, 1) := by decide +kernel
theorem dL_law_167 : decode cL_law 167 = .ok (.ifCond .eq 5, 3) := by decide +kernel
theorem dL_law_170 : decode cL_law 170 = .ok (.iconst 0, 1) := by decide +kernel
theorem dL_law_171 : decode cL_law 171 = .ok (.ireturn, 1) := by decide +kernel
theorem dL_law_172 : decode cL_law 172 = .ok (.goto 677, 3) := by decide +kernel
theorem dL_law_175 : decode cL_law 175 = .ok (.aload_n 1, 1) := by decide +kernel
theorem dL_law_176 : decode cL_law 176 = .ok (.aload_n 0, 1) := by decide +kernel
theorem dL_law_177 : decode cL_law 177 = .ok (.iload 4, 2) := by decide +kernel
theorem dL_law_179 : decode cL_law 179 = .ok (.iconst 1, 1) := by decide +kernel
theorem dL_law_180 : decode cL_law 180 = .ok (.iadd, 1) := by decide +kernel
theorem dL_law_181 : decode cL_law 181 = .ok (.iaload, 1) := by decide +kernel
theorem dL_law_182 : decode cL_law 182 = .ok (.aload_n 3, 1) := by decide +kernel
theorem dL_law_183 : decode cL_law 183 = .ok (.invokestatic 69, 3) := by decide +kernel
theorem dL_law_186 : decode cL_law 186 = .ok (.istore 5, 2) := by decide +kernel
theorem dL_law_188 : decode cL_law 188 = .ok (.aload_n 2, 1) := by decide +kernel
theorem dL_law_189 : decode cL_law 189 = .ok (.aload_n 0, 1) := by decide +kernel
theorem dL_law_190 : decode cL_law 190 = .ok (.iload 4, 2) := by decide +kernel
theorem dL_law_192 : decode cL_law 192 = .ok (.iconst 1, 1) := by decide +kernel
theorem dL_law_193 : decode cL_law 193 = .ok (.iadd, 1) := by decide +kernel
theorem dL_law_194 : decode cL_law 194 = .ok (.iaload, 1) := by decide +kernel
theorem dL_law_195 : decode cL_law 195 = .ok (.invokevirtual 72, 3) := by decide +kernel
theorem dL_law_198 : decode cL_law 198 = .ok (.istore 6, 2) := by decide +kernel
theorem dL_law_200 : decode cL_law 200 = .ok (.aload_n 2, 1) := by decide +kernel
theorem dL_law_201 : decode cL_law 201 = .ok (.invokevirtual 66, 3) := by decide +kernel
theorem dL_law_204 : decode cL_law 204 = .ok (.iload 5, 2) := by decide +kernel
theorem dL_law_206 : decode cL_law 206 = .ok (.if_icmp .eq 5, 3) := by decide +kernel
theorem dL_law_209 : decode cL_law 209 = .ok (.iconst 0, 1) := by decide +kernel
theorem dL_law_210 : decode cL_law 210 = .ok (.ireturn, 1) := by decide +kernel
theorem dL_law_211 : decode cL_law 211 = .ok (.iload 5, 2) := by decide +kernel
theorem dL_law_213 : decode cL_law 213 = .ok (.ifCond .ne 15, 3) := by decide +kernel
theorem dL_law_216 : decode cL_law 216 = .ok (.aload_n 3, 1) := by decide +kernel
theorem dL_law_217 : decode cL_law 217 = .ok (.iconst 0, 1) := by decide +kernel
theorem dL_law_218 : decode cL_law 218 = .ok (.laload, 1) := by decide +kernel
theorem dL_law_219 : decode cL_law 219 = .ok (.iload 6, 2) := by decide +kernel
theorem dL_law_221 : decode cL_law 221 = .ok (.i2l, 1) := by decide +kernel
theorem dL_law_222 : decode cL_law 222 = .ok (.lcmp, 1) := by decide +kernel
theorem dL_law_223 : decode cL_law 223 = .ok (.ifCond .eq 5, 3) := by decide +kernel
theorem dL_law_226 : decode cL_law 226 = .ok (.iconst 0, 1) := by decide +kernel
theorem dL_law_227 : decode cL_law 227 = .ok (.ireturn, 1) := by decide +kernel
theorem dL_law_228 : decode cL_law 228 = .ok (.goto 621, 3) := by decide +kernel
theorem dL_law_231 : decode cL_law 231 = .ok (.aload_n 1, 1) := by decide +kernel
theorem dL_law_232 : decode cL_law 232 = .ok (.aload_n 0, 1) := by decide +kernel
theorem dL_law_233 : decode cL_law 233 = .ok (.iload 4, 2) := by decide +kernel
theorem dL_law_235 : decode cL_law 235 = .ok (.iconst 1, 1) := by decide +kernel
theorem dL_law_236 : decode cL_law 236 = .ok (.iadd, 1) := by decide +kernel
theorem dL_law_237 : decode cL_law 237 = .ok (.iaload, 1) := by decide +kernel
theorem dL_law_238 : decode cL_law 238 = .ok (.aload_n 3, 1) := by decide +kernel
theorem dL_law_239 : decode cL_law 239 = .ok (.invokestatic 73, 3) := by decide +kernel
theorem dL_law_242 : decode cL_law 242 = .ok (.istore 5, 2) := by decide +kernel
theorem dL_law_244 : decode cL_law 244 = .ok (.aload_n 2, 1) := by decide +kernel
theorem dL_law_245 : decode cL_law 245 = .ok (.aload_n 0, 1) := by decide +kernel
theorem dL_law_246 : decode cL_law 246 = .ok (.iload 4, 2) := by decide +kernel
theorem dL_law_248 : decode cL_law 248 = .ok (.iconst 1, 1) := by decide +kernel
theorem dL_law_249 : decode cL_law 249 = .ok (.iadd, 1) := by decide +kernel
theorem dL_law_250 : decode cL_law 250 = .ok (.iaload, 1) := by decide +kernel
theorem dL_law_251 : decode cL_law 251 = .ok (.invokevirtual 75, 3) := by decide +kernel
theorem dL_law_254 : decode cL_law 254 = .ok (.istore 6, 2) := by decide +kernel
theorem dL_law_256 : decode cL_law 256 = .ok (.aload_n 2, 1) := by decide +kernel
theorem dL_law_257 : decode cL_law 257 = .ok (.invokevirtual 66, 3) := by decide +kernel
theorem dL_law_260 : decode cL_law 260 = .ok (.iload 5, 2) := by decide +kernel
theorem dL_law_262 : decode cL_law 262 = .ok (.if_icmp .eq 5, 3) := by decide +kernel
theorem dL_law_265 : decode cL_law 265 = .ok (.iconst 0, 1) := by decide +kernel
theorem dL_law_266 : decode cL_law 266 = .ok (.ireturn, 1) := by decide +kernel
theorem dL_law_267 : decode cL_law 267 = .ok (.iload 5, 2) := by decide +kernel
theorem dL_law_269 : decode cL_law 269 = .ok (.ifCond .ne 22, 3) := by decide +kernel
theorem dL_law_272 : decode cL_law 272 = .ok (.aload_n 3, 1) := by decide +kernel
theorem dL_law_273 : decode cL_law 273 = .ok (.iconst 0, 1) := by decide +kernel
theorem dL_law_274 : decode cL_law 274 = .ok (.laload, 1) := by decide +kernel
theorem dL_law_275 : decode cL_law 275 = .ok (.iload 6, 2) := by decide +kernel
theorem dL_law_277 : decode cL_law 277 = .ok (.ifCond .eq 7, 3) := by decide +kernel
theorem dL_law_280 : decode cL_law 280 = .ok (.lconst 1, 1) := by decide +kernel
theorem dL_law_281 : decode cL_law 281 = .ok (.goto 4, 3) := by decide +kernel
theorem dL_law_284 : decode cL_law 284 = .ok (.lconst 0, 1) := by decide +kernel
theorem dL_law_285 : decode cL_law 285 = .ok (.lcmp, 1) := by decide +kernel
theorem dL_law_286 : decode cL_law 286 = .ok (.ifCond .eq 5, 3) := by decide +kernel
theorem dL_law_289 : decode cL_law 289 = .ok (.iconst 0, 1) := by decide +kernel
theorem dL_law_290 : decode cL_law 290 = .ok (.ireturn, 1) := by decide +kernel
theorem dL_law_291 : decode cL_law 291 = .ok (.goto 558, 3) := by decide +kernel
theorem dL_law_294 : decode cL_law 294 = .ok (.aload_n 1, 1) := by decide +kernel
theorem dL_law_295 : decode cL_law 295 = .ok (.aload_n 3, 1) := by decide +kernel
theorem dL_law_296 : decode cL_law 296 = .ok (.invokestatic 76, 3) := by decide +kernel
theorem dL_law_299 : decode cL_law 299 = .ok (.istore 5, 2) := by decide +kernel
theorem dL_law_301 : decode cL_law 301 = .ok (.aload_n 2, 1) := by decide +kernel
theorem dL_law_302 : decode cL_law 302 = .ok (.invokevirtual 79, 3) := by decide +kernel
theorem dL_law_305 : decode cL_law 305 = .ok (.istore 6, 2) := by decide +kernel
theorem dL_law_307 : decode cL_law 307 = .ok (.aload_n 2, 1) := by decide +kernel
theorem dL_law_308 : decode cL_law 308 = .ok (.invokevirtual 66, 3) := by decide +kernel
theorem dL_law_311 : decode cL_law 311 = .ok (.iload 5, 2) := by decide +kernel
theorem dL_law_313 : decode cL_law 313 = .ok (.if_icmp .eq 5, 3) := by decide +kernel
theorem dL_law_316 : decode cL_law 316 = .ok (.iconst 0, 1) := by decide +kernel
theorem dL_law_317 : decode cL_law 317 = .ok (.ireturn, 1) := by decide +kernel
theorem dL_law_318 : decode cL_law 318 = .ok (.iload 5, 2) := by decide +kernel
theorem dL_law_320 : decode cL_law 320 = .ok (.ifCond .ne 15, 3) := by decide +kernel
theorem dL_law_323 : decode cL_law 323 = .ok (.aload_n 3, 1) := by decide +kernel
theorem dL_law_324 : decode cL_law 324 = .ok (.iconst 0, 1) := by decide +kernel
theorem dL_law_325 : decode cL_law 325 = .ok (.laload, 1) := by decide +kernel
theorem dL_law_326 : decode cL_law 326 = .ok (.iload 6, 2) := by decide +kernel
theorem dL_law_328 : decode cL_law 328 = .ok (.i2l, 1) := by decide +kernel
theorem dL_law_329 : decode cL_law 329 = .ok (.lcmp, 1) := by decide +kernel
theorem dL_law_330 : decode cL_law 330 = .ok (.ifCond .eq 5, 3) := by decide +kernel
theorem dL_law_333 : decode cL_law 333 = .ok (.iconst 0, 1) := by decide +kernel
theorem dL_law_334 : decode cL_law 334 = .ok (.ireturn, 1) := by decide +kernel
theorem dL_law_335 : decode cL_law 335 = .ok (.goto 514, 3) := by decide +kernel
theorem dL_law_338 : decode cL_law 338 = .ok (.aload_n 1, 1) := by decide +kernel
theorem dL_law_339 : decode cL_law 339 = .ok (.aload_n 0, 1) := by decide +kernel
theorem dL_law_340 : decode cL_law 340 = .ok (.iload 4, 2) := by decide +kernel
theorem dL_law_342 : decode cL_law 342 = .ok (.iconst 1, 1) := by decide +kernel
theorem dL_law_343 : decode cL_law 343 = .ok (.iadd, 1) := by decide +kernel
theorem dL_law_344 : decode cL_law 344 = .ok (.iaload, 1) := by decide +kernel
theorem dL_law_345 : decode cL_law 345 = .ok (.aload_n 0, 1) := by decide +kernel
theorem dL_law_346 : decode cL_law 346 = .ok (.iload 4, 2) := by decide +kernel
theorem dL_law_348 : decode cL_law 348 = .ok (.iconst 2, 1) := by decide +kernel
theorem dL_law_349 : decode cL_law 349 = .ok (.iadd, 1) := by decide +kernel
theorem dL_law_350 : decode cL_law 350 = .ok (.iaload, 1) := by decide +kernel
theorem dL_law_351 : decode cL_law 351 = .ok (.aload_n 3, 1) := by decide +kernel
theorem dL_law_352 : decode cL_law 352 = .ok (.invokestatic 80, 3) := by decide +kernel
theorem dL_law_355 : decode cL_law 355 = .ok (.istore 5, 2) := by decide +kernel
theorem dL_law_357 : decode cL_law 357 = .ok (.aload_n 2, 1) := by decide +kernel
theorem dL_law_358 : decode cL_law 358 = .ok (.aload_n 0, 1) := by decide +kernel
theorem dL_law_359 : decode cL_law 359 = .ok (.iload 4, 2) := by decide +kernel
theorem dL_law_361 : decode cL_law 361 = .ok (.iconst 1, 1) := by decide +kernel
theorem dL_law_362 : decode cL_law 362 = .ok (.iadd, 1) := by decide +kernel
theorem dL_law_363 : decode cL_law 363 = .ok (.iaload, 1) := by decide +kernel
theorem dL_law_364 : decode cL_law 364 = .ok (.aload_n 0, 1) := by decide +kernel
theorem dL_law_365 : decode cL_law 365 = .ok (.iload 4, 2) := by decide +kernel
theorem dL_law_367 : decode cL_law 367 = .ok (.iconst 2, 1) := by decide +kernel
theorem dL_law_368 : decode cL_law 368 = .ok (.iadd, 1) := by decide +kernel
theorem dL_law_369 : decode cL_law 369 = .ok (.iaload, 1) := by decide +kernel
theorem dL_law_370 : decode cL_law 370 = .ok (.invokevirtual 82, 3) := by decide +kernel
theorem dL_law_373 : decode cL_law 373 = .ok (.istore 6, 2) := by decide +kernel
theorem dL_law_375 : decode cL_law 375 = .ok (.aload_n 2, 1) := by decide +kernel
theorem dL_law_376 : decode cL_law 376 = .ok (.invokevirtual 66, 3) := by decide +kernel
theorem dL_law_379 : decode cL_law 379 = .ok (.iload 5, 2) := by decide +kernel
theorem dL_law_381 : decode cL_law 381 = .ok (.if_icmp .eq 5, 3) := by decide +kernel
theorem dL_law_384 : decode cL_law 384 = .ok (.iconst 0, 1) := by decide +kernel
theorem dL_law_385 : decode cL_law 385 = .ok (.ireturn, 1) := by decide +kernel
theorem dL_law_386 : decode cL_law 386 = .ok (.iload 5, 2) := by decide +kernel
theorem dL_law_388 : decode cL_law 388 = .ok (.ifCond .ne 15, 3) := by decide +kernel
theorem dL_law_391 : decode cL_law 391 = .ok (.aload_n 3, 1) := by decide +kernel
theorem dL_law_392 : decode cL_law 392 = .ok (.iconst 0, 1) := by decide +kernel
theorem dL_law_393 : decode cL_law 393 = .ok (.laload, 1) := by decide +kernel
theorem dL_law_394 : decode cL_law 394 = .ok (.iload 6, 2) := by decide +kernel
theorem dL_law_396 : decode cL_law 396 = .ok (.i2l, 1) := by decide +kernel
theorem dL_law_397 : decode cL_law 397 = .ok (.lcmp, 1) := by decide +kernel
theorem dL_law_398 : decode cL_law 398 = .ok (.ifCond .eq 5, 3) := by decide +kernel
theorem dL_law_401 : decode cL_law 401 = .ok (.iconst 0, 1) := by decide +kernel
theorem dL_law_402 : decode cL_law 402 = .ok (.ireturn, 1) := by decide +kernel
theorem dL_law_403 : decode cL_law 403 = .ok (.goto 446, 3) := by decide +kernel
theorem dL_law_406 : decode cL_law 406 = .ok (.aload_n 1, 1) := by decide +kernel
theorem dL_law_407 : decode cL_law 407 = .ok (.aload_n 3, 1) := by decide +kernel
theorem dL_law_408 : decode cL_law 408 = .ok (.invokestatic 83, 3) := by decide +kernel
theorem dL_law_411 : decode cL_law 411 = .ok (.istore 5, 2) := by decide +kernel
theorem dL_law_413 : decode cL_law 413 = .ok (.aload_n 2, 1) := by decide +kernel
theorem dL_law_414 : decode cL_law 414 = .ok (.invokevirtual 85, 3) := by decide +kernel
theorem dL_law_417 : decode cL_law 417 = .ok (.istore 6, 2) := by decide +kernel
theorem dL_law_419 : decode cL_law 419 = .ok (.aload_n 2, 1) := by decide +kernel
theorem dL_law_420 : decode cL_law 420 = .ok (.invokevirtual 66, 3) := by decide +kernel
theorem dL_law_423 : decode cL_law 423 = .ok (.iload 5, 2) := by decide +kernel
theorem dL_law_425 : decode cL_law 425 = .ok (.if_icmp .eq 5, 3) := by decide +kernel
theorem dL_law_428 : decode cL_law 428 = .ok (.iconst 0, 1) := by decide +kernel
theorem dL_law_429 : decode cL_law 429 = .ok (.ireturn, 1) := by decide +kernel
theorem dL_law_430 : decode cL_law 430 = .ok (.iload 5, 2) := by decide +kernel
theorem dL_law_432 : decode cL_law 432 = .ok (.ifCond .ne 15, 3) := by decide +kernel
theorem dL_law_435 : decode cL_law 435 = .ok (.aload_n 3, 1) := by decide +kernel
theorem dL_law_436 : decode cL_law 436 = .ok (.iconst 0, 1) := by decide +kernel
theorem dL_law_437 : decode cL_law 437 = .ok (.laload, 1) := by decide +kernel
theorem dL_law_438 : decode cL_law 438 = .ok (.iload 6, 2) := by decide +kernel
theorem dL_law_440 : decode cL_law 440 = .ok (.i2l, 1) := by decide +kernel
theorem dL_law_441 : decode cL_law 441 = .ok (.lcmp, 1) := by decide +kernel
theorem dL_law_442 : decode cL_law 442 = .ok (.ifCond .eq 5, 3) := by decide +kernel
theorem dL_law_445 : decode cL_law 445 = .ok (.iconst 0, 1) := by decide +kernel
theorem dL_law_446 : decode cL_law 446 = .ok (.ireturn, 1) := by decide +kernel
theorem dL_law_447 : decode cL_law 447 = .ok (.goto 402, 3) := by decide +kernel
theorem dL_law_450 : decode cL_law 450 = .ok (.aload_n 1, 1) := by decide +kernel
theorem dL_law_451 : decode cL_law 451 = .ok (.aload_n 0, 1) := by decide +kernel
theorem dL_law_452 : decode cL_law 452 = .ok (.iload 4, 2) := by decide +kernel
theorem dL_law_454 : decode cL_law 454 = .ok (.iconst 1, 1) := by decide +kernel
theorem dL_law_455 : decode cL_law 455 = .ok (.iadd, 1) := by decide +kernel
theorem dL_law_456 : decode cL_law 456 = .ok (.iaload, 1) := by decide +kernel
theorem dL_law_457 : decode cL_law 457 = .ok (.aload_n 3, 1) := by decide +kernel
theorem dL_law_458 : decode cL_law 458 = .ok (.invokestatic 86, 3) := by decide +kernel
theorem dL_law_461 : decode cL_law 461 = .ok (.istore 5, 2) := by decide +kernel
theorem dL_law_463 : decode cL_law 463 = .ok (.aload_n 2, 1) := by decide +kernel
theorem dL_law_464 : decode cL_law 464 = .ok (.aload_n 0, 1) := by decide +kernel
theorem dL_law_465 : decode cL_law 465 = .ok (.iload 4, 2) := by decide +kernel
theorem dL_law_467 : decode cL_law 467 = .ok (.iconst 1, 1) := by decide +kernel
theorem dL_law_468 : decode cL_law 468 = .ok (.iadd, 1) := by decide +kernel
theorem dL_law_469 : decode cL_law 469 = .ok (.iaload, 1) := by decide +kernel
theorem dL_law_470 : decode cL_law 470 = .ok (.invokevirtual 88, 3) := by decide +kernel
theorem dL_law_473 : decode cL_law 473 = .ok (.istore 6, 2) := by decide +kernel
theorem dL_law_475 : decode cL_law 475 = .ok (.aload_n 2, 1) := by decide +kernel
theorem dL_law_476 : decode cL_law 476 = .ok (.invokevirtual 66, 3) := by decide +kernel
theorem dL_law_479 : decode cL_law 479 = .ok (.iload 5, 2) := by decide +kernel
theorem dL_law_481 : decode cL_law 481 = .ok (.if_icmp .eq 5, 3) := by decide +kernel
theorem dL_law_484 : decode cL_law 484 = .ok (.iconst 0, 1) := by decide +kernel
theorem dL_law_485 : decode cL_law 485 = .ok (.ireturn, 1) := by decide +kernel
theorem dL_law_486 : decode cL_law 486 = .ok (.iload 5, 2) := by decide +kernel
theorem dL_law_488 : decode cL_law 488 = .ok (.ifCond .ne 15, 3) := by decide +kernel
theorem dL_law_491 : decode cL_law 491 = .ok (.aload_n 3, 1) := by decide +kernel
theorem dL_law_492 : decode cL_law 492 = .ok (.iconst 0, 1) := by decide +kernel
theorem dL_law_493 : decode cL_law 493 = .ok (.laload, 1) := by decide +kernel
theorem dL_law_494 : decode cL_law 494 = .ok (.iload 6, 2) := by decide +kernel
theorem dL_law_496 : decode cL_law 496 = .ok (.i2l, 1) := by decide +kernel
theorem dL_law_497 : decode cL_law 497 = .ok (.lcmp, 1) := by decide +kernel
theorem dL_law_498 : decode cL_law 498 = .ok (.ifCond .eq 5, 3) := by decide +kernel
theorem dL_law_501 : decode cL_law 501 = .ok (.iconst 0, 1) := by decide +kernel
theorem dL_law_502 : decode cL_law 502 = .ok (.ireturn, 1) := by decide +kernel
theorem dL_law_503 : decode cL_law 503 = .ok (.goto 346, 3) := by decide +kernel
theorem dL_law_506 : decode cL_law 506 = .ok (.aload_n 1, 1) := by decide +kernel
theorem dL_law_507 : decode cL_law 507 = .ok (.aload_n 0, 1) := by decide +kernel
theorem dL_law_508 : decode cL_law 508 = .ok (.iload 4, 2) := by decide +kernel
theorem dL_law_510 : decode cL_law 510 = .ok (.iconst 1, 1) := by decide +kernel
theorem dL_law_511 : decode cL_law 511 = .ok (.iadd, 1) := by decide +kernel
theorem dL_law_512 : decode cL_law 512 = .ok (.iaload, 1) := by decide +kernel
theorem dL_law_513 : decode cL_law 513 = .ok (.aload_n 0, 1) := by decide +kernel
theorem dL_law_514 : decode cL_law 514 = .ok (.iload 4, 2) := by decide +kernel
theorem dL_law_516 : decode cL_law 516 = .ok (.iconst 2, 1) := by decide +kernel
theorem dL_law_517 : decode cL_law 517 = .ok (.iadd, 1) := by decide +kernel
theorem dL_law_518 : decode cL_law 518 = .ok (.iaload, 1) := by decide +kernel
theorem dL_law_519 : decode cL_law 519 = .ok (.aload_n 0, 1) := by decide +kernel
theorem dL_law_520 : decode cL_law 520 = .ok (.iload 4, 2) := by decide +kernel
theorem dL_law_522 : decode cL_law 522 = .ok (.iconst 3, 1) := by decide +kernel
theorem dL_law_523 : decode cL_law 523 = .ok (.iadd, 1) := by decide +kernel
theorem dL_law_524 : decode cL_law 524 = .ok (.iaload, 1) := by decide +kernel
theorem dL_law_525 : decode cL_law 525 = .ok (.aload_n 3, 1) := by decide +kernel
theorem dL_law_526 : decode cL_law 526 = .ok (.invokestatic 89, 3) := by decide +kernel
theorem dL_law_529 : decode cL_law 529 = .ok (.istore 5, 2) := by decide +kernel
theorem dL_law_531 : decode cL_law 531 = .ok (.aload_n 2, 1) := by decide +kernel
theorem dL_law_532 : decode cL_law 532 = .ok (.aload_n 0, 1) := by decide +kernel
theorem dL_law_533 : decode cL_law 533 = .ok (.iload 4, 2) := by decide +kernel
theorem dL_law_535 : decode cL_law 535 = .ok (.iconst 1, 1) := by decide +kernel
theorem dL_law_536 : decode cL_law 536 = .ok (.iadd, 1) := by decide +kernel
theorem dL_law_537 : decode cL_law 537 = .ok (.iaload, 1) := by decide +kernel
theorem dL_law_538 : decode cL_law 538 = .ok (.aload_n 0, 1) := by decide +kernel
theorem dL_law_539 : decode cL_law 539 = .ok (.iload 4, 2) := by decide +kernel
theorem dL_law_541 : decode cL_law 541 = .ok (.iconst 2, 1) := by decide +kernel
theorem dL_law_542 : decode cL_law 542 = .ok (.iadd, 1) := by decide +kernel
theorem dL_law_543 : decode cL_law 543 = .ok (.iaload, 1) := by decide +kernel
theorem dL_law_544 : decode cL_law 544 = .ok (.aload_n 0, 1) := by decide +kernel
theorem dL_law_545 : decode cL_law 545 = .ok (.iload 4, 2) := by decide +kernel
theorem dL_law_547 : decode cL_law 547 = .ok (.iconst 3, 1) := by decide +kernel
theorem dL_law_548 : decode cL_law 548 = .ok (.iadd, 1) := by decide +kernel
theorem dL_law_549 : decode cL_law 549 = .ok (.iaload, 1) := by decide +kernel
theorem dL_law_550 : decode cL_law 550 = .ok (.invokevirtual 92, 3) := by decide +kernel
theorem dL_law_553 : decode cL_law 553 = .ok (.istore 6, 2) := by decide +kernel
theorem dL_law_555 : decode cL_law 555 = .ok (.aload_n 2, 1) := by decide +kernel
theorem dL_law_556 : decode cL_law 556 = .ok (.invokevirtual 66, 3) := by decide +kernel
theorem dL_law_559 : decode cL_law 559 = .ok (.iload 5, 2) := by decide +kernel
theorem dL_law_561 : decode cL_law 561 = .ok (.if_icmp .eq 5, 3) := by decide +kernel
theorem dL_law_564 : decode cL_law 564 = .ok (.iconst 0, 1) := by decide +kernel
theorem dL_law_565 : decode cL_law 565 = .ok (.ireturn, 1) := by decide +kernel
theorem dL_law_566 : decode cL_law 566 = .ok (.iload 5, 2) := by decide +kernel
theorem dL_law_568 : decode cL_law 568 = .ok (.ifCond .ne 15, 3) := by decide +kernel
theorem dL_law_571 : decode cL_law 571 = .ok (.aload_n 3, 1) := by decide +kernel
theorem dL_law_572 : decode cL_law 572 = .ok (.iconst 0, 1) := by decide +kernel
theorem dL_law_573 : decode cL_law 573 = .ok (.laload, 1) := by decide +kernel
theorem dL_law_574 : decode cL_law 574 = .ok (.iload 6, 2) := by decide +kernel
theorem dL_law_576 : decode cL_law 576 = .ok (.i2l, 1) := by decide +kernel
theorem dL_law_577 : decode cL_law 577 = .ok (.lcmp, 1) := by decide +kernel
theorem dL_law_578 : decode cL_law 578 = .ok (.ifCond .eq 5, 3) := by decide +kernel
theorem dL_law_581 : decode cL_law 581 = .ok (.iconst 0, 1) := by decide +kernel
theorem dL_law_582 : decode cL_law 582 = .ok (.ireturn, 1) := by decide +kernel
theorem dL_law_583 : decode cL_law 583 = .ok (.goto 266, 3) := by decide +kernel
theorem dL_law_586 : decode cL_law 586 = .ok (.aload_n 1, 1) := by decide +kernel
theorem dL_law_587 : decode cL_law 587 = .ok (.aload_n 3, 1) := by decide +kernel
theorem dL_law_588 : decode cL_law 588 = .ok (.invokestatic 93, 3) := by decide +kernel
theorem dL_law_591 : decode cL_law 591 = .ok (.istore 5, 2) := by decide +kernel
theorem dL_law_593 : decode cL_law 593 = .ok (.aload_n 2, 1) := by decide +kernel
theorem dL_law_594 : decode cL_law 594 = .ok (.invokevirtual 95, 3) := by decide +kernel
theorem dL_law_597 : decode cL_law 597 = .ok (.istore 6, 2) := by decide +kernel
theorem dL_law_599 : decode cL_law 599 = .ok (.aload_n 2, 1) := by decide +kernel
theorem dL_law_600 : decode cL_law 600 = .ok (.invokevirtual 66, 3) := by decide +kernel
theorem dL_law_603 : decode cL_law 603 = .ok (.iload 5, 2) := by decide +kernel
theorem dL_law_605 : decode cL_law 605 = .ok (.if_icmp .eq 5, 3) := by decide +kernel
theorem dL_law_608 : decode cL_law 608 = .ok (.iconst 0, 1) := by decide +kernel
theorem dL_law_609 : decode cL_law 609 = .ok (.ireturn, 1) := by decide +kernel
theorem dL_law_610 : decode cL_law 610 = .ok (.iload 5, 2) := by decide +kernel
theorem dL_law_612 : decode cL_law 612 = .ok (.ifCond .ne 15, 3) := by decide +kernel
theorem dL_law_615 : decode cL_law 615 = .ok (.aload_n 3, 1) := by decide +kernel
theorem dL_law_616 : decode cL_law 616 = .ok (.iconst 0, 1) := by decide +kernel
theorem dL_law_617 : decode cL_law 617 = .ok (.laload, 1) := by decide +kernel
theorem dL_law_618 : decode cL_law 618 = .ok (.iload 6, 2) := by decide +kernel
theorem dL_law_620 : decode cL_law 620 = .ok (.i2l, 1) := by decide +kernel
theorem dL_law_621 : decode cL_law 621 = .ok (.lcmp, 1) := by decide +kernel
theorem dL_law_622 : decode cL_law 622 = .ok (.ifCond .eq 5, 3) := by decide +kernel
theorem dL_law_625 : decode cL_law 625 = .ok (.iconst 0, 1) := by decide +kernel
theorem dL_law_626 : decode cL_law 626 = .ok (.ireturn, 1) := by decide +kernel
theorem dL_law_627 : decode cL_law 627 = .ok (.goto 222, 3) := by decide +kernel
theorem dL_law_630 : decode cL_law 630 = .ok (.aload_n 1, 1) := by decide +kernel
theorem dL_law_631 : decode cL_law 631 = .ok (.aload_n 0, 1) := by decide +kernel
theorem dL_law_632 : decode cL_law 632 = .ok (.iload 4, 2) := by decide +kernel
theorem dL_law_634 : decode cL_law 634 = .ok (.iconst 1, 1) := by decide +kernel
theorem dL_law_635 : decode cL_law 635 = .ok (.iadd, 1) := by decide +kernel
theorem dL_law_636 : decode cL_law 636 = .ok (.iaload, 1) := by decide +kernel
theorem dL_law_637 : decode cL_law 637 = .ok (.aload_n 0, 1) := by decide +kernel
theorem dL_law_638 : decode cL_law 638 = .ok (.iload 4, 2) := by decide +kernel
theorem dL_law_640 : decode cL_law 640 = .ok (.iconst 2, 1) := by decide +kernel
theorem dL_law_641 : decode cL_law 641 = .ok (.iadd, 1) := by decide +kernel
theorem dL_law_642 : decode cL_law 642 = .ok (.iaload, 1) := by decide +kernel
theorem dL_law_643 : decode cL_law 643 = .ok (.ifCond .eq 7, 3) := by decide +kernel
theorem dL_law_646 : decode cL_law 646 = .ok (.iconst 1, 1) := by decide +kernel
theorem dL_law_647 : decode cL_law 647 = .ok (.goto 4, 3) := by decide +kernel
theorem dL_law_650 : decode cL_law 650 = .ok (.iconst 0, 1) := by decide +kernel
theorem dL_law_651 : decode cL_law 651 = .ok (.aload_n 3, 1) := by decide +kernel
theorem dL_law_652 : decode cL_law 652 = .ok (.invokestatic 96, 3) := by decide +kernel
theorem dL_law_655 : decode cL_law 655 = .ok (.istore 5, 2) := by decide +kernel
theorem dL_law_657 : decode cL_law 657 = .ok (.aload_n 2, 1) := by decide +kernel
theorem dL_law_658 : decode cL_law 658 = .ok (.aload_n 0, 1) := by decide +kernel
theorem dL_law_659 : decode cL_law 659 = .ok (.iload 4, 2) := by decide +kernel
theorem dL_law_661 : decode cL_law 661 = .ok (.iconst 1, 1) := by decide +kernel
theorem dL_law_662 : decode cL_law 662 = .ok (.iadd, 1) := by decide +kernel
theorem dL_law_663 : decode cL_law 663 = .ok (.iaload, 1) := by decide +kernel
theorem dL_law_664 : decode cL_law 664 = .ok (.aload_n 0, 1) := by decide +kernel
theorem dL_law_665 : decode cL_law 665 = .ok (.iload 4, 2) := by decide +kernel
theorem dL_law_667 : decode cL_law 667 = .ok (.iconst 2, 1) := by decide +kernel
theorem dL_law_668 : decode cL_law 668 = .ok (.iadd, 1) := by decide +kernel
theorem dL_law_669 : decode cL_law 669 = .ok (.iaload, 1) := by decide +kernel
theorem dL_law_670 : decode cL_law 670 = .ok (.ifCond .eq 7, 3) := by decide +kernel
theorem dL_law_673 : decode cL_law 673 = .ok (.iconst 1, 1) := by decide +kernel
theorem dL_law_674 : decode cL_law 674 = .ok (.goto 4, 3) := by decide +kernel
theorem dL_law_677 : decode cL_law 677 = .ok (.iconst 0, 1) := by decide +kernel
theorem dL_law_678 : decode cL_law 678 = .ok (.invokevirtual 99, 3) := by decide +kernel
theorem dL_law_681 : decode cL_law 681 = .ok (.istore 6, 2) := by decide +kernel
theorem dL_law_683 : decode cL_law 683 = .ok (.aload_n 2, 1) := by decide +kernel
theorem dL_law_684 : decode cL_law 684 = .ok (.invokevirtual 66, 3) := by decide +kernel
theorem dL_law_687 : decode cL_law 687 = .ok (.iload 5, 2) := by decide +kernel
theorem dL_law_689 : decode cL_law 689 = .ok (.if_icmp .eq 5, 3) := by decide +kernel
theorem dL_law_692 : decode cL_law 692 = .ok (.iconst 0, 1) := by decide +kernel
theorem dL_law_693 : decode cL_law 693 = .ok (.ireturn, 1) := by decide +kernel
theorem dL_law_694 : decode cL_law 694 = .ok (.iload 5, 2) := by decide +kernel
theorem dL_law_696 : decode cL_law 696 = .ok (.ifCond .ne 15, 3) := by decide +kernel
theorem dL_law_699 : decode cL_law 699 = .ok (.aload_n 3, 1) := by decide +kernel
theorem dL_law_700 : decode cL_law 700 = .ok (.iconst 0, 1) := by decide +kernel
theorem dL_law_701 : decode cL_law 701 = .ok (.laload, 1) := by decide +kernel
theorem dL_law_702 : decode cL_law 702 = .ok (.iload 6, 2) := by decide +kernel
theorem dL_law_704 : decode cL_law 704 = .ok (.i2l, 1) := by decide +kernel
theorem dL_law_705 : decode cL_law 705 = .ok (.lcmp, 1) := by decide +kernel
theorem dL_law_706 : decode cL_law 706 = .ok (.ifCond .eq 5, 3) := by decide +kernel
theorem dL_law_709 : decode cL_law 709 = .ok (.iconst 0, 1) := by decide +kernel
theorem dL_law_710 : decode cL_law 710 = .ok (.ireturn, 1) := by decide +kernel
theorem dL_law_711 : decode cL_law 711 = .ok (.goto 138, 3) := by decide +kernel
theorem dL_law_714 : decode cL_law 714 = .ok (.aload_n 1, 1) := by decide +kernel
theorem dL_law_715 : decode cL_law 715 = .ok (.aload_n 0, 1) := by decide +kernel
theorem dL_law_716 : decode cL_law 716 = .ok (.iload 4, 2) := by decide +kernel
theorem dL_law_718 : decode cL_law 718 = .ok (.iconst 1, 1) := by decide +kernel
theorem dL_law_719 : decode cL_law 719 = .ok (.iadd, 1) := by decide +kernel
theorem dL_law_720 : decode cL_law 720 = .ok (.iaload, 1) := by decide +kernel
theorem dL_law_721 : decode cL_law 721 = .ok (.aload_n 0, 1) := by decide +kernel
theorem dL_law_722 : decode cL_law 722 = .ok (.iload 4, 2) := by decide +kernel
theorem dL_law_724 : decode cL_law 724 = .ok (.iconst 2, 1) := by decide +kernel
theorem dL_law_725 : decode cL_law 725 = .ok (.iadd, 1) := by decide +kernel
theorem dL_law_726 : decode cL_law 726 = .ok (.iaload, 1) := by decide +kernel
theorem dL_law_727 : decode cL_law 727 = .ok (.ifCond .eq 7, 3) := by decide +kernel
theorem dL_law_730 : decode cL_law 730 = .ok (.iconst 1, 1) := by decide +kernel
theorem dL_law_731 : decode cL_law 731 = .ok (.goto 4, 3) := by decide +kernel
theorem dL_law_734 : decode cL_law 734 = .ok (.iconst 0, 1) := by decide +kernel
theorem dL_law_735 : decode cL_law 735 = .ok (.aload_n 0, 1) := by decide +kernel
theorem dL_law_736 : decode cL_law 736 = .ok (.iload 4, 2) := by decide +kernel
theorem dL_law_738 : decode cL_law 738 = .ok (.iconst 3, 1) := by decide +kernel
theorem dL_law_739 : decode cL_law 739 = .ok (.iadd, 1) := by decide +kernel
theorem dL_law_740 : decode cL_law 740 = .ok (.iaload, 1) := by decide +kernel
theorem dL_law_741 : decode cL_law 741 = .ok (.aload_n 0, 1) := by decide +kernel
theorem dL_law_742 : decode cL_law 742 = .ok (.iload 4, 2) := by decide +kernel
theorem dL_law_744 : decode cL_law 744 = .ok (.iconst 4, 1) := by decide +kernel
theorem dL_law_745 : decode cL_law 745 = .ok (.iadd, 1) := by decide +kernel
theorem dL_law_746 : decode cL_law 746 = .ok (.iaload, 1) := by decide +kernel
theorem dL_law_747 : decode cL_law 747 = .ok (.ifCond .eq 7, 3) := by decide +kernel
theorem dL_law_750 : decode cL_law 750 = .ok (.iconst 1, 1) := by decide +kernel
theorem dL_law_751 : decode cL_law 751 = .ok (.goto 4, 3) := by decide +kernel
theorem dL_law_754 : decode cL_law 754 = .ok (.iconst 0, 1) := by decide +kernel
theorem dL_law_755 : decode cL_law 755 = .ok (.aload_n 3, 1) := by decide +kernel
theorem dL_law_756 : decode cL_law 756 = .ok (.invokestatic 100, 3) := by decide +kernel
theorem dL_law_759 : decode cL_law 759 = .ok (.istore 5, 2) := by decide +kernel
theorem dL_law_761 : decode cL_law 761 = .ok (.aload_n 2, 1) := by decide +kernel
theorem dL_law_762 : decode cL_law 762 = .ok (.aload_n 0, 1) := by decide +kernel
theorem dL_law_763 : decode cL_law 763 = .ok (.iload 4, 2) := by decide +kernel
theorem dL_law_765 : decode cL_law 765 = .ok (.iconst 1, 1) := by decide +kernel
theorem dL_law_766 : decode cL_law 766 = .ok (.iadd, 1) := by decide +kernel
theorem dL_law_767 : decode cL_law 767 = .ok (.iaload, 1) := by decide +kernel
theorem dL_law_768 : decode cL_law 768 = .ok (.aload_n 0, 1) := by decide +kernel
theorem dL_law_769 : decode cL_law 769 = .ok (.iload 4, 2) := by decide +kernel
theorem dL_law_771 : decode cL_law 771 = .ok (.iconst 2, 1) := by decide +kernel
theorem dL_law_772 : decode cL_law 772 = .ok (.iadd, 1) := by decide +kernel
theorem dL_law_773 : decode cL_law 773 = .ok (.iaload, 1) := by decide +kernel
theorem dL_law_774 : decode cL_law 774 = .ok (.ifCond .eq 7, 3) := by decide +kernel
theorem dL_law_777 : decode cL_law 777 = .ok (.iconst 1, 1) := by decide +kernel
theorem dL_law_778 : decode cL_law 778 = .ok (.goto 4, 3) := by decide +kernel
theorem dL_law_781 : decode cL_law 781 = .ok (.iconst 0, 1) := by decide +kernel
theorem dL_law_782 : decode cL_law 782 = .ok (.aload_n 0, 1) := by decide +kernel
theorem dL_law_783 : decode cL_law 783 = .ok (.iload 4, 2) := by decide +kernel
theorem dL_law_785 : decode cL_law 785 = .ok (.iconst 3, 1) := by decide +kernel
theorem dL_law_786 : decode cL_law 786 = .ok (.iadd, 1) := by decide +kernel
theorem dL_law_787 : decode cL_law 787 = .ok (.iaload, 1) := by decide +kernel
theorem dL_law_788 : decode cL_law 788 = .ok (.aload_n 0, 1) := by decide +kernel
theorem dL_law_789 : decode cL_law 789 = .ok (.iload 4, 2) := by decide +kernel
theorem dL_law_791 : decode cL_law 791 = .ok (.iconst 4, 1) := by decide +kernel
theorem dL_law_792 : decode cL_law 792 = .ok (.iadd, 1) := by decide +kernel
theorem dL_law_793 : decode cL_law 793 = .ok (.iaload, 1) := by decide +kernel
theorem dL_law_794 : decode cL_law 794 = .ok (.ifCond .eq 7, 3) := by decide +kernel
theorem dL_law_797 : decode cL_law 797 = .ok (.iconst 1, 1) := by decide +kernel
theorem dL_law_798 : decode cL_law 798 = .ok (.goto 4, 3) := by decide +kernel
theorem dL_law_801 : decode cL_law 801 = .ok (.iconst 0, 1) := by decide +kernel
theorem dL_law_802 : decode cL_law 802 = .ok (.invokevirtual 103, 3) := by decide +kernel
theorem dL_law_805 : decode cL_law 805 = .ok (.istore 6, 2) := by decide +kernel
theorem dL_law_807 : decode cL_law 807 = .ok (.aload_n 2, 1) := by decide +kernel
theorem dL_law_808 : decode cL_law 808 = .ok (.invokevirtual 66, 3) := by decide +kernel
theorem dL_law_811 : decode cL_law 811 = .ok (.iload 5, 2) := by decide +kernel
theorem dL_law_813 : decode cL_law 813 = .ok (.if_icmp .eq 5, 3) := by decide +kernel
theorem dL_law_816 : decode cL_law 816 = .ok (.iconst 0, 1) := by decide +kernel
theorem dL_law_817 : decode cL_law 817 = .ok (.ireturn, 1) := by decide +kernel
theorem dL_law_818 : decode cL_law 818 = .ok (.iload 5, 2) := by decide +kernel
theorem dL_law_820 : decode cL_law 820 = .ok (.ifCond .ne 15, 3) := by decide +kernel
theorem dL_law_823 : decode cL_law 823 = .ok (.aload_n 3, 1) := by decide +kernel
theorem dL_law_824 : decode cL_law 824 = .ok (.iconst 0, 1) := by decide +kernel
theorem dL_law_825 : decode cL_law 825 = .ok (.laload, 1) := by decide +kernel
theorem dL_law_826 : decode cL_law 826 = .ok (.iload 6, 2) := by decide +kernel
theorem dL_law_828 : decode cL_law 828 = .ok (.i2l, 1) := by decide +kernel
theorem dL_law_829 : decode cL_law 829 = .ok (.lcmp, 1) := by decide +kernel
theorem dL_law_830 : decode cL_law 830 = .ok (.ifCond .eq 5, 3) := by decide +kernel
theorem dL_law_833 : decode cL_law 833 = .ok (.iconst 0, 1) := by decide +kernel
theorem dL_law_834 : decode cL_law 834 = .ok (.ireturn, 1) := by decide +kernel
theorem dL_law_835 : decode cL_law 835 = .ok (.goto 14, 3) := by decide +kernel
theorem dL_law_838 : decode cL_law 838 = .ok (.aload_n 1, 1) := by decide +kernel
theorem dL_law_839 : decode cL_law 839 = .ok (.invokevirtual 104, 3) := by decide +kernel
theorem dL_law_842 : decode cL_law 842 = .ok (.aload_n 2, 1) := by decide +kernel
theorem dL_law_843 : decode cL_law 843 = .ok (.invokevirtual 107, 3) := by decide +kernel
theorem dL_law_846 : decode cL_law 846 = .ok (.goto 3, 3) := by decide +kernel
theorem dL_law_849 : decode cL_law 849 = .ok (.iinc 4 5, 3) := by decide +kernel
theorem dL_law_852 : decode cL_law 852 = .ok (.goto (-829), 3) := by decide +kernel
theorem dL_law_855 : decode cL_law 855 = .ok (.iconst 1, 1) := by decide +kernel
theorem dL_law_856 : decode cL_law 856 = .ok (.ireturn, 1) := by decide +kernel
end
section
theorem lrem_mod (x y : Int64) : x - (x / y) * y = x % y := by
  apply Int64.toInt_inj.mp
  simp only [Int64.toInt_sub, Int64.toInt_mul, Int64.toInt_div, Int64.toInt_mod]
  rw [← Int.tmod_add_mul_tdiv x.toInt y.toInt]
  have h1 : (x.toInt.tmod y.toInt).bmod (2 ^ 64) = x.toInt.tmod y.toInt := by
    have := Int64.toInt_mod x y
    rw [← this]
    exact Int64.toInt_bmod _
  rw [Int.tmod_add_mul_tdiv]
  rw [← h1]
  have h2 : x.toInt - x.toInt.tdiv y.toInt * y.toInt = x.toInt.tmod y.toInt := by
    have := Int.tmod_add_mul_tdiv x.toInt y.toInt
    rw [Int.mul_comm y.toInt] at this
    omega
  rw [← h2]
  simp only [Int.sub_bmod_bmod, Int.bmod_mul_bmod, Int.mul_bmod_bmod]
theorem lI_div {a b : Int} (ha : r64 a) (hb : r64 b) (h : a ≠ -9223372036854775808) : lI a / lI b = lI (a.tdiv b) := by
  apply Int64.toInt_inj.mp
  have hm : lI a ≠ Int64.minValue := fun q => h (by rw [← lI_toInt ha, q]; rfl)
  rw [Int64.toInt_div_of_ne_left _ _ hm, lI_toInt ha, lI_toInt hb, lI_toInt]
  have h1 := Int.natAbs_tdiv_le_natAbs a b
  have := ha.1
  have := ha.2
  constructor <;> omega
theorem lI_rem {a b : Int} (ha : r64 a) (hb : r64 b) : lI a - lI a / lI b * lI b = lI (a.tmod b) := by
  rw [lrem_mod]
  apply Int64.toInt_inj.mp
  rw [Int64.toInt_mod, lI_toInt ha, lI_toInt hb, lI_toInt]
  have h1 := Int.natAbs_tmod a b
  have h2 : a.natAbs % b.natAbs ≤ a.natAbs := Nat.mod_le _ _
  have := ha.1
  have := ha.2
  rcases Int.lt_or_le a 0 with q | q
  · have h3 : 0 ≤ (-a).tmod b := Int.tmod_nonneg _ (by omega)
    rw [Int.neg_tmod] at h3
    constructor <;> omega
  · have h3 : 0 ≤ a.tmod b := Int.tmod_nonneg _ q
    constructor <;> omega
theorem lI_int (x : Int) : (lI x).toInt32 = iI x := Int64.toInt32_ofInt
theorem lI_eq0 {a : Int} (ha : r64 a) : lI a = 0 ↔ a = 0 := lI_eq (b := 0) ha ⟨by decide, by decide⟩
/-- the contents of an array of longs -/
def aL (N : Int → Int) : Nat → Int64 := fun j => lI (N (j : Int))
theorem aL_at {N : Int → Int} {k : Int} (h : 0 ≤ k) (h2 : k ≤ 2147483647) : aL N (iI k).toNatClampNeg = lI (N k) := by
  rw [iI_nat h h2]
  show lI (N ((k.toNat : Nat) : Int)) = lI (N k)
  rw [Int.toNat_of_nonneg h]
theorem aL_up {N : Int → Int} {k x : Int} (h : 0 ≤ k) (h2 : k ≤ 2147483647) : vp_updL (aL N) (iI k).toNatClampNeg (lI x) = aL (iu N k x) := by
  funext j
  rw [iI_nat h h2]
  show (if j = k.toNat then lI x else lI (N (j : Int))) = lI (if (j : Int) = k then x else N (j : Int))
  by_cases q : j = k.toNat
  · rw [if_pos q, if_pos (by omega)]
  · rw [if_neg q, if_neg (by omega)]
theorem lg_eq (x y : Int64) : lg_cmp x y = 0 ↔ x = y := by
  unfold lg_cmp
  by_cases h : x > y
  · rw [if_pos h]
    exact ⟨fun q => absurd q (by decide), fun q => absurd (q ▸ h) (by rw [gt_iff_lt, Int64.lt_iff_toInt_lt]; omega)⟩
  · rw [if_neg h]
    by_cases h2 : x = y
    · rw [if_pos h2]; exact ⟨fun _ => h2, fun _ => rfl⟩
    · rw [if_neg h2]; exact ⟨fun q => absurd q (by decide), fun q => absurd q h2⟩
theorem lg_gt (x y : Int64) : 0 < lg_cmp x y ↔ y < x := by
  unfold lg_cmp
  by_cases h : x > y
  · rw [if_pos h]; exact ⟨fun _ => h, fun _ => by decide⟩
  · rw [if_neg h]
    by_cases h2 : x = y
    · rw [if_pos h2]; exact ⟨fun q => absurd q (by decide), fun q => absurd q h⟩
    · rw [if_neg h2]; exact ⟨fun q => absurd q (by decide), fun q => absurd q h⟩
theorem lg_lt (x y : Int64) : lg_cmp x y < 0 ↔ x < y := by
  unfold lg_cmp
  by_cases h : x > y
  · rw [if_pos h]
    exact ⟨fun q => absurd q (by decide), fun q => by
      rw [gt_iff_lt, Int64.lt_iff_toInt_lt] at h; rw [Int64.lt_iff_toInt_lt] at q; omega⟩
  · rw [if_neg h]
    by_cases h2 : x = y
    · rw [if_pos h2]; exact ⟨fun q => absurd q (by decide), fun q => by
        rw [h2, Int64.lt_iff_toInt_lt] at q; omega⟩
    · rw [if_neg h2]
      refine ⟨fun _ => ?_, fun _ => by decide⟩
      rw [gt_iff_lt, Int64.lt_iff_toInt_lt] at h
      rw [Int64.lt_iff_toInt_lt]
      have : ¬ x.toInt = y.toInt := fun q => h2 (Int64.toInt_inj.mp q)
      omega
section IL
variable {p : Program} {l : Launch} {e : Env} {R : Room} {s : State} {m : MethodId} {args : Array Value} {below : List Frame} {meth : Method} {c : Code} {H : Heap} {locs : List Loc} {cells slots : Nat} {Q : State → Prop} {cc : ByteArray} {pc : Nat} {ls : Array Slot} {rest : List Value}
theorem ix_lc_eq (hexec : p.tables.exec = Jvm.exec) (hb : c.code = cc) {x y : Int} {off : Int} {tgt : Nat} (hd1 : decode cc pc = .ok (.lcmp, 1)) (hd2 : decode cc (pc + 1) = .ok (.ifCond .eq off, 3)) (ht : ((pc + 1 : Nat) : Int) + off = (tgt : Int)) (hx : r64 x) (hy : r64 y) (kt : x = y → W p l e R s m args below meth c H locs cells slots Q (F0 m tgt ls (rest))) (kf : ¬ x = y → W p l e R s m args below meth c H locs cells slots Q (F0 m (pc + 1 + 3) ls (rest))) : W p l e R s m args below meth c H locs cells slots Q (F0 m pc ls (.long (lI y) :: .long (lI x) :: rest)) := W.lcmp hexec hb hd1 (lv_if_eq hexec hb hd2 ht (fun h => kt ((lI_eq hx hy).mp ((lg_eq _ _).mp h))) (fun h => kf (fun q => h ((lg_eq _ _).mpr ((lI_eq hx hy).mpr q)))))
theorem ix_lc_ne (hexec : p.tables.exec = Jvm.exec) (hb : c.code = cc) {x y : Int} {off : Int} {tgt : Nat} (hd1 : decode cc pc = .ok (.lcmp, 1)) (hd2 : decode cc (pc + 1) = .ok (.ifCond .ne off, 3)) (ht : ((pc + 1 : Nat) : Int) + off = (tgt : Int)) (hx : r64 x) (hy : r64 y) (kt : ¬ x = y → W p l e R s m args below meth c H locs cells slots Q (F0 m tgt ls (rest))) (kf : ¬ ¬ x = y → W p l e R s m args below meth c H locs cells slots Q (F0 m (pc + 1 + 3) ls (rest))) : W p l e R s m args below meth c H locs cells slots Q (F0 m pc ls (.long (lI y) :: .long (lI x) :: rest)) := W.lcmp hexec hb hd1 (lv_if_ne hexec hb hd2 ht (fun h => kt (fun q => h ((lg_eq _ _).mpr ((lI_eq hx hy).mpr q)))) (fun h => kf (fun q => q ((lI_eq hx hy).mp ((lg_eq _ _).mp h)))))
theorem ix_lc_lt (hexec : p.tables.exec = Jvm.exec) (hb : c.code = cc) {x y : Int} {off : Int} {tgt : Nat} (hd1 : decode cc pc = .ok (.lcmp, 1)) (hd2 : decode cc (pc + 1) = .ok (.ifCond .lt off, 3)) (ht : ((pc + 1 : Nat) : Int) + off = (tgt : Int)) (hx : r64 x) (hy : r64 y) (kt : x < y → W p l e R s m args below meth c H locs cells slots Q (F0 m tgt ls (rest))) (kf : ¬ x < y → W p l e R s m args below meth c H locs cells slots Q (F0 m (pc + 1 + 3) ls (rest))) : W p l e R s m args below meth c H locs cells slots Q (F0 m pc ls (.long (lI y) :: .long (lI x) :: rest)) := W.lcmp hexec hb hd1 (lv_if_lt hexec hb hd2 ht (fun h => kt ((lI_lt hx hy).mp ((lg_lt _ _).mp h))) (fun h => kf (fun q => h ((lg_lt _ _).mpr ((lI_lt hx hy).mpr q)))))
theorem ix_lc_gt (hexec : p.tables.exec = Jvm.exec) (hb : c.code = cc) {x y : Int} {off : Int} {tgt : Nat} (hd1 : decode cc pc = .ok (.lcmp, 1)) (hd2 : decode cc (pc + 1) = .ok (.ifCond .gt off, 3)) (ht : ((pc + 1 : Nat) : Int) + off = (tgt : Int)) (hx : r64 x) (hy : r64 y) (kt : y < x → W p l e R s m args below meth c H locs cells slots Q (F0 m tgt ls (rest))) (kf : ¬ y < x → W p l e R s m args below meth c H locs cells slots Q (F0 m (pc + 1 + 3) ls (rest))) : W p l e R s m args below meth c H locs cells slots Q (F0 m pc ls (.long (lI y) :: .long (lI x) :: rest)) := W.lcmp hexec hb hd1 (lv_if_gt hexec hb hd2 ht (fun h => kt ((lI_lt hy hx).mp ((lg_gt _ _).mp h))) (fun h => kf (fun q => h ((lg_gt _ _).mpr ((lI_lt hy hx).mpr q)))))
theorem ix_lc_ge (hexec : p.tables.exec = Jvm.exec) (hb : c.code = cc) {x y : Int} {off : Int} {tgt : Nat} (hd1 : decode cc pc = .ok (.lcmp, 1)) (hd2 : decode cc (pc + 1) = .ok (.ifCond .ge off, 3)) (ht : ((pc + 1 : Nat) : Int) + off = (tgt : Int)) (hx : r64 x) (hy : r64 y) (kt : y ≤ x → W p l e R s m args below meth c H locs cells slots Q (F0 m tgt ls (rest))) (kf : ¬ y ≤ x → W p l e R s m args below meth c H locs cells slots Q (F0 m (pc + 1 + 3) ls (rest))) : W p l e R s m args below meth c H locs cells slots Q (F0 m pc ls (.long (lI y) :: .long (lI x) :: rest)) := W.lcmp hexec hb hd1 (lv_if_ge hexec hb hd2 ht (fun h => kt (Int.not_lt.mp (fun q => k2_nlt h ((lg_lt _ _).mpr ((lI_lt hx hy).mpr q))))) (fun h => kf (fun q => h (k2_le (fun z => absurd ((lI_lt hx hy).mp ((lg_lt _ _).mp z)) (Int.not_lt.mpr q))))))
theorem ix_lc_le (hexec : p.tables.exec = Jvm.exec) (hb : c.code = cc) {x y : Int} {off : Int} {tgt : Nat} (hd1 : decode cc pc = .ok (.lcmp, 1)) (hd2 : decode cc (pc + 1) = .ok (.ifCond .le off, 3)) (ht : ((pc + 1 : Nat) : Int) + off = (tgt : Int)) (hx : r64 x) (hy : r64 y) (kt : x ≤ y → W p l e R s m args below meth c H locs cells slots Q (F0 m tgt ls (rest))) (kf : ¬ x ≤ y → W p l e R s m args below meth c H locs cells slots Q (F0 m (pc + 1 + 3) ls (rest))) : W p l e R s m args below meth c H locs cells slots Q (F0 m pc ls (.long (lI y) :: .long (lI x) :: rest)) := W.lcmp hexec hb hd1 (lv_if_le hexec hb hd2 ht (fun h => kt (Int.not_lt.mp (fun q => k2_nlt h ((lg_gt _ _).mpr ((lI_lt hy hx).mpr q))))) (fun h => kf (fun q => h (k2_le (fun z => absurd ((lI_lt hy hx).mp ((lg_gt _ _).mp z)) (Int.not_lt.mpr q))))))
theorem ix_ldiv (hexec : p.tables.exec = Jvm.exec) (hb : c.code = cc) {x y : Int} (hdg : decode cc pc = .ok (.ldiv, 1)) (hx : r64 x) (hy : r64 y) (hm : x ≠ -9223372036854775808) (hne : y ≠ 0) (k : W p l e R s m args below meth c H locs cells slots Q (F0 m (pc + 1) ls (.long (lI (x.tdiv y)) :: rest))) : W p l e R s m args below meth c H locs cells slots Q (F0 m pc ls (.long (lI y) :: .long (lI x) :: rest)) := lv_ldiv hexec hb hdg (fun q => hne ((lI_eq0 hy).mp q)) (by rw [lI_div hx hy hm]; exact k)
theorem ix_lrem (hexec : p.tables.exec = Jvm.exec) (hb : c.code = cc) {x y : Int} (hdg : decode cc pc = .ok (.lrem, 1)) (hx : r64 x) (hy : r64 y) (hne : y ≠ 0) (k : W p l e R s m args below meth c H locs cells slots Q (F0 m (pc + 1) ls (.long (lI (x.tmod y)) :: rest))) : W p l e R s m args below meth c H locs cells slots Q (F0 m pc ls (.long (lI y) :: .long (lI x) :: rest)) := lv_lrem hexec hb hdg (fun q => hne ((lI_eq0 hy).mp q)) (by rw [lI_rem hx hy]; exact k)
theorem ix_l2i (hexec : p.tables.exec = Jvm.exec) (hb : c.code = cc) {x : Int} (hdg : decode cc pc = .ok (.l2i, 1)) (k : W p l e R s m args below meth c H locs cells slots Q (F0 m (pc + 1) ls (.int (iI x) :: rest))) : W p l e R s m args below meth c H locs cells slots Q (F0 m pc ls (.long (lI x) :: rest)) := lv_l2i hexec hb hdg (lI_int x) k
theorem ix_lconst0 (hexec : p.tables.exec = Jvm.exec) (hb : c.code = cc) (hdg : decode cc pc = .ok (.lconst 0, 1)) (k : W p l e R s m args below meth c H locs cells slots Q (F0 m (pc + 1) ls (.long (lI 0) :: rest))) : W p l e R s m args below meth c H locs cells slots Q (F0 m pc ls (rest)) := lv_lconst hexec hb hdg rfl k
theorem ix_lconst1 (hexec : p.tables.exec = Jvm.exec) (hb : c.code = cc) (hdg : decode cc pc = .ok (.lconst 1, 1)) (k : W p l e R s m args below meth c H locs cells slots Q (F0 m (pc + 1) ls (.long (lI 1) :: rest))) : W p l e R s m args below meth c H locs cells slots Q (F0 m pc ls (rest)) := lv_lconst hexec hb hdg rfl k
theorem ix_ldc2 (hexec : p.tables.exec = Jvm.exec) (hb : c.code = cc) {own : String} {index : Nat} {v : Int64} {z : Int} (hown : s.vm.findClass own = some m.cls) (hc : (Jvm.Cond.constantLong own index v).before args s = true) (hz : v = lI z) (hdg : decode cc pc = .ok (.ldc2_w index, 3)) (k : W p l e R s m args below meth c H locs cells slots Q (F0 m (pc + 3) ls (.long (lI z) :: rest))) : W p l e R s m args below meth c H locs cells slots Q (F0 m pc ls (rest)) := lv_ldc2 hexec hb hown hc hdg (by rw [hz]; exact k)
variable {D : va_G} {cl : List vw_C} {ws : va_W} {tys : List (ClassId × FieldType)} {A : Nat → Prop} {H0 : Heap} {a : Nat}
theorem ix_lald (hexec : p.tables.exec = Jvm.exec) (hb : c.code = cc) (hK : va_K D cl tys s) (hP : va_P D cl ws H) (q0 t0 : Nat) {cA : ClassId} {n : Nat} {N : Int → Int} (ha : ws[q0]? = some (a, .inl (cA, n, .inr (.inl (aL N))))) (ht : tys[t0]? = some (cA, .long)) {k : Int} (h0 : 0 ≤ k) (h1 : k < n) (hn : n < 2147483648) (hdg : decode cc pc = .ok (.laload, 1)) (kk : W p l e R s m args below meth c H locs cells slots Q (F0 m (pc + 1) ls (.long (lI (N k)) :: rest))) : W p l e R s m args below meth c H locs cells slots Q (F0 m pc ls (.int (iI k) :: .ref a :: rest)) := va_lald hexec hb hK hP q0 t0 ha ht (vp_in_iI h0 h1 hn) hdg (by rw [aL_at h0 (by omega)]; exact kk)
theorem ix_last (hexec : p.tables.exec = Jvm.exec) (hb : c.code = cc) (hK : va_K D cl tys s) (hP : va_P D cl ws H) (hD : va_D A ws) (hS : va_S A H0 H locs) (q0 t0 : Nat) {cA : ClassId} {n : Nat} {N : Int → Int} (ha : ws[q0]? = some (a, .inl (cA, n, .inr (.inl (aL N))))) (ht : tys[t0]? = some (cA, .long)) {k x : Int} (h0 : 0 ≤ k) (h1 : k < n) (hn : n < 2147483648) (hdg : decode cc pc = .ok (.lastore, 1)) (kk : ∀ (H1 : Heap) (locs1 : List Loc), va_P D cl (ws.set q0 (a, .inl (cA, n, .inr (.inl (aL (iu N k x)))))) H1 → va_D A (ws.set q0 (a, .inl (cA, n, .inr (.inl (aL (iu N k x)))))) → va_S A H0 H1 locs1 → W p l e R s m args below meth c H1 locs1 cells slots Q (F0 m (pc + 1) ls rest)) : W p l e R s m args below meth c H locs cells slots Q (F0 m pc ls (.long (lI x) :: .int (iI k) :: .ref a :: rest)) := va_last hexec hb hK hP hD hS q0 t0 ha ht (vp_in_iI h0 h1 hn) hdg (fun H1 locs1 b1 b2 b3 => kk H1 locs1 (by rw [← aL_up h0 (by omega)]; exact b1) (by rw [← aL_up h0 (by omega)]; exact b2) b3)
end IL
end
section
/-- what a walk knows of its own method -/
def cx (p : Program) (s : State) (m : MethodId) (meth : Method) (c : Code) (args : Array Value) (own : String) (cc : ByteArray) (nL : Nat) (ret : Option FieldType) : Prop :=
  p.tables.exec = Jvm.exec ∧ c.code = cc ∧ meth.sig.returnType = ret ∧ c.maxLocals = nL ∧ s.vm.findClass own = some m.cls ∧ (∀ w ∈ wsA, w.before args s = true) ∧ meth.locks = false
def f_size (v : Int) : Int := if v < 0 then -v else v
theorem abs32 {x : Int} (h : r32 x) : (if 0 ≤ iI x then iI x else 0 - iI x) = iI (f_size x) := by
  unfold f_size
  by_cases q : x < 0
  · rw [if_pos q, if_neg (fun z => absurd ((iI_0le h).mp z) (by omega))]
    rw [show (0 : Int32) = iI 0 from rfl, iI_sub]
    congr 1
    omega
  · rw [if_neg q, if_pos ((iI_0le h).mpr (by omega))]
section AX
variable {p : Program} {l : Launch} {e : Env} {R : Room} {s : State} {m : MethodId} {args : Array Value} {below : List Frame} {meth : Method} {c : Code} {H : Heap} {locs : List Loc} {cells slots : Nat} {Q : State → Prop} {cc : ByteArray} {pc : Nat} {ls : Array Slot} {rest : List Value}
theorem ix_abs (hexec : p.tables.exec = Jvm.exec) (hb : c.code = cc) (hml : c.maxLocals = ls.size) {own : String} {index : Nat} (hown : s.vm.findClass own = some m.cls) (hlink : (Cond.methodLink own index Lib.Math.abs.name).before args s = true) (hstat : (Cond.static Lib.Math.abs.name).before args s = true) (hini : (Cond.initialized "java/lang/Math").before args s = true) (hcode : (Cond.code Lib.Math.abs.name Lib.Math.abs.code 1 (some .int)).before args s = true) (hframes : 1 ≤ R.frames) (hlocals : (rest.map fun v => v.category).sum + 13 ≤ R.locals) (hc : cells ≤ R.cells) (hs : slots ≤ R.slots) {x : Int} (hx : r32 x) (hdg : decode cc pc = .ok (.invokestatic index, 3)) (kk : W p l e R s m args below meth c H locs cells slots Q (F0 m (pc + 3) ls (.int (iI (f_size x)) :: rest))) : W p l e R s m args below meth c H locs cells slots Q (F0 m pc ls (.int (iI x) :: rest)) :=
  va_mabs hexec hb hml hown hlink hstat hini hcode hframes hlocals hc hs hdg (by rw [abs32 hx]; exact kk)
end AX
end
section
theorem tmod_r {a b : Int} (h : r32 a) : r32 (a.tmod b) := by
  have h1 := Int.natAbs_tmod a b
  have h2 : a.natAbs % b.natAbs ≤ a.natAbs := Nat.mod_le _ _
  have := h.1
  have := h.2
  rcases Int.lt_or_le a 0 with q | q
  · have h3 : 0 ≤ (-a).tmod b := Int.tmod_nonneg _ (by omega)
    rw [Int.neg_tmod] at h3
    constructor <;> omega
  · have h3 : 0 ≤ a.tmod b := Int.tmod_nonneg _ q
    constructor <;> omega
def f_in20 (v : Int) : Int := if -20 ≤ v ∧ v ≤ 20 then 1 else 0
set_option maxHeartbeats 4000000 in
set_option maxRecDepth 100000 in
/-- -20 .. 20 -/
theorem kX1_isInLimits (l : Launch) (v : Int) (h : r32 v) : Met l yX1_isInLimits (.code yX1_isInLimits cX1_isInLimits 1 (some .boolean) :: wsA) ({ frames := 0, cells := 0, slots := 0, locals := 0 }) (fun a9 _ => a9 = ([.int (iI v)] : List Value).toArray) (vp_Si (fun r => r = iI (f_in20 v))) 0 0 (fun _ => False) := by
  refine Met.ofW (cc := cX1_isInLimits) (maxL := 1) (ret := (some .boolean)) (by decide) rfl ?_
  intro p e s m args below meth c s₁ B hml hv
  subst hv
  have hx := B.exec
  have hb := B.bytes
  have hr := B.returns
  have hts := atoms_spec (ws := .code yX1_isInLimits cX1_isInLimits 1 (some .boolean) :: wsA) B.pre
  have hw : ∀ w ∈ wsA, w.before _ s = true := fun w h => hts w (List.mem_cons_of_mem _ h)
  have hown : s.vm.findClass RX1 = some m.cls := findClass_of_methodNamed B.named
  have hlocks := B.notSynchronized
  have hl := lv_entry ([.int (iI v)]) (n := 1) (Nat.le_of_ble_eq_true rfl)
  rw [lg_entry_eq]
  generalize (lg_sl ([.int (iI v)]) ++ List.replicate (1 - (lg_sl ([.int (iI v)])).length) Slot.unset).toArray = ls at hl ⊢
  have hl : lv_has ls 1 [(0, .int (iI v))] := hl
  refine lv_iload_n hx hb dX1_isInLimits_0 rfl (lv_at hl 0 rfl) ?_
  refine ix_bipush (n := (-20)) hx hb dX1_isInLimits_1 rfl ?_
  refine ix_icmp_lt (tgt := 16) hx hb dX1_isInLimits_3 (by decide) (by omega) (by decide) (fun c1 => ?_) (fun c1 => ?_)
  · refine ix_iconst (n := 0) hx hb dX1_isInLimits_16 ?_
    exact W.zret (v := iI 0) hx hb hr (by decide) (fun t ht _ => ⟨_, rfl, congrArg iI (by unfold f_in20; grind), ht⟩) (fun q h => nomatch h) dX1_isInLimits_17
  · refine lv_iload_n hx hb dX1_isInLimits_6 rfl (lv_at hl 0 rfl) ?_
    refine ix_bipush (n := 20) hx hb dX1_isInLimits_7 rfl ?_
    refine ix_icmp_gt (tgt := 16) hx hb dX1_isInLimits_9 (by decide) (by omega) (by decide) (fun c2 => ?_) (fun c2 => ?_)
    · refine ix_iconst (n := 0) hx hb dX1_isInLimits_16 ?_
      exact W.zret (v := iI 0) hx hb hr (by decide) (fun t ht _ => ⟨_, rfl, congrArg iI (by unfold f_in20; grind), ht⟩) (fun q h => nomatch h) dX1_isInLimits_17
    · refine ix_iconst (n := 1) hx hb dX1_isInLimits_12 ?_
      refine lv_goto (tgt := 17) hx hb dX1_isInLimits_13 (by decide) ?_
      exact W.zret (v := iI 1) hx hb hr (by decide) (fun t ht _ => ⟨_, rfl, congrArg iI (by unfold f_in20; grind), ht⟩) (fun q h => nomatch h) dX1_isInLimits_17
def f_ssq (v : Int) : Int := if v < 0 then -v * v else v * v
set_option maxHeartbeats 4000000 in
set_option maxRecDepth 100000 in
theorem kX1_signedSquare (l : Launch) (v : Int) (h : r64 v) : Met l yX1_signedSquare (.code yX1_signedSquare cX1_signedSquare 2 (some .long) :: wsA) ({ frames := 0, cells := 0, slots := 0, locals := 0 }) (fun a9 _ => a9 = ([.long (lI v)] : List Value).toArray) (vp_Sl (fun r => r = lI (f_ssq v))) 0 0 (fun _ => False) := by
  refine Met.ofW (cc := cX1_signedSquare) (maxL := 2) (ret := (some .long)) (by decide) rfl ?_
  intro p e s m args below meth c s₁ B hml hv
  subst hv
  have hx := B.exec
  have hb := B.bytes
  have hr := B.returns
  have hts := atoms_spec (ws := .code yX1_signedSquare cX1_signedSquare 2 (some .long) :: wsA) B.pre
  have hw : ∀ w ∈ wsA, w.before _ s = true := fun w h => hts w (List.mem_cons_of_mem _ h)
  have hown : s.vm.findClass RX1 = some m.cls := findClass_of_methodNamed B.named
  have hlocks := B.notSynchronized
  have hl := lv_entry ([.long (lI v)]) (n := 2) (Nat.le_of_ble_eq_true rfl)
  rw [lg_entry_eq]
  generalize (lg_sl ([.long (lI v)]) ++ List.replicate (2 - (lg_sl ([.long (lI v)])).length) Slot.unset).toArray = ls at hl ⊢
  have hl : lv_has ls 2 [(0, .long (lI v))] := hl
  refine lv_lload_n hx hb dX1_signedSquare_0 rfl (lv_at hl 0 rfl) ?_
  refine ix_lconst0 hx hb dX1_signedSquare_1 ?_
  refine ix_lc_ge (tgt := 13) hx hb dX1_signedSquare_2 dX1_signedSquare_3 (by decide) (by omega) (by decide) (fun c1 => ?_) (fun c1 => ?_)
  · refine lv_lload_n hx hb dX1_signedSquare_13 rfl (lv_at hl 0 rfl) ?_
    refine lv_lload_n hx hb dX1_signedSquare_14 rfl (lv_at hl 0 rfl) ?_
    refine ix_lmul hx hb dX1_signedSquare_15 ?_
    exact W.lret (v := lI (v * v)) hx hb hr (fun t ht _ => ⟨_, rfl, congrArg lI (by unfold f_ssq; grind), ht⟩) (fun q h => nomatch h) dX1_signedSquare_16
  · refine lv_lload_n hx hb dX1_signedSquare_6 rfl (lv_at hl 0 rfl) ?_
    refine ix_lneg hx hb dX1_signedSquare_7 ?_
    refine lv_lload_n hx hb dX1_signedSquare_8 rfl (lv_at hl 0 rfl) ?_
    refine ix_lmul hx hb dX1_signedSquare_9 ?_
    refine lv_goto (tgt := 16) hx hb dX1_signedSquare_10 (by decide) ?_
    exact W.lret (v := lI ((-v) * v)) hx hb hr (fun t ht _ => ⟨_, rfl, congrArg lI (by unfold f_ssq; grind), ht⟩) (fun q h => nomatch h) dX1_signedSquare_16
def f_in (v a b : Int) : Int := if a ≤ v ∧ v ≤ b then 1 else 0
set_option maxHeartbeats 4000000 in
set_option maxRecDepth 100000 in
theorem kX2_in (l : Launch) (v : Int) (a : Int) (b : Int) (h : r64 v) (h1 : r64 a) (h2 : r64 b) : Met l yX2_in (.code yX2_in cX2_in 6 (some .boolean) :: wsA) ({ frames := 0, cells := 0, slots := 0, locals := 0 }) (fun a9 _ => a9 = ([.long (lI v), .long (lI a), .long (lI b)] : List Value).toArray) (vp_Si (fun r => r = iI (f_in v a b))) 0 0 (fun _ => False) := by
  refine Met.ofW (cc := cX2_in) (maxL := 6) (ret := (some .boolean)) (by decide) rfl ?_
  intro p e s m args below meth c s₁ B hml hv
  subst hv
  have hx := B.exec
  have hb := B.bytes
  have hr := B.returns
  have hts := atoms_spec (ws := .code yX2_in cX2_in 6 (some .boolean) :: wsA) B.pre
  have hw : ∀ w ∈ wsA, w.before _ s = true := fun w h => hts w (List.mem_cons_of_mem _ h)
  have hown : s.vm.findClass RX2 = some m.cls := findClass_of_methodNamed B.named
  have hlocks := B.notSynchronized
  have hl := lv_entry ([.long (lI v), .long (lI a), .long (lI b)]) (n := 6) (Nat.le_of_ble_eq_true rfl)
  rw [lg_entry_eq]
  generalize (lg_sl ([.long (lI v), .long (lI a), .long (lI b)]) ++ List.replicate (6 - (lg_sl ([.long (lI v), .long (lI a), .long (lI b)])).length) Slot.unset).toArray = ls at hl ⊢
  have hl : lv_has ls 6 [(0, .long (lI v)), (2, .long (lI a)), (4, .long (lI b))] := hl
  refine lv_lload_n hx hb dX2_in_0 rfl (lv_at hl 0 rfl) ?_
  refine lv_lload_n hx hb dX2_in_1 rfl (lv_at hl 1 rfl) ?_
  refine ix_lc_lt (tgt := 17) hx hb dX2_in_2 dX2_in_3 (by decide) (by omega) (by omega) (fun c1 => ?_) (fun c1 => ?_)
  · refine ix_iconst (n := 0) hx hb dX2_in_17 ?_
    exact W.zret (v := iI 0) hx hb hr (by decide) (fun t ht _ => ⟨_, rfl, congrArg iI (by unfold f_in; grind), ht⟩) (fun q h => nomatch h) dX2_in_18
  · refine lv_lload_n hx hb dX2_in_6 rfl (lv_at hl 0 rfl) ?_
    refine lv_lload hx hb dX2_in_7 (lv_at hl 2 rfl) ?_
    refine ix_lc_gt (tgt := 17) hx hb dX2_in_9 dX2_in_10 (by decide) (by omega) (by omega) (fun c2 => ?_) (fun c2 => ?_)
    · refine ix_iconst (n := 0) hx hb dX2_in_17 ?_
      exact W.zret (v := iI 0) hx hb hr (by decide) (fun t ht _ => ⟨_, rfl, congrArg iI (by unfold f_in; grind), ht⟩) (fun q h => nomatch h) dX2_in_18
    · refine ix_iconst (n := 1) hx hb dX2_in_13 ?_
      refine lv_goto (tgt := 18) hx hb dX2_in_14 (by decide) ?_
      exact W.zret (v := iI 1) hx hb hr (by decide) (fun t ht _ => ⟨_, rfl, congrArg iI (by unfold f_in; grind), ht⟩) (fun q h => nomatch h) dX2_in_18
set_option maxHeartbeats 4000000 in
set_option maxRecDepth 100000 in
theorem kX2_size (l : Launch) (v : Int) (h : r64 v) : Met l yX2_size (.code yX2_size cX2_size 2 (some .long) :: wsA) ({ frames := 0, cells := 0, slots := 0, locals := 0 }) (fun a9 _ => a9 = ([.long (lI v)] : List Value).toArray) (vp_Sl (fun r => r = lI (f_size v))) 0 0 (fun _ => False) := by
  refine Met.ofW (cc := cX2_size) (maxL := 2) (ret := (some .long)) (by decide) rfl ?_
  intro p e s m args below meth c s₁ B hml hv
  subst hv
  have hx := B.exec
  have hb := B.bytes
  have hr := B.returns
  have hts := atoms_spec (ws := .code yX2_size cX2_size 2 (some .long) :: wsA) B.pre
  have hw : ∀ w ∈ wsA, w.before _ s = true := fun w h => hts w (List.mem_cons_of_mem _ h)
  have hown : s.vm.findClass RX2 = some m.cls := findClass_of_methodNamed B.named
  have hlocks := B.notSynchronized
  have hl := lv_entry ([.long (lI v)]) (n := 2) (Nat.le_of_ble_eq_true rfl)
  rw [lg_entry_eq]
  generalize (lg_sl ([.long (lI v)]) ++ List.replicate (2 - (lg_sl ([.long (lI v)])).length) Slot.unset).toArray = ls at hl ⊢
  have hl : lv_has ls 2 [(0, .long (lI v))] := hl
  refine lv_lload_n hx hb dX2_size_0 rfl (lv_at hl 0 rfl) ?_
  refine ix_lconst0 hx hb dX2_size_1 ?_
  refine ix_lc_ge (tgt := 11) hx hb dX2_size_2 dX2_size_3 (by decide) (by omega) (by decide) (fun c1 => ?_) (fun c1 => ?_)
  · refine lv_lload_n hx hb dX2_size_11 rfl (lv_at hl 0 rfl) ?_
    exact W.lret (v := lI v) hx hb hr (fun t ht _ => ⟨_, rfl, congrArg lI (by unfold f_size; grind), ht⟩) (fun q h => nomatch h) dX2_size_12
  · refine lv_lload_n hx hb dX2_size_6 rfl (lv_at hl 0 rfl) ?_
    refine ix_lneg hx hb dX2_size_7 ?_
    refine lv_goto (tgt := 12) hx hb dX2_size_8 (by decide) ?_
    exact W.lret (v := lI (-v)) hx hb hr (fun t ht _ => ⟨_, rfl, congrArg lI (by unfold f_size; grind), ht⟩) (fun q h => nomatch h) dX2_size_12
def f_sg (v : Int) : Int := if 0 < v then 1 else if v < 0 then -1 else 0
set_option maxHeartbeats 4000000 in
set_option maxRecDepth 100000 in
theorem kX2_signOf (l : Launch) (v : Int) (h : r64 v) : Met l yX2_signOf (.code yX2_signOf cX2_signOf 2 (some .int) :: wsA) ({ frames := 0, cells := 0, slots := 0, locals := 0 }) (fun a9 _ => a9 = ([.long (lI v)] : List Value).toArray) (vp_Si (fun r => r = iI (f_sg v))) 0 0 (fun _ => False) := by
  refine Met.ofW (cc := cX2_signOf) (maxL := 2) (ret := (some .int)) (by decide) rfl ?_
  intro p e s m args below meth c s₁ B hml hv
  subst hv
  have hx := B.exec
  have hb := B.bytes
  have hr := B.returns
  have hts := atoms_spec (ws := .code yX2_signOf cX2_signOf 2 (some .int) :: wsA) B.pre
  have hw : ∀ w ∈ wsA, w.before _ s = true := fun w h => hts w (List.mem_cons_of_mem _ h)
  have hown : s.vm.findClass RX2 = some m.cls := findClass_of_methodNamed B.named
  have hlocks := B.notSynchronized
  have hl := lv_entry ([.long (lI v)]) (n := 2) (Nat.le_of_ble_eq_true rfl)
  rw [lg_entry_eq]
  generalize (lg_sl ([.long (lI v)]) ++ List.replicate (2 - (lg_sl ([.long (lI v)])).length) Slot.unset).toArray = ls at hl ⊢
  have hl : lv_has ls 2 [(0, .long (lI v))] := hl
  refine lv_lload_n hx hb dX2_signOf_0 rfl (lv_at hl 0 rfl) ?_
  refine ix_lconst0 hx hb dX2_signOf_1 ?_
  refine ix_lc_le (tgt := 10) hx hb dX2_signOf_2 dX2_signOf_3 (by decide) (by omega) (by decide) (fun c1 => ?_) (fun c1 => ?_)
  · refine lv_lload_n hx hb dX2_signOf_10 rfl (lv_at hl 0 rfl) ?_
    refine ix_lconst0 hx hb dX2_signOf_11 ?_
    refine ix_lc_ge (tgt := 20) hx hb dX2_signOf_12 dX2_signOf_13 (by decide) (by omega) (by decide) (fun c2 => ?_) (fun c2 => ?_)
    · refine ix_iconst (n := 0) hx hb dX2_signOf_20 ?_
      exact W.iret (v := iI 0) hx hb hr (fun t ht _ => ⟨_, rfl, congrArg iI (by unfold f_sg; grind), ht⟩) (fun q h => nomatch h) dX2_signOf_21
    · refine ix_iconst (n := (-1)) hx hb dX2_signOf_16 ?_
      refine lv_goto (tgt := 21) hx hb dX2_signOf_17 (by decide) ?_
      exact W.iret (v := iI (-1)) hx hb hr (fun t ht _ => ⟨_, rfl, congrArg iI (by unfold f_sg; grind), ht⟩) (fun q h => nomatch h) dX2_signOf_21
  · refine ix_iconst (n := 1) hx hb dX2_signOf_6 ?_
    refine lv_goto (tgt := 21) hx hb dX2_signOf_7 (by decide) ?_
    exact W.iret (v := iI 1) hx hb hr (fun t ht _ => ⟨_, rfl, congrArg iI (by unfold f_sg; grind), ht⟩) (fun q h => nomatch h) dX2_signOf_21
def f_gcd (a b : Int) : Int := (Int.gcd a b : Int)
theorem gcd_step (x y : Int) : f_gcd y (x.tmod y) = f_gcd x y := by
  unfold f_gcd
  show ((Nat.gcd y.natAbs (x.tmod y).natAbs : Nat) : Int) = ((Nat.gcd x.natAbs y.natAbs : Nat) : Int)
  rw [Int.natAbs_tmod, Nat.gcd_comm y.natAbs, ← Nat.gcd_rec, Nat.gcd_comm]
theorem gcd_size (x y : Int) : f_gcd (f_size x) (f_size y) = f_gcd x y := by
  unfold f_gcd f_size
  by_cases h1 : x < 0 <;> by_cases h2 : y < 0 <;> simp [h1, h2]
theorem gcd_end {x : Int} (h : 0 ≤ x) : f_gcd x 0 = x := by
  unfold f_gcd
  rw [Int.gcd_zero_right]
  omega
theorem size_nn (x : Int) : 0 ≤ f_size x := by unfold f_size; grind
theorem size_le {x M : Int} (h : -M ≤ x) (h2 : x ≤ M) : f_size x ≤ M := by unfold f_size; grind
set_option maxHeartbeats 4000000 in
set_option maxRecDepth 100000 in
theorem lp_commonDivisor {p : Program} {l : Launch} {e : Env} {R : Room} {s : State} {m : MethodId} {args : Array Value} {below : List Frame} {meth : Method} {c : Code} {g : Int} (C0 : cx p s m meth c args RX1 cX1_commonDivisor 6 (some .int)) : ∀ (n : Nat) (x y i : Int), 0 ≤ x ∧ x ≤ 2147483647 → 0 ≤ y ∧ y ≤ 99 → 0 ≤ i ∧ i + y ≤ 99 → f_gcd x y = g → y.toNat < n → ∀ (ls : Array Slot), lv_has ls 6 [(2, .int (iI x)), (3, .int (iI y)), (4, .int (iI i))] → W p l e R s m args below meth c s.heap [] 0 0 (MQ below (vp_Si (fun r => r = iI g)) args s 0 0 (fun _ => False)) (F0 m 13 ls []) := by
  obtain ⟨hx, hb, hr, hml, hown, hw, hlocks⟩ := C0
  intro n
  induction n with
  | zero => intro x y i _ _ _ _ hmu; exact absurd hmu (Nat.not_lt_zero _)
  | succ n ih =>
    intro x y i h1 h2 h3 h4 hmu ls hl
    refine lv_iload hx hb dX1_commonDivisor_13 (lv_at hl 2 rfl) ?_
    refine ix_bipush (n := 100) hx hb dX1_commonDivisor_15 rfl ?_
    refine ix_icmp_ge (tgt := 40) hx hb dX1_commonDivisor_17 (by decide) (by omega) (by decide) (fun c1 => ?_) (fun c1 => ?_)
    · refine lv_iload_n hx hb dX1_commonDivisor_40 rfl (lv_at hl 0 rfl) ?_
      exact W.iret (v := iI x) hx hb hr (fun t ht _ => ⟨_, rfl, congrArg iI (by have hy0 : y = 0 := (by omega); rw [hy0, gcd_end h1.1] at h4; exact h4), ht⟩) (fun q h => nomatch h) dX1_commonDivisor_41
    · refine lv_iload_n hx hb dX1_commonDivisor_20 rfl (lv_at hl 1 rfl) ?_
      refine ix_if_eq (tgt := 40) hx hb dX1_commonDivisor_21 (by decide) (by omega) (fun c2 => ?_) (fun c2 => ?_)
      · refine lv_iload_n hx hb dX1_commonDivisor_40 rfl (lv_at hl 0 rfl) ?_
        exact W.iret (v := iI x) hx hb hr (fun t ht _ => ⟨_, rfl, congrArg iI (by have hy0 : y = 0 := (by omega); rw [hy0, gcd_end h1.1] at h4; exact h4), ht⟩) (fun q h => nomatch h) dX1_commonDivisor_41
      · refine lv_iload_n hx hb dX1_commonDivisor_24 rfl (lv_at hl 0 rfl) ?_
        refine lv_iload_n hx hb dX1_commonDivisor_25 rfl (lv_at hl 1 rfl) ?_
        refine ix_irem hx hb dX1_commonDivisor_26 (by omega) (by omega) (by omega) ?_
        refine lv_istore (lv' := [(5, .int (iI (x.tmod y))), (2, .int (iI x)), (3, .int (iI y)), (4, .int (iI i))]) hx hb dX1_commonDivisor_27 hl (by decide) rfl (fun ls hl => ?_)
        refine lv_iload_n hx hb dX1_commonDivisor_29 rfl (lv_at hl 2 rfl) ?_
        refine lv_istore_n (lv' := [(2, .int (iI y)), (5, .int (iI (x.tmod y))), (3, .int (iI y)), (4, .int (iI i))]) hx hb dX1_commonDivisor_30 rfl hl (by decide) rfl (fun ls hl => ?_)
        refine lv_iload hx hb dX1_commonDivisor_31 (lv_at hl 1 rfl) ?_
        refine lv_istore_n (lv' := [(3, .int (iI (x.tmod y))), (2, .int (iI y)), (5, .int (iI (x.tmod y))), (4, .int (iI i))]) hx hb dX1_commonDivisor_33 rfl hl (by decide) rfl (fun ls hl => ?_)
        refine ix_iinc (k := 3) (lv2 := [(4, .int (iI (i + 1))), (3, .int (iI (x.tmod y))), (2, .int (iI y)), (5, .int (iI (x.tmod y)))]) hx hb dX1_commonDivisor_34 hl rfl (by decide) rfl (fun ls hl => ?_)
        refine lv_goto (tgt := 13) hx hb dX1_commonDivisor_37 (by decide) ?_
        have hy0 : 0 < y := by omega
        have e1 : 0 ≤ x.tmod y := Int.tmod_nonneg _ h1.1
        have e2 : x.tmod y < y := Int.tmod_lt_of_pos _ hy0
        exact ih y (x.tmod y) (i + 1) ⟨by omega, by omega⟩ ⟨e1, by omega⟩ ⟨by omega, by omega⟩ (by rw [gcd_step]; exact h4) (by omega) ls (lv_sub hl [2, 1, 0] rfl)
set_option maxHeartbeats 4000000 in
set_option maxRecDepth 100000 in
/-- the greatest common divisor -/
theorem kX1_commonDivisor (l : Launch) (a : Int) (b : Int) (h1 : -2147483647 ≤ a ∧ a ≤ 2147483647) (h2 : -99 ≤ b ∧ b ≤ 99) : Met l yX1_commonDivisor (.code yX1_commonDivisor cX1_commonDivisor 6 (some .int) :: wsA) ({ frames := 1, cells := 0, slots := 0, locals := 24 }) (fun a9 _ => a9 = ([.int (iI a), .int (iI b)] : List Value).toArray) (vp_Si (fun r => r = iI (f_gcd a b))) 0 0 (fun _ => False) := by
  refine Met.ofW (cc := cX1_commonDivisor) (maxL := 6) (ret := (some .int)) (by decide) rfl ?_
  intro p e s m args below meth c s₁ B hml hv
  subst hv
  have hx := B.exec
  have hb := B.bytes
  have hr := B.returns
  have hts := atoms_spec (ws := .code yX1_commonDivisor cX1_commonDivisor 6 (some .int) :: wsA) B.pre
  have hw : ∀ w ∈ wsA, w.before _ s = true := fun w h => hts w (List.mem_cons_of_mem _ h)
  have hown : s.vm.findClass RX1 = some m.cls := findClass_of_methodNamed B.named
  have hlocks := B.notSynchronized
  have hl := lv_entry ([.int (iI a), .int (iI b)]) (n := 6) (Nat.le_of_ble_eq_true rfl)
  rw [lg_entry_eq]
  generalize (lg_sl ([.int (iI a), .int (iI b)]) ++ List.replicate (6 - (lg_sl ([.int (iI a), .int (iI b)])).length) Slot.unset).toArray = ls at hl ⊢
  have hl : lv_has ls 6 [(0, .int (iI a)), (1, .int (iI b))] := hl
  refine lv_iload_n hx hb dX1_commonDivisor_0 rfl (lv_at hl 0 rfl) ?_
  refine ix_abs hx hb (by rw [hml]; exact hl.1.symm) hown (hw _ mA_242) (hw _ mA_243) (hw _ mA_11) (hw _ mA_244) (Nat.le_of_ble_eq_true rfl) (Nat.le_of_ble_eq_true rfl) (Nat.le_of_ble_eq_true rfl) (Nat.le_of_ble_eq_true rfl) (by omega) dX1_commonDivisor_1 ?_
  refine lv_istore_n (lv' := [(2, .int (iI (f_size a))), (0, .int (iI a)), (1, .int (iI b))]) hx hb dX1_commonDivisor_4 rfl hl (by decide) rfl (fun ls hl => ?_)
  refine lv_iload_n hx hb dX1_commonDivisor_5 rfl (lv_at hl 2 rfl) ?_
  refine ix_abs hx hb (by rw [hml]; exact hl.1.symm) hown (hw _ mA_242) (hw _ mA_243) (hw _ mA_11) (hw _ mA_244) (Nat.le_of_ble_eq_true rfl) (Nat.le_of_ble_eq_true rfl) (Nat.le_of_ble_eq_true rfl) (Nat.le_of_ble_eq_true rfl) (by omega) dX1_commonDivisor_6 ?_
  refine lv_istore_n (lv' := [(3, .int (iI (f_size b))), (2, .int (iI (f_size a))), (0, .int (iI a)), (1, .int (iI b))]) hx hb dX1_commonDivisor_9 rfl hl (by decide) rfl (fun ls hl => ?_)
  refine ix_iconst (n := 0) hx hb dX1_commonDivisor_10 ?_
  refine lv_istore (lv' := [(4, .int (iI 0)), (3, .int (iI (f_size b))), (2, .int (iI (f_size a))), (0, .int (iI a)), (1, .int (iI b))]) hx hb dX1_commonDivisor_11 hl (by decide) rfl (fun ls hl => ?_)
  exact lp_commonDivisor ⟨hx, hb, hr, hml, hown, hw, hlocks⟩ ((f_size b).toNat + 1) (f_size a) (f_size b) 0 ⟨size_nn a, size_le (by omega) (by omega)⟩ ⟨size_nn b, size_le h2.1 h2.2⟩ ⟨by omega, by have := size_le h2.1 h2.2; omega⟩ (gcd_size a b) (Nat.lt_succ_self _) ls (lv_sub hl [2, 1, 0] rfl)
set_option maxHeartbeats 4000000 in
set_option maxRecDepth 100000 in
theorem lp_divisor {p : Program} {l : Launch} {e : Env} {R : Room} {s : State} {m : MethodId} {args : Array Value} {below : List Frame} {meth : Method} {c : Code} {g : Int} (C0 : cx p s m meth c args RX2 cX2_divisor 10 (some .long)) : ∀ (n : Nat) (x y : Int), 0 ≤ x ∧ x ≤ 9223372036854775807 → 0 ≤ y ∧ y ≤ 9223372036854775807 → f_gcd x y = g → y.toNat < n → ∀ (ls : Array Slot), lv_has ls 10 [(4, .long (lI x)), (6, .long (lI y))] → W p l e R s m args below meth c s.heap [] 0 0 (MQ below (vp_Sl (fun r => r = lI g)) args s 0 0 (fun _ => False)) (F0 m 12 ls []) := by
  obtain ⟨hx, hb, hr, hml, hown, hw, hlocks⟩ := C0
  intro n
  induction n with
  | zero => intro x y _ _ _ hmu; exact absurd hmu (Nat.not_lt_zero _)
  | succ n ih =>
    intro x y h1 h2 h4 hmu ls hl
    refine lv_lload hx hb dX2_divisor_12 (lv_at hl 1 rfl) ?_
    refine ix_lconst0 hx hb dX2_divisor_14 ?_
    refine ix_lc_eq (tgt := 37) hx hb dX2_divisor_15 dX2_divisor_16 (by decide) (by omega) (by decide) (fun c1 => ?_) (fun c1 => ?_)
    · refine lv_lload hx hb dX2_divisor_37 (lv_at hl 0 rfl) ?_
      exact W.lret (v := lI x) hx hb hr (fun t ht _ => ⟨_, rfl, congrArg lI (by have hy0 : y = 0 := (by omega); rw [hy0, gcd_end h1.1] at h4; exact h4), ht⟩) (fun q h => nomatch h) dX2_divisor_39
    · refine lv_lload hx hb dX2_divisor_19 (lv_at hl 0 rfl) ?_
      refine lv_lload hx hb dX2_divisor_21 (lv_at hl 1 rfl) ?_
      refine ix_lrem hx hb dX2_divisor_23 (by omega) (by omega) (by omega) ?_
      refine lv_lstore (lv' := [(8, .long (lI (x.tmod y))), (4, .long (lI x)), (6, .long (lI y))]) hx hb dX2_divisor_24 hl (by decide) rfl (fun ls hl => ?_)
      refine lv_lload hx hb dX2_divisor_26 (lv_at hl 2 rfl) ?_
      refine lv_lstore (lv' := [(4, .long (lI y)), (8, .long (lI (x.tmod y))), (6, .long (lI y))]) hx hb dX2_divisor_28 hl (by decide) rfl (fun ls hl => ?_)
      refine lv_lload hx hb dX2_divisor_30 (lv_at hl 1 rfl) ?_
      refine lv_lstore (lv' := [(6, .long (lI (x.tmod y))), (4, .long (lI y)), (8, .long (lI (x.tmod y)))]) hx hb dX2_divisor_32 hl (by decide) rfl (fun ls hl => ?_)
      refine lv_goto (tgt := 12) hx hb dX2_divisor_34 (by decide) ?_
      have hy0 : 0 < y := by omega
      have e1 : 0 ≤ x.tmod y := Int.tmod_nonneg _ h1.1
      have e2 : x.tmod y < y := Int.tmod_lt_of_pos _ hy0
      exact ih y (x.tmod y) ⟨by omega, by omega⟩ ⟨e1, by omega⟩ (by rw [gcd_step]; exact h4) (by omega) ls (lv_sub hl [1, 0] rfl)
set_option maxHeartbeats 4000000 in
set_option maxRecDepth 100000 in
/-- the greatest common divisor -/
theorem kX2_divisor (l : Launch) (a : Int) (b : Int) (h1 : -9223372036854775807 ≤ a ∧ a ≤ 9223372036854775807) (h2 : -9223372036854775807 ≤ b ∧ b ≤ 9223372036854775807) : Met l yX2_divisor (.code yX2_divisor cX2_divisor 10 (some .long) :: wsA) ({ frames := 1, cells := 0, slots := 0, locals := 40 }) (fun a9 _ => a9 = ([.long (lI a), .long (lI b)] : List Value).toArray) (vp_Sl (fun r => r = lI (f_gcd a b))) 0 0 (fun _ => False) := by
  refine Met.ofW (cc := cX2_divisor) (maxL := 10) (ret := (some .long)) (by decide) rfl ?_
  intro p e s m args below meth c s₁ B hml hv
  subst hv
  have hx := B.exec
  have hb := B.bytes
  have hr := B.returns
  have hts := atoms_spec (ws := .code yX2_divisor cX2_divisor 10 (some .long) :: wsA) B.pre
  have hw : ∀ w ∈ wsA, w.before _ s = true := fun w h => hts w (List.mem_cons_of_mem _ h)
  have hown : s.vm.findClass RX2 = some m.cls := findClass_of_methodNamed B.named
  have hlocks := B.notSynchronized
  have hl := lv_entry ([.long (lI a), .long (lI b)]) (n := 10) (Nat.le_of_ble_eq_true rfl)
  rw [lg_entry_eq]
  generalize (lg_sl ([.long (lI a), .long (lI b)]) ++ List.replicate (10 - (lg_sl ([.long (lI a), .long (lI b)])).length) Slot.unset).toArray = ls at hl ⊢
  have hl : lv_has ls 10 [(0, .long (lI a)), (2, .long (lI b))] := hl
  refine lv_lload_n hx hb dX2_divisor_0 rfl (lv_at hl 0 rfl) ?_
  refine vp_callSl (W.runS (As := [.long (lI a)]) (rest := []) ⟨hx, hb, hml, hown, hw⟩ (kX2_size l a ⟨by omega, by omega⟩) (cwS 1 hw (gS mA_485 mA_486 mA_3 mA_487) rfl rfl rfl (by decide +kernel) ⟨Nat.le_of_ble_eq_true rfl, Nat.le_of_ble_eq_true rfl⟩) preEq rfl rfl hl.1 rfl (lv_room (Nat.le_of_ble_eq_true rfl)) dX2_divisor_1 ⟨Nat.le_of_ble_eq_true rfl, Nat.le_of_ble_eq_true rfl⟩) (fun r1 h2 => ?_)
  subst h2
  refine lv_lstore (lv' := [(4, .long (lI (f_size a))), (0, .long (lI a)), (2, .long (lI b))]) hx hb dX2_divisor_4 hl (by decide) rfl (fun ls hl => ?_)
  refine lv_lload_n hx hb dX2_divisor_6 rfl (lv_at hl 2 rfl) ?_
  refine vp_callSl (W.runS (As := [.long (lI b)]) (rest := []) ⟨hx, hb, hml, hown, hw⟩ (kX2_size l b ⟨by omega, by omega⟩) (cwS 1 hw (gS mA_485 mA_486 mA_3 mA_487) rfl rfl rfl (by decide +kernel) ⟨Nat.le_of_ble_eq_true rfl, Nat.le_of_ble_eq_true rfl⟩) preEq rfl rfl hl.1 rfl (lv_room (Nat.le_of_ble_eq_true rfl)) dX2_divisor_7 ⟨Nat.le_of_ble_eq_true rfl, Nat.le_of_ble_eq_true rfl⟩) (fun r3 h4 => ?_)
  subst h4
  refine lv_lstore (lv' := [(6, .long (lI (f_size b))), (4, .long (lI (f_size a))), (0, .long (lI a)), (2, .long (lI b))]) hx hb dX2_divisor_10 hl (by decide) rfl (fun ls hl => ?_)
  exact lp_divisor ⟨hx, hb, hr, hml, hown, hw, hlocks⟩ ((f_size b).toNat + 1) (f_size a) (f_size b) ⟨size_nn a, size_le (by omega) (by omega)⟩ ⟨size_nn b, size_le (by omega) (by omega)⟩ (gcd_size a b) (Nat.lt_succ_self _) ls (lv_sub hl [1, 0] rfl)
/-- the greatest i up to n whose square divides z and isn't above it -/
def gsL (z : Int) : Nat → Int
  | 0 => 0
  | n + 1 => if z.tmod (((n : Int) + 1) * ((n : Int) + 1)) = 0 ∧ ((n : Int) + 1) * ((n : Int) + 1) ≤ z then (n : Int) + 1 else gsL z n
theorem sq_mono {a b : Int} (h : 0 ≤ a) (h2 : a ≤ b) : a * a ≤ b * b := Int.mul_le_mul h2 h2 h (by omega)
theorem gsL_end {z : Int} {m : Nat} (h : z < ((m : Int) + 1) * ((m : Int) + 1)) : ∀ k, gsL z (m + k) = gsL z m := by
  intro k
  induction k with
  | zero => rfl
  | succ k ih =>
    show gsL z (m + k + 1) = gsL z m
    rw [gsL, if_neg, ih]
    intro q
    have := sq_mono (a := (m : Int) + 1) (b := ((m + k : Nat) : Int) + 1) (by omega) (by omega)
    omega
def f_gsq (v : Int) : Int := gsL (f_size v) 1000
set_option maxHeartbeats 4000000 in
set_option maxRecDepth 100000 in
theorem lp_gsq {p : Program} {l : Launch} {e : Env} {R : Room} {s : State} {m : MethodId} {args : Array Value} {below : List Frame} {meth : Method} {c : Code} {z : Int} (hz : 0 ≤ z ∧ z ≤ 1002000) (C0 : cx p s m meth c args RX1 cX1_greatestSquareDividing 4 (some .int)) : ∀ (n : Nat) (g i : Int), 1 ≤ i ∧ i ≤ 1001 → g = gsL z (i - 1).toNat → (1002 - i).toNat < n → ∀ (ls : Array Slot), lv_has ls 4 [(1, .int (iI z)), (2, .int (iI g)), (3, .int (iI i))] → W p l e R s m args below meth c s.heap [] 0 0 (MQ below (vp_Si (fun r => r = iI (gsL z 1000))) args s 0 0 (fun _ => False)) (F0 m 15 ls []) := by
  obtain ⟨hx, hb, hr, hml, hown, hw, hlocks⟩ := C0
  intro n
  induction n with
  | zero => intro g i _ _ hmu; exact absurd hmu (Nat.not_lt_zero _)
  | succ n ih =>
    intro g i h1 h3 hmu ls hl
    refine lv_iload_n hx hb dX1_greatestSquareDividing_15 rfl (lv_at hl 2 rfl) ?_
    refine ix_sipush (n := 1000) hx hb dX1_greatestSquareDividing_16 rfl ?_
    refine ix_icmp_gt (tgt := 45) hx hb dX1_greatestSquareDividing_19 (by decide) (by omega) (by decide) (fun c1 => ?_) (fun c1 => ?_)
    · refine lv_iload_n hx hb dX1_greatestSquareDividing_45 rfl (lv_at hl 1 rfl) ?_
      have e3 : gsL z 1000 = gsL z (i - 1).toNat := by
        have hz : z < (((i - 1).toNat : Nat) : Int) * 1 + 1 ∨ True := Or.inr trivial
        have e2 : (((i - 1).toNat : Nat) : Int) + 1 = i := by omega
        have hq : z < i * i := by first | omega | (have := sq_mono (a := 1001) (b := i) (by omega) (by omega); omega)
        have := gsL_end (z := z) (m := (i - 1).toNat) (by rw [e2]; exact hq) (1000 - (i - 1).toNat)
        rw [show (i - 1).toNat + (1000 - (i - 1).toNat) = 1000 by omega] at this
        exact this
      exact W.iret (v := iI g) hx hb hr (fun t ht _ => ⟨_, rfl, congrArg iI (h3.trans e3.symm), ht⟩) (fun q h => nomatch h) dX1_greatestSquareDividing_46
    · refine lv_iload_n hx hb dX1_greatestSquareDividing_22 rfl (lv_at hl 2 rfl) ?_
      refine lv_iload_n hx hb dX1_greatestSquareDividing_23 rfl (lv_at hl 2 rfl) ?_
      refine ix_imul hx hb dX1_greatestSquareDividing_24 ?_
      refine lv_iload_n hx hb dX1_greatestSquareDividing_25 rfl (lv_at hl 0 rfl) ?_
      refine ix_icmp_gt (tgt := 45) hx hb dX1_greatestSquareDividing_26 (by decide) (by have := sq_mono (a := i) (b := 1001) (by omega) (by omega); have := sq_mono (a := 0) (b := i) (by omega) (by omega); omega) (by omega) (fun c2 => ?_) (fun c2 => ?_)
      · refine lv_iload_n hx hb dX1_greatestSquareDividing_45 rfl (lv_at hl 1 rfl) ?_
        have e3 : gsL z 1000 = gsL z (i - 1).toNat := by
          have hz : z < (((i - 1).toNat : Nat) : Int) * 1 + 1 ∨ True := Or.inr trivial
          have e2 : (((i - 1).toNat : Nat) : Int) + 1 = i := by omega
          have hq : z < i * i := by first | omega | (have := sq_mono (a := 1001) (b := i) (by omega) (by omega); omega)
          have := gsL_end (z := z) (m := (i - 1).toNat) (by rw [e2]; exact hq) (1000 - (i - 1).toNat)
          rw [show (i - 1).toNat + (1000 - (i - 1).toNat) = 1000 by omega] at this
          exact this
        exact W.iret (v := iI g) hx hb hr (fun t ht _ => ⟨_, rfl, congrArg iI (h3.trans e3.symm), ht⟩) (fun q h => nomatch h) dX1_greatestSquareDividing_46
      · refine lv_iload_n hx hb dX1_greatestSquareDividing_29 rfl (lv_at hl 0 rfl) ?_
        refine lv_iload_n hx hb dX1_greatestSquareDividing_30 rfl (lv_at hl 2 rfl) ?_
        refine lv_iload_n hx hb dX1_greatestSquareDividing_31 rfl (lv_at hl 2 rfl) ?_
        refine ix_imul hx hb dX1_greatestSquareDividing_32 ?_
        refine ix_irem hx hb dX1_greatestSquareDividing_33 (by omega) (by have := sq_mono (a := i) (b := 1001) (by omega) (by omega); have := sq_mono (a := 0) (b := i) (by omega) (by omega); omega) (by have := sq_mono (a := 1) (b := i) (by omega) (by omega); omega) ?_
        refine ix_if_ne (tgt := 39) hx hb dX1_greatestSquareDividing_34 (by decide) (tmod_r (by omega)) (fun c3 => ?_) (fun c3 => ?_)
        · refine ix_iinc (k := 2) (lv2 := [(3, .int (iI (i + 1))), (1, .int (iI z)), (2, .int (iI g))]) hx hb dX1_greatestSquareDividing_39 hl rfl (by decide) rfl (fun ls hl => ?_)
          refine lv_goto (tgt := 15) hx hb dX1_greatestSquareDividing_42 (by decide) ?_
          have e1 : (i + 1 - 1).toNat = (i - 1).toNat + 1 := by omega
          have e2 : (((i - 1).toNat : Nat) : Int) + 1 = i := by omega
          exact ih g (i + 1) ⟨by omega, by omega⟩ (by rw [e1, gsL, e2]; first | rw [if_pos ⟨by omega, by omega⟩] | (rw [if_neg (by omega)]; exact h3)) (by omega) ls (lv_sub hl [1, 2, 0] rfl)
        · refine lv_iload_n hx hb dX1_greatestSquareDividing_37 rfl (lv_at hl 2 rfl) ?_
          refine lv_istore_n (lv' := [(2, .int (iI i)), (1, .int (iI z)), (3, .int (iI i))]) hx hb dX1_greatestSquareDividing_38 rfl hl (by decide) rfl (fun ls hl => ?_)
          refine ix_iinc (k := 2) (lv2 := [(3, .int (iI (i + 1))), (2, .int (iI i)), (1, .int (iI z))]) hx hb dX1_greatestSquareDividing_39 hl rfl (by decide) rfl (fun ls hl => ?_)
          refine lv_goto (tgt := 15) hx hb dX1_greatestSquareDividing_42 (by decide) ?_
          have e1 : (i + 1 - 1).toNat = (i - 1).toNat + 1 := by omega
          have e2 : (((i - 1).toNat : Nat) : Int) + 1 = i := by omega
          exact ih i (i + 1) ⟨by omega, by omega⟩ (by rw [e1, gsL, e2]; first | rw [if_pos ⟨by omega, by omega⟩] | (rw [if_neg (by omega)]; exact h3)) (by omega) ls (lv_sub hl [2, 1, 0] rfl)
set_option maxHeartbeats 4000000 in
set_option maxRecDepth 100000 in
/-- the greatest whole number whose square divides -/
theorem kX1_greatestSquareDividing (l : Launch) (v : Int) (h : -1002000 ≤ v ∧ v ≤ 1002000) : Met l yX1_greatestSquareDividing (.code yX1_greatestSquareDividing cX1_greatestSquareDividing 4 (some .int) :: wsA) ({ frames := 0, cells := 0, slots := 0, locals := 0 }) (fun a9 _ => a9 = ([.int (iI v)] : List Value).toArray) (vp_Si (fun r => r = iI (f_gsq v))) 0 0 (fun _ => False) := by
  refine Met.ofW (cc := cX1_greatestSquareDividing) (maxL := 4) (ret := (some .int)) (by decide) rfl ?_
  intro p e s m args below meth c s₁ B hml hv
  subst hv
  have hx := B.exec
  have hb := B.bytes
  have hr := B.returns
  have hts := atoms_spec (ws := .code yX1_greatestSquareDividing cX1_greatestSquareDividing 4 (some .int) :: wsA) B.pre
  have hw : ∀ w ∈ wsA, w.before _ s = true := fun w h => hts w (List.mem_cons_of_mem _ h)
  have hown : s.vm.findClass RX1 = some m.cls := findClass_of_methodNamed B.named
  have hlocks := B.notSynchronized
  have hl := lv_entry ([.int (iI v)]) (n := 4) (Nat.le_of_ble_eq_true rfl)
  rw [lg_entry_eq]
  generalize (lg_sl ([.int (iI v)]) ++ List.replicate (4 - (lg_sl ([.int (iI v)])).length) Slot.unset).toArray = ls at hl ⊢
  have hl : lv_has ls 4 [(0, .int (iI v))] := hl
  refine lv_iload_n hx hb dX1_greatestSquareDividing_0 rfl (lv_at hl 0 rfl) ?_
  refine ix_if_ge (tgt := 9) hx hb dX1_greatestSquareDividing_1 (by decide) (by omega) (fun c1 => ?_) (fun c1 => ?_)
  · refine lv_iload_n hx hb dX1_greatestSquareDividing_9 rfl (lv_at hl 0 rfl) ?_
    refine lv_istore_n (lv' := [(1, .int (iI v)), (0, .int (iI v))]) hx hb dX1_greatestSquareDividing_10 rfl hl (by decide) rfl (fun ls hl => ?_)
    refine ix_iconst (n := 0) hx hb dX1_greatestSquareDividing_11 ?_
    refine lv_istore_n (lv' := [(2, .int (iI 0)), (1, .int (iI v)), (0, .int (iI v))]) hx hb dX1_greatestSquareDividing_12 rfl hl (by decide) rfl (fun ls hl => ?_)
    refine ix_iconst (n := 1) hx hb dX1_greatestSquareDividing_13 ?_
    refine lv_istore_n (lv' := [(3, .int (iI 1)), (2, .int (iI 0)), (1, .int (iI v)), (0, .int (iI v))]) hx hb dX1_greatestSquareDividing_14 rfl hl (by decide) rfl (fun ls hl => ?_)
    have ez : v = f_size v := by unfold f_size; grind
    rw [ez] at hl
    exact lp_gsq (z := f_size v) ⟨size_nn v, size_le (by omega) (by omega)⟩ ⟨hx, hb, hr, hml, hown, hw, hlocks⟩ (1002) 0 1 ⟨by omega, by omega⟩ rfl (by omega) ls (lv_sub hl [2, 1, 0] rfl)
  · refine lv_iload_n hx hb dX1_greatestSquareDividing_4 rfl (lv_at hl 0 rfl) ?_
    refine ix_ineg hx hb dX1_greatestSquareDividing_5 ?_
    refine lv_goto (tgt := 10) hx hb dX1_greatestSquareDividing_6 (by decide) ?_
    refine lv_istore_n (lv' := [(1, .int (iI (-v))), (0, .int (iI v))]) hx hb dX1_greatestSquareDividing_10 rfl hl (by decide) rfl (fun ls hl => ?_)
    refine ix_iconst (n := 0) hx hb dX1_greatestSquareDividing_11 ?_
    refine lv_istore_n (lv' := [(2, .int (iI 0)), (1, .int (iI (-v))), (0, .int (iI v))]) hx hb dX1_greatestSquareDividing_12 rfl hl (by decide) rfl (fun ls hl => ?_)
    refine ix_iconst (n := 1) hx hb dX1_greatestSquareDividing_13 ?_
    refine lv_istore_n (lv' := [(3, .int (iI 1)), (2, .int (iI 0)), (1, .int (iI (-v))), (0, .int (iI v))]) hx hb dX1_greatestSquareDividing_14 rfl hl (by decide) rfl (fun ls hl => ?_)
    have ez : -v = f_size v := by unfold f_size; grind
    rw [ez] at hl
    exact lp_gsq (z := f_size v) ⟨size_nn v, size_le (by omega) (by omega)⟩ ⟨hx, hb, hr, hml, hown, hw, hlocks⟩ (1002) 0 1 ⟨by omega, by omega⟩ rfl (by omega) ls (lv_sub hl [2, 1, 0] rfl)
/-- q is the whole root of v (0 where v is below 0) -/
def f_isrt (v q : Int) : Prop := 0 ≤ q ∧ q ≤ 1000 ∧ v < (q + 1) * (q + 1) ∧ (q * q ≤ v ∨ q = 0)
set_option maxHeartbeats 4000000 in
set_option maxRecDepth 100000 in
theorem lp_root {p : Program} {l : Launch} {e : Env} {R : Room} {s : State} {m : MethodId} {args : Array Value} {below : List Frame} {meth : Method} {c : Code} {v : Int} (hv : -1002000 ≤ v ∧ v ≤ 1002000) (C0 : cx p s m meth c args RX1 cX1_wholeRoot 2 (some .int)) : ∀ (n : Nat) (i : Int), 0 ≤ i ∧ i ≤ 1000 → i * i ≤ v ∨ i = 0 → (1001 - i).toNat < n → ∀ (ls : Array Slot), lv_has ls 2 [(0, .int (iI v)), (1, .int (iI i))] → W p l e R s m args below meth c s.heap [] 0 0 (MQ below (vp_Si (fun r => ∃ q, r = iI q ∧ f_isrt v q)) args s 0 0 (fun _ => False)) (F0 m 2 ls []) := by
  obtain ⟨hx, hb, hr, hml, hown, hw, hlocks⟩ := C0
  intro n
  induction n with
  | zero => intro i _ _ hmu; exact absurd hmu (Nat.not_lt_zero _)
  | succ n ih =>
    intro i h1 h2 hmu ls hl
    refine lv_iload_n hx hb dX1_wholeRoot_2 rfl (lv_at hl 1 rfl) ?_
    refine ix_sipush (n := 1000) hx hb dX1_wholeRoot_3 rfl ?_
    refine ix_icmp_ge (tgt := 26) hx hb dX1_wholeRoot_6 (by decide) (by omega) (by decide) (fun c1 => ?_) (fun c1 => ?_)
    · refine lv_iload_n hx hb dX1_wholeRoot_26 rfl (lv_at hl 1 rfl) ?_
      have hq : v < (i + 1) * (i + 1) := by first | omega | (have := sq_mono (a := 1001) (b := i + 1) (by omega) (by omega); omega)
      exact W.iret (v := iI i) hx hb hr (fun t ht _ => ⟨_, rfl, ⟨i, rfl, by omega, by omega, hq, h2⟩, ht⟩) (fun q h => nomatch h) dX1_wholeRoot_27
    · refine lv_iload_n hx hb dX1_wholeRoot_9 rfl (lv_at hl 1 rfl) ?_
      refine ix_iconst (n := 1) hx hb dX1_wholeRoot_10 ?_
      refine ix_iadd hx hb dX1_wholeRoot_11 ?_
      refine lv_iload_n hx hb dX1_wholeRoot_12 rfl (lv_at hl 1 rfl) ?_
      refine ix_iconst (n := 1) hx hb dX1_wholeRoot_13 ?_
      refine ix_iadd hx hb dX1_wholeRoot_14 ?_
      refine ix_imul hx hb dX1_wholeRoot_15 ?_
      refine lv_iload_n hx hb dX1_wholeRoot_16 rfl (lv_at hl 0 rfl) ?_
      refine ix_icmp_gt (tgt := 26) hx hb dX1_wholeRoot_17 (by decide) (by have := sq_mono (a := i + 1) (b := 1001) (by omega) (by omega); have := sq_mono (a := 0) (b := i + 1) (by omega) (by omega); omega) (by omega) (fun c2 => ?_) (fun c2 => ?_)
      · refine lv_iload_n hx hb dX1_wholeRoot_26 rfl (lv_at hl 1 rfl) ?_
        have hq : v < (i + 1) * (i + 1) := by first | omega | (have := sq_mono (a := 1001) (b := i + 1) (by omega) (by omega); omega)
        exact W.iret (v := iI i) hx hb hr (fun t ht _ => ⟨_, rfl, ⟨i, rfl, by omega, by omega, hq, h2⟩, ht⟩) (fun q h => nomatch h) dX1_wholeRoot_27
      · refine ix_iinc (k := 1) (lv2 := [(1, .int (iI (i + 1))), (0, .int (iI v))]) hx hb dX1_wholeRoot_20 hl rfl (by decide) rfl (fun ls hl => ?_)
        refine lv_goto (tgt := 2) hx hb dX1_wholeRoot_23 (by decide) ?_
        exact ih (i + 1) ⟨by omega, by omega⟩ (Or.inl (by omega)) (by omega) ls (lv_sub hl [1, 0] rfl)
set_option maxHeartbeats 4000000 in
set_option maxRecDepth 100000 in
/-- the whole root -/
theorem kX1_wholeRoot (l : Launch) (v : Int) (h : -1002000 ≤ v ∧ v ≤ 1002000) : Met l yX1_wholeRoot (.code yX1_wholeRoot cX1_wholeRoot 2 (some .int) :: wsA) ({ frames := 0, cells := 0, slots := 0, locals := 0 }) (fun a9 _ => a9 = ([.int (iI v)] : List Value).toArray) (vp_Si (fun r => ∃ q, r = iI q ∧ f_isrt v q)) 0 0 (fun _ => False) := by
  refine Met.ofW (cc := cX1_wholeRoot) (maxL := 2) (ret := (some .int)) (by decide) rfl ?_
  intro p e s m args below meth c s₁ B hml hv
  subst hv
  have hx := B.exec
  have hb := B.bytes
  have hr := B.returns
  have hts := atoms_spec (ws := .code yX1_wholeRoot cX1_wholeRoot 2 (some .int) :: wsA) B.pre
  have hw : ∀ w ∈ wsA, w.before _ s = true := fun w h => hts w (List.mem_cons_of_mem _ h)
  have hown : s.vm.findClass RX1 = some m.cls := findClass_of_methodNamed B.named
  have hlocks := B.notSynchronized
  have hl := lv_entry ([.int (iI v)]) (n := 2) (Nat.le_of_ble_eq_true rfl)
  rw [lg_entry_eq]
  generalize (lg_sl ([.int (iI v)]) ++ List.replicate (2 - (lg_sl ([.int (iI v)])).length) Slot.unset).toArray = ls at hl ⊢
  have hl : lv_has ls 2 [(0, .int (iI v))] := hl
  refine ix_iconst (n := 0) hx hb dX1_wholeRoot_0 ?_
  refine lv_istore_n (lv' := [(1, .int (iI 0)), (0, .int (iI v))]) hx hb dX1_wholeRoot_1 rfl hl (by decide) rfl (fun ls hl => ?_)
  exact lp_root h ⟨hx, hb, hr, hml, hown, hw, hlocks⟩ (1002) 0 ⟨by omega, by omega⟩ (Or.inr rfl) (by omega) ls (lv_sub hl [1, 0] rfl)
theorem sg_r (v : Int) : r32 (f_sg v) := by unfold f_sg; grind
abbrev f_sr (a m b n : Int) : Int := f_sg (f_ssq a * m + f_ssq b * n)
def f_ss (w a m b n : Int) : Int := f_sr (f_ssq w + f_sr a m b n * (a * a * m + b * b * n)) 1 (2 * f_sr a m b n * a * b) (m * n)
def f_rs (a b d : Int) : Int := if f_sg a = 0 ∨ (if d = 0 then 0 else f_sg b) = 0 ∨ f_sg a = (if d = 0 then 0 else f_sg b) then (if f_sg a = 0 then (if d = 0 then 0 else f_sg b) else f_sg a) else f_sg a * f_sg (a * a - b * b * d)
theorem sg_m {u v : Int} : -1 ≤ f_sg u * f_sg v ∧ f_sg u * f_sg v ≤ 1 := by unfold f_sg; grind
theorem rs_r (a b d : Int) : r32 (f_rs a b d) := by
  have h1 := sg_r a
  have h2 := sg_r b
  have h3 := @sg_m a (a * a - b * b * d)
  unfold f_rs
  grind
def f_as (a b d c e : Int) : Int := if f_rs a b d = 0 ∨ (if e = 0 then 0 else f_sg c) = 0 ∨ f_rs a b d = (if e = 0 then 0 else f_sg c) then (if f_rs a b d = 0 then (if e = 0 then 0 else f_sg c) else f_rs a b d) else f_rs a b d * f_rs (a * a + b * b * d - c * c * e) (2 * a * b) d
set_option maxHeartbeats 4000000 in
set_option maxRecDepth 100000 in
theorem kX1_signOfRoots (l : Launch) (a : Int) (u : Int) (b : Int) (v : Int) (h : r64 a) (h2 : r64 b) (h3 : r64 (f_ssq a * u + f_ssq b * v)) : Met l yX1_signOfRoots (.code yX1_signOfRoots cX1_signOfRoots 10 (some .int) :: wsA) ({ frames := 1, cells := 0, slots := 0, locals := 40 }) (fun a9 _ => a9 = ([.long (lI a), .long (lI u), .long (lI b), .long (lI v)] : List Value).toArray) (vp_Si (fun r => r = iI (f_sr a u b v))) 0 0 (fun _ => False) := by
  refine Met.ofW (cc := cX1_signOfRoots) (maxL := 10) (ret := (some .int)) (by decide) rfl ?_
  intro p e s m args below meth c s₁ B hml hv
  subst hv
  have hx := B.exec
  have hb := B.bytes
  have hr := B.returns
  have hts := atoms_spec (ws := .code yX1_signOfRoots cX1_signOfRoots 10 (some .int) :: wsA) B.pre
  have hw : ∀ w ∈ wsA, w.before _ s = true := fun w h => hts w (List.mem_cons_of_mem _ h)
  have hown : s.vm.findClass RX1 = some m.cls := findClass_of_methodNamed B.named
  have hlocks := B.notSynchronized
  have hl := lv_entry ([.long (lI a), .long (lI u), .long (lI b), .long (lI v)]) (n := 10) (Nat.le_of_ble_eq_true rfl)
  rw [lg_entry_eq]
  generalize (lg_sl ([.long (lI a), .long (lI u), .long (lI b), .long (lI v)]) ++ List.replicate (10 - (lg_sl ([.long (lI a), .long (lI u), .long (lI b), .long (lI v)])).length) Slot.unset).toArray = ls at hl ⊢
  have hl : lv_has ls 10 [(0, .long (lI a)), (2, .long (lI u)), (4, .long (lI b)), (6, .long (lI v))] := hl
  refine lv_lload_n hx hb dX1_signOfRoots_0 rfl (lv_at hl 0 rfl) ?_
  refine vp_callSl (W.runS (As := [.long (lI a)]) (rest := []) ⟨hx, hb, hml, hown, hw⟩ (kX1_signedSquare l a (by first | assumption | omega)) (cwS 1 hw (gS mA_371 mA_372 mA_1 mA_373) rfl rfl rfl (by decide +kernel) ⟨Nat.le_of_ble_eq_true rfl, Nat.le_of_ble_eq_true rfl⟩) preEq rfl rfl hl.1 rfl (lv_room (Nat.le_of_ble_eq_true rfl)) dX1_signOfRoots_1 ⟨Nat.le_of_ble_eq_true rfl, Nat.le_of_ble_eq_true rfl⟩) (fun r1 h2 => ?_)
  subst h2
  refine lv_lload_n hx hb dX1_signOfRoots_4 rfl (lv_at hl 1 rfl) ?_
  refine ix_lmul hx hb dX1_signOfRoots_5 ?_
  refine lv_lload hx hb dX1_signOfRoots_6 (lv_at hl 2 rfl) ?_
  refine vp_callSl (W.runS (As := [.long (lI b)]) (rest := [.long (lI ((f_ssq a) * u))]) ⟨hx, hb, hml, hown, hw⟩ (kX1_signedSquare l b (by first | assumption | omega)) (cwS 1 hw (gS mA_371 mA_372 mA_1 mA_373) rfl rfl rfl (by decide +kernel) ⟨Nat.le_of_ble_eq_true rfl, Nat.le_of_ble_eq_true rfl⟩) preEq rfl rfl hl.1 rfl (lv_room (Nat.le_of_ble_eq_true rfl)) dX1_signOfRoots_8 ⟨Nat.le_of_ble_eq_true rfl, Nat.le_of_ble_eq_true rfl⟩) (fun r3 h4 => ?_)
  subst h4
  refine lv_lload hx hb dX1_signOfRoots_11 (lv_at hl 3 rfl) ?_
  refine ix_lmul hx hb dX1_signOfRoots_13 ?_
  refine ix_ladd hx hb dX1_signOfRoots_14 ?_
  refine lv_lstore (lv' := [(8, .long (lI (((f_ssq a) * u) + ((f_ssq b) * v)))), (0, .long (lI a)), (2, .long (lI u)), (4, .long (lI b)), (6, .long (lI v))]) hx hb dX1_signOfRoots_15 hl (by decide) rfl (fun ls hl => ?_)
  refine lv_lload hx hb dX1_signOfRoots_17 (lv_at hl 0 rfl) ?_
  refine ix_lconst0 hx hb dX1_signOfRoots_19 ?_
  refine ix_lc_ge (tgt := 28) hx hb dX1_signOfRoots_20 dX1_signOfRoots_21 (by decide) h3 (by decide) (fun c5 => ?_) (fun c5 => ?_)
  · refine lv_lload hx hb dX1_signOfRoots_28 (lv_at hl 0 rfl) ?_
    refine ix_lconst0 hx hb dX1_signOfRoots_30 ?_
    refine ix_lc_le (tgt := 39) hx hb dX1_signOfRoots_31 dX1_signOfRoots_32 (by decide) h3 (by decide) (fun c6 => ?_) (fun c6 => ?_)
    · refine ix_iconst (n := 0) hx hb dX1_signOfRoots_39 ?_
      exact W.iret (v := iI 0) hx hb hr (fun t ht _ => ⟨_, rfl, congrArg iI (by unfold f_sr f_sg; grind), ht⟩) (fun q h => nomatch h) dX1_signOfRoots_40
    · refine ix_iconst (n := 1) hx hb dX1_signOfRoots_35 ?_
      refine lv_goto (tgt := 40) hx hb dX1_signOfRoots_36 (by decide) ?_
      exact W.iret (v := iI 1) hx hb hr (fun t ht _ => ⟨_, rfl, congrArg iI (by unfold f_sr f_sg; grind), ht⟩) (fun q h => nomatch h) dX1_signOfRoots_40
  · refine ix_iconst (n := (-1)) hx hb dX1_signOfRoots_24 ?_
    refine lv_goto (tgt := 40) hx hb dX1_signOfRoots_25 (by decide) ?_
    exact W.iret (v := iI (-1)) hx hb hr (fun t ht _ => ⟨_, rfl, congrArg iI (by unfold f_sr f_sg; grind), ht⟩) (fun q h => nomatch h) dX1_signOfRoots_40
set_option maxHeartbeats 4000000 in
set_option maxRecDepth 100000 in
theorem kX1_signOfSum (l : Launch) (w : Int) (a : Int) (u : Int) (b : Int) (v : Int) (g0 : r64 w) (g1 : r64 a) (g2 : r64 b) (g3 : r64 (f_ssq a * u + f_ssq b * v)) (g4 : r64 (f_ssq w + f_sr a u b v * (a * a * u + b * b * v))) (g5 : r64 (2 * f_sr a u b v * a * b)) (g6 : r64 (f_ssq (f_ssq w + f_sr a u b v * (a * a * u + b * b * v)) * 1 + f_ssq (2 * f_sr a u b v * a * b) * (u * v))) : Met l yX1_signOfSum (.code yX1_signOfSum cX1_signOfSum 14 (some .int) :: wsA) ({ frames := 2, cells := 0, slots := 0, locals := 80 }) (fun a9 _ => a9 = ([.long (lI w), .long (lI a), .long (lI u), .long (lI b), .long (lI v)] : List Value).toArray) (vp_Si (fun r => r = iI (f_ss w a u b v))) 0 0 (fun _ => False) := by
  refine Met.ofW (cc := cX1_signOfSum) (maxL := 14) (ret := (some .int)) (by decide) rfl ?_
  intro p e s m args below meth c s₁ B hml hv
  subst hv
  have hx := B.exec
  have hb := B.bytes
  have hr := B.returns
  have hts := atoms_spec (ws := .code yX1_signOfSum cX1_signOfSum 14 (some .int) :: wsA) B.pre
  have hw : ∀ w ∈ wsA, w.before _ s = true := fun w h => hts w (List.mem_cons_of_mem _ h)
  have hown : s.vm.findClass RX1 = some m.cls := findClass_of_methodNamed B.named
  have hlocks := B.notSynchronized
  have hl := lv_entry ([.long (lI w), .long (lI a), .long (lI u), .long (lI b), .long (lI v)]) (n := 14) (Nat.le_of_ble_eq_true rfl)
  rw [lg_entry_eq]
  generalize (lg_sl ([.long (lI w), .long (lI a), .long (lI u), .long (lI b), .long (lI v)]) ++ List.replicate (14 - (lg_sl ([.long (lI w), .long (lI a), .long (lI u), .long (lI b), .long (lI v)])).length) Slot.unset).toArray = ls at hl ⊢
  have hl : lv_has ls 14 [(0, .long (lI w)), (2, .long (lI a)), (4, .long (lI u)), (6, .long (lI b)), (8, .long (lI v))] := hl
  refine lv_lload_n hx hb dX1_signOfSum_0 rfl (lv_at hl 1 rfl) ?_
  refine lv_lload hx hb dX1_signOfSum_1 (lv_at hl 2 rfl) ?_
  refine lv_lload hx hb dX1_signOfSum_3 (lv_at hl 3 rfl) ?_
  refine lv_lload hx hb dX1_signOfSum_5 (lv_at hl 4 rfl) ?_
  refine vp_callSi (W.runS (As := [.long (lI a), .long (lI u), .long (lI b), .long (lI v)]) (rest := []) ⟨hx, hb, hml, hown, hw⟩ (kX1_signOfRoots l a u b v g1 g2 g3) (cwS 4 hw (gS mA_368 mA_369 mA_1 mA_370) rfl rfl rfl (by decide +kernel) ⟨Nat.le_of_ble_eq_true rfl, Nat.le_of_ble_eq_true rfl⟩) preEq rfl rfl hl.1 rfl (lv_room (Nat.le_of_ble_eq_true rfl)) dX1_signOfSum_7 ⟨Nat.le_of_ble_eq_true rfl, Nat.le_of_ble_eq_true rfl⟩) (fun r1 h2 => ?_)
  subst h2
  refine ix_i2l hx hb dX1_signOfSum_10 (sg_r _) ?_
  refine lv_lstore (lv' := [(10, .long (lI (f_sr a u b v))), (0, .long (lI w)), (2, .long (lI a)), (4, .long (lI u)), (6, .long (lI b)), (8, .long (lI v))]) hx hb dX1_signOfSum_11 hl (by decide) rfl (fun ls hl => ?_)
  refine lv_lload_n hx hb dX1_signOfSum_13 rfl (lv_at hl 1 rfl) ?_
  refine vp_callSl (W.runS (As := [.long (lI w)]) (rest := []) ⟨hx, hb, hml, hown, hw⟩ (kX1_signedSquare l w (by first | assumption | omega)) (cwS 1 hw (gS mA_371 mA_372 mA_1 mA_373) rfl rfl rfl (by decide +kernel) ⟨Nat.le_of_ble_eq_true rfl, Nat.le_of_ble_eq_true rfl⟩) preEq rfl rfl hl.1 rfl (lv_room (Nat.le_of_ble_eq_true rfl)) dX1_signOfSum_14 ⟨Nat.le_of_ble_eq_true rfl, Nat.le_of_ble_eq_true rfl⟩) (fun r3 h4 => ?_)
  subst h4
  refine lv_lload hx hb dX1_signOfSum_17 (lv_at hl 0 rfl) ?_
  refine lv_lload_n hx hb dX1_signOfSum_19 rfl (lv_at hl 2 rfl) ?_
  refine lv_lload_n hx hb dX1_signOfSum_20 rfl (lv_at hl 2 rfl) ?_
  refine ix_lmul hx hb dX1_signOfSum_21 ?_
  refine lv_lload hx hb dX1_signOfSum_22 (lv_at hl 3 rfl) ?_
  refine ix_lmul hx hb dX1_signOfSum_24 ?_
  refine lv_lload hx hb dX1_signOfSum_25 (lv_at hl 4 rfl) ?_
  refine lv_lload hx hb dX1_signOfSum_27 (lv_at hl 4 rfl) ?_
  refine ix_lmul hx hb dX1_signOfSum_29 ?_
  refine lv_lload hx hb dX1_signOfSum_30 (lv_at hl 5 rfl) ?_
  refine ix_lmul hx hb dX1_signOfSum_32 ?_
  refine ix_ladd hx hb dX1_signOfSum_33 ?_
  refine ix_lmul hx hb dX1_signOfSum_34 ?_
  refine ix_ladd hx hb dX1_signOfSum_35 ?_
  refine lv_lstore (lv' := [(12, .long (lI ((f_ssq w) + ((f_sr a u b v) * (((a * a) * u) + ((b * b) * v)))))), (10, .long (lI (f_sr a u b v))), (0, .long (lI w)), (2, .long (lI a)), (4, .long (lI u)), (6, .long (lI b)), (8, .long (lI v))]) hx hb dX1_signOfSum_36 hl (by decide) rfl (fun ls hl => ?_)
  refine lv_lload hx hb dX1_signOfSum_38 (lv_at hl 0 rfl) ?_
  refine ix_lconst1 hx hb dX1_signOfSum_40 ?_
  refine ix_ldc2 (z := 2) hx hb hown (hw _ mA_374) rfl dX1_signOfSum_41 ?_
  refine lv_lload hx hb dX1_signOfSum_44 (lv_at hl 1 rfl) ?_
  refine ix_lmul hx hb dX1_signOfSum_46 ?_
  refine lv_lload_n hx hb dX1_signOfSum_47 rfl (lv_at hl 3 rfl) ?_
  refine ix_lmul hx hb dX1_signOfSum_48 ?_
  refine lv_lload hx hb dX1_signOfSum_49 (lv_at hl 5 rfl) ?_
  refine ix_lmul hx hb dX1_signOfSum_51 ?_
  refine lv_lload hx hb dX1_signOfSum_52 (lv_at hl 4 rfl) ?_
  refine lv_lload hx hb dX1_signOfSum_54 (lv_at hl 6 rfl) ?_
  refine ix_lmul hx hb dX1_signOfSum_56 ?_
  refine vp_callSi (W.runS (As := [.long (lI ((f_ssq w) + ((f_sr a u b v) * (((a * a) * u) + ((b * b) * v))))), .long (lI 1), .long (lI (((2 * (f_sr a u b v)) * a) * b)), .long (lI (u * v))]) (rest := []) ⟨hx, hb, hml, hown, hw⟩ (kX1_signOfRoots l ((f_ssq w) + ((f_sr a u b v) * (((a * a) * u) + ((b * b) * v)))) 1 (((2 * (f_sr a u b v)) * a) * b) (u * v) g4 g5 g6) (cwS 4 hw (gS mA_368 mA_369 mA_1 mA_370) rfl rfl rfl (by decide +kernel) ⟨Nat.le_of_ble_eq_true rfl, Nat.le_of_ble_eq_true rfl⟩) preEq rfl rfl hl.1 rfl (lv_room (Nat.le_of_ble_eq_true rfl)) dX1_signOfSum_57 ⟨Nat.le_of_ble_eq_true rfl, Nat.le_of_ble_eq_true rfl⟩) (fun r5 h6 => ?_)
  subst h6
  exact W.iret (v := iI (f_sr ((f_ssq w) + ((f_sr a u b v) * (((a * a) * u) + ((b * b) * v)))) 1 (((2 * (f_sr a u b v)) * a) * b) (u * v))) hx hb hr (fun t ht _ => ⟨_, rfl, congrArg iI rfl, ht⟩) (fun q h => nomatch h) dX1_signOfSum_60
set_option maxHeartbeats 4000000 in
set_option maxRecDepth 100000 in
theorem kX2_rootSign (l : Launch) (a : Int) (b : Int) (d : Int) (h1 : r64 a) (h2 : r64 b) (h3 : r64 d) (h4 : r64 (a * a - b * b * d)) : Met l yX2_rootSign (.code yX2_rootSign cX2_rootSign 8 (some .int) :: wsA) ({ frames := 1, cells := 0, slots := 0, locals := 40 }) (fun a9 _ => a9 = ([.long (lI a), .long (lI b), .long (lI d)] : List Value).toArray) (vp_Si (fun r => r = iI (f_rs a b d))) 0 0 (fun _ => False) := by
  refine Met.ofW (cc := cX2_rootSign) (maxL := 8) (ret := (some .int)) (by decide) rfl ?_
  intro p e s m args below meth c s₁ B hml hv
  subst hv
  have hx := B.exec
  have hb := B.bytes
  have hr := B.returns
  have hts := atoms_spec (ws := .code yX2_rootSign cX2_rootSign 8 (some .int) :: wsA) B.pre
  have hw : ∀ w ∈ wsA, w.before _ s = true := fun w h => hts w (List.mem_cons_of_mem _ h)
  have hown : s.vm.findClass RX2 = some m.cls := findClass_of_methodNamed B.named
  have hlocks := B.notSynchronized
  have hl := lv_entry ([.long (lI a), .long (lI b), .long (lI d)]) (n := 8) (Nat.le_of_ble_eq_true rfl)
  rw [lg_entry_eq]
  generalize (lg_sl ([.long (lI a), .long (lI b), .long (lI d)]) ++ List.replicate (8 - (lg_sl ([.long (lI a), .long (lI b), .long (lI d)])).length) Slot.unset).toArray = ls at hl ⊢
  have hl : lv_has ls 8 [(0, .long (lI a)), (2, .long (lI b)), (4, .long (lI d))] := hl
  refine lv_lload_n hx hb dX2_rootSign_0 rfl (lv_at hl 0 rfl) ?_
  refine vp_callSi (W.runS (As := [.long (lI a)]) (rest := []) ⟨hx, hb, hml, hown, hw⟩ (kX2_signOf l a (by assumption)) (cwS 1 hw (gS mA_571 mA_572 mA_3 mA_573) rfl rfl rfl (by decide +kernel) ⟨Nat.le_of_ble_eq_true rfl, Nat.le_of_ble_eq_true rfl⟩) preEq rfl rfl hl.1 rfl (lv_room (Nat.le_of_ble_eq_true rfl)) dX2_rootSign_1 ⟨Nat.le_of_ble_eq_true rfl, Nat.le_of_ble_eq_true rfl⟩) (fun r1 h2 => ?_)
  subst h2
  refine lv_istore (lv' := [(6, .int (iI (f_sg a))), (0, .long (lI a)), (2, .long (lI b)), (4, .long (lI d))]) hx hb dX2_rootSign_4 hl (by decide) rfl (fun ls hl => ?_)
  refine lv_lload hx hb dX2_rootSign_6 (lv_at hl 3 rfl) ?_
  refine ix_lconst0 hx hb dX2_rootSign_8 ?_
  refine ix_lc_ne (tgt := 17) hx hb dX2_rootSign_9 dX2_rootSign_10 (by decide) (by omega) (by decide) (fun c3 => ?_) (fun c3 => ?_)
  · refine lv_lload_n hx hb dX2_rootSign_17 rfl (lv_at hl 2 rfl) ?_
    refine vp_callSi (W.runS (As := [.long (lI b)]) (rest := []) ⟨hx, hb, hml, hown, hw⟩ (kX2_signOf l b (by assumption)) (cwS 1 hw (gS mA_571 mA_572 mA_3 mA_573) rfl rfl rfl (by decide +kernel) ⟨Nat.le_of_ble_eq_true rfl, Nat.le_of_ble_eq_true rfl⟩) preEq rfl rfl hl.1 rfl (lv_room (Nat.le_of_ble_eq_true rfl)) dX2_rootSign_18 ⟨Nat.le_of_ble_eq_true rfl, Nat.le_of_ble_eq_true rfl⟩) (fun r4 h5 => ?_)
    subst h5
    refine lv_istore (lv' := [(7, .int (iI (f_sg b))), (6, .int (iI (f_sg a))), (0, .long (lI a)), (2, .long (lI b)), (4, .long (lI d))]) hx hb dX2_rootSign_21 hl (by decide) rfl (fun ls hl => ?_)
    refine lv_iload hx hb dX2_rootSign_23 (lv_at hl 1 rfl) ?_
    refine ix_if_eq (tgt := 40) hx hb dX2_rootSign_25 (by decide) (sg_r _) (fun c6 => ?_) (fun c6 => ?_)
    · refine lv_iload hx hb dX2_rootSign_40 (lv_at hl 1 rfl) ?_
      refine ix_if_ne (tgt := 50) hx hb dX2_rootSign_42 (by decide) (sg_r _) (fun c7 => ?_) (fun c7 => ?_)
      · refine lv_iload hx hb dX2_rootSign_50 (lv_at hl 1 rfl) ?_
        exact W.iret (v := iI (f_sg a)) hx hb hr (fun t ht _ => ⟨_, rfl, congrArg iI (by unfold f_rs; grind), ht⟩) (fun q h => nomatch h) dX2_rootSign_52
      · refine lv_iload hx hb dX2_rootSign_45 (lv_at hl 0 rfl) ?_
        refine lv_goto (tgt := 52) hx hb dX2_rootSign_47 (by decide) ?_
        exact W.iret (v := iI (f_sg b)) hx hb hr (fun t ht _ => ⟨_, rfl, congrArg iI (by unfold f_rs; grind), ht⟩) (fun q h => nomatch h) dX2_rootSign_52
    · refine lv_iload hx hb dX2_rootSign_28 (lv_at hl 0 rfl) ?_
      refine ix_if_eq (tgt := 40) hx hb dX2_rootSign_30 (by decide) (sg_r _) (fun c8 => ?_) (fun c8 => ?_)
      · refine lv_iload hx hb dX2_rootSign_40 (lv_at hl 1 rfl) ?_
        refine ix_if_ne (tgt := 50) hx hb dX2_rootSign_42 (by decide) (sg_r _) (fun c9 => ?_) (fun c9 => ?_)
        · refine lv_iload hx hb dX2_rootSign_50 (lv_at hl 1 rfl) ?_
          exact W.iret (v := iI (f_sg a)) hx hb hr (fun t ht _ => ⟨_, rfl, congrArg iI (by unfold f_rs; grind), ht⟩) (fun q h => nomatch h) dX2_rootSign_52
        · refine lv_iload hx hb dX2_rootSign_45 (lv_at hl 0 rfl) ?_
          refine lv_goto (tgt := 52) hx hb dX2_rootSign_47 (by decide) ?_
          exact W.iret (v := iI (f_sg b)) hx hb hr (fun t ht _ => ⟨_, rfl, congrArg iI (by unfold f_rs; grind), ht⟩) (fun q h => nomatch h) dX2_rootSign_52
      · refine lv_iload hx hb dX2_rootSign_33 (lv_at hl 1 rfl) ?_
        refine lv_iload hx hb dX2_rootSign_35 (lv_at hl 0 rfl) ?_
        refine ix_icmp_ne (tgt := 53) hx hb dX2_rootSign_37 (by decide) (sg_r _) (sg_r _) (fun c10 => ?_) (fun c10 => ?_)
        · refine lv_iload hx hb dX2_rootSign_53 (lv_at hl 1 rfl) ?_
          refine lv_lload_n hx hb dX2_rootSign_55 rfl (lv_at hl 2 rfl) ?_
          refine lv_lload_n hx hb dX2_rootSign_56 rfl (lv_at hl 2 rfl) ?_
          refine ix_lmul hx hb dX2_rootSign_57 ?_
          refine lv_lload_n hx hb dX2_rootSign_58 rfl (lv_at hl 3 rfl) ?_
          refine lv_lload_n hx hb dX2_rootSign_59 rfl (lv_at hl 3 rfl) ?_
          refine ix_lmul hx hb dX2_rootSign_60 ?_
          refine lv_lload hx hb dX2_rootSign_61 (lv_at hl 4 rfl) ?_
          refine ix_lmul hx hb dX2_rootSign_63 ?_
          refine ix_lsub hx hb dX2_rootSign_64 ?_
          refine vp_callSi (W.runS (As := [.long (lI ((a * a) - ((b * b) * d)))]) (rest := [.int (iI (f_sg a))]) ⟨hx, hb, hml, hown, hw⟩ (kX2_signOf l ((a * a) - ((b * b) * d)) (by assumption)) (cwS 1 hw (gS mA_571 mA_572 mA_3 mA_573) rfl rfl rfl (by decide +kernel) ⟨Nat.le_of_ble_eq_true rfl, Nat.le_of_ble_eq_true rfl⟩) preEq rfl rfl hl.1 rfl (lv_room (Nat.le_of_ble_eq_true rfl)) dX2_rootSign_65 ⟨Nat.le_of_ble_eq_true rfl, Nat.le_of_ble_eq_true rfl⟩) (fun r11 h12 => ?_)
          subst h12
          refine ix_imul hx hb dX2_rootSign_68 ?_
          exact W.iret (v := iI ((f_sg a) * (f_sg ((a * a) - ((b * b) * d))))) hx hb hr (fun t ht _ => ⟨_, rfl, congrArg iI (by unfold f_rs; grind), ht⟩) (fun q h => nomatch h) dX2_rootSign_69
        · refine lv_iload hx hb dX2_rootSign_40 (lv_at hl 1 rfl) ?_
          refine ix_if_ne (tgt := 50) hx hb dX2_rootSign_42 (by decide) (sg_r _) (fun c13 => ?_) (fun c13 => ?_)
          · refine lv_iload hx hb dX2_rootSign_50 (lv_at hl 1 rfl) ?_
            exact W.iret (v := iI (f_sg a)) hx hb hr (fun t ht _ => ⟨_, rfl, congrArg iI (by unfold f_rs; grind), ht⟩) (fun q h => nomatch h) dX2_rootSign_52
          · refine lv_iload hx hb dX2_rootSign_45 (lv_at hl 0 rfl) ?_
            refine lv_goto (tgt := 52) hx hb dX2_rootSign_47 (by decide) ?_
            exact W.iret (v := iI (f_sg b)) hx hb hr (fun t ht _ => ⟨_, rfl, congrArg iI (by unfold f_rs; grind), ht⟩) (fun q h => nomatch h) dX2_rootSign_52
  · refine ix_iconst (n := 0) hx hb dX2_rootSign_13 ?_
    refine lv_goto (tgt := 21) hx hb dX2_rootSign_14 (by decide) ?_
    refine lv_istore (lv' := [(7, .int (iI 0)), (6, .int (iI (f_sg a))), (0, .long (lI a)), (2, .long (lI b)), (4, .long (lI d))]) hx hb dX2_rootSign_21 hl (by decide) rfl (fun ls hl => ?_)
    refine lv_iload hx hb dX2_rootSign_23 (lv_at hl 1 rfl) ?_
    refine ix_if_eq (tgt := 40) hx hb dX2_rootSign_25 (by decide) (sg_r _) (fun c14 => ?_) (fun c14 => ?_)
    · refine lv_iload hx hb dX2_rootSign_40 (lv_at hl 1 rfl) ?_
      refine ix_if_ne (tgt := 50) hx hb dX2_rootSign_42 (by decide) (sg_r _) (fun c15 => ?_) (fun c15 => ?_)
      · refine lv_iload hx hb dX2_rootSign_50 (lv_at hl 1 rfl) ?_
        exact W.iret (v := iI (f_sg a)) hx hb hr (fun t ht _ => ⟨_, rfl, congrArg iI (by unfold f_rs; grind), ht⟩) (fun q h => nomatch h) dX2_rootSign_52
      · refine lv_iload hx hb dX2_rootSign_45 (lv_at hl 0 rfl) ?_
        refine lv_goto (tgt := 52) hx hb dX2_rootSign_47 (by decide) ?_
        exact W.iret (v := iI 0) hx hb hr (fun t ht _ => ⟨_, rfl, congrArg iI (by unfold f_rs; grind), ht⟩) (fun q h => nomatch h) dX2_rootSign_52
    · refine lv_iload hx hb dX2_rootSign_28 (lv_at hl 0 rfl) ?_
      refine ix_if_eq (tgt := 40) hx hb dX2_rootSign_30 (by decide) (by decide) (fun _ => ?_) (fun c16 => absurd c16 (by decide))
      refine lv_iload hx hb dX2_rootSign_40 (lv_at hl 1 rfl) ?_
      refine ix_if_ne (tgt := 50) hx hb dX2_rootSign_42 (by decide) (sg_r _) (fun c17 => ?_) (fun c17 => ?_)
      · refine lv_iload hx hb dX2_rootSign_50 (lv_at hl 1 rfl) ?_
        exact W.iret (v := iI (f_sg a)) hx hb hr (fun t ht _ => ⟨_, rfl, congrArg iI (by unfold f_rs; grind), ht⟩) (fun q h => nomatch h) dX2_rootSign_52
      · refine lv_iload hx hb dX2_rootSign_45 (lv_at hl 0 rfl) ?_
        refine lv_goto (tgt := 52) hx hb dX2_rootSign_47 (by decide) ?_
        exact W.iret (v := iI 0) hx hb hr (fun t ht _ => ⟨_, rfl, congrArg iI (by unfold f_rs; grind), ht⟩) (fun q h => nomatch h) dX2_rootSign_52
set_option maxHeartbeats 4000000 in
set_option maxRecDepth 100000 in
theorem kX2_allSign (l : Launch) (a : Int) (b : Int) (d : Int) (u : Int) (v : Int) (h1 : r64 a) (h2 : r64 b) (h3 : r64 d) (h4 : r64 u) (h5 : r64 v) (h6 : r64 (a * a - b * b * d)) (h7 : r64 (a * a + b * b * d - u * u * v)) (h8 : r64 (2 * a * b)) (h9 : r64 ((a * a + b * b * d - u * u * v) * (a * a + b * b * d - u * u * v) - 2 * a * b * (2 * a * b) * d)) : Met l yX2_allSign (.code yX2_allSign cX2_allSign 12 (some .int) :: wsA) ({ frames := 2, cells := 0, slots := 0, locals := 80 }) (fun a9 _ => a9 = ([.long (lI a), .long (lI b), .long (lI d), .long (lI u), .long (lI v)] : List Value).toArray) (vp_Si (fun r => r = iI (f_as a b d u v))) 0 0 (fun _ => False) := by
  refine Met.ofW (cc := cX2_allSign) (maxL := 12) (ret := (some .int)) (by decide) rfl ?_
  intro p e s m args below meth c s₁ B hml hv
  subst hv
  have hx := B.exec
  have hb := B.bytes
  have hr := B.returns
  have hts := atoms_spec (ws := .code yX2_allSign cX2_allSign 12 (some .int) :: wsA) B.pre
  have hw : ∀ w ∈ wsA, w.before _ s = true := fun w h => hts w (List.mem_cons_of_mem _ h)
  have hown : s.vm.findClass RX2 = some m.cls := findClass_of_methodNamed B.named
  have hlocks := B.notSynchronized
  have hl := lv_entry ([.long (lI a), .long (lI b), .long (lI d), .long (lI u), .long (lI v)]) (n := 12) (Nat.le_of_ble_eq_true rfl)
  rw [lg_entry_eq]
  generalize (lg_sl ([.long (lI a), .long (lI b), .long (lI d), .long (lI u), .long (lI v)]) ++ List.replicate (12 - (lg_sl ([.long (lI a), .long (lI b), .long (lI d), .long (lI u), .long (lI v)])).length) Slot.unset).toArray = ls at hl ⊢
  have hl : lv_has ls 12 [(0, .long (lI a)), (2, .long (lI b)), (4, .long (lI d)), (6, .long (lI u)), (8, .long (lI v))] := hl
  refine lv_lload_n hx hb dX2_allSign_0 rfl (lv_at hl 0 rfl) ?_
  refine lv_lload_n hx hb dX2_allSign_1 rfl (lv_at hl 1 rfl) ?_
  refine lv_lload hx hb dX2_allSign_2 (lv_at hl 2 rfl) ?_
  refine vp_callSi (W.runS (As := [.long (lI a), .long (lI b), .long (lI d)]) (rest := []) ⟨hx, hb, hml, hown, hw⟩ (kX2_rootSign l a b d (by assumption) (by assumption) (by assumption) (by assumption)) (cwS 3 hw (gS mA_568 mA_569 mA_3 mA_570) rfl rfl rfl (by decide +kernel) ⟨Nat.le_of_ble_eq_true rfl, Nat.le_of_ble_eq_true rfl⟩) preEq rfl rfl hl.1 rfl (lv_room (Nat.le_of_ble_eq_true rfl)) dX2_allSign_4 ⟨Nat.le_of_ble_eq_true rfl, Nat.le_of_ble_eq_true rfl⟩) (fun r1 h2 => ?_)
  subst h2
  refine lv_istore (lv' := [(10, .int (iI (f_rs a b d))), (0, .long (lI a)), (2, .long (lI b)), (4, .long (lI d)), (6, .long (lI u)), (8, .long (lI v))]) hx hb dX2_allSign_7 hl (by decide) rfl (fun ls hl => ?_)
  refine lv_lload hx hb dX2_allSign_9 (lv_at hl 5 rfl) ?_
  refine ix_lconst0 hx hb dX2_allSign_11 ?_
  refine ix_lc_ne (tgt := 20) hx hb dX2_allSign_12 dX2_allSign_13 (by decide) (by omega) (by decide) (fun c3 => ?_) (fun c3 => ?_)
  · refine lv_lload hx hb dX2_allSign_20 (lv_at hl 4 rfl) ?_
    refine vp_callSi (W.runS (As := [.long (lI u)]) (rest := []) ⟨hx, hb, hml, hown, hw⟩ (kX2_signOf l u (by assumption)) (cwS 1 hw (gS mA_571 mA_572 mA_3 mA_573) rfl rfl rfl (by decide +kernel) ⟨Nat.le_of_ble_eq_true rfl, Nat.le_of_ble_eq_true rfl⟩) preEq rfl rfl hl.1 rfl (lv_room (Nat.le_of_ble_eq_true rfl)) dX2_allSign_22 ⟨Nat.le_of_ble_eq_true rfl, Nat.le_of_ble_eq_true rfl⟩) (fun r4 h5 => ?_)
    subst h5
    refine lv_istore (lv' := [(11, .int (iI (f_sg u))), (10, .int (iI (f_rs a b d))), (0, .long (lI a)), (2, .long (lI b)), (4, .long (lI d)), (6, .long (lI u)), (8, .long (lI v))]) hx hb dX2_allSign_25 hl (by decide) rfl (fun ls hl => ?_)
    refine lv_iload hx hb dX2_allSign_27 (lv_at hl 1 rfl) ?_
    refine ix_if_eq (tgt := 44) hx hb dX2_allSign_29 (by decide) (rs_r _ _ _) (fun c6 => ?_) (fun c6 => ?_)
    · refine lv_iload hx hb dX2_allSign_44 (lv_at hl 1 rfl) ?_
      refine ix_if_ne (tgt := 54) hx hb dX2_allSign_46 (by decide) (rs_r _ _ _) (fun c7 => ?_) (fun c7 => ?_)
      · refine lv_iload hx hb dX2_allSign_54 (lv_at hl 1 rfl) ?_
        exact W.iret (v := iI (f_rs a b d)) hx hb hr (fun t ht _ => ⟨_, rfl, congrArg iI (by unfold f_as; grind), ht⟩) (fun q h => nomatch h) dX2_allSign_56
      · refine lv_iload hx hb dX2_allSign_49 (lv_at hl 0 rfl) ?_
        refine lv_goto (tgt := 56) hx hb dX2_allSign_51 (by decide) ?_
        exact W.iret (v := iI (f_sg u)) hx hb hr (fun t ht _ => ⟨_, rfl, congrArg iI (by unfold f_as; grind), ht⟩) (fun q h => nomatch h) dX2_allSign_56
    · refine lv_iload hx hb dX2_allSign_32 (lv_at hl 0 rfl) ?_
      refine ix_if_eq (tgt := 44) hx hb dX2_allSign_34 (by decide) (sg_r _) (fun c8 => ?_) (fun c8 => ?_)
      · refine lv_iload hx hb dX2_allSign_44 (lv_at hl 1 rfl) ?_
        refine ix_if_ne (tgt := 54) hx hb dX2_allSign_46 (by decide) (rs_r _ _ _) (fun c9 => ?_) (fun c9 => ?_)
        · refine lv_iload hx hb dX2_allSign_54 (lv_at hl 1 rfl) ?_
          exact W.iret (v := iI (f_rs a b d)) hx hb hr (fun t ht _ => ⟨_, rfl, congrArg iI (by unfold f_as; grind), ht⟩) (fun q h => nomatch h) dX2_allSign_56
        · refine lv_iload hx hb dX2_allSign_49 (lv_at hl 0 rfl) ?_
          refine lv_goto (tgt := 56) hx hb dX2_allSign_51 (by decide) ?_
          exact W.iret (v := iI (f_sg u)) hx hb hr (fun t ht _ => ⟨_, rfl, congrArg iI (by unfold f_as; grind), ht⟩) (fun q h => nomatch h) dX2_allSign_56
      · refine lv_iload hx hb dX2_allSign_37 (lv_at hl 1 rfl) ?_
        refine lv_iload hx hb dX2_allSign_39 (lv_at hl 0 rfl) ?_
        refine ix_icmp_ne (tgt := 57) hx hb dX2_allSign_41 (by decide) (rs_r _ _ _) (sg_r _) (fun c10 => ?_) (fun c10 => ?_)
        · refine lv_iload hx hb dX2_allSign_57 (lv_at hl 1 rfl) ?_
          refine lv_lload_n hx hb dX2_allSign_59 rfl (lv_at hl 2 rfl) ?_
          refine lv_lload_n hx hb dX2_allSign_60 rfl (lv_at hl 2 rfl) ?_
          refine ix_lmul hx hb dX2_allSign_61 ?_
          refine lv_lload_n hx hb dX2_allSign_62 rfl (lv_at hl 3 rfl) ?_
          refine lv_lload_n hx hb dX2_allSign_63 rfl (lv_at hl 3 rfl) ?_
          refine ix_lmul hx hb dX2_allSign_64 ?_
          refine lv_lload hx hb dX2_allSign_65 (lv_at hl 4 rfl) ?_
          refine ix_lmul hx hb dX2_allSign_67 ?_
          refine ix_ladd hx hb dX2_allSign_68 ?_
          refine lv_lload hx hb dX2_allSign_69 (lv_at hl 5 rfl) ?_
          refine lv_lload hx hb dX2_allSign_71 (lv_at hl 5 rfl) ?_
          refine ix_lmul hx hb dX2_allSign_73 ?_
          refine lv_lload hx hb dX2_allSign_74 (lv_at hl 6 rfl) ?_
          refine ix_lmul hx hb dX2_allSign_76 ?_
          refine ix_lsub hx hb dX2_allSign_77 ?_
          refine ix_ldc2 (z := 2) hx hb hown (hw _ mA_461) rfl dX2_allSign_78 ?_
          refine lv_lload_n hx hb dX2_allSign_81 rfl (lv_at hl 2 rfl) ?_
          refine ix_lmul hx hb dX2_allSign_82 ?_
          refine lv_lload_n hx hb dX2_allSign_83 rfl (lv_at hl 3 rfl) ?_
          refine ix_lmul hx hb dX2_allSign_84 ?_
          refine lv_lload hx hb dX2_allSign_85 (lv_at hl 4 rfl) ?_
          refine vp_callSi (W.runS (As := [.long (lI (((a * a) + ((b * b) * d)) - ((u * u) * v))), .long (lI ((2 * a) * b)), .long (lI d)]) (rest := [.int (iI (f_rs a b d))]) ⟨hx, hb, hml, hown, hw⟩ (kX2_rootSign l (((a * a) + ((b * b) * d)) - ((u * u) * v)) ((2 * a) * b) d (by assumption) (by assumption) (by assumption) (by assumption)) (cwS 3 hw (gS mA_568 mA_569 mA_3 mA_570) rfl rfl rfl (by decide +kernel) ⟨Nat.le_of_ble_eq_true rfl, Nat.le_of_ble_eq_true rfl⟩) preEq rfl rfl hl.1 rfl (lv_room (Nat.le_of_ble_eq_true rfl)) dX2_allSign_87 ⟨Nat.le_of_ble_eq_true rfl, Nat.le_of_ble_eq_true rfl⟩) (fun r11 h12 => ?_)
          subst h12
          refine ix_imul hx hb dX2_allSign_90 ?_
          exact W.iret (v := iI ((f_rs a b d) * (f_rs (((a * a) + ((b * b) * d)) - ((u * u) * v)) ((2 * a) * b) d))) hx hb hr (fun t ht _ => ⟨_, rfl, congrArg iI (by unfold f_as; grind), ht⟩) (fun q h => nomatch h) dX2_allSign_91
        · refine lv_iload hx hb dX2_allSign_44 (lv_at hl 1 rfl) ?_
          refine ix_if_ne (tgt := 54) hx hb dX2_allSign_46 (by decide) (rs_r _ _ _) (fun c13 => ?_) (fun c13 => ?_)
          · refine lv_iload hx hb dX2_allSign_54 (lv_at hl 1 rfl) ?_
            exact W.iret (v := iI (f_rs a b d)) hx hb hr (fun t ht _ => ⟨_, rfl, congrArg iI (by unfold f_as; grind), ht⟩) (fun q h => nomatch h) dX2_allSign_56
          · refine lv_iload hx hb dX2_allSign_49 (lv_at hl 0 rfl) ?_
            refine lv_goto (tgt := 56) hx hb dX2_allSign_51 (by decide) ?_
            exact W.iret (v := iI (f_sg u)) hx hb hr (fun t ht _ => ⟨_, rfl, congrArg iI (by unfold f_as; grind), ht⟩) (fun q h => nomatch h) dX2_allSign_56
  · refine ix_iconst (n := 0) hx hb dX2_allSign_16 ?_
    refine lv_goto (tgt := 25) hx hb dX2_allSign_17 (by decide) ?_
    refine lv_istore (lv' := [(11, .int (iI 0)), (10, .int (iI (f_rs a b d))), (0, .long (lI a)), (2, .long (lI b)), (4, .long (lI d)), (6, .long (lI u)), (8, .long (lI v))]) hx hb dX2_allSign_25 hl (by decide) rfl (fun ls hl => ?_)
    refine lv_iload hx hb dX2_allSign_27 (lv_at hl 1 rfl) ?_
    refine ix_if_eq (tgt := 44) hx hb dX2_allSign_29 (by decide) (rs_r _ _ _) (fun c14 => ?_) (fun c14 => ?_)
    · refine lv_iload hx hb dX2_allSign_44 (lv_at hl 1 rfl) ?_
      refine ix_if_ne (tgt := 54) hx hb dX2_allSign_46 (by decide) (rs_r _ _ _) (fun c15 => ?_) (fun c15 => ?_)
      · refine lv_iload hx hb dX2_allSign_54 (lv_at hl 1 rfl) ?_
        exact W.iret (v := iI (f_rs a b d)) hx hb hr (fun t ht _ => ⟨_, rfl, congrArg iI (by unfold f_as; grind), ht⟩) (fun q h => nomatch h) dX2_allSign_56
      · refine lv_iload hx hb dX2_allSign_49 (lv_at hl 0 rfl) ?_
        refine lv_goto (tgt := 56) hx hb dX2_allSign_51 (by decide) ?_
        exact W.iret (v := iI 0) hx hb hr (fun t ht _ => ⟨_, rfl, congrArg iI (by unfold f_as; grind), ht⟩) (fun q h => nomatch h) dX2_allSign_56
    · refine lv_iload hx hb dX2_allSign_32 (lv_at hl 0 rfl) ?_
      refine ix_if_eq (tgt := 44) hx hb dX2_allSign_34 (by decide) (by decide) (fun _ => ?_) (fun c16 => absurd c16 (by decide))
      refine lv_iload hx hb dX2_allSign_44 (lv_at hl 1 rfl) ?_
      refine ix_if_ne (tgt := 54) hx hb dX2_allSign_46 (by decide) (rs_r _ _ _) (fun c17 => ?_) (fun c17 => ?_)
      · refine lv_iload hx hb dX2_allSign_54 (lv_at hl 1 rfl) ?_
        exact W.iret (v := iI (f_rs a b d)) hx hb hr (fun t ht _ => ⟨_, rfl, congrArg iI (by unfold f_as; grind), ht⟩) (fun q h => nomatch h) dX2_allSign_56
      · refine lv_iload hx hb dX2_allSign_49 (lv_at hl 0 rfl) ?_
        refine lv_goto (tgt := 56) hx hb dX2_allSign_51 (by decide) ?_
        exact W.iret (v := iI 0) hx hb hr (fun t ht _ => ⟨_, rfl, congrArg iI (by unfold f_as; grind), ht⟩) (fun q h => nomatch h) dX2_allSign_56
end
section
/-- words that hold as long as the tables only grow -/
def wsN : List Cond := [Cond.methodLinkNest "RadicalAnswers" (25 : Nat) (⟨"RadicalAnswers$Factor", "<init>", "()V"⟩ : MethodName) "RadicalAnswers", Cond.fieldLinkNest "RadicalAnswers" (76 : Nat) "RadicalAnswers$Factor" "times" "I" "RadicalAnswers", Cond.fieldLinkNest "RadicalAnswers" (79 : Nat) "RadicalAnswers$Factor" "a" "I" "RadicalAnswers", Cond.fieldLinkNest "RadicalAnswers" (82 : Nat) "RadicalAnswers$Factor" "b" "I" "RadicalAnswers", Cond.fieldLinkNest "RadicalAnswers" (85 : Nat) "RadicalAnswers$Factor" "c" "I" "RadicalAnswers", Cond.fieldLinkNest "RadicalAnswers" (102 : Nat) "RadicalAnswers$Factor" "outside" "I" "RadicalAnswers", Cond.fieldLinkNest "RadicalAnswers" (88 : Nat) "RadicalAnswers$Factor" "inside" "I" "RadicalAnswers", Cond.castable "java/lang/IndexOutOfBoundsException" "java/lang/IndexOutOfBoundsException", Cond.declares (⟨"java/lang/RuntimeException", "<init>", "()V"⟩ : MethodName), Cond.declares (⟨"java/lang/RuntimeException", "<init>", "(Ljava/lang/String;)V"⟩ : MethodName), Cond.declares (⟨"java/lang/Exception", "<init>", "()V"⟩ : MethodName), Cond.declares (⟨"java/lang/Exception", "<init>", "(Ljava/lang/String;)V"⟩ : MethodName), Cond.declares (⟨"java/lang/Throwable", "<init>", "()V"⟩ : MethodName), Cond.declares (⟨"java/lang/Throwable", "<init>", "(Ljava/lang/String;)V"⟩ : MethodName), Cond.castable "java/lang/IllegalArgumentException" "java/lang/IllegalArgumentException", Cond.castable "java/lang/IllegalStateException" "java/lang/IllegalStateException", Cond.methodLinkNest "RadicalAnswers" (173 : Nat) (⟨"RadicalAnswers$Factor", "become", "(IIII)V"⟩ : MethodName) "RadicalAnswers", Cond.methodLinkNest "RadicalAnswers$Factor" (22 : Nat) (⟨"RadicalAnswers", "greatestSquareDividing", "(I)I"⟩ : MethodName) "RadicalAnswers", Cond.methodLinkNest "RadicalAnswers" (176 : Nat) (⟨"RadicalAnswers$Factor", "standsBefore", "(LRadicalAnswers$Factor;)Z"⟩ : MethodName) "RadicalAnswers", Cond.methodLinkNest "RadicalAnswers" (72 : Nat) (⟨"RadicalAnswers$Factor", "isLinear", "()Z"⟩ : MethodName) "RadicalAnswers", Cond.methodLinkNest "RadicalAnswers" (98 : Nat) (⟨"RadicalAnswers$Factor", "middle", "()I"⟩ : MethodName) "RadicalAnswers", Cond.methodLinkNest "RadicalAnswers" (105 : Nat) (⟨"RadicalAnswers$Factor", "below", "()I"⟩ : MethodName) "RadicalAnswers", Cond.methodLinkNest "RadicalAnswers" (112 : Nat) (⟨"RadicalAnswers$Factor", "isReal", "()Z"⟩ : MethodName) "RadicalAnswers", Cond.methodLinkNest "RadicalAnswers" (119 : Nat) (⟨"RadicalAnswers$Factor", "under", "()I"⟩ : MethodName) "RadicalAnswers"]
def warmw : Cond → Bool
  | .fieldLinkNest .. => true
  | .methodLinkNest .. => true
  | .castable .. => true
  | .declares .. => true
  | _ => false
theorem warm_of {w : Cond} (hk : warmw w = true) {s U : State} (hW : s.WarmedH U.vm) (h : va_Nw w s) : va_Nw w U := by
  cases w <;> first | exact va_Nw.warmF hW h | exact va_Nw.warmM hW h | exact va_Nw.warmC hW h | exact va_Nw.warmD hW h | exact Bool.noConfusion hk
theorem warm_ot {w : Cond} (hk : warmw w = true) : w.onTables = true := by
  cases w <;> first | rfl | exact Bool.noConfusion hk
theorem wsN_ok : ∀ w ∈ wsN, warmw w = true := by decide +kernel
theorem wsN_in : ∀ w ∈ wsN, w ∈ lw_tbl := fun w h => List.mem_append_right _ ((by decide +kernel : ∀ w ∈ wsN, w ∈ tables_1) w h)
def wsT : List (Nat × String) := [(137, "no such power"), (36, "not -20 .. 20"), (45, "no such change"), (149, "the equation is 0"), (142, "no such factor"), (91, "no such what"), (96, "no such part of an answer"), (140, "not real")]
/-- what every method of the class takes as given beside its words -/
def nb (U : State) : Prop := (∀ w ∈ wsN, va_Nw w U) ∧ va_AO RX0 U ∧ ∀ q ∈ wsT, ∃ a, vk_R RX1 q.1 q.2 a U
theorem nb.same {u U : State} (h : u.vm = U.vm) (b : nb u) : nb U :=
  ⟨fun w hw => va_Nw.same (warm_ot (wsN_ok w hw)) h (b.1 w hw), va_AO.moved (by rw [h]; exact Vm.Alike.refl _) b.2.1, fun q hq => by
    obtain ⟨a, ha⟩ := b.2.2 q hq
    exact ⟨a, vk_R.same h.symm ha⟩⟩
theorem nb.warm {s U : State} (hW : s.WarmedH U.vm) (b : nb s) : nb U :=
  ⟨fun w hw => warm_of (wsN_ok w hw) hW (b.1 w hw), va_AO.moved hW.alike b.2.1, fun q hq => by
    obtain ⟨a, ha⟩ := b.2.2 q hq
    exact ⟨a, vk_R.warm hW ha⟩⟩
theorem nb.use {s : State} {args : Array Value} (b : nb s) {w : Cond} (h : w ∈ wsN) : w.before args s = true := va_Nw.use (warm_ot (wsN_ok w h)) (b.1 w h)
/-- .. and what a throw needs of the machine's own statics -/
def zt (A : Nat → Prop) (U : State) : Prop := vx_Zq Bundle.tN "UNASSIGNED_STACK" Bundle.steD A U U.heap ∧ vx_Zq Bundle.tN "SUPPRESSED_SENTINEL" Bundle.listD A U U.heap
theorem zt.go {A B : Nat → Prop} {u U : State} (h : zt A u) (hvm : u.vm.Alike U.vm) (hAB : ∀ q, B q → A q) (hq : ∀ a : Nat, a < u.heap.size → ¬ A a → U.heap[a]? = u.heap[a]?) : zt B U :=
  ⟨((h.1.kept hq).moved hvm).narrow hAB, ((h.2.kept hq).moved hvm).narrow hAB⟩
theorem mN_23 : Cond.methodLinkNest "RadicalAnswers" (25 : Nat) (⟨"RadicalAnswers$Factor", "<init>", "()V"⟩ : MethodName) "RadicalAnswers" ∈ wsN := List.mem_of_getElem? (i := 0) rfl
theorem mN_28 : Cond.fieldLinkNest "RadicalAnswers" (76 : Nat) "RadicalAnswers$Factor" "times" "I" "RadicalAnswers" ∈ wsN := List.mem_of_getElem? (i := 1) rfl
theorem mN_30 : Cond.fieldLinkNest "RadicalAnswers" (79 : Nat) "RadicalAnswers$Factor" "a" "I" "RadicalAnswers" ∈ wsN := List.mem_of_getElem? (i := 2) rfl
theorem mN_32 : Cond.fieldLinkNest "RadicalAnswers" (82 : Nat) "RadicalAnswers$Factor" "b" "I" "RadicalAnswers" ∈ wsN := List.mem_of_getElem? (i := 3) rfl
theorem mN_34 : Cond.fieldLinkNest "RadicalAnswers" (85 : Nat) "RadicalAnswers$Factor" "c" "I" "RadicalAnswers" ∈ wsN := List.mem_of_getElem? (i := 4) rfl
theorem mN_36 : Cond.fieldLinkNest "RadicalAnswers" (102 : Nat) "RadicalAnswers$Factor" "outside" "I" "RadicalAnswers" ∈ wsN := List.mem_of_getElem? (i := 5) rfl
theorem mN_38 : Cond.fieldLinkNest "RadicalAnswers" (88 : Nat) "RadicalAnswers$Factor" "inside" "I" "RadicalAnswers" ∈ wsN := List.mem_of_getElem? (i := 6) rfl
theorem mN_93 : Cond.castable "java/lang/IndexOutOfBoundsException" "java/lang/IndexOutOfBoundsException" ∈ wsN := List.mem_of_getElem? (i := 7) rfl
theorem mN_94 : Cond.declares (⟨"java/lang/RuntimeException", "<init>", "()V"⟩ : MethodName) ∈ wsN := List.mem_of_getElem? (i := 8) rfl
theorem mN_95 : Cond.declares (⟨"java/lang/RuntimeException", "<init>", "(Ljava/lang/String;)V"⟩ : MethodName) ∈ wsN := List.mem_of_getElem? (i := 9) rfl
theorem mN_96 : Cond.declares (⟨"java/lang/Exception", "<init>", "()V"⟩ : MethodName) ∈ wsN := List.mem_of_getElem? (i := 10) rfl
theorem mN_97 : Cond.declares (⟨"java/lang/Exception", "<init>", "(Ljava/lang/String;)V"⟩ : MethodName) ∈ wsN := List.mem_of_getElem? (i := 11) rfl
theorem mN_98 : Cond.declares (⟨"java/lang/Throwable", "<init>", "()V"⟩ : MethodName) ∈ wsN := List.mem_of_getElem? (i := 12) rfl
theorem mN_99 : Cond.declares (⟨"java/lang/Throwable", "<init>", "(Ljava/lang/String;)V"⟩ : MethodName) ∈ wsN := List.mem_of_getElem? (i := 13) rfl
theorem mN_164 : Cond.castable "java/lang/IllegalArgumentException" "java/lang/IllegalArgumentException" ∈ wsN := List.mem_of_getElem? (i := 14) rfl
theorem mN_221 : Cond.castable "java/lang/IllegalStateException" "java/lang/IllegalStateException" ∈ wsN := List.mem_of_getElem? (i := 15) rfl
theorem mN_261 : Cond.methodLinkNest "RadicalAnswers" (173 : Nat) (⟨"RadicalAnswers$Factor", "become", "(IIII)V"⟩ : MethodName) "RadicalAnswers" ∈ wsN := List.mem_of_getElem? (i := 16) rfl
theorem mN_265 : Cond.methodLinkNest "RadicalAnswers$Factor" (22 : Nat) (⟨"RadicalAnswers", "greatestSquareDividing", "(I)I"⟩ : MethodName) "RadicalAnswers" ∈ wsN := List.mem_of_getElem? (i := 17) rfl
theorem mN_268 : Cond.methodLinkNest "RadicalAnswers" (176 : Nat) (⟨"RadicalAnswers$Factor", "standsBefore", "(LRadicalAnswers$Factor;)Z"⟩ : MethodName) "RadicalAnswers" ∈ wsN := List.mem_of_getElem? (i := 18) rfl
theorem mN_300 : Cond.methodLinkNest "RadicalAnswers" (72 : Nat) (⟨"RadicalAnswers$Factor", "isLinear", "()Z"⟩ : MethodName) "RadicalAnswers" ∈ wsN := List.mem_of_getElem? (i := 19) rfl
theorem mN_324 : Cond.methodLinkNest "RadicalAnswers" (98 : Nat) (⟨"RadicalAnswers$Factor", "middle", "()I"⟩ : MethodName) "RadicalAnswers" ∈ wsN := List.mem_of_getElem? (i := 20) rfl
theorem mN_325 : Cond.methodLinkNest "RadicalAnswers" (105 : Nat) (⟨"RadicalAnswers$Factor", "below", "()I"⟩ : MethodName) "RadicalAnswers" ∈ wsN := List.mem_of_getElem? (i := 21) rfl
theorem mN_333 : Cond.methodLinkNest "RadicalAnswers" (112 : Nat) (⟨"RadicalAnswers$Factor", "isReal", "()Z"⟩ : MethodName) "RadicalAnswers" ∈ wsN := List.mem_of_getElem? (i := 22) rfl
theorem mN_348 : Cond.methodLinkNest "RadicalAnswers" (119 : Nat) (⟨"RadicalAnswers$Factor", "under", "()I"⟩ : MethodName) "RadicalAnswers" ∈ wsN := List.mem_of_getElem? (i := 23) rfl
/-- a factor's six numbers -/
abbrev fl (F : Int → Int) : List Value := [.int (iI (F 0)), .int (iI (F 1)), .int (iI (F 2)), .int (iI (F 3)), .int (iI (F 4)), .int (iI (F 5))]
theorem nz_b {x : Int} (h : x = 0 ∨ x = 1) : narrow .boolean (.int (iI x)) = .int (iI x) := by rcases h with rfl | rfl <;> rfl
def f_lin (F : Int → Int) : Int := if F 1 = 0 then 1 else 0
def f_mid (F : Int → Int) : Int := if F 1 = 0 then -(F 3) else -(F 2)
def f_below (F : Int → Int) : Int := if F 1 = 0 then F 2 else 2 * F 1
def f_under (F : Int → Int) : Int := F 4 * F 4 * F 5
def f_real (F : Int → Int) : Int := if 0 ≤ F 5 then 1 else 0
def f_deg (N : Int → Int) : Int := if N 4 = 0 then (if N 3 = 0 then (if N 2 = 0 then (if N 1 = 0 then (if N 0 = 0 then -1 else 0) else 1) else 2) else 3) else 4
def f_before (F G : Int → Int) : Int := if f_lin F = f_lin G then (if f_lin F = 0 then (if F 1 = G 1 then (if F 2 = G 2 then (if F 3 < G 3 then 1 else 0) else (if F 2 < G 2 then 1 else 0)) else (if F 1 < G 1 then 1 else 0)) else (if f_mid F * f_below G < f_mid G * f_below F then 1 else 0)) else f_lin F
end
section
set_option maxHeartbeats 4000000 in
set_option maxRecDepth 100000 in
theorem kX0_isLinear (l : Launch) (dC : Nat → ClassId) (dI : Nat → Nat → Nat) (q : Nat) (F : Int → Int) (hF : ∀ j, -1002000 ≤ F j ∧ F j ≤ 1002000) : Met l yX0_isLinear (.code yX0_isLinear cX0_isLinear 1 (some .boolean) :: wsA) ({ frames := 0, cells := 0, slots := 0, locals := 0 }) (va_Pc [.ref q] (fun U => va_P (dC, dI) vwCl [(q, .inr (0, [.int (iI (F 0)), .int (iI (F 1)), .int (iI (F 2)), .int (iI (F 3)), .int (iI (F 4)), .int (iI (F 5))]))] U.heap ∧ va_K (dC, dI) vwCl [] U)) (vp_Si (fun r => r = iI (f_lin F))) 0 0 (fun _ => False) := by
  refine Met.ofW (cc := cX0_isLinear) (maxL := 1) (ret := (some .boolean)) (by decide) rfl ?_
  intro p e s m args below meth c s₁ B hml hv
  obtain ⟨rfl, hP, hK⟩ := hv
  have hx := B.exec
  have hb := B.bytes
  have hr := B.returns
  have hts := atoms_spec (ws := .code yX0_isLinear cX0_isLinear 1 (some .boolean) :: wsA) B.pre
  have hw : ∀ w ∈ wsA, w.before _ s = true := fun w h => hts w (List.mem_cons_of_mem _ h)
  have hown : s.vm.findClass RX0 = some m.cls := findClass_of_methodNamed B.named
  have hlocks := B.notSynchronized
  have hl := lv_entry ([.ref q]) (n := 1) (Nat.le_of_ble_eq_true rfl)
  rw [lg_entry_eq]
  generalize (lg_sl ([.ref q]) ++ List.replicate (1 - (lg_sl ([.ref q])).length) Slot.unset).toArray = ls at hl ⊢
  have hl : lv_has ls 1 [(0, .ref q)] := hl
  refine lv_aload_n hx hb dX0_isLinear_0 rfl (lv_at hl 0 rfl) ?_
  refine va_get (D := (dC, dI)) (ci := 0) (v := .int (iI (F 1))) (C := RX0) (T := TX0) (N := 6) hx hb hw inX0 hown hK hP 0 rfl rfl 1 (by decide) (hw _ mA_29) (fun _ h9 => h9) rfl dX0_isLinear_1 ?_
  refine ix_if_ne (tgt := 11) hx hb dX0_isLinear_4 (by decide) ⟨by have := (hF 1).1; omega, by have := (hF 1).2; omega⟩ (fun c1 => ?_) (fun c1 => ?_)
  · refine ix_iconst (n := 0) hx hb dX0_isLinear_11 ?_
    exact W.zret (v := iI 0) hx hb hr (by decide) (fun t ht _ => ⟨_, rfl, congrArg iI (by unfold f_lin; grind), ht⟩) (fun q h => nomatch h) dX0_isLinear_12
  · refine ix_iconst (n := 1) hx hb dX0_isLinear_7 ?_
    refine lv_goto (tgt := 12) hx hb dX0_isLinear_8 (by decide) ?_
    exact W.zret (v := iI 1) hx hb hr (by decide) (fun t ht _ => ⟨_, rfl, congrArg iI (by unfold f_lin; grind), ht⟩) (fun q h => nomatch h) dX0_isLinear_12
set_option maxHeartbeats 4000000 in
set_option maxRecDepth 100000 in
theorem kX0_isReal (l : Launch) (dC : Nat → ClassId) (dI : Nat → Nat → Nat) (q : Nat) (F : Int → Int) (hF : ∀ j, -1002000 ≤ F j ∧ F j ≤ 1002000) : Met l yX0_isReal (.code yX0_isReal cX0_isReal 1 (some .boolean) :: wsA) ({ frames := 0, cells := 0, slots := 0, locals := 0 }) (va_Pc [.ref q] (fun U => va_P (dC, dI) vwCl [(q, .inr (0, [.int (iI (F 0)), .int (iI (F 1)), .int (iI (F 2)), .int (iI (F 3)), .int (iI (F 4)), .int (iI (F 5))]))] U.heap ∧ va_K (dC, dI) vwCl [] U)) (vp_Si (fun r => r = iI (f_real F))) 0 0 (fun _ => False) := by
  refine Met.ofW (cc := cX0_isReal) (maxL := 1) (ret := (some .boolean)) (by decide) rfl ?_
  intro p e s m args below meth c s₁ B hml hv
  obtain ⟨rfl, hP, hK⟩ := hv
  have hx := B.exec
  have hb := B.bytes
  have hr := B.returns
  have hts := atoms_spec (ws := .code yX0_isReal cX0_isReal 1 (some .boolean) :: wsA) B.pre
  have hw : ∀ w ∈ wsA, w.before _ s = true := fun w h => hts w (List.mem_cons_of_mem _ h)
  have hown : s.vm.findClass RX0 = some m.cls := findClass_of_methodNamed B.named
  have hlocks := B.notSynchronized
  have hl := lv_entry ([.ref q]) (n := 1) (Nat.le_of_ble_eq_true rfl)
  rw [lg_entry_eq]
  generalize (lg_sl ([.ref q]) ++ List.replicate (1 - (lg_sl ([.ref q])).length) Slot.unset).toArray = ls at hl ⊢
  have hl : lv_has ls 1 [(0, .ref q)] := hl
  refine lv_aload_n hx hb dX0_isReal_0 rfl (lv_at hl 0 rfl) ?_
  refine va_get (D := (dC, dI)) (ci := 0) (v := .int (iI (F 5))) (C := RX0) (T := TX0) (N := 6) hx hb hw inX0 hown hK hP 0 rfl rfl 5 (by decide) (hw _ mA_37) (fun _ h9 => h9) rfl dX0_isReal_1 ?_
  refine ix_if_lt (tgt := 11) hx hb dX0_isReal_4 (by decide) ⟨by have := (hF 5).1; omega, by have := (hF 5).2; omega⟩ (fun c1 => ?_) (fun c1 => ?_)
  · refine ix_iconst (n := 0) hx hb dX0_isReal_11 ?_
    exact W.zret (v := iI 0) hx hb hr (by decide) (fun t ht _ => ⟨_, rfl, congrArg iI (by unfold f_real; grind), ht⟩) (fun q h => nomatch h) dX0_isReal_12
  · refine ix_iconst (n := 1) hx hb dX0_isReal_7 ?_
    refine lv_goto (tgt := 12) hx hb dX0_isReal_8 (by decide) ?_
    exact W.zret (v := iI 1) hx hb hr (by decide) (fun t ht _ => ⟨_, rfl, congrArg iI (by unfold f_real; grind), ht⟩) (fun q h => nomatch h) dX0_isReal_12
set_option maxHeartbeats 4000000 in
set_option maxRecDepth 100000 in
theorem kX0_middle (l : Launch) (dC : Nat → ClassId) (dI : Nat → Nat → Nat) (q : Nat) (F : Int → Int) (hF : ∀ j, -1002000 ≤ F j ∧ F j ≤ 1002000) : Met l yX0_middle (.code yX0_middle cX0_middle 1 (some .int) :: wsA) ({ frames := 0, cells := 0, slots := 0, locals := 0 }) (va_Pc [.ref q] (fun U => va_P (dC, dI) vwCl [(q, .inr (0, [.int (iI (F 0)), .int (iI (F 1)), .int (iI (F 2)), .int (iI (F 3)), .int (iI (F 4)), .int (iI (F 5))]))] U.heap ∧ va_K (dC, dI) vwCl [] U)) (vp_Si (fun r => r = iI (f_mid F))) 0 0 (fun _ => False) := by
  refine Met.ofW (cc := cX0_middle) (maxL := 1) (ret := (some .int)) (by decide) rfl ?_
  intro p e s m args below meth c s₁ B hml hv
  obtain ⟨rfl, hP, hK⟩ := hv
  have hx := B.exec
  have hb := B.bytes
  have hr := B.returns
  have hts := atoms_spec (ws := .code yX0_middle cX0_middle 1 (some .int) :: wsA) B.pre
  have hw : ∀ w ∈ wsA, w.before _ s = true := fun w h => hts w (List.mem_cons_of_mem _ h)
  have hown : s.vm.findClass RX0 = some m.cls := findClass_of_methodNamed B.named
  have hlocks := B.notSynchronized
  have hl := lv_entry ([.ref q]) (n := 1) (Nat.le_of_ble_eq_true rfl)
  rw [lg_entry_eq]
  generalize (lg_sl ([.ref q]) ++ List.replicate (1 - (lg_sl ([.ref q])).length) Slot.unset).toArray = ls at hl ⊢
  have hl : lv_has ls 1 [(0, .ref q)] := hl
  refine lv_aload_n hx hb dX0_middle_0 rfl (lv_at hl 0 rfl) ?_
  refine va_get (D := (dC, dI)) (ci := 0) (v := .int (iI (F 1))) (C := RX0) (T := TX0) (N := 6) hx hb hw inX0 hown hK hP 0 rfl rfl 1 (by decide) (hw _ mA_29) (fun _ h9 => h9) rfl dX0_middle_1 ?_
  refine ix_if_ne (tgt := 15) hx hb dX0_middle_4 (by decide) ⟨by have := (hF 1).1; omega, by have := (hF 1).2; omega⟩ (fun c1 => ?_) (fun c1 => ?_)
  · refine lv_aload_n hx hb dX0_middle_15 rfl (lv_at hl 0 rfl) ?_
    refine va_get (D := (dC, dI)) (ci := 0) (v := .int (iI (F 2))) (C := RX0) (T := TX0) (N := 6) hx hb hw inX0 hown hK hP 0 rfl rfl 2 (by decide) (hw _ mA_31) (fun _ h9 => h9) rfl dX0_middle_16 ?_
    refine ix_ineg hx hb dX0_middle_19 ?_
    exact W.iret (v := iI (-(F 2))) hx hb hr (fun t ht _ => ⟨_, rfl, congrArg iI (by unfold f_mid; grind), ht⟩) (fun q h => nomatch h) dX0_middle_20
  · refine lv_aload_n hx hb dX0_middle_7 rfl (lv_at hl 0 rfl) ?_
    refine va_get (D := (dC, dI)) (ci := 0) (v := .int (iI (F 3))) (C := RX0) (T := TX0) (N := 6) hx hb hw inX0 hown hK hP 0 rfl rfl 3 (by decide) (hw _ mA_33) (fun _ h9 => h9) rfl dX0_middle_8 ?_
    refine ix_ineg hx hb dX0_middle_11 ?_
    refine lv_goto (tgt := 20) hx hb dX0_middle_12 (by decide) ?_
    exact W.iret (v := iI (-(F 3))) hx hb hr (fun t ht _ => ⟨_, rfl, congrArg iI (by unfold f_mid; grind), ht⟩) (fun q h => nomatch h) dX0_middle_20
set_option maxHeartbeats 4000000 in
set_option maxRecDepth 100000 in
theorem kX0_below (l : Launch) (dC : Nat → ClassId) (dI : Nat → Nat → Nat) (q : Nat) (F : Int → Int) (hF : ∀ j, -1002000 ≤ F j ∧ F j ≤ 1002000) : Met l yX0_below (.code yX0_below cX0_below 1 (some .int) :: wsA) ({ frames := 0, cells := 0, slots := 0, locals := 0 }) (va_Pc [.ref q] (fun U => va_P (dC, dI) vwCl [(q, .inr (0, [.int (iI (F 0)), .int (iI (F 1)), .int (iI (F 2)), .int (iI (F 3)), .int (iI (F 4)), .int (iI (F 5))]))] U.heap ∧ va_K (dC, dI) vwCl [] U)) (vp_Si (fun r => r = iI (f_below F))) 0 0 (fun _ => False) := by
  refine Met.ofW (cc := cX0_below) (maxL := 1) (ret := (some .int)) (by decide) rfl ?_
  intro p e s m args below meth c s₁ B hml hv
  obtain ⟨rfl, hP, hK⟩ := hv
  have hx := B.exec
  have hb := B.bytes
  have hr := B.returns
  have hts := atoms_spec (ws := .code yX0_below cX0_below 1 (some .int) :: wsA) B.pre
  have hw : ∀ w ∈ wsA, w.before _ s = true := fun w h => hts w (List.mem_cons_of_mem _ h)
  have hown : s.vm.findClass RX0 = some m.cls := findClass_of_methodNamed B.named
  have hlocks := B.notSynchronized
  have hl := lv_entry ([.ref q]) (n := 1) (Nat.le_of_ble_eq_true rfl)
  rw [lg_entry_eq]
  generalize (lg_sl ([.ref q]) ++ List.replicate (1 - (lg_sl ([.ref q])).length) Slot.unset).toArray = ls at hl ⊢
  have hl : lv_has ls 1 [(0, .ref q)] := hl
  refine lv_aload_n hx hb dX0_below_0 rfl (lv_at hl 0 rfl) ?_
  refine va_get (D := (dC, dI)) (ci := 0) (v := .int (iI (F 1))) (C := RX0) (T := TX0) (N := 6) hx hb hw inX0 hown hK hP 0 rfl rfl 1 (by decide) (hw _ mA_29) (fun _ h9 => h9) rfl dX0_below_1 ?_
  refine ix_if_ne (tgt := 14) hx hb dX0_below_4 (by decide) ⟨by have := (hF 1).1; omega, by have := (hF 1).2; omega⟩ (fun c1 => ?_) (fun c1 => ?_)
  · refine ix_iconst (n := 2) hx hb dX0_below_14 ?_
    refine lv_aload_n hx hb dX0_below_15 rfl (lv_at hl 0 rfl) ?_
    refine va_get (D := (dC, dI)) (ci := 0) (v := .int (iI (F 1))) (C := RX0) (T := TX0) (N := 6) hx hb hw inX0 hown hK hP 0 rfl rfl 1 (by decide) (hw _ mA_29) (fun _ h9 => h9) rfl dX0_below_16 ?_
    refine ix_imul hx hb dX0_below_19 ?_
    exact W.iret (v := iI (2 * (F 1))) hx hb hr (fun t ht _ => ⟨_, rfl, congrArg iI (by unfold f_below; grind), ht⟩) (fun q h => nomatch h) dX0_below_20
  · refine lv_aload_n hx hb dX0_below_7 rfl (lv_at hl 0 rfl) ?_
    refine va_get (D := (dC, dI)) (ci := 0) (v := .int (iI (F 2))) (C := RX0) (T := TX0) (N := 6) hx hb hw inX0 hown hK hP 0 rfl rfl 2 (by decide) (hw _ mA_31) (fun _ h9 => h9) rfl dX0_below_8 ?_
    refine lv_goto (tgt := 20) hx hb dX0_below_11 (by decide) ?_
    exact W.iret (v := iI (F 2)) hx hb hr (fun t ht _ => ⟨_, rfl, congrArg iI (by unfold f_below; grind), ht⟩) (fun q h => nomatch h) dX0_below_20
set_option maxHeartbeats 4000000 in
set_option maxRecDepth 100000 in
theorem kX0_under (l : Launch) (dC : Nat → ClassId) (dI : Nat → Nat → Nat) (q : Nat) (F : Int → Int) (hF : ∀ j, -1002000 ≤ F j ∧ F j ≤ 1002000) : Met l yX0_under (.code yX0_under cX0_under 1 (some .int) :: wsA) ({ frames := 0, cells := 0, slots := 0, locals := 0 }) (va_Pc [.ref q] (fun U => va_P (dC, dI) vwCl [(q, .inr (0, [.int (iI (F 0)), .int (iI (F 1)), .int (iI (F 2)), .int (iI (F 3)), .int (iI (F 4)), .int (iI (F 5))]))] U.heap ∧ va_K (dC, dI) vwCl [] U)) (vp_Si (fun r => r = iI (f_under F))) 0 0 (fun _ => False) := by
  refine Met.ofW (cc := cX0_under) (maxL := 1) (ret := (some .int)) (by decide) rfl ?_
  intro p e s m args below meth c s₁ B hml hv
  obtain ⟨rfl, hP, hK⟩ := hv
  have hx := B.exec
  have hb := B.bytes
  have hr := B.returns
  have hts := atoms_spec (ws := .code yX0_under cX0_under 1 (some .int) :: wsA) B.pre
  have hw : ∀ w ∈ wsA, w.before _ s = true := fun w h => hts w (List.mem_cons_of_mem _ h)
  have hown : s.vm.findClass RX0 = some m.cls := findClass_of_methodNamed B.named
  have hlocks := B.notSynchronized
  have hl := lv_entry ([.ref q]) (n := 1) (Nat.le_of_ble_eq_true rfl)
  rw [lg_entry_eq]
  generalize (lg_sl ([.ref q]) ++ List.replicate (1 - (lg_sl ([.ref q])).length) Slot.unset).toArray = ls at hl ⊢
  have hl : lv_has ls 1 [(0, .ref q)] := hl
  refine lv_aload_n hx hb dX0_under_0 rfl (lv_at hl 0 rfl) ?_
  refine va_get (D := (dC, dI)) (ci := 0) (v := .int (iI (F 4))) (C := RX0) (T := TX0) (N := 6) hx hb hw inX0 hown hK hP 0 rfl rfl 4 (by decide) (hw _ mA_35) (fun _ h9 => h9) rfl dX0_under_1 ?_
  refine lv_aload_n hx hb dX0_under_4 rfl (lv_at hl 0 rfl) ?_
  refine va_get (D := (dC, dI)) (ci := 0) (v := .int (iI (F 4))) (C := RX0) (T := TX0) (N := 6) hx hb hw inX0 hown hK hP 0 rfl rfl 4 (by decide) (hw _ mA_35) (fun _ h9 => h9) rfl dX0_under_5 ?_
  refine ix_imul hx hb dX0_under_8 ?_
  refine lv_aload_n hx hb dX0_under_9 rfl (lv_at hl 0 rfl) ?_
  refine va_get (D := (dC, dI)) (ci := 0) (v := .int (iI (F 5))) (C := RX0) (T := TX0) (N := 6) hx hb hw inX0 hown hK hP 0 rfl rfl 5 (by decide) (hw _ mA_37) (fun _ h9 => h9) rfl dX0_under_10 ?_
  refine ix_imul hx hb dX0_under_13 ?_
  exact W.iret (v := iI (((F 4) * (F 4)) * (F 5))) hx hb hr (fun t ht _ => ⟨_, rfl, congrArg iI (by unfold f_under; grind), ht⟩) (fun q h => nomatch h) dX0_under_14
set_option maxHeartbeats 4000000 in
set_option maxRecDepth 100000 in
theorem kX1_degreeOf (l : Launch) (dC : Nat → ClassId) (dI : Nat → Nat → Nat) (q : Nat) (cI : ClassId) (N : Int → Int) (hN : ∀ j, r32 (N j)) : Met l yX1_degreeOf (.code yX1_degreeOf cX1_degreeOf 2 (some .int) :: wsA) ({ frames := 0, cells := 0, slots := 0, locals := 0 }) (va_Pc [.ref q] (fun U => va_P (dC, dI) vwCl [(q, .inl (cI, 5, .inl (aI N)))] U.heap ∧ va_K (dC, dI) vwCl [(cI, .int)] U)) (vp_Si (fun r => r = iI (f_deg N))) 0 0 (fun _ => False) := by
  refine Met.ofW (cc := cX1_degreeOf) (maxL := 2) (ret := (some .int)) (by decide) rfl ?_
  intro p e s m args below meth c s₁ B hml hv
  obtain ⟨rfl, hP, hK⟩ := hv
  have hx := B.exec
  have hb := B.bytes
  have hr := B.returns
  have hts := atoms_spec (ws := .code yX1_degreeOf cX1_degreeOf 2 (some .int) :: wsA) B.pre
  have hw : ∀ w ∈ wsA, w.before _ s = true := fun w h => hts w (List.mem_cons_of_mem _ h)
  have hown : s.vm.findClass RX1 = some m.cls := findClass_of_methodNamed B.named
  have hlocks := B.notSynchronized
  have hl := lv_entry ([.ref q]) (n := 2) (Nat.le_of_ble_eq_true rfl)
  rw [lg_entry_eq]
  generalize (lg_sl ([.ref q]) ++ List.replicate (2 - (lg_sl ([.ref q])).length) Slot.unset).toArray = ls at hl ⊢
  have hl : lv_has ls 2 [(0, .ref q)] := hl
  refine lv_aload_n hx hb dX1_degreeOf_0 rfl (lv_at hl 0 rfl) ?_
  refine va_alen (v := iI 5) hx hb hK hP 0 0 rfl rfl rfl dX1_degreeOf_1 ?_
  refine ix_iconst (n := 1) hx hb dX1_degreeOf_2 ?_
  refine ix_isub hx hb dX1_degreeOf_3 ?_
  refine ix_z (y := 4) rfl ?_
  refine lv_istore_n (lv' := [(1, .int (iI 4)), (0, .ref q)]) hx hb dX1_degreeOf_4 rfl hl (by decide) rfl (fun ls hl => ?_)
  refine lv_iload_n hx hb dX1_degreeOf_5 rfl (lv_at hl 0 rfl) ?_
  refine ix_if_lt (tgt := 21) hx hb dX1_degreeOf_6 (by decide) (by decide) (fun c1 => absurd c1 (by decide)) (fun _ => ?_)
  refine lv_aload_n hx hb dX1_degreeOf_9 rfl (lv_at hl 1 rfl) ?_
  refine lv_iload_n hx hb dX1_degreeOf_10 rfl (lv_at hl 0 rfl) ?_
  refine ix_iald (k := 4) hx hb hK hP 0 0 rfl rfl (by decide) (by decide) (by decide) dX1_degreeOf_11 ?_
  refine ix_if_ne (tgt := 21) hx hb dX1_degreeOf_12 (by decide) (hN 4) (fun c2 => ?_) (fun c2 => ?_)
  · refine lv_iload_n hx hb dX1_degreeOf_21 rfl (lv_at hl 0 rfl) ?_
    exact W.iret (v := iI 4) hx hb hr (fun t ht _ => ⟨_, rfl, congrArg iI (by unfold f_deg; grind), ht⟩) (fun q h => nomatch h) dX1_degreeOf_22
  · refine ix_iinc (k := 0) (lv2 := [(1, .int (iI 3)), (0, .ref q)]) hx hb dX1_degreeOf_15 hl rfl (by decide) rfl (fun ls hl => ?_)
    refine lv_goto (tgt := 5) hx hb dX1_degreeOf_18 (by decide) ?_
    refine lv_iload_n hx hb dX1_degreeOf_5 rfl (lv_at hl 0 rfl) ?_
    refine ix_if_lt (tgt := 21) hx hb dX1_degreeOf_6 (by decide) (by decide) (fun c3 => absurd c3 (by decide)) (fun _ => ?_)
    refine lv_aload_n hx hb dX1_degreeOf_9 rfl (lv_at hl 1 rfl) ?_
    refine lv_iload_n hx hb dX1_degreeOf_10 rfl (lv_at hl 0 rfl) ?_
    refine ix_iald (k := 3) hx hb hK hP 0 0 rfl rfl (by decide) (by decide) (by decide) dX1_degreeOf_11 ?_
    refine ix_if_ne (tgt := 21) hx hb dX1_degreeOf_12 (by decide) (hN 3) (fun c4 => ?_) (fun c4 => ?_)
    · refine lv_iload_n hx hb dX1_degreeOf_21 rfl (lv_at hl 0 rfl) ?_
      exact W.iret (v := iI 3) hx hb hr (fun t ht _ => ⟨_, rfl, congrArg iI (by unfold f_deg; grind), ht⟩) (fun q h => nomatch h) dX1_degreeOf_22
    · refine ix_iinc (k := 0) (lv2 := [(1, .int (iI 2)), (0, .ref q)]) hx hb dX1_degreeOf_15 hl rfl (by decide) rfl (fun ls hl => ?_)
      refine lv_goto (tgt := 5) hx hb dX1_degreeOf_18 (by decide) ?_
      refine lv_iload_n hx hb dX1_degreeOf_5 rfl (lv_at hl 0 rfl) ?_
      refine ix_if_lt (tgt := 21) hx hb dX1_degreeOf_6 (by decide) (by decide) (fun c5 => absurd c5 (by decide)) (fun _ => ?_)
      refine lv_aload_n hx hb dX1_degreeOf_9 rfl (lv_at hl 1 rfl) ?_
      refine lv_iload_n hx hb dX1_degreeOf_10 rfl (lv_at hl 0 rfl) ?_
      refine ix_iald (k := 2) hx hb hK hP 0 0 rfl rfl (by decide) (by decide) (by decide) dX1_degreeOf_11 ?_
      refine ix_if_ne (tgt := 21) hx hb dX1_degreeOf_12 (by decide) (hN 2) (fun c6 => ?_) (fun c6 => ?_)
      · refine lv_iload_n hx hb dX1_degreeOf_21 rfl (lv_at hl 0 rfl) ?_
        exact W.iret (v := iI 2) hx hb hr (fun t ht _ => ⟨_, rfl, congrArg iI (by unfold f_deg; grind), ht⟩) (fun q h => nomatch h) dX1_degreeOf_22
      · refine ix_iinc (k := 0) (lv2 := [(1, .int (iI 1)), (0, .ref q)]) hx hb dX1_degreeOf_15 hl rfl (by decide) rfl (fun ls hl => ?_)
        refine lv_goto (tgt := 5) hx hb dX1_degreeOf_18 (by decide) ?_
        refine lv_iload_n hx hb dX1_degreeOf_5 rfl (lv_at hl 0 rfl) ?_
        refine ix_if_lt (tgt := 21) hx hb dX1_degreeOf_6 (by decide) (by decide) (fun c7 => absurd c7 (by decide)) (fun _ => ?_)
        refine lv_aload_n hx hb dX1_degreeOf_9 rfl (lv_at hl 1 rfl) ?_
        refine lv_iload_n hx hb dX1_degreeOf_10 rfl (lv_at hl 0 rfl) ?_
        refine ix_iald (k := 1) hx hb hK hP 0 0 rfl rfl (by decide) (by decide) (by decide) dX1_degreeOf_11 ?_
        refine ix_if_ne (tgt := 21) hx hb dX1_degreeOf_12 (by decide) (hN 1) (fun c8 => ?_) (fun c8 => ?_)
        · refine lv_iload_n hx hb dX1_degreeOf_21 rfl (lv_at hl 0 rfl) ?_
          exact W.iret (v := iI 1) hx hb hr (fun t ht _ => ⟨_, rfl, congrArg iI (by unfold f_deg; grind), ht⟩) (fun q h => nomatch h) dX1_degreeOf_22
        · refine ix_iinc (k := 0) (lv2 := [(1, .int (iI 0)), (0, .ref q)]) hx hb dX1_degreeOf_15 hl rfl (by decide) rfl (fun ls hl => ?_)
          refine lv_goto (tgt := 5) hx hb dX1_degreeOf_18 (by decide) ?_
          refine lv_iload_n hx hb dX1_degreeOf_5 rfl (lv_at hl 0 rfl) ?_
          refine ix_if_lt (tgt := 21) hx hb dX1_degreeOf_6 (by decide) (by decide) (fun c9 => absurd c9 (by decide)) (fun _ => ?_)
          refine lv_aload_n hx hb dX1_degreeOf_9 rfl (lv_at hl 1 rfl) ?_
          refine lv_iload_n hx hb dX1_degreeOf_10 rfl (lv_at hl 0 rfl) ?_
          refine ix_iald (k := 0) hx hb hK hP 0 0 rfl rfl (by decide) (by decide) (by decide) dX1_degreeOf_11 ?_
          refine ix_if_ne (tgt := 21) hx hb dX1_degreeOf_12 (by decide) (hN 0) (fun c10 => ?_) (fun c10 => ?_)
          · refine lv_iload_n hx hb dX1_degreeOf_21 rfl (lv_at hl 0 rfl) ?_
            exact W.iret (v := iI 0) hx hb hr (fun t ht _ => ⟨_, rfl, congrArg iI (by unfold f_deg; grind), ht⟩) (fun q h => nomatch h) dX1_degreeOf_22
          · refine ix_iinc (k := 0) (lv2 := [(1, .int (iI (-1))), (0, .ref q)]) hx hb dX1_degreeOf_15 hl rfl (by decide) rfl (fun ls hl => ?_)
            refine lv_goto (tgt := 5) hx hb dX1_degreeOf_18 (by decide) ?_
            refine lv_iload_n hx hb dX1_degreeOf_5 rfl (lv_at hl 0 rfl) ?_
            refine ix_if_lt (tgt := 21) hx hb dX1_degreeOf_6 (by decide) (by decide) (fun _ => ?_) (fun c11 => absurd c11 (by decide))
            refine lv_iload_n hx hb dX1_degreeOf_21 rfl (lv_at hl 0 rfl) ?_
            exact W.iret (v := iI (-1)) hx hb hr (fun t ht _ => ⟨_, rfl, congrArg iI (by unfold f_deg; grind), ht⟩) (fun q h => nomatch h) dX1_degreeOf_22
theorem lin_r (F : Int → Int) : r32 (f_lin F) := by unfold f_lin; grind
set_option maxHeartbeats 4000000 in
set_option maxRecDepth 100000 in
theorem kX0_standsBefore (l : Launch) (dC : Nat → ClassId) (dI : Nat → Nat → Nat) (q q2 : Nat) (F G : Int → Int) (hF : ∀ j, -1002000 ≤ F j ∧ F j ≤ 1002000) (hG : ∀ j, -1002000 ≤ G j ∧ G j ≤ 1002000) (hm1 : r32 (f_mid F * f_below G)) (hm2 : r32 (f_mid G * f_below F)) : Met l yX0_standsBefore (.code yX0_standsBefore cX0_standsBefore 2 (some .boolean) :: wsA) ({ frames := 1, cells := 0, slots := 0, locals := 40 }) (va_Pc [.ref q, .ref q2] (fun U => va_P (dC, dI) vwCl [(q, .inr (0, [.int (iI (F 0)), .int (iI (F 1)), .int (iI (F 2)), .int (iI (F 3)), .int (iI (F 4)), .int (iI (F 5))])), (q2, .inr (0, [.int (iI (G 0)), .int (iI (G 1)), .int (iI (G 2)), .int (iI (G 3)), .int (iI (G 4)), .int (iI (G 5))]))] U.heap ∧ va_K (dC, dI) vwCl [] U)) (vp_Si (fun r => r = iI (f_before F G))) 0 0 (fun _ => False) := by
  refine Met.ofW (cc := cX0_standsBefore) (maxL := 2) (ret := (some .boolean)) (by decide) rfl ?_
  intro p e s m args below meth c s₁ B hml hv
  obtain ⟨rfl, hP, hK⟩ := hv
  have hx := B.exec
  have hb := B.bytes
  have hr := B.returns
  have hts := atoms_spec (ws := .code yX0_standsBefore cX0_standsBefore 2 (some .boolean) :: wsA) B.pre
  have hw : ∀ w ∈ wsA, w.before _ s = true := fun w h => hts w (List.mem_cons_of_mem _ h)
  have hown : s.vm.findClass RX0 = some m.cls := findClass_of_methodNamed B.named
  have hlocks := B.notSynchronized
  have hl := lv_entry ([.ref q, .ref q2]) (n := 2) (Nat.le_of_ble_eq_true rfl)
  rw [lg_entry_eq]
  generalize (lg_sl ([.ref q, .ref q2]) ++ List.replicate (2 - (lg_sl ([.ref q, .ref q2])).length) Slot.unset).toArray = ls at hl ⊢
  have hl : lv_has ls 2 [(0, .ref q), (1, .ref q2)] := hl
  refine lv_aload_n hx hb dX0_standsBefore_0 rfl (lv_at hl 0 rfl) ?_
  have hPc := hP.sub (ws' := [(q, .inr (0, [.int (iI (F 0)), .int (iI (F 1)), .int (iI (F 2)), .int (iI (F 3)), .int (iI (F 4)), .int (iI (F 5))]))]) [0] rfl
  have hKc := hK.sub (tys' := []) [] rfl
  refine vp_callSi (W.runV (As := []) (rest := []) ⟨hx, hb, hml, hown, hw⟩ (kX0_isLinear l dC dI q F hF) (cwV 0 hw (gV mA_272 mA_274 mP_11 mA_2 mA_275) rfl rfl rfl (by decide +kernel) ⟨Nat.le_of_ble_eq_true rfl, Nat.le_of_ble_eq_true rfl⟩) ⟨fun a U g mk q => by obtain ⟨q0, qP, qK⟩ := q; exact ⟨q0, qP, va_K.moved (u := U) (U := U.calling g mk a) (Vm.Alike.refl U.vm) qK⟩, va_recv hKc hPc (ci := 0) (q0 := 0) rfl rfl, fun U hU hW => ⟨rfl, by rw [hU]; exact hPc, va_K.moved hW.alike hKc⟩⟩ rfl rfl hl.1 rfl (lv_room (Nat.le_of_ble_eq_true rfl)) dX0_standsBefore_1 ⟨Nat.le_of_ble_eq_true rfl, Nat.le_of_ble_eq_true rfl⟩) (fun r1 h2 => ?_)
  subst h2
  refine lv_aload_n hx hb dX0_standsBefore_4 rfl (lv_at hl 1 rfl) ?_
  have hPc := hP.sub (ws' := [(q2, .inr (0, [.int (iI (G 0)), .int (iI (G 1)), .int (iI (G 2)), .int (iI (G 3)), .int (iI (G 4)), .int (iI (G 5))]))]) [1] rfl
  have hKc := hK.sub (tys' := []) [] rfl
  refine vp_callSi (W.runV (As := []) (rest := [.int (iI (f_lin F))]) ⟨hx, hb, hml, hown, hw⟩ (kX0_isLinear l dC dI q2 G hG) (cwV 0 hw (gV mA_272 mA_274 mP_11 mA_2 mA_275) rfl rfl rfl (by decide +kernel) ⟨Nat.le_of_ble_eq_true rfl, Nat.le_of_ble_eq_true rfl⟩) ⟨fun a U g mk q => by obtain ⟨q0, qP, qK⟩ := q; exact ⟨q0, qP, va_K.moved (u := U) (U := U.calling g mk a) (Vm.Alike.refl U.vm) qK⟩, va_recv hKc hPc (ci := 0) (q0 := 0) rfl rfl, fun U hU hW => ⟨rfl, by rw [hU]; exact hPc, va_K.moved hW.alike hKc⟩⟩ rfl rfl hl.1 rfl (lv_room (Nat.le_of_ble_eq_true rfl)) dX0_standsBefore_5 ⟨Nat.le_of_ble_eq_true rfl, Nat.le_of_ble_eq_true rfl⟩) (fun r3 h4 => ?_)
  subst h4
  refine ix_icmp_eq (tgt := 16) hx hb dX0_standsBefore_8 (by decide) (lin_r _) (lin_r _) (fun c5 => ?_) (fun c5 => ?_)
  · refine lv_aload_n hx hb dX0_standsBefore_16 rfl (lv_at hl 0 rfl) ?_
    have hPc := hP.sub (ws' := [(q, .inr (0, [.int (iI (F 0)), .int (iI (F 1)), .int (iI (F 2)), .int (iI (F 3)), .int (iI (F 4)), .int (iI (F 5))]))]) [0] rfl
    have hKc := hK.sub (tys' := []) [] rfl
    refine vp_callSi (W.runV (As := []) (rest := []) ⟨hx, hb, hml, hown, hw⟩ (kX0_isLinear l dC dI q F hF) (cwV 0 hw (gV mA_272 mA_274 mP_11 mA_2 mA_275) rfl rfl rfl (by decide +kernel) ⟨Nat.le_of_ble_eq_true rfl, Nat.le_of_ble_eq_true rfl⟩) ⟨fun a U g mk q => by obtain ⟨q0, qP, qK⟩ := q; exact ⟨q0, qP, va_K.moved (u := U) (U := U.calling g mk a) (Vm.Alike.refl U.vm) qK⟩, va_recv hKc hPc (ci := 0) (q0 := 0) rfl rfl, fun U hU hW => ⟨rfl, by rw [hU]; exact hPc, va_K.moved hW.alike hKc⟩⟩ rfl rfl hl.1 rfl (lv_room (Nat.le_of_ble_eq_true rfl)) dX0_standsBefore_17 ⟨Nat.le_of_ble_eq_true rfl, Nat.le_of_ble_eq_true rfl⟩) (fun r6 h7 => ?_)
    subst h7
    refine ix_if_eq (tgt := 50) hx hb dX0_standsBefore_20 (by decide) (lin_r _) (fun c8 => ?_) (fun c8 => ?_)
    · refine lv_aload_n hx hb dX0_standsBefore_50 rfl (lv_at hl 0 rfl) ?_
      refine va_get (D := (dC, dI)) (ci := 0) (v := .int (iI (F 1))) (C := RX0) (T := TX0) (N := 6) hx hb hw inX0 hown hK hP 0 rfl rfl 1 (by decide) (hw _ mA_29) (fun _ h9 => h9) rfl dX0_standsBefore_51 ?_
      refine lv_aload_n hx hb dX0_standsBefore_54 rfl (lv_at hl 1 rfl) ?_
      refine va_get (D := (dC, dI)) (ci := 0) (v := .int (iI (G 1))) (C := RX0) (T := TX0) (N := 6) hx hb hw inX0 hown hK hP 1 rfl rfl 1 (by decide) (hw _ mA_29) (fun _ h9 => h9) rfl dX0_standsBefore_55 ?_
      refine ix_icmp_eq (tgt := 78) hx hb dX0_standsBefore_58 (by decide) ⟨by have := (hF 1).1; omega, by have := (hF 1).2; omega⟩ ⟨by have := (hG 1).1; omega, by have := (hG 1).2; omega⟩ (fun c9 => ?_) (fun c9 => ?_)
      · refine lv_aload_n hx hb dX0_standsBefore_78 rfl (lv_at hl 0 rfl) ?_
        refine va_get (D := (dC, dI)) (ci := 0) (v := .int (iI (F 2))) (C := RX0) (T := TX0) (N := 6) hx hb hw inX0 hown hK hP 0 rfl rfl 2 (by decide) (hw _ mA_31) (fun _ h9 => h9) rfl dX0_standsBefore_79 ?_
        refine lv_aload_n hx hb dX0_standsBefore_82 rfl (lv_at hl 1 rfl) ?_
        refine va_get (D := (dC, dI)) (ci := 0) (v := .int (iI (G 2))) (C := RX0) (T := TX0) (N := 6) hx hb hw inX0 hown hK hP 1 rfl rfl 2 (by decide) (hw _ mA_31) (fun _ h9 => h9) rfl dX0_standsBefore_83 ?_
        refine ix_icmp_eq (tgt := 108) hx hb dX0_standsBefore_86 (by decide) ⟨by have := (hF 2).1; omega, by have := (hF 2).2; omega⟩ ⟨by have := (hG 2).1; omega, by have := (hG 2).2; omega⟩ (fun c10 => ?_) (fun c10 => ?_)
        · refine lv_aload_n hx hb dX0_standsBefore_108 rfl (lv_at hl 0 rfl) ?_
          refine va_get (D := (dC, dI)) (ci := 0) (v := .int (iI (F 3))) (C := RX0) (T := TX0) (N := 6) hx hb hw inX0 hown hK hP 0 rfl rfl 3 (by decide) (hw _ mA_33) (fun _ h9 => h9) rfl dX0_standsBefore_109 ?_
          refine lv_aload_n hx hb dX0_standsBefore_112 rfl (lv_at hl 1 rfl) ?_
          refine va_get (D := (dC, dI)) (ci := 0) (v := .int (iI (G 3))) (C := RX0) (T := TX0) (N := 6) hx hb hw inX0 hown hK hP 1 rfl rfl 3 (by decide) (hw _ mA_33) (fun _ h9 => h9) rfl dX0_standsBefore_113 ?_
          refine ix_icmp_ge (tgt := 123) hx hb dX0_standsBefore_116 (by decide) ⟨by have := (hF 3).1; omega, by have := (hF 3).2; omega⟩ ⟨by have := (hG 3).1; omega, by have := (hG 3).2; omega⟩ (fun c11 => ?_) (fun c11 => ?_)
          · refine ix_iconst (n := 0) hx hb dX0_standsBefore_123 ?_
            exact W.zret (v := iI 0) hx hb hr (by decide) (fun t ht _ => ⟨_, rfl, congrArg iI (by unfold f_before; grind), ht⟩) (fun q h => nomatch h) dX0_standsBefore_124
          · refine ix_iconst (n := 1) hx hb dX0_standsBefore_119 ?_
            refine lv_goto (tgt := 124) hx hb dX0_standsBefore_120 (by decide) ?_
            exact W.zret (v := iI 1) hx hb hr (by decide) (fun t ht _ => ⟨_, rfl, congrArg iI (by unfold f_before; grind), ht⟩) (fun q h => nomatch h) dX0_standsBefore_124
        · refine lv_aload_n hx hb dX0_standsBefore_89 rfl (lv_at hl 0 rfl) ?_
          refine va_get (D := (dC, dI)) (ci := 0) (v := .int (iI (F 2))) (C := RX0) (T := TX0) (N := 6) hx hb hw inX0 hown hK hP 0 rfl rfl 2 (by decide) (hw _ mA_31) (fun _ h9 => h9) rfl dX0_standsBefore_90 ?_
          refine lv_aload_n hx hb dX0_standsBefore_93 rfl (lv_at hl 1 rfl) ?_
          refine va_get (D := (dC, dI)) (ci := 0) (v := .int (iI (G 2))) (C := RX0) (T := TX0) (N := 6) hx hb hw inX0 hown hK hP 1 rfl rfl 2 (by decide) (hw _ mA_31) (fun _ h9 => h9) rfl dX0_standsBefore_94 ?_
          refine ix_icmp_ge (tgt := 104) hx hb dX0_standsBefore_97 (by decide) ⟨by have := (hF 2).1; omega, by have := (hF 2).2; omega⟩ ⟨by have := (hG 2).1; omega, by have := (hG 2).2; omega⟩ (fun c12 => ?_) (fun c12 => ?_)
          · refine ix_iconst (n := 0) hx hb dX0_standsBefore_104 ?_
            refine lv_goto (tgt := 124) hx hb dX0_standsBefore_105 (by decide) ?_
            exact W.zret (v := iI 0) hx hb hr (by decide) (fun t ht _ => ⟨_, rfl, congrArg iI (by unfold f_before; grind), ht⟩) (fun q h => nomatch h) dX0_standsBefore_124
          · refine ix_iconst (n := 1) hx hb dX0_standsBefore_100 ?_
            refine lv_goto (tgt := 124) hx hb dX0_standsBefore_101 (by decide) ?_
            exact W.zret (v := iI 1) hx hb hr (by decide) (fun t ht _ => ⟨_, rfl, congrArg iI (by unfold f_before; grind), ht⟩) (fun q h => nomatch h) dX0_standsBefore_124
      · refine lv_aload_n hx hb dX0_standsBefore_61 rfl (lv_at hl 0 rfl) ?_
        refine va_get (D := (dC, dI)) (ci := 0) (v := .int (iI (F 1))) (C := RX0) (T := TX0) (N := 6) hx hb hw inX0 hown hK hP 0 rfl rfl 1 (by decide) (hw _ mA_29) (fun _ h9 => h9) rfl dX0_standsBefore_62 ?_
        refine lv_aload_n hx hb dX0_standsBefore_65 rfl (lv_at hl 1 rfl) ?_
        refine va_get (D := (dC, dI)) (ci := 0) (v := .int (iI (G 1))) (C := RX0) (T := TX0) (N := 6) hx hb hw inX0 hown hK hP 1 rfl rfl 1 (by decide) (hw _ mA_29) (fun _ h9 => h9) rfl dX0_standsBefore_66 ?_
        refine ix_icmp_ge (tgt := 76) hx hb dX0_standsBefore_69 (by decide) ⟨by have := (hF 1).1; omega, by have := (hF 1).2; omega⟩ ⟨by have := (hG 1).1; omega, by have := (hG 1).2; omega⟩ (fun c13 => ?_) (fun c13 => ?_)
        · refine ix_iconst (n := 0) hx hb dX0_standsBefore_76 ?_
          exact W.zret (v := iI 0) hx hb hr (by decide) (fun t ht _ => ⟨_, rfl, congrArg iI (by unfold f_before; grind), ht⟩) (fun q h => nomatch h) dX0_standsBefore_77
        · refine ix_iconst (n := 1) hx hb dX0_standsBefore_72 ?_
          refine lv_goto (tgt := 77) hx hb dX0_standsBefore_73 (by decide) ?_
          exact W.zret (v := iI 1) hx hb hr (by decide) (fun t ht _ => ⟨_, rfl, congrArg iI (by unfold f_before; grind), ht⟩) (fun q h => nomatch h) dX0_standsBefore_77
    · refine lv_aload_n hx hb dX0_standsBefore_23 rfl (lv_at hl 0 rfl) ?_
      have hPc := hP.sub (ws' := [(q, .inr (0, [.int (iI (F 0)), .int (iI (F 1)), .int (iI (F 2)), .int (iI (F 3)), .int (iI (F 4)), .int (iI (F 5))]))]) [0] rfl
      have hKc := hK.sub (tys' := []) [] rfl
      refine vp_callSi (W.runV (As := []) (rest := []) ⟨hx, hb, hml, hown, hw⟩ (kX0_middle l dC dI q F hF) (cwV 0 hw (gV mA_276 mA_278 mP_12 mA_2 mA_279) rfl rfl rfl (by decide +kernel) ⟨Nat.le_of_ble_eq_true rfl, Nat.le_of_ble_eq_true rfl⟩) ⟨fun a U g mk q => by obtain ⟨q0, qP, qK⟩ := q; exact ⟨q0, qP, va_K.moved (u := U) (U := U.calling g mk a) (Vm.Alike.refl U.vm) qK⟩, va_recv hKc hPc (ci := 0) (q0 := 0) rfl rfl, fun U hU hW => ⟨rfl, by rw [hU]; exact hPc, va_K.moved hW.alike hKc⟩⟩ rfl rfl hl.1 rfl (lv_room (Nat.le_of_ble_eq_true rfl)) dX0_standsBefore_24 ⟨Nat.le_of_ble_eq_true rfl, Nat.le_of_ble_eq_true rfl⟩) (fun r14 h15 => ?_)
      subst h15
      refine lv_aload_n hx hb dX0_standsBefore_27 rfl (lv_at hl 1 rfl) ?_
      have hPc := hP.sub (ws' := [(q2, .inr (0, [.int (iI (G 0)), .int (iI (G 1)), .int (iI (G 2)), .int (iI (G 3)), .int (iI (G 4)), .int (iI (G 5))]))]) [1] rfl
      have hKc := hK.sub (tys' := []) [] rfl
      refine vp_callSi (W.runV (As := []) (rest := [.int (iI (f_mid F))]) ⟨hx, hb, hml, hown, hw⟩ (kX0_below l dC dI q2 G hG) (cwV 0 hw (gV mA_280 mA_282 mP_13 mA_2 mA_283) rfl rfl rfl (by decide +kernel) ⟨Nat.le_of_ble_eq_true rfl, Nat.le_of_ble_eq_true rfl⟩) ⟨fun a U g mk q => by obtain ⟨q0, qP, qK⟩ := q; exact ⟨q0, qP, va_K.moved (u := U) (U := U.calling g mk a) (Vm.Alike.refl U.vm) qK⟩, va_recv hKc hPc (ci := 0) (q0 := 0) rfl rfl, fun U hU hW => ⟨rfl, by rw [hU]; exact hPc, va_K.moved hW.alike hKc⟩⟩ rfl rfl hl.1 rfl (lv_room (Nat.le_of_ble_eq_true rfl)) dX0_standsBefore_28 ⟨Nat.le_of_ble_eq_true rfl, Nat.le_of_ble_eq_true rfl⟩) (fun r16 h17 => ?_)
      subst h17
      refine ix_imul hx hb dX0_standsBefore_31 ?_
      refine lv_aload_n hx hb dX0_standsBefore_32 rfl (lv_at hl 1 rfl) ?_
      have hPc := hP.sub (ws' := [(q2, .inr (0, [.int (iI (G 0)), .int (iI (G 1)), .int (iI (G 2)), .int (iI (G 3)), .int (iI (G 4)), .int (iI (G 5))]))]) [1] rfl
      have hKc := hK.sub (tys' := []) [] rfl
      refine vp_callSi (W.runV (As := []) (rest := [.int (iI ((f_mid F) * (f_below G)))]) ⟨hx, hb, hml, hown, hw⟩ (kX0_middle l dC dI q2 G hG) (cwV 0 hw (gV mA_276 mA_278 mP_12 mA_2 mA_279) rfl rfl rfl (by decide +kernel) ⟨Nat.le_of_ble_eq_true rfl, Nat.le_of_ble_eq_true rfl⟩) ⟨fun a U g mk q => by obtain ⟨q0, qP, qK⟩ := q; exact ⟨q0, qP, va_K.moved (u := U) (U := U.calling g mk a) (Vm.Alike.refl U.vm) qK⟩, va_recv hKc hPc (ci := 0) (q0 := 0) rfl rfl, fun U hU hW => ⟨rfl, by rw [hU]; exact hPc, va_K.moved hW.alike hKc⟩⟩ rfl rfl hl.1 rfl (lv_room (Nat.le_of_ble_eq_true rfl)) dX0_standsBefore_33 ⟨Nat.le_of_ble_eq_true rfl, Nat.le_of_ble_eq_true rfl⟩) (fun r18 h19 => ?_)
      subst h19
      refine lv_aload_n hx hb dX0_standsBefore_36 rfl (lv_at hl 0 rfl) ?_
      have hPc := hP.sub (ws' := [(q, .inr (0, [.int (iI (F 0)), .int (iI (F 1)), .int (iI (F 2)), .int (iI (F 3)), .int (iI (F 4)), .int (iI (F 5))]))]) [0] rfl
      have hKc := hK.sub (tys' := []) [] rfl
      refine vp_callSi (W.runV (As := []) (rest := [.int (iI (f_mid G)), .int (iI ((f_mid F) * (f_below G)))]) ⟨hx, hb, hml, hown, hw⟩ (kX0_below l dC dI q F hF) (cwV 0 hw (gV mA_280 mA_282 mP_13 mA_2 mA_283) rfl rfl rfl (by decide +kernel) ⟨Nat.le_of_ble_eq_true rfl, Nat.le_of_ble_eq_true rfl⟩) ⟨fun a U g mk q => by obtain ⟨q0, qP, qK⟩ := q; exact ⟨q0, qP, va_K.moved (u := U) (U := U.calling g mk a) (Vm.Alike.refl U.vm) qK⟩, va_recv hKc hPc (ci := 0) (q0 := 0) rfl rfl, fun U hU hW => ⟨rfl, by rw [hU]; exact hPc, va_K.moved hW.alike hKc⟩⟩ rfl rfl hl.1 rfl (lv_room (Nat.le_of_ble_eq_true rfl)) dX0_standsBefore_37 ⟨Nat.le_of_ble_eq_true rfl, Nat.le_of_ble_eq_true rfl⟩) (fun r20 h21 => ?_)
      subst h21
      refine ix_imul hx hb dX0_standsBefore_40 ?_
      refine ix_icmp_ge (tgt := 48) hx hb dX0_standsBefore_41 (by decide) (by assumption) (by assumption) (fun c22 => ?_) (fun c22 => ?_)
      · refine ix_iconst (n := 0) hx hb dX0_standsBefore_48 ?_
        exact W.zret (v := iI 0) hx hb hr (by decide) (fun t ht _ => ⟨_, rfl, congrArg iI (by unfold f_before; grind), ht⟩) (fun q h => nomatch h) dX0_standsBefore_49
      · refine ix_iconst (n := 1) hx hb dX0_standsBefore_44 ?_
        refine lv_goto (tgt := 49) hx hb dX0_standsBefore_45 (by decide) ?_
        exact W.zret (v := iI 1) hx hb hr (by decide) (fun t ht _ => ⟨_, rfl, congrArg iI (by unfold f_before; grind), ht⟩) (fun q h => nomatch h) dX0_standsBefore_49
  · refine lv_aload_n hx hb dX0_standsBefore_11 rfl (lv_at hl 0 rfl) ?_
    have hPc := hP.sub (ws' := [(q, .inr (0, [.int (iI (F 0)), .int (iI (F 1)), .int (iI (F 2)), .int (iI (F 3)), .int (iI (F 4)), .int (iI (F 5))]))]) [0] rfl
    have hKc := hK.sub (tys' := []) [] rfl
    refine vp_callSi (W.runV (As := []) (rest := []) ⟨hx, hb, hml, hown, hw⟩ (kX0_isLinear l dC dI q F hF) (cwV 0 hw (gV mA_272 mA_274 mP_11 mA_2 mA_275) rfl rfl rfl (by decide +kernel) ⟨Nat.le_of_ble_eq_true rfl, Nat.le_of_ble_eq_true rfl⟩) ⟨fun a U g mk q => by obtain ⟨q0, qP, qK⟩ := q; exact ⟨q0, qP, va_K.moved (u := U) (U := U.calling g mk a) (Vm.Alike.refl U.vm) qK⟩, va_recv hKc hPc (ci := 0) (q0 := 0) rfl rfl, fun U hU hW => ⟨rfl, by rw [hU]; exact hPc, va_K.moved hW.alike hKc⟩⟩ rfl rfl hl.1 rfl (lv_room (Nat.le_of_ble_eq_true rfl)) dX0_standsBefore_12 ⟨Nat.le_of_ble_eq_true rfl, Nat.le_of_ble_eq_true rfl⟩) (fun r23 h24 => ?_)
    subst h24
    exact W.zret (v := iI (f_lin F)) hx hb hr (nz_b (by unfold f_lin; grind)) (fun t ht _ => ⟨_, rfl, congrArg iI (by unfold f_before; grind), ht⟩) (fun q h => nomatch h) dX0_standsBefore_15
end
section
def f_und (a b c : Int) : Int := if a = 0 then 0 else b * b - 4 * a * c
def f_out (a b c : Int) : Int := f_gsq (f_und a b c)
def f_ins (a b c : Int) : Int := if f_out a b c = 0 then 0 else (f_und a b c).tdiv (f_out a b c * f_out a b c)
/-- a factor's numbers, made anew -/
def nf (t a b c : Int) : Int → Int := fun j => if j = 0 then t else if j = 1 then a else if j = 2 then b else if j = 3 then c else if j = 4 then f_out a b c else if j = 5 then f_ins a b c else 0
theorem gsL_r (z : Int) : ∀ n : Nat, 0 ≤ gsL z n ∧ gsL z n ≤ n := by
  intro n
  induction n with
  | zero => exact ⟨Int.le_refl _, Int.le_refl _⟩
  | succ n ih =>
    rw [gsL]
    split
    · omega
    · omega
theorem gsq_r (v : Int) : 0 ≤ f_gsq v ∧ f_gsq v ≤ 1000 := gsL_r _ 1000
set_option maxHeartbeats 4000000 in
set_option maxRecDepth 100000 in
/-- become: the numbers, the root outside and inside -/
theorem kX0_become (l : Launch) (dC : Nat → ClassId) (dI : Nat → Nat → Nat) (sz : Nat) (q : Nat) (F : Int → Int) (a b k tt : Int) (ha : r32 a) (hu : -1002000 ≤ f_und a b k ∧ f_und a b k ≤ 1002000) : Met l yX0_become (.code yX0_become cX0_become 6 none :: wsA) ({ frames := 1, cells := 0, slots := 0, locals := 40 }) (va_Pc [.ref q, .int (iI a), .int (iI b), .int (iI k), .int (iI tt)] (fun U => U.heap.size = sz ∧ va_P (dC, dI) vwCl [(q, .inr (0, [.int (iI (F 0)), .int (iI (F 1)), .int (iI (F 2)), .int (iI (F 3)), .int (iI (F 4)), .int (iI (F 5))]))] U.heap ∧ va_K (dC, dI) vwCl [] U ∧ va_D (fun _ => True) [(q, .inr (0, [.int (iI (F 0)), .int (iI (F 1)), .int (iI (F 2)), .int (iI (F 3)), .int (iI (F 4)), .int (iI (F 5))]))] ∧ nb U)) (va_Qv (fun _ => True) (fun (u : Unit) t9 => va_P (dC, dI) vwCl [(q, .inr (0, fl (nf tt a b k)))] t9.heap ∧ va_K (dC, dI) vwCl [] t9 ∧ va_D (va_A [(q, .inr (0, [.int (iI (F 0)), .int (iI (F 1)), .int (iI (F 2)), .int (iI (F 3)), .int (iI (F 4)), .int (iI (F 5))]))] sz) [(q, .inr (0, fl (nf tt a b k)))]) (va_A [(q, .inr (0, [.int (iI (F 0)), .int (iI (F 1)), .int (iI (F 2)), .int (iI (F 3)), .int (iI (F 4)), .int (iI (F 5))]))] sz)) 0 0 (va_A [(q, .inr (0, [.int (iI (F 0)), .int (iI (F 1)), .int (iI (F 2)), .int (iI (F 3)), .int (iI (F 4)), .int (iI (F 5))]))] sz) := by
  refine Met.ofW (cc := cX0_become) (maxL := 6) (ret := none) (by decide) rfl ?_
  intro p e s m args below meth c s₁ B hml hv
  obtain ⟨rfl, hsz, hP, hK, hD0, hnb⟩ := hv
  have hx := B.exec
  have hb := B.bytes
  have hr := B.returns
  have hts := atoms_spec (ws := .code yX0_become cX0_become 6 none :: wsA) B.pre
  have hw : ∀ w ∈ wsA, w.before _ s = true := fun w h => hts w (List.mem_cons_of_mem _ h)
  have hown : s.vm.findClass RX0 = some m.cls := findClass_of_methodNamed B.named
  have hlocks := B.notSynchronized
  subst hsz
  have hD := hD0.self (sz := s.heap.size)
  generalize hAe : va_A [(q, .inr (0, [.int (iI (F 0)), .int (iI (F 1)), .int (iI (F 2)), .int (iI (F 3)), .int (iI (F 4)), .int (iI (F 5))]))] s.heap.size = A at hD ⊢
  have hA : ∀ q : Nat, s.heap.size ≤ q → A q := fun q h => by rw [← hAe]; exact Or.inr h
  have hS : va_S A s.heap s.heap [] := va_S.rf
  have hP : va_P (dC, dI) vwCl [(q, .inr (0, [.int (iI (F 0)), .int (iI (F 1)), .int (iI (F 2)), .int (iI (F 3)), .int (iI (F 4)), .int (iI (F 5))]))] s.heap := hP
  have hl := lv_entry ([.ref q, .int (iI a), .int (iI b), .int (iI k), .int (iI tt)]) (n := 6) (Nat.le_of_ble_eq_true rfl)
  rw [lg_entry_eq]
  generalize (lg_sl ([.ref q, .int (iI a), .int (iI b), .int (iI k), .int (iI tt)]) ++ List.replicate (6 - (lg_sl ([.ref q, .int (iI a), .int (iI b), .int (iI k), .int (iI tt)])).length) Slot.unset).toArray = ls at hl ⊢
  have hl : lv_has ls 6 [(0, .ref q), (1, .int (iI a)), (2, .int (iI b)), (3, .int (iI k)), (4, .int (iI tt))] := hl
  refine lv_aload_n hx hb dX0_become_0 rfl (lv_at hl 0 rfl) ?_
  refine lv_iload_n hx hb dX0_become_1 rfl (lv_at hl 1 rfl) ?_
  refine va_put (D := (dC, dI)) (ci := 0) (v := .int (iI a)) (ty := .int) (C := RX0) (T := TX0) (N := 6) hx hb hw inX0 tyX0 tyX0_ok nmX0 hown hK hP hD hS 0 rfl rfl 1 (by decide) (hw _ mA_29) (fun _ h9 => h9) rfl (by decide +kernel) rfl rfl (Nat.le_of_ble_eq_true rfl) dX0_become_2 (fun H locs hP hD hS => ?_)
  have hP : va_P (dC, dI) vwCl [(q, .inr (0, [.int (iI (F 0)), .int (iI a), .int (iI (F 2)), .int (iI (F 3)), .int (iI (F 4)), .int (iI (F 5))]))] H := hP
  have hD : va_D A [(q, .inr (0, [.int (iI (F 0)), .int (iI a), .int (iI (F 2)), .int (iI (F 3)), .int (iI (F 4)), .int (iI (F 5))]))] := hD
  refine lv_aload_n hx hb dX0_become_5 rfl (lv_at hl 0 rfl) ?_
  refine lv_iload_n hx hb dX0_become_6 rfl (lv_at hl 2 rfl) ?_
  refine va_put (D := (dC, dI)) (ci := 0) (v := .int (iI b)) (ty := .int) (C := RX0) (T := TX0) (N := 6) hx hb hw inX0 tyX0 tyX0_ok nmX0 hown hK hP hD hS 0 rfl rfl 2 (by decide) (hw _ mA_31) (fun _ h9 => h9) rfl (by decide +kernel) rfl rfl (Nat.le_of_ble_eq_true rfl) dX0_become_7 (fun H locs hP hD hS => ?_)
  have hP : va_P (dC, dI) vwCl [(q, .inr (0, [.int (iI (F 0)), .int (iI a), .int (iI b), .int (iI (F 3)), .int (iI (F 4)), .int (iI (F 5))]))] H := hP
  have hD : va_D A [(q, .inr (0, [.int (iI (F 0)), .int (iI a), .int (iI b), .int (iI (F 3)), .int (iI (F 4)), .int (iI (F 5))]))] := hD
  refine lv_aload_n hx hb dX0_become_10 rfl (lv_at hl 0 rfl) ?_
  refine lv_iload_n hx hb dX0_become_11 rfl (lv_at hl 3 rfl) ?_
  refine va_put (D := (dC, dI)) (ci := 0) (v := .int (iI k)) (ty := .int) (C := RX0) (T := TX0) (N := 6) hx hb hw inX0 tyX0 tyX0_ok nmX0 hown hK hP hD hS 0 rfl rfl 3 (by decide) (hw _ mA_33) (fun _ h9 => h9) rfl (by decide +kernel) rfl rfl (Nat.le_of_ble_eq_true rfl) dX0_become_12 (fun H locs hP hD hS => ?_)
  have hP : va_P (dC, dI) vwCl [(q, .inr (0, [.int (iI (F 0)), .int (iI a), .int (iI b), .int (iI k), .int (iI (F 4)), .int (iI (F 5))]))] H := hP
  have hD : va_D A [(q, .inr (0, [.int (iI (F 0)), .int (iI a), .int (iI b), .int (iI k), .int (iI (F 4)), .int (iI (F 5))]))] := hD
  refine lv_aload_n hx hb dX0_become_15 rfl (lv_at hl 0 rfl) ?_
  refine lv_iload hx hb dX0_become_16 (lv_at hl 4 rfl) ?_
  refine va_put (D := (dC, dI)) (ci := 0) (v := .int (iI tt)) (ty := .int) (C := RX0) (T := TX0) (N := 6) hx hb hw inX0 tyX0 tyX0_ok nmX0 hown hK hP hD hS 0 rfl rfl 0 (by decide) (hw _ mA_27) (fun _ h9 => h9) rfl (by decide +kernel) rfl rfl (Nat.le_of_ble_eq_true rfl) dX0_become_18 (fun H locs hP hD hS => ?_)
  have hP : va_P (dC, dI) vwCl [(q, .inr (0, [.int (iI tt), .int (iI a), .int (iI b), .int (iI k), .int (iI (F 4)), .int (iI (F 5))]))] H := hP
  have hD : va_D A [(q, .inr (0, [.int (iI tt), .int (iI a), .int (iI b), .int (iI k), .int (iI (F 4)), .int (iI (F 5))]))] := hD
  refine lv_aload_n hx hb dX0_become_21 rfl (lv_at hl 0 rfl) ?_
  refine va_get (D := (dC, dI)) (ci := 0) (v := .int (iI a)) (C := RX0) (T := TX0) (N := 6) hx hb hw inX0 hown hK hP 0 rfl rfl 1 (by decide) (hw _ mA_29) (fun _ h9 => h9) rfl dX0_become_22 ?_
  refine ix_if_ne (tgt := 32) hx hb dX0_become_25 (by decide) (by omega) (fun c1 => ?_) (fun c1 => ?_)
  · refine lv_aload_n hx hb dX0_become_32 rfl (lv_at hl 0 rfl) ?_
    refine va_get (D := (dC, dI)) (ci := 0) (v := .int (iI b)) (C := RX0) (T := TX0) (N := 6) hx hb hw inX0 hown hK hP 0 rfl rfl 2 (by decide) (hw _ mA_31) (fun _ h9 => h9) rfl dX0_become_33 ?_
    refine lv_aload_n hx hb dX0_become_36 rfl (lv_at hl 0 rfl) ?_
    refine va_get (D := (dC, dI)) (ci := 0) (v := .int (iI b)) (C := RX0) (T := TX0) (N := 6) hx hb hw inX0 hown hK hP 0 rfl rfl 2 (by decide) (hw _ mA_31) (fun _ h9 => h9) rfl dX0_become_37 ?_
    refine ix_imul hx hb dX0_become_40 ?_
    refine ix_iconst (n := 4) hx hb dX0_become_41 ?_
    refine lv_aload_n hx hb dX0_become_42 rfl (lv_at hl 0 rfl) ?_
    refine va_get (D := (dC, dI)) (ci := 0) (v := .int (iI a)) (C := RX0) (T := TX0) (N := 6) hx hb hw inX0 hown hK hP 0 rfl rfl 1 (by decide) (hw _ mA_29) (fun _ h9 => h9) rfl dX0_become_43 ?_
    refine ix_imul hx hb dX0_become_46 ?_
    refine lv_aload_n hx hb dX0_become_47 rfl (lv_at hl 0 rfl) ?_
    refine va_get (D := (dC, dI)) (ci := 0) (v := .int (iI k)) (C := RX0) (T := TX0) (N := 6) hx hb hw inX0 hown hK hP 0 rfl rfl 3 (by decide) (hw _ mA_33) (fun _ h9 => h9) rfl dX0_become_48 ?_
    refine ix_imul hx hb dX0_become_51 ?_
    refine ix_isub hx hb dX0_become_52 ?_
    refine lv_istore (lv' := [(5, .int (iI ((b * b) - ((4 * a) * k)))), (0, .ref q), (1, .int (iI a)), (2, .int (iI b)), (3, .int (iI k)), (4, .int (iI tt))]) hx hb dX0_become_53 hl (by decide) rfl (fun ls hl => ?_)
    refine lv_aload_n hx hb dX0_become_55 rfl (lv_at hl 1 rfl) ?_
    refine lv_iload hx hb dX0_become_56 (lv_at hl 0 rfl) ?_
    have hu9 : (b * b) - ((4 * a) * k) = f_und a b k := by unfold f_und; grind
    refine vp_callSi (va_Run.run (va_runSN (As := [.int (iI ((b * b) - ((4 * a) * k)))]) (rest := [.ref q]) ⟨hx, hb, hml, hown, hw⟩ (kX1_greatestSquareDividing l ((b * b) - ((4 * a) * k)) (by rw [hu9]; exact hu)) ⟨va_cnB 1 hw (wsA_sub mA_267) rfl rfl rfl (hnb.1 _ mN_265) (hw _ mA_1) (by decide +kernel) ⟨Nat.le_of_ble_eq_true rfl, Nat.le_of_ble_eq_true rfl⟩, hw _ mA_266, trivial⟩ preEq rfl rfl hl.1 rfl (lv_room (Nat.le_of_ble_eq_true rfl)) dX0_become_58 ⟨Nat.le_of_ble_eq_true rfl, Nat.le_of_ble_eq_true rfl⟩)) (fun r2 h3 => ?_)
    subst h3
    have hg9 := gsq_r ((b * b) - ((4 * a) * k))
    refine va_put (D := (dC, dI)) (ci := 0) (v := .int (iI (f_gsq ((b * b) - ((4 * a) * k))))) (ty := .int) (C := RX0) (T := TX0) (N := 6) hx hb hw inX0 tyX0 tyX0_ok nmX0 hown hK hP hD hS 0 rfl rfl 4 (by decide) (hw _ mA_35) (fun _ h9 => h9) rfl (by decide +kernel) rfl rfl (Nat.le_of_ble_eq_true rfl) dX0_become_61 (fun H locs hP hD hS => ?_)
    have hP : va_P (dC, dI) vwCl [(q, .inr (0, [.int (iI tt), .int (iI a), .int (iI b), .int (iI k), .int (iI (f_gsq ((b * b) - ((4 * a) * k)))), .int (iI (F 5))]))] H := hP
    have hD : va_D A [(q, .inr (0, [.int (iI tt), .int (iI a), .int (iI b), .int (iI k), .int (iI (f_gsq ((b * b) - ((4 * a) * k)))), .int (iI (F 5))]))] := hD
    refine lv_aload_n hx hb dX0_become_64 rfl (lv_at hl 1 rfl) ?_
    refine lv_aload_n hx hb dX0_become_65 rfl (lv_at hl 1 rfl) ?_
    refine va_get (D := (dC, dI)) (ci := 0) (v := .int (iI (f_gsq ((b * b) - ((4 * a) * k))))) (C := RX0) (T := TX0) (N := 6) hx hb hw inX0 hown hK hP 0 rfl rfl 4 (by decide) (hw _ mA_35) (fun _ h9 => h9) rfl dX0_become_66 ?_
    refine ix_if_ne (tgt := 76) hx hb dX0_become_69 (by decide) ⟨by omega, by omega⟩ (fun c4 => ?_) (fun c4 => ?_)
    · refine lv_iload hx hb dX0_become_76 (lv_at hl 0 rfl) ?_
      refine lv_aload_n hx hb dX0_become_78 rfl (lv_at hl 1 rfl) ?_
      refine va_get (D := (dC, dI)) (ci := 0) (v := .int (iI (f_gsq ((b * b) - ((4 * a) * k))))) (C := RX0) (T := TX0) (N := 6) hx hb hw inX0 hown hK hP 0 rfl rfl 4 (by decide) (hw _ mA_35) (fun _ h9 => h9) rfl dX0_become_79 ?_
      refine lv_aload_n hx hb dX0_become_82 rfl (lv_at hl 1 rfl) ?_
      refine va_get (D := (dC, dI)) (ci := 0) (v := .int (iI (f_gsq ((b * b) - ((4 * a) * k))))) (C := RX0) (T := TX0) (N := 6) hx hb hw inX0 hown hK hP 0 rfl rfl 4 (by decide) (hw _ mA_35) (fun _ h9 => h9) rfl dX0_become_83 ?_
      refine ix_imul hx hb dX0_become_86 ?_
      refine ix_idiv hx hb dX0_become_87 (by rw [hu9]; omega) (by have := sq_mono hg9.1 hg9.2; have := sq_mono (a := 0) (Int.le_refl 0) hg9.1; omega) (by omega) (by have h1 : 1 ≤ (f_gsq ((b * b) - ((4 * a) * k))) := (by omega); have := sq_mono (a := 1) (by omega) h1; omega) ?_
      refine va_put (D := (dC, dI)) (ci := 0) (v := .int (iI (Int.tdiv ((b * b) - ((4 * a) * k)) ((f_gsq ((b * b) - ((4 * a) * k))) * (f_gsq ((b * b) - ((4 * a) * k))))))) (ty := .int) (C := RX0) (T := TX0) (N := 6) hx hb hw inX0 tyX0 tyX0_ok nmX0 hown hK hP hD hS 0 rfl rfl 5 (by decide) (hw _ mA_37) (fun _ h9 => h9) rfl (by decide +kernel) rfl rfl (Nat.le_of_ble_eq_true rfl) dX0_become_88 (fun H locs hP hD hS => ?_)
      have hP : va_P (dC, dI) vwCl [(q, .inr (0, [.int (iI tt), .int (iI a), .int (iI b), .int (iI k), .int (iI (f_gsq ((b * b) - ((4 * a) * k)))), .int (iI (Int.tdiv ((b * b) - ((4 * a) * k)) ((f_gsq ((b * b) - ((4 * a) * k))) * (f_gsq ((b * b) - ((4 * a) * k))))))]))] H := hP
      have hD : va_D A [(q, .inr (0, [.int (iI tt), .int (iI a), .int (iI b), .int (iI k), .int (iI (f_gsq ((b * b) - ((4 * a) * k)))), .int (iI (Int.tdiv ((b * b) - ((4 * a) * k)) ((f_gsq ((b * b) - ((4 * a) * k))) * (f_gsq ((b * b) - ((4 * a) * k))))))]))] := hD
      have e4 : f_gsq ((b * b) - ((4 * a) * k)) = f_out a b k := by unfold f_out f_und; grind
      have e5 : Int.tdiv ((b * b) - ((4 * a) * k)) ((f_gsq ((b * b) - ((4 * a) * k))) * (f_gsq ((b * b) - ((4 * a) * k)))) = f_ins a b k := by unfold f_ins; rw [← e4]; unfold f_und; grind
      have eW : ([.int (iI tt), .int (iI a), .int (iI b), .int (iI k), .int (iI (f_gsq ((b * b) - ((4 * a) * k)))), .int (iI (Int.tdiv ((b * b) - ((4 * a) * k)) ((f_gsq ((b * b) - ((4 * a) * k))) * (f_gsq ((b * b) - ((4 * a) * k))))))] : List Value) = fl (nf tt a b k) := by rw [show fl (nf tt a b k) = [.int (iI tt), .int (iI a), .int (iI b), .int (iI k), .int (iI (f_out a b k)), .int (iI (f_ins a b k))] from rfl, ← e5, ← e4]
      rw [eW] at hP hD
      have hP9 := hP.sub (ws' := [(q, .inr (0, fl (nf tt a b k)))]) [0] rfl
      have hD9 := hD.sub (ws' := [(q, .inr (0, fl (nf tt a b k)))]) [0] (by decide) rfl
      have hK9 := hK.sub (tys' := []) [] rfl
      exact W.vret hx hb hr (fun t ht hW => ⟨⟨(), rfl, trivial, by rw [ht]; exact hP9, va_K.moved hW.alike hK9, hD9⟩, hS.F ht⟩) hS.2.2 dX0_become_91
    · refine ix_iconst (n := 0) hx hb dX0_become_72 ?_
      refine lv_goto (tgt := 88) hx hb dX0_become_73 (by decide) ?_
      refine va_put (D := (dC, dI)) (ci := 0) (v := .int (iI 0)) (ty := .int) (C := RX0) (T := TX0) (N := 6) hx hb hw inX0 tyX0 tyX0_ok nmX0 hown hK hP hD hS 0 rfl rfl 5 (by decide) (hw _ mA_37) (fun _ h9 => h9) rfl (by decide +kernel) rfl rfl (Nat.le_of_ble_eq_true rfl) dX0_become_88 (fun H locs hP hD hS => ?_)
      have hP : va_P (dC, dI) vwCl [(q, .inr (0, [.int (iI tt), .int (iI a), .int (iI b), .int (iI k), .int (iI (f_gsq ((b * b) - ((4 * a) * k)))), .int (iI 0)]))] H := hP
      have hD : va_D A [(q, .inr (0, [.int (iI tt), .int (iI a), .int (iI b), .int (iI k), .int (iI (f_gsq ((b * b) - ((4 * a) * k)))), .int (iI 0)]))] := hD
      have e4 : f_gsq ((b * b) - ((4 * a) * k)) = f_out a b k := by unfold f_out f_und; grind
      have e5 : 0 = f_ins a b k := by unfold f_ins; rw [← e4]; unfold f_und; grind
      have eW : ([.int (iI tt), .int (iI a), .int (iI b), .int (iI k), .int (iI (f_gsq ((b * b) - ((4 * a) * k)))), .int (iI 0)] : List Value) = fl (nf tt a b k) := by rw [show fl (nf tt a b k) = [.int (iI tt), .int (iI a), .int (iI b), .int (iI k), .int (iI (f_out a b k)), .int (iI (f_ins a b k))] from rfl, ← e5, ← e4]
      rw [eW] at hP hD
      have hP9 := hP.sub (ws' := [(q, .inr (0, fl (nf tt a b k)))]) [0] rfl
      have hD9 := hD.sub (ws' := [(q, .inr (0, fl (nf tt a b k)))]) [0] (by decide) rfl
      have hK9 := hK.sub (tys' := []) [] rfl
      exact W.vret hx hb hr (fun t ht hW => ⟨⟨(), rfl, trivial, by rw [ht]; exact hP9, va_K.moved hW.alike hK9, hD9⟩, hS.F ht⟩) hS.2.2 dX0_become_91
  · refine ix_iconst (n := 0) hx hb dX0_become_28 ?_
    refine lv_goto (tgt := 53) hx hb dX0_become_29 (by decide) ?_
    refine lv_istore (lv' := [(5, .int (iI 0)), (0, .ref q), (1, .int (iI a)), (2, .int (iI b)), (3, .int (iI k)), (4, .int (iI tt))]) hx hb dX0_become_53 hl (by decide) rfl (fun ls hl => ?_)
    refine lv_aload_n hx hb dX0_become_55 rfl (lv_at hl 1 rfl) ?_
    refine lv_iload hx hb dX0_become_56 (lv_at hl 0 rfl) ?_
    have hu9 : 0 = f_und a b k := by unfold f_und; grind
    refine vp_callSi (va_Run.run (va_runSN (As := [.int (iI 0)]) (rest := [.ref q]) ⟨hx, hb, hml, hown, hw⟩ (kX1_greatestSquareDividing l (0) (by rw [hu9]; exact hu)) ⟨va_cnB 1 hw (wsA_sub mA_267) rfl rfl rfl (hnb.1 _ mN_265) (hw _ mA_1) (by decide +kernel) ⟨Nat.le_of_ble_eq_true rfl, Nat.le_of_ble_eq_true rfl⟩, hw _ mA_266, trivial⟩ preEq rfl rfl hl.1 rfl (lv_room (Nat.le_of_ble_eq_true rfl)) dX0_become_58 ⟨Nat.le_of_ble_eq_true rfl, Nat.le_of_ble_eq_true rfl⟩)) (fun r5 h6 => ?_)
    subst h6
    have hg9 := gsq_r (0)
    refine va_put (D := (dC, dI)) (ci := 0) (v := .int (iI (f_gsq 0))) (ty := .int) (C := RX0) (T := TX0) (N := 6) hx hb hw inX0 tyX0 tyX0_ok nmX0 hown hK hP hD hS 0 rfl rfl 4 (by decide) (hw _ mA_35) (fun _ h9 => h9) rfl (by decide +kernel) rfl rfl (Nat.le_of_ble_eq_true rfl) dX0_become_61 (fun H locs hP hD hS => ?_)
    have hP : va_P (dC, dI) vwCl [(q, .inr (0, [.int (iI tt), .int (iI a), .int (iI b), .int (iI k), .int (iI (f_gsq 0)), .int (iI (F 5))]))] H := hP
    have hD : va_D A [(q, .inr (0, [.int (iI tt), .int (iI a), .int (iI b), .int (iI k), .int (iI (f_gsq 0)), .int (iI (F 5))]))] := hD
    refine lv_aload_n hx hb dX0_become_64 rfl (lv_at hl 1 rfl) ?_
    refine lv_aload_n hx hb dX0_become_65 rfl (lv_at hl 1 rfl) ?_
    refine va_get (D := (dC, dI)) (ci := 0) (v := .int (iI (f_gsq 0))) (C := RX0) (T := TX0) (N := 6) hx hb hw inX0 hown hK hP 0 rfl rfl 4 (by decide) (hw _ mA_35) (fun _ h9 => h9) rfl dX0_become_66 ?_
    refine ix_if_ne (tgt := 76) hx hb dX0_become_69 (by decide) ⟨by omega, by omega⟩ (fun c7 => ?_) (fun c7 => ?_)
    · refine lv_iload hx hb dX0_become_76 (lv_at hl 0 rfl) ?_
      refine lv_aload_n hx hb dX0_become_78 rfl (lv_at hl 1 rfl) ?_
      refine va_get (D := (dC, dI)) (ci := 0) (v := .int (iI (f_gsq 0))) (C := RX0) (T := TX0) (N := 6) hx hb hw inX0 hown hK hP 0 rfl rfl 4 (by decide) (hw _ mA_35) (fun _ h9 => h9) rfl dX0_become_79 ?_
      refine lv_aload_n hx hb dX0_become_82 rfl (lv_at hl 1 rfl) ?_
      refine va_get (D := (dC, dI)) (ci := 0) (v := .int (iI (f_gsq 0))) (C := RX0) (T := TX0) (N := 6) hx hb hw inX0 hown hK hP 0 rfl rfl 4 (by decide) (hw _ mA_35) (fun _ h9 => h9) rfl dX0_become_83 ?_
      refine ix_imul hx hb dX0_become_86 ?_
      refine ix_idiv hx hb dX0_become_87 (by decide) (by have := sq_mono hg9.1 hg9.2; have := sq_mono (a := 0) (Int.le_refl 0) hg9.1; omega) (by omega) (by have h1 : 1 ≤ (f_gsq 0) := (by omega); have := sq_mono (a := 1) (by omega) h1; omega) ?_
      refine va_put (D := (dC, dI)) (ci := 0) (v := .int (iI (Int.tdiv 0 ((f_gsq 0) * (f_gsq 0))))) (ty := .int) (C := RX0) (T := TX0) (N := 6) hx hb hw inX0 tyX0 tyX0_ok nmX0 hown hK hP hD hS 0 rfl rfl 5 (by decide) (hw _ mA_37) (fun _ h9 => h9) rfl (by decide +kernel) rfl rfl (Nat.le_of_ble_eq_true rfl) dX0_become_88 (fun H locs hP hD hS => ?_)
      have hP : va_P (dC, dI) vwCl [(q, .inr (0, [.int (iI tt), .int (iI a), .int (iI b), .int (iI k), .int (iI (f_gsq 0)), .int (iI (Int.tdiv 0 ((f_gsq 0) * (f_gsq 0))))]))] H := hP
      have hD : va_D A [(q, .inr (0, [.int (iI tt), .int (iI a), .int (iI b), .int (iI k), .int (iI (f_gsq 0)), .int (iI (Int.tdiv 0 ((f_gsq 0) * (f_gsq 0))))]))] := hD
      have e4 : f_gsq 0 = f_out a b k := by unfold f_out f_und; grind
      have e5 : Int.tdiv 0 ((f_gsq 0) * (f_gsq 0)) = f_ins a b k := by unfold f_ins; rw [← e4]; unfold f_und; grind
      have eW : ([.int (iI tt), .int (iI a), .int (iI b), .int (iI k), .int (iI (f_gsq 0)), .int (iI (Int.tdiv 0 ((f_gsq 0) * (f_gsq 0))))] : List Value) = fl (nf tt a b k) := by rw [show fl (nf tt a b k) = [.int (iI tt), .int (iI a), .int (iI b), .int (iI k), .int (iI (f_out a b k)), .int (iI (f_ins a b k))] from rfl, ← e5, ← e4]
      rw [eW] at hP hD
      have hP9 := hP.sub (ws' := [(q, .inr (0, fl (nf tt a b k)))]) [0] rfl
      have hD9 := hD.sub (ws' := [(q, .inr (0, fl (nf tt a b k)))]) [0] (by decide) rfl
      have hK9 := hK.sub (tys' := []) [] rfl
      exact W.vret hx hb hr (fun t ht hW => ⟨⟨(), rfl, trivial, by rw [ht]; exact hP9, va_K.moved hW.alike hK9, hD9⟩, hS.F ht⟩) hS.2.2 dX0_become_91
    · refine ix_iconst (n := 0) hx hb dX0_become_72 ?_
      refine lv_goto (tgt := 88) hx hb dX0_become_73 (by decide) ?_
      refine va_put (D := (dC, dI)) (ci := 0) (v := .int (iI 0)) (ty := .int) (C := RX0) (T := TX0) (N := 6) hx hb hw inX0 tyX0 tyX0_ok nmX0 hown hK hP hD hS 0 rfl rfl 5 (by decide) (hw _ mA_37) (fun _ h9 => h9) rfl (by decide +kernel) rfl rfl (Nat.le_of_ble_eq_true rfl) dX0_become_88 (fun H locs hP hD hS => ?_)
      have hP : va_P (dC, dI) vwCl [(q, .inr (0, [.int (iI tt), .int (iI a), .int (iI b), .int (iI k), .int (iI (f_gsq 0)), .int (iI 0)]))] H := hP
      have hD : va_D A [(q, .inr (0, [.int (iI tt), .int (iI a), .int (iI b), .int (iI k), .int (iI (f_gsq 0)), .int (iI 0)]))] := hD
      have e4 : f_gsq 0 = f_out a b k := by unfold f_out f_und; grind
      have e5 : 0 = f_ins a b k := by unfold f_ins; rw [← e4]; unfold f_und; grind
      have eW : ([.int (iI tt), .int (iI a), .int (iI b), .int (iI k), .int (iI (f_gsq 0)), .int (iI 0)] : List Value) = fl (nf tt a b k) := by rw [show fl (nf tt a b k) = [.int (iI tt), .int (iI a), .int (iI b), .int (iI k), .int (iI (f_out a b k)), .int (iI (f_ins a b k))] from rfl, ← e5, ← e4]
      rw [eW] at hP hD
      have hP9 := hP.sub (ws' := [(q, .inr (0, fl (nf tt a b k)))]) [0] rfl
      have hD9 := hD.sub (ws' := [(q, .inr (0, fl (nf tt a b k)))]) [0] (by decide) rfl
      have hK9 := hK.sub (tys' := []) [] rfl
      exact W.vret hx hb hr (fun t ht hW => ⟨⟨(), rfl, trivial, by rw [ht]; exact hP9, va_K.moved hW.alike hK9, hD9⟩, hS.F ht⟩) hS.2.2 dX0_become_91
end
section
/-! polynomials as functions of the power; division by a x x + b x + c (by b x + c with a being 0) -/
def n5 (N : Int → Int) : Prop := ∀ j, j < 0 ∨ 4 < j → N j = 0
def dvs (a b c : Int) (R Q : Int → Int) : Prop := ∀ j, R j = a * Q (j - 2) + b * Q (j - 1) + c * Q j
theorem n5_iu {N : Int → Int} (h : n5 N) {k x : Int} (h0 : 0 ≤ k) (h4 : k ≤ 4) : n5 (iu N k x) := by
  intro j hj
  rw [iu_n (by omega)]
  exact h j hj
/-- one step of the division: q comes into the quotient -/
theorem dv_step {a b c sz hi i : Int} {R G D : Int → Int} (hs : (sz = 1 ∧ a = 0 ∧ hi = b) ∨ (sz = 2 ∧ hi = a))
    (h1 : ∀ j, R j = a * G (j - 2) + b * G (j - 1) + c * G j + (if j ≤ i then D j else 0)) (h2 : G (i - sz) = 0) (q : Int) (hq : hi * q = D i) (D' : Int → Int)
    (hD' : ∀ j, j ≤ i - 1 → D' j = D j - (if j = i - sz then q * c else 0) - (if sz = 2 ∧ j = i - 1 then q * b else 0)) :
    ∀ j, R j = a * iu G (i - sz) q (j - 2) + b * iu G (i - sz) q (j - 1) + c * iu G (i - sz) q j + (if j ≤ i - 1 then D' j else 0) := by
  intro j
  have e := h1 j
  have e2 := hD' j
  rcases hs with ⟨rfl, rfl, rfl⟩ | ⟨rfl, rfl⟩
  · unfold iu
    by_cases c1 : j = i
    · subst c1
      rw [if_pos (Int.le_refl j)] at e
      rw [if_pos rfl, if_neg (by omega), if_neg (by omega)]
      grind
    · by_cases c2 : j = i - 1
      · subst c2
        grind
      · grind
  · unfold iu
    by_cases c1 : j = i
    · subst c1
      grind
    · by_cases c2 : j = i - 1
      · subst c2
        grind
      · by_cases c3 : j = i - 2
        · subst c3
          grind
        · grind
theorem top0 {a b c sz hi i : Int} {T E : Int → Int} (hs : (sz = 1 ∧ a = 0 ∧ hi = b) ∨ (sz = 2 ∧ hi = a)) (hne : hi ≠ 0)
    (hT : ∀ j, a * T (j - 2) + b * T (j - 1) + c * T j = E j) (hE : ∀ j, i < j → E j = 0) (h4 : ∀ k, 4 < k → T k = 0) : ∀ (m : Nat) (k : Int), i - sz < k → 4 < k + m → T k = 0 := by
  intro m
  induction m with
  | zero => intro k _ h; exact h4 k (by omega)
  | succ m ih =>
    intro k hk h
    have t1 : T (k + 1) = 0 := ih (k + 1) (by omega) (by omega)
    have t2 : T (k + 2) = 0 := ih (k + 2) (by omega) (by omega)
    have e := hT (k + sz)
    rw [hE (k + sz) (by omega)] at e
    rcases hs with ⟨rfl, rfl, rfl⟩ | ⟨rfl, rfl⟩
    · rw [show k + 1 - 1 = k by omega, t1] at e
      have e3 : hi * T k = 0 := by grind
      rcases Int.mul_eq_zero.mp e3 with q | q
      · exact absurd q hne
      · exact q
    · rw [show k + 2 - 2 = k by omega, show k + 2 - 1 = k + 1 by omega, t1, t2] at e
      have e3 : hi * T k = 0 := by grind
      rcases Int.mul_eq_zero.mp e3 with q | q
      · exact absurd q hne
      · exact q
/-- what a division that goes up must meet: the step's number is divided -/
theorem dv_must {a b c sz hi i : Int} {R G D Q : Int → Int} (hs : (sz = 1 ∧ a = 0 ∧ hi = b) ∨ (sz = 2 ∧ hi = a)) (hne : hi ≠ 0)
    (h1 : ∀ j, R j = a * G (j - 2) + b * G (j - 1) + c * G j + (if j ≤ i then D j else 0)) (hG : n5 G) (hQ : n5 Q) (hd : dvs a b c R Q) : hi * (Q (i - sz) - G (i - sz)) = D i := by
  have hT : ∀ j, a * (fun k => Q k - G k) (j - 2) + b * (fun k => Q k - G k) (j - 1) + c * (fun k => Q k - G k) j = (fun j => if j ≤ i then D j else 0) j := by
    intro j
    have e := h1 j
    have e2 := hd j
    show a * (Q (j - 2) - G (j - 2)) + b * (Q (j - 1) - G (j - 1)) + c * (Q j - G j) = (if j ≤ i then D j else 0)
    grind
  have hz : ∀ k, i - sz < k → Q k - G k = 0 := fun k hk => top0 (T := fun k => Q k - G k) (i := i) hs hne hT (fun j hj => if_neg (by omega)) (fun k hk => by show Q k - G k = 0; rw [hQ k (by omega), hG k (by omega)]; rfl) ((5 - k).toNat) k hk (by omega)
  have e := hT i
  have z1 := hz (i - sz + 1) (by omega)
  have z2 := hz (i - sz + 2) (by omega)
  have e5 : a * (Q (i - 2) - G (i - 2)) + b * (Q (i - 1) - G (i - 1)) + c * (Q i - G i) = D i := by
    have : (fun j => if j ≤ i then D j else 0) i = D i := if_pos (Int.le_refl i)
    rw [this] at e
    exact e
  rcases hs with ⟨rfl, rfl, rfl⟩ | ⟨rfl, rfl⟩
  · rw [show i - 1 + 1 = i by omega] at z1
    grind
  · rw [show i - 2 + 1 = i - 1 by omega] at z1
    rw [show i - 2 + 2 = i by omega] at z2
    grind
theorem tdiv_of {hi q x : Int} (h : hi ≠ 0) (e : hi * q = x) : x.tmod hi = 0 ∧ x.tdiv hi = q := by
  subst e
  exact ⟨Int.mul_tmod_right _ _, Int.mul_tdiv_cancel_left _ h⟩
theorem tdiv_mul {hi x : Int} (e : x.tmod hi = 0) : hi * x.tdiv hi = x := by
  have := Int.tmod_add_mul_tdiv x hi
  omega
section CP
variable {p : Program} {l : Launch} {e : Env} {R : Room} {s : State} {m : MethodId} {args : Array Value} {below : List Frame} {meth : Method} {c : Code} {H : Heap} {locs : List Loc} {cells slots : Nat} {Q : State → Prop} {cc : ByteArray} {pc : Nat} {ls : Array Slot} {rest : List Value} {D : va_G} {cl : List vw_C} {ws : va_W} {tys : List (ClassId × FieldType)} {A : Nat → Prop} {H0 : Heap} {a a0 : Nat}
theorem cpy5 {N M : Int → Int} (hN : n5 N) (hM : n5 M) : va_cpy (aI N) (aI M) (iI 0).toNatClampNeg (iI 0).toNatClampNeg (iI 5).toNatClampNeg = aI N := by
  funext k
  show (if (iI 0).toNatClampNeg ≤ k ∧ k < (iI 0).toNatClampNeg + (iI 5).toNatClampNeg then aI N ((iI 0).toNatClampNeg + (k - (iI 0).toNatClampNeg)) else aI M k) = aI N k
  have e0 : (iI 0).toNatClampNeg = 0 := by decide
  have e5 : (iI 5).toNatClampNeg = 5 := by decide
  rw [e0, e5]
  by_cases h : k < 5
  · rw [if_pos ⟨by omega, by omega⟩]
    simp
  · rw [if_neg (by omega)]
    unfold aI
    rw [hN k (by omega), hM k (by omega)]
/-- System.arraycopy of five ints -/
theorem ix_copy5 (hexec : p.tables.exec = Jvm.exec) (hb : c.code = cc) (hml : c.maxLocals = ls.size) {own : String} {index : Nat} (hown : s.vm.findClass own = some m.cls) (hlink : (Cond.methodLink own index arraycopyName).before args s = true) (hnat : (Cond.native arraycopyName).before args s = true) (hstat : (Cond.static arraycopyName).before args s = true) (hini : (Cond.initialized "java/lang/System").before args s = true) (hK : va_K D cl tys s) (hP : va_P D cl ws H) (hD : va_D A ws) (hS : va_S A H0 H locs) (q0 q1 t0 : Nat) {c0 : ClassId} {N M : Int → Int} (ha0 : ws[q0]? = some (a0, .inl (c0, 5, .inl (aI N)))) (ha1 : ws[q1]? = some (a, .inl (c0, 5, .inl (aI M)))) (ht0 : tys[t0]? = some (c0, .int)) (hN : n5 N) (hM : n5 M) (hframes : 1 ≤ R.frames) (hlocals : (rest.map fun v => v.category).sum + (nativeFrameWords "java/lang/System" "arraycopy" 5 + 11) ≤ R.locals) (hdg : decode cc pc = .ok (.invokestatic index, 3))
    (kk : ∀ (H1 : Heap) (locs1 : List Loc), va_P D cl (ws.set q1 (a, .inl (c0, 5, .inl (aI N)))) H1 → va_D A (ws.set q1 (a, .inl (c0, 5, .inl (aI N)))) → va_S A H0 H1 locs1 → W p l e R s m args below meth c H1 locs1 cells slots Q (F0 m (pc + 3) ls rest)) : W p l e R s m args below meth c H locs cells slots Q (F0 m pc ls (.int (iI 5) :: .int (iI 0) :: .ref a :: .int (iI 0) :: .ref a0 :: rest)) :=
  va_copyi hexec hb hml hown hlink hnat hstat hini hK hP hD hS q0 q1 t0 t0 ha0 ha1 ht0 ht0 rfl (by decide) (by decide) (by decide) (by decide) (by decide) (fun i _ => rfl) hframes hlocals hdg (fun H1 locs1 b1 b2 b3 => kk H1 locs1 (by rw [cpy5 hN hM] at b1; exact b1) (by rw [cpy5 hN hM] at b2; exact b2) b3)
end CP
end
section
theorem mul_in {x y A B : Int} (hx : -A ≤ x ∧ x ≤ A) (hy : -B ≤ y ∧ y ≤ B) (hA : 0 ≤ A) (hB : 0 ≤ B) : -(A * B) ≤ x * y ∧ x * y ≤ A * B := by
  have h1 : (x * y).natAbs ≤ (A * B).natAbs := by
    rw [Int.natAbs_mul, Int.natAbs_mul]
    exact Nat.mul_le_mul (by omega) (by omega)
  have h2 : 0 ≤ A * B := Int.mul_nonneg hA hB
  omega
theorem tdiv_in {x y A : Int} (hx : -A ≤ x ∧ x ≤ A) : -A ≤ x.tdiv y ∧ x.tdiv y ≤ A := by
  have := Int.natAbs_tdiv_le_natAbs x y
  omega
/-- how far the division of R by a x x + b x + k has come: the quotient so far is G; at i and below stands what is left; L bounds the numbers -/
def DI (a b k sz hi dg K : Int) (L R : Int → Int) (i : Int) (D G : Int → Int) : Prop :=
  (((sz = 1 ∧ a = 0 ∧ hi = b) ∨ (sz = 2 ∧ hi = a)) ∧ hi ≠ 0 ∧ r32 hi ∧ sz ≤ dg ∧ dg ≤ 4 ∧ 0 ≤ K ∧ (-K ≤ b ∧ b ≤ K) ∧ (-K ≤ k ∧ k ≤ K) ∧ (∀ i, 1 ≤ i → i ≤ 4 → 0 ≤ L i ∧ L i * (1 + K) ≤ L (i - 1)) ∧ (∀ i, 0 ≤ i → i ≤ 4 → L i ≤ 2147483647) ∧ n5 R) ∧
  (sz - 1 ≤ i ∧ i ≤ dg) ∧ (∀ j, R j = a * G (j - 2) + b * G (j - 1) + k * G j + (if j ≤ i then D j else 0)) ∧ n5 G ∧ n5 D ∧
  (∀ x, i < x + sz → x + sz ≤ dg → 0 ≤ x → G x = D (x + sz)) ∧ (∀ x, x + sz ≤ i ∨ dg < x + sz → G x = 0) ∧ (∀ j, -(L i) ≤ D j ∧ D j ≤ L i)
section DI
variable {a b k sz hi dg K : Int} {L R : Int → Int} {i : Int} {D G : Int → Int}
theorem DI.szr (h : DI a b k sz hi dg K L R i D G) : 1 ≤ sz ∧ sz ≤ 2 := by
  rcases h.1.1 with ⟨q, -⟩ | ⟨q, -⟩ <;> omega
theorem DI.r (h : DI a b k sz hi dg K L R i D G) (j : Int) : r32 (D j) ∧ D j ≠ -2147483648 := by
  have h1 := h.2.2.2.2.2.2.2 j
  have h2 := h.szr
  have h3 := h.1.2.2.2.2.2.2.2.2.2.1 i (by have := h.2.1.1; omega) (by have := h.2.1.2; have := h.1.2.2.2.2.1; omega)
  exact ⟨⟨by omega, by omega⟩, by omega⟩
theorem DI.next (h : DI a b k sz hi dg K L R i D G) (hi1 : sz ≤ i) (hm : (D i).tmod hi = 0) (D' : Int → Int)
    (h0 : D' i = (D i).tdiv hi) (hk : D' (i - sz) = D (i - sz) - (D i).tdiv hi * k) (hb : sz = 2 → D' (i - 1) = D (i - 1) - (D i).tdiv hi * b) (ho : ∀ j, j ≠ i → j ≠ i - sz → (sz = 2 → j ≠ i - 1) → D' j = D j) :
    DI a b k sz hi dg K L R (i - 1) D' (iu G (i - sz) ((D i).tdiv hi)) := by
  have hsz := h.szr
  obtain ⟨⟨hs, hne, hrr, h3, h4, h5, h6, h7, h8, h9, hR⟩, ⟨g1, g2⟩, g3, g4, g5, g6, g7, g8⟩ := h
  have hq := tdiv_mul hm
  have hqb := tdiv_in (y := hi) (g8 i)
  obtain ⟨l1, l2⟩ := h8 i (by omega) (by omega)
  have l3 : L i * (1 + K) = L i + L i * K := by grind
  have b1 := mul_in hqb h7 l1 h5
  have b2 := mul_in hqb h6 l1 h5
  have l4 : 0 ≤ L i * K := Int.mul_nonneg l1 h5
  refine ⟨⟨hs, hne, hrr, h3, h4, h5, h6, h7, h8, h9, hR⟩, ⟨by omega, by omega⟩, ?_, ?_, ?_, ?_, ?_, ?_⟩
  · refine dv_step hs g3 (g7 _ (by omega)) _ hq D' ?_
    intro j hj
    by_cases c1 : j = i - sz
    · subst c1
      rw [hk, if_pos rfl, if_neg (by omega)]
      omega
    · rw [if_neg c1]
      by_cases c2 : sz = 2 ∧ j = i - 1
      · rw [if_pos c2, c2.2, hb c2.1]
        omega
      · rw [if_neg c2, ho j (by omega) c1 (fun q z => c2 ⟨q, z⟩)]
        omega
  · exact n5_iu g4 (by omega) (by omega)
  · intro j hj
    rw [ho j (by omega) (by omega) (by omega)]
    exact g5 j hj
  · intro x x1 x2 x3
    by_cases c1 : x = i - sz
    · subst c1
      rw [iu_s, show i - sz + sz = i by omega, h0]
    · rw [iu_n c1, ho (x + sz) (by omega) (by omega) (by omega)]
      exact g6 x (by omega) x2 x3
  · intro x hx
    rw [iu_n (by omega)]
    exact g7 x (by omega)
  · intro j
    have g9 := g8 j
    by_cases c1 : j = i
    · rw [c1, h0]; omega
    · by_cases c2 : j = i - sz
      · rw [c2, hk]
        have := g8 (i - sz)
        omega
      · by_cases c3 : sz = 2 ∧ j = i - 1
        · rw [c3.2, hb c3.1]
          have := g8 (i - 1)
          omega
        · rw [ho j c1 c2 (fun q z => c3 ⟨q, z⟩)]
          omega
theorem DI.no (h : DI a b k sz hi dg K L R i D G) (hm : ¬ (D i).tmod hi = 0) : ¬ ∃ Q, n5 Q ∧ dvs a b k R Q := by
  rintro ⟨Q, hQ, hd⟩
  exact hm (tdiv_of h.1.2.1 (dv_must h.1.1 h.1.2.1 h.2.2.1 h.2.2.2.1 hQ hd)).1
theorem DI.noend (h : DI a b k sz hi dg K L R i D G) (hi1 : ¬ sz ≤ i) (hm : ¬ D 0 = 0 ∨ ¬ D (sz - 1) = 0) : ¬ ∃ Q, n5 Q ∧ dvs a b k R Q := by
  rintro ⟨Q, hQ, hd⟩
  have hsz := h.szr
  have hI : i = sz - 1 := by have := h.2.1.1; omega
  have e1 := dv_must h.1.1 h.1.2.1 h.2.2.1 h.2.2.2.1 hQ hd
  have hG1 := h.2.2.2.1 (i - sz) (by omega)
  have hQ1 := hQ (i - sz) (by omega)
  rw [hG1, hQ1] at e1
  have z1 : D i = 0 := by rw [← e1]; simp
  rw [hI] at z1
  rcases hm with hm | hm
  · have h0 : ¬ sz = 1 := fun q => hm (by rw [q] at z1; exact z1)
    have hs2 : sz = 2 := by omega
    have e2 : ∀ x, Q x = G x := by
      intro x
      by_cases c1 : -1 < x
      · have hT : ∀ j, a * (fun k => Q k - G k) (j - 2) + b * (fun k => Q k - G k) (j - 1) + k * (fun k => Q k - G k) j = (fun j => if j ≤ i then D j else 0) j := by
          intro j
          have e := h.2.2.1 j
          have e2 := hd j
          show a * (Q (j - 2) - G (j - 2)) + b * (Q (j - 1) - G (j - 1)) + k * (Q j - G j) = (if j ≤ i then D j else 0)
          grind
        have := top0 (T := fun k => Q k - G k) (i := i) h.1.1 h.1.2.1 hT (fun j hj => if_neg (by omega)) (fun k hk => by show Q k - G k = 0; rw [hQ k (by omega), h.2.2.2.1 k (by omega)]; rfl) ((5 - x).toNat) x (by omega) (by omega)
        have t : Q x - G x = 0 := this
        omega
      · rw [hQ x (by omega), h.2.2.2.1 x (by omega)]
    have e3 := h.2.2.1 0
    have e4 := hd 0
    rw [e2, e2, e2] at e4
    rw [if_pos (by omega)] at e3
    omega
  · exact hm z1
theorem DI.yes (h : DI a b k sz hi dg K L R i D G) (hi1 : ¬ sz ≤ i) (h0 : D 0 = 0) (h1 : D (sz - 1) = 0) : dvs a b k R G ∧ n5 G ∧ ∀ x, 0 ≤ x → G x = if x + sz ≤ dg then D (x + sz) else 0 := by
  have hsz := h.szr
  have hI : i = sz - 1 := by have := h.2.1.1; omega
  refine ⟨fun j => ?_, h.2.2.2.1, fun x hx => ?_⟩
  · have e := h.2.2.1 j
    rw [e]
    by_cases c1 : j ≤ i
    · rw [if_pos c1]
      have : D j = 0 := by
        by_cases c2 : j < 0
        · exact h.2.2.2.2.1 j (Or.inl c2)
        · by_cases c3 : j = 0
          · rw [c3]; exact h0
          · rw [show j = sz - 1 by omega]; exact h1
      omega
    · rw [if_neg c1]; omega
  · by_cases c1 : x + sz ≤ dg
    · rw [if_pos c1]; exact h.2.2.2.2.2.1 x (by omega) c1 hx
    · rw [if_neg c1]; exact h.2.2.2.2.2.2.1 x (by omega)
end DI
theorem deg_c (R : Int → Int) : -1 ≤ f_deg R ∧ f_deg R ≤ 4 ∧ (∀ j, f_deg R < j → j ≤ 4 → R j = 0) ∧ (0 ≤ f_deg R → R (f_deg R) ≠ 0) := by
  unfold f_deg
  by_cases h4 : R 4 = 0
  · by_cases h3 : R 3 = 0
    · by_cases h2 : R 2 = 0
      · by_cases h1 : R 1 = 0
        · by_cases h0 : R 0 = 0
          · simp only [h4, h3, h2, h1, h0, if_true]
            refine ⟨by omega, by omega, fun j a b => ?_, fun h => absurd h (by omega)⟩
            rcases (show j = 0 ∨ j = 1 ∨ j = 2 ∨ j = 3 ∨ j = 4 by omega) with rfl | rfl | rfl | rfl | rfl <;> assumption
          · simp only [h4, h3, h2, h1, h0, if_true, if_false]
            refine ⟨by omega, by omega, fun j a b => ?_, fun _ => h0⟩
            rcases (show j = 1 ∨ j = 2 ∨ j = 3 ∨ j = 4 by omega) with rfl | rfl | rfl | rfl <;> assumption
        · simp only [h4, h3, h2, h1, if_true, if_false]
          refine ⟨by omega, by omega, fun j a b => ?_, fun _ => h1⟩
          rcases (show j = 2 ∨ j = 3 ∨ j = 4 by omega) with rfl | rfl | rfl <;> assumption
      · simp only [h4, h3, h2, if_true, if_false]
        refine ⟨by omega, by omega, fun j a b => ?_, fun _ => h2⟩
        rcases (show j = 3 ∨ j = 4 by omega) with rfl | rfl <;> assumption
    · simp only [h4, h3, if_true, if_false]
      refine ⟨by omega, by omega, fun j a b => ?_, fun _ => h3⟩
      rcases (show j = 4 by omega) with rfl
      assumption
  · simp only [h4, if_false]
    exact ⟨by omega, by omega, fun j a b => by omega, fun _ => h4⟩
end
section
set_option maxHeartbeats 4000000 in
set_option maxRecDepth 100000 in
theorem lp_divideRest2 {p : Program} {l : Launch} {e : Env} {Rm : Room} {s : State} {m : MethodId} {args : Array Value} {below : List Frame} {meth : Method} {c : Code} {dC : Nat → ClassId} {dI : Nat → Nat → Nat} {A : Nat → Prop} {a b k sz dg : Int} {R D G : Int → Int} {h n r d f : Nat} {cI : ClassId} {fc cn sp : Int} (hs : 1 ≤ sz ∧ sz ≤ 2) (hdg : dg ≤ 4 ∧ 0 ≤ dg) (hR : n5 R) (hD5 : n5 D) (hG5 : n5 G) (hd : dvs a b k R G) (hG : ∀ x, 0 ≤ x → G x = if x + sz ≤ dg then D (x + sz) else 0) (C0 : cx p s m meth c args RX1 cX1_divideRest 8 (some .boolean)) : ∀ (n9 : Nat) (S : Int → Int) (t : Int), 0 ≤ t ∧ t ≤ 5 → (∀ j, S j = if 0 ≤ j ∧ j < t then G j else R j) → (5 - t).toNat < n9 → ∀ (H : Heap) (locs : List Loc), va_K (dC, dI) vwCl [(cI, .int)] s → va_P (dC, dI) vwCl [(h, .inr (1, [.ref n, .ref r, .ref d, .ref f, .int (iI fc), .int (iI cn), .int (iI sp)])), (r, .inl (cI, 5, .inl (aI S))), (d, .inl (cI, 5, .inl (aI D)))] H → va_D A [(h, .inr (1, [.ref n, .ref r, .ref d, .ref f, .int (iI fc), .int (iI cn), .int (iI sp)])), (r, .inl (cI, 5, .inl (aI S))), (d, .inl (cI, 5, .inl (aI D)))] → va_S A s.heap H locs → ∀ (ls : Array Slot), lv_has ls 8 [(0, .ref h), (4, .int (iI sz)), (6, .int (iI dg)), (7, .int (iI t))] → W p l e Rm s m args below meth c H locs 0 0 (MQ below (va_Qi (fun (r9 : Int32) (u : (Int → Int) × (Int → Int)) => n5 u.2 ∧ ((r9 = iI 1 ∧ n5 u.1 ∧ dvs a b k R u.1) ∨ (r9 = iI 0 ∧ u.1 = R ∧ ¬ ∃ Q, n5 Q ∧ dvs a b k R Q))) (fun (u : (Int → Int) × (Int → Int)) t9 => va_P (dC, dI) vwCl [(h, .inr (1, [.ref n, .ref r, .ref d, .ref f, .int (iI fc), .int (iI cn), .int (iI sp)])), (r, .inl (cI, 5, .inl (aI u.1))), (d, .inl (cI, 5, .inl (aI u.2)))] t9.heap ∧ va_K (dC, dI) vwCl [(cI, .int)] t9 ∧ va_D A [(h, .inr (1, [.ref n, .ref r, .ref d, .ref f, .int (iI fc), .int (iI cn), .int (iI sp)])), (r, .inl (cI, 5, .inl (aI u.1))), (d, .inl (cI, 5, .inl (aI u.2)))]) A) args s 0 0 A) (F0 m 182 ls []) := by
  obtain ⟨hx, hb, hr, hml, hown, hw, hlocks⟩ := C0
  intro n9
  induction n9 with
  | zero => intro S t _ _ hmu; exact absurd hmu (Nat.not_lt_zero _)
  | succ n9 ih =>
    intro S t ht hF hmu H locs hK hP hD hS ls hl
    refine lv_iload hx hb dX1_divideRest_182 (lv_at hl 3 rfl) ?_
    refine lv_aload_n hx hb dX1_divideRest_184 rfl (lv_at hl 0 rfl) ?_
    refine va_get (D := (dC, dI)) (ci := 1) (v := .ref r) (C := RX1) (T := TX1) (N := 7) hx hb hw inX1 hown hK hP 0 rfl rfl 1 (by decide) (hw _ mA_54) (fun _ h9 => h9) rfl dX1_divideRest_185 ?_
    refine va_alen (v := iI 5) hx hb hK hP 1 0 rfl rfl rfl dX1_divideRest_188 ?_
    refine ix_icmp_ge (tgt := 229) hx hb dX1_divideRest_189 (by decide) (by omega) (by decide) (fun c1 => ?_) (fun c1 => ?_)
    · refine ix_iconst (n := 1) hx hb dX1_divideRest_229 ?_
      have e9 : S = G := by funext j; rw [hF j]; by_cases q : 0 ≤ j ∧ j < t; exact if_pos q; rw [if_neg q, hR j (by omega), hG5 j (by omega)]
      have hP9 := hP.sub (ws' := [(h, .inr (1, [.ref n, .ref r, .ref d, .ref f, .int (iI fc), .int (iI cn), .int (iI sp)])), (r, .inl (cI, 5, .inl (aI S))), (d, .inl (cI, 5, .inl (aI D)))]) [0, 1, 2] rfl
      have hD9 := hD.sub (ws' := [(h, .inr (1, [.ref n, .ref r, .ref d, .ref f, .int (iI fc), .int (iI cn), .int (iI sp)])), (r, .inl (cI, 5, .inl (aI S))), (d, .inl (cI, 5, .inl (aI D)))]) [0, 1, 2] (by decide) rfl
      have hK9 := hK.sub (tys' := [(cI, .int)]) [0] rfl
      exact W.zret (v := iI 1) hx hb hr (by decide) (fun t ht hW => ⟨⟨iI 1, (S, D), rfl, ⟨hD5, Or.inl ⟨rfl, by rw [e9]; exact hG5, by rw [e9]; exact hd⟩⟩, by rw [ht]; exact hP9, va_K.moved hW.alike hK9, hD9⟩, hS.F ht⟩) hS.2.2 dX1_divideRest_230
    · refine lv_aload_n hx hb dX1_divideRest_192 rfl (lv_at hl 0 rfl) ?_
      refine va_get (D := (dC, dI)) (ci := 1) (v := .ref r) (C := RX1) (T := TX1) (N := 7) hx hb hw inX1 hown hK hP 0 rfl rfl 1 (by decide) (hw _ mA_54) (fun _ h9 => h9) rfl dX1_divideRest_193 ?_
      refine lv_iload hx hb dX1_divideRest_196 (lv_at hl 3 rfl) ?_
      refine lv_iload hx hb dX1_divideRest_198 (lv_at hl 3 rfl) ?_
      refine lv_iload hx hb dX1_divideRest_200 (lv_at hl 1 rfl) ?_
      refine ix_iadd hx hb dX1_divideRest_202 ?_
      refine lv_iload hx hb dX1_divideRest_203 (lv_at hl 2 rfl) ?_
      refine ix_icmp_gt (tgt := 221) hx hb dX1_divideRest_205 (by decide) (by omega) (by omega) (fun c2 => ?_) (fun c2 => ?_)
      · refine ix_iconst (n := 0) hx hb dX1_divideRest_221 ?_
        refine ix_iast (k := t) (x := 0) hx hb hK hP hD hS 1 0 rfl rfl (by omega) (by omega) (by decide) dX1_divideRest_222 (fun H locs hP hD hS => ?_)
        have hP : va_P (dC, dI) vwCl [(h, .inr (1, [.ref n, .ref r, .ref d, .ref f, .int (iI fc), .int (iI cn), .int (iI sp)])), (r, .inl (cI, 5, .inl (aI (iu S t 0)))), (d, .inl (cI, 5, .inl (aI D)))] H := hP
        have hD : va_D A [(h, .inr (1, [.ref n, .ref r, .ref d, .ref f, .int (iI fc), .int (iI cn), .int (iI sp)])), (r, .inl (cI, 5, .inl (aI (iu S t 0)))), (d, .inl (cI, 5, .inl (aI D)))] := hD
        refine ix_iinc (k := 3) (lv2 := [(7, .int (iI (t + 1))), (0, .ref h), (4, .int (iI sz)), (6, .int (iI dg))]) hx hb dX1_divideRest_223 hl rfl (by decide) rfl (fun ls hl => ?_)
        refine lv_goto (tgt := 182) hx hb dX1_divideRest_226 (by decide) ?_
        exact ih (iu S t 0) (t + 1) (by omega) (fun j => by unfold iu; have := hF j; have := hG j; grind) (by omega) _ _ hK hP hD hS ls (lv_sub hl [1, 2, 3, 0] rfl)
      · refine lv_aload_n hx hb dX1_divideRest_208 rfl (lv_at hl 0 rfl) ?_
        refine va_get (D := (dC, dI)) (ci := 1) (v := .ref d) (C := RX1) (T := TX1) (N := 7) hx hb hw inX1 hown hK hP 0 rfl rfl 2 (by decide) (hw _ mA_55) (fun _ h9 => h9) rfl dX1_divideRest_209 ?_
        refine lv_iload hx hb dX1_divideRest_212 (lv_at hl 3 rfl) ?_
        refine lv_iload hx hb dX1_divideRest_214 (lv_at hl 1 rfl) ?_
        refine ix_iadd hx hb dX1_divideRest_216 ?_
        refine ix_iald (k := t + sz) hx hb hK hP 2 0 rfl rfl (by omega) (by omega) (by decide) dX1_divideRest_217 ?_
        refine lv_goto (tgt := 222) hx hb dX1_divideRest_218 (by decide) ?_
        refine ix_iast (k := t) (x := D (t + sz)) hx hb hK hP hD hS 1 0 rfl rfl (by omega) (by omega) (by decide) dX1_divideRest_222 (fun H locs hP hD hS => ?_)
        have hP : va_P (dC, dI) vwCl [(h, .inr (1, [.ref n, .ref r, .ref d, .ref f, .int (iI fc), .int (iI cn), .int (iI sp)])), (r, .inl (cI, 5, .inl (aI (iu S t (D (t + sz)))))), (d, .inl (cI, 5, .inl (aI D)))] H := hP
        have hD : va_D A [(h, .inr (1, [.ref n, .ref r, .ref d, .ref f, .int (iI fc), .int (iI cn), .int (iI sp)])), (r, .inl (cI, 5, .inl (aI (iu S t (D (t + sz)))))), (d, .inl (cI, 5, .inl (aI D)))] := hD
        refine ix_iinc (k := 3) (lv2 := [(7, .int (iI (t + 1))), (0, .ref h), (4, .int (iI sz)), (6, .int (iI dg))]) hx hb dX1_divideRest_223 hl rfl (by decide) rfl (fun ls hl => ?_)
        refine lv_goto (tgt := 182) hx hb dX1_divideRest_226 (by decide) ?_
        exact ih (iu S t (D (t + sz))) (t + 1) (by omega) (fun j => by unfold iu; have := hF j; have := hG j; grind) (by omega) _ _ hK hP hD hS ls (lv_sub hl [1, 2, 3, 0] rfl)
set_option maxHeartbeats 4000000 in
set_option maxRecDepth 100000 in
theorem lp_divideRest1 {p : Program} {l : Launch} {e : Env} {Rm : Room} {s : State} {m : MethodId} {args : Array Value} {below : List Frame} {meth : Method} {c : Code} {dC : Nat → ClassId} {dI : Nat → Nat → Nat} {A : Nat → Prop} {a b k sz hi dg K : Int} {L R : Int → Int} {h n r d f : Nat} {cI : ClassId} {fc cn sp : Int} (C0 : cx p s m meth c args RX1 cX1_divideRest 8 (some .boolean)) : ∀ (n9 : Nat) (i : Int) (D : Int → Int) (G : Int → Int), DI a b k sz hi dg K L R i D G → i.toNat + 1 < n9 → ∀ (H : Heap) (locs : List Loc), va_K (dC, dI) vwCl [(cI, .int)] s → va_P (dC, dI) vwCl [(h, .inr (1, [.ref n, .ref r, .ref d, .ref f, .int (iI fc), .int (iI cn), .int (iI sp)])), (r, .inl (cI, 5, .inl (aI R))), (d, .inl (cI, 5, .inl (aI D)))] H → va_D A [(h, .inr (1, [.ref n, .ref r, .ref d, .ref f, .int (iI fc), .int (iI cn), .int (iI sp)])), (r, .inl (cI, 5, .inl (aI R))), (d, .inl (cI, 5, .inl (aI D)))] → va_S A s.heap H locs → ∀ (ls : Array Slot), lv_has ls 8 [(0, .ref h), (1, .int (iI a)), (2, .int (iI b)), (3, .int (iI k)), (4, .int (iI sz)), (5, .int (iI hi)), (6, .int (iI dg)), (7, .int (iI i))] → W p l e Rm s m args below meth c H locs 0 0 (MQ below (va_Qi (fun (r9 : Int32) (u : (Int → Int) × (Int → Int)) => n5 u.2 ∧ ((r9 = iI 1 ∧ n5 u.1 ∧ dvs a b k R u.1) ∨ (r9 = iI 0 ∧ u.1 = R ∧ ¬ ∃ Q, n5 Q ∧ dvs a b k R Q))) (fun (u : (Int → Int) × (Int → Int)) t9 => va_P (dC, dI) vwCl [(h, .inr (1, [.ref n, .ref r, .ref d, .ref f, .int (iI fc), .int (iI cn), .int (iI sp)])), (r, .inl (cI, 5, .inl (aI u.1))), (d, .inl (cI, 5, .inl (aI u.2)))] t9.heap ∧ va_K (dC, dI) vwCl [(cI, .int)] t9 ∧ va_D A [(h, .inr (1, [.ref n, .ref r, .ref d, .ref f, .int (iI fc), .int (iI cn), .int (iI sp)])), (r, .inl (cI, 5, .inl (aI u.1))), (d, .inl (cI, 5, .inl (aI u.2)))]) A) args s 0 0 A) (F0 m 67 ls []) := by
  obtain ⟨hx, hb, hr, hml, hown, hw, hlocks⟩ := C0
  intro n9
  induction n9 with
  | zero => intro i D G _ hmu; exact absurd hmu (Nat.not_lt_zero _)
  | succ n9 ih =>
    intro i D G hI hmu H locs hK hP hD hS ls hl
    have hsz := hI.szr
    have hii := hI.2.1
    have hd4 := hI.1.2.2.2.2.1
    refine lv_iload hx hb dX1_divideRest_67 (lv_at hl 7 rfl) ?_
    refine lv_iload hx hb dX1_divideRest_69 (lv_at hl 4 rfl) ?_
    refine ix_icmp_lt (tgt := 156) hx hb dX1_divideRest_71 (by decide) (by omega) (by omega) (fun c1 => ?_) (fun c1 => ?_)
    · have c2 : ¬ sz ≤ i := by omega
      refine lv_aload_n hx hb dX1_divideRest_156 rfl (lv_at hl 0 rfl) ?_
      refine va_get (D := (dC, dI)) (ci := 1) (v := .ref d) (C := RX1) (T := TX1) (N := 7) hx hb hw inX1 hown hK hP 0 rfl rfl 2 (by decide) (hw _ mA_55) (fun _ h9 => h9) rfl dX1_divideRest_157 ?_
      refine ix_iconst (n := 0) hx hb dX1_divideRest_160 ?_
      refine ix_iald (k := 0) hx hb hK hP 2 0 rfl rfl (by decide) (by decide) (by decide) dX1_divideRest_161 ?_
      refine ix_if_ne (tgt := 177) hx hb dX1_divideRest_162 (by decide) (hI.r _).1 (fun c3 => ?_) (fun c3 => ?_)
      · refine ix_iconst (n := 0) hx hb dX1_divideRest_177 ?_
        have hP9 := hP.sub (ws' := [(h, .inr (1, [.ref n, .ref r, .ref d, .ref f, .int (iI fc), .int (iI cn), .int (iI sp)])), (r, .inl (cI, 5, .inl (aI R))), (d, .inl (cI, 5, .inl (aI D)))]) [0, 1, 2] rfl
        have hD9 := hD.sub (ws' := [(h, .inr (1, [.ref n, .ref r, .ref d, .ref f, .int (iI fc), .int (iI cn), .int (iI sp)])), (r, .inl (cI, 5, .inl (aI R))), (d, .inl (cI, 5, .inl (aI D)))]) [0, 1, 2] (by decide) rfl
        have hK9 := hK.sub (tys' := [(cI, .int)]) [0] rfl
        exact W.zret (v := iI 0) hx hb hr (by decide) (fun t ht hW => ⟨⟨iI 0, (R, D), rfl, ⟨hI.2.2.2.2.1, Or.inr ⟨rfl, rfl, hI.noend c2 (by first | exact Or.inl c3 | exact Or.inr c3)⟩⟩, by rw [ht]; exact hP9, va_K.moved hW.alike hK9, hD9⟩, hS.F ht⟩) hS.2.2 dX1_divideRest_178
      · refine lv_aload_n hx hb dX1_divideRest_165 rfl (lv_at hl 0 rfl) ?_
        refine va_get (D := (dC, dI)) (ci := 1) (v := .ref d) (C := RX1) (T := TX1) (N := 7) hx hb hw inX1 hown hK hP 0 rfl rfl 2 (by decide) (hw _ mA_55) (fun _ h9 => h9) rfl dX1_divideRest_166 ?_
        refine lv_iload hx hb dX1_divideRest_169 (lv_at hl 4 rfl) ?_
        refine ix_iconst (n := 1) hx hb dX1_divideRest_171 ?_
        refine ix_isub hx hb dX1_divideRest_172 ?_
        refine ix_iald (k := sz - 1) hx hb hK hP 2 0 rfl rfl (by omega) (by omega) (by decide) dX1_divideRest_173 ?_
        refine ix_if_eq (tgt := 179) hx hb dX1_divideRest_174 (by decide) (hI.r _).1 (fun c4 => ?_) (fun c4 => ?_)
        · refine ix_iconst (n := 0) hx hb dX1_divideRest_179 ?_
          refine lv_istore (lv' := [(7, .int (iI 0)), (0, .ref h), (1, .int (iI a)), (2, .int (iI b)), (3, .int (iI k)), (4, .int (iI sz)), (5, .int (iI hi)), (6, .int (iI dg))]) hx hb dX1_divideRest_180 hl (by decide) rfl (fun ls hl => ?_)
          obtain ⟨y1, y2, y3⟩ := hI.yes c2 (by omega) (by omega)
          exact lp_divideRest2 (by omega) ⟨by omega, by omega⟩ hI.1.2.2.2.2.2.2.2.2.2.2 hI.2.2.2.2.1 y2 y1 y3 ⟨hx, hb, hr, hml, hown, hw, hlocks⟩ 6 R 0 ⟨by omega, by omega⟩ (fun j => by rw [if_neg (by omega)]) (by omega) _ _ hK hP hD hS ls (lv_sub hl [1, 5, 7, 0] rfl)
        · refine ix_iconst (n := 0) hx hb dX1_divideRest_177 ?_
          have hP9 := hP.sub (ws' := [(h, .inr (1, [.ref n, .ref r, .ref d, .ref f, .int (iI fc), .int (iI cn), .int (iI sp)])), (r, .inl (cI, 5, .inl (aI R))), (d, .inl (cI, 5, .inl (aI D)))]) [0, 1, 2] rfl
          have hD9 := hD.sub (ws' := [(h, .inr (1, [.ref n, .ref r, .ref d, .ref f, .int (iI fc), .int (iI cn), .int (iI sp)])), (r, .inl (cI, 5, .inl (aI R))), (d, .inl (cI, 5, .inl (aI D)))]) [0, 1, 2] (by decide) rfl
          have hK9 := hK.sub (tys' := [(cI, .int)]) [0] rfl
          exact W.zret (v := iI 0) hx hb hr (by decide) (fun t ht hW => ⟨⟨iI 0, (R, D), rfl, ⟨hI.2.2.2.2.1, Or.inr ⟨rfl, rfl, hI.noend c2 (by first | exact Or.inl c4 | exact Or.inr c4)⟩⟩, by rw [ht]; exact hP9, va_K.moved hW.alike hK9, hD9⟩, hS.F ht⟩) hS.2.2 dX1_divideRest_178
    · have hi1 : sz ≤ i := by omega
      refine lv_aload_n hx hb dX1_divideRest_74 rfl (lv_at hl 0 rfl) ?_
      refine va_get (D := (dC, dI)) (ci := 1) (v := .ref d) (C := RX1) (T := TX1) (N := 7) hx hb hw inX1 hown hK hP 0 rfl rfl 2 (by decide) (hw _ mA_55) (fun _ h9 => h9) rfl dX1_divideRest_75 ?_
      refine lv_iload hx hb dX1_divideRest_78 (lv_at hl 7 rfl) ?_
      refine ix_iald (k := i) hx hb hK hP 2 0 rfl rfl (by omega) (by omega) (by decide) dX1_divideRest_80 ?_
      refine lv_iload hx hb dX1_divideRest_81 (lv_at hl 5 rfl) ?_
      refine ix_irem hx hb dX1_divideRest_83 (hI.r _).1 hI.1.2.2.1 hI.1.2.1 ?_
      refine ix_if_eq (tgt := 89) hx hb dX1_divideRest_84 (by decide) (tmod_r (hI.r _).1) (fun c5 => ?_) (fun c5 => ?_)
      · have hm : (D i).tmod hi = 0 := c5
        refine lv_aload_n hx hb dX1_divideRest_89 rfl (lv_at hl 0 rfl) ?_
        refine va_get (D := (dC, dI)) (ci := 1) (v := .ref d) (C := RX1) (T := TX1) (N := 7) hx hb hw inX1 hown hK hP 0 rfl rfl 2 (by decide) (hw _ mA_55) (fun _ h9 => h9) rfl dX1_divideRest_90 ?_
        refine lv_iload hx hb dX1_divideRest_93 (lv_at hl 7 rfl) ?_
        refine lv_dup2_11 hx hb dX1_divideRest_95 rfl rfl ?_
        refine ix_iald (k := i) hx hb hK hP 2 0 rfl rfl (by omega) (by omega) (by decide) dX1_divideRest_96 ?_
        refine lv_iload hx hb dX1_divideRest_97 (lv_at hl 5 rfl) ?_
        refine ix_idiv hx hb dX1_divideRest_99 (hI.r _).1 hI.1.2.2.1 (hI.r _).2 hI.1.2.1 ?_
        refine ix_iast (k := i) (x := Int.tdiv (D i) hi) hx hb hK hP hD hS 2 0 rfl rfl (by omega) (by omega) (by decide) dX1_divideRest_100 (fun H locs hP hD hS => ?_)
        have hP : va_P (dC, dI) vwCl [(h, .inr (1, [.ref n, .ref r, .ref d, .ref f, .int (iI fc), .int (iI cn), .int (iI sp)])), (r, .inl (cI, 5, .inl (aI R))), (d, .inl (cI, 5, .inl (aI (iu D i (Int.tdiv (D i) hi)))))] H := hP
        have hD : va_D A [(h, .inr (1, [.ref n, .ref r, .ref d, .ref f, .int (iI fc), .int (iI cn), .int (iI sp)])), (r, .inl (cI, 5, .inl (aI R))), (d, .inl (cI, 5, .inl (aI (iu D i (Int.tdiv (D i) hi)))))] := hD
        refine lv_aload_n hx hb dX1_divideRest_101 rfl (lv_at hl 0 rfl) ?_
        refine va_get (D := (dC, dI)) (ci := 1) (v := .ref d) (C := RX1) (T := TX1) (N := 7) hx hb hw inX1 hown hK hP 0 rfl rfl 2 (by decide) (hw _ mA_55) (fun _ h9 => h9) rfl dX1_divideRest_102 ?_
        refine lv_iload hx hb dX1_divideRest_105 (lv_at hl 7 rfl) ?_
        refine lv_iload hx hb dX1_divideRest_107 (lv_at hl 4 rfl) ?_
        refine ix_isub hx hb dX1_divideRest_109 ?_
        refine lv_dup2_11 hx hb dX1_divideRest_110 rfl rfl ?_
        refine ix_iald (k := i - sz) hx hb hK hP 2 0 rfl rfl (by omega) (by omega) (by decide) dX1_divideRest_111 ?_
        refine lv_aload_n hx hb dX1_divideRest_112 rfl (lv_at hl 0 rfl) ?_
        refine va_get (D := (dC, dI)) (ci := 1) (v := .ref d) (C := RX1) (T := TX1) (N := 7) hx hb hw inX1 hown hK hP 0 rfl rfl 2 (by decide) (hw _ mA_55) (fun _ h9 => h9) rfl dX1_divideRest_113 ?_
        refine lv_iload hx hb dX1_divideRest_116 (lv_at hl 7 rfl) ?_
        refine ix_iald (k := i) hx hb hK hP 2 0 rfl rfl (by omega) (by omega) (by decide) dX1_divideRest_118 ?_
        refine lv_iload_n hx hb dX1_divideRest_119 rfl (lv_at hl 3 rfl) ?_
        refine ix_imul hx hb dX1_divideRest_120 ?_
        refine ix_isub hx hb dX1_divideRest_121 ?_
        refine ix_iast (k := i - sz) (x := ((iu D i (Int.tdiv (D i) hi)) (i - sz)) - (((iu D i (Int.tdiv (D i) hi)) i) * k)) hx hb hK hP hD hS 2 0 rfl rfl (by omega) (by omega) (by decide) dX1_divideRest_122 (fun H locs hP hD hS => ?_)
        have hP : va_P (dC, dI) vwCl [(h, .inr (1, [.ref n, .ref r, .ref d, .ref f, .int (iI fc), .int (iI cn), .int (iI sp)])), (r, .inl (cI, 5, .inl (aI R))), (d, .inl (cI, 5, .inl (aI (iu (iu D i (Int.tdiv (D i) hi)) (i - sz) (((iu D i (Int.tdiv (D i) hi)) (i - sz)) - (((iu D i (Int.tdiv (D i) hi)) i) * k))))))] H := hP
        have hD : va_D A [(h, .inr (1, [.ref n, .ref r, .ref d, .ref f, .int (iI fc), .int (iI cn), .int (iI sp)])), (r, .inl (cI, 5, .inl (aI R))), (d, .inl (cI, 5, .inl (aI (iu (iu D i (Int.tdiv (D i) hi)) (i - sz) (((iu D i (Int.tdiv (D i) hi)) (i - sz)) - (((iu D i (Int.tdiv (D i) hi)) i) * k))))))] := hD
        refine lv_iload hx hb dX1_divideRest_123 (lv_at hl 4 rfl) ?_
        refine ix_iconst (n := 2) hx hb dX1_divideRest_125 ?_
        refine ix_icmp_ne (tgt := 150) hx hb dX1_divideRest_126 (by decide) (by omega) (by decide) (fun c6 => ?_) (fun c6 => ?_)
        · refine ix_iinc (k := 7) (lv2 := [(7, .int (iI (i + (-1)))), (0, .ref h), (1, .int (iI a)), (2, .int (iI b)), (3, .int (iI k)), (4, .int (iI sz)), (5, .int (iI hi)), (6, .int (iI dg))]) hx hb dX1_divideRest_150 hl rfl (by decide) rfl (fun ls hl => ?_)
          refine lv_goto (tgt := 67) hx hb dX1_divideRest_153 (by decide) ?_
          have hN := hI.next hi1 hm (iu (iu D i (Int.tdiv (D i) hi)) (i - sz) (((iu D i (Int.tdiv (D i) hi)) (i - sz)) - (((iu D i (Int.tdiv (D i) hi)) i) * k))) (by unfold iu; grind) (by unfold iu; grind) (by intro _; unfold iu; grind) (by intro j _ _ _; unfold iu; grind)
          exact ih (i - 1) (iu (iu D i (Int.tdiv (D i) hi)) (i - sz) (((iu D i (Int.tdiv (D i) hi)) (i - sz)) - (((iu D i (Int.tdiv (D i) hi)) i) * k))) (iu G (i - sz) ((D i).tdiv hi)) hN (by omega) _ _ hK hP hD hS ls (lv_sub hl [1, 2, 3, 4, 5, 6, 7, 0] rfl)
        · refine lv_aload_n hx hb dX1_divideRest_129 rfl (lv_at hl 0 rfl) ?_
          refine va_get (D := (dC, dI)) (ci := 1) (v := .ref d) (C := RX1) (T := TX1) (N := 7) hx hb hw inX1 hown hK hP 0 rfl rfl 2 (by decide) (hw _ mA_55) (fun _ h9 => h9) rfl dX1_divideRest_130 ?_
          refine lv_iload hx hb dX1_divideRest_133 (lv_at hl 7 rfl) ?_
          refine ix_iconst (n := 1) hx hb dX1_divideRest_135 ?_
          refine ix_isub hx hb dX1_divideRest_136 ?_
          refine lv_dup2_11 hx hb dX1_divideRest_137 rfl rfl ?_
          refine ix_iald (k := i - 1) hx hb hK hP 2 0 rfl rfl (by omega) (by omega) (by decide) dX1_divideRest_138 ?_
          refine lv_aload_n hx hb dX1_divideRest_139 rfl (lv_at hl 0 rfl) ?_
          refine va_get (D := (dC, dI)) (ci := 1) (v := .ref d) (C := RX1) (T := TX1) (N := 7) hx hb hw inX1 hown hK hP 0 rfl rfl 2 (by decide) (hw _ mA_55) (fun _ h9 => h9) rfl dX1_divideRest_140 ?_
          refine lv_iload hx hb dX1_divideRest_143 (lv_at hl 7 rfl) ?_
          refine ix_iald (k := i) hx hb hK hP 2 0 rfl rfl (by omega) (by omega) (by decide) dX1_divideRest_145 ?_
          refine lv_iload_n hx hb dX1_divideRest_146 rfl (lv_at hl 2 rfl) ?_
          refine ix_imul hx hb dX1_divideRest_147 ?_
          refine ix_isub hx hb dX1_divideRest_148 ?_
          refine ix_iast (k := i - 1) (x := ((iu (iu D i (Int.tdiv (D i) hi)) (i - sz) (((iu D i (Int.tdiv (D i) hi)) (i - sz)) - (((iu D i (Int.tdiv (D i) hi)) i) * k))) (i - 1)) - (((iu (iu D i (Int.tdiv (D i) hi)) (i - sz) (((iu D i (Int.tdiv (D i) hi)) (i - sz)) - (((iu D i (Int.tdiv (D i) hi)) i) * k))) i) * b)) hx hb hK hP hD hS 2 0 rfl rfl (by omega) (by omega) (by decide) dX1_divideRest_149 (fun H locs hP hD hS => ?_)
          have hP : va_P (dC, dI) vwCl [(h, .inr (1, [.ref n, .ref r, .ref d, .ref f, .int (iI fc), .int (iI cn), .int (iI sp)])), (r, .inl (cI, 5, .inl (aI R))), (d, .inl (cI, 5, .inl (aI (iu (iu (iu D i (Int.tdiv (D i) hi)) (i - sz) (((iu D i (Int.tdiv (D i) hi)) (i - sz)) - (((iu D i (Int.tdiv (D i) hi)) i) * k))) (i - 1) (((iu (iu D i (Int.tdiv (D i) hi)) (i - sz) (((iu D i (Int.tdiv (D i) hi)) (i - sz)) - (((iu D i (Int.tdiv (D i) hi)) i) * k))) (i - 1)) - (((iu (iu D i (Int.tdiv (D i) hi)) (i - sz) (((iu D i (Int.tdiv (D i) hi)) (i - sz)) - (((iu D i (Int.tdiv (D i) hi)) i) * k))) i) * b))))))] H := hP
          have hD : va_D A [(h, .inr (1, [.ref n, .ref r, .ref d, .ref f, .int (iI fc), .int (iI cn), .int (iI sp)])), (r, .inl (cI, 5, .inl (aI R))), (d, .inl (cI, 5, .inl (aI (iu (iu (iu D i (Int.tdiv (D i) hi)) (i - sz) (((iu D i (Int.tdiv (D i) hi)) (i - sz)) - (((iu D i (Int.tdiv (D i) hi)) i) * k))) (i - 1) (((iu (iu D i (Int.tdiv (D i) hi)) (i - sz) (((iu D i (Int.tdiv (D i) hi)) (i - sz)) - (((iu D i (Int.tdiv (D i) hi)) i) * k))) (i - 1)) - (((iu (iu D i (Int.tdiv (D i) hi)) (i - sz) (((iu D i (Int.tdiv (D i) hi)) (i - sz)) - (((iu D i (Int.tdiv (D i) hi)) i) * k))) i) * b))))))] := hD
          refine ix_iinc (k := 7) (lv2 := [(7, .int (iI (i + (-1)))), (0, .ref h), (1, .int (iI a)), (2, .int (iI b)), (3, .int (iI k)), (4, .int (iI sz)), (5, .int (iI hi)), (6, .int (iI dg))]) hx hb dX1_divideRest_150 hl rfl (by decide) rfl (fun ls hl => ?_)
          refine lv_goto (tgt := 67) hx hb dX1_divideRest_153 (by decide) ?_
          have hN := hI.next hi1 hm (iu (iu (iu D i (Int.tdiv (D i) hi)) (i - sz) (((iu D i (Int.tdiv (D i) hi)) (i - sz)) - (((iu D i (Int.tdiv (D i) hi)) i) * k))) (i - 1) (((iu (iu D i (Int.tdiv (D i) hi)) (i - sz) (((iu D i (Int.tdiv (D i) hi)) (i - sz)) - (((iu D i (Int.tdiv (D i) hi)) i) * k))) (i - 1)) - (((iu (iu D i (Int.tdiv (D i) hi)) (i - sz) (((iu D i (Int.tdiv (D i) hi)) (i - sz)) - (((iu D i (Int.tdiv (D i) hi)) i) * k))) i) * b))) (by unfold iu; grind) (by unfold iu; grind) (by intro _; unfold iu; grind) (by intro j _ _ _; unfold iu; grind)
          exact ih (i - 1) (iu (iu (iu D i (Int.tdiv (D i) hi)) (i - sz) (((iu D i (Int.tdiv (D i) hi)) (i - sz)) - (((iu D i (Int.tdiv (D i) hi)) i) * k))) (i - 1) (((iu (iu D i (Int.tdiv (D i) hi)) (i - sz) (((iu D i (Int.tdiv (D i) hi)) (i - sz)) - (((iu D i (Int.tdiv (D i) hi)) i) * k))) (i - 1)) - (((iu (iu D i (Int.tdiv (D i) hi)) (i - sz) (((iu D i (Int.tdiv (D i) hi)) (i - sz)) - (((iu D i (Int.tdiv (D i) hi)) i) * k))) i) * b))) (iu G (i - sz) ((D i).tdiv hi)) hN (by omega) _ _ hK hP hD hS ls (lv_sub hl [1, 2, 3, 4, 5, 6, 7, 0] rfl)
      · refine ix_iconst (n := 0) hx hb dX1_divideRest_87 ?_
        have hP9 := hP.sub (ws' := [(h, .inr (1, [.ref n, .ref r, .ref d, .ref f, .int (iI fc), .int (iI cn), .int (iI sp)])), (r, .inl (cI, 5, .inl (aI R))), (d, .inl (cI, 5, .inl (aI D)))]) [0, 1, 2] rfl
        have hD9 := hD.sub (ws' := [(h, .inr (1, [.ref n, .ref r, .ref d, .ref f, .int (iI fc), .int (iI cn), .int (iI sp)])), (r, .inl (cI, 5, .inl (aI R))), (d, .inl (cI, 5, .inl (aI D)))]) [0, 1, 2] (by decide) rfl
        have hK9 := hK.sub (tys' := [(cI, .int)]) [0] rfl
        exact W.zret (v := iI 0) hx hb hr (by decide) (fun t ht hW => ⟨⟨iI 0, (R, D), rfl, ⟨hI.2.2.2.2.1, Or.inr ⟨rfl, rfl, hI.no c5⟩⟩, by rw [ht]; exact hP9, va_K.moved hW.alike hK9, hD9⟩, hS.F ht⟩) hS.2.2 dX1_divideRest_88
set_option maxHeartbeats 4000000 in
set_option maxRecDepth 100000 in
/-- the rest divided, if it goes up -/
theorem kX1_divideRest (l : Launch) (dC : Nat → ClassId) (dI : Nat → Nat → Nat) (sz : Nat) (h n r d f : Nat) (cI : ClassId) (fc cn sp : Int) (R D : Int → Int) (a b k K : Int) (L : Int → Int) (hR : n5 R) (hD5 : n5 D) (hR0 : 0 ≤ f_deg R) (hB : ∀ j, -(L (f_deg R)) ≤ R j ∧ R j ≤ L (f_deg R)) (hLr : L (f_deg R) ≤ 2147483647) (hab : 0 ≤ a ∧ a ≤ 2147483647 ∧ (a = 0 → 1 ≤ b)) (hK0 : 0 ≤ K ∧ K ≤ 2147483647) (hKb : -K ≤ b ∧ b ≤ K) (hKk : -K ≤ k ∧ k ≤ K) (hL : ∀ i, 1 ≤ i → i ≤ 4 → 0 ≤ L i ∧ L i * (1 + K) ≤ L (i - 1)) (hL2 : ∀ i, 0 ≤ i → i ≤ 4 → L i ≤ 2147483647) : Met l yX1_divideRest (.code yX1_divideRest cX1_divideRest 8 (some .boolean) :: wsA) ({ frames := 1, cells := 0, slots := 0, locals := 60 }) (va_Pc [.ref h, .int (iI a), .int (iI b), .int (iI k)] (fun U => U.heap.size = sz ∧ va_P (dC, dI) vwCl [(h, .inr (1, [.ref n, .ref r, .ref d, .ref f, .int (iI fc), .int (iI cn), .int (iI sp)])), (r, .inl (cI, 5, .inl (aI R))), (d, .inl (cI, 5, .inl (aI D)))] U.heap ∧ va_K (dC, dI) vwCl [(cI, .int)] U ∧ va_D (fun _ => True) [(h, .inr (1, [.ref n, .ref r, .ref d, .ref f, .int (iI fc), .int (iI cn), .int (iI sp)])), (r, .inl (cI, 5, .inl (aI R))), (d, .inl (cI, 5, .inl (aI D)))] ∧ nb U)) (va_Qi (fun (r9 : Int32) (u : (Int → Int) × (Int → Int)) => n5 u.2 ∧ ((r9 = iI 1 ∧ n5 u.1 ∧ dvs a b k R u.1) ∨ (r9 = iI 0 ∧ u.1 = R ∧ ¬ ∃ Q, n5 Q ∧ dvs a b k R Q))) (fun (u : (Int → Int) × (Int → Int)) t9 => va_P (dC, dI) vwCl [(h, .inr (1, [.ref n, .ref r, .ref d, .ref f, .int (iI fc), .int (iI cn), .int (iI sp)])), (r, .inl (cI, 5, .inl (aI u.1))), (d, .inl (cI, 5, .inl (aI u.2)))] t9.heap ∧ va_K (dC, dI) vwCl [(cI, .int)] t9 ∧ va_D (va_A [(h, .inr (1, [.ref n, .ref r, .ref d, .ref f, .int (iI fc), .int (iI cn), .int (iI sp)])), (r, .inl (cI, 5, .inl (aI R))), (d, .inl (cI, 5, .inl (aI D)))] sz) [(h, .inr (1, [.ref n, .ref r, .ref d, .ref f, .int (iI fc), .int (iI cn), .int (iI sp)])), (r, .inl (cI, 5, .inl (aI u.1))), (d, .inl (cI, 5, .inl (aI u.2)))]) (va_A [(h, .inr (1, [.ref n, .ref r, .ref d, .ref f, .int (iI fc), .int (iI cn), .int (iI sp)])), (r, .inl (cI, 5, .inl (aI R))), (d, .inl (cI, 5, .inl (aI D)))] sz)) 0 0 (va_A [(h, .inr (1, [.ref n, .ref r, .ref d, .ref f, .int (iI fc), .int (iI cn), .int (iI sp)])), (r, .inl (cI, 5, .inl (aI R))), (d, .inl (cI, 5, .inl (aI D)))] sz) := by
  refine Met.ofW (cc := cX1_divideRest) (maxL := 8) (ret := (some .boolean)) (by decide) rfl ?_
  intro p e s m args below meth c s₁ B hml hv
  obtain ⟨rfl, hsz, hP, hK, hD0, hnb⟩ := hv
  have hx := B.exec
  have hb := B.bytes
  have hr := B.returns
  have hts := atoms_spec (ws := .code yX1_divideRest cX1_divideRest 8 (some .boolean) :: wsA) B.pre
  have hw : ∀ w ∈ wsA, w.before _ s = true := fun w h => hts w (List.mem_cons_of_mem _ h)
  have hown : s.vm.findClass RX1 = some m.cls := findClass_of_methodNamed B.named
  have hlocks := B.notSynchronized
  subst hsz
  have hD := hD0.self (sz := s.heap.size)
  generalize hAe : va_A [(h, .inr (1, [.ref n, .ref r, .ref d, .ref f, .int (iI fc), .int (iI cn), .int (iI sp)])), (r, .inl (cI, 5, .inl (aI R))), (d, .inl (cI, 5, .inl (aI D)))] s.heap.size = A at hD ⊢
  have hA : ∀ q : Nat, s.heap.size ≤ q → A q := fun q h => by rw [← hAe]; exact Or.inr h
  have hS : va_S A s.heap s.heap [] := va_S.rf
  have hP : va_P (dC, dI) vwCl [(h, .inr (1, [.ref n, .ref r, .ref d, .ref f, .int (iI fc), .int (iI cn), .int (iI sp)])), (r, .inl (cI, 5, .inl (aI R))), (d, .inl (cI, 5, .inl (aI D)))] s.heap := hP
  have hl := lv_entry ([.ref h, .int (iI a), .int (iI b), .int (iI k)]) (n := 8) (Nat.le_of_ble_eq_true rfl)
  rw [lg_entry_eq]
  generalize (lg_sl ([.ref h, .int (iI a), .int (iI b), .int (iI k)]) ++ List.replicate (8 - (lg_sl ([.ref h, .int (iI a), .int (iI b), .int (iI k)])).length) Slot.unset).toArray = ls at hl ⊢
  have hl : lv_has ls 8 [(0, .ref h), (1, .int (iI a)), (2, .int (iI b)), (3, .int (iI k))] := hl
  refine lv_iload_n hx hb dX1_divideRest_0 rfl (lv_at hl 1 rfl) ?_
  refine ix_if_ne (tgt := 8) hx hb dX1_divideRest_1 (by decide) (by omega) (fun c1 => ?_) (fun c1 => ?_)
  · refine ix_iconst (n := 2) hx hb dX1_divideRest_8 ?_
    refine lv_istore (lv' := [(4, .int (iI 2)), (0, .ref h), (1, .int (iI a)), (2, .int (iI b)), (3, .int (iI k))]) hx hb dX1_divideRest_9 hl (by decide) rfl (fun ls hl => ?_)
    refine lv_iload_n hx hb dX1_divideRest_11 rfl (lv_at hl 2 rfl) ?_
    refine ix_if_ne (tgt := 19) hx hb dX1_divideRest_12 (by decide) (by omega) (fun c2 => ?_) (fun c2 => ?_)
    · refine lv_iload_n hx hb dX1_divideRest_19 rfl (lv_at hl 2 rfl) ?_
      refine lv_istore (lv' := [(5, .int (iI a)), (4, .int (iI 2)), (0, .ref h), (1, .int (iI a)), (2, .int (iI b)), (3, .int (iI k))]) hx hb dX1_divideRest_20 hl (by decide) rfl (fun ls hl => ?_)
      refine lv_aload_n hx hb dX1_divideRest_22 rfl (lv_at hl 2 rfl) ?_
      refine va_get (D := (dC, dI)) (ci := 1) (v := .ref r) (C := RX1) (T := TX1) (N := 7) hx hb hw inX1 hown hK hP 0 rfl rfl 1 (by decide) (hw _ mA_54) (fun _ h9 => h9) rfl dX1_divideRest_23 ?_
      have hPc := hP.sub (ws' := [(r, .inl (cI, 5, .inl (aI R)))]) [1] rfl
      have hKc := hK.sub (tys' := [(cI, .int)]) [0] rfl
      refine vp_callSi (W.runS (As := [.ref r]) (rest := []) ⟨hx, hb, hml, hown, hw⟩ (kX1_degreeOf l dC dI r cI R (fun j => ⟨by have := (hB j).1; omega, by have := (hB j).2; omega⟩)) (cwS 1 hw (gS mA_193 mA_194 mA_1 mA_195) rfl rfl rfl (by decide +kernel) ⟨Nat.le_of_ble_eq_true rfl, Nat.le_of_ble_eq_true rfl⟩) ⟨fun a U g mk q => by obtain ⟨q0, qP, qK⟩ := q; exact ⟨q0, qP, va_K.moved (u := U) (U := U.calling g mk a) (Vm.Alike.refl U.vm) qK⟩, fun U hU hW => ⟨rfl, by rw [hU]; exact hPc, va_K.moved hW.alike hKc⟩⟩ rfl rfl hl.1 rfl (lv_room (Nat.le_of_ble_eq_true rfl)) dX1_divideRest_26 ⟨Nat.le_of_ble_eq_true rfl, Nat.le_of_ble_eq_true rfl⟩) (fun r3 h4 => ?_)
      subst h4
      have hdc := deg_c R
      refine lv_istore (lv' := [(6, .int (iI (f_deg R))), (5, .int (iI a)), (4, .int (iI 2)), (0, .ref h), (1, .int (iI a)), (2, .int (iI b)), (3, .int (iI k))]) hx hb dX1_divideRest_29 hl (by decide) rfl (fun ls hl => ?_)
      refine lv_iload hx hb dX1_divideRest_31 (lv_at hl 1 rfl) ?_
      refine ix_if_eq (tgt := 43) hx hb dX1_divideRest_33 (by decide) (by omega) (fun c5 => ?_) (fun c5 => ?_)
      · refine ix_iconst (n := 0) hx hb dX1_divideRest_43 ?_
        have hno : ¬ ∃ Q, n5 Q ∧ dvs a b k R Q := by
          rintro ⟨Q, hQ, hd⟩
          have hz : ∀ j, R j = a * (fun _ => 0) (j - 2) + b * (fun _ => 0) (j - 1) + k * (fun _ => (0 : Int)) j + (if j ≤ f_deg R then R j else 0) := by
            intro j
            by_cases q : j ≤ f_deg R
            · rw [if_pos q]; simp
            · rw [if_neg q]; by_cases q2 : j ≤ 4; rw [hdc.2.2.1 j (by omega) q2]; simp; rw [hR j (by omega)]; simp
          have e1 := dv_must (sz := 2) (hi := a) (by omega) (by omega) hz (fun _ _ => rfl) hQ hd
          rw [hQ _ (by omega)] at e1
          exact hdc.2.2.2 hR0 (by rw [← e1]; simp)
        have hP9 := hP.sub (ws' := [(h, .inr (1, [.ref n, .ref r, .ref d, .ref f, .int (iI fc), .int (iI cn), .int (iI sp)])), (r, .inl (cI, 5, .inl (aI R))), (d, .inl (cI, 5, .inl (aI D)))]) [0, 1, 2] rfl
        have hD9 := hD.sub (ws' := [(h, .inr (1, [.ref n, .ref r, .ref d, .ref f, .int (iI fc), .int (iI cn), .int (iI sp)])), (r, .inl (cI, 5, .inl (aI R))), (d, .inl (cI, 5, .inl (aI D)))]) [0, 1, 2] (by decide) rfl
        have hK9 := hK.sub (tys' := [(cI, .int)]) [0] rfl
        exact W.zret (v := iI 0) hx hb hr (by decide) (fun t ht hW => ⟨⟨iI 0, (R, D), rfl, ⟨hD5, Or.inr ⟨rfl, rfl, hno⟩⟩, by rw [ht]; exact hP9, va_K.moved hW.alike hK9, hD9⟩, hS.F ht⟩) hS.2.2 dX1_divideRest_44
      · refine lv_iload hx hb dX1_divideRest_36 (lv_at hl 0 rfl) ?_
        refine lv_iload hx hb dX1_divideRest_38 (lv_at hl 2 rfl) ?_
        refine ix_icmp_ge (tgt := 45) hx hb dX1_divideRest_40 (by decide) (by omega) (by decide) (fun c6 => ?_) (fun c6 => ?_)
        · refine lv_aload_n hx hb dX1_divideRest_45 rfl (lv_at hl 3 rfl) ?_
          refine va_get (D := (dC, dI)) (ci := 1) (v := .ref r) (C := RX1) (T := TX1) (N := 7) hx hb hw inX1 hown hK hP 0 rfl rfl 1 (by decide) (hw _ mA_54) (fun _ h9 => h9) rfl dX1_divideRest_46 ?_
          refine ix_iconst (n := 0) hx hb dX1_divideRest_49 ?_
          refine lv_aload_n hx hb dX1_divideRest_50 rfl (lv_at hl 3 rfl) ?_
          refine va_get (D := (dC, dI)) (ci := 1) (v := .ref d) (C := RX1) (T := TX1) (N := 7) hx hb hw inX1 hown hK hP 0 rfl rfl 2 (by decide) (hw _ mA_55) (fun _ h9 => h9) rfl dX1_divideRest_51 ?_
          refine ix_iconst (n := 0) hx hb dX1_divideRest_54 ?_
          refine lv_aload_n hx hb dX1_divideRest_55 rfl (lv_at hl 3 rfl) ?_
          refine va_get (D := (dC, dI)) (ci := 1) (v := .ref d) (C := RX1) (T := TX1) (N := 7) hx hb hw inX1 hown hK hP 0 rfl rfl 2 (by decide) (hw _ mA_55) (fun _ h9 => h9) rfl dX1_divideRest_56 ?_
          refine va_alen (v := iI 5) hx hb hK hP 2 0 rfl rfl rfl dX1_divideRest_59 ?_
          refine ix_copy5 hx hb (by rw [hml]; exact hl.1.symm) hown (hw _ mA_200) (hw _ mA_202) (hw _ mA_201) (hw _ mA_9) hK hP hD hS 1 2 0 rfl rfl rfl hR hD5 (Nat.le_of_ble_eq_true rfl) (by decide) dX1_divideRest_60 (fun H locs hP hD hS => ?_)
          have hP : va_P (dC, dI) vwCl [(h, .inr (1, [.ref n, .ref r, .ref d, .ref f, .int (iI fc), .int (iI cn), .int (iI sp)])), (r, .inl (cI, 5, .inl (aI R))), (d, .inl (cI, 5, .inl (aI R)))] H := hP
          have hD : va_D A [(h, .inr (1, [.ref n, .ref r, .ref d, .ref f, .int (iI fc), .int (iI cn), .int (iI sp)])), (r, .inl (cI, 5, .inl (aI R))), (d, .inl (cI, 5, .inl (aI R)))] := hD
          refine lv_iload hx hb dX1_divideRest_63 (lv_at hl 0 rfl) ?_
          refine lv_istore (lv' := [(7, .int (iI (f_deg R))), (6, .int (iI (f_deg R))), (5, .int (iI a)), (4, .int (iI 2)), (0, .ref h), (1, .int (iI a)), (2, .int (iI b)), (3, .int (iI k))]) hx hb dX1_divideRest_65 hl (by decide) rfl (fun ls hl => ?_)
          refine lp_divideRest1 (a := a) (b := b) (k := k) (sz := 2) (hi := a) (dg := f_deg R) (K := K) (L := L) (R := R) ⟨hx, hb, hr, hml, hown, hw, hlocks⟩ _ (f_deg R) R (fun _ => 0) ?_ (Nat.lt_succ_self _) _ _ hK hP hD hS ls (lv_sub hl [4, 5, 6, 7, 3, 2, 1, 0] rfl)
          refine ⟨⟨by omega, by omega, ⟨by omega, by omega⟩, by omega, hdc.2.1, hK0.1, hKb, hKk, hL, hL2, hR⟩, ⟨by omega, by omega⟩, ?_, fun _ _ => rfl, hR, fun x x1 x2 _ => by omega, fun _ _ => rfl, hB⟩
          intro j
          by_cases q : j ≤ f_deg R
          · rw [if_pos q]; simp
          · rw [if_neg q]; by_cases q2 : j ≤ 4; rw [hdc.2.2.1 j (by omega) q2]; simp; rw [hR j (by omega)]; simp
        · refine ix_iconst (n := 0) hx hb dX1_divideRest_43 ?_
          have hno : ¬ ∃ Q, n5 Q ∧ dvs a b k R Q := by
            rintro ⟨Q, hQ, hd⟩
            have hz : ∀ j, R j = a * (fun _ => 0) (j - 2) + b * (fun _ => 0) (j - 1) + k * (fun _ => (0 : Int)) j + (if j ≤ f_deg R then R j else 0) := by
              intro j
              by_cases q : j ≤ f_deg R
              · rw [if_pos q]; simp
              · rw [if_neg q]; by_cases q2 : j ≤ 4; rw [hdc.2.2.1 j (by omega) q2]; simp; rw [hR j (by omega)]; simp
            have e1 := dv_must (sz := 2) (hi := a) (by omega) (by omega) hz (fun _ _ => rfl) hQ hd
            rw [hQ _ (by omega)] at e1
            exact hdc.2.2.2 hR0 (by rw [← e1]; simp)
          have hP9 := hP.sub (ws' := [(h, .inr (1, [.ref n, .ref r, .ref d, .ref f, .int (iI fc), .int (iI cn), .int (iI sp)])), (r, .inl (cI, 5, .inl (aI R))), (d, .inl (cI, 5, .inl (aI D)))]) [0, 1, 2] rfl
          have hD9 := hD.sub (ws' := [(h, .inr (1, [.ref n, .ref r, .ref d, .ref f, .int (iI fc), .int (iI cn), .int (iI sp)])), (r, .inl (cI, 5, .inl (aI R))), (d, .inl (cI, 5, .inl (aI D)))]) [0, 1, 2] (by decide) rfl
          have hK9 := hK.sub (tys' := [(cI, .int)]) [0] rfl
          exact W.zret (v := iI 0) hx hb hr (by decide) (fun t ht hW => ⟨⟨iI 0, (R, D), rfl, ⟨hD5, Or.inr ⟨rfl, rfl, hno⟩⟩, by rw [ht]; exact hP9, va_K.moved hW.alike hK9, hD9⟩, hS.F ht⟩) hS.2.2 dX1_divideRest_44
    · refine lv_iload_n hx hb dX1_divideRest_15 rfl (lv_at hl 3 rfl) ?_
      refine lv_goto (tgt := 20) hx hb dX1_divideRest_16 (by decide) ?_
      refine lv_istore (lv' := [(5, .int (iI b)), (4, .int (iI 2)), (0, .ref h), (1, .int (iI a)), (2, .int (iI b)), (3, .int (iI k))]) hx hb dX1_divideRest_20 hl (by decide) rfl (fun ls hl => ?_)
      refine lv_aload_n hx hb dX1_divideRest_22 rfl (lv_at hl 2 rfl) ?_
      refine va_get (D := (dC, dI)) (ci := 1) (v := .ref r) (C := RX1) (T := TX1) (N := 7) hx hb hw inX1 hown hK hP 0 rfl rfl 1 (by decide) (hw _ mA_54) (fun _ h9 => h9) rfl dX1_divideRest_23 ?_
      have hPc := hP.sub (ws' := [(r, .inl (cI, 5, .inl (aI R)))]) [1] rfl
      have hKc := hK.sub (tys' := [(cI, .int)]) [0] rfl
      refine vp_callSi (W.runS (As := [.ref r]) (rest := []) ⟨hx, hb, hml, hown, hw⟩ (kX1_degreeOf l dC dI r cI R (fun j => ⟨by have := (hB j).1; omega, by have := (hB j).2; omega⟩)) (cwS 1 hw (gS mA_193 mA_194 mA_1 mA_195) rfl rfl rfl (by decide +kernel) ⟨Nat.le_of_ble_eq_true rfl, Nat.le_of_ble_eq_true rfl⟩) ⟨fun a U g mk q => by obtain ⟨q0, qP, qK⟩ := q; exact ⟨q0, qP, va_K.moved (u := U) (U := U.calling g mk a) (Vm.Alike.refl U.vm) qK⟩, fun U hU hW => ⟨rfl, by rw [hU]; exact hPc, va_K.moved hW.alike hKc⟩⟩ rfl rfl hl.1 rfl (lv_room (Nat.le_of_ble_eq_true rfl)) dX1_divideRest_26 ⟨Nat.le_of_ble_eq_true rfl, Nat.le_of_ble_eq_true rfl⟩) (fun r7 h8 => ?_)
      subst h8
      have hdc := deg_c R
      refine lv_istore (lv' := [(6, .int (iI (f_deg R))), (5, .int (iI b)), (4, .int (iI 2)), (0, .ref h), (1, .int (iI a)), (2, .int (iI b)), (3, .int (iI k))]) hx hb dX1_divideRest_29 hl (by decide) rfl (fun ls hl => ?_)
      refine lv_iload hx hb dX1_divideRest_31 (lv_at hl 1 rfl) ?_
      refine ix_if_eq (tgt := 43) hx hb dX1_divideRest_33 (by decide) (by omega) (fun c9 => ?_) (fun c9 => ?_)
      · refine ix_iconst (n := 0) hx hb dX1_divideRest_43 ?_
        have hno : ¬ ∃ Q, n5 Q ∧ dvs a b k R Q := by
          rintro ⟨Q, hQ, hd⟩
          have hz : ∀ j, R j = a * (fun _ => 0) (j - 2) + b * (fun _ => 0) (j - 1) + k * (fun _ => (0 : Int)) j + (if j ≤ f_deg R then R j else 0) := by
            intro j
            by_cases q : j ≤ f_deg R
            · rw [if_pos q]; simp
            · rw [if_neg q]; by_cases q2 : j ≤ 4; rw [hdc.2.2.1 j (by omega) q2]; simp; rw [hR j (by omega)]; simp
          have e1 := dv_must (sz := 2) (hi := b) (by omega) (by omega) hz (fun _ _ => rfl) hQ hd
          rw [hQ _ (by omega)] at e1
          exact hdc.2.2.2 hR0 (by rw [← e1]; simp)
        have hP9 := hP.sub (ws' := [(h, .inr (1, [.ref n, .ref r, .ref d, .ref f, .int (iI fc), .int (iI cn), .int (iI sp)])), (r, .inl (cI, 5, .inl (aI R))), (d, .inl (cI, 5, .inl (aI D)))]) [0, 1, 2] rfl
        have hD9 := hD.sub (ws' := [(h, .inr (1, [.ref n, .ref r, .ref d, .ref f, .int (iI fc), .int (iI cn), .int (iI sp)])), (r, .inl (cI, 5, .inl (aI R))), (d, .inl (cI, 5, .inl (aI D)))]) [0, 1, 2] (by decide) rfl
        have hK9 := hK.sub (tys' := [(cI, .int)]) [0] rfl
        exact W.zret (v := iI 0) hx hb hr (by decide) (fun t ht hW => ⟨⟨iI 0, (R, D), rfl, ⟨hD5, Or.inr ⟨rfl, rfl, hno⟩⟩, by rw [ht]; exact hP9, va_K.moved hW.alike hK9, hD9⟩, hS.F ht⟩) hS.2.2 dX1_divideRest_44
      · refine lv_iload hx hb dX1_divideRest_36 (lv_at hl 0 rfl) ?_
        refine lv_iload hx hb dX1_divideRest_38 (lv_at hl 2 rfl) ?_
        refine ix_icmp_ge (tgt := 45) hx hb dX1_divideRest_40 (by decide) (by omega) (by decide) (fun c10 => ?_) (fun c10 => ?_)
        · refine lv_aload_n hx hb dX1_divideRest_45 rfl (lv_at hl 3 rfl) ?_
          refine va_get (D := (dC, dI)) (ci := 1) (v := .ref r) (C := RX1) (T := TX1) (N := 7) hx hb hw inX1 hown hK hP 0 rfl rfl 1 (by decide) (hw _ mA_54) (fun _ h9 => h9) rfl dX1_divideRest_46 ?_
          refine ix_iconst (n := 0) hx hb dX1_divideRest_49 ?_
          refine lv_aload_n hx hb dX1_divideRest_50 rfl (lv_at hl 3 rfl) ?_
          refine va_get (D := (dC, dI)) (ci := 1) (v := .ref d) (C := RX1) (T := TX1) (N := 7) hx hb hw inX1 hown hK hP 0 rfl rfl 2 (by decide) (hw _ mA_55) (fun _ h9 => h9) rfl dX1_divideRest_51 ?_
          refine ix_iconst (n := 0) hx hb dX1_divideRest_54 ?_
          refine lv_aload_n hx hb dX1_divideRest_55 rfl (lv_at hl 3 rfl) ?_
          refine va_get (D := (dC, dI)) (ci := 1) (v := .ref d) (C := RX1) (T := TX1) (N := 7) hx hb hw inX1 hown hK hP 0 rfl rfl 2 (by decide) (hw _ mA_55) (fun _ h9 => h9) rfl dX1_divideRest_56 ?_
          refine va_alen (v := iI 5) hx hb hK hP 2 0 rfl rfl rfl dX1_divideRest_59 ?_
          refine ix_copy5 hx hb (by rw [hml]; exact hl.1.symm) hown (hw _ mA_200) (hw _ mA_202) (hw _ mA_201) (hw _ mA_9) hK hP hD hS 1 2 0 rfl rfl rfl hR hD5 (Nat.le_of_ble_eq_true rfl) (by decide) dX1_divideRest_60 (fun H locs hP hD hS => ?_)
          have hP : va_P (dC, dI) vwCl [(h, .inr (1, [.ref n, .ref r, .ref d, .ref f, .int (iI fc), .int (iI cn), .int (iI sp)])), (r, .inl (cI, 5, .inl (aI R))), (d, .inl (cI, 5, .inl (aI R)))] H := hP
          have hD : va_D A [(h, .inr (1, [.ref n, .ref r, .ref d, .ref f, .int (iI fc), .int (iI cn), .int (iI sp)])), (r, .inl (cI, 5, .inl (aI R))), (d, .inl (cI, 5, .inl (aI R)))] := hD
          refine lv_iload hx hb dX1_divideRest_63 (lv_at hl 0 rfl) ?_
          refine lv_istore (lv' := [(7, .int (iI (f_deg R))), (6, .int (iI (f_deg R))), (5, .int (iI b)), (4, .int (iI 2)), (0, .ref h), (1, .int (iI a)), (2, .int (iI b)), (3, .int (iI k))]) hx hb dX1_divideRest_65 hl (by decide) rfl (fun ls hl => ?_)
          refine lp_divideRest1 (a := a) (b := b) (k := k) (sz := 2) (hi := b) (dg := f_deg R) (K := K) (L := L) (R := R) ⟨hx, hb, hr, hml, hown, hw, hlocks⟩ _ (f_deg R) R (fun _ => 0) ?_ (Nat.lt_succ_self _) _ _ hK hP hD hS ls (lv_sub hl [4, 5, 6, 7, 3, 2, 1, 0] rfl)
          refine ⟨⟨by omega, by omega, ⟨by omega, by omega⟩, by omega, hdc.2.1, hK0.1, hKb, hKk, hL, hL2, hR⟩, ⟨by omega, by omega⟩, ?_, fun _ _ => rfl, hR, fun x x1 x2 _ => by omega, fun _ _ => rfl, hB⟩
          intro j
          by_cases q : j ≤ f_deg R
          · rw [if_pos q]; simp
          · rw [if_neg q]; by_cases q2 : j ≤ 4; rw [hdc.2.2.1 j (by omega) q2]; simp; rw [hR j (by omega)]; simp
        · refine ix_iconst (n := 0) hx hb dX1_divideRest_43 ?_
          have hno : ¬ ∃ Q, n5 Q ∧ dvs a b k R Q := by
            rintro ⟨Q, hQ, hd⟩
            have hz : ∀ j, R j = a * (fun _ => 0) (j - 2) + b * (fun _ => 0) (j - 1) + k * (fun _ => (0 : Int)) j + (if j ≤ f_deg R then R j else 0) := by
              intro j
              by_cases q : j ≤ f_deg R
              · rw [if_pos q]; simp
              · rw [if_neg q]; by_cases q2 : j ≤ 4; rw [hdc.2.2.1 j (by omega) q2]; simp; rw [hR j (by omega)]; simp
            have e1 := dv_must (sz := 2) (hi := b) (by omega) (by omega) hz (fun _ _ => rfl) hQ hd
            rw [hQ _ (by omega)] at e1
            exact hdc.2.2.2 hR0 (by rw [← e1]; simp)
          have hP9 := hP.sub (ws' := [(h, .inr (1, [.ref n, .ref r, .ref d, .ref f, .int (iI fc), .int (iI cn), .int (iI sp)])), (r, .inl (cI, 5, .inl (aI R))), (d, .inl (cI, 5, .inl (aI D)))]) [0, 1, 2] rfl
          have hD9 := hD.sub (ws' := [(h, .inr (1, [.ref n, .ref r, .ref d, .ref f, .int (iI fc), .int (iI cn), .int (iI sp)])), (r, .inl (cI, 5, .inl (aI R))), (d, .inl (cI, 5, .inl (aI D)))]) [0, 1, 2] (by decide) rfl
          have hK9 := hK.sub (tys' := [(cI, .int)]) [0] rfl
          exact W.zret (v := iI 0) hx hb hr (by decide) (fun t ht hW => ⟨⟨iI 0, (R, D), rfl, ⟨hD5, Or.inr ⟨rfl, rfl, hno⟩⟩, by rw [ht]; exact hP9, va_K.moved hW.alike hK9, hD9⟩, hS.F ht⟩) hS.2.2 dX1_divideRest_44
  · refine ix_iconst (n := 1) hx hb dX1_divideRest_4 ?_
    refine lv_goto (tgt := 9) hx hb dX1_divideRest_5 (by decide) ?_
    refine lv_istore (lv' := [(4, .int (iI 1)), (0, .ref h), (1, .int (iI a)), (2, .int (iI b)), (3, .int (iI k))]) hx hb dX1_divideRest_9 hl (by decide) rfl (fun ls hl => ?_)
    refine lv_iload_n hx hb dX1_divideRest_11 rfl (lv_at hl 2 rfl) ?_
    refine ix_if_ne (tgt := 19) hx hb dX1_divideRest_12 (by decide) (by omega) (fun c11 => ?_) (fun c11 => ?_)
    · refine lv_iload_n hx hb dX1_divideRest_19 rfl (lv_at hl 2 rfl) ?_
      refine lv_istore (lv' := [(5, .int (iI a)), (4, .int (iI 1)), (0, .ref h), (1, .int (iI a)), (2, .int (iI b)), (3, .int (iI k))]) hx hb dX1_divideRest_20 hl (by decide) rfl (fun ls hl => ?_)
      refine lv_aload_n hx hb dX1_divideRest_22 rfl (lv_at hl 2 rfl) ?_
      refine va_get (D := (dC, dI)) (ci := 1) (v := .ref r) (C := RX1) (T := TX1) (N := 7) hx hb hw inX1 hown hK hP 0 rfl rfl 1 (by decide) (hw _ mA_54) (fun _ h9 => h9) rfl dX1_divideRest_23 ?_
      have hPc := hP.sub (ws' := [(r, .inl (cI, 5, .inl (aI R)))]) [1] rfl
      have hKc := hK.sub (tys' := [(cI, .int)]) [0] rfl
      refine vp_callSi (W.runS (As := [.ref r]) (rest := []) ⟨hx, hb, hml, hown, hw⟩ (kX1_degreeOf l dC dI r cI R (fun j => ⟨by have := (hB j).1; omega, by have := (hB j).2; omega⟩)) (cwS 1 hw (gS mA_193 mA_194 mA_1 mA_195) rfl rfl rfl (by decide +kernel) ⟨Nat.le_of_ble_eq_true rfl, Nat.le_of_ble_eq_true rfl⟩) ⟨fun a U g mk q => by obtain ⟨q0, qP, qK⟩ := q; exact ⟨q0, qP, va_K.moved (u := U) (U := U.calling g mk a) (Vm.Alike.refl U.vm) qK⟩, fun U hU hW => ⟨rfl, by rw [hU]; exact hPc, va_K.moved hW.alike hKc⟩⟩ rfl rfl hl.1 rfl (lv_room (Nat.le_of_ble_eq_true rfl)) dX1_divideRest_26 ⟨Nat.le_of_ble_eq_true rfl, Nat.le_of_ble_eq_true rfl⟩) (fun r12 h13 => ?_)
      subst h13
      have hdc := deg_c R
      refine lv_istore (lv' := [(6, .int (iI (f_deg R))), (5, .int (iI a)), (4, .int (iI 1)), (0, .ref h), (1, .int (iI a)), (2, .int (iI b)), (3, .int (iI k))]) hx hb dX1_divideRest_29 hl (by decide) rfl (fun ls hl => ?_)
      refine lv_iload hx hb dX1_divideRest_31 (lv_at hl 1 rfl) ?_
      refine ix_if_eq (tgt := 43) hx hb dX1_divideRest_33 (by decide) (by omega) (fun c14 => ?_) (fun c14 => ?_)
      · refine ix_iconst (n := 0) hx hb dX1_divideRest_43 ?_
        have hno : ¬ ∃ Q, n5 Q ∧ dvs a b k R Q := by
          rintro ⟨Q, hQ, hd⟩
          have hz : ∀ j, R j = a * (fun _ => 0) (j - 2) + b * (fun _ => 0) (j - 1) + k * (fun _ => (0 : Int)) j + (if j ≤ f_deg R then R j else 0) := by
            intro j
            by_cases q : j ≤ f_deg R
            · rw [if_pos q]; simp
            · rw [if_neg q]; by_cases q2 : j ≤ 4; rw [hdc.2.2.1 j (by omega) q2]; simp; rw [hR j (by omega)]; simp
          have e1 := dv_must (sz := 1) (hi := a) (by omega) (by omega) hz (fun _ _ => rfl) hQ hd
          rw [hQ _ (by omega)] at e1
          exact hdc.2.2.2 hR0 (by rw [← e1]; simp)
        have hP9 := hP.sub (ws' := [(h, .inr (1, [.ref n, .ref r, .ref d, .ref f, .int (iI fc), .int (iI cn), .int (iI sp)])), (r, .inl (cI, 5, .inl (aI R))), (d, .inl (cI, 5, .inl (aI D)))]) [0, 1, 2] rfl
        have hD9 := hD.sub (ws' := [(h, .inr (1, [.ref n, .ref r, .ref d, .ref f, .int (iI fc), .int (iI cn), .int (iI sp)])), (r, .inl (cI, 5, .inl (aI R))), (d, .inl (cI, 5, .inl (aI D)))]) [0, 1, 2] (by decide) rfl
        have hK9 := hK.sub (tys' := [(cI, .int)]) [0] rfl
        exact W.zret (v := iI 0) hx hb hr (by decide) (fun t ht hW => ⟨⟨iI 0, (R, D), rfl, ⟨hD5, Or.inr ⟨rfl, rfl, hno⟩⟩, by rw [ht]; exact hP9, va_K.moved hW.alike hK9, hD9⟩, hS.F ht⟩) hS.2.2 dX1_divideRest_44
      · refine lv_iload hx hb dX1_divideRest_36 (lv_at hl 0 rfl) ?_
        refine lv_iload hx hb dX1_divideRest_38 (lv_at hl 2 rfl) ?_
        refine ix_icmp_ge (tgt := 45) hx hb dX1_divideRest_40 (by decide) (by omega) (by decide) (fun c15 => ?_) (fun c15 => ?_)
        · refine lv_aload_n hx hb dX1_divideRest_45 rfl (lv_at hl 3 rfl) ?_
          refine va_get (D := (dC, dI)) (ci := 1) (v := .ref r) (C := RX1) (T := TX1) (N := 7) hx hb hw inX1 hown hK hP 0 rfl rfl 1 (by decide) (hw _ mA_54) (fun _ h9 => h9) rfl dX1_divideRest_46 ?_
          refine ix_iconst (n := 0) hx hb dX1_divideRest_49 ?_
          refine lv_aload_n hx hb dX1_divideRest_50 rfl (lv_at hl 3 rfl) ?_
          refine va_get (D := (dC, dI)) (ci := 1) (v := .ref d) (C := RX1) (T := TX1) (N := 7) hx hb hw inX1 hown hK hP 0 rfl rfl 2 (by decide) (hw _ mA_55) (fun _ h9 => h9) rfl dX1_divideRest_51 ?_
          refine ix_iconst (n := 0) hx hb dX1_divideRest_54 ?_
          refine lv_aload_n hx hb dX1_divideRest_55 rfl (lv_at hl 3 rfl) ?_
          refine va_get (D := (dC, dI)) (ci := 1) (v := .ref d) (C := RX1) (T := TX1) (N := 7) hx hb hw inX1 hown hK hP 0 rfl rfl 2 (by decide) (hw _ mA_55) (fun _ h9 => h9) rfl dX1_divideRest_56 ?_
          refine va_alen (v := iI 5) hx hb hK hP 2 0 rfl rfl rfl dX1_divideRest_59 ?_
          refine ix_copy5 hx hb (by rw [hml]; exact hl.1.symm) hown (hw _ mA_200) (hw _ mA_202) (hw _ mA_201) (hw _ mA_9) hK hP hD hS 1 2 0 rfl rfl rfl hR hD5 (Nat.le_of_ble_eq_true rfl) (by decide) dX1_divideRest_60 (fun H locs hP hD hS => ?_)
          have hP : va_P (dC, dI) vwCl [(h, .inr (1, [.ref n, .ref r, .ref d, .ref f, .int (iI fc), .int (iI cn), .int (iI sp)])), (r, .inl (cI, 5, .inl (aI R))), (d, .inl (cI, 5, .inl (aI R)))] H := hP
          have hD : va_D A [(h, .inr (1, [.ref n, .ref r, .ref d, .ref f, .int (iI fc), .int (iI cn), .int (iI sp)])), (r, .inl (cI, 5, .inl (aI R))), (d, .inl (cI, 5, .inl (aI R)))] := hD
          refine lv_iload hx hb dX1_divideRest_63 (lv_at hl 0 rfl) ?_
          refine lv_istore (lv' := [(7, .int (iI (f_deg R))), (6, .int (iI (f_deg R))), (5, .int (iI a)), (4, .int (iI 1)), (0, .ref h), (1, .int (iI a)), (2, .int (iI b)), (3, .int (iI k))]) hx hb dX1_divideRest_65 hl (by decide) rfl (fun ls hl => ?_)
          refine lp_divideRest1 (a := a) (b := b) (k := k) (sz := 1) (hi := a) (dg := f_deg R) (K := K) (L := L) (R := R) ⟨hx, hb, hr, hml, hown, hw, hlocks⟩ _ (f_deg R) R (fun _ => 0) ?_ (Nat.lt_succ_self _) _ _ hK hP hD hS ls (lv_sub hl [4, 5, 6, 7, 3, 2, 1, 0] rfl)
          refine ⟨⟨by omega, by omega, ⟨by omega, by omega⟩, by omega, hdc.2.1, hK0.1, hKb, hKk, hL, hL2, hR⟩, ⟨by omega, by omega⟩, ?_, fun _ _ => rfl, hR, fun x x1 x2 _ => by omega, fun _ _ => rfl, hB⟩
          intro j
          by_cases q : j ≤ f_deg R
          · rw [if_pos q]; simp
          · rw [if_neg q]; by_cases q2 : j ≤ 4; rw [hdc.2.2.1 j (by omega) q2]; simp; rw [hR j (by omega)]; simp
        · refine ix_iconst (n := 0) hx hb dX1_divideRest_43 ?_
          have hno : ¬ ∃ Q, n5 Q ∧ dvs a b k R Q := by
            rintro ⟨Q, hQ, hd⟩
            have hz : ∀ j, R j = a * (fun _ => 0) (j - 2) + b * (fun _ => 0) (j - 1) + k * (fun _ => (0 : Int)) j + (if j ≤ f_deg R then R j else 0) := by
              intro j
              by_cases q : j ≤ f_deg R
              · rw [if_pos q]; simp
              · rw [if_neg q]; by_cases q2 : j ≤ 4; rw [hdc.2.2.1 j (by omega) q2]; simp; rw [hR j (by omega)]; simp
            have e1 := dv_must (sz := 1) (hi := a) (by omega) (by omega) hz (fun _ _ => rfl) hQ hd
            rw [hQ _ (by omega)] at e1
            exact hdc.2.2.2 hR0 (by rw [← e1]; simp)
          have hP9 := hP.sub (ws' := [(h, .inr (1, [.ref n, .ref r, .ref d, .ref f, .int (iI fc), .int (iI cn), .int (iI sp)])), (r, .inl (cI, 5, .inl (aI R))), (d, .inl (cI, 5, .inl (aI D)))]) [0, 1, 2] rfl
          have hD9 := hD.sub (ws' := [(h, .inr (1, [.ref n, .ref r, .ref d, .ref f, .int (iI fc), .int (iI cn), .int (iI sp)])), (r, .inl (cI, 5, .inl (aI R))), (d, .inl (cI, 5, .inl (aI D)))]) [0, 1, 2] (by decide) rfl
          have hK9 := hK.sub (tys' := [(cI, .int)]) [0] rfl
          exact W.zret (v := iI 0) hx hb hr (by decide) (fun t ht hW => ⟨⟨iI 0, (R, D), rfl, ⟨hD5, Or.inr ⟨rfl, rfl, hno⟩⟩, by rw [ht]; exact hP9, va_K.moved hW.alike hK9, hD9⟩, hS.F ht⟩) hS.2.2 dX1_divideRest_44
    · refine lv_iload_n hx hb dX1_divideRest_15 rfl (lv_at hl 3 rfl) ?_
      refine lv_goto (tgt := 20) hx hb dX1_divideRest_16 (by decide) ?_
      refine lv_istore (lv' := [(5, .int (iI b)), (4, .int (iI 1)), (0, .ref h), (1, .int (iI a)), (2, .int (iI b)), (3, .int (iI k))]) hx hb dX1_divideRest_20 hl (by decide) rfl (fun ls hl => ?_)
      refine lv_aload_n hx hb dX1_divideRest_22 rfl (lv_at hl 2 rfl) ?_
      refine va_get (D := (dC, dI)) (ci := 1) (v := .ref r) (C := RX1) (T := TX1) (N := 7) hx hb hw inX1 hown hK hP 0 rfl rfl 1 (by decide) (hw _ mA_54) (fun _ h9 => h9) rfl dX1_divideRest_23 ?_
      have hPc := hP.sub (ws' := [(r, .inl (cI, 5, .inl (aI R)))]) [1] rfl
      have hKc := hK.sub (tys' := [(cI, .int)]) [0] rfl
      refine vp_callSi (W.runS (As := [.ref r]) (rest := []) ⟨hx, hb, hml, hown, hw⟩ (kX1_degreeOf l dC dI r cI R (fun j => ⟨by have := (hB j).1; omega, by have := (hB j).2; omega⟩)) (cwS 1 hw (gS mA_193 mA_194 mA_1 mA_195) rfl rfl rfl (by decide +kernel) ⟨Nat.le_of_ble_eq_true rfl, Nat.le_of_ble_eq_true rfl⟩) ⟨fun a U g mk q => by obtain ⟨q0, qP, qK⟩ := q; exact ⟨q0, qP, va_K.moved (u := U) (U := U.calling g mk a) (Vm.Alike.refl U.vm) qK⟩, fun U hU hW => ⟨rfl, by rw [hU]; exact hPc, va_K.moved hW.alike hKc⟩⟩ rfl rfl hl.1 rfl (lv_room (Nat.le_of_ble_eq_true rfl)) dX1_divideRest_26 ⟨Nat.le_of_ble_eq_true rfl, Nat.le_of_ble_eq_true rfl⟩) (fun r16 h17 => ?_)
      subst h17
      have hdc := deg_c R
      refine lv_istore (lv' := [(6, .int (iI (f_deg R))), (5, .int (iI b)), (4, .int (iI 1)), (0, .ref h), (1, .int (iI a)), (2, .int (iI b)), (3, .int (iI k))]) hx hb dX1_divideRest_29 hl (by decide) rfl (fun ls hl => ?_)
      refine lv_iload hx hb dX1_divideRest_31 (lv_at hl 1 rfl) ?_
      refine ix_if_eq (tgt := 43) hx hb dX1_divideRest_33 (by decide) (by omega) (fun c18 => ?_) (fun c18 => ?_)
      · refine ix_iconst (n := 0) hx hb dX1_divideRest_43 ?_
        have hno : ¬ ∃ Q, n5 Q ∧ dvs a b k R Q := by
          rintro ⟨Q, hQ, hd⟩
          have hz : ∀ j, R j = a * (fun _ => 0) (j - 2) + b * (fun _ => 0) (j - 1) + k * (fun _ => (0 : Int)) j + (if j ≤ f_deg R then R j else 0) := by
            intro j
            by_cases q : j ≤ f_deg R
            · rw [if_pos q]; simp
            · rw [if_neg q]; by_cases q2 : j ≤ 4; rw [hdc.2.2.1 j (by omega) q2]; simp; rw [hR j (by omega)]; simp
          have e1 := dv_must (sz := 1) (hi := b) (by omega) (by omega) hz (fun _ _ => rfl) hQ hd
          rw [hQ _ (by omega)] at e1
          exact hdc.2.2.2 hR0 (by rw [← e1]; simp)
        have hP9 := hP.sub (ws' := [(h, .inr (1, [.ref n, .ref r, .ref d, .ref f, .int (iI fc), .int (iI cn), .int (iI sp)])), (r, .inl (cI, 5, .inl (aI R))), (d, .inl (cI, 5, .inl (aI D)))]) [0, 1, 2] rfl
        have hD9 := hD.sub (ws' := [(h, .inr (1, [.ref n, .ref r, .ref d, .ref f, .int (iI fc), .int (iI cn), .int (iI sp)])), (r, .inl (cI, 5, .inl (aI R))), (d, .inl (cI, 5, .inl (aI D)))]) [0, 1, 2] (by decide) rfl
        have hK9 := hK.sub (tys' := [(cI, .int)]) [0] rfl
        exact W.zret (v := iI 0) hx hb hr (by decide) (fun t ht hW => ⟨⟨iI 0, (R, D), rfl, ⟨hD5, Or.inr ⟨rfl, rfl, hno⟩⟩, by rw [ht]; exact hP9, va_K.moved hW.alike hK9, hD9⟩, hS.F ht⟩) hS.2.2 dX1_divideRest_44
      · refine lv_iload hx hb dX1_divideRest_36 (lv_at hl 0 rfl) ?_
        refine lv_iload hx hb dX1_divideRest_38 (lv_at hl 2 rfl) ?_
        refine ix_icmp_ge (tgt := 45) hx hb dX1_divideRest_40 (by decide) (by omega) (by decide) (fun c19 => ?_) (fun c19 => ?_)
        · refine lv_aload_n hx hb dX1_divideRest_45 rfl (lv_at hl 3 rfl) ?_
          refine va_get (D := (dC, dI)) (ci := 1) (v := .ref r) (C := RX1) (T := TX1) (N := 7) hx hb hw inX1 hown hK hP 0 rfl rfl 1 (by decide) (hw _ mA_54) (fun _ h9 => h9) rfl dX1_divideRest_46 ?_
          refine ix_iconst (n := 0) hx hb dX1_divideRest_49 ?_
          refine lv_aload_n hx hb dX1_divideRest_50 rfl (lv_at hl 3 rfl) ?_
          refine va_get (D := (dC, dI)) (ci := 1) (v := .ref d) (C := RX1) (T := TX1) (N := 7) hx hb hw inX1 hown hK hP 0 rfl rfl 2 (by decide) (hw _ mA_55) (fun _ h9 => h9) rfl dX1_divideRest_51 ?_
          refine ix_iconst (n := 0) hx hb dX1_divideRest_54 ?_
          refine lv_aload_n hx hb dX1_divideRest_55 rfl (lv_at hl 3 rfl) ?_
          refine va_get (D := (dC, dI)) (ci := 1) (v := .ref d) (C := RX1) (T := TX1) (N := 7) hx hb hw inX1 hown hK hP 0 rfl rfl 2 (by decide) (hw _ mA_55) (fun _ h9 => h9) rfl dX1_divideRest_56 ?_
          refine va_alen (v := iI 5) hx hb hK hP 2 0 rfl rfl rfl dX1_divideRest_59 ?_
          refine ix_copy5 hx hb (by rw [hml]; exact hl.1.symm) hown (hw _ mA_200) (hw _ mA_202) (hw _ mA_201) (hw _ mA_9) hK hP hD hS 1 2 0 rfl rfl rfl hR hD5 (Nat.le_of_ble_eq_true rfl) (by decide) dX1_divideRest_60 (fun H locs hP hD hS => ?_)
          have hP : va_P (dC, dI) vwCl [(h, .inr (1, [.ref n, .ref r, .ref d, .ref f, .int (iI fc), .int (iI cn), .int (iI sp)])), (r, .inl (cI, 5, .inl (aI R))), (d, .inl (cI, 5, .inl (aI R)))] H := hP
          have hD : va_D A [(h, .inr (1, [.ref n, .ref r, .ref d, .ref f, .int (iI fc), .int (iI cn), .int (iI sp)])), (r, .inl (cI, 5, .inl (aI R))), (d, .inl (cI, 5, .inl (aI R)))] := hD
          refine lv_iload hx hb dX1_divideRest_63 (lv_at hl 0 rfl) ?_
          refine lv_istore (lv' := [(7, .int (iI (f_deg R))), (6, .int (iI (f_deg R))), (5, .int (iI b)), (4, .int (iI 1)), (0, .ref h), (1, .int (iI a)), (2, .int (iI b)), (3, .int (iI k))]) hx hb dX1_divideRest_65 hl (by decide) rfl (fun ls hl => ?_)
          refine lp_divideRest1 (a := a) (b := b) (k := k) (sz := 1) (hi := b) (dg := f_deg R) (K := K) (L := L) (R := R) ⟨hx, hb, hr, hml, hown, hw, hlocks⟩ _ (f_deg R) R (fun _ => 0) ?_ (Nat.lt_succ_self _) _ _ hK hP hD hS ls (lv_sub hl [4, 5, 6, 7, 3, 2, 1, 0] rfl)
          refine ⟨⟨by omega, by omega, ⟨by omega, by omega⟩, by omega, hdc.2.1, hK0.1, hKb, hKk, hL, hL2, hR⟩, ⟨by omega, by omega⟩, ?_, fun _ _ => rfl, hR, fun x x1 x2 _ => by omega, fun _ _ => rfl, hB⟩
          intro j
          by_cases q : j ≤ f_deg R
          · rw [if_pos q]; simp
          · rw [if_neg q]; by_cases q2 : j ≤ 4; rw [hdc.2.2.1 j (by omega) q2]; simp; rw [hR j (by omega)]; simp
        · refine ix_iconst (n := 0) hx hb dX1_divideRest_43 ?_
          have hno : ¬ ∃ Q, n5 Q ∧ dvs a b k R Q := by
            rintro ⟨Q, hQ, hd⟩
            have hz : ∀ j, R j = a * (fun _ => 0) (j - 2) + b * (fun _ => 0) (j - 1) + k * (fun _ => (0 : Int)) j + (if j ≤ f_deg R then R j else 0) := by
              intro j
              by_cases q : j ≤ f_deg R
              · rw [if_pos q]; simp
              · rw [if_neg q]; by_cases q2 : j ≤ 4; rw [hdc.2.2.1 j (by omega) q2]; simp; rw [hR j (by omega)]; simp
            have e1 := dv_must (sz := 1) (hi := b) (by omega) (by omega) hz (fun _ _ => rfl) hQ hd
            rw [hQ _ (by omega)] at e1
            exact hdc.2.2.2 hR0 (by rw [← e1]; simp)
          have hP9 := hP.sub (ws' := [(h, .inr (1, [.ref n, .ref r, .ref d, .ref f, .int (iI fc), .int (iI cn), .int (iI sp)])), (r, .inl (cI, 5, .inl (aI R))), (d, .inl (cI, 5, .inl (aI D)))]) [0, 1, 2] rfl
          have hD9 := hD.sub (ws' := [(h, .inr (1, [.ref n, .ref r, .ref d, .ref f, .int (iI fc), .int (iI cn), .int (iI sp)])), (r, .inl (cI, 5, .inl (aI R))), (d, .inl (cI, 5, .inl (aI D)))]) [0, 1, 2] (by decide) rfl
          have hK9 := hK.sub (tys' := [(cI, .int)]) [0] rfl
          exact W.zret (v := iI 0) hx hb hr (by decide) (fun t ht hW => ⟨⟨iI 0, (R, D), rfl, ⟨hD5, Or.inr ⟨rfl, rfl, hno⟩⟩, by rw [ht]; exact hP9, va_K.moved hW.alike hK9, hD9⟩, hS.F ht⟩) hS.2.2 dX1_divideRest_44
end
section
/-- the four places of an array of factors -/
def q4 (y0 y1 y2 y3 : Nat) : Nat → Option Nat := fun j => if j = 0 then some y0 else if j = 1 then some y1 else if j = 2 then some y2 else if j = 3 then some y3 else none
theorem q4_u0 (y0 y1 y2 y3 z : Nat) : va_up (q4 y0 y1 y2 y3) 0 (some z) = q4 z y1 y2 y3 := by funext j; unfold va_up q4; grind
theorem q4_u1 (y0 y1 y2 y3 z : Nat) : va_up (q4 y0 y1 y2 y3) 1 (some z) = q4 y0 z y2 y3 := by funext j; unfold va_up q4; grind
theorem q4_u2 (y0 y1 y2 y3 z : Nat) : va_up (q4 y0 y1 y2 y3) 2 (some z) = q4 y0 y1 z y3 := by funext j; unfold va_up q4; grind
theorem q4_u3 (y0 y1 y2 y3 z : Nat) : va_up (q4 y0 y1 y2 y3) 3 (some z) = q4 y0 y1 y2 z := by funext j; unfold va_up q4; grind
section QQ
variable {p : Program} {l : Launch} {e : Env} {R : Room} {s : State} {m : MethodId} {args : Array Value} {below : List Frame} {meth : Method} {c : Code} {H : Heap} {locs : List Loc} {cells slots : Nat} {Q : State → Prop} {cc : ByteArray} {pc : Nat} {ls : Array Slot} {rest : List Value} {D : va_G} {cl : List vw_C} {ws : va_W} {tys : List (ClassId × FieldType)} {A : Nat → Prop} {H0 : Heap} {a : Nat}
theorem ix_aald (hexec : p.tables.exec = Jvm.exec) (hb : c.code = cc) (hK : va_K D cl tys s) (hP : va_P D cl ws H) (q0 t0 : Nat) {cA : ClassId} {C : String} {n : Nat} {f : Nat → Option Nat} (ha : ws[q0]? = some (a, .inl (cA, n, .inr (.inr (.inr (.inr f)))))) (ht : tys[t0]? = some (cA, .object C)) {z : Int} (k : Nat) {y : Nat} (hk : (iI z).toNatClampNeg = k) (hin : vp_in (iI z) n) (hf : f k = some y) (hdg : decode cc pc = .ok (.aaload, 1)) (kk : W p l e R s m args below meth c H locs cells slots Q (F0 m (pc + 1) ls (.ref y :: rest))) : W p l e R s m args below meth c H locs cells slots Q (F0 m pc ls (.int (iI z) :: .ref a :: rest)) :=
  va_aldq hexec hb hK hP q0 t0 ha ht hin hdg (by rw [hk, hf]; exact kk)
theorem ix_aast (hexec : p.tables.exec = Jvm.exec) (hb : c.code = cc) (hK : va_K D cl tys s) (hP : va_P D cl ws H) (hD : va_D A ws) (hS : va_S A H0 H locs) (q0 t0 qk ci : Nat) {cA : ClassId} {r : vw_C} {n v : Nat} {vs : List Value} {f f2 : Nat → Option Nat} (ha : ws[q0]? = some (a, .inl (cA, n, .inr (.inr (.inr (.inr f)))))) (ht : tys[t0]? = some (cA, .object r.1)) (hv : ws[qk]? = some (v, .inr (ci, vs))) (hc : cl[ci]? = some r) {z : Int} (k : Nat) (hk : (iI z).toNatClampNeg = k) (hin : vp_in (iI z) n) (hf : va_up f k (some v) = f2) (hdg : decode cc pc = .ok (.aastore, 1)) (kk : ∀ (H1 : Heap) (locs1 : List Loc), va_P D cl (ws.set q0 (a, .inl (cA, n, .inr (.inr (.inr (.inr f2)))))) H1 → va_D A (ws.set q0 (a, .inl (cA, n, .inr (.inr (.inr (.inr f2)))))) → va_S A H0 H1 locs1 → W p l e R s m args below meth c H1 locs1 cells slots Q (F0 m (pc + 1) ls rest)) : W p l e R s m args below meth c H locs cells slots Q (F0 m pc ls (.ref v :: .int (iI z) :: .ref a :: rest)) :=
  va_astq hexec hb hK hP hD hS q0 t0 qk ci ha ht hv hc hin hdg (fun H1 locs1 b1 b2 b3 => kk H1 locs1 (by rw [hk, hf] at b1; exact b1) (by rw [hk, hf] at b2; exact b2) b3)
end QQ
theorem ck0 : (iI 0).toNatClampNeg = 0 := by decide
theorem ck1 : (iI 1).toNatClampNeg = 1 := by decide
theorem ck2 : (iI 2).toNatClampNeg = 2 := by decide
theorem ck3 : (iI 3).toNatClampNeg = 3 := by decide
/-- X has come into its place among the first k -/
def insP (k : Int) (X : Int → Int) (Fs Gs : Int → Int → Int) (pos : Int) : Prop :=
  0 ≤ pos ∧ pos ≤ k ∧ Gs pos = X ∧ (∀ i, 0 ≤ i → i < pos → Gs i = Fs i) ∧ (∀ i, pos ≤ i → i < k → Gs (i + 1) = Fs i) ∧ (∀ i, pos ≤ i → i < k → f_before X (Fs i) = 1) ∧ (0 < pos → f_before X (Fs (pos - 1)) = 0)
theorem before_01 (F G : Int → Int) : f_before F G = 0 ∨ f_before F G = 1 := by unfold f_before f_lin; grind
theorem before_1 {F G : Int → Int} (h : ¬ f_before F G = 0) : f_before F G = 1 := (before_01 F G).resolve_left h
theorem before_r (F G : Int → Int) : r32 (f_before F G) := by rcases before_01 F G with h | h <;> rw [h] <;> decide
def g4 (G0 G1 G2 G3 : Int → Int) : Int → Int → Int := fun i => if i = 0 then G0 else if i = 1 then G1 else if i = 2 then G2 else if i = 3 then G3 else fun _ => 0
/-- numbers of factors in their bounds, so that any two can be held against each other -/
def fbd (F : Int → Int) : Prop := (∀ j, -1002000 ≤ F j ∧ F j ≤ 1002000) ∧ (-40000 ≤ f_mid F ∧ f_mid F ≤ 40000) ∧ (-40000 ≤ f_below F ∧ f_below F ≤ 40000)
theorem fbd_m {F G : Int → Int} (h : fbd F) (h2 : fbd G) : r32 (f_mid F * f_below G) := by
  have := mul_in h.2.1 h2.2.2 (by omega) (by omega)
  omega
set_option maxHeartbeats 4000000 in
set_option maxRecDepth 100000 in
/-- addFactor, 0 being found -/
theorem kX1_addFactor_0 (l : Launch) (dC : Nat → ClassId) (dI : Nat → Nat → Nat) (sz : Nat) (h n r d f y0 y1 y2 y3 : Nat) (cF : ClassId) (cn sp : Int) (Fs : Int → Int → Int) (a b k tt : Int) (ha : r32 a) (hu : -1002000 ≤ f_und a b k ∧ f_und a b k ≤ 1002000) (hX : fbd (nf tt a b k)) (hF : ∀ i, fbd (Fs i)) : Met l yX1_addFactor (.code yX1_addFactor cX1_addFactor 7 none :: wsA) ({ frames := 2, cells := 0, slots := 0, locals := 80 }) (va_Pc [.ref h, .int (iI a), .int (iI b), .int (iI k), .int (iI tt)] (fun U => U.heap.size = sz ∧ va_P (dC, dI) vwCl [(h, .inr (1, [.ref n, .ref r, .ref d, .ref f, .int (iI 0), .int (iI cn), .int (iI sp)])), (f, .inl (cF, 4, .inr (.inr (.inr (.inr (q4 y0 y1 y2 y3)))))), (y0, .inr (0, [.int (iI (Fs 0 0)), .int (iI (Fs 0 1)), .int (iI (Fs 0 2)), .int (iI (Fs 0 3)), .int (iI (Fs 0 4)), .int (iI (Fs 0 5))])), (y1, .inr (0, [.int (iI (Fs 1 0)), .int (iI (Fs 1 1)), .int (iI (Fs 1 2)), .int (iI (Fs 1 3)), .int (iI (Fs 1 4)), .int (iI (Fs 1 5))])), (y2, .inr (0, [.int (iI (Fs 2 0)), .int (iI (Fs 2 1)), .int (iI (Fs 2 2)), .int (iI (Fs 2 3)), .int (iI (Fs 2 4)), .int (iI (Fs 2 5))])), (y3, .inr (0, [.int (iI (Fs 3 0)), .int (iI (Fs 3 1)), .int (iI (Fs 3 2)), .int (iI (Fs 3 3)), .int (iI (Fs 3 4)), .int (iI (Fs 3 5))]))] U.heap ∧ va_K (dC, dI) vwCl [(cF, .object RX0)] U ∧ va_D (fun _ => True) [(h, .inr (1, [.ref n, .ref r, .ref d, .ref f, .int (iI 0), .int (iI cn), .int (iI sp)])), (f, .inl (cF, 4, .inr (.inr (.inr (.inr (q4 y0 y1 y2 y3)))))), (y0, .inr (0, [.int (iI (Fs 0 0)), .int (iI (Fs 0 1)), .int (iI (Fs 0 2)), .int (iI (Fs 0 3)), .int (iI (Fs 0 4)), .int (iI (Fs 0 5))])), (y1, .inr (0, [.int (iI (Fs 1 0)), .int (iI (Fs 1 1)), .int (iI (Fs 1 2)), .int (iI (Fs 1 3)), .int (iI (Fs 1 4)), .int (iI (Fs 1 5))])), (y2, .inr (0, [.int (iI (Fs 2 0)), .int (iI (Fs 2 1)), .int (iI (Fs 2 2)), .int (iI (Fs 2 3)), .int (iI (Fs 2 4)), .int (iI (Fs 2 5))])), (y3, .inr (0, [.int (iI (Fs 3 0)), .int (iI (Fs 3 1)), .int (iI (Fs 3 2)), .int (iI (Fs 3 3)), .int (iI (Fs 3 4)), .int (iI (Fs 3 5))]))] ∧ nb U)) (va_Qv (fun u => ∃ pos, insP 0 (nf tt a b k) Fs u.2 pos) (fun (u : (Nat × Nat × Nat × Nat) × (Int → Int → Int)) t9 => va_P (dC, dI) vwCl [(h, .inr (1, [.ref n, .ref r, .ref d, .ref f, .int (iI 1), .int (iI cn), .int (iI sp)])), (f, .inl (cF, 4, .inr (.inr (.inr (.inr (q4 u.1.1 u.1.2.1 u.1.2.2.1 u.1.2.2.2)))))), (u.1.1, .inr (0, fl (u.2 0))), (u.1.2.1, .inr (0, fl (u.2 1))), (u.1.2.2.1, .inr (0, fl (u.2 2))), (u.1.2.2.2, .inr (0, fl (u.2 3)))] t9.heap ∧ va_K (dC, dI) vwCl [(cF, .object RX0)] t9 ∧ va_D (va_A [(h, .inr (1, [.ref n, .ref r, .ref d, .ref f, .int (iI 0), .int (iI cn), .int (iI sp)])), (f, .inl (cF, 4, .inr (.inr (.inr (.inr (q4 y0 y1 y2 y3)))))), (y0, .inr (0, [.int (iI (Fs 0 0)), .int (iI (Fs 0 1)), .int (iI (Fs 0 2)), .int (iI (Fs 0 3)), .int (iI (Fs 0 4)), .int (iI (Fs 0 5))])), (y1, .inr (0, [.int (iI (Fs 1 0)), .int (iI (Fs 1 1)), .int (iI (Fs 1 2)), .int (iI (Fs 1 3)), .int (iI (Fs 1 4)), .int (iI (Fs 1 5))])), (y2, .inr (0, [.int (iI (Fs 2 0)), .int (iI (Fs 2 1)), .int (iI (Fs 2 2)), .int (iI (Fs 2 3)), .int (iI (Fs 2 4)), .int (iI (Fs 2 5))])), (y3, .inr (0, [.int (iI (Fs 3 0)), .int (iI (Fs 3 1)), .int (iI (Fs 3 2)), .int (iI (Fs 3 3)), .int (iI (Fs 3 4)), .int (iI (Fs 3 5))]))] sz) [(h, .inr (1, [.ref n, .ref r, .ref d, .ref f, .int (iI 1), .int (iI cn), .int (iI sp)])), (f, .inl (cF, 4, .inr (.inr (.inr (.inr (q4 u.1.1 u.1.2.1 u.1.2.2.1 u.1.2.2.2)))))), (u.1.1, .inr (0, fl (u.2 0))), (u.1.2.1, .inr (0, fl (u.2 1))), (u.1.2.2.1, .inr (0, fl (u.2 2))), (u.1.2.2.2, .inr (0, fl (u.2 3)))]) (va_A [(h, .inr (1, [.ref n, .ref r, .ref d, .ref f, .int (iI 0), .int (iI cn), .int (iI sp)])), (f, .inl (cF, 4, .inr (.inr (.inr (.inr (q4 y0 y1 y2 y3)))))), (y0, .inr (0, [.int (iI (Fs 0 0)), .int (iI (Fs 0 1)), .int (iI (Fs 0 2)), .int (iI (Fs 0 3)), .int (iI (Fs 0 4)), .int (iI (Fs 0 5))])), (y1, .inr (0, [.int (iI (Fs 1 0)), .int (iI (Fs 1 1)), .int (iI (Fs 1 2)), .int (iI (Fs 1 3)), .int (iI (Fs 1 4)), .int (iI (Fs 1 5))])), (y2, .inr (0, [.int (iI (Fs 2 0)), .int (iI (Fs 2 1)), .int (iI (Fs 2 2)), .int (iI (Fs 2 3)), .int (iI (Fs 2 4)), .int (iI (Fs 2 5))])), (y3, .inr (0, [.int (iI (Fs 3 0)), .int (iI (Fs 3 1)), .int (iI (Fs 3 2)), .int (iI (Fs 3 3)), .int (iI (Fs 3 4)), .int (iI (Fs 3 5))]))] sz)) 0 0 (va_A [(h, .inr (1, [.ref n, .ref r, .ref d, .ref f, .int (iI 0), .int (iI cn), .int (iI sp)])), (f, .inl (cF, 4, .inr (.inr (.inr (.inr (q4 y0 y1 y2 y3)))))), (y0, .inr (0, [.int (iI (Fs 0 0)), .int (iI (Fs 0 1)), .int (iI (Fs 0 2)), .int (iI (Fs 0 3)), .int (iI (Fs 0 4)), .int (iI (Fs 0 5))])), (y1, .inr (0, [.int (iI (Fs 1 0)), .int (iI (Fs 1 1)), .int (iI (Fs 1 2)), .int (iI (Fs 1 3)), .int (iI (Fs 1 4)), .int (iI (Fs 1 5))])), (y2, .inr (0, [.int (iI (Fs 2 0)), .int (iI (Fs 2 1)), .int (iI (Fs 2 2)), .int (iI (Fs 2 3)), .int (iI (Fs 2 4)), .int (iI (Fs 2 5))])), (y3, .inr (0, [.int (iI (Fs 3 0)), .int (iI (Fs 3 1)), .int (iI (Fs 3 2)), .int (iI (Fs 3 3)), .int (iI (Fs 3 4)), .int (iI (Fs 3 5))]))] sz) := by
  refine Met.ofW (cc := cX1_addFactor) (maxL := 7) (ret := none) (by decide) rfl ?_
  intro p e s m args below meth c s₁ B hml hv
  obtain ⟨rfl, hsz, hP, hK, hD0, hnb⟩ := hv
  have hx := B.exec
  have hb := B.bytes
  have hr := B.returns
  have hts := atoms_spec (ws := .code yX1_addFactor cX1_addFactor 7 none :: wsA) B.pre
  have hw : ∀ w ∈ wsA, w.before _ s = true := fun w h => hts w (List.mem_cons_of_mem _ h)
  have hown : s.vm.findClass RX1 = some m.cls := findClass_of_methodNamed B.named
  have hlocks := B.notSynchronized
  subst hsz
  have hD := hD0.self (sz := s.heap.size)
  generalize hAe : va_A [(h, .inr (1, [.ref n, .ref r, .ref d, .ref f, .int (iI 0), .int (iI cn), .int (iI sp)])), (f, .inl (cF, 4, .inr (.inr (.inr (.inr (q4 y0 y1 y2 y3)))))), (y0, .inr (0, [.int (iI (Fs 0 0)), .int (iI (Fs 0 1)), .int (iI (Fs 0 2)), .int (iI (Fs 0 3)), .int (iI (Fs 0 4)), .int (iI (Fs 0 5))])), (y1, .inr (0, [.int (iI (Fs 1 0)), .int (iI (Fs 1 1)), .int (iI (Fs 1 2)), .int (iI (Fs 1 3)), .int (iI (Fs 1 4)), .int (iI (Fs 1 5))])), (y2, .inr (0, [.int (iI (Fs 2 0)), .int (iI (Fs 2 1)), .int (iI (Fs 2 2)), .int (iI (Fs 2 3)), .int (iI (Fs 2 4)), .int (iI (Fs 2 5))])), (y3, .inr (0, [.int (iI (Fs 3 0)), .int (iI (Fs 3 1)), .int (iI (Fs 3 2)), .int (iI (Fs 3 3)), .int (iI (Fs 3 4)), .int (iI (Fs 3 5))]))] s.heap.size = A at hD ⊢
  have hA : ∀ q : Nat, s.heap.size ≤ q → A q := fun q h => by rw [← hAe]; exact Or.inr h
  have hS : va_S A s.heap s.heap [] := va_S.rf
  have hP : va_P (dC, dI) vwCl [(h, .inr (1, [.ref n, .ref r, .ref d, .ref f, .int (iI 0), .int (iI cn), .int (iI sp)])), (f, .inl (cF, 4, .inr (.inr (.inr (.inr (q4 y0 y1 y2 y3)))))), (y0, .inr (0, [.int (iI (Fs 0 0)), .int (iI (Fs 0 1)), .int (iI (Fs 0 2)), .int (iI (Fs 0 3)), .int (iI (Fs 0 4)), .int (iI (Fs 0 5))])), (y1, .inr (0, [.int (iI (Fs 1 0)), .int (iI (Fs 1 1)), .int (iI (Fs 1 2)), .int (iI (Fs 1 3)), .int (iI (Fs 1 4)), .int (iI (Fs 1 5))])), (y2, .inr (0, [.int (iI (Fs 2 0)), .int (iI (Fs 2 1)), .int (iI (Fs 2 2)), .int (iI (Fs 2 3)), .int (iI (Fs 2 4)), .int (iI (Fs 2 5))])), (y3, .inr (0, [.int (iI (Fs 3 0)), .int (iI (Fs 3 1)), .int (iI (Fs 3 2)), .int (iI (Fs 3 3)), .int (iI (Fs 3 4)), .int (iI (Fs 3 5))]))] s.heap := hP
  have hl := lv_entry ([.ref h, .int (iI a), .int (iI b), .int (iI k), .int (iI tt)]) (n := 7) (Nat.le_of_ble_eq_true rfl)
  rw [lg_entry_eq]
  generalize (lg_sl ([.ref h, .int (iI a), .int (iI b), .int (iI k), .int (iI tt)]) ++ List.replicate (7 - (lg_sl ([.ref h, .int (iI a), .int (iI b), .int (iI k), .int (iI tt)])).length) Slot.unset).toArray = ls at hl ⊢
  have hl : lv_has ls 7 [(0, .ref h), (1, .int (iI a)), (2, .int (iI b)), (3, .int (iI k)), (4, .int (iI tt))] := hl
  refine lv_aload_n hx hb dX1_addFactor_0 rfl (lv_at hl 0 rfl) ?_
  refine va_get (D := (dC, dI)) (ci := 1) (v := .int (iI 0)) (C := RX1) (T := TX1) (N := 7) hx hb hw inX1 hown hK hP 0 rfl rfl 4 (by decide) (hw _ mA_57) (fun _ h9 => h9) rfl dX1_addFactor_1 ?_
  refine lv_aload_n hx hb dX1_addFactor_4 rfl (lv_at hl 0 rfl) ?_
  refine va_get (D := (dC, dI)) (ci := 1) (v := .ref f) (C := RX1) (T := TX1) (N := 7) hx hb hw inX1 hown hK hP 0 rfl rfl 3 (by decide) (hw _ mA_56) (fun _ h9 => h9) rfl dX1_addFactor_5 ?_
  refine va_alen (v := iI 4) hx hb hK hP 1 0 rfl rfl rfl dX1_addFactor_8 ?_
  refine ix_icmp_lt (tgt := 13) hx hb dX1_addFactor_9 (by decide) (by decide) (by decide) (fun _ => ?_) (fun c1 => absurd c1 (by decide))
  refine lv_aload_n hx hb dX1_addFactor_13 rfl (lv_at hl 0 rfl) ?_
  refine va_get (D := (dC, dI)) (ci := 1) (v := .ref f) (C := RX1) (T := TX1) (N := 7) hx hb hw inX1 hown hK hP 0 rfl rfl 3 (by decide) (hw _ mA_56) (fun _ h9 => h9) rfl dX1_addFactor_14 ?_
  refine lv_aload_n hx hb dX1_addFactor_17 rfl (lv_at hl 0 rfl) ?_
  refine va_get (D := (dC, dI)) (ci := 1) (v := .int (iI 0)) (C := RX1) (T := TX1) (N := 7) hx hb hw inX1 hown hK hP 0 rfl rfl 4 (by decide) (hw _ mA_57) (fun _ h9 => h9) rfl dX1_addFactor_18 ?_
  refine ix_aald hx hb hK hP 1 0 rfl rfl 0 ck0 (vp_in_iI (by decide) (by decide) (by decide)) rfl dX1_addFactor_21 ?_
  refine lv_astore (lv' := [(5, .ref y0), (0, .ref h), (1, .int (iI a)), (2, .int (iI b)), (3, .int (iI k)), (4, .int (iI tt))]) hx hb dX1_addFactor_22 hl (by decide) rfl (fun ls hl => ?_)
  refine lv_aload hx hb dX1_addFactor_24 (lv_at hl 0 rfl) ?_
  refine lv_iload_n hx hb dX1_addFactor_26 rfl (lv_at hl 2 rfl) ?_
  refine lv_iload_n hx hb dX1_addFactor_27 rfl (lv_at hl 3 rfl) ?_
  refine lv_iload_n hx hb dX1_addFactor_28 rfl (lv_at hl 4 rfl) ?_
  refine lv_iload hx hb dX1_addFactor_29 (lv_at hl 5 rfl) ?_
  have hPc := hP.sub (ws' := [(y0, .inr (0, [.int (iI (Fs 0 0)), .int (iI (Fs 0 1)), .int (iI (Fs 0 2)), .int (iI (Fs 0 3)), .int (iI (Fs 0 4)), .int (iI (Fs 0 5))]))]) [2] rfl
  have hDc := hD.sub (ws' := [(y0, .inr (0, [.int (iI (Fs 0 0)), .int (iI (Fs 0 1)), .int (iI (Fs 0 2)), .int (iI (Fs 0 3)), .int (iI (Fs 0 4)), .int (iI (Fs 0 5))]))]) [2] (by decide) rfl
  have hKc := hK.sub (tys' := []) [] rfl
  have hFc := va_free (wc := [(y0, .inr (0, [.int (iI (Fs 0 0)), .int (iI (Fs 0 1)), .int (iI (Fs 0 2)), .int (iI (Fs 0 3)), .int (iI (Fs 0 4)), .int (iI (Fs 0 5))]))]) hD hS hA [2] rfl
  refine va_callv (va_runVN (As := [.int (iI a), .int (iI b), .int (iI k), .int (iI tt)]) (rest := []) ⟨hx, hb, hml, hown, hw⟩ (kX0_become l dC dI _ y0 (Fs 0) a b k tt ha hu) ⟨va_cnB 4 hw (wsA_sub mA_264) rfl rfl rfl (hnb.1 _ mN_261) (hw _ mA_2) (by decide +kernel) ⟨Nat.le_of_ble_eq_true rfl, Nat.le_of_ble_eq_true rfl⟩, hw _ mA_263, hw _ mP_9⟩ ⟨fun a U g mk q => by obtain ⟨q0, q1, qP, qK, qD, qN⟩ := q; exact ⟨q0, q1, qP, va_K.moved (u := U) (U := U.calling g mk a) (Vm.Alike.refl U.vm) qK, qD, nb.same (u := U) rfl qN⟩, va_recv hKc hPc (ci := 0) (q0 := 0) rfl rfl, fun U hU hW => ⟨rfl, by rw [hU], by rw [hU]; exact hPc, va_K.moved hW.alike hKc, hDc.weaken (fun _ _ _ _ => trivial), nb.warm hW hnb⟩⟩ rfl rfl hl.1 rfl (lv_room (Nat.le_of_ble_eq_true rfl)) dX1_addFactor_31 ⟨Nat.le_of_ble_eq_true rfl, Nat.le_of_ble_eq_true rfl⟩) hS (fun q _ h => hFc q h) hFc (fun u2 t9 H1 locs ht hvm hq3 hB hz1 hk1 hS => ?_)
  obtain ⟨hP1, hK1, hD1⟩ := hB
  rw [ht] at hP1
  have hK1 := va_K.moved hvm.symm hK1
  obtain ⟨hP, hD⟩ := va_join (wr := [(h, .inr (1, [.ref n, .ref r, .ref d, .ref f, .int (iI 0), .int (iI cn), .int (iI sp)])), (f, .inl (cF, 4, .inr (.inr (.inr (.inr (q4 y0 y1 y2 y3)))))), (y1, .inr (0, [.int (iI (Fs 1 0)), .int (iI (Fs 1 1)), .int (iI (Fs 1 2)), .int (iI (Fs 1 3)), .int (iI (Fs 1 4)), .int (iI (Fs 1 5))])), (y2, .inr (0, [.int (iI (Fs 2 0)), .int (iI (Fs 2 1)), .int (iI (Fs 2 2)), .int (iI (Fs 2 3)), .int (iI (Fs 2 4)), .int (iI (Fs 2 5))])), (y3, .inr (0, [.int (iI (Fs 3 0)), .int (iI (Fs 3 1)), .int (iI (Fs 3 2)), .int (iI (Fs 3 3)), .int (iI (Fs 3 4)), .int (iI (Fs 3 5))]))]) (w1 := [(y0, .inr (0, [.int (iI (nf tt a b k 0)), .int (iI (nf tt a b k 1)), .int (iI (nf tt a b k 2)), .int (iI (nf tt a b k 3)), .int (iI (nf tt a b k 4)), .int (iI (nf tt a b k 5))]))]) hP hD [2] [0, 1, 3, 4, 5] rfl rfl (by decide) (by decide) hk1 hFc hP1 hD1
  generalize H1 = H at hP hS ⊢
  have hP := hP.sub (ws' := [(h, .inr (1, [.ref n, .ref r, .ref d, .ref f, .int (iI 0), .int (iI cn), .int (iI sp)])), (f, .inl (cF, 4, .inr (.inr (.inr (.inr (q4 y0 y1 y2 y3)))))), (y0, .inr (0, [.int (iI (nf tt a b k 0)), .int (iI (nf tt a b k 1)), .int (iI (nf tt a b k 2)), .int (iI (nf tt a b k 3)), .int (iI (nf tt a b k 4)), .int (iI (nf tt a b k 5))])), (y1, .inr (0, [.int (iI (Fs 1 0)), .int (iI (Fs 1 1)), .int (iI (Fs 1 2)), .int (iI (Fs 1 3)), .int (iI (Fs 1 4)), .int (iI (Fs 1 5))])), (y2, .inr (0, [.int (iI (Fs 2 0)), .int (iI (Fs 2 1)), .int (iI (Fs 2 2)), .int (iI (Fs 2 3)), .int (iI (Fs 2 4)), .int (iI (Fs 2 5))])), (y3, .inr (0, [.int (iI (Fs 3 0)), .int (iI (Fs 3 1)), .int (iI (Fs 3 2)), .int (iI (Fs 3 3)), .int (iI (Fs 3 4)), .int (iI (Fs 3 5))]))]) [0, 1, 5, 2, 3, 4] rfl
  have hD := hD.sub (ws' := [(h, .inr (1, [.ref n, .ref r, .ref d, .ref f, .int (iI 0), .int (iI cn), .int (iI sp)])), (f, .inl (cF, 4, .inr (.inr (.inr (.inr (q4 y0 y1 y2 y3)))))), (y0, .inr (0, [.int (iI (nf tt a b k 0)), .int (iI (nf tt a b k 1)), .int (iI (nf tt a b k 2)), .int (iI (nf tt a b k 3)), .int (iI (nf tt a b k 4)), .int (iI (nf tt a b k 5))])), (y1, .inr (0, [.int (iI (Fs 1 0)), .int (iI (Fs 1 1)), .int (iI (Fs 1 2)), .int (iI (Fs 1 3)), .int (iI (Fs 1 4)), .int (iI (Fs 1 5))])), (y2, .inr (0, [.int (iI (Fs 2 0)), .int (iI (Fs 2 1)), .int (iI (Fs 2 2)), .int (iI (Fs 2 3)), .int (iI (Fs 2 4)), .int (iI (Fs 2 5))])), (y3, .inr (0, [.int (iI (Fs 3 0)), .int (iI (Fs 3 1)), .int (iI (Fs 3 2)), .int (iI (Fs 3 3)), .int (iI (Fs 3 4)), .int (iI (Fs 3 5))]))]) [0, 1, 5, 2, 3, 4] (by decide) rfl
  refine lv_aload_n hx hb dX1_addFactor_34 rfl (lv_at hl 1 rfl) ?_
  refine va_get (D := (dC, dI)) (ci := 1) (v := .int (iI 0)) (C := RX1) (T := TX1) (N := 7) hx hb hw inX1 hown hK hP 0 rfl rfl 4 (by decide) (hw _ mA_57) (fun _ h9 => h9) rfl dX1_addFactor_35 ?_
  refine lv_istore (lv' := [(6, .int (iI 0)), (5, .ref y0), (0, .ref h), (1, .int (iI a)), (2, .int (iI b)), (3, .int (iI k)), (4, .int (iI tt))]) hx hb dX1_addFactor_38 hl (by decide) rfl (fun ls hl => ?_)
  refine lv_iload hx hb dX1_addFactor_40 (lv_at hl 0 rfl) ?_
  refine ix_if_le (tgt := 84) hx hb dX1_addFactor_42 (by decide) (by decide) (fun _ => ?_) (fun c5 => absurd c5 (by decide))
  refine lv_aload_n hx hb dX1_addFactor_84 rfl (lv_at hl 2 rfl) ?_
  refine va_get (D := (dC, dI)) (ci := 1) (v := .ref f) (C := RX1) (T := TX1) (N := 7) hx hb hw inX1 hown hK hP 0 rfl rfl 3 (by decide) (hw _ mA_56) (fun _ h9 => h9) rfl dX1_addFactor_85 ?_
  refine lv_iload hx hb dX1_addFactor_88 (lv_at hl 0 rfl) ?_
  refine lv_aload hx hb dX1_addFactor_90 (lv_at hl 1 rfl) ?_
  refine ix_aast hx hb hK hP hD hS 1 0 2 0 rfl rfl rfl rfl 0 ck0 (vp_in_iI (by decide) (by decide) (by decide)) (q4_u0 y0 y1 y2 y3 y0) dX1_addFactor_92 (fun H locs hP hD hS => ?_)
  have hP : va_P (dC, dI) vwCl [(h, .inr (1, [.ref n, .ref r, .ref d, .ref f, .int (iI 0), .int (iI cn), .int (iI sp)])), (f, .inl (cF, 4, .inr (.inr (.inr (.inr (q4 y0 y1 y2 y3)))))), (y0, .inr (0, [.int (iI (nf tt a b k 0)), .int (iI (nf tt a b k 1)), .int (iI (nf tt a b k 2)), .int (iI (nf tt a b k 3)), .int (iI (nf tt a b k 4)), .int (iI (nf tt a b k 5))])), (y1, .inr (0, [.int (iI (Fs 1 0)), .int (iI (Fs 1 1)), .int (iI (Fs 1 2)), .int (iI (Fs 1 3)), .int (iI (Fs 1 4)), .int (iI (Fs 1 5))])), (y2, .inr (0, [.int (iI (Fs 2 0)), .int (iI (Fs 2 1)), .int (iI (Fs 2 2)), .int (iI (Fs 2 3)), .int (iI (Fs 2 4)), .int (iI (Fs 2 5))])), (y3, .inr (0, [.int (iI (Fs 3 0)), .int (iI (Fs 3 1)), .int (iI (Fs 3 2)), .int (iI (Fs 3 3)), .int (iI (Fs 3 4)), .int (iI (Fs 3 5))]))] H := hP
  have hD : va_D A [(h, .inr (1, [.ref n, .ref r, .ref d, .ref f, .int (iI 0), .int (iI cn), .int (iI sp)])), (f, .inl (cF, 4, .inr (.inr (.inr (.inr (q4 y0 y1 y2 y3)))))), (y0, .inr (0, [.int (iI (nf tt a b k 0)), .int (iI (nf tt a b k 1)), .int (iI (nf tt a b k 2)), .int (iI (nf tt a b k 3)), .int (iI (nf tt a b k 4)), .int (iI (nf tt a b k 5))])), (y1, .inr (0, [.int (iI (Fs 1 0)), .int (iI (Fs 1 1)), .int (iI (Fs 1 2)), .int (iI (Fs 1 3)), .int (iI (Fs 1 4)), .int (iI (Fs 1 5))])), (y2, .inr (0, [.int (iI (Fs 2 0)), .int (iI (Fs 2 1)), .int (iI (Fs 2 2)), .int (iI (Fs 2 3)), .int (iI (Fs 2 4)), .int (iI (Fs 2 5))])), (y3, .inr (0, [.int (iI (Fs 3 0)), .int (iI (Fs 3 1)), .int (iI (Fs 3 2)), .int (iI (Fs 3 3)), .int (iI (Fs 3 4)), .int (iI (Fs 3 5))]))] := hD
  refine lv_aload_n hx hb dX1_addFactor_93 rfl (lv_at hl 2 rfl) ?_
  refine lv_dup hx hb dX1_addFactor_94 rfl ?_
  refine va_get (D := (dC, dI)) (ci := 1) (v := .int (iI 0)) (C := RX1) (T := TX1) (N := 7) hx hb hw inX1 hown hK hP 0 rfl rfl 4 (by decide) (hw _ mA_57) (fun _ h9 => h9) rfl dX1_addFactor_95 ?_
  refine ix_iconst (n := 1) hx hb dX1_addFactor_98 ?_
  refine ix_iadd hx hb dX1_addFactor_99 ?_
  refine ix_z (y := 1) rfl ?_
  refine va_put (D := (dC, dI)) (ci := 1) (v := .int (iI 1)) (ty := .int) (C := RX1) (T := TX1) (N := 7) hx hb hw inX1 tyX1 tyX1_ok nmX1 hown hK hP hD hS 0 rfl rfl 4 (by decide) (hw _ mA_57) (fun _ h9 => h9) rfl (by decide +kernel) rfl rfl (Nat.le_of_ble_eq_true rfl) dX1_addFactor_100 (fun H locs hP hD hS => ?_)
  have hP : va_P (dC, dI) vwCl [(h, .inr (1, [.ref n, .ref r, .ref d, .ref f, .int (iI 1), .int (iI cn), .int (iI sp)])), (f, .inl (cF, 4, .inr (.inr (.inr (.inr (q4 y0 y1 y2 y3)))))), (y0, .inr (0, [.int (iI (nf tt a b k 0)), .int (iI (nf tt a b k 1)), .int (iI (nf tt a b k 2)), .int (iI (nf tt a b k 3)), .int (iI (nf tt a b k 4)), .int (iI (nf tt a b k 5))])), (y1, .inr (0, [.int (iI (Fs 1 0)), .int (iI (Fs 1 1)), .int (iI (Fs 1 2)), .int (iI (Fs 1 3)), .int (iI (Fs 1 4)), .int (iI (Fs 1 5))])), (y2, .inr (0, [.int (iI (Fs 2 0)), .int (iI (Fs 2 1)), .int (iI (Fs 2 2)), .int (iI (Fs 2 3)), .int (iI (Fs 2 4)), .int (iI (Fs 2 5))])), (y3, .inr (0, [.int (iI (Fs 3 0)), .int (iI (Fs 3 1)), .int (iI (Fs 3 2)), .int (iI (Fs 3 3)), .int (iI (Fs 3 4)), .int (iI (Fs 3 5))]))] H := hP
  have hD : va_D A [(h, .inr (1, [.ref n, .ref r, .ref d, .ref f, .int (iI 1), .int (iI cn), .int (iI sp)])), (f, .inl (cF, 4, .inr (.inr (.inr (.inr (q4 y0 y1 y2 y3)))))), (y0, .inr (0, [.int (iI (nf tt a b k 0)), .int (iI (nf tt a b k 1)), .int (iI (nf tt a b k 2)), .int (iI (nf tt a b k 3)), .int (iI (nf tt a b k 4)), .int (iI (nf tt a b k 5))])), (y1, .inr (0, [.int (iI (Fs 1 0)), .int (iI (Fs 1 1)), .int (iI (Fs 1 2)), .int (iI (Fs 1 3)), .int (iI (Fs 1 4)), .int (iI (Fs 1 5))])), (y2, .inr (0, [.int (iI (Fs 2 0)), .int (iI (Fs 2 1)), .int (iI (Fs 2 2)), .int (iI (Fs 2 3)), .int (iI (Fs 2 4)), .int (iI (Fs 2 5))])), (y3, .inr (0, [.int (iI (Fs 3 0)), .int (iI (Fs 3 1)), .int (iI (Fs 3 2)), .int (iI (Fs 3 3)), .int (iI (Fs 3 4)), .int (iI (Fs 3 5))]))] := hD
  have hpost : insP 0 (nf tt a b k) Fs (g4 (nf tt a b k) (Fs 1) (Fs 2) (Fs 3)) 0 := by
    refine ⟨by omega, by omega, rfl, ?_, ?_, ?_, ?_⟩
    · intro i h1 h2; omega
    · intro i h1 h2; omega
    · intro i h1 h2; omega
    · intro h; omega
  have hP9 := hP.sub (ws' := [(h, .inr (1, [.ref n, .ref r, .ref d, .ref f, .int (iI 1), .int (iI cn), .int (iI sp)])), (f, .inl (cF, 4, .inr (.inr (.inr (.inr (q4 y0 y1 y2 y3)))))), (y0, .inr (0, fl (g4 (nf tt a b k) (Fs 1) (Fs 2) (Fs 3) 0))), (y1, .inr (0, fl (g4 (nf tt a b k) (Fs 1) (Fs 2) (Fs 3) 1))), (y2, .inr (0, fl (g4 (nf tt a b k) (Fs 1) (Fs 2) (Fs 3) 2))), (y3, .inr (0, fl (g4 (nf tt a b k) (Fs 1) (Fs 2) (Fs 3) 3)))]) [0, 1, 2, 3, 4, 5] rfl
  have hD9 := hD.sub (ws' := [(h, .inr (1, [.ref n, .ref r, .ref d, .ref f, .int (iI 1), .int (iI cn), .int (iI sp)])), (f, .inl (cF, 4, .inr (.inr (.inr (.inr (q4 y0 y1 y2 y3)))))), (y0, .inr (0, fl (g4 (nf tt a b k) (Fs 1) (Fs 2) (Fs 3) 0))), (y1, .inr (0, fl (g4 (nf tt a b k) (Fs 1) (Fs 2) (Fs 3) 1))), (y2, .inr (0, fl (g4 (nf tt a b k) (Fs 1) (Fs 2) (Fs 3) 2))), (y3, .inr (0, fl (g4 (nf tt a b k) (Fs 1) (Fs 2) (Fs 3) 3)))]) [0, 1, 2, 3, 4, 5] (by decide) rfl
  have hK9 := hK.sub (tys' := [(cF, .object RX0)]) [0] rfl
  exact W.vret hx hb hr (fun t ht hW => ⟨⟨((y0, y1, y2, y3), g4 (nf tt a b k) (Fs 1) (Fs 2) (Fs 3)), rfl, ⟨_, hpost⟩, by rw [ht]; exact hP9, va_K.moved hW.alike hK9, hD9⟩, hS.F ht⟩) hS.2.2 dX1_addFactor_103
set_option maxHeartbeats 4000000 in
set_option maxRecDepth 100000 in
/-- addFactor, 1 being found -/
theorem kX1_addFactor_1 (l : Launch) (dC : Nat → ClassId) (dI : Nat → Nat → Nat) (sz : Nat) (h n r d f y0 y1 y2 y3 : Nat) (cF : ClassId) (cn sp : Int) (Fs : Int → Int → Int) (a b k tt : Int) (ha : r32 a) (hu : -1002000 ≤ f_und a b k ∧ f_und a b k ≤ 1002000) (hX : fbd (nf tt a b k)) (hF : ∀ i, fbd (Fs i)) : Met l yX1_addFactor (.code yX1_addFactor cX1_addFactor 7 none :: wsA) ({ frames := 2, cells := 0, slots := 0, locals := 80 }) (va_Pc [.ref h, .int (iI a), .int (iI b), .int (iI k), .int (iI tt)] (fun U => U.heap.size = sz ∧ va_P (dC, dI) vwCl [(h, .inr (1, [.ref n, .ref r, .ref d, .ref f, .int (iI 1), .int (iI cn), .int (iI sp)])), (f, .inl (cF, 4, .inr (.inr (.inr (.inr (q4 y0 y1 y2 y3)))))), (y0, .inr (0, [.int (iI (Fs 0 0)), .int (iI (Fs 0 1)), .int (iI (Fs 0 2)), .int (iI (Fs 0 3)), .int (iI (Fs 0 4)), .int (iI (Fs 0 5))])), (y1, .inr (0, [.int (iI (Fs 1 0)), .int (iI (Fs 1 1)), .int (iI (Fs 1 2)), .int (iI (Fs 1 3)), .int (iI (Fs 1 4)), .int (iI (Fs 1 5))])), (y2, .inr (0, [.int (iI (Fs 2 0)), .int (iI (Fs 2 1)), .int (iI (Fs 2 2)), .int (iI (Fs 2 3)), .int (iI (Fs 2 4)), .int (iI (Fs 2 5))])), (y3, .inr (0, [.int (iI (Fs 3 0)), .int (iI (Fs 3 1)), .int (iI (Fs 3 2)), .int (iI (Fs 3 3)), .int (iI (Fs 3 4)), .int (iI (Fs 3 5))]))] U.heap ∧ va_K (dC, dI) vwCl [(cF, .object RX0)] U ∧ va_D (fun _ => True) [(h, .inr (1, [.ref n, .ref r, .ref d, .ref f, .int (iI 1), .int (iI cn), .int (iI sp)])), (f, .inl (cF, 4, .inr (.inr (.inr (.inr (q4 y0 y1 y2 y3)))))), (y0, .inr (0, [.int (iI (Fs 0 0)), .int (iI (Fs 0 1)), .int (iI (Fs 0 2)), .int (iI (Fs 0 3)), .int (iI (Fs 0 4)), .int (iI (Fs 0 5))])), (y1, .inr (0, [.int (iI (Fs 1 0)), .int (iI (Fs 1 1)), .int (iI (Fs 1 2)), .int (iI (Fs 1 3)), .int (iI (Fs 1 4)), .int (iI (Fs 1 5))])), (y2, .inr (0, [.int (iI (Fs 2 0)), .int (iI (Fs 2 1)), .int (iI (Fs 2 2)), .int (iI (Fs 2 3)), .int (iI (Fs 2 4)), .int (iI (Fs 2 5))])), (y3, .inr (0, [.int (iI (Fs 3 0)), .int (iI (Fs 3 1)), .int (iI (Fs 3 2)), .int (iI (Fs 3 3)), .int (iI (Fs 3 4)), .int (iI (Fs 3 5))]))] ∧ nb U)) (va_Qv (fun u => ∃ pos, insP 1 (nf tt a b k) Fs u.2 pos) (fun (u : (Nat × Nat × Nat × Nat) × (Int → Int → Int)) t9 => va_P (dC, dI) vwCl [(h, .inr (1, [.ref n, .ref r, .ref d, .ref f, .int (iI 2), .int (iI cn), .int (iI sp)])), (f, .inl (cF, 4, .inr (.inr (.inr (.inr (q4 u.1.1 u.1.2.1 u.1.2.2.1 u.1.2.2.2)))))), (u.1.1, .inr (0, fl (u.2 0))), (u.1.2.1, .inr (0, fl (u.2 1))), (u.1.2.2.1, .inr (0, fl (u.2 2))), (u.1.2.2.2, .inr (0, fl (u.2 3)))] t9.heap ∧ va_K (dC, dI) vwCl [(cF, .object RX0)] t9 ∧ va_D (va_A [(h, .inr (1, [.ref n, .ref r, .ref d, .ref f, .int (iI 1), .int (iI cn), .int (iI sp)])), (f, .inl (cF, 4, .inr (.inr (.inr (.inr (q4 y0 y1 y2 y3)))))), (y0, .inr (0, [.int (iI (Fs 0 0)), .int (iI (Fs 0 1)), .int (iI (Fs 0 2)), .int (iI (Fs 0 3)), .int (iI (Fs 0 4)), .int (iI (Fs 0 5))])), (y1, .inr (0, [.int (iI (Fs 1 0)), .int (iI (Fs 1 1)), .int (iI (Fs 1 2)), .int (iI (Fs 1 3)), .int (iI (Fs 1 4)), .int (iI (Fs 1 5))])), (y2, .inr (0, [.int (iI (Fs 2 0)), .int (iI (Fs 2 1)), .int (iI (Fs 2 2)), .int (iI (Fs 2 3)), .int (iI (Fs 2 4)), .int (iI (Fs 2 5))])), (y3, .inr (0, [.int (iI (Fs 3 0)), .int (iI (Fs 3 1)), .int (iI (Fs 3 2)), .int (iI (Fs 3 3)), .int (iI (Fs 3 4)), .int (iI (Fs 3 5))]))] sz) [(h, .inr (1, [.ref n, .ref r, .ref d, .ref f, .int (iI 2), .int (iI cn), .int (iI sp)])), (f, .inl (cF, 4, .inr (.inr (.inr (.inr (q4 u.1.1 u.1.2.1 u.1.2.2.1 u.1.2.2.2)))))), (u.1.1, .inr (0, fl (u.2 0))), (u.1.2.1, .inr (0, fl (u.2 1))), (u.1.2.2.1, .inr (0, fl (u.2 2))), (u.1.2.2.2, .inr (0, fl (u.2 3)))]) (va_A [(h, .inr (1, [.ref n, .ref r, .ref d, .ref f, .int (iI 1), .int (iI cn), .int (iI sp)])), (f, .inl (cF, 4, .inr (.inr (.inr (.inr (q4 y0 y1 y2 y3)))))), (y0, .inr (0, [.int (iI (Fs 0 0)), .int (iI (Fs 0 1)), .int (iI (Fs 0 2)), .int (iI (Fs 0 3)), .int (iI (Fs 0 4)), .int (iI (Fs 0 5))])), (y1, .inr (0, [.int (iI (Fs 1 0)), .int (iI (Fs 1 1)), .int (iI (Fs 1 2)), .int (iI (Fs 1 3)), .int (iI (Fs 1 4)), .int (iI (Fs 1 5))])), (y2, .inr (0, [.int (iI (Fs 2 0)), .int (iI (Fs 2 1)), .int (iI (Fs 2 2)), .int (iI (Fs 2 3)), .int (iI (Fs 2 4)), .int (iI (Fs 2 5))])), (y3, .inr (0, [.int (iI (Fs 3 0)), .int (iI (Fs 3 1)), .int (iI (Fs 3 2)), .int (iI (Fs 3 3)), .int (iI (Fs 3 4)), .int (iI (Fs 3 5))]))] sz)) 0 0 (va_A [(h, .inr (1, [.ref n, .ref r, .ref d, .ref f, .int (iI 1), .int (iI cn), .int (iI sp)])), (f, .inl (cF, 4, .inr (.inr (.inr (.inr (q4 y0 y1 y2 y3)))))), (y0, .inr (0, [.int (iI (Fs 0 0)), .int (iI (Fs 0 1)), .int (iI (Fs 0 2)), .int (iI (Fs 0 3)), .int (iI (Fs 0 4)), .int (iI (Fs 0 5))])), (y1, .inr (0, [.int (iI (Fs 1 0)), .int (iI (Fs 1 1)), .int (iI (Fs 1 2)), .int (iI (Fs 1 3)), .int (iI (Fs 1 4)), .int (iI (Fs 1 5))])), (y2, .inr (0, [.int (iI (Fs 2 0)), .int (iI (Fs 2 1)), .int (iI (Fs 2 2)), .int (iI (Fs 2 3)), .int (iI (Fs 2 4)), .int (iI (Fs 2 5))])), (y3, .inr (0, [.int (iI (Fs 3 0)), .int (iI (Fs 3 1)), .int (iI (Fs 3 2)), .int (iI (Fs 3 3)), .int (iI (Fs 3 4)), .int (iI (Fs 3 5))]))] sz) := by
  refine Met.ofW (cc := cX1_addFactor) (maxL := 7) (ret := none) (by decide) rfl ?_
  intro p e s m args below meth c s₁ B hml hv
  obtain ⟨rfl, hsz, hP, hK, hD0, hnb⟩ := hv
  have hx := B.exec
  have hb := B.bytes
  have hr := B.returns
  have hts := atoms_spec (ws := .code yX1_addFactor cX1_addFactor 7 none :: wsA) B.pre
  have hw : ∀ w ∈ wsA, w.before _ s = true := fun w h => hts w (List.mem_cons_of_mem _ h)
  have hown : s.vm.findClass RX1 = some m.cls := findClass_of_methodNamed B.named
  have hlocks := B.notSynchronized
  subst hsz
  have hD := hD0.self (sz := s.heap.size)
  generalize hAe : va_A [(h, .inr (1, [.ref n, .ref r, .ref d, .ref f, .int (iI 1), .int (iI cn), .int (iI sp)])), (f, .inl (cF, 4, .inr (.inr (.inr (.inr (q4 y0 y1 y2 y3)))))), (y0, .inr (0, [.int (iI (Fs 0 0)), .int (iI (Fs 0 1)), .int (iI (Fs 0 2)), .int (iI (Fs 0 3)), .int (iI (Fs 0 4)), .int (iI (Fs 0 5))])), (y1, .inr (0, [.int (iI (Fs 1 0)), .int (iI (Fs 1 1)), .int (iI (Fs 1 2)), .int (iI (Fs 1 3)), .int (iI (Fs 1 4)), .int (iI (Fs 1 5))])), (y2, .inr (0, [.int (iI (Fs 2 0)), .int (iI (Fs 2 1)), .int (iI (Fs 2 2)), .int (iI (Fs 2 3)), .int (iI (Fs 2 4)), .int (iI (Fs 2 5))])), (y3, .inr (0, [.int (iI (Fs 3 0)), .int (iI (Fs 3 1)), .int (iI (Fs 3 2)), .int (iI (Fs 3 3)), .int (iI (Fs 3 4)), .int (iI (Fs 3 5))]))] s.heap.size = A at hD ⊢
  have hA : ∀ q : Nat, s.heap.size ≤ q → A q := fun q h => by rw [← hAe]; exact Or.inr h
  have hS : va_S A s.heap s.heap [] := va_S.rf
  have hP : va_P (dC, dI) vwCl [(h, .inr (1, [.ref n, .ref r, .ref d, .ref f, .int (iI 1), .int (iI cn), .int (iI sp)])), (f, .inl (cF, 4, .inr (.inr (.inr (.inr (q4 y0 y1 y2 y3)))))), (y0, .inr (0, [.int (iI (Fs 0 0)), .int (iI (Fs 0 1)), .int (iI (Fs 0 2)), .int (iI (Fs 0 3)), .int (iI (Fs 0 4)), .int (iI (Fs 0 5))])), (y1, .inr (0, [.int (iI (Fs 1 0)), .int (iI (Fs 1 1)), .int (iI (Fs 1 2)), .int (iI (Fs 1 3)), .int (iI (Fs 1 4)), .int (iI (Fs 1 5))])), (y2, .inr (0, [.int (iI (Fs 2 0)), .int (iI (Fs 2 1)), .int (iI (Fs 2 2)), .int (iI (Fs 2 3)), .int (iI (Fs 2 4)), .int (iI (Fs 2 5))])), (y3, .inr (0, [.int (iI (Fs 3 0)), .int (iI (Fs 3 1)), .int (iI (Fs 3 2)), .int (iI (Fs 3 3)), .int (iI (Fs 3 4)), .int (iI (Fs 3 5))]))] s.heap := hP
  have hl := lv_entry ([.ref h, .int (iI a), .int (iI b), .int (iI k), .int (iI tt)]) (n := 7) (Nat.le_of_ble_eq_true rfl)
  rw [lg_entry_eq]
  generalize (lg_sl ([.ref h, .int (iI a), .int (iI b), .int (iI k), .int (iI tt)]) ++ List.replicate (7 - (lg_sl ([.ref h, .int (iI a), .int (iI b), .int (iI k), .int (iI tt)])).length) Slot.unset).toArray = ls at hl ⊢
  have hl : lv_has ls 7 [(0, .ref h), (1, .int (iI a)), (2, .int (iI b)), (3, .int (iI k)), (4, .int (iI tt))] := hl
  refine lv_aload_n hx hb dX1_addFactor_0 rfl (lv_at hl 0 rfl) ?_
  refine va_get (D := (dC, dI)) (ci := 1) (v := .int (iI 1)) (C := RX1) (T := TX1) (N := 7) hx hb hw inX1 hown hK hP 0 rfl rfl 4 (by decide) (hw _ mA_57) (fun _ h9 => h9) rfl dX1_addFactor_1 ?_
  refine lv_aload_n hx hb dX1_addFactor_4 rfl (lv_at hl 0 rfl) ?_
  refine va_get (D := (dC, dI)) (ci := 1) (v := .ref f) (C := RX1) (T := TX1) (N := 7) hx hb hw inX1 hown hK hP 0 rfl rfl 3 (by decide) (hw _ mA_56) (fun _ h9 => h9) rfl dX1_addFactor_5 ?_
  refine va_alen (v := iI 4) hx hb hK hP 1 0 rfl rfl rfl dX1_addFactor_8 ?_
  refine ix_icmp_lt (tgt := 13) hx hb dX1_addFactor_9 (by decide) (by decide) (by decide) (fun _ => ?_) (fun c1 => absurd c1 (by decide))
  refine lv_aload_n hx hb dX1_addFactor_13 rfl (lv_at hl 0 rfl) ?_
  refine va_get (D := (dC, dI)) (ci := 1) (v := .ref f) (C := RX1) (T := TX1) (N := 7) hx hb hw inX1 hown hK hP 0 rfl rfl 3 (by decide) (hw _ mA_56) (fun _ h9 => h9) rfl dX1_addFactor_14 ?_
  refine lv_aload_n hx hb dX1_addFactor_17 rfl (lv_at hl 0 rfl) ?_
  refine va_get (D := (dC, dI)) (ci := 1) (v := .int (iI 1)) (C := RX1) (T := TX1) (N := 7) hx hb hw inX1 hown hK hP 0 rfl rfl 4 (by decide) (hw _ mA_57) (fun _ h9 => h9) rfl dX1_addFactor_18 ?_
  refine ix_aald hx hb hK hP 1 0 rfl rfl 1 ck1 (vp_in_iI (by decide) (by decide) (by decide)) rfl dX1_addFactor_21 ?_
  refine lv_astore (lv' := [(5, .ref y1), (0, .ref h), (1, .int (iI a)), (2, .int (iI b)), (3, .int (iI k)), (4, .int (iI tt))]) hx hb dX1_addFactor_22 hl (by decide) rfl (fun ls hl => ?_)
  refine lv_aload hx hb dX1_addFactor_24 (lv_at hl 0 rfl) ?_
  refine lv_iload_n hx hb dX1_addFactor_26 rfl (lv_at hl 2 rfl) ?_
  refine lv_iload_n hx hb dX1_addFactor_27 rfl (lv_at hl 3 rfl) ?_
  refine lv_iload_n hx hb dX1_addFactor_28 rfl (lv_at hl 4 rfl) ?_
  refine lv_iload hx hb dX1_addFactor_29 (lv_at hl 5 rfl) ?_
  have hPc := hP.sub (ws' := [(y1, .inr (0, [.int (iI (Fs 1 0)), .int (iI (Fs 1 1)), .int (iI (Fs 1 2)), .int (iI (Fs 1 3)), .int (iI (Fs 1 4)), .int (iI (Fs 1 5))]))]) [3] rfl
  have hDc := hD.sub (ws' := [(y1, .inr (0, [.int (iI (Fs 1 0)), .int (iI (Fs 1 1)), .int (iI (Fs 1 2)), .int (iI (Fs 1 3)), .int (iI (Fs 1 4)), .int (iI (Fs 1 5))]))]) [3] (by decide) rfl
  have hKc := hK.sub (tys' := []) [] rfl
  have hFc := va_free (wc := [(y1, .inr (0, [.int (iI (Fs 1 0)), .int (iI (Fs 1 1)), .int (iI (Fs 1 2)), .int (iI (Fs 1 3)), .int (iI (Fs 1 4)), .int (iI (Fs 1 5))]))]) hD hS hA [3] rfl
  refine va_callv (va_runVN (As := [.int (iI a), .int (iI b), .int (iI k), .int (iI tt)]) (rest := []) ⟨hx, hb, hml, hown, hw⟩ (kX0_become l dC dI _ y1 (Fs 1) a b k tt ha hu) ⟨va_cnB 4 hw (wsA_sub mA_264) rfl rfl rfl (hnb.1 _ mN_261) (hw _ mA_2) (by decide +kernel) ⟨Nat.le_of_ble_eq_true rfl, Nat.le_of_ble_eq_true rfl⟩, hw _ mA_263, hw _ mP_9⟩ ⟨fun a U g mk q => by obtain ⟨q0, q1, qP, qK, qD, qN⟩ := q; exact ⟨q0, q1, qP, va_K.moved (u := U) (U := U.calling g mk a) (Vm.Alike.refl U.vm) qK, qD, nb.same (u := U) rfl qN⟩, va_recv hKc hPc (ci := 0) (q0 := 0) rfl rfl, fun U hU hW => ⟨rfl, by rw [hU], by rw [hU]; exact hPc, va_K.moved hW.alike hKc, hDc.weaken (fun _ _ _ _ => trivial), nb.warm hW hnb⟩⟩ rfl rfl hl.1 rfl (lv_room (Nat.le_of_ble_eq_true rfl)) dX1_addFactor_31 ⟨Nat.le_of_ble_eq_true rfl, Nat.le_of_ble_eq_true rfl⟩) hS (fun q _ h => hFc q h) hFc (fun u2 t9 H1 locs ht hvm hq3 hB hz1 hk1 hS => ?_)
  obtain ⟨hP1, hK1, hD1⟩ := hB
  rw [ht] at hP1
  have hK1 := va_K.moved hvm.symm hK1
  obtain ⟨hP, hD⟩ := va_join (wr := [(h, .inr (1, [.ref n, .ref r, .ref d, .ref f, .int (iI 1), .int (iI cn), .int (iI sp)])), (f, .inl (cF, 4, .inr (.inr (.inr (.inr (q4 y0 y1 y2 y3)))))), (y0, .inr (0, [.int (iI (Fs 0 0)), .int (iI (Fs 0 1)), .int (iI (Fs 0 2)), .int (iI (Fs 0 3)), .int (iI (Fs 0 4)), .int (iI (Fs 0 5))])), (y2, .inr (0, [.int (iI (Fs 2 0)), .int (iI (Fs 2 1)), .int (iI (Fs 2 2)), .int (iI (Fs 2 3)), .int (iI (Fs 2 4)), .int (iI (Fs 2 5))])), (y3, .inr (0, [.int (iI (Fs 3 0)), .int (iI (Fs 3 1)), .int (iI (Fs 3 2)), .int (iI (Fs 3 3)), .int (iI (Fs 3 4)), .int (iI (Fs 3 5))]))]) (w1 := [(y1, .inr (0, [.int (iI (nf tt a b k 0)), .int (iI (nf tt a b k 1)), .int (iI (nf tt a b k 2)), .int (iI (nf tt a b k 3)), .int (iI (nf tt a b k 4)), .int (iI (nf tt a b k 5))]))]) hP hD [3] [0, 1, 2, 4, 5] rfl rfl (by decide) (by decide) hk1 hFc hP1 hD1
  generalize H1 = H at hP hS ⊢
  have hP := hP.sub (ws' := [(h, .inr (1, [.ref n, .ref r, .ref d, .ref f, .int (iI 1), .int (iI cn), .int (iI sp)])), (f, .inl (cF, 4, .inr (.inr (.inr (.inr (q4 y0 y1 y2 y3)))))), (y0, .inr (0, [.int (iI (Fs 0 0)), .int (iI (Fs 0 1)), .int (iI (Fs 0 2)), .int (iI (Fs 0 3)), .int (iI (Fs 0 4)), .int (iI (Fs 0 5))])), (y1, .inr (0, [.int (iI (nf tt a b k 0)), .int (iI (nf tt a b k 1)), .int (iI (nf tt a b k 2)), .int (iI (nf tt a b k 3)), .int (iI (nf tt a b k 4)), .int (iI (nf tt a b k 5))])), (y2, .inr (0, [.int (iI (Fs 2 0)), .int (iI (Fs 2 1)), .int (iI (Fs 2 2)), .int (iI (Fs 2 3)), .int (iI (Fs 2 4)), .int (iI (Fs 2 5))])), (y3, .inr (0, [.int (iI (Fs 3 0)), .int (iI (Fs 3 1)), .int (iI (Fs 3 2)), .int (iI (Fs 3 3)), .int (iI (Fs 3 4)), .int (iI (Fs 3 5))]))]) [0, 1, 2, 5, 3, 4] rfl
  have hD := hD.sub (ws' := [(h, .inr (1, [.ref n, .ref r, .ref d, .ref f, .int (iI 1), .int (iI cn), .int (iI sp)])), (f, .inl (cF, 4, .inr (.inr (.inr (.inr (q4 y0 y1 y2 y3)))))), (y0, .inr (0, [.int (iI (Fs 0 0)), .int (iI (Fs 0 1)), .int (iI (Fs 0 2)), .int (iI (Fs 0 3)), .int (iI (Fs 0 4)), .int (iI (Fs 0 5))])), (y1, .inr (0, [.int (iI (nf tt a b k 0)), .int (iI (nf tt a b k 1)), .int (iI (nf tt a b k 2)), .int (iI (nf tt a b k 3)), .int (iI (nf tt a b k 4)), .int (iI (nf tt a b k 5))])), (y2, .inr (0, [.int (iI (Fs 2 0)), .int (iI (Fs 2 1)), .int (iI (Fs 2 2)), .int (iI (Fs 2 3)), .int (iI (Fs 2 4)), .int (iI (Fs 2 5))])), (y3, .inr (0, [.int (iI (Fs 3 0)), .int (iI (Fs 3 1)), .int (iI (Fs 3 2)), .int (iI (Fs 3 3)), .int (iI (Fs 3 4)), .int (iI (Fs 3 5))]))]) [0, 1, 2, 5, 3, 4] (by decide) rfl
  refine lv_aload_n hx hb dX1_addFactor_34 rfl (lv_at hl 1 rfl) ?_
  refine va_get (D := (dC, dI)) (ci := 1) (v := .int (iI 1)) (C := RX1) (T := TX1) (N := 7) hx hb hw inX1 hown hK hP 0 rfl rfl 4 (by decide) (hw _ mA_57) (fun _ h9 => h9) rfl dX1_addFactor_35 ?_
  refine lv_istore (lv' := [(6, .int (iI 1)), (5, .ref y1), (0, .ref h), (1, .int (iI a)), (2, .int (iI b)), (3, .int (iI k)), (4, .int (iI tt))]) hx hb dX1_addFactor_38 hl (by decide) rfl (fun ls hl => ?_)
  refine lv_iload hx hb dX1_addFactor_40 (lv_at hl 0 rfl) ?_
  refine ix_if_le (tgt := 84) hx hb dX1_addFactor_42 (by decide) (by decide) (fun c5 => absurd c5 (by decide)) (fun _ => ?_)
  refine lv_aload hx hb dX1_addFactor_45 (lv_at hl 1 rfl) ?_
  refine lv_aload_n hx hb dX1_addFactor_47 rfl (lv_at hl 2 rfl) ?_
  refine va_get (D := (dC, dI)) (ci := 1) (v := .ref f) (C := RX1) (T := TX1) (N := 7) hx hb hw inX1 hown hK hP 0 rfl rfl 3 (by decide) (hw _ mA_56) (fun _ h9 => h9) rfl dX1_addFactor_48 ?_
  refine lv_iload hx hb dX1_addFactor_51 (lv_at hl 0 rfl) ?_
  refine ix_iconst (n := 1) hx hb dX1_addFactor_53 ?_
  refine ix_isub hx hb dX1_addFactor_54 ?_
  refine ix_z (y := 0) rfl ?_
  refine ix_aald hx hb hK hP 1 0 rfl rfl 0 ck0 (vp_in_iI (by decide) (by decide) (by decide)) rfl dX1_addFactor_55 ?_
  have hPc := hP.sub (ws' := [(y1, .inr (0, [.int (iI (nf tt a b k 0)), .int (iI (nf tt a b k 1)), .int (iI (nf tt a b k 2)), .int (iI (nf tt a b k 3)), .int (iI (nf tt a b k 4)), .int (iI (nf tt a b k 5))])), (y0, .inr (0, [.int (iI (Fs 0 0)), .int (iI (Fs 0 1)), .int (iI (Fs 0 2)), .int (iI (Fs 0 3)), .int (iI (Fs 0 4)), .int (iI (Fs 0 5))]))]) [3, 2] rfl
  have hKc := hK.sub (tys' := []) [] rfl
  refine vp_callSi (va_Run.run (va_runVN (As := [.ref y0]) (rest := []) ⟨hx, hb, hml, hown, hw⟩ (kX0_standsBefore l dC dI y1 y0 (nf tt a b k) (Fs 0) hX.1 (hF _).1 (fbd_m hX (hF _)) (fbd_m (hF _) hX)) ⟨va_cnB 1 hw (wsA_sub mA_271) rfl rfl rfl (hnb.1 _ mN_268) (hw _ mA_2) (by decide +kernel) ⟨Nat.le_of_ble_eq_true rfl, Nat.le_of_ble_eq_true rfl⟩, hw _ mA_270, hw _ mP_10⟩ ⟨fun a U g mk q => by obtain ⟨q0, qP, qK⟩ := q; exact ⟨q0, qP, va_K.moved (u := U) (U := U.calling g mk a) (Vm.Alike.refl U.vm) qK⟩, va_recv hKc hPc (ci := 0) (q0 := 0) rfl rfl, fun U hU hW => ⟨rfl, by rw [hU]; exact hPc, va_K.moved hW.alike hKc⟩⟩ rfl rfl hl.1 rfl (lv_room (Nat.le_of_ble_eq_true rfl)) dX1_addFactor_56 ⟨Nat.le_of_ble_eq_true rfl, Nat.le_of_ble_eq_true rfl⟩)) (fun r6 h7 => ?_)
  subst h7
  refine ix_if_eq (tgt := 84) hx hb dX1_addFactor_59 (by decide) (before_r _ _) (fun c8 => ?_) (fun c8 => ?_)
  · refine lv_aload_n hx hb dX1_addFactor_84 rfl (lv_at hl 2 rfl) ?_
    refine va_get (D := (dC, dI)) (ci := 1) (v := .ref f) (C := RX1) (T := TX1) (N := 7) hx hb hw inX1 hown hK hP 0 rfl rfl 3 (by decide) (hw _ mA_56) (fun _ h9 => h9) rfl dX1_addFactor_85 ?_
    refine lv_iload hx hb dX1_addFactor_88 (lv_at hl 0 rfl) ?_
    refine lv_aload hx hb dX1_addFactor_90 (lv_at hl 1 rfl) ?_
    refine ix_aast hx hb hK hP hD hS 1 0 3 0 rfl rfl rfl rfl 1 ck1 (vp_in_iI (by decide) (by decide) (by decide)) (q4_u1 y0 y1 y2 y3 y1) dX1_addFactor_92 (fun H locs hP hD hS => ?_)
    have hP : va_P (dC, dI) vwCl [(h, .inr (1, [.ref n, .ref r, .ref d, .ref f, .int (iI 1), .int (iI cn), .int (iI sp)])), (f, .inl (cF, 4, .inr (.inr (.inr (.inr (q4 y0 y1 y2 y3)))))), (y0, .inr (0, [.int (iI (Fs 0 0)), .int (iI (Fs 0 1)), .int (iI (Fs 0 2)), .int (iI (Fs 0 3)), .int (iI (Fs 0 4)), .int (iI (Fs 0 5))])), (y1, .inr (0, [.int (iI (nf tt a b k 0)), .int (iI (nf tt a b k 1)), .int (iI (nf tt a b k 2)), .int (iI (nf tt a b k 3)), .int (iI (nf tt a b k 4)), .int (iI (nf tt a b k 5))])), (y2, .inr (0, [.int (iI (Fs 2 0)), .int (iI (Fs 2 1)), .int (iI (Fs 2 2)), .int (iI (Fs 2 3)), .int (iI (Fs 2 4)), .int (iI (Fs 2 5))])), (y3, .inr (0, [.int (iI (Fs 3 0)), .int (iI (Fs 3 1)), .int (iI (Fs 3 2)), .int (iI (Fs 3 3)), .int (iI (Fs 3 4)), .int (iI (Fs 3 5))]))] H := hP
    have hD : va_D A [(h, .inr (1, [.ref n, .ref r, .ref d, .ref f, .int (iI 1), .int (iI cn), .int (iI sp)])), (f, .inl (cF, 4, .inr (.inr (.inr (.inr (q4 y0 y1 y2 y3)))))), (y0, .inr (0, [.int (iI (Fs 0 0)), .int (iI (Fs 0 1)), .int (iI (Fs 0 2)), .int (iI (Fs 0 3)), .int (iI (Fs 0 4)), .int (iI (Fs 0 5))])), (y1, .inr (0, [.int (iI (nf tt a b k 0)), .int (iI (nf tt a b k 1)), .int (iI (nf tt a b k 2)), .int (iI (nf tt a b k 3)), .int (iI (nf tt a b k 4)), .int (iI (nf tt a b k 5))])), (y2, .inr (0, [.int (iI (Fs 2 0)), .int (iI (Fs 2 1)), .int (iI (Fs 2 2)), .int (iI (Fs 2 3)), .int (iI (Fs 2 4)), .int (iI (Fs 2 5))])), (y3, .inr (0, [.int (iI (Fs 3 0)), .int (iI (Fs 3 1)), .int (iI (Fs 3 2)), .int (iI (Fs 3 3)), .int (iI (Fs 3 4)), .int (iI (Fs 3 5))]))] := hD
    refine lv_aload_n hx hb dX1_addFactor_93 rfl (lv_at hl 2 rfl) ?_
    refine lv_dup hx hb dX1_addFactor_94 rfl ?_
    refine va_get (D := (dC, dI)) (ci := 1) (v := .int (iI 1)) (C := RX1) (T := TX1) (N := 7) hx hb hw inX1 hown hK hP 0 rfl rfl 4 (by decide) (hw _ mA_57) (fun _ h9 => h9) rfl dX1_addFactor_95 ?_
    refine ix_iconst (n := 1) hx hb dX1_addFactor_98 ?_
    refine ix_iadd hx hb dX1_addFactor_99 ?_
    refine ix_z (y := 2) rfl ?_
    refine va_put (D := (dC, dI)) (ci := 1) (v := .int (iI 2)) (ty := .int) (C := RX1) (T := TX1) (N := 7) hx hb hw inX1 tyX1 tyX1_ok nmX1 hown hK hP hD hS 0 rfl rfl 4 (by decide) (hw _ mA_57) (fun _ h9 => h9) rfl (by decide +kernel) rfl rfl (Nat.le_of_ble_eq_true rfl) dX1_addFactor_100 (fun H locs hP hD hS => ?_)
    have hP : va_P (dC, dI) vwCl [(h, .inr (1, [.ref n, .ref r, .ref d, .ref f, .int (iI 2), .int (iI cn), .int (iI sp)])), (f, .inl (cF, 4, .inr (.inr (.inr (.inr (q4 y0 y1 y2 y3)))))), (y0, .inr (0, [.int (iI (Fs 0 0)), .int (iI (Fs 0 1)), .int (iI (Fs 0 2)), .int (iI (Fs 0 3)), .int (iI (Fs 0 4)), .int (iI (Fs 0 5))])), (y1, .inr (0, [.int (iI (nf tt a b k 0)), .int (iI (nf tt a b k 1)), .int (iI (nf tt a b k 2)), .int (iI (nf tt a b k 3)), .int (iI (nf tt a b k 4)), .int (iI (nf tt a b k 5))])), (y2, .inr (0, [.int (iI (Fs 2 0)), .int (iI (Fs 2 1)), .int (iI (Fs 2 2)), .int (iI (Fs 2 3)), .int (iI (Fs 2 4)), .int (iI (Fs 2 5))])), (y3, .inr (0, [.int (iI (Fs 3 0)), .int (iI (Fs 3 1)), .int (iI (Fs 3 2)), .int (iI (Fs 3 3)), .int (iI (Fs 3 4)), .int (iI (Fs 3 5))]))] H := hP
    have hD : va_D A [(h, .inr (1, [.ref n, .ref r, .ref d, .ref f, .int (iI 2), .int (iI cn), .int (iI sp)])), (f, .inl (cF, 4, .inr (.inr (.inr (.inr (q4 y0 y1 y2 y3)))))), (y0, .inr (0, [.int (iI (Fs 0 0)), .int (iI (Fs 0 1)), .int (iI (Fs 0 2)), .int (iI (Fs 0 3)), .int (iI (Fs 0 4)), .int (iI (Fs 0 5))])), (y1, .inr (0, [.int (iI (nf tt a b k 0)), .int (iI (nf tt a b k 1)), .int (iI (nf tt a b k 2)), .int (iI (nf tt a b k 3)), .int (iI (nf tt a b k 4)), .int (iI (nf tt a b k 5))])), (y2, .inr (0, [.int (iI (Fs 2 0)), .int (iI (Fs 2 1)), .int (iI (Fs 2 2)), .int (iI (Fs 2 3)), .int (iI (Fs 2 4)), .int (iI (Fs 2 5))])), (y3, .inr (0, [.int (iI (Fs 3 0)), .int (iI (Fs 3 1)), .int (iI (Fs 3 2)), .int (iI (Fs 3 3)), .int (iI (Fs 3 4)), .int (iI (Fs 3 5))]))] := hD
    have hpost : insP 1 (nf tt a b k) Fs (g4 (Fs 0) (nf tt a b k) (Fs 2) (Fs 3)) 1 := by
      refine ⟨by omega, by omega, rfl, ?_, ?_, ?_, ?_⟩
      · intro i h1 h2
        rcases (show i = 0 by omega) with rfl
        · rfl
      · intro i h1 h2; omega
      · intro i h1 h2; omega
      · intro _; exact c8
    have hP9 := hP.sub (ws' := [(h, .inr (1, [.ref n, .ref r, .ref d, .ref f, .int (iI 2), .int (iI cn), .int (iI sp)])), (f, .inl (cF, 4, .inr (.inr (.inr (.inr (q4 y0 y1 y2 y3)))))), (y0, .inr (0, fl (g4 (Fs 0) (nf tt a b k) (Fs 2) (Fs 3) 0))), (y1, .inr (0, fl (g4 (Fs 0) (nf tt a b k) (Fs 2) (Fs 3) 1))), (y2, .inr (0, fl (g4 (Fs 0) (nf tt a b k) (Fs 2) (Fs 3) 2))), (y3, .inr (0, fl (g4 (Fs 0) (nf tt a b k) (Fs 2) (Fs 3) 3)))]) [0, 1, 2, 3, 4, 5] rfl
    have hD9 := hD.sub (ws' := [(h, .inr (1, [.ref n, .ref r, .ref d, .ref f, .int (iI 2), .int (iI cn), .int (iI sp)])), (f, .inl (cF, 4, .inr (.inr (.inr (.inr (q4 y0 y1 y2 y3)))))), (y0, .inr (0, fl (g4 (Fs 0) (nf tt a b k) (Fs 2) (Fs 3) 0))), (y1, .inr (0, fl (g4 (Fs 0) (nf tt a b k) (Fs 2) (Fs 3) 1))), (y2, .inr (0, fl (g4 (Fs 0) (nf tt a b k) (Fs 2) (Fs 3) 2))), (y3, .inr (0, fl (g4 (Fs 0) (nf tt a b k) (Fs 2) (Fs 3) 3)))]) [0, 1, 2, 3, 4, 5] (by decide) rfl
    have hK9 := hK.sub (tys' := [(cF, .object RX0)]) [0] rfl
    exact W.vret hx hb hr (fun t ht hW => ⟨⟨((y0, y1, y2, y3), g4 (Fs 0) (nf tt a b k) (Fs 2) (Fs 3)), rfl, ⟨_, hpost⟩, by rw [ht]; exact hP9, va_K.moved hW.alike hK9, hD9⟩, hS.F ht⟩) hS.2.2 dX1_addFactor_103
  · refine lv_aload_n hx hb dX1_addFactor_62 rfl (lv_at hl 2 rfl) ?_
    refine va_get (D := (dC, dI)) (ci := 1) (v := .ref f) (C := RX1) (T := TX1) (N := 7) hx hb hw inX1 hown hK hP 0 rfl rfl 3 (by decide) (hw _ mA_56) (fun _ h9 => h9) rfl dX1_addFactor_63 ?_
    refine lv_iload hx hb dX1_addFactor_66 (lv_at hl 0 rfl) ?_
    refine lv_aload_n hx hb dX1_addFactor_68 rfl (lv_at hl 2 rfl) ?_
    refine va_get (D := (dC, dI)) (ci := 1) (v := .ref f) (C := RX1) (T := TX1) (N := 7) hx hb hw inX1 hown hK hP 0 rfl rfl 3 (by decide) (hw _ mA_56) (fun _ h9 => h9) rfl dX1_addFactor_69 ?_
    refine lv_iload hx hb dX1_addFactor_72 (lv_at hl 0 rfl) ?_
    refine ix_iconst (n := 1) hx hb dX1_addFactor_74 ?_
    refine ix_isub hx hb dX1_addFactor_75 ?_
    refine ix_z (y := 0) rfl ?_
    refine ix_aald hx hb hK hP 1 0 rfl rfl 0 ck0 (vp_in_iI (by decide) (by decide) (by decide)) rfl dX1_addFactor_76 ?_
    refine ix_aast hx hb hK hP hD hS 1 0 2 0 rfl rfl rfl rfl 1 ck1 (vp_in_iI (by decide) (by decide) (by decide)) (q4_u1 y0 y1 y2 y3 y0) dX1_addFactor_77 (fun H locs hP hD hS => ?_)
    have hP : va_P (dC, dI) vwCl [(h, .inr (1, [.ref n, .ref r, .ref d, .ref f, .int (iI 1), .int (iI cn), .int (iI sp)])), (f, .inl (cF, 4, .inr (.inr (.inr (.inr (q4 y0 y0 y2 y3)))))), (y0, .inr (0, [.int (iI (Fs 0 0)), .int (iI (Fs 0 1)), .int (iI (Fs 0 2)), .int (iI (Fs 0 3)), .int (iI (Fs 0 4)), .int (iI (Fs 0 5))])), (y1, .inr (0, [.int (iI (nf tt a b k 0)), .int (iI (nf tt a b k 1)), .int (iI (nf tt a b k 2)), .int (iI (nf tt a b k 3)), .int (iI (nf tt a b k 4)), .int (iI (nf tt a b k 5))])), (y2, .inr (0, [.int (iI (Fs 2 0)), .int (iI (Fs 2 1)), .int (iI (Fs 2 2)), .int (iI (Fs 2 3)), .int (iI (Fs 2 4)), .int (iI (Fs 2 5))])), (y3, .inr (0, [.int (iI (Fs 3 0)), .int (iI (Fs 3 1)), .int (iI (Fs 3 2)), .int (iI (Fs 3 3)), .int (iI (Fs 3 4)), .int (iI (Fs 3 5))]))] H := hP
    have hD : va_D A [(h, .inr (1, [.ref n, .ref r, .ref d, .ref f, .int (iI 1), .int (iI cn), .int (iI sp)])), (f, .inl (cF, 4, .inr (.inr (.inr (.inr (q4 y0 y0 y2 y3)))))), (y0, .inr (0, [.int (iI (Fs 0 0)), .int (iI (Fs 0 1)), .int (iI (Fs 0 2)), .int (iI (Fs 0 3)), .int (iI (Fs 0 4)), .int (iI (Fs 0 5))])), (y1, .inr (0, [.int (iI (nf tt a b k 0)), .int (iI (nf tt a b k 1)), .int (iI (nf tt a b k 2)), .int (iI (nf tt a b k 3)), .int (iI (nf tt a b k 4)), .int (iI (nf tt a b k 5))])), (y2, .inr (0, [.int (iI (Fs 2 0)), .int (iI (Fs 2 1)), .int (iI (Fs 2 2)), .int (iI (Fs 2 3)), .int (iI (Fs 2 4)), .int (iI (Fs 2 5))])), (y3, .inr (0, [.int (iI (Fs 3 0)), .int (iI (Fs 3 1)), .int (iI (Fs 3 2)), .int (iI (Fs 3 3)), .int (iI (Fs 3 4)), .int (iI (Fs 3 5))]))] := hD
    refine ix_iinc (k := 0) (lv2 := [(6, .int (iI 0)), (5, .ref y1), (0, .ref h), (1, .int (iI a)), (2, .int (iI b)), (3, .int (iI k)), (4, .int (iI tt))]) hx hb dX1_addFactor_78 hl rfl (by decide) rfl (fun ls hl => ?_)
    refine lv_goto (tgt := 40) hx hb dX1_addFactor_81 (by decide) ?_
    refine lv_iload hx hb dX1_addFactor_40 (lv_at hl 0 rfl) ?_
    refine ix_if_le (tgt := 84) hx hb dX1_addFactor_42 (by decide) (by decide) (fun _ => ?_) (fun c9 => absurd c9 (by decide))
    refine lv_aload_n hx hb dX1_addFactor_84 rfl (lv_at hl 2 rfl) ?_
    refine va_get (D := (dC, dI)) (ci := 1) (v := .ref f) (C := RX1) (T := TX1) (N := 7) hx hb hw inX1 hown hK hP 0 rfl rfl 3 (by decide) (hw _ mA_56) (fun _ h9 => h9) rfl dX1_addFactor_85 ?_
    refine lv_iload hx hb dX1_addFactor_88 (lv_at hl 0 rfl) ?_
    refine lv_aload hx hb dX1_addFactor_90 (lv_at hl 1 rfl) ?_
    refine ix_aast hx hb hK hP hD hS 1 0 3 0 rfl rfl rfl rfl 0 ck0 (vp_in_iI (by decide) (by decide) (by decide)) (q4_u0 y0 y0 y2 y3 y1) dX1_addFactor_92 (fun H locs hP hD hS => ?_)
    have hP : va_P (dC, dI) vwCl [(h, .inr (1, [.ref n, .ref r, .ref d, .ref f, .int (iI 1), .int (iI cn), .int (iI sp)])), (f, .inl (cF, 4, .inr (.inr (.inr (.inr (q4 y1 y0 y2 y3)))))), (y0, .inr (0, [.int (iI (Fs 0 0)), .int (iI (Fs 0 1)), .int (iI (Fs 0 2)), .int (iI (Fs 0 3)), .int (iI (Fs 0 4)), .int (iI (Fs 0 5))])), (y1, .inr (0, [.int (iI (nf tt a b k 0)), .int (iI (nf tt a b k 1)), .int (iI (nf tt a b k 2)), .int (iI (nf tt a b k 3)), .int (iI (nf tt a b k 4)), .int (iI (nf tt a b k 5))])), (y2, .inr (0, [.int (iI (Fs 2 0)), .int (iI (Fs 2 1)), .int (iI (Fs 2 2)), .int (iI (Fs 2 3)), .int (iI (Fs 2 4)), .int (iI (Fs 2 5))])), (y3, .inr (0, [.int (iI (Fs 3 0)), .int (iI (Fs 3 1)), .int (iI (Fs 3 2)), .int (iI (Fs 3 3)), .int (iI (Fs 3 4)), .int (iI (Fs 3 5))]))] H := hP
    have hD : va_D A [(h, .inr (1, [.ref n, .ref r, .ref d, .ref f, .int (iI 1), .int (iI cn), .int (iI sp)])), (f, .inl (cF, 4, .inr (.inr (.inr (.inr (q4 y1 y0 y2 y3)))))), (y0, .inr (0, [.int (iI (Fs 0 0)), .int (iI (Fs 0 1)), .int (iI (Fs 0 2)), .int (iI (Fs 0 3)), .int (iI (Fs 0 4)), .int (iI (Fs 0 5))])), (y1, .inr (0, [.int (iI (nf tt a b k 0)), .int (iI (nf tt a b k 1)), .int (iI (nf tt a b k 2)), .int (iI (nf tt a b k 3)), .int (iI (nf tt a b k 4)), .int (iI (nf tt a b k 5))])), (y2, .inr (0, [.int (iI (Fs 2 0)), .int (iI (Fs 2 1)), .int (iI (Fs 2 2)), .int (iI (Fs 2 3)), .int (iI (Fs 2 4)), .int (iI (Fs 2 5))])), (y3, .inr (0, [.int (iI (Fs 3 0)), .int (iI (Fs 3 1)), .int (iI (Fs 3 2)), .int (iI (Fs 3 3)), .int (iI (Fs 3 4)), .int (iI (Fs 3 5))]))] := hD
    refine lv_aload_n hx hb dX1_addFactor_93 rfl (lv_at hl 2 rfl) ?_
    refine lv_dup hx hb dX1_addFactor_94 rfl ?_
    refine va_get (D := (dC, dI)) (ci := 1) (v := .int (iI 1)) (C := RX1) (T := TX1) (N := 7) hx hb hw inX1 hown hK hP 0 rfl rfl 4 (by decide) (hw _ mA_57) (fun _ h9 => h9) rfl dX1_addFactor_95 ?_
    refine ix_iconst (n := 1) hx hb dX1_addFactor_98 ?_
    refine ix_iadd hx hb dX1_addFactor_99 ?_
    refine ix_z (y := 2) rfl ?_
    refine va_put (D := (dC, dI)) (ci := 1) (v := .int (iI 2)) (ty := .int) (C := RX1) (T := TX1) (N := 7) hx hb hw inX1 tyX1 tyX1_ok nmX1 hown hK hP hD hS 0 rfl rfl 4 (by decide) (hw _ mA_57) (fun _ h9 => h9) rfl (by decide +kernel) rfl rfl (Nat.le_of_ble_eq_true rfl) dX1_addFactor_100 (fun H locs hP hD hS => ?_)
    have hP : va_P (dC, dI) vwCl [(h, .inr (1, [.ref n, .ref r, .ref d, .ref f, .int (iI 2), .int (iI cn), .int (iI sp)])), (f, .inl (cF, 4, .inr (.inr (.inr (.inr (q4 y1 y0 y2 y3)))))), (y0, .inr (0, [.int (iI (Fs 0 0)), .int (iI (Fs 0 1)), .int (iI (Fs 0 2)), .int (iI (Fs 0 3)), .int (iI (Fs 0 4)), .int (iI (Fs 0 5))])), (y1, .inr (0, [.int (iI (nf tt a b k 0)), .int (iI (nf tt a b k 1)), .int (iI (nf tt a b k 2)), .int (iI (nf tt a b k 3)), .int (iI (nf tt a b k 4)), .int (iI (nf tt a b k 5))])), (y2, .inr (0, [.int (iI (Fs 2 0)), .int (iI (Fs 2 1)), .int (iI (Fs 2 2)), .int (iI (Fs 2 3)), .int (iI (Fs 2 4)), .int (iI (Fs 2 5))])), (y3, .inr (0, [.int (iI (Fs 3 0)), .int (iI (Fs 3 1)), .int (iI (Fs 3 2)), .int (iI (Fs 3 3)), .int (iI (Fs 3 4)), .int (iI (Fs 3 5))]))] H := hP
    have hD : va_D A [(h, .inr (1, [.ref n, .ref r, .ref d, .ref f, .int (iI 2), .int (iI cn), .int (iI sp)])), (f, .inl (cF, 4, .inr (.inr (.inr (.inr (q4 y1 y0 y2 y3)))))), (y0, .inr (0, [.int (iI (Fs 0 0)), .int (iI (Fs 0 1)), .int (iI (Fs 0 2)), .int (iI (Fs 0 3)), .int (iI (Fs 0 4)), .int (iI (Fs 0 5))])), (y1, .inr (0, [.int (iI (nf tt a b k 0)), .int (iI (nf tt a b k 1)), .int (iI (nf tt a b k 2)), .int (iI (nf tt a b k 3)), .int (iI (nf tt a b k 4)), .int (iI (nf tt a b k 5))])), (y2, .inr (0, [.int (iI (Fs 2 0)), .int (iI (Fs 2 1)), .int (iI (Fs 2 2)), .int (iI (Fs 2 3)), .int (iI (Fs 2 4)), .int (iI (Fs 2 5))])), (y3, .inr (0, [.int (iI (Fs 3 0)), .int (iI (Fs 3 1)), .int (iI (Fs 3 2)), .int (iI (Fs 3 3)), .int (iI (Fs 3 4)), .int (iI (Fs 3 5))]))] := hD
    have hpost : insP 1 (nf tt a b k) Fs (g4 (nf tt a b k) (Fs 0) (Fs 2) (Fs 3)) 0 := by
      refine ⟨by omega, by omega, rfl, ?_, ?_, ?_, ?_⟩
      · intro i h1 h2; omega
      · intro i h1 h2
        rcases (show i = 0 by omega) with rfl
        · rfl
      · intro i h1 h2
        rcases (show i = 0 by omega) with rfl
        · exact before_1 c8
      · intro h; omega
    have hP9 := hP.sub (ws' := [(h, .inr (1, [.ref n, .ref r, .ref d, .ref f, .int (iI 2), .int (iI cn), .int (iI sp)])), (f, .inl (cF, 4, .inr (.inr (.inr (.inr (q4 y1 y0 y2 y3)))))), (y1, .inr (0, fl (g4 (nf tt a b k) (Fs 0) (Fs 2) (Fs 3) 0))), (y0, .inr (0, fl (g4 (nf tt a b k) (Fs 0) (Fs 2) (Fs 3) 1))), (y2, .inr (0, fl (g4 (nf tt a b k) (Fs 0) (Fs 2) (Fs 3) 2))), (y3, .inr (0, fl (g4 (nf tt a b k) (Fs 0) (Fs 2) (Fs 3) 3)))]) [0, 1, 3, 2, 4, 5] rfl
    have hD9 := hD.sub (ws' := [(h, .inr (1, [.ref n, .ref r, .ref d, .ref f, .int (iI 2), .int (iI cn), .int (iI sp)])), (f, .inl (cF, 4, .inr (.inr (.inr (.inr (q4 y1 y0 y2 y3)))))), (y1, .inr (0, fl (g4 (nf tt a b k) (Fs 0) (Fs 2) (Fs 3) 0))), (y0, .inr (0, fl (g4 (nf tt a b k) (Fs 0) (Fs 2) (Fs 3) 1))), (y2, .inr (0, fl (g4 (nf tt a b k) (Fs 0) (Fs 2) (Fs 3) 2))), (y3, .inr (0, fl (g4 (nf tt a b k) (Fs 0) (Fs 2) (Fs 3) 3)))]) [0, 1, 3, 2, 4, 5] (by decide) rfl
    have hK9 := hK.sub (tys' := [(cF, .object RX0)]) [0] rfl
    exact W.vret hx hb hr (fun t ht hW => ⟨⟨((y1, y0, y2, y3), g4 (nf tt a b k) (Fs 0) (Fs 2) (Fs 3)), rfl, ⟨_, hpost⟩, by rw [ht]; exact hP9, va_K.moved hW.alike hK9, hD9⟩, hS.F ht⟩) hS.2.2 dX1_addFactor_103
set_option maxHeartbeats 4000000 in
set_option maxRecDepth 100000 in
/-- addFactor, 2 being found -/
theorem kX1_addFactor_2 (l : Launch) (dC : Nat → ClassId) (dI : Nat → Nat → Nat) (sz : Nat) (h n r d f y0 y1 y2 y3 : Nat) (cF : ClassId) (cn sp : Int) (Fs : Int → Int → Int) (a b k tt : Int) (ha : r32 a) (hu : -1002000 ≤ f_und a b k ∧ f_und a b k ≤ 1002000) (hX : fbd (nf tt a b k)) (hF : ∀ i, fbd (Fs i)) : Met l yX1_addFactor (.code yX1_addFactor cX1_addFactor 7 none :: wsA) ({ frames := 2, cells := 0, slots := 0, locals := 80 }) (va_Pc [.ref h, .int (iI a), .int (iI b), .int (iI k), .int (iI tt)] (fun U => U.heap.size = sz ∧ va_P (dC, dI) vwCl [(h, .inr (1, [.ref n, .ref r, .ref d, .ref f, .int (iI 2), .int (iI cn), .int (iI sp)])), (f, .inl (cF, 4, .inr (.inr (.inr (.inr (q4 y0 y1 y2 y3)))))), (y0, .inr (0, [.int (iI (Fs 0 0)), .int (iI (Fs 0 1)), .int (iI (Fs 0 2)), .int (iI (Fs 0 3)), .int (iI (Fs 0 4)), .int (iI (Fs 0 5))])), (y1, .inr (0, [.int (iI (Fs 1 0)), .int (iI (Fs 1 1)), .int (iI (Fs 1 2)), .int (iI (Fs 1 3)), .int (iI (Fs 1 4)), .int (iI (Fs 1 5))])), (y2, .inr (0, [.int (iI (Fs 2 0)), .int (iI (Fs 2 1)), .int (iI (Fs 2 2)), .int (iI (Fs 2 3)), .int (iI (Fs 2 4)), .int (iI (Fs 2 5))])), (y3, .inr (0, [.int (iI (Fs 3 0)), .int (iI (Fs 3 1)), .int (iI (Fs 3 2)), .int (iI (Fs 3 3)), .int (iI (Fs 3 4)), .int (iI (Fs 3 5))]))] U.heap ∧ va_K (dC, dI) vwCl [(cF, .object RX0)] U ∧ va_D (fun _ => True) [(h, .inr (1, [.ref n, .ref r, .ref d, .ref f, .int (iI 2), .int (iI cn), .int (iI sp)])), (f, .inl (cF, 4, .inr (.inr (.inr (.inr (q4 y0 y1 y2 y3)))))), (y0, .inr (0, [.int (iI (Fs 0 0)), .int (iI (Fs 0 1)), .int (iI (Fs 0 2)), .int (iI (Fs 0 3)), .int (iI (Fs 0 4)), .int (iI (Fs 0 5))])), (y1, .inr (0, [.int (iI (Fs 1 0)), .int (iI (Fs 1 1)), .int (iI (Fs 1 2)), .int (iI (Fs 1 3)), .int (iI (Fs 1 4)), .int (iI (Fs 1 5))])), (y2, .inr (0, [.int (iI (Fs 2 0)), .int (iI (Fs 2 1)), .int (iI (Fs 2 2)), .int (iI (Fs 2 3)), .int (iI (Fs 2 4)), .int (iI (Fs 2 5))])), (y3, .inr (0, [.int (iI (Fs 3 0)), .int (iI (Fs 3 1)), .int (iI (Fs 3 2)), .int (iI (Fs 3 3)), .int (iI (Fs 3 4)), .int (iI (Fs 3 5))]))] ∧ nb U)) (va_Qv (fun u => ∃ pos, insP 2 (nf tt a b k) Fs u.2 pos) (fun (u : (Nat × Nat × Nat × Nat) × (Int → Int → Int)) t9 => va_P (dC, dI) vwCl [(h, .inr (1, [.ref n, .ref r, .ref d, .ref f, .int (iI 3), .int (iI cn), .int (iI sp)])), (f, .inl (cF, 4, .inr (.inr (.inr (.inr (q4 u.1.1 u.1.2.1 u.1.2.2.1 u.1.2.2.2)))))), (u.1.1, .inr (0, fl (u.2 0))), (u.1.2.1, .inr (0, fl (u.2 1))), (u.1.2.2.1, .inr (0, fl (u.2 2))), (u.1.2.2.2, .inr (0, fl (u.2 3)))] t9.heap ∧ va_K (dC, dI) vwCl [(cF, .object RX0)] t9 ∧ va_D (va_A [(h, .inr (1, [.ref n, .ref r, .ref d, .ref f, .int (iI 2), .int (iI cn), .int (iI sp)])), (f, .inl (cF, 4, .inr (.inr (.inr (.inr (q4 y0 y1 y2 y3)))))), (y0, .inr (0, [.int (iI (Fs 0 0)), .int (iI (Fs 0 1)), .int (iI (Fs 0 2)), .int (iI (Fs 0 3)), .int (iI (Fs 0 4)), .int (iI (Fs 0 5))])), (y1, .inr (0, [.int (iI (Fs 1 0)), .int (iI (Fs 1 1)), .int (iI (Fs 1 2)), .int (iI (Fs 1 3)), .int (iI (Fs 1 4)), .int (iI (Fs 1 5))])), (y2, .inr (0, [.int (iI (Fs 2 0)), .int (iI (Fs 2 1)), .int (iI (Fs 2 2)), .int (iI (Fs 2 3)), .int (iI (Fs 2 4)), .int (iI (Fs 2 5))])), (y3, .inr (0, [.int (iI (Fs 3 0)), .int (iI (Fs 3 1)), .int (iI (Fs 3 2)), .int (iI (Fs 3 3)), .int (iI (Fs 3 4)), .int (iI (Fs 3 5))]))] sz) [(h, .inr (1, [.ref n, .ref r, .ref d, .ref f, .int (iI 3), .int (iI cn), .int (iI sp)])), (f, .inl (cF, 4, .inr (.inr (.inr (.inr (q4 u.1.1 u.1.2.1 u.1.2.2.1 u.1.2.2.2)))))), (u.1.1, .inr (0, fl (u.2 0))), (u.1.2.1, .inr (0, fl (u.2 1))), (u.1.2.2.1, .inr (0, fl (u.2 2))), (u.1.2.2.2, .inr (0, fl (u.2 3)))]) (va_A [(h, .inr (1, [.ref n, .ref r, .ref d, .ref f, .int (iI 2), .int (iI cn), .int (iI sp)])), (f, .inl (cF, 4, .inr (.inr (.inr (.inr (q4 y0 y1 y2 y3)))))), (y0, .inr (0, [.int (iI (Fs 0 0)), .int (iI (Fs 0 1)), .int (iI (Fs 0 2)), .int (iI (Fs 0 3)), .int (iI (Fs 0 4)), .int (iI (Fs 0 5))])), (y1, .inr (0, [.int (iI (Fs 1 0)), .int (iI (Fs 1 1)), .int (iI (Fs 1 2)), .int (iI (Fs 1 3)), .int (iI (Fs 1 4)), .int (iI (Fs 1 5))])), (y2, .inr (0, [.int (iI (Fs 2 0)), .int (iI (Fs 2 1)), .int (iI (Fs 2 2)), .int (iI (Fs 2 3)), .int (iI (Fs 2 4)), .int (iI (Fs 2 5))])), (y3, .inr (0, [.int (iI (Fs 3 0)), .int (iI (Fs 3 1)), .int (iI (Fs 3 2)), .int (iI (Fs 3 3)), .int (iI (Fs 3 4)), .int (iI (Fs 3 5))]))] sz)) 0 0 (va_A [(h, .inr (1, [.ref n, .ref r, .ref d, .ref f, .int (iI 2), .int (iI cn), .int (iI sp)])), (f, .inl (cF, 4, .inr (.inr (.inr (.inr (q4 y0 y1 y2 y3)))))), (y0, .inr (0, [.int (iI (Fs 0 0)), .int (iI (Fs 0 1)), .int (iI (Fs 0 2)), .int (iI (Fs 0 3)), .int (iI (Fs 0 4)), .int (iI (Fs 0 5))])), (y1, .inr (0, [.int (iI (Fs 1 0)), .int (iI (Fs 1 1)), .int (iI (Fs 1 2)), .int (iI (Fs 1 3)), .int (iI (Fs 1 4)), .int (iI (Fs 1 5))])), (y2, .inr (0, [.int (iI (Fs 2 0)), .int (iI (Fs 2 1)), .int (iI (Fs 2 2)), .int (iI (Fs 2 3)), .int (iI (Fs 2 4)), .int (iI (Fs 2 5))])), (y3, .inr (0, [.int (iI (Fs 3 0)), .int (iI (Fs 3 1)), .int (iI (Fs 3 2)), .int (iI (Fs 3 3)), .int (iI (Fs 3 4)), .int (iI (Fs 3 5))]))] sz) := by
  refine Met.ofW (cc := cX1_addFactor) (maxL := 7) (ret := none) (by decide) rfl ?_
  intro p e s m args below meth c s₁ B hml hv
  obtain ⟨rfl, hsz, hP, hK, hD0, hnb⟩ := hv
  have hx := B.exec
  have hb := B.bytes
  have hr := B.returns
  have hts := atoms_spec (ws := .code yX1_addFactor cX1_addFactor 7 none :: wsA) B.pre
  have hw : ∀ w ∈ wsA, w.before _ s = true := fun w h => hts w (List.mem_cons_of_mem _ h)
  have hown : s.vm.findClass RX1 = some m.cls := findClass_of_methodNamed B.named
  have hlocks := B.notSynchronized
  subst hsz
  have hD := hD0.self (sz := s.heap.size)
  generalize hAe : va_A [(h, .inr (1, [.ref n, .ref r, .ref d, .ref f, .int (iI 2), .int (iI cn), .int (iI sp)])), (f, .inl (cF, 4, .inr (.inr (.inr (.inr (q4 y0 y1 y2 y3)))))), (y0, .inr (0, [.int (iI (Fs 0 0)), .int (iI (Fs 0 1)), .int (iI (Fs 0 2)), .int (iI (Fs 0 3)), .int (iI (Fs 0 4)), .int (iI (Fs 0 5))])), (y1, .inr (0, [.int (iI (Fs 1 0)), .int (iI (Fs 1 1)), .int (iI (Fs 1 2)), .int (iI (Fs 1 3)), .int (iI (Fs 1 4)), .int (iI (Fs 1 5))])), (y2, .inr (0, [.int (iI (Fs 2 0)), .int (iI (Fs 2 1)), .int (iI (Fs 2 2)), .int (iI (Fs 2 3)), .int (iI (Fs 2 4)), .int (iI (Fs 2 5))])), (y3, .inr (0, [.int (iI (Fs 3 0)), .int (iI (Fs 3 1)), .int (iI (Fs 3 2)), .int (iI (Fs 3 3)), .int (iI (Fs 3 4)), .int (iI (Fs 3 5))]))] s.heap.size = A at hD ⊢
  have hA : ∀ q : Nat, s.heap.size ≤ q → A q := fun q h => by rw [← hAe]; exact Or.inr h
  have hS : va_S A s.heap s.heap [] := va_S.rf
  have hP : va_P (dC, dI) vwCl [(h, .inr (1, [.ref n, .ref r, .ref d, .ref f, .int (iI 2), .int (iI cn), .int (iI sp)])), (f, .inl (cF, 4, .inr (.inr (.inr (.inr (q4 y0 y1 y2 y3)))))), (y0, .inr (0, [.int (iI (Fs 0 0)), .int (iI (Fs 0 1)), .int (iI (Fs 0 2)), .int (iI (Fs 0 3)), .int (iI (Fs 0 4)), .int (iI (Fs 0 5))])), (y1, .inr (0, [.int (iI (Fs 1 0)), .int (iI (Fs 1 1)), .int (iI (Fs 1 2)), .int (iI (Fs 1 3)), .int (iI (Fs 1 4)), .int (iI (Fs 1 5))])), (y2, .inr (0, [.int (iI (Fs 2 0)), .int (iI (Fs 2 1)), .int (iI (Fs 2 2)), .int (iI (Fs 2 3)), .int (iI (Fs 2 4)), .int (iI (Fs 2 5))])), (y3, .inr (0, [.int (iI (Fs 3 0)), .int (iI (Fs 3 1)), .int (iI (Fs 3 2)), .int (iI (Fs 3 3)), .int (iI (Fs 3 4)), .int (iI (Fs 3 5))]))] s.heap := hP
  have hl := lv_entry ([.ref h, .int (iI a), .int (iI b), .int (iI k), .int (iI tt)]) (n := 7) (Nat.le_of_ble_eq_true rfl)
  rw [lg_entry_eq]
  generalize (lg_sl ([.ref h, .int (iI a), .int (iI b), .int (iI k), .int (iI tt)]) ++ List.replicate (7 - (lg_sl ([.ref h, .int (iI a), .int (iI b), .int (iI k), .int (iI tt)])).length) Slot.unset).toArray = ls at hl ⊢
  have hl : lv_has ls 7 [(0, .ref h), (1, .int (iI a)), (2, .int (iI b)), (3, .int (iI k)), (4, .int (iI tt))] := hl
  refine lv_aload_n hx hb dX1_addFactor_0 rfl (lv_at hl 0 rfl) ?_
  refine va_get (D := (dC, dI)) (ci := 1) (v := .int (iI 2)) (C := RX1) (T := TX1) (N := 7) hx hb hw inX1 hown hK hP 0 rfl rfl 4 (by decide) (hw _ mA_57) (fun _ h9 => h9) rfl dX1_addFactor_1 ?_
  refine lv_aload_n hx hb dX1_addFactor_4 rfl (lv_at hl 0 rfl) ?_
  refine va_get (D := (dC, dI)) (ci := 1) (v := .ref f) (C := RX1) (T := TX1) (N := 7) hx hb hw inX1 hown hK hP 0 rfl rfl 3 (by decide) (hw _ mA_56) (fun _ h9 => h9) rfl dX1_addFactor_5 ?_
  refine va_alen (v := iI 4) hx hb hK hP 1 0 rfl rfl rfl dX1_addFactor_8 ?_
  refine ix_icmp_lt (tgt := 13) hx hb dX1_addFactor_9 (by decide) (by decide) (by decide) (fun _ => ?_) (fun c1 => absurd c1 (by decide))
  refine lv_aload_n hx hb dX1_addFactor_13 rfl (lv_at hl 0 rfl) ?_
  refine va_get (D := (dC, dI)) (ci := 1) (v := .ref f) (C := RX1) (T := TX1) (N := 7) hx hb hw inX1 hown hK hP 0 rfl rfl 3 (by decide) (hw _ mA_56) (fun _ h9 => h9) rfl dX1_addFactor_14 ?_
  refine lv_aload_n hx hb dX1_addFactor_17 rfl (lv_at hl 0 rfl) ?_
  refine va_get (D := (dC, dI)) (ci := 1) (v := .int (iI 2)) (C := RX1) (T := TX1) (N := 7) hx hb hw inX1 hown hK hP 0 rfl rfl 4 (by decide) (hw _ mA_57) (fun _ h9 => h9) rfl dX1_addFactor_18 ?_
  refine ix_aald hx hb hK hP 1 0 rfl rfl 2 ck2 (vp_in_iI (by decide) (by decide) (by decide)) rfl dX1_addFactor_21 ?_
  refine lv_astore (lv' := [(5, .ref y2), (0, .ref h), (1, .int (iI a)), (2, .int (iI b)), (3, .int (iI k)), (4, .int (iI tt))]) hx hb dX1_addFactor_22 hl (by decide) rfl (fun ls hl => ?_)
  refine lv_aload hx hb dX1_addFactor_24 (lv_at hl 0 rfl) ?_
  refine lv_iload_n hx hb dX1_addFactor_26 rfl (lv_at hl 2 rfl) ?_
  refine lv_iload_n hx hb dX1_addFactor_27 rfl (lv_at hl 3 rfl) ?_
  refine lv_iload_n hx hb dX1_addFactor_28 rfl (lv_at hl 4 rfl) ?_
  refine lv_iload hx hb dX1_addFactor_29 (lv_at hl 5 rfl) ?_
  have hPc := hP.sub (ws' := [(y2, .inr (0, [.int (iI (Fs 2 0)), .int (iI (Fs 2 1)), .int (iI (Fs 2 2)), .int (iI (Fs 2 3)), .int (iI (Fs 2 4)), .int (iI (Fs 2 5))]))]) [4] rfl
  have hDc := hD.sub (ws' := [(y2, .inr (0, [.int (iI (Fs 2 0)), .int (iI (Fs 2 1)), .int (iI (Fs 2 2)), .int (iI (Fs 2 3)), .int (iI (Fs 2 4)), .int (iI (Fs 2 5))]))]) [4] (by decide) rfl
  have hKc := hK.sub (tys' := []) [] rfl
  have hFc := va_free (wc := [(y2, .inr (0, [.int (iI (Fs 2 0)), .int (iI (Fs 2 1)), .int (iI (Fs 2 2)), .int (iI (Fs 2 3)), .int (iI (Fs 2 4)), .int (iI (Fs 2 5))]))]) hD hS hA [4] rfl
  refine va_callv (va_runVN (As := [.int (iI a), .int (iI b), .int (iI k), .int (iI tt)]) (rest := []) ⟨hx, hb, hml, hown, hw⟩ (kX0_become l dC dI _ y2 (Fs 2) a b k tt ha hu) ⟨va_cnB 4 hw (wsA_sub mA_264) rfl rfl rfl (hnb.1 _ mN_261) (hw _ mA_2) (by decide +kernel) ⟨Nat.le_of_ble_eq_true rfl, Nat.le_of_ble_eq_true rfl⟩, hw _ mA_263, hw _ mP_9⟩ ⟨fun a U g mk q => by obtain ⟨q0, q1, qP, qK, qD, qN⟩ := q; exact ⟨q0, q1, qP, va_K.moved (u := U) (U := U.calling g mk a) (Vm.Alike.refl U.vm) qK, qD, nb.same (u := U) rfl qN⟩, va_recv hKc hPc (ci := 0) (q0 := 0) rfl rfl, fun U hU hW => ⟨rfl, by rw [hU], by rw [hU]; exact hPc, va_K.moved hW.alike hKc, hDc.weaken (fun _ _ _ _ => trivial), nb.warm hW hnb⟩⟩ rfl rfl hl.1 rfl (lv_room (Nat.le_of_ble_eq_true rfl)) dX1_addFactor_31 ⟨Nat.le_of_ble_eq_true rfl, Nat.le_of_ble_eq_true rfl⟩) hS (fun q _ h => hFc q h) hFc (fun u2 t9 H1 locs ht hvm hq3 hB hz1 hk1 hS => ?_)
  obtain ⟨hP1, hK1, hD1⟩ := hB
  rw [ht] at hP1
  have hK1 := va_K.moved hvm.symm hK1
  obtain ⟨hP, hD⟩ := va_join (wr := [(h, .inr (1, [.ref n, .ref r, .ref d, .ref f, .int (iI 2), .int (iI cn), .int (iI sp)])), (f, .inl (cF, 4, .inr (.inr (.inr (.inr (q4 y0 y1 y2 y3)))))), (y0, .inr (0, [.int (iI (Fs 0 0)), .int (iI (Fs 0 1)), .int (iI (Fs 0 2)), .int (iI (Fs 0 3)), .int (iI (Fs 0 4)), .int (iI (Fs 0 5))])), (y1, .inr (0, [.int (iI (Fs 1 0)), .int (iI (Fs 1 1)), .int (iI (Fs 1 2)), .int (iI (Fs 1 3)), .int (iI (Fs 1 4)), .int (iI (Fs 1 5))])), (y3, .inr (0, [.int (iI (Fs 3 0)), .int (iI (Fs 3 1)), .int (iI (Fs 3 2)), .int (iI (Fs 3 3)), .int (iI (Fs 3 4)), .int (iI (Fs 3 5))]))]) (w1 := [(y2, .inr (0, [.int (iI (nf tt a b k 0)), .int (iI (nf tt a b k 1)), .int (iI (nf tt a b k 2)), .int (iI (nf tt a b k 3)), .int (iI (nf tt a b k 4)), .int (iI (nf tt a b k 5))]))]) hP hD [4] [0, 1, 2, 3, 5] rfl rfl (by decide) (by decide) hk1 hFc hP1 hD1
  generalize H1 = H at hP hS ⊢
  have hP := hP.sub (ws' := [(h, .inr (1, [.ref n, .ref r, .ref d, .ref f, .int (iI 2), .int (iI cn), .int (iI sp)])), (f, .inl (cF, 4, .inr (.inr (.inr (.inr (q4 y0 y1 y2 y3)))))), (y0, .inr (0, [.int (iI (Fs 0 0)), .int (iI (Fs 0 1)), .int (iI (Fs 0 2)), .int (iI (Fs 0 3)), .int (iI (Fs 0 4)), .int (iI (Fs 0 5))])), (y1, .inr (0, [.int (iI (Fs 1 0)), .int (iI (Fs 1 1)), .int (iI (Fs 1 2)), .int (iI (Fs 1 3)), .int (iI (Fs 1 4)), .int (iI (Fs 1 5))])), (y2, .inr (0, [.int (iI (nf tt a b k 0)), .int (iI (nf tt a b k 1)), .int (iI (nf tt a b k 2)), .int (iI (nf tt a b k 3)), .int (iI (nf tt a b k 4)), .int (iI (nf tt a b k 5))])), (y3, .inr (0, [.int (iI (Fs 3 0)), .int (iI (Fs 3 1)), .int (iI (Fs 3 2)), .int (iI (Fs 3 3)), .int (iI (Fs 3 4)), .int (iI (Fs 3 5))]))]) [0, 1, 2, 3, 5, 4] rfl
  have hD := hD.sub (ws' := [(h, .inr (1, [.ref n, .ref r, .ref d, .ref f, .int (iI 2), .int (iI cn), .int (iI sp)])), (f, .inl (cF, 4, .inr (.inr (.inr (.inr (q4 y0 y1 y2 y3)))))), (y0, .inr (0, [.int (iI (Fs 0 0)), .int (iI (Fs 0 1)), .int (iI (Fs 0 2)), .int (iI (Fs 0 3)), .int (iI (Fs 0 4)), .int (iI (Fs 0 5))])), (y1, .inr (0, [.int (iI (Fs 1 0)), .int (iI (Fs 1 1)), .int (iI (Fs 1 2)), .int (iI (Fs 1 3)), .int (iI (Fs 1 4)), .int (iI (Fs 1 5))])), (y2, .inr (0, [.int (iI (nf tt a b k 0)), .int (iI (nf tt a b k 1)), .int (iI (nf tt a b k 2)), .int (iI (nf tt a b k 3)), .int (iI (nf tt a b k 4)), .int (iI (nf tt a b k 5))])), (y3, .inr (0, [.int (iI (Fs 3 0)), .int (iI (Fs 3 1)), .int (iI (Fs 3 2)), .int (iI (Fs 3 3)), .int (iI (Fs 3 4)), .int (iI (Fs 3 5))]))]) [0, 1, 2, 3, 5, 4] (by decide) rfl
  refine lv_aload_n hx hb dX1_addFactor_34 rfl (lv_at hl 1 rfl) ?_
  refine va_get (D := (dC, dI)) (ci := 1) (v := .int (iI 2)) (C := RX1) (T := TX1) (N := 7) hx hb hw inX1 hown hK hP 0 rfl rfl 4 (by decide) (hw _ mA_57) (fun _ h9 => h9) rfl dX1_addFactor_35 ?_
  refine lv_istore (lv' := [(6, .int (iI 2)), (5, .ref y2), (0, .ref h), (1, .int (iI a)), (2, .int (iI b)), (3, .int (iI k)), (4, .int (iI tt))]) hx hb dX1_addFactor_38 hl (by decide) rfl (fun ls hl => ?_)
  refine lv_iload hx hb dX1_addFactor_40 (lv_at hl 0 rfl) ?_
  refine ix_if_le (tgt := 84) hx hb dX1_addFactor_42 (by decide) (by decide) (fun c5 => absurd c5 (by decide)) (fun _ => ?_)
  refine lv_aload hx hb dX1_addFactor_45 (lv_at hl 1 rfl) ?_
  refine lv_aload_n hx hb dX1_addFactor_47 rfl (lv_at hl 2 rfl) ?_
  refine va_get (D := (dC, dI)) (ci := 1) (v := .ref f) (C := RX1) (T := TX1) (N := 7) hx hb hw inX1 hown hK hP 0 rfl rfl 3 (by decide) (hw _ mA_56) (fun _ h9 => h9) rfl dX1_addFactor_48 ?_
  refine lv_iload hx hb dX1_addFactor_51 (lv_at hl 0 rfl) ?_
  refine ix_iconst (n := 1) hx hb dX1_addFactor_53 ?_
  refine ix_isub hx hb dX1_addFactor_54 ?_
  refine ix_z (y := 1) rfl ?_
  refine ix_aald hx hb hK hP 1 0 rfl rfl 1 ck1 (vp_in_iI (by decide) (by decide) (by decide)) rfl dX1_addFactor_55 ?_
  have hPc := hP.sub (ws' := [(y2, .inr (0, [.int (iI (nf tt a b k 0)), .int (iI (nf tt a b k 1)), .int (iI (nf tt a b k 2)), .int (iI (nf tt a b k 3)), .int (iI (nf tt a b k 4)), .int (iI (nf tt a b k 5))])), (y1, .inr (0, [.int (iI (Fs 1 0)), .int (iI (Fs 1 1)), .int (iI (Fs 1 2)), .int (iI (Fs 1 3)), .int (iI (Fs 1 4)), .int (iI (Fs 1 5))]))]) [4, 3] rfl
  have hKc := hK.sub (tys' := []) [] rfl
  refine vp_callSi (va_Run.run (va_runVN (As := [.ref y1]) (rest := []) ⟨hx, hb, hml, hown, hw⟩ (kX0_standsBefore l dC dI y2 y1 (nf tt a b k) (Fs 1) hX.1 (hF _).1 (fbd_m hX (hF _)) (fbd_m (hF _) hX)) ⟨va_cnB 1 hw (wsA_sub mA_271) rfl rfl rfl (hnb.1 _ mN_268) (hw _ mA_2) (by decide +kernel) ⟨Nat.le_of_ble_eq_true rfl, Nat.le_of_ble_eq_true rfl⟩, hw _ mA_270, hw _ mP_10⟩ ⟨fun a U g mk q => by obtain ⟨q0, qP, qK⟩ := q; exact ⟨q0, qP, va_K.moved (u := U) (U := U.calling g mk a) (Vm.Alike.refl U.vm) qK⟩, va_recv hKc hPc (ci := 0) (q0 := 0) rfl rfl, fun U hU hW => ⟨rfl, by rw [hU]; exact hPc, va_K.moved hW.alike hKc⟩⟩ rfl rfl hl.1 rfl (lv_room (Nat.le_of_ble_eq_true rfl)) dX1_addFactor_56 ⟨Nat.le_of_ble_eq_true rfl, Nat.le_of_ble_eq_true rfl⟩)) (fun r6 h7 => ?_)
  subst h7
  refine ix_if_eq (tgt := 84) hx hb dX1_addFactor_59 (by decide) (before_r _ _) (fun c8 => ?_) (fun c8 => ?_)
  · refine lv_aload_n hx hb dX1_addFactor_84 rfl (lv_at hl 2 rfl) ?_
    refine va_get (D := (dC, dI)) (ci := 1) (v := .ref f) (C := RX1) (T := TX1) (N := 7) hx hb hw inX1 hown hK hP 0 rfl rfl 3 (by decide) (hw _ mA_56) (fun _ h9 => h9) rfl dX1_addFactor_85 ?_
    refine lv_iload hx hb dX1_addFactor_88 (lv_at hl 0 rfl) ?_
    refine lv_aload hx hb dX1_addFactor_90 (lv_at hl 1 rfl) ?_
    refine ix_aast hx hb hK hP hD hS 1 0 4 0 rfl rfl rfl rfl 2 ck2 (vp_in_iI (by decide) (by decide) (by decide)) (q4_u2 y0 y1 y2 y3 y2) dX1_addFactor_92 (fun H locs hP hD hS => ?_)
    have hP : va_P (dC, dI) vwCl [(h, .inr (1, [.ref n, .ref r, .ref d, .ref f, .int (iI 2), .int (iI cn), .int (iI sp)])), (f, .inl (cF, 4, .inr (.inr (.inr (.inr (q4 y0 y1 y2 y3)))))), (y0, .inr (0, [.int (iI (Fs 0 0)), .int (iI (Fs 0 1)), .int (iI (Fs 0 2)), .int (iI (Fs 0 3)), .int (iI (Fs 0 4)), .int (iI (Fs 0 5))])), (y1, .inr (0, [.int (iI (Fs 1 0)), .int (iI (Fs 1 1)), .int (iI (Fs 1 2)), .int (iI (Fs 1 3)), .int (iI (Fs 1 4)), .int (iI (Fs 1 5))])), (y2, .inr (0, [.int (iI (nf tt a b k 0)), .int (iI (nf tt a b k 1)), .int (iI (nf tt a b k 2)), .int (iI (nf tt a b k 3)), .int (iI (nf tt a b k 4)), .int (iI (nf tt a b k 5))])), (y3, .inr (0, [.int (iI (Fs 3 0)), .int (iI (Fs 3 1)), .int (iI (Fs 3 2)), .int (iI (Fs 3 3)), .int (iI (Fs 3 4)), .int (iI (Fs 3 5))]))] H := hP
    have hD : va_D A [(h, .inr (1, [.ref n, .ref r, .ref d, .ref f, .int (iI 2), .int (iI cn), .int (iI sp)])), (f, .inl (cF, 4, .inr (.inr (.inr (.inr (q4 y0 y1 y2 y3)))))), (y0, .inr (0, [.int (iI (Fs 0 0)), .int (iI (Fs 0 1)), .int (iI (Fs 0 2)), .int (iI (Fs 0 3)), .int (iI (Fs 0 4)), .int (iI (Fs 0 5))])), (y1, .inr (0, [.int (iI (Fs 1 0)), .int (iI (Fs 1 1)), .int (iI (Fs 1 2)), .int (iI (Fs 1 3)), .int (iI (Fs 1 4)), .int (iI (Fs 1 5))])), (y2, .inr (0, [.int (iI (nf tt a b k 0)), .int (iI (nf tt a b k 1)), .int (iI (nf tt a b k 2)), .int (iI (nf tt a b k 3)), .int (iI (nf tt a b k 4)), .int (iI (nf tt a b k 5))])), (y3, .inr (0, [.int (iI (Fs 3 0)), .int (iI (Fs 3 1)), .int (iI (Fs 3 2)), .int (iI (Fs 3 3)), .int (iI (Fs 3 4)), .int (iI (Fs 3 5))]))] := hD
    refine lv_aload_n hx hb dX1_addFactor_93 rfl (lv_at hl 2 rfl) ?_
    refine lv_dup hx hb dX1_addFactor_94 rfl ?_
    refine va_get (D := (dC, dI)) (ci := 1) (v := .int (iI 2)) (C := RX1) (T := TX1) (N := 7) hx hb hw inX1 hown hK hP 0 rfl rfl 4 (by decide) (hw _ mA_57) (fun _ h9 => h9) rfl dX1_addFactor_95 ?_
    refine ix_iconst (n := 1) hx hb dX1_addFactor_98 ?_
    refine ix_iadd hx hb dX1_addFactor_99 ?_
    refine ix_z (y := 3) rfl ?_
    refine va_put (D := (dC, dI)) (ci := 1) (v := .int (iI 3)) (ty := .int) (C := RX1) (T := TX1) (N := 7) hx hb hw inX1 tyX1 tyX1_ok nmX1 hown hK hP hD hS 0 rfl rfl 4 (by decide) (hw _ mA_57) (fun _ h9 => h9) rfl (by decide +kernel) rfl rfl (Nat.le_of_ble_eq_true rfl) dX1_addFactor_100 (fun H locs hP hD hS => ?_)
    have hP : va_P (dC, dI) vwCl [(h, .inr (1, [.ref n, .ref r, .ref d, .ref f, .int (iI 3), .int (iI cn), .int (iI sp)])), (f, .inl (cF, 4, .inr (.inr (.inr (.inr (q4 y0 y1 y2 y3)))))), (y0, .inr (0, [.int (iI (Fs 0 0)), .int (iI (Fs 0 1)), .int (iI (Fs 0 2)), .int (iI (Fs 0 3)), .int (iI (Fs 0 4)), .int (iI (Fs 0 5))])), (y1, .inr (0, [.int (iI (Fs 1 0)), .int (iI (Fs 1 1)), .int (iI (Fs 1 2)), .int (iI (Fs 1 3)), .int (iI (Fs 1 4)), .int (iI (Fs 1 5))])), (y2, .inr (0, [.int (iI (nf tt a b k 0)), .int (iI (nf tt a b k 1)), .int (iI (nf tt a b k 2)), .int (iI (nf tt a b k 3)), .int (iI (nf tt a b k 4)), .int (iI (nf tt a b k 5))])), (y3, .inr (0, [.int (iI (Fs 3 0)), .int (iI (Fs 3 1)), .int (iI (Fs 3 2)), .int (iI (Fs 3 3)), .int (iI (Fs 3 4)), .int (iI (Fs 3 5))]))] H := hP
    have hD : va_D A [(h, .inr (1, [.ref n, .ref r, .ref d, .ref f, .int (iI 3), .int (iI cn), .int (iI sp)])), (f, .inl (cF, 4, .inr (.inr (.inr (.inr (q4 y0 y1 y2 y3)))))), (y0, .inr (0, [.int (iI (Fs 0 0)), .int (iI (Fs 0 1)), .int (iI (Fs 0 2)), .int (iI (Fs 0 3)), .int (iI (Fs 0 4)), .int (iI (Fs 0 5))])), (y1, .inr (0, [.int (iI (Fs 1 0)), .int (iI (Fs 1 1)), .int (iI (Fs 1 2)), .int (iI (Fs 1 3)), .int (iI (Fs 1 4)), .int (iI (Fs 1 5))])), (y2, .inr (0, [.int (iI (nf tt a b k 0)), .int (iI (nf tt a b k 1)), .int (iI (nf tt a b k 2)), .int (iI (nf tt a b k 3)), .int (iI (nf tt a b k 4)), .int (iI (nf tt a b k 5))])), (y3, .inr (0, [.int (iI (Fs 3 0)), .int (iI (Fs 3 1)), .int (iI (Fs 3 2)), .int (iI (Fs 3 3)), .int (iI (Fs 3 4)), .int (iI (Fs 3 5))]))] := hD
    have hpost : insP 2 (nf tt a b k) Fs (g4 (Fs 0) (Fs 1) (nf tt a b k) (Fs 3)) 2 := by
      refine ⟨by omega, by omega, rfl, ?_, ?_, ?_, ?_⟩
      · intro i h1 h2
        rcases (show i = 0 ∨ i = 1 by omega) with rfl | rfl
        · rfl
        · rfl
      · intro i h1 h2; omega
      · intro i h1 h2; omega
      · intro _; exact c8
    have hP9 := hP.sub (ws' := [(h, .inr (1, [.ref n, .ref r, .ref d, .ref f, .int (iI 3), .int (iI cn), .int (iI sp)])), (f, .inl (cF, 4, .inr (.inr (.inr (.inr (q4 y0 y1 y2 y3)))))), (y0, .inr (0, fl (g4 (Fs 0) (Fs 1) (nf tt a b k) (Fs 3) 0))), (y1, .inr (0, fl (g4 (Fs 0) (Fs 1) (nf tt a b k) (Fs 3) 1))), (y2, .inr (0, fl (g4 (Fs 0) (Fs 1) (nf tt a b k) (Fs 3) 2))), (y3, .inr (0, fl (g4 (Fs 0) (Fs 1) (nf tt a b k) (Fs 3) 3)))]) [0, 1, 2, 3, 4, 5] rfl
    have hD9 := hD.sub (ws' := [(h, .inr (1, [.ref n, .ref r, .ref d, .ref f, .int (iI 3), .int (iI cn), .int (iI sp)])), (f, .inl (cF, 4, .inr (.inr (.inr (.inr (q4 y0 y1 y2 y3)))))), (y0, .inr (0, fl (g4 (Fs 0) (Fs 1) (nf tt a b k) (Fs 3) 0))), (y1, .inr (0, fl (g4 (Fs 0) (Fs 1) (nf tt a b k) (Fs 3) 1))), (y2, .inr (0, fl (g4 (Fs 0) (Fs 1) (nf tt a b k) (Fs 3) 2))), (y3, .inr (0, fl (g4 (Fs 0) (Fs 1) (nf tt a b k) (Fs 3) 3)))]) [0, 1, 2, 3, 4, 5] (by decide) rfl
    have hK9 := hK.sub (tys' := [(cF, .object RX0)]) [0] rfl
    exact W.vret hx hb hr (fun t ht hW => ⟨⟨((y0, y1, y2, y3), g4 (Fs 0) (Fs 1) (nf tt a b k) (Fs 3)), rfl, ⟨_, hpost⟩, by rw [ht]; exact hP9, va_K.moved hW.alike hK9, hD9⟩, hS.F ht⟩) hS.2.2 dX1_addFactor_103
  · refine lv_aload_n hx hb dX1_addFactor_62 rfl (lv_at hl 2 rfl) ?_
    refine va_get (D := (dC, dI)) (ci := 1) (v := .ref f) (C := RX1) (T := TX1) (N := 7) hx hb hw inX1 hown hK hP 0 rfl rfl 3 (by decide) (hw _ mA_56) (fun _ h9 => h9) rfl dX1_addFactor_63 ?_
    refine lv_iload hx hb dX1_addFactor_66 (lv_at hl 0 rfl) ?_
    refine lv_aload_n hx hb dX1_addFactor_68 rfl (lv_at hl 2 rfl) ?_
    refine va_get (D := (dC, dI)) (ci := 1) (v := .ref f) (C := RX1) (T := TX1) (N := 7) hx hb hw inX1 hown hK hP 0 rfl rfl 3 (by decide) (hw _ mA_56) (fun _ h9 => h9) rfl dX1_addFactor_69 ?_
    refine lv_iload hx hb dX1_addFactor_72 (lv_at hl 0 rfl) ?_
    refine ix_iconst (n := 1) hx hb dX1_addFactor_74 ?_
    refine ix_isub hx hb dX1_addFactor_75 ?_
    refine ix_z (y := 1) rfl ?_
    refine ix_aald hx hb hK hP 1 0 rfl rfl 1 ck1 (vp_in_iI (by decide) (by decide) (by decide)) rfl dX1_addFactor_76 ?_
    refine ix_aast hx hb hK hP hD hS 1 0 3 0 rfl rfl rfl rfl 2 ck2 (vp_in_iI (by decide) (by decide) (by decide)) (q4_u2 y0 y1 y2 y3 y1) dX1_addFactor_77 (fun H locs hP hD hS => ?_)
    have hP : va_P (dC, dI) vwCl [(h, .inr (1, [.ref n, .ref r, .ref d, .ref f, .int (iI 2), .int (iI cn), .int (iI sp)])), (f, .inl (cF, 4, .inr (.inr (.inr (.inr (q4 y0 y1 y1 y3)))))), (y0, .inr (0, [.int (iI (Fs 0 0)), .int (iI (Fs 0 1)), .int (iI (Fs 0 2)), .int (iI (Fs 0 3)), .int (iI (Fs 0 4)), .int (iI (Fs 0 5))])), (y1, .inr (0, [.int (iI (Fs 1 0)), .int (iI (Fs 1 1)), .int (iI (Fs 1 2)), .int (iI (Fs 1 3)), .int (iI (Fs 1 4)), .int (iI (Fs 1 5))])), (y2, .inr (0, [.int (iI (nf tt a b k 0)), .int (iI (nf tt a b k 1)), .int (iI (nf tt a b k 2)), .int (iI (nf tt a b k 3)), .int (iI (nf tt a b k 4)), .int (iI (nf tt a b k 5))])), (y3, .inr (0, [.int (iI (Fs 3 0)), .int (iI (Fs 3 1)), .int (iI (Fs 3 2)), .int (iI (Fs 3 3)), .int (iI (Fs 3 4)), .int (iI (Fs 3 5))]))] H := hP
    have hD : va_D A [(h, .inr (1, [.ref n, .ref r, .ref d, .ref f, .int (iI 2), .int (iI cn), .int (iI sp)])), (f, .inl (cF, 4, .inr (.inr (.inr (.inr (q4 y0 y1 y1 y3)))))), (y0, .inr (0, [.int (iI (Fs 0 0)), .int (iI (Fs 0 1)), .int (iI (Fs 0 2)), .int (iI (Fs 0 3)), .int (iI (Fs 0 4)), .int (iI (Fs 0 5))])), (y1, .inr (0, [.int (iI (Fs 1 0)), .int (iI (Fs 1 1)), .int (iI (Fs 1 2)), .int (iI (Fs 1 3)), .int (iI (Fs 1 4)), .int (iI (Fs 1 5))])), (y2, .inr (0, [.int (iI (nf tt a b k 0)), .int (iI (nf tt a b k 1)), .int (iI (nf tt a b k 2)), .int (iI (nf tt a b k 3)), .int (iI (nf tt a b k 4)), .int (iI (nf tt a b k 5))])), (y3, .inr (0, [.int (iI (Fs 3 0)), .int (iI (Fs 3 1)), .int (iI (Fs 3 2)), .int (iI (Fs 3 3)), .int (iI (Fs 3 4)), .int (iI (Fs 3 5))]))] := hD
    refine ix_iinc (k := 0) (lv2 := [(6, .int (iI 1)), (5, .ref y2), (0, .ref h), (1, .int (iI a)), (2, .int (iI b)), (3, .int (iI k)), (4, .int (iI tt))]) hx hb dX1_addFactor_78 hl rfl (by decide) rfl (fun ls hl => ?_)
    refine lv_goto (tgt := 40) hx hb dX1_addFactor_81 (by decide) ?_
    refine lv_iload hx hb dX1_addFactor_40 (lv_at hl 0 rfl) ?_
    refine ix_if_le (tgt := 84) hx hb dX1_addFactor_42 (by decide) (by decide) (fun c9 => absurd c9 (by decide)) (fun _ => ?_)
    refine lv_aload hx hb dX1_addFactor_45 (lv_at hl 1 rfl) ?_
    refine lv_aload_n hx hb dX1_addFactor_47 rfl (lv_at hl 2 rfl) ?_
    refine va_get (D := (dC, dI)) (ci := 1) (v := .ref f) (C := RX1) (T := TX1) (N := 7) hx hb hw inX1 hown hK hP 0 rfl rfl 3 (by decide) (hw _ mA_56) (fun _ h9 => h9) rfl dX1_addFactor_48 ?_
    refine lv_iload hx hb dX1_addFactor_51 (lv_at hl 0 rfl) ?_
    refine ix_iconst (n := 1) hx hb dX1_addFactor_53 ?_
    refine ix_isub hx hb dX1_addFactor_54 ?_
    refine ix_z (y := 0) rfl ?_
    refine ix_aald hx hb hK hP 1 0 rfl rfl 0 ck0 (vp_in_iI (by decide) (by decide) (by decide)) rfl dX1_addFactor_55 ?_
    have hPc := hP.sub (ws' := [(y2, .inr (0, [.int (iI (nf tt a b k 0)), .int (iI (nf tt a b k 1)), .int (iI (nf tt a b k 2)), .int (iI (nf tt a b k 3)), .int (iI (nf tt a b k 4)), .int (iI (nf tt a b k 5))])), (y0, .inr (0, [.int (iI (Fs 0 0)), .int (iI (Fs 0 1)), .int (iI (Fs 0 2)), .int (iI (Fs 0 3)), .int (iI (Fs 0 4)), .int (iI (Fs 0 5))]))]) [4, 2] rfl
    have hKc := hK.sub (tys' := []) [] rfl
    refine vp_callSi (va_Run.run (va_runVN (As := [.ref y0]) (rest := []) ⟨hx, hb, hml, hown, hw⟩ (kX0_standsBefore l dC dI y2 y0 (nf tt a b k) (Fs 0) hX.1 (hF _).1 (fbd_m hX (hF _)) (fbd_m (hF _) hX)) ⟨va_cnB 1 hw (wsA_sub mA_271) rfl rfl rfl (hnb.1 _ mN_268) (hw _ mA_2) (by decide +kernel) ⟨Nat.le_of_ble_eq_true rfl, Nat.le_of_ble_eq_true rfl⟩, hw _ mA_270, hw _ mP_10⟩ ⟨fun a U g mk q => by obtain ⟨q0, qP, qK⟩ := q; exact ⟨q0, qP, va_K.moved (u := U) (U := U.calling g mk a) (Vm.Alike.refl U.vm) qK⟩, va_recv hKc hPc (ci := 0) (q0 := 0) rfl rfl, fun U hU hW => ⟨rfl, by rw [hU]; exact hPc, va_K.moved hW.alike hKc⟩⟩ rfl rfl hl.1 rfl (lv_room (Nat.le_of_ble_eq_true rfl)) dX1_addFactor_56 ⟨Nat.le_of_ble_eq_true rfl, Nat.le_of_ble_eq_true rfl⟩)) (fun r10 h11 => ?_)
    subst h11
    refine ix_if_eq (tgt := 84) hx hb dX1_addFactor_59 (by decide) (before_r _ _) (fun c12 => ?_) (fun c12 => ?_)
    · refine lv_aload_n hx hb dX1_addFactor_84 rfl (lv_at hl 2 rfl) ?_
      refine va_get (D := (dC, dI)) (ci := 1) (v := .ref f) (C := RX1) (T := TX1) (N := 7) hx hb hw inX1 hown hK hP 0 rfl rfl 3 (by decide) (hw _ mA_56) (fun _ h9 => h9) rfl dX1_addFactor_85 ?_
      refine lv_iload hx hb dX1_addFactor_88 (lv_at hl 0 rfl) ?_
      refine lv_aload hx hb dX1_addFactor_90 (lv_at hl 1 rfl) ?_
      refine ix_aast hx hb hK hP hD hS 1 0 4 0 rfl rfl rfl rfl 1 ck1 (vp_in_iI (by decide) (by decide) (by decide)) (q4_u1 y0 y1 y1 y3 y2) dX1_addFactor_92 (fun H locs hP hD hS => ?_)
      have hP : va_P (dC, dI) vwCl [(h, .inr (1, [.ref n, .ref r, .ref d, .ref f, .int (iI 2), .int (iI cn), .int (iI sp)])), (f, .inl (cF, 4, .inr (.inr (.inr (.inr (q4 y0 y2 y1 y3)))))), (y0, .inr (0, [.int (iI (Fs 0 0)), .int (iI (Fs 0 1)), .int (iI (Fs 0 2)), .int (iI (Fs 0 3)), .int (iI (Fs 0 4)), .int (iI (Fs 0 5))])), (y1, .inr (0, [.int (iI (Fs 1 0)), .int (iI (Fs 1 1)), .int (iI (Fs 1 2)), .int (iI (Fs 1 3)), .int (iI (Fs 1 4)), .int (iI (Fs 1 5))])), (y2, .inr (0, [.int (iI (nf tt a b k 0)), .int (iI (nf tt a b k 1)), .int (iI (nf tt a b k 2)), .int (iI (nf tt a b k 3)), .int (iI (nf tt a b k 4)), .int (iI (nf tt a b k 5))])), (y3, .inr (0, [.int (iI (Fs 3 0)), .int (iI (Fs 3 1)), .int (iI (Fs 3 2)), .int (iI (Fs 3 3)), .int (iI (Fs 3 4)), .int (iI (Fs 3 5))]))] H := hP
      have hD : va_D A [(h, .inr (1, [.ref n, .ref r, .ref d, .ref f, .int (iI 2), .int (iI cn), .int (iI sp)])), (f, .inl (cF, 4, .inr (.inr (.inr (.inr (q4 y0 y2 y1 y3)))))), (y0, .inr (0, [.int (iI (Fs 0 0)), .int (iI (Fs 0 1)), .int (iI (Fs 0 2)), .int (iI (Fs 0 3)), .int (iI (Fs 0 4)), .int (iI (Fs 0 5))])), (y1, .inr (0, [.int (iI (Fs 1 0)), .int (iI (Fs 1 1)), .int (iI (Fs 1 2)), .int (iI (Fs 1 3)), .int (iI (Fs 1 4)), .int (iI (Fs 1 5))])), (y2, .inr (0, [.int (iI (nf tt a b k 0)), .int (iI (nf tt a b k 1)), .int (iI (nf tt a b k 2)), .int (iI (nf tt a b k 3)), .int (iI (nf tt a b k 4)), .int (iI (nf tt a b k 5))])), (y3, .inr (0, [.int (iI (Fs 3 0)), .int (iI (Fs 3 1)), .int (iI (Fs 3 2)), .int (iI (Fs 3 3)), .int (iI (Fs 3 4)), .int (iI (Fs 3 5))]))] := hD
      refine lv_aload_n hx hb dX1_addFactor_93 rfl (lv_at hl 2 rfl) ?_
      refine lv_dup hx hb dX1_addFactor_94 rfl ?_
      refine va_get (D := (dC, dI)) (ci := 1) (v := .int (iI 2)) (C := RX1) (T := TX1) (N := 7) hx hb hw inX1 hown hK hP 0 rfl rfl 4 (by decide) (hw _ mA_57) (fun _ h9 => h9) rfl dX1_addFactor_95 ?_
      refine ix_iconst (n := 1) hx hb dX1_addFactor_98 ?_
      refine ix_iadd hx hb dX1_addFactor_99 ?_
      refine ix_z (y := 3) rfl ?_
      refine va_put (D := (dC, dI)) (ci := 1) (v := .int (iI 3)) (ty := .int) (C := RX1) (T := TX1) (N := 7) hx hb hw inX1 tyX1 tyX1_ok nmX1 hown hK hP hD hS 0 rfl rfl 4 (by decide) (hw _ mA_57) (fun _ h9 => h9) rfl (by decide +kernel) rfl rfl (Nat.le_of_ble_eq_true rfl) dX1_addFactor_100 (fun H locs hP hD hS => ?_)
      have hP : va_P (dC, dI) vwCl [(h, .inr (1, [.ref n, .ref r, .ref d, .ref f, .int (iI 3), .int (iI cn), .int (iI sp)])), (f, .inl (cF, 4, .inr (.inr (.inr (.inr (q4 y0 y2 y1 y3)))))), (y0, .inr (0, [.int (iI (Fs 0 0)), .int (iI (Fs 0 1)), .int (iI (Fs 0 2)), .int (iI (Fs 0 3)), .int (iI (Fs 0 4)), .int (iI (Fs 0 5))])), (y1, .inr (0, [.int (iI (Fs 1 0)), .int (iI (Fs 1 1)), .int (iI (Fs 1 2)), .int (iI (Fs 1 3)), .int (iI (Fs 1 4)), .int (iI (Fs 1 5))])), (y2, .inr (0, [.int (iI (nf tt a b k 0)), .int (iI (nf tt a b k 1)), .int (iI (nf tt a b k 2)), .int (iI (nf tt a b k 3)), .int (iI (nf tt a b k 4)), .int (iI (nf tt a b k 5))])), (y3, .inr (0, [.int (iI (Fs 3 0)), .int (iI (Fs 3 1)), .int (iI (Fs 3 2)), .int (iI (Fs 3 3)), .int (iI (Fs 3 4)), .int (iI (Fs 3 5))]))] H := hP
      have hD : va_D A [(h, .inr (1, [.ref n, .ref r, .ref d, .ref f, .int (iI 3), .int (iI cn), .int (iI sp)])), (f, .inl (cF, 4, .inr (.inr (.inr (.inr (q4 y0 y2 y1 y3)))))), (y0, .inr (0, [.int (iI (Fs 0 0)), .int (iI (Fs 0 1)), .int (iI (Fs 0 2)), .int (iI (Fs 0 3)), .int (iI (Fs 0 4)), .int (iI (Fs 0 5))])), (y1, .inr (0, [.int (iI (Fs 1 0)), .int (iI (Fs 1 1)), .int (iI (Fs 1 2)), .int (iI (Fs 1 3)), .int (iI (Fs 1 4)), .int (iI (Fs 1 5))])), (y2, .inr (0, [.int (iI (nf tt a b k 0)), .int (iI (nf tt a b k 1)), .int (iI (nf tt a b k 2)), .int (iI (nf tt a b k 3)), .int (iI (nf tt a b k 4)), .int (iI (nf tt a b k 5))])), (y3, .inr (0, [.int (iI (Fs 3 0)), .int (iI (Fs 3 1)), .int (iI (Fs 3 2)), .int (iI (Fs 3 3)), .int (iI (Fs 3 4)), .int (iI (Fs 3 5))]))] := hD
      have hpost : insP 2 (nf tt a b k) Fs (g4 (Fs 0) (nf tt a b k) (Fs 1) (Fs 3)) 1 := by
        refine ⟨by omega, by omega, rfl, ?_, ?_, ?_, ?_⟩
        · intro i h1 h2
          rcases (show i = 0 by omega) with rfl
          · rfl
        · intro i h1 h2
          rcases (show i = 1 by omega) with rfl
          · rfl
        · intro i h1 h2
          rcases (show i = 1 by omega) with rfl
          · exact before_1 c8
        · intro _; exact c12
      have hP9 := hP.sub (ws' := [(h, .inr (1, [.ref n, .ref r, .ref d, .ref f, .int (iI 3), .int (iI cn), .int (iI sp)])), (f, .inl (cF, 4, .inr (.inr (.inr (.inr (q4 y0 y2 y1 y3)))))), (y0, .inr (0, fl (g4 (Fs 0) (nf tt a b k) (Fs 1) (Fs 3) 0))), (y2, .inr (0, fl (g4 (Fs 0) (nf tt a b k) (Fs 1) (Fs 3) 1))), (y1, .inr (0, fl (g4 (Fs 0) (nf tt a b k) (Fs 1) (Fs 3) 2))), (y3, .inr (0, fl (g4 (Fs 0) (nf tt a b k) (Fs 1) (Fs 3) 3)))]) [0, 1, 2, 4, 3, 5] rfl
      have hD9 := hD.sub (ws' := [(h, .inr (1, [.ref n, .ref r, .ref d, .ref f, .int (iI 3), .int (iI cn), .int (iI sp)])), (f, .inl (cF, 4, .inr (.inr (.inr (.inr (q4 y0 y2 y1 y3)))))), (y0, .inr (0, fl (g4 (Fs 0) (nf tt a b k) (Fs 1) (Fs 3) 0))), (y2, .inr (0, fl (g4 (Fs 0) (nf tt a b k) (Fs 1) (Fs 3) 1))), (y1, .inr (0, fl (g4 (Fs 0) (nf tt a b k) (Fs 1) (Fs 3) 2))), (y3, .inr (0, fl (g4 (Fs 0) (nf tt a b k) (Fs 1) (Fs 3) 3)))]) [0, 1, 2, 4, 3, 5] (by decide) rfl
      have hK9 := hK.sub (tys' := [(cF, .object RX0)]) [0] rfl
      exact W.vret hx hb hr (fun t ht hW => ⟨⟨((y0, y2, y1, y3), g4 (Fs 0) (nf tt a b k) (Fs 1) (Fs 3)), rfl, ⟨_, hpost⟩, by rw [ht]; exact hP9, va_K.moved hW.alike hK9, hD9⟩, hS.F ht⟩) hS.2.2 dX1_addFactor_103
    · refine lv_aload_n hx hb dX1_addFactor_62 rfl (lv_at hl 2 rfl) ?_
      refine va_get (D := (dC, dI)) (ci := 1) (v := .ref f) (C := RX1) (T := TX1) (N := 7) hx hb hw inX1 hown hK hP 0 rfl rfl 3 (by decide) (hw _ mA_56) (fun _ h9 => h9) rfl dX1_addFactor_63 ?_
      refine lv_iload hx hb dX1_addFactor_66 (lv_at hl 0 rfl) ?_
      refine lv_aload_n hx hb dX1_addFactor_68 rfl (lv_at hl 2 rfl) ?_
      refine va_get (D := (dC, dI)) (ci := 1) (v := .ref f) (C := RX1) (T := TX1) (N := 7) hx hb hw inX1 hown hK hP 0 rfl rfl 3 (by decide) (hw _ mA_56) (fun _ h9 => h9) rfl dX1_addFactor_69 ?_
      refine lv_iload hx hb dX1_addFactor_72 (lv_at hl 0 rfl) ?_
      refine ix_iconst (n := 1) hx hb dX1_addFactor_74 ?_
      refine ix_isub hx hb dX1_addFactor_75 ?_
      refine ix_z (y := 0) rfl ?_
      refine ix_aald hx hb hK hP 1 0 rfl rfl 0 ck0 (vp_in_iI (by decide) (by decide) (by decide)) rfl dX1_addFactor_76 ?_
      refine ix_aast hx hb hK hP hD hS 1 0 2 0 rfl rfl rfl rfl 1 ck1 (vp_in_iI (by decide) (by decide) (by decide)) (q4_u1 y0 y1 y1 y3 y0) dX1_addFactor_77 (fun H locs hP hD hS => ?_)
      have hP : va_P (dC, dI) vwCl [(h, .inr (1, [.ref n, .ref r, .ref d, .ref f, .int (iI 2), .int (iI cn), .int (iI sp)])), (f, .inl (cF, 4, .inr (.inr (.inr (.inr (q4 y0 y0 y1 y3)))))), (y0, .inr (0, [.int (iI (Fs 0 0)), .int (iI (Fs 0 1)), .int (iI (Fs 0 2)), .int (iI (Fs 0 3)), .int (iI (Fs 0 4)), .int (iI (Fs 0 5))])), (y1, .inr (0, [.int (iI (Fs 1 0)), .int (iI (Fs 1 1)), .int (iI (Fs 1 2)), .int (iI (Fs 1 3)), .int (iI (Fs 1 4)), .int (iI (Fs 1 5))])), (y2, .inr (0, [.int (iI (nf tt a b k 0)), .int (iI (nf tt a b k 1)), .int (iI (nf tt a b k 2)), .int (iI (nf tt a b k 3)), .int (iI (nf tt a b k 4)), .int (iI (nf tt a b k 5))])), (y3, .inr (0, [.int (iI (Fs 3 0)), .int (iI (Fs 3 1)), .int (iI (Fs 3 2)), .int (iI (Fs 3 3)), .int (iI (Fs 3 4)), .int (iI (Fs 3 5))]))] H := hP
      have hD : va_D A [(h, .inr (1, [.ref n, .ref r, .ref d, .ref f, .int (iI 2), .int (iI cn), .int (iI sp)])), (f, .inl (cF, 4, .inr (.inr (.inr (.inr (q4 y0 y0 y1 y3)))))), (y0, .inr (0, [.int (iI (Fs 0 0)), .int (iI (Fs 0 1)), .int (iI (Fs 0 2)), .int (iI (Fs 0 3)), .int (iI (Fs 0 4)), .int (iI (Fs 0 5))])), (y1, .inr (0, [.int (iI (Fs 1 0)), .int (iI (Fs 1 1)), .int (iI (Fs 1 2)), .int (iI (Fs 1 3)), .int (iI (Fs 1 4)), .int (iI (Fs 1 5))])), (y2, .inr (0, [.int (iI (nf tt a b k 0)), .int (iI (nf tt a b k 1)), .int (iI (nf tt a b k 2)), .int (iI (nf tt a b k 3)), .int (iI (nf tt a b k 4)), .int (iI (nf tt a b k 5))])), (y3, .inr (0, [.int (iI (Fs 3 0)), .int (iI (Fs 3 1)), .int (iI (Fs 3 2)), .int (iI (Fs 3 3)), .int (iI (Fs 3 4)), .int (iI (Fs 3 5))]))] := hD
      refine ix_iinc (k := 0) (lv2 := [(6, .int (iI 0)), (5, .ref y2), (0, .ref h), (1, .int (iI a)), (2, .int (iI b)), (3, .int (iI k)), (4, .int (iI tt))]) hx hb dX1_addFactor_78 hl rfl (by decide) rfl (fun ls hl => ?_)
      refine lv_goto (tgt := 40) hx hb dX1_addFactor_81 (by decide) ?_
      refine lv_iload hx hb dX1_addFactor_40 (lv_at hl 0 rfl) ?_
      refine ix_if_le (tgt := 84) hx hb dX1_addFactor_42 (by decide) (by decide) (fun _ => ?_) (fun c13 => absurd c13 (by decide))
      refine lv_aload_n hx hb dX1_addFactor_84 rfl (lv_at hl 2 rfl) ?_
      refine va_get (D := (dC, dI)) (ci := 1) (v := .ref f) (C := RX1) (T := TX1) (N := 7) hx hb hw inX1 hown hK hP 0 rfl rfl 3 (by decide) (hw _ mA_56) (fun _ h9 => h9) rfl dX1_addFactor_85 ?_
      refine lv_iload hx hb dX1_addFactor_88 (lv_at hl 0 rfl) ?_
      refine lv_aload hx hb dX1_addFactor_90 (lv_at hl 1 rfl) ?_
      refine ix_aast hx hb hK hP hD hS 1 0 4 0 rfl rfl rfl rfl 0 ck0 (vp_in_iI (by decide) (by decide) (by decide)) (q4_u0 y0 y0 y1 y3 y2) dX1_addFactor_92 (fun H locs hP hD hS => ?_)
      have hP : va_P (dC, dI) vwCl [(h, .inr (1, [.ref n, .ref r, .ref d, .ref f, .int (iI 2), .int (iI cn), .int (iI sp)])), (f, .inl (cF, 4, .inr (.inr (.inr (.inr (q4 y2 y0 y1 y3)))))), (y0, .inr (0, [.int (iI (Fs 0 0)), .int (iI (Fs 0 1)), .int (iI (Fs 0 2)), .int (iI (Fs 0 3)), .int (iI (Fs 0 4)), .int (iI (Fs 0 5))])), (y1, .inr (0, [.int (iI (Fs 1 0)), .int (iI (Fs 1 1)), .int (iI (Fs 1 2)), .int (iI (Fs 1 3)), .int (iI (Fs 1 4)), .int (iI (Fs 1 5))])), (y2, .inr (0, [.int (iI (nf tt a b k 0)), .int (iI (nf tt a b k 1)), .int (iI (nf tt a b k 2)), .int (iI (nf tt a b k 3)), .int (iI (nf tt a b k 4)), .int (iI (nf tt a b k 5))])), (y3, .inr (0, [.int (iI (Fs 3 0)), .int (iI (Fs 3 1)), .int (iI (Fs 3 2)), .int (iI (Fs 3 3)), .int (iI (Fs 3 4)), .int (iI (Fs 3 5))]))] H := hP
      have hD : va_D A [(h, .inr (1, [.ref n, .ref r, .ref d, .ref f, .int (iI 2), .int (iI cn), .int (iI sp)])), (f, .inl (cF, 4, .inr (.inr (.inr (.inr (q4 y2 y0 y1 y3)))))), (y0, .inr (0, [.int (iI (Fs 0 0)), .int (iI (Fs 0 1)), .int (iI (Fs 0 2)), .int (iI (Fs 0 3)), .int (iI (Fs 0 4)), .int (iI (Fs 0 5))])), (y1, .inr (0, [.int (iI (Fs 1 0)), .int (iI (Fs 1 1)), .int (iI (Fs 1 2)), .int (iI (Fs 1 3)), .int (iI (Fs 1 4)), .int (iI (Fs 1 5))])), (y2, .inr (0, [.int (iI (nf tt a b k 0)), .int (iI (nf tt a b k 1)), .int (iI (nf tt a b k 2)), .int (iI (nf tt a b k 3)), .int (iI (nf tt a b k 4)), .int (iI (nf tt a b k 5))])), (y3, .inr (0, [.int (iI (Fs 3 0)), .int (iI (Fs 3 1)), .int (iI (Fs 3 2)), .int (iI (Fs 3 3)), .int (iI (Fs 3 4)), .int (iI (Fs 3 5))]))] := hD
      refine lv_aload_n hx hb dX1_addFactor_93 rfl (lv_at hl 2 rfl) ?_
      refine lv_dup hx hb dX1_addFactor_94 rfl ?_
      refine va_get (D := (dC, dI)) (ci := 1) (v := .int (iI 2)) (C := RX1) (T := TX1) (N := 7) hx hb hw inX1 hown hK hP 0 rfl rfl 4 (by decide) (hw _ mA_57) (fun _ h9 => h9) rfl dX1_addFactor_95 ?_
      refine ix_iconst (n := 1) hx hb dX1_addFactor_98 ?_
      refine ix_iadd hx hb dX1_addFactor_99 ?_
      refine ix_z (y := 3) rfl ?_
      refine va_put (D := (dC, dI)) (ci := 1) (v := .int (iI 3)) (ty := .int) (C := RX1) (T := TX1) (N := 7) hx hb hw inX1 tyX1 tyX1_ok nmX1 hown hK hP hD hS 0 rfl rfl 4 (by decide) (hw _ mA_57) (fun _ h9 => h9) rfl (by decide +kernel) rfl rfl (Nat.le_of_ble_eq_true rfl) dX1_addFactor_100 (fun H locs hP hD hS => ?_)
      have hP : va_P (dC, dI) vwCl [(h, .inr (1, [.ref n, .ref r, .ref d, .ref f, .int (iI 3), .int (iI cn), .int (iI sp)])), (f, .inl (cF, 4, .inr (.inr (.inr (.inr (q4 y2 y0 y1 y3)))))), (y0, .inr (0, [.int (iI (Fs 0 0)), .int (iI (Fs 0 1)), .int (iI (Fs 0 2)), .int (iI (Fs 0 3)), .int (iI (Fs 0 4)), .int (iI (Fs 0 5))])), (y1, .inr (0, [.int (iI (Fs 1 0)), .int (iI (Fs 1 1)), .int (iI (Fs 1 2)), .int (iI (Fs 1 3)), .int (iI (Fs 1 4)), .int (iI (Fs 1 5))])), (y2, .inr (0, [.int (iI (nf tt a b k 0)), .int (iI (nf tt a b k 1)), .int (iI (nf tt a b k 2)), .int (iI (nf tt a b k 3)), .int (iI (nf tt a b k 4)), .int (iI (nf tt a b k 5))])), (y3, .inr (0, [.int (iI (Fs 3 0)), .int (iI (Fs 3 1)), .int (iI (Fs 3 2)), .int (iI (Fs 3 3)), .int (iI (Fs 3 4)), .int (iI (Fs 3 5))]))] H := hP
      have hD : va_D A [(h, .inr (1, [.ref n, .ref r, .ref d, .ref f, .int (iI 3), .int (iI cn), .int (iI sp)])), (f, .inl (cF, 4, .inr (.inr (.inr (.inr (q4 y2 y0 y1 y3)))))), (y0, .inr (0, [.int (iI (Fs 0 0)), .int (iI (Fs 0 1)), .int (iI (Fs 0 2)), .int (iI (Fs 0 3)), .int (iI (Fs 0 4)), .int (iI (Fs 0 5))])), (y1, .inr (0, [.int (iI (Fs 1 0)), .int (iI (Fs 1 1)), .int (iI (Fs 1 2)), .int (iI (Fs 1 3)), .int (iI (Fs 1 4)), .int (iI (Fs 1 5))])), (y2, .inr (0, [.int (iI (nf tt a b k 0)), .int (iI (nf tt a b k 1)), .int (iI (nf tt a b k 2)), .int (iI (nf tt a b k 3)), .int (iI (nf tt a b k 4)), .int (iI (nf tt a b k 5))])), (y3, .inr (0, [.int (iI (Fs 3 0)), .int (iI (Fs 3 1)), .int (iI (Fs 3 2)), .int (iI (Fs 3 3)), .int (iI (Fs 3 4)), .int (iI (Fs 3 5))]))] := hD
      have hpost : insP 2 (nf tt a b k) Fs (g4 (nf tt a b k) (Fs 0) (Fs 1) (Fs 3)) 0 := by
        refine ⟨by omega, by omega, rfl, ?_, ?_, ?_, ?_⟩
        · intro i h1 h2; omega
        · intro i h1 h2
          rcases (show i = 0 ∨ i = 1 by omega) with rfl | rfl
          · rfl
          · rfl
        · intro i h1 h2
          rcases (show i = 0 ∨ i = 1 by omega) with rfl | rfl
          · exact before_1 c12
          · exact before_1 c8
        · intro h; omega
      have hP9 := hP.sub (ws' := [(h, .inr (1, [.ref n, .ref r, .ref d, .ref f, .int (iI 3), .int (iI cn), .int (iI sp)])), (f, .inl (cF, 4, .inr (.inr (.inr (.inr (q4 y2 y0 y1 y3)))))), (y2, .inr (0, fl (g4 (nf tt a b k) (Fs 0) (Fs 1) (Fs 3) 0))), (y0, .inr (0, fl (g4 (nf tt a b k) (Fs 0) (Fs 1) (Fs 3) 1))), (y1, .inr (0, fl (g4 (nf tt a b k) (Fs 0) (Fs 1) (Fs 3) 2))), (y3, .inr (0, fl (g4 (nf tt a b k) (Fs 0) (Fs 1) (Fs 3) 3)))]) [0, 1, 4, 2, 3, 5] rfl
      have hD9 := hD.sub (ws' := [(h, .inr (1, [.ref n, .ref r, .ref d, .ref f, .int (iI 3), .int (iI cn), .int (iI sp)])), (f, .inl (cF, 4, .inr (.inr (.inr (.inr (q4 y2 y0 y1 y3)))))), (y2, .inr (0, fl (g4 (nf tt a b k) (Fs 0) (Fs 1) (Fs 3) 0))), (y0, .inr (0, fl (g4 (nf tt a b k) (Fs 0) (Fs 1) (Fs 3) 1))), (y1, .inr (0, fl (g4 (nf tt a b k) (Fs 0) (Fs 1) (Fs 3) 2))), (y3, .inr (0, fl (g4 (nf tt a b k) (Fs 0) (Fs 1) (Fs 3) 3)))]) [0, 1, 4, 2, 3, 5] (by decide) rfl
      have hK9 := hK.sub (tys' := [(cF, .object RX0)]) [0] rfl
      exact W.vret hx hb hr (fun t ht hW => ⟨⟨((y2, y0, y1, y3), g4 (nf tt a b k) (Fs 0) (Fs 1) (Fs 3)), rfl, ⟨_, hpost⟩, by rw [ht]; exact hP9, va_K.moved hW.alike hK9, hD9⟩, hS.F ht⟩) hS.2.2 dX1_addFactor_103
set_option maxHeartbeats 4000000 in
set_option maxRecDepth 100000 in
/-- addFactor, 3 being found -/
theorem kX1_addFactor_3 (l : Launch) (dC : Nat → ClassId) (dI : Nat → Nat → Nat) (sz : Nat) (h n r d f y0 y1 y2 y3 : Nat) (cF : ClassId) (cn sp : Int) (Fs : Int → Int → Int) (a b k tt : Int) (ha : r32 a) (hu : -1002000 ≤ f_und a b k ∧ f_und a b k ≤ 1002000) (hX : fbd (nf tt a b k)) (hF : ∀ i, fbd (Fs i)) : Met l yX1_addFactor (.code yX1_addFactor cX1_addFactor 7 none :: wsA) ({ frames := 2, cells := 0, slots := 0, locals := 80 }) (va_Pc [.ref h, .int (iI a), .int (iI b), .int (iI k), .int (iI tt)] (fun U => U.heap.size = sz ∧ va_P (dC, dI) vwCl [(h, .inr (1, [.ref n, .ref r, .ref d, .ref f, .int (iI 3), .int (iI cn), .int (iI sp)])), (f, .inl (cF, 4, .inr (.inr (.inr (.inr (q4 y0 y1 y2 y3)))))), (y0, .inr (0, [.int (iI (Fs 0 0)), .int (iI (Fs 0 1)), .int (iI (Fs 0 2)), .int (iI (Fs 0 3)), .int (iI (Fs 0 4)), .int (iI (Fs 0 5))])), (y1, .inr (0, [.int (iI (Fs 1 0)), .int (iI (Fs 1 1)), .int (iI (Fs 1 2)), .int (iI (Fs 1 3)), .int (iI (Fs 1 4)), .int (iI (Fs 1 5))])), (y2, .inr (0, [.int (iI (Fs 2 0)), .int (iI (Fs 2 1)), .int (iI (Fs 2 2)), .int (iI (Fs 2 3)), .int (iI (Fs 2 4)), .int (iI (Fs 2 5))])), (y3, .inr (0, [.int (iI (Fs 3 0)), .int (iI (Fs 3 1)), .int (iI (Fs 3 2)), .int (iI (Fs 3 3)), .int (iI (Fs 3 4)), .int (iI (Fs 3 5))]))] U.heap ∧ va_K (dC, dI) vwCl [(cF, .object RX0)] U ∧ va_D (fun _ => True) [(h, .inr (1, [.ref n, .ref r, .ref d, .ref f, .int (iI 3), .int (iI cn), .int (iI sp)])), (f, .inl (cF, 4, .inr (.inr (.inr (.inr (q4 y0 y1 y2 y3)))))), (y0, .inr (0, [.int (iI (Fs 0 0)), .int (iI (Fs 0 1)), .int (iI (Fs 0 2)), .int (iI (Fs 0 3)), .int (iI (Fs 0 4)), .int (iI (Fs 0 5))])), (y1, .inr (0, [.int (iI (Fs 1 0)), .int (iI (Fs 1 1)), .int (iI (Fs 1 2)), .int (iI (Fs 1 3)), .int (iI (Fs 1 4)), .int (iI (Fs 1 5))])), (y2, .inr (0, [.int (iI (Fs 2 0)), .int (iI (Fs 2 1)), .int (iI (Fs 2 2)), .int (iI (Fs 2 3)), .int (iI (Fs 2 4)), .int (iI (Fs 2 5))])), (y3, .inr (0, [.int (iI (Fs 3 0)), .int (iI (Fs 3 1)), .int (iI (Fs 3 2)), .int (iI (Fs 3 3)), .int (iI (Fs 3 4)), .int (iI (Fs 3 5))]))] ∧ nb U)) (va_Qv (fun u => ∃ pos, insP 3 (nf tt a b k) Fs u.2 pos) (fun (u : (Nat × Nat × Nat × Nat) × (Int → Int → Int)) t9 => va_P (dC, dI) vwCl [(h, .inr (1, [.ref n, .ref r, .ref d, .ref f, .int (iI 4), .int (iI cn), .int (iI sp)])), (f, .inl (cF, 4, .inr (.inr (.inr (.inr (q4 u.1.1 u.1.2.1 u.1.2.2.1 u.1.2.2.2)))))), (u.1.1, .inr (0, fl (u.2 0))), (u.1.2.1, .inr (0, fl (u.2 1))), (u.1.2.2.1, .inr (0, fl (u.2 2))), (u.1.2.2.2, .inr (0, fl (u.2 3)))] t9.heap ∧ va_K (dC, dI) vwCl [(cF, .object RX0)] t9 ∧ va_D (va_A [(h, .inr (1, [.ref n, .ref r, .ref d, .ref f, .int (iI 3), .int (iI cn), .int (iI sp)])), (f, .inl (cF, 4, .inr (.inr (.inr (.inr (q4 y0 y1 y2 y3)))))), (y0, .inr (0, [.int (iI (Fs 0 0)), .int (iI (Fs 0 1)), .int (iI (Fs 0 2)), .int (iI (Fs 0 3)), .int (iI (Fs 0 4)), .int (iI (Fs 0 5))])), (y1, .inr (0, [.int (iI (Fs 1 0)), .int (iI (Fs 1 1)), .int (iI (Fs 1 2)), .int (iI (Fs 1 3)), .int (iI (Fs 1 4)), .int (iI (Fs 1 5))])), (y2, .inr (0, [.int (iI (Fs 2 0)), .int (iI (Fs 2 1)), .int (iI (Fs 2 2)), .int (iI (Fs 2 3)), .int (iI (Fs 2 4)), .int (iI (Fs 2 5))])), (y3, .inr (0, [.int (iI (Fs 3 0)), .int (iI (Fs 3 1)), .int (iI (Fs 3 2)), .int (iI (Fs 3 3)), .int (iI (Fs 3 4)), .int (iI (Fs 3 5))]))] sz) [(h, .inr (1, [.ref n, .ref r, .ref d, .ref f, .int (iI 4), .int (iI cn), .int (iI sp)])), (f, .inl (cF, 4, .inr (.inr (.inr (.inr (q4 u.1.1 u.1.2.1 u.1.2.2.1 u.1.2.2.2)))))), (u.1.1, .inr (0, fl (u.2 0))), (u.1.2.1, .inr (0, fl (u.2 1))), (u.1.2.2.1, .inr (0, fl (u.2 2))), (u.1.2.2.2, .inr (0, fl (u.2 3)))]) (va_A [(h, .inr (1, [.ref n, .ref r, .ref d, .ref f, .int (iI 3), .int (iI cn), .int (iI sp)])), (f, .inl (cF, 4, .inr (.inr (.inr (.inr (q4 y0 y1 y2 y3)))))), (y0, .inr (0, [.int (iI (Fs 0 0)), .int (iI (Fs 0 1)), .int (iI (Fs 0 2)), .int (iI (Fs 0 3)), .int (iI (Fs 0 4)), .int (iI (Fs 0 5))])), (y1, .inr (0, [.int (iI (Fs 1 0)), .int (iI (Fs 1 1)), .int (iI (Fs 1 2)), .int (iI (Fs 1 3)), .int (iI (Fs 1 4)), .int (iI (Fs 1 5))])), (y2, .inr (0, [.int (iI (Fs 2 0)), .int (iI (Fs 2 1)), .int (iI (Fs 2 2)), .int (iI (Fs 2 3)), .int (iI (Fs 2 4)), .int (iI (Fs 2 5))])), (y3, .inr (0, [.int (iI (Fs 3 0)), .int (iI (Fs 3 1)), .int (iI (Fs 3 2)), .int (iI (Fs 3 3)), .int (iI (Fs 3 4)), .int (iI (Fs 3 5))]))] sz)) 0 0 (va_A [(h, .inr (1, [.ref n, .ref r, .ref d, .ref f, .int (iI 3), .int (iI cn), .int (iI sp)])), (f, .inl (cF, 4, .inr (.inr (.inr (.inr (q4 y0 y1 y2 y3)))))), (y0, .inr (0, [.int (iI (Fs 0 0)), .int (iI (Fs 0 1)), .int (iI (Fs 0 2)), .int (iI (Fs 0 3)), .int (iI (Fs 0 4)), .int (iI (Fs 0 5))])), (y1, .inr (0, [.int (iI (Fs 1 0)), .int (iI (Fs 1 1)), .int (iI (Fs 1 2)), .int (iI (Fs 1 3)), .int (iI (Fs 1 4)), .int (iI (Fs 1 5))])), (y2, .inr (0, [.int (iI (Fs 2 0)), .int (iI (Fs 2 1)), .int (iI (Fs 2 2)), .int (iI (Fs 2 3)), .int (iI (Fs 2 4)), .int (iI (Fs 2 5))])), (y3, .inr (0, [.int (iI (Fs 3 0)), .int (iI (Fs 3 1)), .int (iI (Fs 3 2)), .int (iI (Fs 3 3)), .int (iI (Fs 3 4)), .int (iI (Fs 3 5))]))] sz) := by
  refine Met.ofW (cc := cX1_addFactor) (maxL := 7) (ret := none) (by decide) rfl ?_
  intro p e s m args below meth c s₁ B hml hv
  obtain ⟨rfl, hsz, hP, hK, hD0, hnb⟩ := hv
  have hx := B.exec
  have hb := B.bytes
  have hr := B.returns
  have hts := atoms_spec (ws := .code yX1_addFactor cX1_addFactor 7 none :: wsA) B.pre
  have hw : ∀ w ∈ wsA, w.before _ s = true := fun w h => hts w (List.mem_cons_of_mem _ h)
  have hown : s.vm.findClass RX1 = some m.cls := findClass_of_methodNamed B.named
  have hlocks := B.notSynchronized
  subst hsz
  have hD := hD0.self (sz := s.heap.size)
  generalize hAe : va_A [(h, .inr (1, [.ref n, .ref r, .ref d, .ref f, .int (iI 3), .int (iI cn), .int (iI sp)])), (f, .inl (cF, 4, .inr (.inr (.inr (.inr (q4 y0 y1 y2 y3)))))), (y0, .inr (0, [.int (iI (Fs 0 0)), .int (iI (Fs 0 1)), .int (iI (Fs 0 2)), .int (iI (Fs 0 3)), .int (iI (Fs 0 4)), .int (iI (Fs 0 5))])), (y1, .inr (0, [.int (iI (Fs 1 0)), .int (iI (Fs 1 1)), .int (iI (Fs 1 2)), .int (iI (Fs 1 3)), .int (iI (Fs 1 4)), .int (iI (Fs 1 5))])), (y2, .inr (0, [.int (iI (Fs 2 0)), .int (iI (Fs 2 1)), .int (iI (Fs 2 2)), .int (iI (Fs 2 3)), .int (iI (Fs 2 4)), .int (iI (Fs 2 5))])), (y3, .inr (0, [.int (iI (Fs 3 0)), .int (iI (Fs 3 1)), .int (iI (Fs 3 2)), .int (iI (Fs 3 3)), .int (iI (Fs 3 4)), .int (iI (Fs 3 5))]))] s.heap.size = A at hD ⊢
  have hA : ∀ q : Nat, s.heap.size ≤ q → A q := fun q h => by rw [← hAe]; exact Or.inr h
  have hS : va_S A s.heap s.heap [] := va_S.rf
  have hP : va_P (dC, dI) vwCl [(h, .inr (1, [.ref n, .ref r, .ref d, .ref f, .int (iI 3), .int (iI cn), .int (iI sp)])), (f, .inl (cF, 4, .inr (.inr (.inr (.inr (q4 y0 y1 y2 y3)))))), (y0, .inr (0, [.int (iI (Fs 0 0)), .int (iI (Fs 0 1)), .int (iI (Fs 0 2)), .int (iI (Fs 0 3)), .int (iI (Fs 0 4)), .int (iI (Fs 0 5))])), (y1, .inr (0, [.int (iI (Fs 1 0)), .int (iI (Fs 1 1)), .int (iI (Fs 1 2)), .int (iI (Fs 1 3)), .int (iI (Fs 1 4)), .int (iI (Fs 1 5))])), (y2, .inr (0, [.int (iI (Fs 2 0)), .int (iI (Fs 2 1)), .int (iI (Fs 2 2)), .int (iI (Fs 2 3)), .int (iI (Fs 2 4)), .int (iI (Fs 2 5))])), (y3, .inr (0, [.int (iI (Fs 3 0)), .int (iI (Fs 3 1)), .int (iI (Fs 3 2)), .int (iI (Fs 3 3)), .int (iI (Fs 3 4)), .int (iI (Fs 3 5))]))] s.heap := hP
  have hl := lv_entry ([.ref h, .int (iI a), .int (iI b), .int (iI k), .int (iI tt)]) (n := 7) (Nat.le_of_ble_eq_true rfl)
  rw [lg_entry_eq]
  generalize (lg_sl ([.ref h, .int (iI a), .int (iI b), .int (iI k), .int (iI tt)]) ++ List.replicate (7 - (lg_sl ([.ref h, .int (iI a), .int (iI b), .int (iI k), .int (iI tt)])).length) Slot.unset).toArray = ls at hl ⊢
  have hl : lv_has ls 7 [(0, .ref h), (1, .int (iI a)), (2, .int (iI b)), (3, .int (iI k)), (4, .int (iI tt))] := hl
  refine lv_aload_n hx hb dX1_addFactor_0 rfl (lv_at hl 0 rfl) ?_
  refine va_get (D := (dC, dI)) (ci := 1) (v := .int (iI 3)) (C := RX1) (T := TX1) (N := 7) hx hb hw inX1 hown hK hP 0 rfl rfl 4 (by decide) (hw _ mA_57) (fun _ h9 => h9) rfl dX1_addFactor_1 ?_
  refine lv_aload_n hx hb dX1_addFactor_4 rfl (lv_at hl 0 rfl) ?_
  refine va_get (D := (dC, dI)) (ci := 1) (v := .ref f) (C := RX1) (T := TX1) (N := 7) hx hb hw inX1 hown hK hP 0 rfl rfl 3 (by decide) (hw _ mA_56) (fun _ h9 => h9) rfl dX1_addFactor_5 ?_
  refine va_alen (v := iI 4) hx hb hK hP 1 0 rfl rfl rfl dX1_addFactor_8 ?_
  refine ix_icmp_lt (tgt := 13) hx hb dX1_addFactor_9 (by decide) (by decide) (by decide) (fun _ => ?_) (fun c1 => absurd c1 (by decide))
  refine lv_aload_n hx hb dX1_addFactor_13 rfl (lv_at hl 0 rfl) ?_
  refine va_get (D := (dC, dI)) (ci := 1) (v := .ref f) (C := RX1) (T := TX1) (N := 7) hx hb hw inX1 hown hK hP 0 rfl rfl 3 (by decide) (hw _ mA_56) (fun _ h9 => h9) rfl dX1_addFactor_14 ?_
  refine lv_aload_n hx hb dX1_addFactor_17 rfl (lv_at hl 0 rfl) ?_
  refine va_get (D := (dC, dI)) (ci := 1) (v := .int (iI 3)) (C := RX1) (T := TX1) (N := 7) hx hb hw inX1 hown hK hP 0 rfl rfl 4 (by decide) (hw _ mA_57) (fun _ h9 => h9) rfl dX1_addFactor_18 ?_
  refine ix_aald hx hb hK hP 1 0 rfl rfl 3 ck3 (vp_in_iI (by decide) (by decide) (by decide)) rfl dX1_addFactor_21 ?_
  refine lv_astore (lv' := [(5, .ref y3), (0, .ref h), (1, .int (iI a)), (2, .int (iI b)), (3, .int (iI k)), (4, .int (iI tt))]) hx hb dX1_addFactor_22 hl (by decide) rfl (fun ls hl => ?_)
  refine lv_aload hx hb dX1_addFactor_24 (lv_at hl 0 rfl) ?_
  refine lv_iload_n hx hb dX1_addFactor_26 rfl (lv_at hl 2 rfl) ?_
  refine lv_iload_n hx hb dX1_addFactor_27 rfl (lv_at hl 3 rfl) ?_
  refine lv_iload_n hx hb dX1_addFactor_28 rfl (lv_at hl 4 rfl) ?_
  refine lv_iload hx hb dX1_addFactor_29 (lv_at hl 5 rfl) ?_
  have hPc := hP.sub (ws' := [(y3, .inr (0, [.int (iI (Fs 3 0)), .int (iI (Fs 3 1)), .int (iI (Fs 3 2)), .int (iI (Fs 3 3)), .int (iI (Fs 3 4)), .int (iI (Fs 3 5))]))]) [5] rfl
  have hDc := hD.sub (ws' := [(y3, .inr (0, [.int (iI (Fs 3 0)), .int (iI (Fs 3 1)), .int (iI (Fs 3 2)), .int (iI (Fs 3 3)), .int (iI (Fs 3 4)), .int (iI (Fs 3 5))]))]) [5] (by decide) rfl
  have hKc := hK.sub (tys' := []) [] rfl
  have hFc := va_free (wc := [(y3, .inr (0, [.int (iI (Fs 3 0)), .int (iI (Fs 3 1)), .int (iI (Fs 3 2)), .int (iI (Fs 3 3)), .int (iI (Fs 3 4)), .int (iI (Fs 3 5))]))]) hD hS hA [5] rfl
  refine va_callv (va_runVN (As := [.int (iI a), .int (iI b), .int (iI k), .int (iI tt)]) (rest := []) ⟨hx, hb, hml, hown, hw⟩ (kX0_become l dC dI _ y3 (Fs 3) a b k tt ha hu) ⟨va_cnB 4 hw (wsA_sub mA_264) rfl rfl rfl (hnb.1 _ mN_261) (hw _ mA_2) (by decide +kernel) ⟨Nat.le_of_ble_eq_true rfl, Nat.le_of_ble_eq_true rfl⟩, hw _ mA_263, hw _ mP_9⟩ ⟨fun a U g mk q => by obtain ⟨q0, q1, qP, qK, qD, qN⟩ := q; exact ⟨q0, q1, qP, va_K.moved (u := U) (U := U.calling g mk a) (Vm.Alike.refl U.vm) qK, qD, nb.same (u := U) rfl qN⟩, va_recv hKc hPc (ci := 0) (q0 := 0) rfl rfl, fun U hU hW => ⟨rfl, by rw [hU], by rw [hU]; exact hPc, va_K.moved hW.alike hKc, hDc.weaken (fun _ _ _ _ => trivial), nb.warm hW hnb⟩⟩ rfl rfl hl.1 rfl (lv_room (Nat.le_of_ble_eq_true rfl)) dX1_addFactor_31 ⟨Nat.le_of_ble_eq_true rfl, Nat.le_of_ble_eq_true rfl⟩) hS (fun q _ h => hFc q h) hFc (fun u2 t9 H1 locs ht hvm hq3 hB hz1 hk1 hS => ?_)
  obtain ⟨hP1, hK1, hD1⟩ := hB
  rw [ht] at hP1
  have hK1 := va_K.moved hvm.symm hK1
  obtain ⟨hP, hD⟩ := va_join (wr := [(h, .inr (1, [.ref n, .ref r, .ref d, .ref f, .int (iI 3), .int (iI cn), .int (iI sp)])), (f, .inl (cF, 4, .inr (.inr (.inr (.inr (q4 y0 y1 y2 y3)))))), (y0, .inr (0, [.int (iI (Fs 0 0)), .int (iI (Fs 0 1)), .int (iI (Fs 0 2)), .int (iI (Fs 0 3)), .int (iI (Fs 0 4)), .int (iI (Fs 0 5))])), (y1, .inr (0, [.int (iI (Fs 1 0)), .int (iI (Fs 1 1)), .int (iI (Fs 1 2)), .int (iI (Fs 1 3)), .int (iI (Fs 1 4)), .int (iI (Fs 1 5))])), (y2, .inr (0, [.int (iI (Fs 2 0)), .int (iI (Fs 2 1)), .int (iI (Fs 2 2)), .int (iI (Fs 2 3)), .int (iI (Fs 2 4)), .int (iI (Fs 2 5))]))]) (w1 := [(y3, .inr (0, [.int (iI (nf tt a b k 0)), .int (iI (nf tt a b k 1)), .int (iI (nf tt a b k 2)), .int (iI (nf tt a b k 3)), .int (iI (nf tt a b k 4)), .int (iI (nf tt a b k 5))]))]) hP hD [5] [0, 1, 2, 3, 4] rfl rfl (by decide) (by decide) hk1 hFc hP1 hD1
  generalize H1 = H at hP hS ⊢
  have hP := hP.sub (ws' := [(h, .inr (1, [.ref n, .ref r, .ref d, .ref f, .int (iI 3), .int (iI cn), .int (iI sp)])), (f, .inl (cF, 4, .inr (.inr (.inr (.inr (q4 y0 y1 y2 y3)))))), (y0, .inr (0, [.int (iI (Fs 0 0)), .int (iI (Fs 0 1)), .int (iI (Fs 0 2)), .int (iI (Fs 0 3)), .int (iI (Fs 0 4)), .int (iI (Fs 0 5))])), (y1, .inr (0, [.int (iI (Fs 1 0)), .int (iI (Fs 1 1)), .int (iI (Fs 1 2)), .int (iI (Fs 1 3)), .int (iI (Fs 1 4)), .int (iI (Fs 1 5))])), (y2, .inr (0, [.int (iI (Fs 2 0)), .int (iI (Fs 2 1)), .int (iI (Fs 2 2)), .int (iI (Fs 2 3)), .int (iI (Fs 2 4)), .int (iI (Fs 2 5))])), (y3, .inr (0, [.int (iI (nf tt a b k 0)), .int (iI (nf tt a b k 1)), .int (iI (nf tt a b k 2)), .int (iI (nf tt a b k 3)), .int (iI (nf tt a b k 4)), .int (iI (nf tt a b k 5))]))]) [0, 1, 2, 3, 4, 5] rfl
  have hD := hD.sub (ws' := [(h, .inr (1, [.ref n, .ref r, .ref d, .ref f, .int (iI 3), .int (iI cn), .int (iI sp)])), (f, .inl (cF, 4, .inr (.inr (.inr (.inr (q4 y0 y1 y2 y3)))))), (y0, .inr (0, [.int (iI (Fs 0 0)), .int (iI (Fs 0 1)), .int (iI (Fs 0 2)), .int (iI (Fs 0 3)), .int (iI (Fs 0 4)), .int (iI (Fs 0 5))])), (y1, .inr (0, [.int (iI (Fs 1 0)), .int (iI (Fs 1 1)), .int (iI (Fs 1 2)), .int (iI (Fs 1 3)), .int (iI (Fs 1 4)), .int (iI (Fs 1 5))])), (y2, .inr (0, [.int (iI (Fs 2 0)), .int (iI (Fs 2 1)), .int (iI (Fs 2 2)), .int (iI (Fs 2 3)), .int (iI (Fs 2 4)), .int (iI (Fs 2 5))])), (y3, .inr (0, [.int (iI (nf tt a b k 0)), .int (iI (nf tt a b k 1)), .int (iI (nf tt a b k 2)), .int (iI (nf tt a b k 3)), .int (iI (nf tt a b k 4)), .int (iI (nf tt a b k 5))]))]) [0, 1, 2, 3, 4, 5] (by decide) rfl
  refine lv_aload_n hx hb dX1_addFactor_34 rfl (lv_at hl 1 rfl) ?_
  refine va_get (D := (dC, dI)) (ci := 1) (v := .int (iI 3)) (C := RX1) (T := TX1) (N := 7) hx hb hw inX1 hown hK hP 0 rfl rfl 4 (by decide) (hw _ mA_57) (fun _ h9 => h9) rfl dX1_addFactor_35 ?_
  refine lv_istore (lv' := [(6, .int (iI 3)), (5, .ref y3), (0, .ref h), (1, .int (iI a)), (2, .int (iI b)), (3, .int (iI k)), (4, .int (iI tt))]) hx hb dX1_addFactor_38 hl (by decide) rfl (fun ls hl => ?_)
  refine lv_iload hx hb dX1_addFactor_40 (lv_at hl 0 rfl) ?_
  refine ix_if_le (tgt := 84) hx hb dX1_addFactor_42 (by decide) (by decide) (fun c5 => absurd c5 (by decide)) (fun _ => ?_)
  refine lv_aload hx hb dX1_addFactor_45 (lv_at hl 1 rfl) ?_
  refine lv_aload_n hx hb dX1_addFactor_47 rfl (lv_at hl 2 rfl) ?_
  refine va_get (D := (dC, dI)) (ci := 1) (v := .ref f) (C := RX1) (T := TX1) (N := 7) hx hb hw inX1 hown hK hP 0 rfl rfl 3 (by decide) (hw _ mA_56) (fun _ h9 => h9) rfl dX1_addFactor_48 ?_
  refine lv_iload hx hb dX1_addFactor_51 (lv_at hl 0 rfl) ?_
  refine ix_iconst (n := 1) hx hb dX1_addFactor_53 ?_
  refine ix_isub hx hb dX1_addFactor_54 ?_
  refine ix_z (y := 2) rfl ?_
  refine ix_aald hx hb hK hP 1 0 rfl rfl 2 ck2 (vp_in_iI (by decide) (by decide) (by decide)) rfl dX1_addFactor_55 ?_
  have hPc := hP.sub (ws' := [(y3, .inr (0, [.int (iI (nf tt a b k 0)), .int (iI (nf tt a b k 1)), .int (iI (nf tt a b k 2)), .int (iI (nf tt a b k 3)), .int (iI (nf tt a b k 4)), .int (iI (nf tt a b k 5))])), (y2, .inr (0, [.int (iI (Fs 2 0)), .int (iI (Fs 2 1)), .int (iI (Fs 2 2)), .int (iI (Fs 2 3)), .int (iI (Fs 2 4)), .int (iI (Fs 2 5))]))]) [5, 4] rfl
  have hKc := hK.sub (tys' := []) [] rfl
  refine vp_callSi (va_Run.run (va_runVN (As := [.ref y2]) (rest := []) ⟨hx, hb, hml, hown, hw⟩ (kX0_standsBefore l dC dI y3 y2 (nf tt a b k) (Fs 2) hX.1 (hF _).1 (fbd_m hX (hF _)) (fbd_m (hF _) hX)) ⟨va_cnB 1 hw (wsA_sub mA_271) rfl rfl rfl (hnb.1 _ mN_268) (hw _ mA_2) (by decide +kernel) ⟨Nat.le_of_ble_eq_true rfl, Nat.le_of_ble_eq_true rfl⟩, hw _ mA_270, hw _ mP_10⟩ ⟨fun a U g mk q => by obtain ⟨q0, qP, qK⟩ := q; exact ⟨q0, qP, va_K.moved (u := U) (U := U.calling g mk a) (Vm.Alike.refl U.vm) qK⟩, va_recv hKc hPc (ci := 0) (q0 := 0) rfl rfl, fun U hU hW => ⟨rfl, by rw [hU]; exact hPc, va_K.moved hW.alike hKc⟩⟩ rfl rfl hl.1 rfl (lv_room (Nat.le_of_ble_eq_true rfl)) dX1_addFactor_56 ⟨Nat.le_of_ble_eq_true rfl, Nat.le_of_ble_eq_true rfl⟩)) (fun r6 h7 => ?_)
  subst h7
  refine ix_if_eq (tgt := 84) hx hb dX1_addFactor_59 (by decide) (before_r _ _) (fun c8 => ?_) (fun c8 => ?_)
  · refine lv_aload_n hx hb dX1_addFactor_84 rfl (lv_at hl 2 rfl) ?_
    refine va_get (D := (dC, dI)) (ci := 1) (v := .ref f) (C := RX1) (T := TX1) (N := 7) hx hb hw inX1 hown hK hP 0 rfl rfl 3 (by decide) (hw _ mA_56) (fun _ h9 => h9) rfl dX1_addFactor_85 ?_
    refine lv_iload hx hb dX1_addFactor_88 (lv_at hl 0 rfl) ?_
    refine lv_aload hx hb dX1_addFactor_90 (lv_at hl 1 rfl) ?_
    refine ix_aast hx hb hK hP hD hS 1 0 5 0 rfl rfl rfl rfl 3 ck3 (vp_in_iI (by decide) (by decide) (by decide)) (q4_u3 y0 y1 y2 y3 y3) dX1_addFactor_92 (fun H locs hP hD hS => ?_)
    have hP : va_P (dC, dI) vwCl [(h, .inr (1, [.ref n, .ref r, .ref d, .ref f, .int (iI 3), .int (iI cn), .int (iI sp)])), (f, .inl (cF, 4, .inr (.inr (.inr (.inr (q4 y0 y1 y2 y3)))))), (y0, .inr (0, [.int (iI (Fs 0 0)), .int (iI (Fs 0 1)), .int (iI (Fs 0 2)), .int (iI (Fs 0 3)), .int (iI (Fs 0 4)), .int (iI (Fs 0 5))])), (y1, .inr (0, [.int (iI (Fs 1 0)), .int (iI (Fs 1 1)), .int (iI (Fs 1 2)), .int (iI (Fs 1 3)), .int (iI (Fs 1 4)), .int (iI (Fs 1 5))])), (y2, .inr (0, [.int (iI (Fs 2 0)), .int (iI (Fs 2 1)), .int (iI (Fs 2 2)), .int (iI (Fs 2 3)), .int (iI (Fs 2 4)), .int (iI (Fs 2 5))])), (y3, .inr (0, [.int (iI (nf tt a b k 0)), .int (iI (nf tt a b k 1)), .int (iI (nf tt a b k 2)), .int (iI (nf tt a b k 3)), .int (iI (nf tt a b k 4)), .int (iI (nf tt a b k 5))]))] H := hP
    have hD : va_D A [(h, .inr (1, [.ref n, .ref r, .ref d, .ref f, .int (iI 3), .int (iI cn), .int (iI sp)])), (f, .inl (cF, 4, .inr (.inr (.inr (.inr (q4 y0 y1 y2 y3)))))), (y0, .inr (0, [.int (iI (Fs 0 0)), .int (iI (Fs 0 1)), .int (iI (Fs 0 2)), .int (iI (Fs 0 3)), .int (iI (Fs 0 4)), .int (iI (Fs 0 5))])), (y1, .inr (0, [.int (iI (Fs 1 0)), .int (iI (Fs 1 1)), .int (iI (Fs 1 2)), .int (iI (Fs 1 3)), .int (iI (Fs 1 4)), .int (iI (Fs 1 5))])), (y2, .inr (0, [.int (iI (Fs 2 0)), .int (iI (Fs 2 1)), .int (iI (Fs 2 2)), .int (iI (Fs 2 3)), .int (iI (Fs 2 4)), .int (iI (Fs 2 5))])), (y3, .inr (0, [.int (iI (nf tt a b k 0)), .int (iI (nf tt a b k 1)), .int (iI (nf tt a b k 2)), .int (iI (nf tt a b k 3)), .int (iI (nf tt a b k 4)), .int (iI (nf tt a b k 5))]))] := hD
    refine lv_aload_n hx hb dX1_addFactor_93 rfl (lv_at hl 2 rfl) ?_
    refine lv_dup hx hb dX1_addFactor_94 rfl ?_
    refine va_get (D := (dC, dI)) (ci := 1) (v := .int (iI 3)) (C := RX1) (T := TX1) (N := 7) hx hb hw inX1 hown hK hP 0 rfl rfl 4 (by decide) (hw _ mA_57) (fun _ h9 => h9) rfl dX1_addFactor_95 ?_
    refine ix_iconst (n := 1) hx hb dX1_addFactor_98 ?_
    refine ix_iadd hx hb dX1_addFactor_99 ?_
    refine ix_z (y := 4) rfl ?_
    refine va_put (D := (dC, dI)) (ci := 1) (v := .int (iI 4)) (ty := .int) (C := RX1) (T := TX1) (N := 7) hx hb hw inX1 tyX1 tyX1_ok nmX1 hown hK hP hD hS 0 rfl rfl 4 (by decide) (hw _ mA_57) (fun _ h9 => h9) rfl (by decide +kernel) rfl rfl (Nat.le_of_ble_eq_true rfl) dX1_addFactor_100 (fun H locs hP hD hS => ?_)
    have hP : va_P (dC, dI) vwCl [(h, .inr (1, [.ref n, .ref r, .ref d, .ref f, .int (iI 4), .int (iI cn), .int (iI sp)])), (f, .inl (cF, 4, .inr (.inr (.inr (.inr (q4 y0 y1 y2 y3)))))), (y0, .inr (0, [.int (iI (Fs 0 0)), .int (iI (Fs 0 1)), .int (iI (Fs 0 2)), .int (iI (Fs 0 3)), .int (iI (Fs 0 4)), .int (iI (Fs 0 5))])), (y1, .inr (0, [.int (iI (Fs 1 0)), .int (iI (Fs 1 1)), .int (iI (Fs 1 2)), .int (iI (Fs 1 3)), .int (iI (Fs 1 4)), .int (iI (Fs 1 5))])), (y2, .inr (0, [.int (iI (Fs 2 0)), .int (iI (Fs 2 1)), .int (iI (Fs 2 2)), .int (iI (Fs 2 3)), .int (iI (Fs 2 4)), .int (iI (Fs 2 5))])), (y3, .inr (0, [.int (iI (nf tt a b k 0)), .int (iI (nf tt a b k 1)), .int (iI (nf tt a b k 2)), .int (iI (nf tt a b k 3)), .int (iI (nf tt a b k 4)), .int (iI (nf tt a b k 5))]))] H := hP
    have hD : va_D A [(h, .inr (1, [.ref n, .ref r, .ref d, .ref f, .int (iI 4), .int (iI cn), .int (iI sp)])), (f, .inl (cF, 4, .inr (.inr (.inr (.inr (q4 y0 y1 y2 y3)))))), (y0, .inr (0, [.int (iI (Fs 0 0)), .int (iI (Fs 0 1)), .int (iI (Fs 0 2)), .int (iI (Fs 0 3)), .int (iI (Fs 0 4)), .int (iI (Fs 0 5))])), (y1, .inr (0, [.int (iI (Fs 1 0)), .int (iI (Fs 1 1)), .int (iI (Fs 1 2)), .int (iI (Fs 1 3)), .int (iI (Fs 1 4)), .int (iI (Fs 1 5))])), (y2, .inr (0, [.int (iI (Fs 2 0)), .int (iI (Fs 2 1)), .int (iI (Fs 2 2)), .int (iI (Fs 2 3)), .int (iI (Fs 2 4)), .int (iI (Fs 2 5))])), (y3, .inr (0, [.int (iI (nf tt a b k 0)), .int (iI (nf tt a b k 1)), .int (iI (nf tt a b k 2)), .int (iI (nf tt a b k 3)), .int (iI (nf tt a b k 4)), .int (iI (nf tt a b k 5))]))] := hD
    have hpost : insP 3 (nf tt a b k) Fs (g4 (Fs 0) (Fs 1) (Fs 2) (nf tt a b k)) 3 := by
      refine ⟨by omega, by omega, rfl, ?_, ?_, ?_, ?_⟩
      · intro i h1 h2
        rcases (show i = 0 ∨ i = 1 ∨ i = 2 by omega) with rfl | rfl | rfl
        · rfl
        · rfl
        · rfl
      · intro i h1 h2; omega
      · intro i h1 h2; omega
      · intro _; exact c8
    have hP9 := hP.sub (ws' := [(h, .inr (1, [.ref n, .ref r, .ref d, .ref f, .int (iI 4), .int (iI cn), .int (iI sp)])), (f, .inl (cF, 4, .inr (.inr (.inr (.inr (q4 y0 y1 y2 y3)))))), (y0, .inr (0, fl (g4 (Fs 0) (Fs 1) (Fs 2) (nf tt a b k) 0))), (y1, .inr (0, fl (g4 (Fs 0) (Fs 1) (Fs 2) (nf tt a b k) 1))), (y2, .inr (0, fl (g4 (Fs 0) (Fs 1) (Fs 2) (nf tt a b k) 2))), (y3, .inr (0, fl (g4 (Fs 0) (Fs 1) (Fs 2) (nf tt a b k) 3)))]) [0, 1, 2, 3, 4, 5] rfl
    have hD9 := hD.sub (ws' := [(h, .inr (1, [.ref n, .ref r, .ref d, .ref f, .int (iI 4), .int (iI cn), .int (iI sp)])), (f, .inl (cF, 4, .inr (.inr (.inr (.inr (q4 y0 y1 y2 y3)))))), (y0, .inr (0, fl (g4 (Fs 0) (Fs 1) (Fs 2) (nf tt a b k) 0))), (y1, .inr (0, fl (g4 (Fs 0) (Fs 1) (Fs 2) (nf tt a b k) 1))), (y2, .inr (0, fl (g4 (Fs 0) (Fs 1) (Fs 2) (nf tt a b k) 2))), (y3, .inr (0, fl (g4 (Fs 0) (Fs 1) (Fs 2) (nf tt a b k) 3)))]) [0, 1, 2, 3, 4, 5] (by decide) rfl
    have hK9 := hK.sub (tys' := [(cF, .object RX0)]) [0] rfl
    exact W.vret hx hb hr (fun t ht hW => ⟨⟨((y0, y1, y2, y3), g4 (Fs 0) (Fs 1) (Fs 2) (nf tt a b k)), rfl, ⟨_, hpost⟩, by rw [ht]; exact hP9, va_K.moved hW.alike hK9, hD9⟩, hS.F ht⟩) hS.2.2 dX1_addFactor_103
  · refine lv_aload_n hx hb dX1_addFactor_62 rfl (lv_at hl 2 rfl) ?_
    refine va_get (D := (dC, dI)) (ci := 1) (v := .ref f) (C := RX1) (T := TX1) (N := 7) hx hb hw inX1 hown hK hP 0 rfl rfl 3 (by decide) (hw _ mA_56) (fun _ h9 => h9) rfl dX1_addFactor_63 ?_
    refine lv_iload hx hb dX1_addFactor_66 (lv_at hl 0 rfl) ?_
    refine lv_aload_n hx hb dX1_addFactor_68 rfl (lv_at hl 2 rfl) ?_
    refine va_get (D := (dC, dI)) (ci := 1) (v := .ref f) (C := RX1) (T := TX1) (N := 7) hx hb hw inX1 hown hK hP 0 rfl rfl 3 (by decide) (hw _ mA_56) (fun _ h9 => h9) rfl dX1_addFactor_69 ?_
    refine lv_iload hx hb dX1_addFactor_72 (lv_at hl 0 rfl) ?_
    refine ix_iconst (n := 1) hx hb dX1_addFactor_74 ?_
    refine ix_isub hx hb dX1_addFactor_75 ?_
    refine ix_z (y := 2) rfl ?_
    refine ix_aald hx hb hK hP 1 0 rfl rfl 2 ck2 (vp_in_iI (by decide) (by decide) (by decide)) rfl dX1_addFactor_76 ?_
    refine ix_aast hx hb hK hP hD hS 1 0 4 0 rfl rfl rfl rfl 3 ck3 (vp_in_iI (by decide) (by decide) (by decide)) (q4_u3 y0 y1 y2 y3 y2) dX1_addFactor_77 (fun H locs hP hD hS => ?_)
    have hP : va_P (dC, dI) vwCl [(h, .inr (1, [.ref n, .ref r, .ref d, .ref f, .int (iI 3), .int (iI cn), .int (iI sp)])), (f, .inl (cF, 4, .inr (.inr (.inr (.inr (q4 y0 y1 y2 y2)))))), (y0, .inr (0, [.int (iI (Fs 0 0)), .int (iI (Fs 0 1)), .int (iI (Fs 0 2)), .int (iI (Fs 0 3)), .int (iI (Fs 0 4)), .int (iI (Fs 0 5))])), (y1, .inr (0, [.int (iI (Fs 1 0)), .int (iI (Fs 1 1)), .int (iI (Fs 1 2)), .int (iI (Fs 1 3)), .int (iI (Fs 1 4)), .int (iI (Fs 1 5))])), (y2, .inr (0, [.int (iI (Fs 2 0)), .int (iI (Fs 2 1)), .int (iI (Fs 2 2)), .int (iI (Fs 2 3)), .int (iI (Fs 2 4)), .int (iI (Fs 2 5))])), (y3, .inr (0, [.int (iI (nf tt a b k 0)), .int (iI (nf tt a b k 1)), .int (iI (nf tt a b k 2)), .int (iI (nf tt a b k 3)), .int (iI (nf tt a b k 4)), .int (iI (nf tt a b k 5))]))] H := hP
    have hD : va_D A [(h, .inr (1, [.ref n, .ref r, .ref d, .ref f, .int (iI 3), .int (iI cn), .int (iI sp)])), (f, .inl (cF, 4, .inr (.inr (.inr (.inr (q4 y0 y1 y2 y2)))))), (y0, .inr (0, [.int (iI (Fs 0 0)), .int (iI (Fs 0 1)), .int (iI (Fs 0 2)), .int (iI (Fs 0 3)), .int (iI (Fs 0 4)), .int (iI (Fs 0 5))])), (y1, .inr (0, [.int (iI (Fs 1 0)), .int (iI (Fs 1 1)), .int (iI (Fs 1 2)), .int (iI (Fs 1 3)), .int (iI (Fs 1 4)), .int (iI (Fs 1 5))])), (y2, .inr (0, [.int (iI (Fs 2 0)), .int (iI (Fs 2 1)), .int (iI (Fs 2 2)), .int (iI (Fs 2 3)), .int (iI (Fs 2 4)), .int (iI (Fs 2 5))])), (y3, .inr (0, [.int (iI (nf tt a b k 0)), .int (iI (nf tt a b k 1)), .int (iI (nf tt a b k 2)), .int (iI (nf tt a b k 3)), .int (iI (nf tt a b k 4)), .int (iI (nf tt a b k 5))]))] := hD
    refine ix_iinc (k := 0) (lv2 := [(6, .int (iI 2)), (5, .ref y3), (0, .ref h), (1, .int (iI a)), (2, .int (iI b)), (3, .int (iI k)), (4, .int (iI tt))]) hx hb dX1_addFactor_78 hl rfl (by decide) rfl (fun ls hl => ?_)
    refine lv_goto (tgt := 40) hx hb dX1_addFactor_81 (by decide) ?_
    refine lv_iload hx hb dX1_addFactor_40 (lv_at hl 0 rfl) ?_
    refine ix_if_le (tgt := 84) hx hb dX1_addFactor_42 (by decide) (by decide) (fun c9 => absurd c9 (by decide)) (fun _ => ?_)
    refine lv_aload hx hb dX1_addFactor_45 (lv_at hl 1 rfl) ?_
    refine lv_aload_n hx hb dX1_addFactor_47 rfl (lv_at hl 2 rfl) ?_
    refine va_get (D := (dC, dI)) (ci := 1) (v := .ref f) (C := RX1) (T := TX1) (N := 7) hx hb hw inX1 hown hK hP 0 rfl rfl 3 (by decide) (hw _ mA_56) (fun _ h9 => h9) rfl dX1_addFactor_48 ?_
    refine lv_iload hx hb dX1_addFactor_51 (lv_at hl 0 rfl) ?_
    refine ix_iconst (n := 1) hx hb dX1_addFactor_53 ?_
    refine ix_isub hx hb dX1_addFactor_54 ?_
    refine ix_z (y := 1) rfl ?_
    refine ix_aald hx hb hK hP 1 0 rfl rfl 1 ck1 (vp_in_iI (by decide) (by decide) (by decide)) rfl dX1_addFactor_55 ?_
    have hPc := hP.sub (ws' := [(y3, .inr (0, [.int (iI (nf tt a b k 0)), .int (iI (nf tt a b k 1)), .int (iI (nf tt a b k 2)), .int (iI (nf tt a b k 3)), .int (iI (nf tt a b k 4)), .int (iI (nf tt a b k 5))])), (y1, .inr (0, [.int (iI (Fs 1 0)), .int (iI (Fs 1 1)), .int (iI (Fs 1 2)), .int (iI (Fs 1 3)), .int (iI (Fs 1 4)), .int (iI (Fs 1 5))]))]) [5, 3] rfl
    have hKc := hK.sub (tys' := []) [] rfl
    refine vp_callSi (va_Run.run (va_runVN (As := [.ref y1]) (rest := []) ⟨hx, hb, hml, hown, hw⟩ (kX0_standsBefore l dC dI y3 y1 (nf tt a b k) (Fs 1) hX.1 (hF _).1 (fbd_m hX (hF _)) (fbd_m (hF _) hX)) ⟨va_cnB 1 hw (wsA_sub mA_271) rfl rfl rfl (hnb.1 _ mN_268) (hw _ mA_2) (by decide +kernel) ⟨Nat.le_of_ble_eq_true rfl, Nat.le_of_ble_eq_true rfl⟩, hw _ mA_270, hw _ mP_10⟩ ⟨fun a U g mk q => by obtain ⟨q0, qP, qK⟩ := q; exact ⟨q0, qP, va_K.moved (u := U) (U := U.calling g mk a) (Vm.Alike.refl U.vm) qK⟩, va_recv hKc hPc (ci := 0) (q0 := 0) rfl rfl, fun U hU hW => ⟨rfl, by rw [hU]; exact hPc, va_K.moved hW.alike hKc⟩⟩ rfl rfl hl.1 rfl (lv_room (Nat.le_of_ble_eq_true rfl)) dX1_addFactor_56 ⟨Nat.le_of_ble_eq_true rfl, Nat.le_of_ble_eq_true rfl⟩)) (fun r10 h11 => ?_)
    subst h11
    refine ix_if_eq (tgt := 84) hx hb dX1_addFactor_59 (by decide) (before_r _ _) (fun c12 => ?_) (fun c12 => ?_)
    · refine lv_aload_n hx hb dX1_addFactor_84 rfl (lv_at hl 2 rfl) ?_
      refine va_get (D := (dC, dI)) (ci := 1) (v := .ref f) (C := RX1) (T := TX1) (N := 7) hx hb hw inX1 hown hK hP 0 rfl rfl 3 (by decide) (hw _ mA_56) (fun _ h9 => h9) rfl dX1_addFactor_85 ?_
      refine lv_iload hx hb dX1_addFactor_88 (lv_at hl 0 rfl) ?_
      refine lv_aload hx hb dX1_addFactor_90 (lv_at hl 1 rfl) ?_
      refine ix_aast hx hb hK hP hD hS 1 0 5 0 rfl rfl rfl rfl 2 ck2 (vp_in_iI (by decide) (by decide) (by decide)) (q4_u2 y0 y1 y2 y2 y3) dX1_addFactor_92 (fun H locs hP hD hS => ?_)
      have hP : va_P (dC, dI) vwCl [(h, .inr (1, [.ref n, .ref r, .ref d, .ref f, .int (iI 3), .int (iI cn), .int (iI sp)])), (f, .inl (cF, 4, .inr (.inr (.inr (.inr (q4 y0 y1 y3 y2)))))), (y0, .inr (0, [.int (iI (Fs 0 0)), .int (iI (Fs 0 1)), .int (iI (Fs 0 2)), .int (iI (Fs 0 3)), .int (iI (Fs 0 4)), .int (iI (Fs 0 5))])), (y1, .inr (0, [.int (iI (Fs 1 0)), .int (iI (Fs 1 1)), .int (iI (Fs 1 2)), .int (iI (Fs 1 3)), .int (iI (Fs 1 4)), .int (iI (Fs 1 5))])), (y2, .inr (0, [.int (iI (Fs 2 0)), .int (iI (Fs 2 1)), .int (iI (Fs 2 2)), .int (iI (Fs 2 3)), .int (iI (Fs 2 4)), .int (iI (Fs 2 5))])), (y3, .inr (0, [.int (iI (nf tt a b k 0)), .int (iI (nf tt a b k 1)), .int (iI (nf tt a b k 2)), .int (iI (nf tt a b k 3)), .int (iI (nf tt a b k 4)), .int (iI (nf tt a b k 5))]))] H := hP
      have hD : va_D A [(h, .inr (1, [.ref n, .ref r, .ref d, .ref f, .int (iI 3), .int (iI cn), .int (iI sp)])), (f, .inl (cF, 4, .inr (.inr (.inr (.inr (q4 y0 y1 y3 y2)))))), (y0, .inr (0, [.int (iI (Fs 0 0)), .int (iI (Fs 0 1)), .int (iI (Fs 0 2)), .int (iI (Fs 0 3)), .int (iI (Fs 0 4)), .int (iI (Fs 0 5))])), (y1, .inr (0, [.int (iI (Fs 1 0)), .int (iI (Fs 1 1)), .int (iI (Fs 1 2)), .int (iI (Fs 1 3)), .int (iI (Fs 1 4)), .int (iI (Fs 1 5))])), (y2, .inr (0, [.int (iI (Fs 2 0)), .int (iI (Fs 2 1)), .int (iI (Fs 2 2)), .int (iI (Fs 2 3)), .int (iI (Fs 2 4)), .int (iI (Fs 2 5))])), (y3, .inr (0, [.int (iI (nf tt a b k 0)), .int (iI (nf tt a b k 1)), .int (iI (nf tt a b k 2)), .int (iI (nf tt a b k 3)), .int (iI (nf tt a b k 4)), .int (iI (nf tt a b k 5))]))] := hD
      refine lv_aload_n hx hb dX1_addFactor_93 rfl (lv_at hl 2 rfl) ?_
      refine lv_dup hx hb dX1_addFactor_94 rfl ?_
      refine va_get (D := (dC, dI)) (ci := 1) (v := .int (iI 3)) (C := RX1) (T := TX1) (N := 7) hx hb hw inX1 hown hK hP 0 rfl rfl 4 (by decide) (hw _ mA_57) (fun _ h9 => h9) rfl dX1_addFactor_95 ?_
      refine ix_iconst (n := 1) hx hb dX1_addFactor_98 ?_
      refine ix_iadd hx hb dX1_addFactor_99 ?_
      refine ix_z (y := 4) rfl ?_
      refine va_put (D := (dC, dI)) (ci := 1) (v := .int (iI 4)) (ty := .int) (C := RX1) (T := TX1) (N := 7) hx hb hw inX1 tyX1 tyX1_ok nmX1 hown hK hP hD hS 0 rfl rfl 4 (by decide) (hw _ mA_57) (fun _ h9 => h9) rfl (by decide +kernel) rfl rfl (Nat.le_of_ble_eq_true rfl) dX1_addFactor_100 (fun H locs hP hD hS => ?_)
      have hP : va_P (dC, dI) vwCl [(h, .inr (1, [.ref n, .ref r, .ref d, .ref f, .int (iI 4), .int (iI cn), .int (iI sp)])), (f, .inl (cF, 4, .inr (.inr (.inr (.inr (q4 y0 y1 y3 y2)))))), (y0, .inr (0, [.int (iI (Fs 0 0)), .int (iI (Fs 0 1)), .int (iI (Fs 0 2)), .int (iI (Fs 0 3)), .int (iI (Fs 0 4)), .int (iI (Fs 0 5))])), (y1, .inr (0, [.int (iI (Fs 1 0)), .int (iI (Fs 1 1)), .int (iI (Fs 1 2)), .int (iI (Fs 1 3)), .int (iI (Fs 1 4)), .int (iI (Fs 1 5))])), (y2, .inr (0, [.int (iI (Fs 2 0)), .int (iI (Fs 2 1)), .int (iI (Fs 2 2)), .int (iI (Fs 2 3)), .int (iI (Fs 2 4)), .int (iI (Fs 2 5))])), (y3, .inr (0, [.int (iI (nf tt a b k 0)), .int (iI (nf tt a b k 1)), .int (iI (nf tt a b k 2)), .int (iI (nf tt a b k 3)), .int (iI (nf tt a b k 4)), .int (iI (nf tt a b k 5))]))] H := hP
      have hD : va_D A [(h, .inr (1, [.ref n, .ref r, .ref d, .ref f, .int (iI 4), .int (iI cn), .int (iI sp)])), (f, .inl (cF, 4, .inr (.inr (.inr (.inr (q4 y0 y1 y3 y2)))))), (y0, .inr (0, [.int (iI (Fs 0 0)), .int (iI (Fs 0 1)), .int (iI (Fs 0 2)), .int (iI (Fs 0 3)), .int (iI (Fs 0 4)), .int (iI (Fs 0 5))])), (y1, .inr (0, [.int (iI (Fs 1 0)), .int (iI (Fs 1 1)), .int (iI (Fs 1 2)), .int (iI (Fs 1 3)), .int (iI (Fs 1 4)), .int (iI (Fs 1 5))])), (y2, .inr (0, [.int (iI (Fs 2 0)), .int (iI (Fs 2 1)), .int (iI (Fs 2 2)), .int (iI (Fs 2 3)), .int (iI (Fs 2 4)), .int (iI (Fs 2 5))])), (y3, .inr (0, [.int (iI (nf tt a b k 0)), .int (iI (nf tt a b k 1)), .int (iI (nf tt a b k 2)), .int (iI (nf tt a b k 3)), .int (iI (nf tt a b k 4)), .int (iI (nf tt a b k 5))]))] := hD
      have hpost : insP 3 (nf tt a b k) Fs (g4 (Fs 0) (Fs 1) (nf tt a b k) (Fs 2)) 2 := by
        refine ⟨by omega, by omega, rfl, ?_, ?_, ?_, ?_⟩
        · intro i h1 h2
          rcases (show i = 0 ∨ i = 1 by omega) with rfl | rfl
          · rfl
          · rfl
        · intro i h1 h2
          rcases (show i = 2 by omega) with rfl
          · rfl
        · intro i h1 h2
          rcases (show i = 2 by omega) with rfl
          · exact before_1 c8
        · intro _; exact c12
      have hP9 := hP.sub (ws' := [(h, .inr (1, [.ref n, .ref r, .ref d, .ref f, .int (iI 4), .int (iI cn), .int (iI sp)])), (f, .inl (cF, 4, .inr (.inr (.inr (.inr (q4 y0 y1 y3 y2)))))), (y0, .inr (0, fl (g4 (Fs 0) (Fs 1) (nf tt a b k) (Fs 2) 0))), (y1, .inr (0, fl (g4 (Fs 0) (Fs 1) (nf tt a b k) (Fs 2) 1))), (y3, .inr (0, fl (g4 (Fs 0) (Fs 1) (nf tt a b k) (Fs 2) 2))), (y2, .inr (0, fl (g4 (Fs 0) (Fs 1) (nf tt a b k) (Fs 2) 3)))]) [0, 1, 2, 3, 5, 4] rfl
      have hD9 := hD.sub (ws' := [(h, .inr (1, [.ref n, .ref r, .ref d, .ref f, .int (iI 4), .int (iI cn), .int (iI sp)])), (f, .inl (cF, 4, .inr (.inr (.inr (.inr (q4 y0 y1 y3 y2)))))), (y0, .inr (0, fl (g4 (Fs 0) (Fs 1) (nf tt a b k) (Fs 2) 0))), (y1, .inr (0, fl (g4 (Fs 0) (Fs 1) (nf tt a b k) (Fs 2) 1))), (y3, .inr (0, fl (g4 (Fs 0) (Fs 1) (nf tt a b k) (Fs 2) 2))), (y2, .inr (0, fl (g4 (Fs 0) (Fs 1) (nf tt a b k) (Fs 2) 3)))]) [0, 1, 2, 3, 5, 4] (by decide) rfl
      have hK9 := hK.sub (tys' := [(cF, .object RX0)]) [0] rfl
      exact W.vret hx hb hr (fun t ht hW => ⟨⟨((y0, y1, y3, y2), g4 (Fs 0) (Fs 1) (nf tt a b k) (Fs 2)), rfl, ⟨_, hpost⟩, by rw [ht]; exact hP9, va_K.moved hW.alike hK9, hD9⟩, hS.F ht⟩) hS.2.2 dX1_addFactor_103
    · refine lv_aload_n hx hb dX1_addFactor_62 rfl (lv_at hl 2 rfl) ?_
      refine va_get (D := (dC, dI)) (ci := 1) (v := .ref f) (C := RX1) (T := TX1) (N := 7) hx hb hw inX1 hown hK hP 0 rfl rfl 3 (by decide) (hw _ mA_56) (fun _ h9 => h9) rfl dX1_addFactor_63 ?_
      refine lv_iload hx hb dX1_addFactor_66 (lv_at hl 0 rfl) ?_
      refine lv_aload_n hx hb dX1_addFactor_68 rfl (lv_at hl 2 rfl) ?_
      refine va_get (D := (dC, dI)) (ci := 1) (v := .ref f) (C := RX1) (T := TX1) (N := 7) hx hb hw inX1 hown hK hP 0 rfl rfl 3 (by decide) (hw _ mA_56) (fun _ h9 => h9) rfl dX1_addFactor_69 ?_
      refine lv_iload hx hb dX1_addFactor_72 (lv_at hl 0 rfl) ?_
      refine ix_iconst (n := 1) hx hb dX1_addFactor_74 ?_
      refine ix_isub hx hb dX1_addFactor_75 ?_
      refine ix_z (y := 1) rfl ?_
      refine ix_aald hx hb hK hP 1 0 rfl rfl 1 ck1 (vp_in_iI (by decide) (by decide) (by decide)) rfl dX1_addFactor_76 ?_
      refine ix_aast hx hb hK hP hD hS 1 0 3 0 rfl rfl rfl rfl 2 ck2 (vp_in_iI (by decide) (by decide) (by decide)) (q4_u2 y0 y1 y2 y2 y1) dX1_addFactor_77 (fun H locs hP hD hS => ?_)
      have hP : va_P (dC, dI) vwCl [(h, .inr (1, [.ref n, .ref r, .ref d, .ref f, .int (iI 3), .int (iI cn), .int (iI sp)])), (f, .inl (cF, 4, .inr (.inr (.inr (.inr (q4 y0 y1 y1 y2)))))), (y0, .inr (0, [.int (iI (Fs 0 0)), .int (iI (Fs 0 1)), .int (iI (Fs 0 2)), .int (iI (Fs 0 3)), .int (iI (Fs 0 4)), .int (iI (Fs 0 5))])), (y1, .inr (0, [.int (iI (Fs 1 0)), .int (iI (Fs 1 1)), .int (iI (Fs 1 2)), .int (iI (Fs 1 3)), .int (iI (Fs 1 4)), .int (iI (Fs 1 5))])), (y2, .inr (0, [.int (iI (Fs 2 0)), .int (iI (Fs 2 1)), .int (iI (Fs 2 2)), .int (iI (Fs 2 3)), .int (iI (Fs 2 4)), .int (iI (Fs 2 5))])), (y3, .inr (0, [.int (iI (nf tt a b k 0)), .int (iI (nf tt a b k 1)), .int (iI (nf tt a b k 2)), .int (iI (nf tt a b k 3)), .int (iI (nf tt a b k 4)), .int (iI (nf tt a b k 5))]))] H := hP
      have hD : va_D A [(h, .inr (1, [.ref n, .ref r, .ref d, .ref f, .int (iI 3), .int (iI cn), .int (iI sp)])), (f, .inl (cF, 4, .inr (.inr (.inr (.inr (q4 y0 y1 y1 y2)))))), (y0, .inr (0, [.int (iI (Fs 0 0)), .int (iI (Fs 0 1)), .int (iI (Fs 0 2)), .int (iI (Fs 0 3)), .int (iI (Fs 0 4)), .int (iI (Fs 0 5))])), (y1, .inr (0, [.int (iI (Fs 1 0)), .int (iI (Fs 1 1)), .int (iI (Fs 1 2)), .int (iI (Fs 1 3)), .int (iI (Fs 1 4)), .int (iI (Fs 1 5))])), (y2, .inr (0, [.int (iI (Fs 2 0)), .int (iI (Fs 2 1)), .int (iI (Fs 2 2)), .int (iI (Fs 2 3)), .int (iI (Fs 2 4)), .int (iI (Fs 2 5))])), (y3, .inr (0, [.int (iI (nf tt a b k 0)), .int (iI (nf tt a b k 1)), .int (iI (nf tt a b k 2)), .int (iI (nf tt a b k 3)), .int (iI (nf tt a b k 4)), .int (iI (nf tt a b k 5))]))] := hD
      refine ix_iinc (k := 0) (lv2 := [(6, .int (iI 1)), (5, .ref y3), (0, .ref h), (1, .int (iI a)), (2, .int (iI b)), (3, .int (iI k)), (4, .int (iI tt))]) hx hb dX1_addFactor_78 hl rfl (by decide) rfl (fun ls hl => ?_)
      refine lv_goto (tgt := 40) hx hb dX1_addFactor_81 (by decide) ?_
      refine lv_iload hx hb dX1_addFactor_40 (lv_at hl 0 rfl) ?_
      refine ix_if_le (tgt := 84) hx hb dX1_addFactor_42 (by decide) (by decide) (fun c13 => absurd c13 (by decide)) (fun _ => ?_)
      refine lv_aload hx hb dX1_addFactor_45 (lv_at hl 1 rfl) ?_
      refine lv_aload_n hx hb dX1_addFactor_47 rfl (lv_at hl 2 rfl) ?_
      refine va_get (D := (dC, dI)) (ci := 1) (v := .ref f) (C := RX1) (T := TX1) (N := 7) hx hb hw inX1 hown hK hP 0 rfl rfl 3 (by decide) (hw _ mA_56) (fun _ h9 => h9) rfl dX1_addFactor_48 ?_
      refine lv_iload hx hb dX1_addFactor_51 (lv_at hl 0 rfl) ?_
      refine ix_iconst (n := 1) hx hb dX1_addFactor_53 ?_
      refine ix_isub hx hb dX1_addFactor_54 ?_
      refine ix_z (y := 0) rfl ?_
      refine ix_aald hx hb hK hP 1 0 rfl rfl 0 ck0 (vp_in_iI (by decide) (by decide) (by decide)) rfl dX1_addFactor_55 ?_
      have hPc := hP.sub (ws' := [(y3, .inr (0, [.int (iI (nf tt a b k 0)), .int (iI (nf tt a b k 1)), .int (iI (nf tt a b k 2)), .int (iI (nf tt a b k 3)), .int (iI (nf tt a b k 4)), .int (iI (nf tt a b k 5))])), (y0, .inr (0, [.int (iI (Fs 0 0)), .int (iI (Fs 0 1)), .int (iI (Fs 0 2)), .int (iI (Fs 0 3)), .int (iI (Fs 0 4)), .int (iI (Fs 0 5))]))]) [5, 2] rfl
      have hKc := hK.sub (tys' := []) [] rfl
      refine vp_callSi (va_Run.run (va_runVN (As := [.ref y0]) (rest := []) ⟨hx, hb, hml, hown, hw⟩ (kX0_standsBefore l dC dI y3 y0 (nf tt a b k) (Fs 0) hX.1 (hF _).1 (fbd_m hX (hF _)) (fbd_m (hF _) hX)) ⟨va_cnB 1 hw (wsA_sub mA_271) rfl rfl rfl (hnb.1 _ mN_268) (hw _ mA_2) (by decide +kernel) ⟨Nat.le_of_ble_eq_true rfl, Nat.le_of_ble_eq_true rfl⟩, hw _ mA_270, hw _ mP_10⟩ ⟨fun a U g mk q => by obtain ⟨q0, qP, qK⟩ := q; exact ⟨q0, qP, va_K.moved (u := U) (U := U.calling g mk a) (Vm.Alike.refl U.vm) qK⟩, va_recv hKc hPc (ci := 0) (q0 := 0) rfl rfl, fun U hU hW => ⟨rfl, by rw [hU]; exact hPc, va_K.moved hW.alike hKc⟩⟩ rfl rfl hl.1 rfl (lv_room (Nat.le_of_ble_eq_true rfl)) dX1_addFactor_56 ⟨Nat.le_of_ble_eq_true rfl, Nat.le_of_ble_eq_true rfl⟩)) (fun r14 h15 => ?_)
      subst h15
      refine ix_if_eq (tgt := 84) hx hb dX1_addFactor_59 (by decide) (before_r _ _) (fun c16 => ?_) (fun c16 => ?_)
      · refine lv_aload_n hx hb dX1_addFactor_84 rfl (lv_at hl 2 rfl) ?_
        refine va_get (D := (dC, dI)) (ci := 1) (v := .ref f) (C := RX1) (T := TX1) (N := 7) hx hb hw inX1 hown hK hP 0 rfl rfl 3 (by decide) (hw _ mA_56) (fun _ h9 => h9) rfl dX1_addFactor_85 ?_
        refine lv_iload hx hb dX1_addFactor_88 (lv_at hl 0 rfl) ?_
        refine lv_aload hx hb dX1_addFactor_90 (lv_at hl 1 rfl) ?_
        refine ix_aast hx hb hK hP hD hS 1 0 5 0 rfl rfl rfl rfl 1 ck1 (vp_in_iI (by decide) (by decide) (by decide)) (q4_u1 y0 y1 y1 y2 y3) dX1_addFactor_92 (fun H locs hP hD hS => ?_)
        have hP : va_P (dC, dI) vwCl [(h, .inr (1, [.ref n, .ref r, .ref d, .ref f, .int (iI 3), .int (iI cn), .int (iI sp)])), (f, .inl (cF, 4, .inr (.inr (.inr (.inr (q4 y0 y3 y1 y2)))))), (y0, .inr (0, [.int (iI (Fs 0 0)), .int (iI (Fs 0 1)), .int (iI (Fs 0 2)), .int (iI (Fs 0 3)), .int (iI (Fs 0 4)), .int (iI (Fs 0 5))])), (y1, .inr (0, [.int (iI (Fs 1 0)), .int (iI (Fs 1 1)), .int (iI (Fs 1 2)), .int (iI (Fs 1 3)), .int (iI (Fs 1 4)), .int (iI (Fs 1 5))])), (y2, .inr (0, [.int (iI (Fs 2 0)), .int (iI (Fs 2 1)), .int (iI (Fs 2 2)), .int (iI (Fs 2 3)), .int (iI (Fs 2 4)), .int (iI (Fs 2 5))])), (y3, .inr (0, [.int (iI (nf tt a b k 0)), .int (iI (nf tt a b k 1)), .int (iI (nf tt a b k 2)), .int (iI (nf tt a b k 3)), .int (iI (nf tt a b k 4)), .int (iI (nf tt a b k 5))]))] H := hP
        have hD : va_D A [(h, .inr (1, [.ref n, .ref r, .ref d, .ref f, .int (iI 3), .int (iI cn), .int (iI sp)])), (f, .inl (cF, 4, .inr (.inr (.inr (.inr (q4 y0 y3 y1 y2)))))), (y0, .inr (0, [.int (iI (Fs 0 0)), .int (iI (Fs 0 1)), .int (iI (Fs 0 2)), .int (iI (Fs 0 3)), .int (iI (Fs 0 4)), .int (iI (Fs 0 5))])), (y1, .inr (0, [.int (iI (Fs 1 0)), .int (iI (Fs 1 1)), .int (iI (Fs 1 2)), .int (iI (Fs 1 3)), .int (iI (Fs 1 4)), .int (iI (Fs 1 5))])), (y2, .inr (0, [.int (iI (Fs 2 0)), .int (iI (Fs 2 1)), .int (iI (Fs 2 2)), .int (iI (Fs 2 3)), .int (iI (Fs 2 4)), .int (iI (Fs 2 5))])), (y3, .inr (0, [.int (iI (nf tt a b k 0)), .int (iI (nf tt a b k 1)), .int (iI (nf tt a b k 2)), .int (iI (nf tt a b k 3)), .int (iI (nf tt a b k 4)), .int (iI (nf tt a b k 5))]))] := hD
        refine lv_aload_n hx hb dX1_addFactor_93 rfl (lv_at hl 2 rfl) ?_
        refine lv_dup hx hb dX1_addFactor_94 rfl ?_
        refine va_get (D := (dC, dI)) (ci := 1) (v := .int (iI 3)) (C := RX1) (T := TX1) (N := 7) hx hb hw inX1 hown hK hP 0 rfl rfl 4 (by decide) (hw _ mA_57) (fun _ h9 => h9) rfl dX1_addFactor_95 ?_
        refine ix_iconst (n := 1) hx hb dX1_addFactor_98 ?_
        refine ix_iadd hx hb dX1_addFactor_99 ?_
        refine ix_z (y := 4) rfl ?_
        refine va_put (D := (dC, dI)) (ci := 1) (v := .int (iI 4)) (ty := .int) (C := RX1) (T := TX1) (N := 7) hx hb hw inX1 tyX1 tyX1_ok nmX1 hown hK hP hD hS 0 rfl rfl 4 (by decide) (hw _ mA_57) (fun _ h9 => h9) rfl (by decide +kernel) rfl rfl (Nat.le_of_ble_eq_true rfl) dX1_addFactor_100 (fun H locs hP hD hS => ?_)
        have hP : va_P (dC, dI) vwCl [(h, .inr (1, [.ref n, .ref r, .ref d, .ref f, .int (iI 4), .int (iI cn), .int (iI sp)])), (f, .inl (cF, 4, .inr (.inr (.inr (.inr (q4 y0 y3 y1 y2)))))), (y0, .inr (0, [.int (iI (Fs 0 0)), .int (iI (Fs 0 1)), .int (iI (Fs 0 2)), .int (iI (Fs 0 3)), .int (iI (Fs 0 4)), .int (iI (Fs 0 5))])), (y1, .inr (0, [.int (iI (Fs 1 0)), .int (iI (Fs 1 1)), .int (iI (Fs 1 2)), .int (iI (Fs 1 3)), .int (iI (Fs 1 4)), .int (iI (Fs 1 5))])), (y2, .inr (0, [.int (iI (Fs 2 0)), .int (iI (Fs 2 1)), .int (iI (Fs 2 2)), .int (iI (Fs 2 3)), .int (iI (Fs 2 4)), .int (iI (Fs 2 5))])), (y3, .inr (0, [.int (iI (nf tt a b k 0)), .int (iI (nf tt a b k 1)), .int (iI (nf tt a b k 2)), .int (iI (nf tt a b k 3)), .int (iI (nf tt a b k 4)), .int (iI (nf tt a b k 5))]))] H := hP
        have hD : va_D A [(h, .inr (1, [.ref n, .ref r, .ref d, .ref f, .int (iI 4), .int (iI cn), .int (iI sp)])), (f, .inl (cF, 4, .inr (.inr (.inr (.inr (q4 y0 y3 y1 y2)))))), (y0, .inr (0, [.int (iI (Fs 0 0)), .int (iI (Fs 0 1)), .int (iI (Fs 0 2)), .int (iI (Fs 0 3)), .int (iI (Fs 0 4)), .int (iI (Fs 0 5))])), (y1, .inr (0, [.int (iI (Fs 1 0)), .int (iI (Fs 1 1)), .int (iI (Fs 1 2)), .int (iI (Fs 1 3)), .int (iI (Fs 1 4)), .int (iI (Fs 1 5))])), (y2, .inr (0, [.int (iI (Fs 2 0)), .int (iI (Fs 2 1)), .int (iI (Fs 2 2)), .int (iI (Fs 2 3)), .int (iI (Fs 2 4)), .int (iI (Fs 2 5))])), (y3, .inr (0, [.int (iI (nf tt a b k 0)), .int (iI (nf tt a b k 1)), .int (iI (nf tt a b k 2)), .int (iI (nf tt a b k 3)), .int (iI (nf tt a b k 4)), .int (iI (nf tt a b k 5))]))] := hD
        have hpost : insP 3 (nf tt a b k) Fs (g4 (Fs 0) (nf tt a b k) (Fs 1) (Fs 2)) 1 := by
          refine ⟨by omega, by omega, rfl, ?_, ?_, ?_, ?_⟩
          · intro i h1 h2
            rcases (show i = 0 by omega) with rfl
            · rfl
          · intro i h1 h2
            rcases (show i = 1 ∨ i = 2 by omega) with rfl | rfl
            · rfl
            · rfl
          · intro i h1 h2
            rcases (show i = 1 ∨ i = 2 by omega) with rfl | rfl
            · exact before_1 c12
            · exact before_1 c8
          · intro _; exact c16
        have hP9 := hP.sub (ws' := [(h, .inr (1, [.ref n, .ref r, .ref d, .ref f, .int (iI 4), .int (iI cn), .int (iI sp)])), (f, .inl (cF, 4, .inr (.inr (.inr (.inr (q4 y0 y3 y1 y2)))))), (y0, .inr (0, fl (g4 (Fs 0) (nf tt a b k) (Fs 1) (Fs 2) 0))), (y3, .inr (0, fl (g4 (Fs 0) (nf tt a b k) (Fs 1) (Fs 2) 1))), (y1, .inr (0, fl (g4 (Fs 0) (nf tt a b k) (Fs 1) (Fs 2) 2))), (y2, .inr (0, fl (g4 (Fs 0) (nf tt a b k) (Fs 1) (Fs 2) 3)))]) [0, 1, 2, 5, 3, 4] rfl
        have hD9 := hD.sub (ws' := [(h, .inr (1, [.ref n, .ref r, .ref d, .ref f, .int (iI 4), .int (iI cn), .int (iI sp)])), (f, .inl (cF, 4, .inr (.inr (.inr (.inr (q4 y0 y3 y1 y2)))))), (y0, .inr (0, fl (g4 (Fs 0) (nf tt a b k) (Fs 1) (Fs 2) 0))), (y3, .inr (0, fl (g4 (Fs 0) (nf tt a b k) (Fs 1) (Fs 2) 1))), (y1, .inr (0, fl (g4 (Fs 0) (nf tt a b k) (Fs 1) (Fs 2) 2))), (y2, .inr (0, fl (g4 (Fs 0) (nf tt a b k) (Fs 1) (Fs 2) 3)))]) [0, 1, 2, 5, 3, 4] (by decide) rfl
        have hK9 := hK.sub (tys' := [(cF, .object RX0)]) [0] rfl
        exact W.vret hx hb hr (fun t ht hW => ⟨⟨((y0, y3, y1, y2), g4 (Fs 0) (nf tt a b k) (Fs 1) (Fs 2)), rfl, ⟨_, hpost⟩, by rw [ht]; exact hP9, va_K.moved hW.alike hK9, hD9⟩, hS.F ht⟩) hS.2.2 dX1_addFactor_103
      · refine lv_aload_n hx hb dX1_addFactor_62 rfl (lv_at hl 2 rfl) ?_
        refine va_get (D := (dC, dI)) (ci := 1) (v := .ref f) (C := RX1) (T := TX1) (N := 7) hx hb hw inX1 hown hK hP 0 rfl rfl 3 (by decide) (hw _ mA_56) (fun _ h9 => h9) rfl dX1_addFactor_63 ?_
        refine lv_iload hx hb dX1_addFactor_66 (lv_at hl 0 rfl) ?_
        refine lv_aload_n hx hb dX1_addFactor_68 rfl (lv_at hl 2 rfl) ?_
        refine va_get (D := (dC, dI)) (ci := 1) (v := .ref f) (C := RX1) (T := TX1) (N := 7) hx hb hw inX1 hown hK hP 0 rfl rfl 3 (by decide) (hw _ mA_56) (fun _ h9 => h9) rfl dX1_addFactor_69 ?_
        refine lv_iload hx hb dX1_addFactor_72 (lv_at hl 0 rfl) ?_
        refine ix_iconst (n := 1) hx hb dX1_addFactor_74 ?_
        refine ix_isub hx hb dX1_addFactor_75 ?_
        refine ix_z (y := 0) rfl ?_
        refine ix_aald hx hb hK hP 1 0 rfl rfl 0 ck0 (vp_in_iI (by decide) (by decide) (by decide)) rfl dX1_addFactor_76 ?_
        refine ix_aast hx hb hK hP hD hS 1 0 2 0 rfl rfl rfl rfl 1 ck1 (vp_in_iI (by decide) (by decide) (by decide)) (q4_u1 y0 y1 y1 y2 y0) dX1_addFactor_77 (fun H locs hP hD hS => ?_)
        have hP : va_P (dC, dI) vwCl [(h, .inr (1, [.ref n, .ref r, .ref d, .ref f, .int (iI 3), .int (iI cn), .int (iI sp)])), (f, .inl (cF, 4, .inr (.inr (.inr (.inr (q4 y0 y0 y1 y2)))))), (y0, .inr (0, [.int (iI (Fs 0 0)), .int (iI (Fs 0 1)), .int (iI (Fs 0 2)), .int (iI (Fs 0 3)), .int (iI (Fs 0 4)), .int (iI (Fs 0 5))])), (y1, .inr (0, [.int (iI (Fs 1 0)), .int (iI (Fs 1 1)), .int (iI (Fs 1 2)), .int (iI (Fs 1 3)), .int (iI (Fs 1 4)), .int (iI (Fs 1 5))])), (y2, .inr (0, [.int (iI (Fs 2 0)), .int (iI (Fs 2 1)), .int (iI (Fs 2 2)), .int (iI (Fs 2 3)), .int (iI (Fs 2 4)), .int (iI (Fs 2 5))])), (y3, .inr (0, [.int (iI (nf tt a b k 0)), .int (iI (nf tt a b k 1)), .int (iI (nf tt a b k 2)), .int (iI (nf tt a b k 3)), .int (iI (nf tt a b k 4)), .int (iI (nf tt a b k 5))]))] H := hP
        have hD : va_D A [(h, .inr (1, [.ref n, .ref r, .ref d, .ref f, .int (iI 3), .int (iI cn), .int (iI sp)])), (f, .inl (cF, 4, .inr (.inr (.inr (.inr (q4 y0 y0 y1 y2)))))), (y0, .inr (0, [.int (iI (Fs 0 0)), .int (iI (Fs 0 1)), .int (iI (Fs 0 2)), .int (iI (Fs 0 3)), .int (iI (Fs 0 4)), .int (iI (Fs 0 5))])), (y1, .inr (0, [.int (iI (Fs 1 0)), .int (iI (Fs 1 1)), .int (iI (Fs 1 2)), .int (iI (Fs 1 3)), .int (iI (Fs 1 4)), .int (iI (Fs 1 5))])), (y2, .inr (0, [.int (iI (Fs 2 0)), .int (iI (Fs 2 1)), .int (iI (Fs 2 2)), .int (iI (Fs 2 3)), .int (iI (Fs 2 4)), .int (iI (Fs 2 5))])), (y3, .inr (0, [.int (iI (nf tt a b k 0)), .int (iI (nf tt a b k 1)), .int (iI (nf tt a b k 2)), .int (iI (nf tt a b k 3)), .int (iI (nf tt a b k 4)), .int (iI (nf tt a b k 5))]))] := hD
        refine ix_iinc (k := 0) (lv2 := [(6, .int (iI 0)), (5, .ref y3), (0, .ref h), (1, .int (iI a)), (2, .int (iI b)), (3, .int (iI k)), (4, .int (iI tt))]) hx hb dX1_addFactor_78 hl rfl (by decide) rfl (fun ls hl => ?_)
        refine lv_goto (tgt := 40) hx hb dX1_addFactor_81 (by decide) ?_
        refine lv_iload hx hb dX1_addFactor_40 (lv_at hl 0 rfl) ?_
        refine ix_if_le (tgt := 84) hx hb dX1_addFactor_42 (by decide) (by decide) (fun _ => ?_) (fun c17 => absurd c17 (by decide))
        refine lv_aload_n hx hb dX1_addFactor_84 rfl (lv_at hl 2 rfl) ?_
        refine va_get (D := (dC, dI)) (ci := 1) (v := .ref f) (C := RX1) (T := TX1) (N := 7) hx hb hw inX1 hown hK hP 0 rfl rfl 3 (by decide) (hw _ mA_56) (fun _ h9 => h9) rfl dX1_addFactor_85 ?_
        refine lv_iload hx hb dX1_addFactor_88 (lv_at hl 0 rfl) ?_
        refine lv_aload hx hb dX1_addFactor_90 (lv_at hl 1 rfl) ?_
        refine ix_aast hx hb hK hP hD hS 1 0 5 0 rfl rfl rfl rfl 0 ck0 (vp_in_iI (by decide) (by decide) (by decide)) (q4_u0 y0 y0 y1 y2 y3) dX1_addFactor_92 (fun H locs hP hD hS => ?_)
        have hP : va_P (dC, dI) vwCl [(h, .inr (1, [.ref n, .ref r, .ref d, .ref f, .int (iI 3), .int (iI cn), .int (iI sp)])), (f, .inl (cF, 4, .inr (.inr (.inr (.inr (q4 y3 y0 y1 y2)))))), (y0, .inr (0, [.int (iI (Fs 0 0)), .int (iI (Fs 0 1)), .int (iI (Fs 0 2)), .int (iI (Fs 0 3)), .int (iI (Fs 0 4)), .int (iI (Fs 0 5))])), (y1, .inr (0, [.int (iI (Fs 1 0)), .int (iI (Fs 1 1)), .int (iI (Fs 1 2)), .int (iI (Fs 1 3)), .int (iI (Fs 1 4)), .int (iI (Fs 1 5))])), (y2, .inr (0, [.int (iI (Fs 2 0)), .int (iI (Fs 2 1)), .int (iI (Fs 2 2)), .int (iI (Fs 2 3)), .int (iI (Fs 2 4)), .int (iI (Fs 2 5))])), (y3, .inr (0, [.int (iI (nf tt a b k 0)), .int (iI (nf tt a b k 1)), .int (iI (nf tt a b k 2)), .int (iI (nf tt a b k 3)), .int (iI (nf tt a b k 4)), .int (iI (nf tt a b k 5))]))] H := hP
        have hD : va_D A [(h, .inr (1, [.ref n, .ref r, .ref d, .ref f, .int (iI 3), .int (iI cn), .int (iI sp)])), (f, .inl (cF, 4, .inr (.inr (.inr (.inr (q4 y3 y0 y1 y2)))))), (y0, .inr (0, [.int (iI (Fs 0 0)), .int (iI (Fs 0 1)), .int (iI (Fs 0 2)), .int (iI (Fs 0 3)), .int (iI (Fs 0 4)), .int (iI (Fs 0 5))])), (y1, .inr (0, [.int (iI (Fs 1 0)), .int (iI (Fs 1 1)), .int (iI (Fs 1 2)), .int (iI (Fs 1 3)), .int (iI (Fs 1 4)), .int (iI (Fs 1 5))])), (y2, .inr (0, [.int (iI (Fs 2 0)), .int (iI (Fs 2 1)), .int (iI (Fs 2 2)), .int (iI (Fs 2 3)), .int (iI (Fs 2 4)), .int (iI (Fs 2 5))])), (y3, .inr (0, [.int (iI (nf tt a b k 0)), .int (iI (nf tt a b k 1)), .int (iI (nf tt a b k 2)), .int (iI (nf tt a b k 3)), .int (iI (nf tt a b k 4)), .int (iI (nf tt a b k 5))]))] := hD
        refine lv_aload_n hx hb dX1_addFactor_93 rfl (lv_at hl 2 rfl) ?_
        refine lv_dup hx hb dX1_addFactor_94 rfl ?_
        refine va_get (D := (dC, dI)) (ci := 1) (v := .int (iI 3)) (C := RX1) (T := TX1) (N := 7) hx hb hw inX1 hown hK hP 0 rfl rfl 4 (by decide) (hw _ mA_57) (fun _ h9 => h9) rfl dX1_addFactor_95 ?_
        refine ix_iconst (n := 1) hx hb dX1_addFactor_98 ?_
        refine ix_iadd hx hb dX1_addFactor_99 ?_
        refine ix_z (y := 4) rfl ?_
        refine va_put (D := (dC, dI)) (ci := 1) (v := .int (iI 4)) (ty := .int) (C := RX1) (T := TX1) (N := 7) hx hb hw inX1 tyX1 tyX1_ok nmX1 hown hK hP hD hS 0 rfl rfl 4 (by decide) (hw _ mA_57) (fun _ h9 => h9) rfl (by decide +kernel) rfl rfl (Nat.le_of_ble_eq_true rfl) dX1_addFactor_100 (fun H locs hP hD hS => ?_)
        have hP : va_P (dC, dI) vwCl [(h, .inr (1, [.ref n, .ref r, .ref d, .ref f, .int (iI 4), .int (iI cn), .int (iI sp)])), (f, .inl (cF, 4, .inr (.inr (.inr (.inr (q4 y3 y0 y1 y2)))))), (y0, .inr (0, [.int (iI (Fs 0 0)), .int (iI (Fs 0 1)), .int (iI (Fs 0 2)), .int (iI (Fs 0 3)), .int (iI (Fs 0 4)), .int (iI (Fs 0 5))])), (y1, .inr (0, [.int (iI (Fs 1 0)), .int (iI (Fs 1 1)), .int (iI (Fs 1 2)), .int (iI (Fs 1 3)), .int (iI (Fs 1 4)), .int (iI (Fs 1 5))])), (y2, .inr (0, [.int (iI (Fs 2 0)), .int (iI (Fs 2 1)), .int (iI (Fs 2 2)), .int (iI (Fs 2 3)), .int (iI (Fs 2 4)), .int (iI (Fs 2 5))])), (y3, .inr (0, [.int (iI (nf tt a b k 0)), .int (iI (nf tt a b k 1)), .int (iI (nf tt a b k 2)), .int (iI (nf tt a b k 3)), .int (iI (nf tt a b k 4)), .int (iI (nf tt a b k 5))]))] H := hP
        have hD : va_D A [(h, .inr (1, [.ref n, .ref r, .ref d, .ref f, .int (iI 4), .int (iI cn), .int (iI sp)])), (f, .inl (cF, 4, .inr (.inr (.inr (.inr (q4 y3 y0 y1 y2)))))), (y0, .inr (0, [.int (iI (Fs 0 0)), .int (iI (Fs 0 1)), .int (iI (Fs 0 2)), .int (iI (Fs 0 3)), .int (iI (Fs 0 4)), .int (iI (Fs 0 5))])), (y1, .inr (0, [.int (iI (Fs 1 0)), .int (iI (Fs 1 1)), .int (iI (Fs 1 2)), .int (iI (Fs 1 3)), .int (iI (Fs 1 4)), .int (iI (Fs 1 5))])), (y2, .inr (0, [.int (iI (Fs 2 0)), .int (iI (Fs 2 1)), .int (iI (Fs 2 2)), .int (iI (Fs 2 3)), .int (iI (Fs 2 4)), .int (iI (Fs 2 5))])), (y3, .inr (0, [.int (iI (nf tt a b k 0)), .int (iI (nf tt a b k 1)), .int (iI (nf tt a b k 2)), .int (iI (nf tt a b k 3)), .int (iI (nf tt a b k 4)), .int (iI (nf tt a b k 5))]))] := hD
        have hpost : insP 3 (nf tt a b k) Fs (g4 (nf tt a b k) (Fs 0) (Fs 1) (Fs 2)) 0 := by
          refine ⟨by omega, by omega, rfl, ?_, ?_, ?_, ?_⟩
          · intro i h1 h2; omega
          · intro i h1 h2
            rcases (show i = 0 ∨ i = 1 ∨ i = 2 by omega) with rfl | rfl | rfl
            · rfl
            · rfl
            · rfl
          · intro i h1 h2
            rcases (show i = 0 ∨ i = 1 ∨ i = 2 by omega) with rfl | rfl | rfl
            · exact before_1 c16
            · exact before_1 c12
            · exact before_1 c8
          · intro h; omega
        have hP9 := hP.sub (ws' := [(h, .inr (1, [.ref n, .ref r, .ref d, .ref f, .int (iI 4), .int (iI cn), .int (iI sp)])), (f, .inl (cF, 4, .inr (.inr (.inr (.inr (q4 y3 y0 y1 y2)))))), (y3, .inr (0, fl (g4 (nf tt a b k) (Fs 0) (Fs 1) (Fs 2) 0))), (y0, .inr (0, fl (g4 (nf tt a b k) (Fs 0) (Fs 1) (Fs 2) 1))), (y1, .inr (0, fl (g4 (nf tt a b k) (Fs 0) (Fs 1) (Fs 2) 2))), (y2, .inr (0, fl (g4 (nf tt a b k) (Fs 0) (Fs 1) (Fs 2) 3)))]) [0, 1, 5, 2, 3, 4] rfl
        have hD9 := hD.sub (ws' := [(h, .inr (1, [.ref n, .ref r, .ref d, .ref f, .int (iI 4), .int (iI cn), .int (iI sp)])), (f, .inl (cF, 4, .inr (.inr (.inr (.inr (q4 y3 y0 y1 y2)))))), (y3, .inr (0, fl (g4 (nf tt a b k) (Fs 0) (Fs 1) (Fs 2) 0))), (y0, .inr (0, fl (g4 (nf tt a b k) (Fs 0) (Fs 1) (Fs 2) 1))), (y1, .inr (0, fl (g4 (nf tt a b k) (Fs 0) (Fs 1) (Fs 2) 2))), (y2, .inr (0, fl (g4 (nf tt a b k) (Fs 0) (Fs 1) (Fs 2) 3)))]) [0, 1, 5, 2, 3, 4] (by decide) rfl
        have hK9 := hK.sub (tys' := [(cF, .object RX0)]) [0] rfl
        exact W.vret hx hb hr (fun t ht hW => ⟨⟨((y3, y0, y1, y2), g4 (nf tt a b k) (Fs 0) (Fs 1) (Fs 2)), rfl, ⟨_, hpost⟩, by rw [ht]; exact hP9, va_K.moved hW.alike hK9, hD9⟩, hS.F ht⟩) hS.2.2 dX1_addFactor_103
end
