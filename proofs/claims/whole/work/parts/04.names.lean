abbrev RX0 : String := "RadicalAnswers$Factor"
def TX0 : u_T := fun k => match k with
  | 0 => ("RadicalAnswers$Factor", "times", "I", false)
  | 1 => ("RadicalAnswers$Factor", "a", "I", false)
  | 2 => ("RadicalAnswers$Factor", "b", "I", false)
  | 3 => ("RadicalAnswers$Factor", "c", "I", false)
  | 4 => ("RadicalAnswers$Factor", "outside", "I", false)
  | _ => ("RadicalAnswers$Factor", "inside", "I", false)
def tyX0 : Nat → FieldType := fun k => match k with
  | 0 => .int
  | 1 => .int
  | 2 => .int
  | 3 => .int
  | 4 => .int
  | _ => .int
theorem nmX0 : ∀ a, a < 6 → ∀ b, b < 6 → a ≠ b → (TX0 a).2.1 ≠ (TX0 b).2.1 := by decide +kernel
theorem tyX0_ok : ∀ k, k < 6 → parseFieldDescriptor (TX0 k).2.2.1 = some (tyX0 k) := by decide +kernel
abbrev RX1 : String := "RadicalAnswers"
def TX1 : u_T := fun k => match k with
  | 0 => ("RadicalAnswers", "numbers", "[I", true)
  | 1 => ("RadicalAnswers", "rest", "[I", true)
  | 2 => ("RadicalAnswers", "draft", "[I", true)
  | 3 => ("RadicalAnswers", "found", "[LRadicalAnswers$Factor;", true)
  | 4 => ("RadicalAnswers", "foundCount", "I", false)
  | 5 => ("RadicalAnswers", "commonNumber", "I", false)
  | _ => ("RadicalAnswers", "isSplit", "Z", false)
def tyX1 : Nat → FieldType := fun k => match k with
  | 0 => .array .int
  | 1 => .array .int
  | 2 => .array .int
  | 3 => .array (.object "RadicalAnswers$Factor")
  | 4 => .int
  | 5 => .int
  | _ => .boolean
theorem nmX1 : ∀ a, a < 7 → ∀ b, b < 7 → a ≠ b → (TX1 a).2.1 ≠ (TX1 b).2.1 := by decide +kernel
theorem tyX1_ok : ∀ k, k < 7 → parseFieldDescriptor (TX1 k).2.2.1 = some (tyX1 k) := by decide +kernel
abbrev RX2 : String := "RadicalAnswersModel"
def TX2 : u_T := fun k => match k with
  | 0 => ("RadicalAnswersModel", "code", "I", false)
  | 1 => ("RadicalAnswersModel", "numbers", "[I", true)
  | 2 => ("RadicalAnswersModel", "rest", "[J", true)
  | 3 => ("RadicalAnswersModel", "quotient", "[J", true)
  | 4 => ("RadicalAnswersModel", "content", "I", false)
  | 5 => ("RadicalAnswersModel", "factors", "I", false)
  | 6 => ("RadicalAnswersModel", "as", "[I", true)
  | 7 => ("RadicalAnswersModel", "bs", "[I", true)
  | 8 => ("RadicalAnswersModel", "cs", "[I", true)
  | 9 => ("RadicalAnswersModel", "often", "[I", true)
  | 10 => ("RadicalAnswersModel", "pUp", "J", false)
  | 11 => ("RadicalAnswersModel", "pDown", "J", false)
  | 12 => ("RadicalAnswersModel", "qUp", "J", false)
  | 13 => ("RadicalAnswersModel", "qDown", "J", false)
  | 14 => ("RadicalAnswersModel", "square", "J", false)
  | 15 => ("RadicalAnswersModel", "up", "J", false)
  | _ => ("RadicalAnswersModel", "down", "J", false)
def tyX2 : Nat → FieldType := fun k => match k with
  | 0 => .int
  | 1 => .array .int
  | 2 => .array .long
  | 3 => .array .long
  | 4 => .int
  | 5 => .int
  | 6 => .array .int
  | 7 => .array .int
  | 8 => .array .int
  | 9 => .array .int
  | 10 => .long
  | 11 => .long
  | 12 => .long
  | 13 => .long
  | 14 => .long
  | 15 => .long
  | _ => .long
theorem nmX2 : ∀ a, a < 17 → ∀ b, b < 17 → a ≠ b → (TX2 a).2.1 ≠ (TX2 b).2.1 := by decide +kernel
theorem tyX2_ok : ∀ k, k < 17 → parseFieldDescriptor (TX2 k).2.2.1 = some (tyX2 k) := by decide +kernel
abbrev RL : String := "RadicalAnswersLaw"
abbrev vwCl : List vw_C := [(RX0, TX0, 6), (RX1, TX1, 7), (RX2, TX2, 17)]
abbrev cX1_init : ByteArray := prog_1_method_1_code
abbrev yX1_init : MethodName := ⟨RX1, "<init>", "()V"⟩
abbrev cX1_put : ByteArray := prog_1_method_2_code
abbrev yX1_put : MethodName := ⟨RX1, "put", "(II)Z"⟩
abbrev cX1_at : ByteArray := prog_1_method_3_code
abbrev yX1_at : MethodName := ⟨RX1, "at", "(I)I"⟩
abbrev cX1_change : ByteArray := prog_1_method_4_code
abbrev yX1_change : MethodName := ⟨RX1, "change", "(I)Z"⟩
abbrev cX1_factors : ByteArray := prog_1_method_5_code
abbrev yX1_factors : MethodName := ⟨RX1, "factors", "()I"⟩
abbrev cX1_factor : ByteArray := prog_1_method_6_code
abbrev yX1_factor : MethodName := ⟨RX1, "factor", "(II)I"⟩
abbrev cX1_content : ByteArray := prog_1_method_7_code
abbrev yX1_content : MethodName := ⟨RX1, "content", "()I"⟩
abbrev cX1_left : ByteArray := prog_1_method_8_code
abbrev yX1_left : MethodName := ⟨RX1, "left", "(I)I"⟩
abbrev cX1_answer : ByteArray := prog_1_method_9_code
abbrev yX1_answer : MethodName := ⟨RX1, "answer", "(III)I"⟩
abbrev cX1_real : ByteArray := prog_1_method_10_code
abbrev yX1_real : MethodName := ⟨RX1, "real", "()I"⟩
abbrev cX1_floor : ByteArray := prog_1_method_11_code
abbrev yX1_floor : MethodName := ⟨RX1, "floor", "(IZ)I"⟩
abbrev cX1_compare : ByteArray := prog_1_method_12_code
abbrev yX1_compare : MethodName := ⟨RX1, "compare", "(IZIZ)I"⟩
abbrev cX1_clear : ByteArray := prog_1_method_13_code
abbrev yX1_clear : MethodName := ⟨RX1, "clear", "()V"⟩
abbrev cX1_checkPower : ByteArray := prog_1_method_14_code
abbrev yX1_checkPower : MethodName := ⟨RX1, "checkPower", "(I)V"⟩
abbrev cX1_checkReal : ByteArray := prog_1_method_15_code
abbrev yX1_checkReal : MethodName := ⟨RX1, "checkReal", "(LRadicalAnswers$Factor;)V"⟩
abbrev cX1_isInLimits : ByteArray := prog_1_method_16_code
abbrev yX1_isInLimits : MethodName := ⟨RX1, "isInLimits", "(I)Z"⟩
abbrev cX1_numbered : ByteArray := prog_1_method_17_code
abbrev yX1_numbered : MethodName := ⟨RX1, "numbered", "(I)LRadicalAnswers$Factor;"⟩
abbrev cX1_draftChange : ByteArray := prog_1_method_18_code
abbrev yX1_draftChange : MethodName := ⟨RX1, "draftChange", "(II)V"⟩
abbrev cX1_draftShift : ByteArray := prog_1_method_19_code
abbrev yX1_draftShift : MethodName := ⟨RX1, "draftShift", "(I)V"⟩
abbrev cX1_split : ByteArray := prog_1_method_20_code
abbrev yX1_split : MethodName := ⟨RX1, "split", "()V"⟩
abbrev cX1_takeOutContent : ByteArray := prog_1_method_21_code
abbrev yX1_takeOutContent : MethodName := ⟨RX1, "takeOutContent", "(I)V"⟩
abbrev cX1_takeOutLinearFactors : ByteArray := prog_1_method_22_code
abbrev yX1_takeOutLinearFactors : MethodName := ⟨RX1, "takeOutLinearFactors", "()V"⟩
abbrev cX1_takeOutQuadraticFactors : ByteArray := prog_1_method_23_code
abbrev yX1_takeOutQuadraticFactors : MethodName := ⟨RX1, "takeOutQuadraticFactors", "()V"⟩
abbrev cX1_takeOut : ByteArray := prog_1_method_24_code
abbrev yX1_takeOut : MethodName := ⟨RX1, "takeOut", "(III)V"⟩
abbrev cX1_divideRest : ByteArray := prog_1_method_25_code
abbrev yX1_divideRest : MethodName := ⟨RX1, "divideRest", "(III)Z"⟩
abbrev cX1_addFactor : ByteArray := prog_1_method_26_code
abbrev yX1_addFactor : MethodName := ⟨RX1, "addFactor", "(IIII)V"⟩
abbrev cX1_degreeOf : ByteArray := prog_1_method_27_code
abbrev yX1_degreeOf : MethodName := ⟨RX1, "degreeOf", "([I)I"⟩
abbrev cX1_commonDivisor : ByteArray := prog_1_method_28_code
abbrev yX1_commonDivisor : MethodName := ⟨RX1, "commonDivisor", "(II)I"⟩
abbrev cX1_greatestSquareDividing : ByteArray := prog_1_method_29_code
abbrev yX1_greatestSquareDividing : MethodName := ⟨RX1, "greatestSquareDividing", "(I)I"⟩
abbrev cX1_wholeRoot : ByteArray := prog_1_method_30_code
abbrev yX1_wholeRoot : MethodName := ⟨RX1, "wholeRoot", "(I)I"⟩
abbrev cX1_signOfSum : ByteArray := prog_1_method_31_code
abbrev yX1_signOfSum : MethodName := ⟨RX1, "signOfSum", "(JJJJJ)I"⟩
abbrev cX1_signOfRoots : ByteArray := prog_1_method_32_code
abbrev yX1_signOfRoots : MethodName := ⟨RX1, "signOfRoots", "(JJJJ)I"⟩
abbrev cX1_signedSquare : ByteArray := prog_1_method_33_code
abbrev yX1_signedSquare : MethodName := ⟨RX1, "signedSquare", "(J)J"⟩
abbrev cX2_init : ByteArray := prog_4_method_1_code
abbrev yX2_init : MethodName := ⟨RX2, "<init>", "()V"⟩
abbrev cX2_thrown : ByteArray := prog_4_method_2_code
abbrev yX2_thrown : MethodName := ⟨RX2, "thrown", "()I"⟩
abbrev cX2_raise : ByteArray := prog_4_method_3_code
abbrev yX2_raise : MethodName := ⟨RX2, "raise", "(I)I"⟩
abbrev cX2_in : ByteArray := prog_4_method_4_code
abbrev yX2_in : MethodName := ⟨RX2, "in", "(JJJ)Z"⟩
abbrev cX2_size : ByteArray := prog_4_method_5_code
abbrev yX2_size : MethodName := ⟨RX2, "size", "(J)J"⟩
abbrev cX2_divisor : ByteArray := prog_4_method_6_code
abbrev yX2_divisor : MethodName := ⟨RX2, "divisor", "(JJ)J"⟩
abbrev cX2_lowest : ByteArray := prog_4_method_7_code
abbrev yX2_lowest : MethodName := ⟨RX2, "lowest", "(JJ)V"⟩
abbrev cX2_put : ByteArray := prog_4_method_8_code
abbrev yX2_put : MethodName := ⟨RX2, "put", "(II)Z"⟩
abbrev cX2_at : ByteArray := prog_4_method_9_code
abbrev yX2_at : MethodName := ⟨RX2, "at", "(I)I"⟩
abbrev cX2_clear : ByteArray := prog_4_method_10_code
abbrev yX2_clear : MethodName := ⟨RX2, "clear", "()V"⟩
abbrev cX2_degree : ByteArray := prog_4_method_11_code
abbrev yX2_degree : MethodName := ⟨RX2, "degree", "()I"⟩
abbrev cX2_change : ByteArray := prog_4_method_12_code
abbrev yX2_change : MethodName := ⟨RX2, "change", "(I)Z"⟩
abbrev cX2_restDegree : ByteArray := prog_4_method_13_code
abbrev yX2_restDegree : MethodName := ⟨RX2, "restDegree", "()I"⟩
abbrev cX2_divides : ByteArray := prog_4_method_14_code
abbrev yX2_divides : MethodName := ⟨RX2, "divides", "(III)Z"⟩
abbrev cX2_take : ByteArray := prog_4_method_15_code
abbrev yX2_take : MethodName := ⟨RX2, "take", "(III)V"⟩
abbrev cX2_order : ByteArray := prog_4_method_16_code
abbrev yX2_order : MethodName := ⟨RX2, "order", "()V"⟩
abbrev cX2_isNone : ByteArray := prog_4_method_17_code
abbrev yX2_isNone : MethodName := ⟨RX2, "isNone", "()Z"⟩
abbrev cX2_find : ByteArray := prog_4_method_18_code
abbrev yX2_find : MethodName := ⟨RX2, "find", "()V"⟩
abbrev cX2_factors : ByteArray := prog_4_method_19_code
abbrev yX2_factors : MethodName := ⟨RX2, "factors", "()I"⟩
abbrev cX2_isFactor : ByteArray := prog_4_method_20_code
abbrev yX2_isFactor : MethodName := ⟨RX2, "isFactor", "(I)Z"⟩
abbrev cX2_answerOf : ByteArray := prog_4_method_21_code
abbrev yX2_answerOf : MethodName := ⟨RX2, "answerOf", "(I)V"⟩
abbrev cX2_factor : ByteArray := prog_4_method_22_code
abbrev yX2_factor : MethodName := ⟨RX2, "factor", "(II)I"⟩
abbrev cX2_content : ByteArray := prog_4_method_23_code
abbrev yX2_content : MethodName := ⟨RX2, "content", "()I"⟩
abbrev cX2_left : ByteArray := prog_4_method_24_code
abbrev yX2_left : MethodName := ⟨RX2, "left", "(I)I"⟩
abbrev cX2_answer : ByteArray := prog_4_method_25_code
abbrev yX2_answer : MethodName := ⟨RX2, "answer", "(III)I"⟩
abbrev cX2_isReal : ByteArray := prog_4_method_26_code
abbrev yX2_isReal : MethodName := ⟨RX2, "isReal", "(I)Z"⟩
abbrev cX2_real : ByteArray := prog_4_method_27_code
abbrev yX2_real : MethodName := ⟨RX2, "real", "()I"⟩
abbrev cX2_sign : ByteArray := prog_4_method_28_code
abbrev yX2_sign : MethodName := ⟨RX2, "sign", "(IZJJ)I"⟩
abbrev cX2_floor : ByteArray := prog_4_method_29_code
abbrev yX2_floor : MethodName := ⟨RX2, "floor", "(IZ)I"⟩
abbrev cX2_compare : ByteArray := prog_4_method_30_code
abbrev yX2_compare : MethodName := ⟨RX2, "compare", "(IZIZ)I"⟩
abbrev cX2_leading : ByteArray := prog_4_method_31_code
abbrev yX2_leading : MethodName := ⟨RX2, "leading", "(I)J"⟩
abbrev cX2_middle : ByteArray := prog_4_method_32_code
abbrev yX2_middle : MethodName := ⟨RX2, "middle", "(I)J"⟩
abbrev cX2_under : ByteArray := prog_4_method_33_code
abbrev yX2_under : MethodName := ⟨RX2, "under", "(I)J"⟩
abbrev cX2_signOf : ByteArray := prog_4_method_34_code
abbrev yX2_signOf : MethodName := ⟨RX2, "signOf", "(J)I"⟩
abbrev cX2_rootSign : ByteArray := prog_4_method_35_code
abbrev yX2_rootSign : MethodName := ⟨RX2, "rootSign", "(JJJ)I"⟩
abbrev cX2_allSign : ByteArray := prog_4_method_36_code
abbrev yX2_allSign : MethodName := ⟨RX2, "allSign", "(JJJJJ)I"⟩
abbrev cX0_init : ByteArray := prog_2_method_1_code
abbrev yX0_init : MethodName := ⟨RX0, "<init>", "()V"⟩
abbrev cX0_become : ByteArray := prog_2_method_2_code
abbrev yX0_become : MethodName := ⟨RX0, "become", "(IIII)V"⟩
abbrev cX0_isLinear : ByteArray := prog_2_method_3_code
abbrev yX0_isLinear : MethodName := ⟨RX0, "isLinear", "()Z"⟩
abbrev cX0_isReal : ByteArray := prog_2_method_4_code
abbrev yX0_isReal : MethodName := ⟨RX0, "isReal", "()Z"⟩
abbrev cX0_middle : ByteArray := prog_2_method_5_code
abbrev yX0_middle : MethodName := ⟨RX0, "middle", "()I"⟩
abbrev cX0_under : ByteArray := prog_2_method_6_code
abbrev yX0_under : MethodName := ⟨RX0, "under", "()I"⟩
abbrev cX0_below : ByteArray := prog_2_method_7_code
abbrev yX0_below : MethodName := ⟨RX0, "below", "()I"⟩
abbrev cX0_standsBefore : ByteArray := prog_2_method_8_code
abbrev yX0_standsBefore : MethodName := ⟨RX0, "standsBefore", "(LRadicalAnswers$Factor;)Z"⟩
abbrev cL_put : ByteArray := method_3_code
abbrev yL_put : MethodName := ⟨RL, "put", "(LRadicalAnswers;II[J)I"⟩
abbrev cL_at : ByteArray := method_4_code
abbrev yL_at : MethodName := ⟨RL, "at", "(LRadicalAnswers;I[J)I"⟩
abbrev cL_change : ByteArray := method_5_code
abbrev yL_change : MethodName := ⟨RL, "change", "(LRadicalAnswers;I[J)I"⟩
abbrev cL_factors : ByteArray := method_6_code
abbrev yL_factors : MethodName := ⟨RL, "factors", "(LRadicalAnswers;[J)I"⟩
abbrev cL_factor : ByteArray := method_7_code
abbrev yL_factor : MethodName := ⟨RL, "factor", "(LRadicalAnswers;II[J)I"⟩
abbrev cL_content : ByteArray := method_8_code
abbrev yL_content : MethodName := ⟨RL, "content", "(LRadicalAnswers;[J)I"⟩
abbrev cL_left : ByteArray := method_9_code
abbrev yL_left : MethodName := ⟨RL, "left", "(LRadicalAnswers;I[J)I"⟩
abbrev cL_answer : ByteArray := method_10_code
abbrev yL_answer : MethodName := ⟨RL, "answer", "(LRadicalAnswers;III[J)I"⟩
abbrev cL_real : ByteArray := method_11_code
abbrev yL_real : MethodName := ⟨RL, "real", "(LRadicalAnswers;[J)I"⟩
abbrev cL_floor : ByteArray := method_12_code
abbrev yL_floor : MethodName := ⟨RL, "floor", "(LRadicalAnswers;IZ[J)I"⟩
abbrev cL_compare : ByteArray := method_13_code
abbrev yL_compare : MethodName := ⟨RL, "compare", "(LRadicalAnswers;IZIZ[J)I"⟩
abbrev cL_law : ByteArray := code
abbrev yL_law : MethodName := ⟨RL, "law", "([I)Z"⟩
/-- the words that every method may use and hand on -/
def wsA : List Cond := lw_tbl.filter goodWord
/-- the others: they hold as long as the tables only grow -/
def wsB : List Cond := lw_tbl.filter (fun w => !goodWord w)
theorem wsA_t {w : Cond} (h : w ∈ tables_1) (g : goodWord w = true) : w ∈ wsA := List.mem_filter.mpr ⟨List.mem_append_right _ h, g⟩
theorem wsA_p {w : Cond} (h : w ∈ k2_sels lw_privs) (g : goodWord w = true) : w ∈ wsA := List.mem_filter.mpr ⟨List.mem_append_left _ h, g⟩
theorem wsB_t {w : Cond} (h : w ∈ tables_1) (g : goodWord w = false) : w ∈ wsB := List.mem_filter.mpr ⟨List.mem_append_right _ h, by rw [g]; rfl⟩
theorem wsA_good : GoodIn wsA wsA := fun w h => ⟨h, good_of_word (List.mem_filter.mp h).2⟩
theorem wsA_sub {k : Cond} (h : k ∈ wsA) : GoodIn wsA (k :: wsA) := fun w q => (List.mem_cons.mp q).elim (fun e => by rw [e]; exact wsA_good k h) (fun q => wsA_good w q)
theorem gS {own : String} {idx : Nat} {y : MethodName} {k : Cond} (h1 : Cond.methodLink own idx y ∈ wsA) (h2 : Cond.static y ∈ wsA) (h3 : Cond.initialized own ∈ wsA) (h4 : k ∈ wsA) : GoodIn wsA (wsS own idx y (k :: wsA)) := fun w q => by
  simp only [wsS, List.cons_append, List.nil_append, List.mem_cons] at q
  rcases q with rfl | rfl | rfl | rfl | q
  · exact wsA_good _ h1
  · exact wsA_good _ h2
  · exact wsA_good _ h3
  · exact wsA_good _ h4
  · exact wsA_good _ q
theorem gV {own C : String} {idx : Nat} {y : MethodName} {k : Cond} (h1 : Cond.methodLink own idx y ∈ wsA) (h2 : Cond.instanceMethod y ∈ wsA) (h3 : Cond.selects C y y ∈ wsA) (h5 : Cond.initialized C ∈ wsA) (h4 : k ∈ wsA) : GoodIn wsA (wsV own idx C y (k :: wsA)) := fun w q => by
  simp only [wsV, List.cons_append, List.nil_append, List.mem_cons] at q
  rcases q with rfl | rfl | rfl | rfl | rfl | q
  · exact wsA_good _ h1
  · exact wsA_good _ h2
  · exact wsA_good _ h3
  · exact wsA_good _ h5
  · exact wsA_good _ h4
  · exact wsA_good _ q
