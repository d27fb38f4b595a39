/-! the sign of w + a root m + b root n, reckoned in two ways -/
theorem sg_neg (x : Int) : f_sg (-x) = -f_sg x := by unfold f_sg; grind
theorem ssq_neg (x : Int) : f_ssq (-x) = -f_ssq x := by unfold f_ssq; grind
theorem sg_p {x : Int} (h : 0 < x) : f_sg x = 1 := if_pos h
theorem sg_n {x : Int} (h : x < 0) : f_sg x = -1 := by unfold f_sg; rw [if_neg (by omega), if_pos h]
theorem sg_z : f_sg 0 = 0 := rfl
theorem ssq_p {x : Int} (h : 0 ≤ x) : f_ssq x = x * x := if_neg (by omega)
theorem ssq_n {x : Int} (h : x < 0) : f_ssq x = -(x * x) := by unfold f_ssq; rw [if_pos h, Int.neg_mul]
theorem sg_ssq (x : Int) : f_sg (f_ssq x) = f_sg x := by
  rcases (show x < 0 ∨ x = 0 ∨ 0 < x by omega) with z | z | z
  · rw [ssq_n z, sg_n z, sg_n]; have := Int.mul_pos_of_neg_of_neg z z; omega
  · subst z; rfl
  · rw [ssq_p (by omega), sg_p z, sg_p]; exact Int.mul_pos z z
theorem rs_sg {a b d : Int} (hd : 0 ≤ d) : f_rs a b d = f_sg (f_ssq a + f_ssq b * d) := by
  have h1 : a ≠ 0 → 0 < a * a := fun h => by
    rcases (show a < 0 ∨ 0 < a by omega) with q | q
    · exact Int.mul_pos_of_neg_of_neg q q
    · exact Int.mul_pos q q
  have h3 : b ≠ 0 → d ≠ 0 → 0 < b * b * d := fun h g => by
    rcases (show b < 0 ∨ 0 < b by omega) with q | q
    · exact Int.mul_pos (Int.mul_pos_of_neg_of_neg q q) (by omega)
    · exact Int.mul_pos (Int.mul_pos q q) (by omega)
  have e1 : -(b * b) * d = -(b * b * d) := Int.neg_mul _ _
  unfold f_rs
  by_cases z : d = 0
  · subst z
    rw [if_pos rfl, Int.mul_zero, Int.mul_zero, Int.add_zero, sg_ssq, if_pos (Or.inr (Or.inl rfl))]
    grind
  · rw [if_neg z]
    rcases (show b < 0 ∨ b = 0 ∨ 0 < b by omega) with y | y | y <;> rcases (show a < 0 ∨ a = 0 ∨ 0 < a by omega) with x | x | x
    · have g1 := h1 (by omega)
      have g3 := h3 (by omega) z
      rw [sg_n y, sg_n x, ssq_n y, ssq_n x, e1, if_pos (Or.inr (Or.inr rfl)), if_neg (by decide), sg_n (by omega)]
    · subst x
      have g3 := h3 (by omega) z
      rw [sg_z, if_pos (Or.inl rfl), if_pos rfl, sg_n y, ssq_n y, e1, ssq_p (by decide), sg_n (by omega)]
    · have g1 := h1 (by omega)
      rw [sg_n y, sg_p x, ssq_n y, ssq_p (x := a) (by omega), e1, if_neg (by decide), Int.one_mul]
      rfl
    · subst y
      rw [sg_z, if_pos (Or.inr (Or.inl rfl)), ssq_p (x := 0) (by decide), Int.mul_zero, Int.zero_mul, Int.add_zero, sg_ssq, if_neg (by rw [sg_n x]; decide)]
    · subst y; subst x
      rw [sg_z, if_pos (Or.inl rfl), if_pos rfl, ssq_p (x := 0) (by decide), Int.mul_zero, Int.zero_mul, Int.add_zero]; rfl
    · subst y
      rw [sg_z, if_pos (Or.inr (Or.inl rfl)), ssq_p (x := 0) (by decide), Int.mul_zero, Int.zero_mul, Int.add_zero, sg_ssq, if_neg (by rw [sg_p x]; decide)]
    · rw [sg_p y, sg_n x, ssq_p (x := b) (by omega), ssq_n x, if_neg (by decide), Int.neg_mul, Int.one_mul, ← sg_neg]
      congr 1
      omega
    · subst x
      have g3 := h3 (by omega) z
      rw [sg_z, if_pos (Or.inl rfl), if_pos rfl, sg_p y, ssq_p (x := b) (by omega), ssq_p (by decide), sg_p (by omega)]
    · have g1 := h1 (by omega)
      have g3 := h3 (by omega) z
      rw [sg_p y, sg_p x, ssq_p (x := b) (by omega), ssq_p (x := a) (by omega), if_pos (Or.inr (Or.inr rfl)), if_neg (by decide), sg_p (by omega)]
/-- the first way, of squares W, A, B with signs -/
def c_ss (o e f W A B : Int) : Int := f_sg (f_ssq (o * W + f_sg (e * A + f * B) * (A + B)) + f_sg (e * A + f * B) * e * f * (4 * (A * B)))
/-- the second way -/
def c_as (o e f W A B : Int) : Int := if f_sg (o * W + e * A) = 0 ∨ f_sg (f * B) = 0 ∨ f_sg (o * W + e * A) = f_sg (f * B) then (if f_sg (o * W + e * A) = 0 then f_sg (f * B) else f_sg (o * W + e * A)) else f_sg (o * W + e * A) * f_sg (f_ssq (W + A - B) + o * e * (4 * (W * A)))
theorem H_1 (W A B : Int) : 4 * (A * B) - (A + B - W) * (A + B - W) = 4 * (W * A) - (W + A - B) * (W + A - B) := by grind
theorem neg_sq (x y : Int) : (x - y) * (x - y) = (y - x) * (y - x) := by grind
theorem sq_sum (A B : Int) : (A + B) * (A + B) = (A - B) * (A - B) + 4 * (A * B) := by grind
theorem sq_add (W S : Int) : (W + S) * (W + S) = W * W + 2 * (W * S) + S * S := by grind
theorem sq_nn (x : Int) : 0 ≤ x * x := by
  rcases (show x < 0 ∨ 0 ≤ x by omega) with q | q
  · have := Int.mul_pos_of_neg_of_neg q q; omega
  · exact Int.mul_nonneg q q
/-- (W + A + B)² is above 4 A B -/
theorem sum_gt {W A B : Int} (hW : 0 ≤ W) (hA : 0 ≤ A) (hB : 0 ≤ B) (h : A ≠ B ∨ (0 < W)) : 0 < (W + (A + B)) * (W + (A + B)) - 4 * (A * B) := by
  have h1 := sq_add W (A + B)
  have h2 := sq_sum A B
  have h3 := sq_nn (A - B)
  have h4 := sq_nn W
  have h5 := Int.mul_nonneg hW (show 0 ≤ A + B by omega)
  rcases h with h | h
  · have : 0 < (A - B) * (A - B) := by
      rcases (show A - B < 0 ∨ 0 < A - B by omega) with q | q
      · exact Int.mul_pos_of_neg_of_neg q q
      · exact Int.mul_pos q q
    omega
  · have := Int.mul_pos h h
    omega
theorem sq_lt {x y : Int} (h : 0 ≤ x) (h2 : x < y) : x * x < y * y := by
  have h3 := sq_mono (a := x + 1) (b := y) (by omega) (by omega)
  have h4 := sq_add x 1
  omega
/-- where s is the sign of the two roots together -/
theorem ss_s {o e f W A B s : Int} (h : f_sg (e * A + f * B) = s) : c_ss o e f W A B = f_sg (f_ssq (o * W + s * (A + B)) + s * e * f * (4 * (A * B))) := by unfold c_ss; rw [h]
theorem as_s {o e f W A B s t : Int} (h : f_sg (o * W + e * A) = s) (h2 : f_sg (f * B) = t) : c_as o e f W A B = if s = 0 ∨ t = 0 ∨ s = t then (if s = 0 then t else s) else s * f_sg (f_ssq (W + A - B) + o * e * (4 * (W * A))) := by unfold c_as; rw [h, h2]
theorem sg_or (x : Int) : (x < 0 ∧ f_sg x = -1) ∨ (x = 0 ∧ f_sg x = 0) ∨ (0 < x ∧ f_sg x = 1) := by
  rcases (show x < 0 ∨ x = 0 ∨ 0 < x by omega) with z | z | z
  · exact Or.inl ⟨z, sg_n z⟩
  · exact Or.inr (Or.inl ⟨z, by rw [z]; rfl⟩)
  · exact Or.inr (Or.inr ⟨z, sg_p z⟩)
theorem ssq_or (x : Int) : (x < 0 ∧ f_ssq x = -(x * x) ∧ 0 < x * x) ∨ (x = 0 ∧ f_ssq x = 0 ∧ x * x = 0) ∨ (0 < x ∧ f_ssq x = x * x ∧ 0 < x * x) := by
  rcases (show x < 0 ∨ x = 0 ∨ 0 < x by omega) with z | z | z
  · exact Or.inl ⟨z, ssq_n z, Int.mul_pos_of_neg_of_neg z z⟩
  · exact Or.inr (Or.inl ⟨z, by rw [z]; rfl, by rw [z]; rfl⟩)
  · exact Or.inr (Or.inr ⟨z, ssq_p (by omega), Int.mul_pos z z⟩)
theorem lt_a {x A B : Int} (h0 : 0 ≤ x) (h1 : x ≤ 2 * A) (h2 : A < B) (h3 : 0 < A) : x * x < 4 * (A * B) := by
  have g1 := sq_mono h0 h1
  have g2 := Int.mul_lt_mul_of_pos_left h2 h3
  have g4 : 2 * A * (2 * A) = 4 * (A * A) := by grind
  omega
theorem lt_b {x A B : Int} (h0 : 0 ≤ x) (h1 : x ≤ B) (h3 : 0 < B) (h2 : B ≤ A) : x * x < 4 * (A * B) := by
  have g1 := sq_mono h0 h1
  have g2 := Int.mul_le_mul_of_nonneg_right h2 (show 0 ≤ B by omega)
  have g3 := Int.mul_pos h3 h3
  omega
theorem c_ppp {W A B : Int} (hW : 0 ≤ W) (hA : 0 ≤ A) (hB : 0 ≤ B) : c_ss 1 1 1 W A B = c_as 1 1 1 W A B := by
  have hab := Int.mul_nonneg hA hB
  have hwa := Int.mul_nonneg hW hA
  have hw2 := sq_nn W
  have h2 : 0 < W → 0 < W * W := fun h => Int.mul_pos h h
  have h6 := H_1 W A B
  have h7 : 0 < A → 0 < B → 0 < A * B := fun h g => Int.mul_pos h g
  have h8 : 0 < W → 0 < A → 0 < W * A := fun h g => Int.mul_pos h g
  have h1 : (A ≠ B ∨ 0 < W) → 0 < (W + (A + B)) * (W + (A + B)) - 4 * (A * B) := fun h => sum_gt hW hA hB h
  have k1 : 0 ≤ A + B - W → A + B - W ≤ 2 * A → A < B → 0 < A → (A + B - W) * (A + B - W) < 4 * (A * B) := lt_a
  have k2 : 0 ≤ A + B - W → A + B - W ≤ B → 0 < B → B ≤ A → (A + B - W) * (A + B - W) < 4 * (A * B) := lt_b
  have k3 : 0 ≤ W + A - B → W + A - B ≤ W → 0 < W → W ≤ A → (W + A - B) * (W + A - B) < 4 * (A * W) := lt_b
  have k4 : 0 ≤ W + A - B → W + A - B ≤ 2 * A → A < W → 0 < A → (W + A - B) * (W + A - B) < 4 * (A * W) := lt_a
  rcases sg_or (1 * A + 1 * B) with ⟨z, e⟩ | ⟨z, e⟩ | ⟨z, e⟩
  · rw [ss_s e]
    rcases sg_or (1 * W + 1 * A) with ⟨y, e2⟩ | ⟨y, e2⟩ | ⟨y, e2⟩ <;> rcases sg_or (1 * B) with ⟨x, e3⟩ | ⟨x, e3⟩ | ⟨x, e3⟩ <;> rcases ssq_or (1 * W + -1 * (A + B)) with ⟨q, q2, q3⟩ | ⟨q, q2, q3⟩ | ⟨q, q2, q3⟩ <;> rcases ssq_or (W + A - B) with ⟨r, r2, r3⟩ | ⟨r, r2, r3⟩ | ⟨r, r2, r3⟩ <;> first | omega | skip
    all_goals rw [as_s e2 e3, q2, r2]
    all_goals clear e e2 e3 q2 r2
    all_goals unfold f_sg
    all_goals grind
  · rw [ss_s e]
    rcases sg_or (1 * W + 1 * A) with ⟨y, e2⟩ | ⟨y, e2⟩ | ⟨y, e2⟩ <;> rcases sg_or (1 * B) with ⟨x, e3⟩ | ⟨x, e3⟩ | ⟨x, e3⟩ <;> rcases ssq_or (1 * W + 0 * (A + B)) with ⟨q, q2, q3⟩ | ⟨q, q2, q3⟩ | ⟨q, q2, q3⟩ <;> rcases ssq_or (W + A - B) with ⟨r, r2, r3⟩ | ⟨r, r2, r3⟩ | ⟨r, r2, r3⟩ <;> first | omega | skip
    all_goals rw [as_s e2 e3, q2, r2]
    all_goals clear e e2 e3 q2 r2
    all_goals unfold f_sg
    all_goals grind
  · rw [ss_s e]
    rcases sg_or (1 * W + 1 * A) with ⟨y, e2⟩ | ⟨y, e2⟩ | ⟨y, e2⟩ <;> rcases sg_or (1 * B) with ⟨x, e3⟩ | ⟨x, e3⟩ | ⟨x, e3⟩ <;> rcases ssq_or (1 * W + 1 * (A + B)) with ⟨q, q2, q3⟩ | ⟨q, q2, q3⟩ | ⟨q, q2, q3⟩ <;> rcases ssq_or (W + A - B) with ⟨r, r2, r3⟩ | ⟨r, r2, r3⟩ | ⟨r, r2, r3⟩ <;> first | omega | skip
    all_goals rw [as_s e2 e3, q2, r2]
    all_goals clear e e2 e3 q2 r2
    all_goals unfold f_sg
    all_goals grind
theorem c_ppn {W A B : Int} (hW : 0 ≤ W) (hA : 0 ≤ A) (hB : 0 ≤ B) : c_ss 1 1 (-1) W A B = c_as 1 1 (-1) W A B := by
  have hab := Int.mul_nonneg hA hB
  have hwa := Int.mul_nonneg hW hA
  have hw2 := sq_nn W
  have h2 : 0 < W → 0 < W * W := fun h => Int.mul_pos h h
  have h6 := H_1 W A B
  have h7 : 0 < A → 0 < B → 0 < A * B := fun h g => Int.mul_pos h g
  have h8 : 0 < W → 0 < A → 0 < W * A := fun h g => Int.mul_pos h g
  have h1 : (A ≠ B ∨ 0 < W) → 0 < (W + (A + B)) * (W + (A + B)) - 4 * (A * B) := fun h => sum_gt hW hA hB h
  have k1 : 0 ≤ A + B - W → A + B - W ≤ 2 * A → A < B → 0 < A → (A + B - W) * (A + B - W) < 4 * (A * B) := lt_a
  have k2 : 0 ≤ A + B - W → A + B - W ≤ B → 0 < B → B ≤ A → (A + B - W) * (A + B - W) < 4 * (A * B) := lt_b
  have k3 : 0 ≤ W + A - B → W + A - B ≤ W → 0 < W → W ≤ A → (W + A - B) * (W + A - B) < 4 * (A * W) := lt_b
  have k4 : 0 ≤ W + A - B → W + A - B ≤ 2 * A → A < W → 0 < A → (W + A - B) * (W + A - B) < 4 * (A * W) := lt_a
  rcases sg_or (1 * A + -1 * B) with ⟨z, e⟩ | ⟨z, e⟩ | ⟨z, e⟩
  · rw [ss_s e]
    rcases sg_or (1 * W + 1 * A) with ⟨y, e2⟩ | ⟨y, e2⟩ | ⟨y, e2⟩ <;> rcases sg_or (-1 * B) with ⟨x, e3⟩ | ⟨x, e3⟩ | ⟨x, e3⟩ <;> rcases ssq_or (1 * W + -1 * (A + B)) with ⟨q, q2, q3⟩ | ⟨q, q2, q3⟩ | ⟨q, q2, q3⟩ <;> rcases ssq_or (W + A - B) with ⟨r, r2, r3⟩ | ⟨r, r2, r3⟩ | ⟨r, r2, r3⟩ <;> first | omega | skip
    all_goals rw [as_s e2 e3, q2, r2]
    all_goals clear e e2 e3 q2 r2
    all_goals unfold f_sg
    all_goals grind
  · rw [ss_s e]
    rcases sg_or (1 * W + 1 * A) with ⟨y, e2⟩ | ⟨y, e2⟩ | ⟨y, e2⟩ <;> rcases sg_or (-1 * B) with ⟨x, e3⟩ | ⟨x, e3⟩ | ⟨x, e3⟩ <;> rcases ssq_or (1 * W + 0 * (A + B)) with ⟨q, q2, q3⟩ | ⟨q, q2, q3⟩ | ⟨q, q2, q3⟩ <;> rcases ssq_or (W + A - B) with ⟨r, r2, r3⟩ | ⟨r, r2, r3⟩ | ⟨r, r2, r3⟩ <;> first | omega | skip
    all_goals rw [as_s e2 e3, q2, r2]
    all_goals clear e e2 e3 q2 r2
    all_goals unfold f_sg
    all_goals grind
  · rw [ss_s e]
    rcases sg_or (1 * W + 1 * A) with ⟨y, e2⟩ | ⟨y, e2⟩ | ⟨y, e2⟩ <;> rcases sg_or (-1 * B) with ⟨x, e3⟩ | ⟨x, e3⟩ | ⟨x, e3⟩ <;> rcases ssq_or (1 * W + 1 * (A + B)) with ⟨q, q2, q3⟩ | ⟨q, q2, q3⟩ | ⟨q, q2, q3⟩ <;> rcases ssq_or (W + A - B) with ⟨r, r2, r3⟩ | ⟨r, r2, r3⟩ | ⟨r, r2, r3⟩ <;> first | omega | skip
    all_goals rw [as_s e2 e3, q2, r2]
    all_goals clear e e2 e3 q2 r2
    all_goals unfold f_sg
    all_goals grind
theorem c_pnp {W A B : Int} (hW : 0 ≤ W) (hA : 0 ≤ A) (hB : 0 ≤ B) : c_ss 1 (-1) 1 W A B = c_as 1 (-1) 1 W A B := by
  have hab := Int.mul_nonneg hA hB
  have hwa := Int.mul_nonneg hW hA
  have hw2 := sq_nn W
  have h2 : 0 < W → 0 < W * W := fun h => Int.mul_pos h h
  have h6 := H_1 W A B
  have h7 : 0 < A → 0 < B → 0 < A * B := fun h g => Int.mul_pos h g
  have h8 : 0 < W → 0 < A → 0 < W * A := fun h g => Int.mul_pos h g
  have h1 : (A ≠ B ∨ 0 < W) → 0 < (W + (A + B)) * (W + (A + B)) - 4 * (A * B) := fun h => sum_gt hW hA hB h
  have k1 : 0 ≤ A + B - W → A + B - W ≤ 2 * A → A < B → 0 < A → (A + B - W) * (A + B - W) < 4 * (A * B) := lt_a
  have k2 : 0 ≤ A + B - W → A + B - W ≤ B → 0 < B → B ≤ A → (A + B - W) * (A + B - W) < 4 * (A * B) := lt_b
  have k3 : 0 ≤ W + A - B → W + A - B ≤ W → 0 < W → W ≤ A → (W + A - B) * (W + A - B) < 4 * (A * W) := lt_b
  have k4 : 0 ≤ W + A - B → W + A - B ≤ 2 * A → A < W → 0 < A → (W + A - B) * (W + A - B) < 4 * (A * W) := lt_a
  rcases sg_or (-1 * A + 1 * B) with ⟨z, e⟩ | ⟨z, e⟩ | ⟨z, e⟩
  · rw [ss_s e]
    rcases sg_or (1 * W + -1 * A) with ⟨y, e2⟩ | ⟨y, e2⟩ | ⟨y, e2⟩ <;> rcases sg_or (1 * B) with ⟨x, e3⟩ | ⟨x, e3⟩ | ⟨x, e3⟩ <;> rcases ssq_or (1 * W + -1 * (A + B)) with ⟨q, q2, q3⟩ | ⟨q, q2, q3⟩ | ⟨q, q2, q3⟩ <;> rcases ssq_or (W + A - B) with ⟨r, r2, r3⟩ | ⟨r, r2, r3⟩ | ⟨r, r2, r3⟩ <;> first | omega | skip
    all_goals rw [as_s e2 e3, q2, r2]
    all_goals clear e e2 e3 q2 r2
    all_goals unfold f_sg
    all_goals grind
  · rw [ss_s e]
    rcases sg_or (1 * W + -1 * A) with ⟨y, e2⟩ | ⟨y, e2⟩ | ⟨y, e2⟩ <;> rcases sg_or (1 * B) with ⟨x, e3⟩ | ⟨x, e3⟩ | ⟨x, e3⟩ <;> rcases ssq_or (1 * W + 0 * (A + B)) with ⟨q, q2, q3⟩ | ⟨q, q2, q3⟩ | ⟨q, q2, q3⟩ <;> rcases ssq_or (W + A - B) with ⟨r, r2, r3⟩ | ⟨r, r2, r3⟩ | ⟨r, r2, r3⟩ <;> first | omega | skip
    all_goals rw [as_s e2 e3, q2, r2]
    all_goals clear e e2 e3 q2 r2
    all_goals unfold f_sg
    all_goals grind
  · rw [ss_s e]
    rcases sg_or (1 * W + -1 * A) with ⟨y, e2⟩ | ⟨y, e2⟩ | ⟨y, e2⟩ <;> rcases sg_or (1 * B) with ⟨x, e3⟩ | ⟨x, e3⟩ | ⟨x, e3⟩ <;> rcases ssq_or (1 * W + 1 * (A + B)) with ⟨q, q2, q3⟩ | ⟨q, q2, q3⟩ | ⟨q, q2, q3⟩ <;> rcases ssq_or (W + A - B) with ⟨r, r2, r3⟩ | ⟨r, r2, r3⟩ | ⟨r, r2, r3⟩ <;> first | omega | skip
    all_goals rw [as_s e2 e3, q2, r2]
    all_goals clear e e2 e3 q2 r2
    all_goals unfold f_sg
    all_goals grind
theorem c_npp {W A B : Int} (hW : 0 ≤ W) (hA : 0 ≤ A) (hB : 0 ≤ B) : c_ss (-1) 1 1 W A B = c_as (-1) 1 1 W A B := by
  have hab := Int.mul_nonneg hA hB
  have hwa := Int.mul_nonneg hW hA
  have hw2 := sq_nn W
  have h2 : 0 < W → 0 < W * W := fun h => Int.mul_pos h h
  have h6 := H_1 W A B
  have h7 : 0 < A → 0 < B → 0 < A * B := fun h g => Int.mul_pos h g
  have h8 : 0 < W → 0 < A → 0 < W * A := fun h g => Int.mul_pos h g
  have h1 : (A ≠ B ∨ 0 < W) → 0 < (W + (A + B)) * (W + (A + B)) - 4 * (A * B) := fun h => sum_gt hW hA hB h
  have k1 : 0 ≤ A + B - W → A + B - W ≤ 2 * A → A < B → 0 < A → (A + B - W) * (A + B - W) < 4 * (A * B) := lt_a
  have k2 : 0 ≤ A + B - W → A + B - W ≤ B → 0 < B → B ≤ A → (A + B - W) * (A + B - W) < 4 * (A * B) := lt_b
  have k3 : 0 ≤ W + A - B → W + A - B ≤ W → 0 < W → W ≤ A → (W + A - B) * (W + A - B) < 4 * (A * W) := lt_b
  have k4 : 0 ≤ W + A - B → W + A - B ≤ 2 * A → A < W → 0 < A → (W + A - B) * (W + A - B) < 4 * (A * W) := lt_a
  rcases sg_or (1 * A + 1 * B) with ⟨z, e⟩ | ⟨z, e⟩ | ⟨z, e⟩
  · rw [ss_s e]
    rcases sg_or (-1 * W + 1 * A) with ⟨y, e2⟩ | ⟨y, e2⟩ | ⟨y, e2⟩ <;> rcases sg_or (1 * B) with ⟨x, e3⟩ | ⟨x, e3⟩ | ⟨x, e3⟩ <;> rcases ssq_or (-1 * W + -1 * (A + B)) with ⟨q, q2, q3⟩ | ⟨q, q2, q3⟩ | ⟨q, q2, q3⟩ <;> rcases ssq_or (W + A - B) with ⟨r, r2, r3⟩ | ⟨r, r2, r3⟩ | ⟨r, r2, r3⟩ <;> first | omega | skip
    all_goals rw [as_s e2 e3, q2, r2]
    all_goals clear e e2 e3 q2 r2
    all_goals unfold f_sg
    all_goals grind
  · rw [ss_s e]
    rcases sg_or (-1 * W + 1 * A) with ⟨y, e2⟩ | ⟨y, e2⟩ | ⟨y, e2⟩ <;> rcases sg_or (1 * B) with ⟨x, e3⟩ | ⟨x, e3⟩ | ⟨x, e3⟩ <;> rcases ssq_or (-1 * W + 0 * (A + B)) with ⟨q, q2, q3⟩ | ⟨q, q2, q3⟩ | ⟨q, q2, q3⟩ <;> rcases ssq_or (W + A - B) with ⟨r, r2, r3⟩ | ⟨r, r2, r3⟩ | ⟨r, r2, r3⟩ <;> first | omega | skip
    all_goals rw [as_s e2 e3, q2, r2]
    all_goals clear e e2 e3 q2 r2
    all_goals unfold f_sg
    all_goals grind
  · rw [ss_s e]
    rcases sg_or (-1 * W + 1 * A) with ⟨y, e2⟩ | ⟨y, e2⟩ | ⟨y, e2⟩ <;> rcases sg_or (1 * B) with ⟨x, e3⟩ | ⟨x, e3⟩ | ⟨x, e3⟩ <;> rcases ssq_or (-1 * W + 1 * (A + B)) with ⟨q, q2, q3⟩ | ⟨q, q2, q3⟩ | ⟨q, q2, q3⟩ <;> rcases ssq_or (W + A - B) with ⟨r, r2, r3⟩ | ⟨r, r2, r3⟩ | ⟨r, r2, r3⟩ <;> first | omega | skip
    all_goals rw [as_s e2 e3, q2, r2]
    all_goals clear e e2 e3 q2 r2
    all_goals unfold f_sg
    all_goals grind
theorem c_neg (o e f W A B : Int) : c_ss (-o) (-e) (-f) W A B = -c_ss o e f W A B ∧ c_as (-o) (-e) (-f) W A B = -c_as o e f W A B := by
  have e1 : -e * A + -f * B = -(e * A + f * B) := by grind
  have e2 : -o * W + -e * A = -(o * W + e * A) := by grind
  have e3 : -f * B = -(f * B) := Int.neg_mul _ _
  have e4 : -o * -e = o * e := Int.neg_mul_neg _ _
  constructor
  · unfold c_ss
    rw [e1, sg_neg, ← sg_neg (f_ssq _ + _)]
    congr 1
    have e5 : -o * W + -f_sg (e * A + f * B) * (A + B) = -(o * W + f_sg (e * A + f * B) * (A + B)) := by grind
    rw [e5, ssq_neg]
    grind
  · unfold c_as
    rw [e2, e3, e4, sg_neg, sg_neg]
    grind
/-- both ways, of all signs -/
theorem c_all {o e f W A B : Int} (ho : o = 1 ∨ o = -1) (he : e = 1 ∨ e = -1) (hf : f = 1 ∨ f = -1) (hW : 0 ≤ W) (hA : 0 ≤ A) (hB : 0 ≤ B) : c_ss o e f W A B = c_as o e f W A B := by
  have p := c_ppp hW hA hB
  have q := c_ppn hW hA hB
  have r := c_pnp hW hA hB
  have s := c_npp hW hA hB
  have np := c_neg 1 1 1 W A B
  have nq := c_neg 1 1 (-1) W A B
  have nr := c_neg 1 (-1) 1 W A B
  have ns := c_neg (-1) 1 1 W A B
  rw [Int.neg_neg] at nq nr ns
  rcases ho with rfl | rfl <;> rcases he with rfl | rfl <;> rcases hf with rfl | rfl
  · exact p
  · exact q
  · exact r
  · rw [ns.1, ns.2, s]
  · exact s
  · rw [nr.1, nr.2, r]
  · rw [nq.1, nq.2, q]
  · rw [np.1, np.2, p]
/-- a sign that is 1 or -1 -/
def sg1 (x : Int) : Int := if x < 0 then -1 else 1
theorem sg1_or (x : Int) : sg1 x = 1 ∨ sg1 x = -1 := by unfold sg1; grind
theorem ssq_sg1 (x : Int) : f_ssq x = sg1 x * (x * x) := by unfold f_ssq sg1; grind
theorem ssq_m (x y : Int) : f_ssq (x * y) = sg1 x * sg1 y * (x * x * (y * y)) := by
  have e : x * y * (x * y) = x * x * (y * y) := by grind
  rcases (show x < 0 ∨ x = 0 ∨ 0 < x by omega) with h | h | h
  · rcases (show y < 0 ∨ y = 0 ∨ 0 < y by omega) with g | g | g
    · have := Int.mul_pos_of_neg_of_neg h g
      rw [ssq_p (by omega), e]; unfold sg1; rw [if_pos h, if_pos g]; omega
    · rw [g, Int.mul_zero]; simp [f_ssq]
    · have := Int.mul_neg_of_neg_of_pos h g
      rw [ssq_n this, e]; unfold sg1; rw [if_pos h, if_neg (by omega)]; omega
  · rw [h, Int.zero_mul]; simp [f_ssq]
  · rcases (show y < 0 ∨ y = 0 ∨ 0 < y by omega) with g | g | g
    · have := Int.mul_neg_of_pos_of_neg h g
      rw [ssq_n this, e]; unfold sg1; rw [if_neg (by omega), if_pos g]; omega
    · rw [g, Int.mul_zero]; simp [f_ssq]
    · have := Int.mul_pos h g
      rw [ssq_p (by omega), e]; unfold sg1; rw [if_neg (by omega), if_neg (by omega)]; omega
theorem sg_sgm {s x : Int} (hs : s = 1 ∨ s = -1) (hx : 0 ≤ x) : f_sg (s * x) = if x = 0 then 0 else s := by
  unfold f_sg
  rcases hs with rfl | rfl <;> grind
theorem ss_c {w a m b n : Int} (hm : 0 ≤ m) (hn : 0 ≤ n) : f_ss w a m b n = c_ss (sg1 w) (sg1 a) (sg1 b) (w * w) (a * a * m) (b * b * n) := by
  have es : f_sr a m b n = f_sg (sg1 a * (a * a * m) + sg1 b * (b * b * n)) := by
    show f_sg (f_ssq a * m + f_ssq b * n) = _
    rw [ssq_sg1 a, ssq_sg1 b, Int.mul_assoc (sg1 a) (a * a) m, Int.mul_assoc (sg1 b) (b * b) n]
  unfold f_ss
  rw [es]
  unfold c_ss
  rcases sg_or (sg1 a * (a * a * m) + sg1 b * (b * b * n)) with ⟨-, e⟩ | ⟨-, e⟩ | ⟨-, e⟩
  · rw [e]
    show f_sg (f_ssq _ * 1 + f_ssq (2 * -1 * a * b) * (m * n)) = _
    have e2 : (2 * -1 * a * b : Int) = (-2 * a) * b := by grind
    have e3 : sg1 (-2 * a) * sg1 b * (-2 * a * (-2 * a) * (b * b)) * (m * n) = -1 * sg1 a * sg1 b * (4 * (a * a * m * (b * b * n))) := by
      rcases (show a < 0 ∨ a = 0 ∨ 0 < a by omega) with h | h | h
      · have : sg1 (-2 * a) = -1 * sg1 a := by unfold sg1; grind
        rw [this]; grind
      · subst h; simp
      · have : sg1 (-2 * a) = -1 * sg1 a := by unfold sg1; grind
        rw [this]; grind
    rw [e2, ssq_m, e3, Int.mul_one, ssq_sg1 w]
  · rw [e]
    show f_sg (f_ssq _ * 1 + f_ssq (2 * 0 * a * b) * (m * n)) = _
    have e2 : (2 * 0 * a * b : Int) = 0 := by grind
    have e3 : f_ssq 0 = 0 := rfl
    rw [e2, e3, ssq_sg1 w]
    congr 1
    grind
  · rw [e]
    show f_sg (f_ssq _ * 1 + f_ssq (2 * 1 * a * b) * (m * n)) = _
    have e2 : (2 * 1 * a * b : Int) = (2 * a) * b := by grind
    have e3 : sg1 (2 * a) = sg1 a := by unfold sg1; grind
    rw [e2, ssq_m, e3, Int.mul_one, ssq_sg1 w]
    congr 1
    grind
theorem as_c {w a m b n : Int} (hm : 0 ≤ m) (hn : 0 ≤ n) : f_as w a m b n = c_as (sg1 w) (sg1 a) (sg1 b) (w * w) (a * a * m) (b * b * n) := by
  have e1 : f_rs w a m = f_sg (sg1 w * (w * w) + sg1 a * (a * a * m)) := by rw [rs_sg hm, ssq_sg1 w, ssq_sg1 a, Int.mul_assoc]
  have e2 : f_rs (w * w + a * a * m - b * b * n) (2 * w * a) m = f_sg (f_ssq (w * w + a * a * m - b * b * n) + sg1 w * sg1 a * (4 * (w * w * (a * a * m)))) := by
    rw [rs_sg hm, ssq_m]
    have e3 : sg1 (2 * w) = sg1 w := by unfold sg1; grind
    rw [e3]
    congr 1
    grind
  have e3 : (if n = 0 then 0 else f_sg b) = f_sg (sg1 b * (b * b * n)) := by
    rw [sg_sgm (sg1_or b) (Int.mul_nonneg (sq_nn b) hn)]
    by_cases z : n = 0
    · subst z; simp
    · rw [if_neg z]
      rcases (show b < 0 ∨ b = 0 ∨ 0 < b by omega) with h | h | h
      · have := Int.mul_pos (Int.mul_pos_of_neg_of_neg h h) (show 0 < n by omega)
        rw [if_neg (by omega), sg_n h]; unfold sg1; rw [if_pos h]
      · subst h; simp [f_sg]
      · have := Int.mul_pos (Int.mul_pos h h) (show 0 < n by omega)
        rw [if_neg (by omega), sg_p h]; unfold sg1; rw [if_neg (by omega)]
  unfold f_as c_as
  rw [e3, e1, e2]
theorem ss_as {w a m b n : Int} (hm : 0 ≤ m) (hn : 0 ≤ n) : f_ss w a m b n = f_as w a m b n := by
  rw [ss_c hm hn, as_c hm hn]
  exact c_all (sg1_or w) (sg1_or a) (sg1_or b) (sq_nn w) (Int.mul_nonneg (sq_nn a) hm) (Int.mul_nonneg (sq_nn b) hn)
theorem sg_4 {k x : Int} (h : 0 < k) : f_sg (k * x) = f_sg x := by
  rcases (show x < 0 ∨ x = 0 ∨ 0 < x by omega) with z | z | z
  · rw [sg_n z, sg_n (Int.mul_neg_of_pos_of_neg h z)]
  · rw [z, Int.mul_zero]
  · rw [sg_p z, sg_p (Int.mul_pos h z)]
theorem ssq_k {k x : Int} (h : 0 < k) : f_ssq (k * x) = k * k * f_ssq x := by
  rw [ssq_m, ssq_sg1 x]
  have : sg1 k = 1 := by unfold sg1; grind
  rw [this]; grind
/-- twice the numbers: the same sign -/
theorem ss_2 (w a m b n : Int) : f_ss (2 * w) (2 * a) m (2 * b) n = f_ss w a m b n := by
  have es : f_sr (2 * a) m (2 * b) n = f_sr a m b n := by
    show f_sg (f_ssq (2 * a) * m + f_ssq (2 * b) * n) = f_sg (f_ssq a * m + f_ssq b * n)
    rw [ssq_k (by decide), ssq_k (by decide), ← sg_4 (k := 4) (x := f_ssq a * m + f_ssq b * n) (by decide)]
    congr 1
    grind
  unfold f_ss
  rw [es]
  generalize f_sr a m b n = s
  show f_sg (f_ssq _ * 1 + f_ssq _ * (m * n)) = f_sg (f_ssq _ * 1 + f_ssq _ * (m * n))
  have e1 : f_ssq (2 * w) + s * (2 * a * (2 * a) * m + 2 * b * (2 * b) * n) = 4 * (f_ssq w + s * (a * a * m + b * b * n)) := by rw [ssq_k (by decide)]; grind
  have e2 : 2 * s * (2 * a) * (2 * b) = 4 * (2 * s * a * b) := by grind
  rw [e1, e2, ssq_k (by decide), ssq_k (by decide), ← sg_4 (k := 16) (x := f_ssq (f_ssq w + s * (a * a * m + b * b * n)) * 1 + _) (by decide)]
  congr 1
  grind
/-- where nothing stands under a root, its number does not matter -/
theorem ss_0 (w a m b b2 : Int) : f_ss w a m b 0 = f_ss w a m b2 0 := by
  have es : f_sr a m b 0 = f_sr a m b2 0 := by
    show f_sg (f_ssq a * m + f_ssq b * 0) = f_sg (f_ssq a * m + f_ssq b2 * 0)
    rw [Int.mul_zero, Int.mul_zero]
  unfold f_ss
  rw [es]
  show f_sg (f_ssq _ * 1 + f_ssq _ * (m * 0)) = f_sg (f_ssq _ * 1 + f_ssq _ * (m * 0))
  simp only [Int.mul_zero]
theorem ss_0l (w a n b a2 : Int) : f_ss w a 0 b n = f_ss w a2 0 b n := by
  have es : f_sr a 0 b n = f_sr a2 0 b n := by
    show f_sg (f_ssq a * 0 + f_ssq b * n) = f_sg (f_ssq a2 * 0 + f_ssq b * n)
    rw [Int.mul_zero, Int.mul_zero]
  unfold f_ss
  rw [es]
  show f_sg (f_ssq _ * 1 + f_ssq _ * (0 * n)) = f_sg (f_ssq _ * 1 + f_ssq _ * (0 * n))
  simp only [Int.mul_zero, Int.zero_mul]
theorem ss_w (w a b : Int) : f_ss w a 0 b 0 = f_sg w := by
  have es : f_sr a 0 b 0 = 0 := by
    show f_sg (f_ssq a * 0 + f_ssq b * 0) = 0
    rw [Int.mul_zero, Int.mul_zero]; rfl
  unfold f_ss
  rw [es]
  show f_sg (f_ssq _ * 1 + f_ssq _ * (0 * 0)) = _
  simp only [Int.mul_zero, Int.zero_mul, Int.add_zero, Int.mul_one, sg_ssq]
theorem und_nn {a b c : Int} (h : gok a b c) (hr : 0 ≤ f_ins a b c) : 0 ≤ f_und a b c ∧ (a ≠ 0 → 0 < f_und a b c) := by
  by_cases ha : a = 0
  · subst ha
    exact ⟨by rw [show f_und 0 b c = 0 from if_pos rfl]; decide, fun z => absurd rfl z⟩
  · obtain ⟨u1, u2, u3⟩ := und_ne h ha
    have := (ins_sg h).mp hr
    have e : 0 < f_und a b c := by rw [u1]; omega
    exact ⟨by omega, fun _ => e⟩
theorem ss_eq (a m : Int) : f_ss 0 a m (-a) m = 0 := by
  have es : f_sr a m (-a) m = 0 := by
    show f_sg (f_ssq a * m + f_ssq (-a) * m) = 0
    rw [ssq_neg, Int.neg_mul, show f_ssq a * m + -(f_ssq a * m) = 0 by omega]; rfl
  unfold f_ss
  rw [es]
  show f_sg (f_ssq _ * 1 + f_ssq _ * (m * m)) = _
  simp only [Int.mul_zero, Int.zero_mul, Int.add_zero]
  rw [show f_ssq 0 = 0 from rfl, show f_ssq 0 = 0 from rfl]
  simp [f_sg]
theorem ss_dbl {a m : Int} (ha : a ≠ 0) (hm : 0 < m) : f_ss 0 a m a m = f_sg a := by
  have haa : 0 < a * a := by
    rcases (show a < 0 ∨ 0 < a by omega) with q | q
    · exact Int.mul_pos_of_neg_of_neg q q
    · exact Int.mul_pos q q
  have ham := Int.mul_pos haa hm
  rw [ss_as (by omega) (by omega)]
  unfold f_as
  have e1 : f_rs 0 a m = f_sg a := by
    unfold f_rs
    rw [if_neg (show ¬ m = 0 by omega), sg_z, if_pos (Or.inl rfl), if_pos rfl]
  rw [e1, if_neg (show ¬ m = 0 by omega), if_pos (Or.inr (Or.inr rfl))]
  grind
theorem cmp_eq {k j up ot t1 a1 b1 c1 t2 a2 b2 c2 : Int} (h1 : gok a1 b1 c1) (h2 : gok a2 b2 c2) (hup : up = 0 ∨ up = 1) (hot : ot = 0 ∨ ot = 1) (hr1 : 0 ≤ f_ins a1 b1 c1) (hr2 : 0 ≤ f_ins a2 b2 c2) (he : k = j → a1 = a2 ∧ b1 = b2 ∧ c1 = c2) : f_cmp (nf t1 a1 b1 c1) (nf t2 a2 b2 c2) up ot = g_cmp k j up ot a1 b1 c1 a2 b2 c2 := by
  obtain ⟨p1, q1⟩ := und_nn h1 hr1
  obtain ⟨p2, q2⟩ := und_nn h2 hr2
  have b1p := (below_p (t := t1) h1).2
  have b2p := (below_p (t := t2) h2).2
  have eu1 : f_under (nf t1 a1 b1 c1) = f_und a1 b1 c1 := out_sq a1 b1 c1
  have eu2 : f_under (nf t2 a2 b2 c2) = f_und a2 b2 c2 := out_sq a2 b2 c2
  have eb1 : f_below (nf t1 a1 b1 c1) = if a1 = 0 then b1 else 2 * a1 := rfl
  have eb2 : f_below (nf t2 a2 b2 c2) = if a2 = 0 then b2 else 2 * a2 := rfl
  have em1 : f_mid (nf t1 a1 b1 c1) = if a1 = 0 then -c1 else -b1 := rfl
  have em2 : f_mid (nf t2 a2 b2 c2) = if a2 = 0 then -c2 else -b2 := rfl
  have eg1 : g_und a1 b1 c1 = f_und a1 b1 c1 := rfl
  have eg2 : g_und a2 b2 c2 = f_und a2 b2 c2 := rfl
  unfold f_cmp g_cmp
  rw [eu1, eu2, eg1, eg2]
  by_cases hkj : k = j
  · obtain ⟨rfl, rfl, rfl⟩ := he hkj
    rw [eb1] at b1p
    have z : f_mid (nf t1 a1 b1 c1) * f_below (nf t2 a1 b1 c1) - f_mid (nf t2 a1 b1 c1) * f_below (nf t1 a1 b1 c1) = 0 := by rw [eb1, eb2, em1, em2]; omega
    rw [z, eb1, eb2]
    by_cases ha : a1 = 0
    · rw [if_pos (show k = j ∧ (up = ot ∨ a1 = 0) from ⟨hkj, Or.inr ha⟩)]
      have : f_und a1 b1 c1 = 0 := if_pos ha
      rw [this, ss_w]; rfl
    · rw [if_neg ha] at *
      have hd := q1 ha
      rcases hup with rfl | rfl <;> rcases hot with rfl | rfl
      · rw [if_pos rfl, if_pos rfl, if_pos ⟨hkj, Or.inl rfl⟩]
        have := ss_eq (-(2 * a1)) (f_und a1 b1 c1)
        rw [Int.neg_neg] at this
        exact this
      · rw [if_pos rfl, if_neg (by decide), if_neg (show ¬ (k = j ∧ ((0 : Int) = 1 ∨ a1 = 0)) from fun q => q.2.elim (by decide) ha), if_pos hkj, if_pos rfl, ss_dbl (by omega) hd, sg_n (by omega)]
      · rw [if_neg (by decide), if_pos rfl, if_neg (show ¬ (k = j ∧ ((1 : Int) = 0 ∨ a1 = 0)) from fun q => q.2.elim (by decide) ha), if_pos hkj, if_neg (by decide), ss_dbl (by omega) hd, sg_p (by omega)]
      · rw [if_neg (show ¬ (1 : Int) = 0 by decide), if_neg (show ¬ (1 : Int) = 0 by decide), if_pos ⟨hkj, Or.inl rfl⟩]
        exact ss_eq (2 * a1) (f_und a1 b1 c1)
  · rw [if_neg (show ¬ (k = j ∧ (up = ot ∨ a1 = 0)) from fun q => hkj q.1), if_neg hkj, ← ss_as p1 p2, eb1, eb2, em1, em2]
    unfold g_lead g_mid
    by_cases x1 : a1 = 0 <;> by_cases x2 : a2 = 0
    · have u1 : f_und a1 b1 c1 = 0 := if_pos x1
      have u2 : f_und a2 b2 c2 = 0 := if_pos x2
      rw [u1, u2, ss_w, ss_w]
      simp only [if_pos x1, if_pos x2]
      rw [show b1 * (2 * c2) - b2 * (2 * c1) = 2 * (-c1 * b2 - -c2 * b1) by grind, sg_4 (by decide)]
    · have u1 : f_und a1 b1 c1 = 0 := if_pos x1
      simp only [if_pos x1, if_neg x2, u1]
      rw [show -c1 * (2 * a2) - -b2 * b1 = b1 * b2 - a2 * (2 * c1) by grind]
      rw [ss_0l _ _ _ _ (a2 * (if up = 0 then -1 else 1)), show (if ot = 0 then b1 else -b1) = b1 * (if ot = 0 then 1 else -1) by grind]
    · have u2 : f_und a2 b2 c2 = 0 := if_pos x2
      simp only [if_neg x1, if_pos x2, u2]
      rw [show -b1 * b2 - -c2 * (2 * a1) = a1 * (2 * c2) - b2 * b1 by grind]
      rw [ss_0 _ _ _ _ (a1 * (if ot = 0 then 1 else -1)), show (if up = 0 then -b2 else b2) = b2 * (if up = 0 then -1 else 1) by grind]
    · simp only [if_neg x1, if_neg x2]
      rw [show -b1 * (2 * a2) - -b2 * (2 * a1) = 2 * (a1 * b2 - a2 * b1) by grind]
      rw [show (if up = 0 then -(2 * a2) else 2 * a2) = 2 * (a2 * (if up = 0 then -1 else 1)) by grind, show (if ot = 0 then 2 * a1 else -(2 * a1)) = 2 * (a1 * (if ot = 0 then 1 else -1)) by grind, ss_2]
