def PH (h : Int) (S : Int → Int) : Prop := PQ h S ∧ (1 ≤ S (f_deg S) ∧ S (f_deg S) ≤ 20)
theorem lead_pos {a b k : Int} {S Q : Int → Int} (ha : 1 ≤ a) (h5 : n5 S) (h0 : 0 ≤ f_deg S) (hl : 1 ≤ S (f_deg S) ∧ S (f_deg S) ≤ 20) (hQ : n5 Q) (hd : dvs a b k S Q) : 1 ≤ Q (f_deg Q) ∧ Q (f_deg Q) ≤ 20 := by
  obtain ⟨d1, d2, d3⟩ := deg_dvs (a := a) (b := b) (k := k) ⟨by omega, fun q => absurd q (by omega)⟩ h5 hQ hd h0
  rw [if_neg (by omega)] at d3
  rcases Int.lt_or_le (Q (f_deg Q)) 1 with q | q
  · have := mul_nn (show 0 ≤ a by omega) (show 0 ≤ -Q (f_deg Q) by omega)
    have e : a * -Q (f_deg Q) = -(a * Q (f_deg Q)) := by grind
    omega
  · refine ⟨q, ?_⟩
    have := Int.mul_le_mul_of_nonneg_right ha (show 0 ≤ Q (f_deg Q) by omega)
    omega
theorem PH_cl {a b k h : Int} {S Q : Int → Int} (ha : 1 ≤ a) (hb : -(rch a h) ≤ b ∧ b ≤ rch a h) (hk : k ≠ 0) (hh : 1 ≤ h) (hS : PH h S) (hQ : n5 Q) (hd : dvs a b k S Q) : PH h Q :=
  ⟨PQ_cl ha hb hk hh hS.1 hQ hd, lead_pos ha hS.1.1.1 hS.1.1.2.1 hS.2 hQ hd⟩
theorem PH_L {h : Int} {R : Int → Int} (q : PH h R) : n5 R ∧ 0 ≤ f_deg R ∧ ∀ j, -(L42 (f_deg R)) ≤ R j ∧ R j ≤ L42 (f_deg R) := Bd_L42 q.1.1
def PZ (S : Int → Int) : Prop := P2 S ∧ (1 ≤ S (f_deg S) ∧ S (f_deg S) ≤ 20)
theorem PZ_cl {a b k : Int} {S Q : Int → Int} (ha : 1 ≤ a) (hS : PZ S) (hQ : n5 Q) (hd : dvs a b k S Q) : PZ Q :=
  ⟨P2_cl ha hS.1 hQ hd, lead_pos ha hS.1.1.1 hS.1.1.2.1 hS.2 hQ hd⟩
theorem a_le4 {a h : Int} (h0 : 1 ≤ a) (h1 : a * a ≤ h) (h2 : h ≤ 20) : a ≤ 4 := by
  rcases Int.lt_or_le 4 a with q | q
  · have := sq_mono (a := 5) (by omega) (show (5 : Int) ≤ a by omega)
    omega
  · exact q
theorem rch_42 {a h : Int} (h0 : 1 ≤ a) (h1 : a * a ≤ h) (h2 : h ≤ 20) : 0 ≤ rch a h ∧ rch a h ≤ 42 := by
  have h4 := a_le4 h0 h1 h2
  unfold rch
  have hh : 1 ≤ h := by have := sq_mono (a := 1) (by omega) h0; omega
  rw [Int.tdiv_eq_ediv_of_nonneg (by omega)]
  have p : 0 ≤ 40 * a / h := Int.ediv_nonneg (by omega) (by omega)
  have q : 40 * a / h ≤ 40 / a := by
    rw [Int.le_ediv_iff_mul_le (by omega)]
    have e1 : (40 * a / h) * h ≤ 40 * a := Int.ediv_mul_le _ (by omega)
    have e2 : (40 * a / h) * (a * a) ≤ (40 * a / h) * h := Int.mul_le_mul_of_nonneg_left h1 p
    have e3 : (40 * a / h) * a * a ≤ 40 * a := by
      have : (40 * a / h) * (a * a) = (40 * a / h) * a * a := by grind
      omega
    exact Int.le_of_mul_le_mul_right e3 (by omega)
  rcases (show a = 1 ∨ a = 2 ∨ a = 3 ∨ a = 4 by omega) with rfl | rfl | rfl | rfl <;> omega
/-- triples within reach -/
def inr3 (h x y z : Int) : Prop := 1 ≤ x ∧ x * x ≤ h ∧ (-20 ≤ z ∧ z ≤ 20) ∧ (-(rch x h) ≤ y ∧ y ≤ rch x h)
def pr1 (h a : Int) (x y z : Int) : Prop := inr3 h x y z ∧ x < a
def pr2 (h a k : Int) (x y z : Int) : Prop := inr3 h x y z ∧ (x < a ∨ (x = a ∧ z < k))
def pr3 (h a k b : Int) (x y z : Int) : Prop := inr3 h x y z ∧ (x < a ∨ (x = a ∧ z < k) ∨ (x = a ∧ z = k ∧ y < b))
theorem pr3_s {h a k b x y z : Int} (q : pr3 h a k (b + 1) x y z) : pr3 h a k b x y z ∨ (x = a ∧ y = b ∧ z = k) := by
  obtain ⟨q1, q2⟩ := q
  by_cases c : x = a ∧ z = k ∧ y = b
  · exact Or.inr ⟨c.1, c.2.2, c.2.1⟩
  · exact Or.inl ⟨q1, by omega⟩
theorem pr3_0 {h a k x y z : Int} (q : pr3 h a k (-(rch a h)) x y z) : pr2 h a k x y z := by
  obtain ⟨q1, q2⟩ := q
  refine ⟨q1, ?_⟩
  rcases q2 with q | q | ⟨rfl, rfl, q⟩
  · exact Or.inl q
  · exact Or.inr q
  · have := q1.2.2.2.1
    omega
theorem pr2_s {h a k b x y z : Int} (hb : rch a h < b) (q : pr2 h a (k + 1) x y z) : pr3 h a k b x y z := by
  obtain ⟨q1, q2⟩ := q
  refine ⟨q1, ?_⟩
  rcases q2 with q | ⟨rfl, q⟩
  · exact Or.inl q
  · by_cases c : z < k
    · exact Or.inr (Or.inl ⟨rfl, c⟩)
    · refine Or.inr (Or.inr ⟨rfl, by omega, ?_⟩)
      have := q1.2.2.2.2
      omega
theorem pr2_k {h a k x y z : Int} (q : pr2 h a (k + 1) x y z) : pr2 h a k x y z ∨ (x = a ∧ z = k) := by
  obtain ⟨q1, q2⟩ := q
  by_cases c : x = a ∧ z = k
  · exact Or.inr c
  · exact Or.inl ⟨q1, by omega⟩
theorem pr2_0 {h a x y z : Int} (q : pr2 h a (-20) x y z) : pr1 h a x y z := by
  obtain ⟨q1, q2⟩ := q
  have := q1.2.2.1
  exact ⟨q1, by omega⟩
theorem pr1_s {h a x y z : Int} (q : pr1 h (a + 1) x y z) : pr2 h a 21 x y z := by
  obtain ⟨q1, q2⟩ := q
  have := q1.2.2.1
  exact ⟨q1, by omega⟩
theorem pr1_a {h a x y z : Int} (q : pr1 h (a + 1) x y z) : pr1 h a x y z ∨ x = a := by
  obtain ⟨q1, q2⟩ := q
  by_cases c : x = a
  · exact Or.inr c
  · exact Or.inl ⟨q1, by omega⟩
theorem no_c0 {a y k : Int} {R : Int → Int} (h : R 0 ≠ 0) (hk : k = 0 ∨ ¬ Int.tmod (R 0) k = 0) : ¬ ∃ Q, n5 Q ∧ dvs a y k R Q := by
  rintro ⟨Q, hQ, hd⟩
  have e := hd 0
  rw [hQ (0 - 2) (by omega), hQ (0 - 1) (by omega)] at e
  have e2 : R 0 = k * Q 0 := by rw [e]; simp
  rcases hk with q | q
  · exact h (by rw [e2, q]; simp)
  · by_cases c : k = 0
    · exact h (by rw [e2, c]; simp)
    · exact q (tdiv_of c e2.symm).1
theorem no_a {a y z : Int} {R : Int → Int} (ha : 1 ≤ a) (h5 : n5 R) (h4 : f_deg R = 4) (hm : ¬ Int.tmod (R 4) a = 0) : ¬ ∃ Q, n5 Q ∧ dvs a y z R Q := by
  rintro ⟨Q, hQ, hd⟩
  obtain ⟨q0, e4, -⟩ := quad_prod ha h5 h4 hQ hd
  exact hm (tdiv_of (by omega) e4.symm).1
theorem QI_end {s0 s : SS} {a : Int} (hR : Bd s0.1) (h4 : f_deg s0.1 = 4) (hl : 1 ≤ s0.1 4) (h0 : s0.1 0 ≠ 0) (h : QI (pr1 (s0.1 4) a) s0 s) (ha : 20 < a ∨ (1 ≤ a ∧ s0.1 4 < a * a)) : (s = s0 ∧ noquad s0.1) ∨ QS s0 s := by
  rcases h with ⟨e, hn⟩ | h
  · refine Or.inl ⟨e, noquad_of hR h4 hl h0 (fun x y z x1 x2 z1 z2 y1 y2 => hn x y z ⟨⟨x1, x2, ⟨z1, z2⟩, ⟨y1, y2⟩⟩, ?_⟩)⟩
    have h20 : s0.1 4 ≤ 20 := by
      have := (hR.2.2 4).2
      rw [h4] at this
      exact this
    rcases ha with q | ⟨q1, q⟩
    · have := a_le4 x1 x2 h20
      omega
    · rcases Int.lt_or_le x a with z | z
      · exact z
      · have := sq_mono (show 0 ≤ a by omega) z
        omega
  · exact Or.inr h
/-- the rest of degree 2 is divided by itself -/
theorem dvs_self {S : Int → Int} (h5 : n5 S) (h2 : f_deg S = 2) : n5 (p3 0 0 1) ∧ dvs (S 2) (S 1) (S 0) S (p3 0 0 1) := by
  refine ⟨p3_n5 _ _ _, fun j => ?_⟩
  have z : ∀ j, j ≠ 0 → j ≠ 1 → j ≠ 2 → S j = 0 := fun j a b c => by
    rcases Int.lt_or_le j 0 with q | q
    · exact h5 j (Or.inl q)
    · exact deg_out h5 (by omega)
  unfold p3
  by_cases c0 : j = 0
  · subst c0; simp
  · by_cases c1 : j = 1
    · subst c1; simp
    · by_cases c2 : j = 2
      · subst c2; simp
      · rw [z j c0 c1 c2]
        grind
theorem QF_stay {s0 s : SS} (h5 : n5 s0.1) (h0 : 0 ≤ f_deg s0.1) (ht : (f_deg s0.1 ≠ 4 ∧ s = s0) ∨ (f_deg s0.1 = 4 ∧ ((s = s0 ∧ noquad s0.1) ∨ QS s0 s))) (h2 : ¬ f_deg s.1 = 2) : QF s0 s := by
  rcases ht with ⟨q1, rfl⟩ | ⟨q1, ⟨q2, q3⟩ | ⟨a, b, k, s1, g1, g2, g3⟩⟩
  · exact Or.inr (Or.inl ⟨h2, q1, rfl⟩)
  · exact Or.inr (Or.inr (Or.inl ⟨q1, q2, q3⟩))
  · obtain ⟨d1, d2, d3, d4⟩ := stpP_deg g1 h5 h0 g2
    refine Or.inr (Or.inr (Or.inr ⟨q1, a, b, k, s1, g1, g2, ?_⟩))
    rcases g3 with rfl | g3
    · exact Or.inl ⟨by omega, rfl⟩
    · exact Or.inr g3
theorem QF_last {s0 s s' : SS} (h5 : n5 s0.1) (h0 : 0 ≤ f_deg s0.1) (ht : (f_deg s0.1 ≠ 4 ∧ s = s0) ∨ (f_deg s0.1 = 4 ∧ ((s = s0 ∧ noquad s0.1) ∨ QS s0 s))) (h2 : f_deg s.1 = 2) (hS : n5 s.1) (hl : 1 ≤ s.1 (f_deg s.1)) (hs : stp (s.1 2) (s.1 1) (s.1 0) s s') : QF s0 s' := by
  have hP : stpP (s.1 2) (s.1 1) (s.1 0) s s' := by
    rcases stp_cases hs with ⟨e, hn⟩ | hP
    · exact absurd ⟨_, dvs_self hS h2⟩ hn
    · exact hP
  rw [h2] at hl
  rcases ht with ⟨q1, rfl⟩ | ⟨q1, ⟨rfl, q3⟩ | ⟨a, b, k, s1, g1, g2, g3⟩⟩
  · exact Or.inl ⟨h2, hP⟩
  · omega
  · obtain ⟨d1, d2, d3, d4⟩ := stpP_deg g1 h5 h0 g2
    refine Or.inr (Or.inr (Or.inr ⟨q1, a, b, k, s1, g1, g2, ?_⟩))
    rcases g3 with rfl | ⟨e1, a2, b2, k2, e2, e3⟩
    · exact Or.inr ⟨h2, _, _, _, hl, hP⟩
    · obtain ⟨f1, f2, f3, f4⟩ := stpP_deg e2 d1 d2 e3
      omega
