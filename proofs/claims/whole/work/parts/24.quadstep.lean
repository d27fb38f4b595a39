abbrev SS : Type := (Int → Int) × Int × (Int → Int → Int)
/-- a factor comes out, at least once -/
def stpP (a b k : Int) (s s' : SS) : Prop :=
  ∃ t, 1 ≤ t ∧ t ≤ 4 ∧ tkR a b k t s.1 s'.1 ∧ s'.2.1 = s.2.1 + 1 ∧ ∃ pos, insP s.2.1 (nf t a b k) s.2.2 s'.2.2 pos
theorem stp_cases {a b k : Int} {s s' : SS} (h : stp a b k s s') : (s' = s ∧ ¬ ∃ Q, n5 Q ∧ dvs a b k s.1 Q) ∨ stpP a b k s s' := by
  obtain ⟨t, t0, t4, hk, ho⟩ := h
  rcases ho with ⟨q1, q2, q3⟩ | ⟨q1, q2, q3⟩
  · subst q1
    have e1 : s'.1 = s.1 := hk.1
    have e : s' = s := Prod.ext e1 (Prod.ext q2 q3)
    refine Or.inl ⟨e, ?_⟩
    have := hk.2
    rw [e1] at this
    exact this
  · exact Or.inr ⟨t, q1, t4, hk, q2, q3⟩
theorem stpP_deg {a b k : Int} {s s' : SS} (ha : 1 ≤ a) (h5 : n5 s.1) (h0 : 0 ≤ f_deg s.1) (h : stpP a b k s s') : n5 s'.1 ∧ 0 ≤ f_deg s'.1 ∧ f_deg s'.1 + 2 ≤ f_deg s.1 ∧ (f_deg s.1 - f_deg s'.1) % 2 = 0 := by
  obtain ⟨t, t1, t4, ⟨hN, -⟩, -⟩ := h
  obtain ⟨e1, e2, e3⟩ := dvN_deg (a := a) (b := b) (k := k) ⟨by omega, fun q => absurd q (by omega)⟩ t.toNat _ _ h5 h0 hN
  rw [if_neg (by omega)] at e3
  exact ⟨e1, e2, by omega, by omega⟩
/-- one factor has come out, perhaps another one behind it -/
def QS (s0 s : SS) : Prop := ∃ a b k s1, 1 ≤ a ∧ stpP a b k s0 s1 ∧ (s = s1 ∨ (f_deg s1.1 = 2 ∧ ∃ a2 b2 k2, 1 ≤ a2 ∧ stpP a2 b2 k2 s1 s))
def QI (pr : Int → Int → Int → Prop) (s0 s : SS) : Prop := (s = s0 ∧ ∀ x y z, pr x y z → ¬ ∃ Q, n5 Q ∧ dvs x y z s0.1 Q) ∨ QS s0 s
theorem QI_step {pr pr2 : Int → Int → Int → Prop} {a b k : Int} {s0 s s' : SS} (h5 : n5 s0.1) (h4 : f_deg s0.1 = 4) (ha : 1 ≤ a) (h : QI pr s0 s) (hs : stp a b k s s') (hp : ∀ x y z, pr2 x y z → pr x y z ∨ (x = a ∧ y = b ∧ z = k)) : QI pr2 s0 s' := by
  rcases stp_cases hs with ⟨e, hn⟩ | hP
  · subst e
    rcases h with ⟨e2, hn2⟩ | h
    · subst e2
      refine Or.inl ⟨rfl, fun x y z q => ?_⟩
      rcases hp x y z q with q | ⟨rfl, rfl, rfl⟩
      · exact hn2 x y z q
      · exact hn
    · exact Or.inr h
  · rcases h with ⟨e2, hn2⟩ | ⟨a1, b1, k1, s1, g1, g2, g3⟩
    · subst e2
      exact Or.inr ⟨a, b, k, s', ha, hP, Or.inl rfl⟩
    · obtain ⟨d1, d2, d3, d4⟩ := stpP_deg g1 h5 (by omega) g2
      rcases g3 with e | ⟨e1, a2, b2, k2, e2, e3⟩
      · subst e
        obtain ⟨f1, f2, f3, f4⟩ := stpP_deg ha d1 d2 hP
        exact Or.inr ⟨a1, b1, k1, s, g1, g2, Or.inr ⟨by omega, a, b, k, ha, hP⟩⟩
      · obtain ⟨f1, f2, f3, f4⟩ := stpP_deg e2 d1 d2 e3
        obtain ⟨i1, i2, i3, i4⟩ := stpP_deg ha f1 f2 hP
        omega
theorem QI_mono {pr pr2 : Int → Int → Int → Prop} {s0 s : SS} (h : QI pr s0 s) (hp : ∀ x y z, pr2 x y z → pr x y z ∨ ¬ ∃ Q, n5 Q ∧ dvs x y z s0.1 Q) : QI pr2 s0 s := by
  rcases h with ⟨e, hn⟩ | h
  · exact Or.inl ⟨e, fun x y z q => (hp x y z q).elim (hn x y z) id⟩
  · exact Or.inr h
/-- the numbers of a product of two quadratic ones -/
theorem quad_prod {a b c : Int} {R Q : Int → Int} (ha : 1 ≤ a) (hR : n5 R) (h4 : f_deg R = 4) (hQ : n5 Q) (hd : dvs a b c R Q) : (∀ j, Q j = if j = 2 then Q 2 else if j = 1 then Q 1 else if j = 0 then Q 0 else 0) ∧ R 4 = a * Q 2 ∧ R 3 = a * Q 1 + b * Q 2 ∧ R 2 = a * Q 0 + b * Q 1 + c * Q 2 ∧ R 1 = b * Q 0 + c * Q 1 ∧ R 0 = c * Q 0 := by
  obtain ⟨d1, d2, -⟩ := deg_dvs (a := a) (b := b) (k := c) ⟨by omega, fun q => absurd q (by omega)⟩ hR hQ hd (by omega)
  rw [if_neg (by omega)] at d2
  have z3 : Q 3 = 0 := deg_out hQ (by omega)
  have z4 : Q 4 = 0 := deg_out hQ (by omega)
  have m1 : Q (-1) = 0 := hQ _ (by omega)
  have m2 : Q (-2) = 0 := hQ _ (by omega)
  refine ⟨fun j => ?_, ?_, ?_, ?_, ?_, ?_⟩
  · by_cases c2 : j = 2
    · rw [if_pos c2, c2]
    · rw [if_neg c2]
      by_cases c1 : j = 1
      · rw [if_pos c1, c1]
      · rw [if_neg c1]
        by_cases c0 : j = 0
        · rw [if_pos c0, c0]
        · rw [if_neg c0]
          rcases Int.lt_or_le j 0 with q | q
          · exact hQ j (Or.inl q)
          · exact deg_out hQ (by omega)
  · have e := hd 4
    rw [show (4 : Int) - 2 = 2 by omega, show (4 : Int) - 1 = 3 by omega, z3, z4] at e
    rw [e]; simp
  · have e := hd 3
    rw [show (3 : Int) - 2 = 1 by omega, show (3 : Int) - 1 = 2 by omega, z3] at e
    rw [e]; simp
  · exact hd 2
  · have e := hd 1
    rw [show (1 : Int) - 2 = -1 by omega, show (1 : Int) - 1 = 0 by omega, m1] at e
    rw [e]; simp
  · have e := hd 0
    rw [show (0 : Int) - 2 = -2 by omega, show (0 : Int) - 1 = -1 by omega, m1, m2] at e
    rw [e]; simp
def noquad (R : Int → Int) : Prop := ∀ a b c, 1 ≤ a → ¬ ∃ Q, n5 Q ∧ dvs a b c R Q
/-- the polynomial of three numbers -/
def p3 (a b c : Int) : Int → Int := fun j => if j = 2 then a else if j = 1 then b else if j = 0 then c else 0
theorem p3_n5 (a b c : Int) : n5 (p3 a b c) := fun j hj => by unfold p3; grind
theorem dvs_swap {a b c : Int} {R Q : Int → Int} (ha : 1 ≤ a) (hR : n5 R) (h4 : f_deg R = 4) (hQ : n5 Q) (hd : dvs a b c R Q) : dvs (Q 2) (Q 1) (Q 0) R (p3 a b c) := by
  obtain ⟨q0, e4, e3, e2, e1, e0⟩ := quad_prod ha hR h4 hQ hd
  intro j
  rw [hd j, q0 (j - 2), q0 (j - 1), q0 j]
  unfold p3
  grind
theorem dvd_le {c f m : Int} (h : c * f = m) (hm : m ≠ 0) (hl : -20 ≤ m ∧ m ≤ 20) : (-20 ≤ c ∧ c ≤ 20) ∧ c ≠ 0 ∧ f ≠ 0 := by
  have hc : c ≠ 0 := fun q => hm (by rw [← h, q]; simp)
  have hf : f ≠ 0 := fun q => hm (by rw [← h, q]; simp)
  have e : m.natAbs = c.natAbs * f.natAbs := by rw [← h]; exact Int.natAbs_mul c f
  have : c.natAbs * 1 ≤ c.natAbs * f.natAbs := Nat.mul_le_mul_left _ (by omega)
  exact ⟨by omega, hc, hf⟩
theorem noquad_of {R : Int → Int} (hR : Bd R) (h4 : f_deg R = 4) (hl : 1 ≤ R 4) (h0 : R 0 ≠ 0)
    (hall : ∀ a b c, 1 ≤ a → a * a ≤ R 4 → -20 ≤ c → c ≤ 20 → -(rch a (R 4)) ≤ b → b ≤ rch a (R 4) → ¬ ∃ Q, n5 Q ∧ dvs a b c R Q) : noquad R := by
  have hB : ∀ j, -20 ≤ R j ∧ R j ≤ 20 := fun j => by
    have := hR.2.2 j
    rw [h4] at this
    exact this
  have half : ∀ a b c, 1 ≤ a → ∀ Q, n5 Q → dvs a b c R Q → a ≤ Q 2 → False := by
    intro a b c ha Q hQ hd hle
    obtain ⟨q0, e4, e3, e2, e1, e0⟩ := quad_prod ha hR.1 h4 hQ hd
    obtain ⟨c1, c2, c3⟩ := dvd_le e0.symm h0 (hB 0)
    have r := reach1 (a := a) (b := b) (c := c) (d := Q 2) (e := Q 1) (f := Q 0) ha hle (by rw [← e4]; exact (hB 4).2) (by rw [← e3]; exact hB 3) (by rw [← e2]; exact hB 2) (by rw [← e1]; exact hB 1) (by rw [← e0]; exact hB 0) c2 c3
    refine hall a b c ha ?_ c1.1 c1.2 ?_ ?_ ⟨Q, hQ, hd⟩
    · rw [e4]; exact Int.mul_le_mul_of_nonneg_left hle (by omega)
    · rw [e4]
      have := rch_of (a := a) (d := Q 2) (b := -b) ha (by omega) (by grind)
      omega
    · rw [e4]
      exact rch_of (a := a) (d := Q 2) (b := b) ha (by omega) r.2
  rintro a b c ha ⟨Q, hQ, hd⟩
  obtain ⟨q0, e4, e3, e2, e1, e0⟩ := quad_prod ha hR.1 h4 hQ hd
  have hd1 : 1 ≤ Q 2 := by
    rcases Int.lt_or_le (Q 2) 1 with q | q
    · have := mul_nn (show 0 ≤ a by omega) (show 0 ≤ -Q 2 by omega)
      have e : a * -Q 2 = -(a * Q 2) := by grind
      omega
    · exact q
  rcases Int.le_total a (Q 2) with q | q
  · exact half a b c ha Q hQ hd q
  · exact half (Q 2) (Q 1) (Q 0) hd1 _ (p3_n5 a b c) (dvs_swap ha hR.1 h4 hQ hd) q
/-- what the seeking of quadratic factors comes to -/
def QF (s0 s : SS) : Prop :=
  (f_deg s0.1 = 2 ∧ stpP (s0.1 2) (s0.1 1) (s0.1 0) s0 s) ∨ (f_deg s0.1 ≠ 2 ∧ f_deg s0.1 ≠ 4 ∧ s = s0) ∨ (f_deg s0.1 = 4 ∧ s = s0 ∧ noquad s0.1) ∨
  (f_deg s0.1 = 4 ∧ ∃ a b k s1, 1 ≤ a ∧ stpP a b k s0 s1 ∧ ((f_deg s1.1 = 0 ∧ s = s1) ∨ (f_deg s1.1 = 2 ∧ ∃ a2 b2 k2, 1 ≤ a2 ∧ stpP a2 b2 k2 s1 s)))
/-- what may be left while they are sought: h is the highest number of the start -/
def PQ (h : Int) (S : Int → Int) : Prop := Bd S ∧ ((f_deg S = 4 ∧ S 4 = h) ∨ f_deg S = 2 ∨ f_deg S = 0)
theorem PQ_cl {a b k h : Int} {S Q : Int → Int} (ha : 1 ≤ a) (hb : -(rch a h) ≤ b ∧ b ≤ rch a h) (hk : k ≠ 0) (hh : 1 ≤ h) (hS : PQ h S) (hQ : n5 Q) (hd : dvs a b k S Q) : PQ h Q := by
  obtain ⟨hB, hc⟩ := hS
  obtain ⟨d1, d2, d3⟩ := deg_dvs (a := a) (b := b) (k := k) ⟨by omega, fun q => absurd q (by omega)⟩ hB.1 hQ hd hB.2.1
  rw [if_neg (by omega)] at d2 d3
  rcases hc with ⟨h4, hh4⟩ | h2 | h0
  · have e : f_deg Q = 2 := by omega
    refine ⟨⟨hQ, d1, fun j => ?_⟩, Or.inr (Or.inl e)⟩
    rw [e]
    show -240 ≤ Q j ∧ Q j ≤ 240
    obtain ⟨q0, e4, e3, e2, e1, e0⟩ := quad_prod ha hB.1 h4 hQ hd
    have hB4 : ∀ j, -20 ≤ S j ∧ S j ≤ 20 := fun j => by
      have := hB.2.2 j
      rw [h4] at this
      exact this
    have hq2 : 1 ≤ Q 2 := by
      rcases Int.lt_or_le (Q 2) 1 with q | q
      · have := mul_nn (show 0 ≤ a by omega) (show 0 ≤ -Q 2 by omega)
        have e : a * -Q 2 = -(a * Q 2) := by grind
        omega
      · exact q
    have hq2' : Q 2 ≤ 20 := by
      have := Int.mul_le_mul_of_nonneg_right ha (show 0 ≤ Q 2 by omega)
      have := (hB4 4).2
      omega
    have hbd : -(2 * (a * Q 2) + 40) ≤ b * Q 2 ∧ b * Q 2 ≤ 2 * (a * Q 2) + 40 := by
      rw [← hh4, e4] at hb
      refine ⟨?_, rch_le ha hq2 hb.2⟩
      have := rch_le (b := -b) ha hq2 (by omega)
      have e : -b * Q 2 = -(b * Q 2) := by grind
      omega
    have hq1 : -100 ≤ Q 1 ∧ Q 1 ≤ 100 := by
      have h3 := hB4 3
      have h44 := hB4 4
      have m1 : -100 ≤ a * Q 1 ∧ a * Q 1 ≤ 100 := by omega
      constructor
      · rcases Int.lt_or_le (Q 1) (-100) with q | q
        · have := Int.mul_le_mul_of_nonneg_left (show Q 1 ≤ -101 by omega) (show 0 ≤ a by omega)
          omega
        · exact q
      · rcases Int.lt_or_le 100 (Q 1) with q | q
        · have := Int.mul_le_mul_of_nonneg_left (show 101 ≤ Q 1 by omega) (show 0 ≤ a by omega)
          omega
        · exact q
    have hq0 : -20 ≤ Q 0 ∧ Q 0 ≤ 20 := by
      have e : (S 0).natAbs = k.natAbs * (Q 0).natAbs := by rw [e0]; exact Int.natAbs_mul _ _
      have : 1 * (Q 0).natAbs ≤ k.natAbs * (Q 0).natAbs := Nat.mul_le_mul_right _ (by omega)
      have := hB4 0
      omega
    rw [q0 j]
    grind
  · have e : f_deg Q = 0 := by omega
    refine ⟨⟨hQ, d1, fun j => ?_⟩, Or.inr (Or.inr e)⟩
    rw [e]
    show -480 ≤ Q j ∧ Q j ≤ 480
    by_cases c0 : j = 0
    · rw [e, h2] at d3
      have h9 := (Bd_r hB 2).2
      have e9 : (S 2).natAbs = a.natAbs * (Q 0).natAbs := by rw [← d3]; exact Int.natAbs_mul _ _
      have : 1 * (Q 0).natAbs ≤ a.natAbs * (Q 0).natAbs := Nat.mul_le_mul_right _ (by omega)
      rw [c0]
      omega
    · rcases Int.lt_or_le j 0 with q | q
      · rw [hQ j (Or.inl q)]; omega
      · rw [deg_out hQ (show f_deg Q < j by omega)]; omega
  · omega
def L42 (i : Int) : Int := if i = 4 then 480 else if i = 3 then 20640 else if i = 2 then 887520 else if i = 1 then 38163360 else 1641024480
theorem L42_ok : ∀ i, 1 ≤ i → i ≤ 4 → 0 ≤ L42 i ∧ L42 i * (1 + 42) ≤ L42 (i - 1) := by
  intro i h1 h4
  rcases (show i = 1 ∨ i = 2 ∨ i = 3 ∨ i = 4 by omega) with rfl | rfl | rfl | rfl <;> decide
theorem L42_r : ∀ i, 0 ≤ i → i ≤ 4 → L42 i ≤ 2147483647 := by
  intro i h1 h4
  rcases (show i = 0 ∨ i = 1 ∨ i = 2 ∨ i = 3 ∨ i = 4 by omega) with rfl | rfl | rfl | rfl | rfl <;> decide
theorem Bd_L42 {R : Int → Int} (h : Bd R) : n5 R ∧ 0 ≤ f_deg R ∧ ∀ j, -(L42 (f_deg R)) ≤ R j ∧ R j ≤ L42 (f_deg R) := by
  refine ⟨h.1, h.2.1, fun j => ?_⟩
  have h1 := (Bd_r h j).2
  have h4 := (deg_c R).2.1
  have h0 := h.2.1
  have e : 480 ≤ L42 (f_deg R) := by
    rcases (show f_deg R = 0 ∨ f_deg R = 1 ∨ f_deg R = 2 ∨ f_deg R = 3 ∨ f_deg R = 4 by omega) with q | q | q | q | q <;> (rw [q]; decide)
  omega
def L240 (i : Int) : Int := if i = 4 then 0 else if i = 3 then 0 else if i = 2 then 480 else if i = 1 then 115680 else 27878880
theorem L240_ok : ∀ i, 1 ≤ i → i ≤ 4 → 0 ≤ L240 i ∧ L240 i * (1 + 240) ≤ L240 (i - 1) := by
  intro i h1 h4
  rcases (show i = 1 ∨ i = 2 ∨ i = 3 ∨ i = 4 by omega) with rfl | rfl | rfl | rfl <;> decide
theorem L240_r : ∀ i, 0 ≤ i → i ≤ 4 → L240 i ≤ 2147483647 := by
  intro i h1 h4
  rcases (show i = 0 ∨ i = 1 ∨ i = 2 ∨ i = 3 ∨ i = 4 by omega) with rfl | rfl | rfl | rfl | rfl <;> decide
/-- what is left when one of degree 2 comes out -/
def P2 (S : Int → Int) : Prop := Bd S ∧ (f_deg S = 2 ∨ f_deg S = 0)
theorem P2_L {R : Int → Int} (h : P2 R) : n5 R ∧ 0 ≤ f_deg R ∧ ∀ j, -(L240 (f_deg R)) ≤ R j ∧ R j ≤ L240 (f_deg R) := by
  refine ⟨h.1.1, h.1.2.1, fun j => ?_⟩
  have h1 := (Bd_r h.1 j).2
  have e : 480 ≤ L240 (f_deg R) := by rcases h.2 with q | q <;> (rw [q]; decide)
  omega
theorem P2_cl {a b k : Int} {S Q : Int → Int} (ha : 1 ≤ a) (hS : P2 S) (hQ : n5 Q) (hd : dvs a b k S Q) : P2 Q := by
  obtain ⟨hB, hc⟩ := hS
  obtain ⟨d1, d2, d3⟩ := deg_dvs (a := a) (b := b) (k := k) ⟨by omega, fun q => absurd q (by omega)⟩ hB.1 hQ hd hB.2.1
  rw [if_neg (by omega)] at d2 d3
  have e : f_deg Q = 0 := by omega
  refine ⟨⟨hQ, d1, fun j => ?_⟩, Or.inr e⟩
  rw [e]
  show -480 ≤ Q j ∧ Q j ≤ 480
  by_cases c0 : j = 0
  · rw [e] at d3
    have h9 := (Bd_r hB (f_deg S)).2
    have e9 : (S (f_deg S)).natAbs = a.natAbs * (Q 0).natAbs := by rw [← d3]; exact Int.natAbs_mul _ _
    have : 1 * (Q 0).natAbs ≤ a.natAbs * (Q 0).natAbs := Nat.mul_le_mul_right _ (by omega)
    rw [c0]
    omega
  · rcases Int.lt_or_le j 0 with q | q
    · rw [hQ j (Or.inl q)]; omega
    · rw [deg_out hQ (show f_deg Q < j by omega)]; omega
theorem gsL_dvd {z : Int} : ∀ n : Nat, gsL z n ≠ 0 → Int.tmod z (gsL z n * gsL z n) = 0 := by
  intro n
  induction n with
  | zero => intro h; exact absurd rfl h
  | succ n ih =>
    intro h
    rw [gsL] at h ⊢
    by_cases c : z.tmod (((n : Int) + 1) * ((n : Int) + 1)) = 0 ∧ ((n : Int) + 1) * ((n : Int) + 1) ≤ z
    · rw [if_pos c]; exact c.1
    · rw [if_neg c] at h ⊢; exact ih h
theorem gsL_1 {z : Int} (h : 1 ≤ z) : ∀ n : Nat, 1 ≤ gsL z (n + 1) := by
  intro n
  induction n with
  | zero => rw [gsL, if_pos ⟨by simp, by simpa using h⟩]; decide
  | succ n ih =>
    rw [gsL]
    split
    · omega
    · exact ih
/-- the root outside, squared, times what is inside -/
theorem out_sq (a b k : Int) : f_out a b k * f_out a b k * f_ins a b k = f_und a b k := by
  unfold f_ins
  by_cases h : f_out a b k = 0
  · rw [if_pos h, h]
    have : f_und a b k = 0 := by
      by_cases z : f_und a b k = 0
      · exact z
      · exfalso
        have h1 : 1 ≤ f_size (f_und a b k) := by unfold f_size; grind
        have h2 : 1 ≤ f_out a b k := gsL_1 h1 999
        omega
    rw [this]; simp
  · rw [if_neg h]
    apply tdiv_mul
    have h1 : Int.tmod (f_size (f_und a b k)) (f_out a b k * f_out a b k) = 0 := gsL_dvd 1000 h
    unfold f_size at h1
    by_cases z : f_und a b k < 0
    · rw [if_pos z, Int.neg_tmod] at h1
      omega
    · rw [if_neg z] at h1
      exact h1
theorem fbd_quad {t a b k : Int} (ht : 0 ≤ t ∧ t ≤ 4) (ha : 1 ≤ a ∧ a ≤ 20) (hb : -240 ≤ b ∧ b ≤ 240) (hk : -1000 ≤ k ∧ k ≤ 1000) (hu : -80000 ≤ f_und a b k ∧ f_und a b k ≤ 80000) : fbd (nf t a b k) := by
  have g := gsq_r (f_und a b k)
  have e2 : -80000 ≤ f_ins a b k ∧ f_ins a b k ≤ 80000 := by
    unfold f_ins
    split
    · omega
    · exact tdiv_in hu
  have e1 : 0 ≤ f_out a b k ∧ f_out a b k ≤ 1000 := g
  refine ⟨fun j => ?_, ?_, ?_, ?_⟩
  · unfold nf; grind
  · unfold f_mid
    rw [show nf t a b k 1 = a from rfl, if_neg (by omega), show nf t a b k 2 = b from rfl]
    omega
  · unfold f_below
    rw [show nf t a b k 1 = a from rfl, if_neg (by omega)]
    omega
  · unfold f_under
    rw [nf4, nf5, out_sq]
    exact hu
theorem und_le2 {a b k : Int} (ha : 0 ≤ a ∧ a ≤ 20) (hb : -240 ≤ b ∧ b ≤ 240) (hk : -240 ≤ k ∧ k ≤ 240) : -80000 ≤ f_und a b k ∧ f_und a b k ≤ 80000 := by
  unfold f_und
  have h1 := mul_in hb hb (by omega) (by omega)
  have h2 := mul_in (A := 20) (show -20 ≤ a ∧ a ≤ 20 by omega) hk (by omega) (by omega)
  have e : 4 * a * k = 4 * (a * k) := by grind
  split
  · omega
  · omega
theorem und_le {a b k B : Int} (hB : 0 ≤ B) (ha : -B ≤ a ∧ a ≤ B) (hb : -B ≤ b ∧ b ≤ B) (hk : -B ≤ k ∧ k ≤ B) : -(5 * (B * B)) ≤ f_und a b k ∧ f_und a b k ≤ 5 * (B * B) := by
  unfold f_und
  have h1 := mul_in hb hb hB hB
  have h2 := mul_in ha hk hB hB
  have h3 : 0 ≤ B * B := mul_nn hB hB
  have e : 4 * a * k = 4 * (a * k) := by grind
  split
  · omega
  · omega
