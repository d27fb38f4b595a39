/-! the two programs' answers of one factor are the same -/
/-- what holds of a factor's numbers -/
def gok (a b c : Int) : Prop := (0 ≤ a ∧ a ≤ 20) ∧ (-240 ≤ b ∧ b ≤ 240) ∧ (-20 ≤ c ∧ c ≤ 20) ∧ ((a = 0 ∧ 1 ≤ b) ∨ (1 ≤ a ∧ ∀ r, b * b - 4 * a * c ≠ r * r))
theorem gsL_max {z : Int} : ∀ (n : Nat) (i : Int), 1 ≤ i → i ≤ n → z.tmod (i * i) = 0 → i * i ≤ z → i ≤ gsL z n := by
  intro n
  induction n with
  | zero => intro i h1 h2; omega
  | succ n ih =>
    intro i h1 h2 h3 h4
    rw [gsL]
    by_cases e : i = (n : Int) + 1
    · rw [if_pos (by rw [← e]; exact ⟨h3, h4⟩)]; omega
    · have := ih i h1 (by omega) h3 h4
      by_cases q : z.tmod (((n : Int) + 1) * ((n : Int) + 1)) = 0 ∧ ((n : Int) + 1) * ((n : Int) + 1) ≤ z
      · rw [if_pos q]; omega
      · rw [if_neg q]; exact this
theorem tmod_dvd {z x : Int} (h : x ∣ z) : z.tmod x = 0 := Int.tmod_eq_zero_of_dvd h
theorem dvd_tmod {z x : Int} (h : z.tmod x = 0) : x ∣ z := Int.dvd_of_tmod_eq_zero h
/-- a square that divides r r q, where q has no square: its root divides r -/
theorem sq_dvd {g r q : Int} (hg : 1 ≤ g) (hr : 1 ≤ r) (hq : ∀ i, 2 ≤ i → ¬ i * i ∣ q) (h : g * g ∣ r * r * q) : g ≤ r := by
  obtain ⟨d, x, y, hd, hx, hy, hc⟩ := gcd_split (P := g) (Q := r) (by omega)
  have hx1 : 1 ≤ x := by
    rcases Int.lt_or_le x 1 with z | z
    · have := Int.mul_nonneg (show 0 ≤ d by omega) (show 0 ≤ -x by omega)
      have e : d * -x = -(d * x) := Int.mul_neg _ _
      omega
    · exact z
  have hy1 : 1 ≤ y := by
    rcases Int.lt_or_le y 1 with z | z
    · have := Int.mul_nonneg (show 0 ≤ d by omega) (show 0 ≤ -y by omega)
      have e : d * -y = -(d * y) := Int.mul_neg _ _
      omega
    · exact z
  obtain ⟨k, hk⟩ := h
  have e1 : d * d * (y * (y * q)) = d * d * (x * (x * k)) := by
    rw [hx, hy] at hk
    grind
  have hdd : d * d ≠ 0 := by have := Int.mul_pos (show 0 < d by omega) (show 0 < d by omega); omega
  have e2 : y * (y * q) = x * (x * k) := Int.eq_of_mul_eq_mul_left hdd e1
  have d1 : x ∣ y * q := cop_dvd ⟨x * k, e2⟩ hc
  have d2 : x ∣ q := cop_dvd d1 hc
  obtain ⟨m, hm⟩ := d2
  have e3 : x * (y * (y * m)) = x * (x * k) := by rw [← e2, hm]; grind
  have e4 : y * (y * m) = x * k := Int.eq_of_mul_eq_mul_left (by omega) e3
  have d3 : x ∣ m := cop_dvd (cop_dvd ⟨k, e4⟩ hc) hc
  obtain ⟨m2, hm2⟩ := d3
  have d4 : x * x ∣ q := ⟨m2, by rw [hm, hm2]; grind⟩
  have hx2 : x = 1 := by
    rcases (show x = 1 ∨ 2 ≤ x by omega) with z | z
    · exact z
    · exact (hq x z d4).elim
  rw [hx, hx2, hy]
  have := Int.mul_le_mul_of_nonneg_left hy1 (show 0 ≤ d by omega)
  exact this
theorem und_ne {a b c : Int} (h : gok a b c) (ha : a ≠ 0) : f_und a b c = b * b - 4 * a * c ∧ f_und a b c ≠ 0 ∧ -80000 ≤ f_und a b c ∧ f_und a b c ≤ 80000 := by
  obtain ⟨h1, h2, h3, h4⟩ := h
  have e : f_und a b c = b * b - 4 * a * c := if_neg ha
  have hr := und_le2 h1 h2 (k := c) (by omega)
  refine ⟨e, ?_, hr⟩
  rw [e]
  rcases h4 with ⟨q, -⟩ | ⟨-, q⟩
  · exact absurd q ha
  · have := q 0; omega
/-- the square part, and what is left under the root -/
theorem gsq_eq {D r q : Int} (hD : D ≠ 0) (hb : -80000 ≤ D ∧ D ≤ 80000) (h : sqf D r q) : f_gsq D = r ∧ Int.tdiv D (r * r) = q := by
  obtain ⟨h1, h2, h3⟩ := h
  have hrr : 1 ≤ r * r := by have := Int.mul_le_mul h1 h1 (by decide) (by omega); omega
  have hq0 : q ≠ 0 := fun z => hD (by rw [← h2, z]; omega)
  have hdv : r * r ∣ D := ⟨q, h2.symm⟩
  have hsz : r * r ∣ f_size D := by
    unfold f_size
    split
    · exact (Int.dvd_neg).mpr hdv
    · exact hdv
  have hs0 : 1 ≤ f_size D := by unfold f_size; grind
  have hs1 : f_size D ≤ 80000 := size_le hb.1 hb.2
  have hle : r * r ≤ f_size D := Int.le_of_dvd (by omega) hsz
  have hr1000 : r ≤ 1000 := by
    rcases Int.lt_or_le 1000 r with z | z
    · have := sq_mono (a := 1000) (b := r) (by decide) (by omega)
      omega
    · exact z
  have g1 : r ≤ f_gsq D := gsL_max 1000 r h1 (by omega) (tmod_dvd hsz) hle
  have g2 : f_gsq D * f_gsq D ∣ f_size D := dvd_tmod (gsL_dvd 1000 (by show f_gsq D ≠ 0; omega))
  have g3 : f_gsq D * f_gsq D ∣ r * r * q := by
    rw [h2]
    unfold f_size at g2
    split at g2
    · exact (Int.dvd_neg).mp g2
    · exact g2
  have g4 := sq_dvd (by omega) h1 h3 g3
  exact ⟨by omega, (tdiv_of (by omega) h2).2⟩
theorem out_0 (b c : Int) : f_out 0 b c = 0 ∧ f_ins 0 b c = 0 := by
  have e : f_und 0 b c = 0 := if_pos rfl
  have e2 : f_out 0 b c = 0 := by
    unfold f_out
    rw [e]
    rcases (show f_gsq 0 = 0 ∨ f_gsq 0 ≠ 0 by omega) with z | z
    · exact z
    · exfalso
      have h1 := gsq_r 0
      have : ∀ n : Nat, gsL 0 n = 0 := by
        intro n
        induction n with
        | zero => rfl
        | succ n ih =>
          rw [gsL, if_neg, ih]
          intro q
          have := Int.mul_pos (show (0 : Int) < (n : Int) + 1 by omega) (show (0 : Int) < (n : Int) + 1 by omega)
          omega
      exact z (this 1000)
  exact ⟨e2, by unfold f_ins; rw [if_pos e2]⟩
theorem below_p {t a b c : Int} (h : gok a b c) : f_below (nf t a b c) = (if a = 0 then b else 2 * a) ∧ 1 ≤ f_below (nf t a b c) := by
  have e : f_below (nf t a b c) = (if a = 0 then b else 2 * a) := rfl
  refine ⟨e, ?_⟩
  rw [e]
  obtain ⟨h1, h2, h3, h4⟩ := h
  rcases h4 with ⟨q, q2⟩ | ⟨q, -⟩
  · rw [if_pos q]; exact q2
  · rw [if_neg (by omega)]; omega
theorem gcd_p {x y : Int} (h : 1 ≤ y) : f_gcd x y ≠ 0 := by
  unfold f_gcd
  have := Int.gcd_pos_of_ne_zero_right x (show y ≠ 0 by omega)
  omega
theorem ans_eq {t a b c : Int} {Y : Int → Int} (h : gok a b c) (hA : AO a b c Y) : f_ans (nf t a b c) 0 0 = Y 0 ∧ f_ans (nf t a b c) 0 1 = Y 1 ∧ f_ans (nf t a b c) 1 0 = Y 2 ∧ f_ans (nf t a b c) 1 1 = Y 3 ∧ f_ins a b c = Y 4 := by
  obtain ⟨hb1, hb2⟩ := below_p (t := t) h
  have ab0 : f_above (nf t a b c) 0 = (if a = 0 then -c else -b) := rfl
  have ab1 : f_above (nf t a b c) 1 = f_out a b c := rfl
  obtain ⟨y0, y1, y2⟩ := hA
  have ff : ∀ w v, f_ans (nf t a b c) w v = Int.tdiv (if v = 0 then f_above (nf t a b c) w else f_below (nf t a b c)) (f_gcd (f_above (nf t a b c) w) (f_below (nf t a b c))) := fun w v => if_neg (gcd_p hb2)
  have w0 : f_ans (nf t a b c) 0 0 = Y 0 := by rw [ff, if_pos rfl, ab0, hb1, y0]
  have w1 : f_ans (nf t a b c) 0 1 = Y 1 := by rw [ff, if_neg (by decide), ab0, hb1, y1]
  refine ⟨w0, w1, ?_⟩
  rcases y2 with ⟨e, z2, z3, z4⟩ | ⟨e, r, hr, z2, z3⟩
  · obtain ⟨o1, o2⟩ := out_0 b c
    subst e
    have hg : f_gcd 0 (f_below (nf t 0 b c)) = f_below (nf t 0 b c) := by
      unfold f_gcd
      rw [Int.gcd_zero_left]
      omega
    refine ⟨?_, ?_, o2.trans z4.symm⟩
    · rw [ff, if_pos rfl, ab1, o1, z2]; exact Int.zero_tdiv _
    · rw [ff, if_neg (by decide), ab1, o1, hg, z3]; exact Int.tdiv_self (by omega)
  · obtain ⟨u1, u2, u3⟩ := und_ne h e
    rw [← u1] at hr
    obtain ⟨g1, g2⟩ := gsq_eq u2 u3 hr
    have o1 : f_out a b c = r := g1
    have o2 : f_ins a b c = Y 4 := by
      unfold f_ins
      rw [o1, if_neg (by have := hr.1; omega)]
      exact g2
    rw [if_neg e] at hb1
    exact ⟨by rw [ff, if_pos rfl, ab1, o1, hb1, z2], by rw [ff, if_neg (by decide), ab1, o1, hb1, z3], o2⟩
theorem ins_sg {a b c : Int} (h : gok a b c) : 0 ≤ f_ins a b c ↔ (a = 0 ∨ 4 * a * c < b * b) := by
  by_cases ha : a = 0
  · subst ha
    rw [(out_0 b c).2]
    exact ⟨fun _ => Or.inl rfl, fun _ => Int.le_refl _⟩
  · obtain ⟨u1, u2, u3⟩ := und_ne h ha
    have e := out_sq a b c
    have hs : 0 ≤ f_out a b c * f_out a b c := by
      have := (gsq_r (f_und a b c)).1
      exact Int.mul_nonneg this this
    constructor
    · intro q
      have := Int.mul_nonneg hs q
      exact Or.inr (by omega)
    · rintro (q | q)
      · exact absurd q ha
      · rcases Int.lt_or_le (f_ins a b c) 0 with z | z
        · have := Int.mul_nonneg hs (show 0 ≤ -f_ins a b c by omega)
          have e2 : f_out a b c * f_out a b c * -f_ins a b c = -(f_out a b c * f_out a b c * f_ins a b c) := Int.mul_neg _ _
          omega
        · exact z
theorem real_eq {a b c : Int} (h : gok a b c) : 0 ≤ f_ins a b c ↔ g_real a b c = 1 := by
  rw [ins_sg h]
  unfold g_real
  constructor
  · intro q; rw [if_pos q]
  · intro q
    by_cases z : a = 0 ∨ 4 * a * c < b * b
    · exact z
    · rw [if_neg z] at q; omega
theorem rl_eq {t a b c : Int} (h : gok a b c) : f_rl (nf t a b c) = g_rl a b c := by
  have e := ins_sg h
  show (if a = 0 then 1 else if 0 ≤ f_ins a b c then 2 else 0) = _
  unfold g_rl
  grind
theorem sum_eq {Fs : Int → Int → Int} {As Bs Cs Os : Int → Int} {fc : Int} (hag : agr fc (FF As Bs Cs Os) Fs) (hg : ∀ i, 0 ≤ i → i < fc → gok (As i) (Bs i) (Cs i)) : ∀ n : Nat, (n : Int) ≤ fc → f_sum Fs n = g_sum As Bs Cs n := by
  intro n
  induction n with
  | zero => intro _; rfl
  | succ n ih =>
    intro h
    have e1 := ih (by omega)
    have e2 : f_rl (Fs n) = g_rl (As n) (Bs n) (Cs n) := by
      rw [← hag n (by omega) (by omega)]
      exact rl_eq (hg n (by omega) (by omega))
    rw [f_sum, g_sum, e1, e2]
theorem ediv_uniq {x y v : Int} (hy : 1 ≤ y) (h1 : y * v ≤ x) (h2 : x < y * (v + 1)) : x / y = v := by
  have e : x = y * v + (x - y * v) := by omega
  have e2 : y * (v + 1) = y * v + y := by rw [Int.mul_add, Int.mul_one]
  rw [e, Int.mul_add_ediv_left _ _ (by omega), Int.ediv_eq_zero_of_lt (by omega) (by omega)]
  omega
theorem sq_lt_iff {s q D : Int} (hq : 0 ≤ q) (h1 : q * q ≤ D) (h2 : D < (q + 1) * (q + 1)) : (s * s ≤ D ↔ (-q ≤ s ∧ s ≤ q)) := by
  constructor
  · intro h
    constructor
    · rcases Int.lt_or_le s (-q) with z | z
      · have := sq_mono (a := q + 1) (b := -s) (by omega) (by omega)
        have e : -s * -s = s * s := Int.neg_mul_neg s s
        omega
      · exact z
    · rcases Int.lt_or_le q s with z | z
      · have := sq_mono (a := q + 1) (b := s) (by omega) (by omega)
        omega
      · exact z
  · rintro ⟨z1, z2⟩
    rcases Int.lt_or_le s 0 with z | z
    · have := sq_mono (a := -s) (b := q) (by omega) (by omega)
      have e : -s * -s = s * s := Int.neg_mul_neg s s
      omega
    · have := sq_mono (a := s) (b := q) z z2
      omega
theorem val_4a (a b c p : Int) : 4 * a * (a * p * p + b * p * 1 + c * 1 * 1) = (2 * a * p + b) * (2 * a * p + b) - (b * b - 4 * a * c) := by grind
/-- whether a quadratic one is below 0 -/
theorem val_neg {a b c p : Int} (ha : 1 ≤ a) (hns : ∀ r, b * b - 4 * a * c ≠ r * r) : a * p * p + b * p * 1 + c * 1 * 1 < 0 ↔ (2 * a * p + b) * (2 * a * p + b) ≤ b * b - 4 * a * c := by
  have e := val_4a a b c p
  have hn := hns (2 * a * p + b)
  generalize a * p * p + b * p * 1 + c * 1 * 1 = V at *
  constructor
  · intro h
    have := Int.mul_pos (show 0 < 4 * a by omega) (show 0 < -V by omega)
    have e2 : 4 * a * -V = -(4 * a * V) := Int.mul_neg _ _
    omega
  · intro h
    rcases Int.lt_or_le V 0 with z | z
    · exact z
    · have := Int.mul_nonneg (show 0 ≤ 4 * a by omega) z
      omega
theorem flr_eq {t a b c up q v : Int} (h : gok a b c) (hup : up = 0 ∨ up = 1) (hr : 0 ≤ f_ins a b c) (hq : f_isrt (f_under (nf t a b c)) q) (hv : v = -1000 ∨ 0 ≤ g_sign a b c up v) (hv2 : g_sign a b c up (v + 1) < 0) : f_flr (nf t a b c) up q = v := by
  obtain ⟨hb1, hb2⟩ := below_p (t := t) h
  have eu : f_under (nf t a b c) = f_und a b c := out_sq a b c
  have hr2 := (ins_sg h).mp hr
  obtain ⟨h1, h2, h3, h4⟩ := h
  obtain ⟨q0, q1, q2, q3⟩ := hq
  rw [eu] at q2 q3
  have em : f_mid (nf t a b c) = (if a = 0 then -c else -b) := rfl
  have e1 : (nf t a b c) 1 = a := rfl
  unfold f_flr
  rw [hb1, em, e1]
  rcases h4 with ⟨ha, hb⟩ | ⟨ha, hns⟩
  · subst ha
    have hu : f_und 0 b c = 0 := if_pos rfl
    rw [hu] at q3
    have eq : q = 0 := by
      rcases q3 with z | z
      · rcases (show q = 0 ∨ 0 < q by omega) with y | y
        · exact y
        · have := Int.mul_pos y y; omega
      · exact z
    rw [if_neg (by omega), if_pos rfl, if_pos rfl, eq]
    unfold g_sign at hv hv2
    rw [if_pos rfl] at hv hv2
    have g2 : -c * 1 - (v + 1) * b < 0 := by
      by_cases z : 0 < -c * 1 - (v + 1) * b
      · rw [if_pos z] at hv2; omega
      · rw [if_neg z] at hv2
        by_cases y : -c * 1 - (v + 1) * b < 0
        · exact y
        · rw [if_neg y] at hv2; omega
    have m1 : (v + 1) * b = b * (v + 1) := Int.mul_comm _ _
    have m2 : v * b = b * v := Int.mul_comm _ _
    refine ediv_uniq hb ?_ (by omega)
    rcases hv with z | z
    · exfalso
      subst z
      omega
    · by_cases y : 0 < -c * 1 - v * b
      · omega
      · rw [if_neg y] at z
        by_cases x : -c * 1 - v * b < 0
        · rw [if_pos x] at z; omega
        · omega
  · have ha0 : ¬ a = 0 := by omega
    have hu : f_und a b c = b * b - 4 * a * c := if_neg ha0
    rw [hu] at q2 q3
    have hD : 0 < b * b - 4 * a * c := by
      rcases hr2 with z | z
      · exact absurd z ha0
      · omega
    have qq : q * q ≤ b * b - 4 * a * c := by
      rcases q3 with z | z
      · exact z
      · rw [z]; omega
    rw [if_neg ha0, if_neg ha0]
    unfold g_sign at hv hv2
    rw [if_neg ha0] at hv hv2
    have key : ∀ p, a * p * p + b * p * 1 + c * 1 * 1 < 0 ↔ (-q ≤ 2 * a * p + b ∧ 2 * a * p + b ≤ q) := fun p => (val_neg ha hns).trans (sq_lt_iff q0 qq q2)
    have k1 := key v
    have k2 := key (v + 1)
    have m1 : 2 * a * (v + 1) = 2 * a * v + 2 * a := by rw [Int.mul_add, Int.mul_one]
    generalize a * v * v + b * v * 1 + c * 1 * 1 = V1 at *
    generalize a * (v + 1) * (v + 1) + b * (v + 1) * 1 + c * 1 * 1 = V2 at *
    have hv3 : v = -1000 → 2 * a * v + 2 * a = -1998 * a := fun z => by rw [z]; omega
    rcases hup with z | z
    · subst z
      rw [if_pos ⟨rfl, ha0⟩]
      rw [if_pos rfl] at hv hv2
      refine ediv_uniq (by omega) ?_ ?_
      · grind
      · grind
    · subst z
      rw [if_neg (by omega)]
      rw [if_neg (show ¬ (1 : Int) = 0 by decide)] at hv hv2
      refine ediv_uniq (by omega) ?_ ?_
      · grind
      · grind
