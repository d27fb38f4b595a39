/-! what holds of what is left, beside its bounds -/
def prm (R : Int → Int) : Prop := ∀ g : Int, (∀ j, g ∣ R j) → g ∣ 1
theorem prm_dvs {a b k : Int} {R Q : Int → Int} (h : prm R) (hd : dvs a b k R Q) : prm Q := fun g hg => h g (fun j => by
  rw [hd j]
  exact Int.dvd_add (Int.dvd_add (Int.dvd_mul_of_dvd_right (hg _)) (Int.dvd_mul_of_dvd_right (hg _))) (Int.dvd_mul_of_dvd_right (hg _)))
theorem prm_fac {a b k : Int} {R Q : Int → Int} (h : prm R) (hd : dvs a b k R Q) {g : Int} (ha : g ∣ a) (hb : g ∣ b) (hk : g ∣ k) : g ∣ 1 := h g (fun j => by
  rw [hd j]
  exact Int.dvd_add (Int.dvd_add (Int.dvd_mul_of_dvd_left ha) (Int.dvd_mul_of_dvd_left hb)) (Int.dvd_mul_of_dvd_left hk))
theorem dvd_gcd9 {d a b : Int} (ha : d ∣ a) (hb : d ∣ b) : d ∣ f_gcd a b := by unfold f_gcd; exact Int.dvd_coe_gcd ha hb
theorem rest_prm {N : Int → Int} (hN : ∀ j, -20 ≤ N j ∧ N j ≤ 20) (h5 : n5 N) (h0 : 0 ≤ f_deg N) : prm (f_rest N) := by
  intro g hg
  have hp := G5_pos hN h5 h0
  have hj : ∀ j, g * G5 N ∣ N j := fun j => by
    rw [← rest_mul hN h5 h0 j]
    obtain ⟨z, hz⟩ := hg j
    rw [hz]
    unfold f_cont
    split
    · exact ⟨-z, by grind⟩
    · exact ⟨z, by grind⟩
  have hG : g * G5 N ∣ G5 N := by
    unfold G5
    exact dvd_gcd9 (dvd_gcd9 (dvd_gcd9 (dvd_gcd9 (dvd_gcd9 (Int.dvd_zero _) (hj 0)) (hj 1)) (hj 2)) (hj 3)) (hj 4)
  obtain ⟨z, hz⟩ := hG
  refine ⟨z, ?_⟩
  have e : G5 N * (g * z) = G5 N * 1 := by grind
  exact (Int.eq_of_mul_eq_mul_left (by omega) e).symm
/-- its lowest number is within the limits -/
def T20 (R : Int → Int) : Prop := ∃ v, 0 ≤ v ∧ v ≤ 4 ∧ (∀ j, j < v → R j = 0) ∧ R v ≠ 0 ∧ -20 ≤ R v ∧ R v ≤ 20
theorem abs_mul_le {b x : Int} (hb : b ≠ 0) (h : -20 ≤ b * x ∧ b * x ≤ 20) : -20 ≤ x ∧ x ≤ 20 := by
  have h1 : (b * x).natAbs = b.natAbs * x.natAbs := Int.natAbs_mul b x
  have h2 : x.natAbs ≤ b.natAbs * x.natAbs := Nat.le_mul_of_pos_left _ (by omega)
  omega
theorem low_0 {b k v : Int} {R Q : Int → Int} (hk : k ≠ 0) (hQ : n5 Q) (hd : dvs 0 b k R Q) (hz : ∀ j, j < v → R j = 0) : ∀ j, j < v → Q j = 0 := by
  have key : ∀ n : Nat, (n : Int) < v → Q n = 0 := by
    intro n
    induction n with
    | zero =>
      intro h
      have e := hd 0
      rw [hz 0 h, show (0 : Int) - 1 = -1 by omega, hQ (-1) (by omega)] at e
      have e2 : k * Q 0 = 0 := by omega
      exact (Int.mul_eq_zero.mp e2).resolve_left hk
    | succ n ih =>
      intro h
      have e := hd ((n + 1 : Nat) : Int)
      have i1 := ih (by omega)
      rw [hz _ h, show ((n + 1 : Nat) : Int) - 1 = (n : Int) by omega, i1] at e
      have e2 : k * Q ((n + 1 : Nat) : Int) = 0 := by omega
      exact (Int.mul_eq_zero.mp e2).resolve_left hk
  intro j hj
  rcases Int.lt_or_le j 0 with q | q
  · exact hQ j (Or.inl q)
  · have := key j.toNat (by omega)
    rw [show ((j.toNat : Nat) : Int) = j by omega] at this
    exact this
theorem T20_lin {b k : Int} {R Q : Int → Int} (hb : 1 ≤ b) (h : T20 R) (hQ : n5 Q) (hd : dvs 0 b k R Q) : T20 Q := by
  obtain ⟨v, v0, v4, hz, hne, h1, h2⟩ := h
  by_cases hk : k = 0
  · have e : ∀ j, R j = b * Q (j - 1) := fun j => by rw [hd j, hk]; omega
    have hq : ∀ j, j < v - 1 → Q j = 0 := fun j hj => by
      have := e (j + 1)
      rw [hz _ (by omega), show j + 1 - 1 = j by omega] at this
      exact (Int.mul_eq_zero.mp this.symm).resolve_left (by omega)
    have ev := e v
    have hn1 : Q (v - 1) ≠ 0 := fun q => hne (by rw [ev, q]; omega)
    have hge : 0 ≤ v - 1 := by
      rcases Int.lt_or_le (v - 1) 0 with q | q
      · exact absurd (hQ _ (Or.inl q)) hn1
      · exact q
    have hb2 := abs_mul_le (b := b) (x := Q (v - 1)) (by omega) (by rw [← ev]; exact ⟨h1, h2⟩)
    exact ⟨v - 1, hge, by omega, hq, hn1, hb2.1, hb2.2⟩
  · have hq := low_0 hk hQ hd hz
    have ev := hd v
    rw [hq (v - 1) (by omega)] at ev
    have ev2 : R v = k * Q v := by omega
    have hn1 : Q v ≠ 0 := fun q => hne (by rw [ev2, q]; omega)
    have hb2 := abs_mul_le (b := k) (x := Q v) hk (by rw [← ev2]; exact ⟨h1, h2⟩)
    exact ⟨v, v0, v4, hq, hn1, hb2.1, hb2.2⟩
theorem T20_of {R : Int → Int} (h5 : n5 R) (h0 : 0 ≤ f_deg R) (hb : ∀ j, -20 ≤ R j ∧ R j ≤ 20) : T20 R := by
  have hc := (deg_c R).2.2.2 h0
  have hd := deg_c R
  have zn : ∀ j, j < 0 → R j = 0 := fun j hj => h5 j (Or.inl hj)
  by_cases c0 : R 0 = 0
  · by_cases c1 : R 1 = 0
    · by_cases c2 : R 2 = 0
      · by_cases c3 : R 3 = 0
        · refine ⟨4, by decide, by decide, fun j hj => ?_, fun q => hc ?_, hb 4⟩
          · rcases (show j < 0 ∨ j = 0 ∨ j = 1 ∨ j = 2 ∨ j = 3 by omega) with z | rfl | rfl | rfl | rfl
            · exact zn j z
            all_goals assumption
          · rcases (show f_deg R = 0 ∨ f_deg R = 1 ∨ f_deg R = 2 ∨ f_deg R = 3 ∨ f_deg R = 4 by omega) with z | z | z | z | z <;> rw [z] <;> assumption
        · refine ⟨3, by decide, by decide, fun j hj => ?_, c3, hb 3⟩
          rcases (show j < 0 ∨ j = 0 ∨ j = 1 ∨ j = 2 by omega) with z | rfl | rfl | rfl
          · exact zn j z
          all_goals assumption
      · refine ⟨2, by decide, by decide, fun j hj => ?_, c2, hb 2⟩
        rcases (show j < 0 ∨ j = 0 ∨ j = 1 by omega) with z | rfl | rfl
        · exact zn j z
        all_goals assumption
    · refine ⟨1, by decide, by decide, fun j hj => ?_, c1, hb 1⟩
      rcases (show j < 0 ∨ j = 0 by omega) with z | rfl
      · exact zn j z
      all_goals assumption
  · exact ⟨0, by decide, by decide, zn, c0, hb 0⟩
/-- all that holds of what is left while linear factors come out -/
def PL (R : Int → Int) : Prop := Bd R ∧ (1 ≤ R (f_deg R) ∧ R (f_deg R) ≤ 20) ∧ prm R ∧ T20 R
theorem PL_lin {b k : Int} {R Q : Int → Int} (hb : 1 ≤ b) (h : PL R) (hQ : n5 Q) (hd : dvs 0 b k R Q) : PL Q :=
  ⟨Bd_lin hb h.1 hQ hd, lin_lead hb h.1.1 h.1.2.1 h.2.1 hQ hd, prm_dvs h.2.2.1 hd, T20_lin hb h.2.2.2 hQ hd⟩
theorem rest_20 {N : Int → Int} (hN : ∀ j, -20 ≤ N j ∧ N j ≤ 20) (h5 : n5 N) (h0 : 0 ≤ f_deg N) : ∀ j, -20 ≤ f_rest N j ∧ f_rest N j ≤ 20 := fun j =>
  abs_mul_le (b := f_cont N) (cont_r hN h5 h0).1 (by rw [rest_mul hN h5 h0 j]; exact hN j)
theorem rest_PL {N : Int → Int} (hN : ∀ j, -20 ≤ N j ∧ N j ≤ 20) (h5 : n5 N) (h0 : 0 ≤ f_deg N) : PL (f_rest N) := by
  obtain ⟨h1, h2, h3⟩ := rest_Bd hN h5 h0
  exact ⟨h1, by rw [h2]; exact h3, rest_prm hN h5 h0, T20_of h1.1 h1.2.1 (rest_20 hN h5 h0)⟩
/-- no linear factor at all -/
def nol (R : Int → Int) : Prop := ∀ b k, 1 ≤ b → ¬ ∃ Q, n5 Q ∧ dvs 0 b k R Q
theorem nol_of {R : Int → Int} (h : PL R) (hn : nolin R) : nol R := by
  intro b k hb hQ
  obtain ⟨Q, hQ5, hd⟩ := hQ
  obtain ⟨d1, d2, d3⟩ := deg_dvs (a := 0) (b := b) (k := k) ⟨by decide, fun _ => hb⟩ h.1.1 hQ5 hd h.1.2.1
  rw [if_pos rfl] at d3
  have hl := h.2.1
  have hb20 : b ≤ 20 := by
    have h1 : 1 ≤ Q (f_deg Q) := by
      rcases Int.lt_or_le (Q (f_deg Q)) 1 with q | q
      · have := Int.mul_nonneg (show 0 ≤ b by omega) (show 0 ≤ -(Q (f_deg Q)) by omega)
        have e : b * -(Q (f_deg Q)) = -(b * Q (f_deg Q)) := Int.mul_neg _ _
        omega
      · exact q
    have h2 := Int.mul_le_mul_of_nonneg_left h1 (show 0 ≤ b by omega)
    omega
  have hk20 : -20 ≤ k ∧ k ≤ 20 := by
    by_cases hk : k = 0
    · omega
    · obtain ⟨v, v0, v4, hz, hne, h1, h2⟩ := h.2.2.2
      have hq := low_0 hk hQ5 hd hz
      have ev := hd v
      rw [hq (v - 1) (by omega)] at ev
      have ev2 : R v = Q v * k := by rw [Int.mul_comm]; omega
      have hn1 : Q v ≠ 0 := fun q => hne (by rw [ev2, q]; omega)
      exact abs_mul_le (b := Q v) hn1 (by rw [← ev2]; exact ⟨h1, h2⟩)
  exact hn b k hb hb20 hk20.1 hk20.2 ⟨Q, hQ5, hd⟩
/-- a linear factor of a quadratic one -/
theorem lin_quad {a b c q v t1 t0 : Int} {S Q : Int → Int} (ha : a ≠ 0) (hS : n5 S) (hQ : n5 Q) (hd : dvs a b c S Q) (e2 : a = q * t1) (e1 : b = q * t0 + v * t1) (e0 : c = v * t0) : ∃ V, n5 V ∧ dvs 0 q v S V := by
  obtain ⟨g4, g3, g2, g1, g0, z3, z4⟩ := qua_eqs ha hS hQ hd
  refine ⟨p4 (t0 * Q 0) (t1 * Q 0 + t0 * Q 1) (t1 * Q 1 + t0 * Q 2) (t1 * Q 2), p4_n5 _ _ _ _, dvs_p4 hS (by omega) ?_ ?_ ?_ ?_ ?_⟩
  · rw [g4, e2]; grind
  · rw [g3, e2, e1]; grind
  · rw [g2, e2, e1, e0]; grind
  · rw [g1, e1, e0]; grind
  · rw [g0, e0]; grind
theorem q_c0 {a b : Int} {S Q : Int → Int} (hn : nol S) (ha : a ≠ 0) (hS : n5 S) (hQ : n5 Q) (hd : dvs a b 0 S Q) : False :=
  hn 1 0 (by decide) (lin_quad (q := 1) (v := 0) (t1 := a) (t0 := b) ha hS hQ hd (by omega) (by omega) (by omega))
theorem q_s0 {a b c : Int} {S Q : Int → Int} (hn : nol S) (ha : a ≠ 0) (hS : n5 S) (hQ : n5 Q) (hd : dvs a b c S Q) (h : a + b + c = 0) : False :=
  hn 1 (-1) (by decide) (lin_quad (q := 1) (v := -1) (t1 := a) (t0 := -c) ha hS hQ hd (by omega) (by omega) (by omega))
theorem q_d3 {a b c : Int} {S Q : Int → Int} (hn : nol S) (ha : 1 ≤ a) (hS : n5 S) (h3 : f_deg S = 3) (hl : 1 ≤ S 3) (hQ : n5 Q) (hd : dvs a b c S Q) : False := by
  obtain ⟨g4, g3, g2, g1, g0, z3, z4⟩ := qua_eqs (by omega) hS hQ hd
  have s4 : S 4 = 0 := (deg_c S).2.2.1 4 (by omega) (by omega)
  have q2 : Q 2 = 0 := (Int.mul_eq_zero.mp (show a * Q 2 = 0 by omega)).resolve_left (by omega)
  rw [q2] at g3 g2
  have q1 : 1 ≤ Q 1 := by
    rcases Int.lt_or_le (Q 1) 1 with q | q
    · have := Int.mul_nonneg (show 0 ≤ a by omega) (show 0 ≤ -(Q 1) by omega)
      have e : a * -(Q 1) = -(a * Q 1) := Int.mul_neg _ _
      omega
    · exact q
  refine hn (Q 1) (Q 0) q1 ⟨p4 c b a 0, p4_n5 _ _ _ _, dvs_p4 hS (by omega) ?_ ?_ ?_ ?_ ?_⟩
  · rw [s4]; grind
  · rw [g3]; grind
  · rw [g2]; grind
  · rw [g1]; grind
  · rw [g0]; grind
theorem q_d2 {a b c : Int} {S Q : Int → Int} (hp : prm S) (ha : 1 ≤ a) (hS : n5 S) (h2 : f_deg S = 2) (hl : 1 ≤ S 2) (hQ : n5 Q) (hd : dvs a b c S Q) : a = S 2 ∧ b = S 1 ∧ c = S 0 := by
  obtain ⟨g4, g3, g2, g1, g0, z3, z4⟩ := qua_eqs (by omega) hS hQ hd
  have s4 : S 4 = 0 := (deg_c S).2.2.1 4 (by omega) (by omega)
  have s3 : S 3 = 0 := (deg_c S).2.2.1 3 (by omega) (by omega)
  have q2 : Q 2 = 0 := (Int.mul_eq_zero.mp (show a * Q 2 = 0 by omega)).resolve_left (by omega)
  rw [q2] at g3 g2
  have q1 : Q 1 = 0 := (Int.mul_eq_zero.mp (show a * Q 1 = 0 by omega)).resolve_left (by omega)
  rw [q1] at g2 g1
  have hg : Q 0 ∣ 1 := hp (Q 0) (fun j => by
    by_cases z : 0 ≤ j ∧ j ≤ 4
    · rcases (show j = 0 ∨ j = 1 ∨ j = 2 ∨ j = 3 ∨ j = 4 by omega) with rfl | rfl | rfl | rfl | rfl
      · rw [g0]; exact ⟨c, Int.mul_comm _ _⟩
      · exact ⟨b, by rw [Int.mul_comm]; omega⟩
      · exact ⟨a, by rw [Int.mul_comm]; omega⟩
      · rw [s3]; exact Int.dvd_zero _
      · rw [s4]; exact Int.dvd_zero _
    · rw [hS j (by omega)]; exact Int.dvd_zero _)
  have hle := Int.le_of_dvd (by decide) hg
  have q0 : Q 0 = 1 := by
    rcases Int.lt_or_le (Q 0) 1 with q | q
    · have := Int.mul_nonneg (show 0 ≤ a by omega) (show 0 ≤ -(Q 0) by omega)
      have e : a * -(Q 0) = -(a * Q 0) := Int.mul_neg _ _
      omega
    · omega
  rw [q0] at g2 g1 g0
  refine ⟨by omega, by omega, by omega⟩
theorem q_d1 {S : Int → Int} (hn : nol S) (hS : n5 S) (h1 : f_deg S = 1) (hl : 1 ≤ S 1) : False := by
  have s4 : S 4 = 0 := (deg_c S).2.2.1 4 (by omega) (by omega)
  have s3 : S 3 = 0 := (deg_c S).2.2.1 3 (by omega) (by omega)
  have s2 : S 2 = 0 := (deg_c S).2.2.1 2 (by omega) (by omega)
  exact hn (S 1) (S 0) hl ⟨p4 1 0 0 0, p4_n5 _ _ _ _, dvs_p4 hS (by omega) (by omega) (by omega) (by omega) (by omega) (by omega)⟩
theorem q_sum {a b c : Int} {S Q : Int → Int} (ha : a ≠ 0) (hS : n5 S) (hQ : n5 Q) (hd : dvs a b c S Q) : (a + b + c) * (Q 0 + Q 1 + Q 2) = S 0 + S 1 + S 2 + S 3 + S 4 := by
  obtain ⟨g4, g3, g2, g1, g0, z3, z4⟩ := qua_eqs ha hS hQ hd
  rw [g4, g3, g2, g1, g0]
  grind
theorem q_low {a b c : Int} {S Q : Int → Int} (ha : a ≠ 0) (hS : n5 S) (hQ : n5 Q) (hd : dvs a b c S Q) : c * Q 0 = S 0 := (qua_eqs ha hS hQ hd).2.2.2.2.1.symm
theorem q_gcd {a b c : Int} {S Q : Int → Int} (hp : prm S) (hd : dvs a b c S Q) : f_gcd (f_gcd a b) c = 1 := by
  have h := prm_fac hp hd (Int.dvd_trans (gcd_dl (f_gcd a b) c) (gcd_dl a b)) (Int.dvd_trans (gcd_dl (f_gcd a b) c) (gcd_dr a b)) (gcd_dr (f_gcd a b) c)
  have h1 : 0 ≤ f_gcd (f_gcd a b) c := by show (0 : Int) ≤ (Int.gcd (f_gcd a b) c : Int); omega
  have := Int.le_of_dvd (by decide) h
  rcases (show f_gcd (f_gcd a b) c = 0 ∨ f_gcd (f_gcd a b) c = 1 by omega) with q | q
  · rw [q] at h; exact absurd (Int.zero_dvd.mp h) (by decide)
  · exact q
theorem l_gcd {b c : Int} {S Q : Int → Int} (hp : prm S) (hd : dvs 0 b c S Q) : f_gcd b c = 1 := by
  have h := prm_fac hp hd (Int.dvd_zero _) (gcd_dl b c) (gcd_dr b c)
  have h1 : 0 ≤ f_gcd b c := by show (0 : Int) ≤ (Int.gcd b c : Int); omega
  have := Int.le_of_dvd (by decide) h
  rcases (show f_gcd b c = 0 ∨ f_gcd b c = 1 by omega) with q | q
  · rw [q] at h; exact absurd (Int.zero_dvd.mp h) (by decide)
  · exact q
/-- any quadratic factor of a rest of degree 4 lies where one looks -/
theorem q_rng {a b c : Int} {S Q : Int → Int} (hB : Bd S) (h4 : f_deg S = 4) (hl : 1 ≤ S 4) (h0 : S 0 ≠ 0) (ha : 1 ≤ a) (hQ : n5 Q) (hd : dvs a b c S Q) : a ≤ 20 ∧ (-240 ≤ b ∧ b ≤ 240) ∧ (-20 ≤ c ∧ c ≤ 20) ∧ c ≠ 0 := by
  obtain ⟨g4, g3, g2, g1, g0, z3, z4⟩ := qua_eqs (by omega) hB.1 hQ hd
  have hb : ∀ j, -20 ≤ S j ∧ S j ≤ 20 := fun j => by have := hB.2.2 j; rw [h4] at this; exact this
  have b4 := hb 4
  have b3 := hb 3
  have b2 := hb 2
  have b1 := hb 1
  have b0 := hb 0
  obtain ⟨c1, c2, f2⟩ := dvd_le (c := c) (f := Q 0) (m := S 0) g0.symm h0 b0
  have q2 : 1 ≤ Q 2 := by
    rcases Int.lt_or_le (Q 2) 1 with q | q
    · have := Int.mul_nonneg (show 0 ≤ a by omega) (show 0 ≤ -(Q 2) by omega)
      have e : a * -(Q 2) = -(a * Q 2) := Int.mul_neg _ _
      omega
    · exact q
  have ha20 : a ≤ 20 := by have := Int.mul_le_mul_of_nonneg_left q2 (show 0 ≤ a by omega); omega
  have hd20 : Q 2 ≤ 20 := by have := Int.mul_le_mul_of_nonneg_right ha (show 0 ≤ Q 2 by omega); omega
  refine ⟨ha20, ?_, c1, c2⟩
  rcases Int.le_total a (Q 2) with q | q
  · have r := reach1 (a := a) (b := b) (c := c) (d := Q 2) (e := Q 1) (f := Q 0) ha q (by omega) (by omega) (by omega) (by omega) (by omega) c2 f2
    constructor
    · rcases Int.lt_or_le b (-240) with z | z
      · have := Int.mul_le_mul_of_nonneg_right (show b ≤ -241 by omega) (show 0 ≤ Q 2 by omega)
        omega
      · exact z
    · rcases Int.lt_or_le 240 b with z | z
      · have := Int.mul_le_mul_of_nonneg_right (show 241 ≤ b by omega) (show 0 ≤ Q 2 by omega)
        omega
      · exact z
  · have r := reach1 (a := Q 2) (b := Q 1) (c := Q 0) (d := a) (e := b) (f := c) q2 q (by rw [Int.mul_comm]; omega) (by have e1 := Int.mul_comm (Q 2) b; have e2 := Int.mul_comm (Q 1) a; omega) (by have e1 := Int.mul_comm (Q 2) c; have e2 := Int.mul_comm (Q 1) b; have e3 := Int.mul_comm (Q 0) a; omega) (by have e1 := Int.mul_comm (Q 1) c; have e2 := Int.mul_comm (Q 0) b; omega) (by rw [Int.mul_comm]; omega) f2 c2
    have e2 := Int.mul_comm (Q 1) a
    have e3 := Int.mul_comm (Q 2) a
    constructor
    · rcases Int.lt_or_le b (-240) with z | z
      · have := Int.mul_le_mul_of_nonneg_right (show b ≤ -241 by omega) (show 0 ≤ Q 2 by omega)
        omega
      · exact z
    · rcases Int.lt_or_le 240 b with z | z
      · have := Int.mul_le_mul_of_nonneg_right (show 241 ≤ b by omega) (show 0 ≤ Q 2 by omega)
        omega
      · exact z
theorem cop_dvd {a b c : Int} (h : a ∣ b * c) (g : Int.gcd a b = 1) : a ∣ c := by
  have h2 := Int.natAbs_dvd_natAbs.mpr h
  rw [Int.natAbs_mul] at h2
  exact Int.natAbs_dvd_natAbs.mp (Nat.Coprime.dvd_of_dvd_mul_left (k := a.natAbs) (m := b.natAbs) g h2)
/-- two linear factors in lowest terms with one root are one -/
theorem no_tie {b1 k1 b2 k2 : Int} (h1 : f_gcd b1 k1 = 1) (h2 : f_gcd b2 k2 = 1) (p1 : 1 ≤ b1) (p2 : 1 ≤ b2) (h : k1 * b2 = k2 * b1) : b1 = b2 ∧ k1 = k2 := by
  have n1 : Int.gcd b1 k1 = 1 := by have : ((Int.gcd b1 k1 : Nat) : Int) = 1 := h1; omega
  have n2 : Int.gcd b2 k2 = 1 := by have : ((Int.gcd b2 k2 : Nat) : Int) = 1 := h2; omega
  have d1 : b1 ∣ b2 := cop_dvd (a := b1) (b := k1) (c := b2) ⟨k2, by rw [h, Int.mul_comm]⟩ n1
  have d2 : b2 ∣ b1 := cop_dvd (a := b2) (b := k2) (c := b1) ⟨k1, by rw [← h, Int.mul_comm]⟩ n2
  have e : b1 = b2 := Int.le_antisymm (Int.le_of_dvd (by omega) d1) (Int.le_of_dvd (by omega) d2)
  subst e
  exact ⟨rfl, Int.eq_of_mul_eq_mul_right (by omega) h⟩
