/-! what the linear turns keep; what a splitting comes to -/
theorem dvN_inv {a b k : Int} {Pr : (Int → Int) → Prop} (hcl : ∀ S Q, Pr S → n5 Q → dvs a b k S Q → Pr Q) : ∀ (t : Nat) (S S' : Int → Int), Pr S → dvN a b k t S S' → Pr S' := by
  intro t
  induction t with
  | zero => intro S S' h h2; rw [show S' = S from h2]; exact h
  | succ t ih =>
    intro S S' h h2
    obtain ⟨Q, hQ, hd, hr⟩ := h2
    exact ih Q S' (hcl S Q h hQ hd) hr
theorem runC_inv {b : Int} {Pr : (Int → Int) → Prop} (hcl : ∀ k S Q, Pr S → n5 Q → dvs 0 b k S Q → Pr Q) : ∀ (n : Nat) (s s' : SS), Pr s.1 → runC b n s s' → Pr s'.1 := by
  intro n
  induction n with
  | zero => intro s s' h h2; rw [show s' = s from h2]; exact h
  | succ n ih =>
    intro s s' h h2
    obtain ⟨s1, h3, t, -, -, hk, -⟩ := h2
    exact dvN_inv (hcl _) _ _ _ (ih s s1 h h3) hk.1
theorem runB_inv {Pr : (Int → Int) → Prop} (hcl : ∀ b k S Q, 1 ≤ b → Pr S → n5 Q → dvs 0 b k S Q → Pr Q) : ∀ (n : Nat) (s s' : SS), Pr s.1 → runB n s s' → Pr s'.1 := by
  intro n
  induction n with
  | zero => intro s s' h h2; rw [show s' = s from h2]; exact h
  | succ n ih =>
    intro s s' h h2
    obtain ⟨s1, h3, h4⟩ := h2
    exact runC_inv (fun k S Q => hcl _ k S Q (by omega)) _ _ _ (ih s s1 h h3) h4
/-- a linear factor of a quotient is one of the whole -/
theorem lin_up {a b k b2 k2 : Int} {S S' : Int → Int} (hb : 1 ≤ b2) (hS : n5 S) (hd : dvs a b k S S') (h : ∃ Q, n5 Q ∧ dvs 0 b2 k2 S' Q) : ∃ Q, n5 Q ∧ dvs 0 b2 k2 S Q := by
  obtain ⟨Q, hQ, hd2⟩ := h
  have hdd : dvs 0 b2 k2 S (fun j => a * Q (j - 2) + b * Q (j - 1) + k * Q j) := by
    intro j
    have e := hd j
    rw [hd2 (j - 2), hd2 (j - 1), hd2 j] at e
    rw [e]
    have e1 : j - 2 - 1 = j - 3 := by omega
    have e2 : j - 1 - 1 = j - 2 := by omega
    have e3 : j - 1 - 2 = j - 3 := by omega
    simp only [e1, e2, e3]
    grind
  refine ⟨_, ?_, hdd⟩
  have q5 : Q 5 = 0 := hQ 5 (by omega)
  have q6 : Q 6 = 0 := hQ 6 (by omega)
  have q7 : Q 7 = 0 := hQ 7 (by omega)
  have z6 : (fun j => a * Q (j - 2) + b * Q (j - 1) + k * Q j) 6 = 0 := by
    have e := hdd 7
    rw [hS 7 (by omega)] at e
    have e7 : (fun j => a * Q (j - 2) + b * Q (j - 1) + k * Q j) 7 = 0 := by
      show a * Q (7 - 2) + b * Q (7 - 1) + k * Q 7 = 0
      rw [show (7 : Int) - 2 = 5 by omega, show (7 : Int) - 1 = 6 by omega, q5, q6, q7]; simp
    rw [e7, show (7 : Int) - 1 = 6 by omega] at e
    have e9 : b2 * (fun j => a * Q (j - 2) + b * Q (j - 1) + k * Q j) 6 = 0 := by omega
    exact (Int.mul_eq_zero.mp e9).resolve_left (by omega)
  have z5 : (fun j => a * Q (j - 2) + b * Q (j - 1) + k * Q j) 5 = 0 := by
    have e := hdd 6
    rw [hS 6 (by omega), z6, show (6 : Int) - 1 = 5 by omega] at e
    have e9 : b2 * (fun j => a * Q (j - 2) + b * Q (j - 1) + k * Q j) 5 = 0 := by omega
    exact (Int.mul_eq_zero.mp e9).resolve_left (by omega)
  intro j hj
  rcases Int.lt_or_le j 0 with q | q
  · show a * Q (j - 2) + b * Q (j - 1) + k * Q j = 0
    rw [hQ (j - 2) (by omega), hQ (j - 1) (by omega), hQ j (by omega)]; simp
  · by_cases c5 : j = 5
    · rw [c5]; exact z5
    · by_cases c6 : j = 6
      · rw [c6]; exact z6
      · show a * Q (j - 2) + b * Q (j - 1) + k * Q j = 0
        rw [hQ (j - 2) (by omega), hQ (j - 1) (by omega), hQ j (by omega)]; simp
/-- no linear factor within the limits -/
def nolin (R : Int → Int) : Prop := ∀ b k, 1 ≤ b → b ≤ 20 → -20 ≤ k → k ≤ 20 → ¬ ∃ Q, n5 Q ∧ dvs 0 b k R Q
theorem runC_no {b : Int} (hb : 1 ≤ b) : ∀ (n : Nat) (s s' : SS), n5 s.1 → runC b n s s' → n5 s'.1 ∧ ∀ k : Int, -20 ≤ k → k < -20 + n → ¬ ∃ Q, n5 Q ∧ dvs 0 b k s'.1 Q := by
  intro n
  induction n with
  | zero => intro s s' h h2; rw [show s' = s from h2]; exact ⟨h, fun k a b => by omega⟩
  | succ n ih =>
    intro s s' h h2
    obtain ⟨s1, h3, t, -, -, hk, -⟩ := h2
    obtain ⟨g1, g2⟩ := ih s s1 h h3
    have h5 : n5 s'.1 := dvN_inv (Pr := n5) (fun _ _ _ q _ => q) _ _ _ g1 hk.1
    refine ⟨h5, fun k k1 k2 hq => ?_⟩
    by_cases c : k = -20 + n
    · rw [c] at hq; exact hk.2 hq
    · refine g2 k k1 (by omega) ?_
      have up : ∀ (t : Nat) (S S' : Int → Int), n5 S → dvN 0 b (-20 + n) t S S' → (∃ Q, n5 Q ∧ dvs 0 b k S' Q) → ∃ Q, n5 Q ∧ dvs 0 b k S Q := by
        intro t
        induction t with
        | zero => intro S S' _ e q; rw [show S' = S from e] at q; exact q
        | succ t iht =>
          intro S S' hS e q
          obtain ⟨Q1, hQ1, hd1, hr1⟩ := e
          exact lin_up hb hS hd1 (iht Q1 S' hQ1 hr1 q)
      exact up _ _ _ g1 hk.1 hq
theorem runC_up {b : Int} {b2 k2 : Int} (hb : 1 ≤ b2) : ∀ (n : Nat) (s s' : SS), n5 s.1 → runC b n s s' → (∃ Q, n5 Q ∧ dvs 0 b2 k2 s'.1 Q) → n5 s'.1 ∧ ∃ Q, n5 Q ∧ dvs 0 b2 k2 s.1 Q := by
  intro n
  induction n with
  | zero => intro s s' h h2 q; rw [show s' = s from h2] at q ⊢; exact ⟨h, q⟩
  | succ n ih =>
    intro s s' h h2 q
    obtain ⟨s1, h3, t, -, -, hk, -⟩ := h2
    have h51 : n5 s1.1 := runC_inv (Pr := n5) (fun _ _ _ _ q _ => q) n s s1 h h3
    have up : ∀ (t : Nat) (S S' : Int → Int), n5 S → dvN 0 b (-20 + n) t S S' → (∃ Q, n5 Q ∧ dvs 0 b2 k2 S' Q) → ∃ Q, n5 Q ∧ dvs 0 b2 k2 S Q := by
      intro t
      induction t with
      | zero => intro S S' _ e q; rw [show S' = S from e] at q; exact q
      | succ t iht =>
        intro S S' hS e q
        obtain ⟨Q1, hQ1, hd1, hr1⟩ := e
        exact lin_up hb hS hd1 (iht Q1 S' hQ1 hr1 q)
    exact ⟨dvN_inv (Pr := n5) (fun _ _ _ q _ => q) _ _ _ h51 hk.1, (ih s s1 h h3 (up _ _ _ h51 hk.1 q)).2⟩
theorem runB_no : ∀ (n : Nat) (s s' : SS), n5 s.1 → runB n s s' → n5 s'.1 ∧ ∀ b k : Int, 1 ≤ b → b ≤ n → -20 ≤ k → k ≤ 20 → ¬ ∃ Q, n5 Q ∧ dvs 0 b k s'.1 Q := by
  intro n
  induction n with
  | zero => intro s s' h h2; rw [show s' = s from h2]; exact ⟨h, fun b k a1 a2 => by omega⟩
  | succ n ih =>
    intro s s' h h2
    obtain ⟨s1, h3, h4⟩ := h2
    obtain ⟨g1, g2⟩ := ih s s1 h h3
    obtain ⟨e1, e2⟩ := runC_no (b := (n : Int) + 1) (by omega) 41 s1 s' g1 h4
    refine ⟨e1, fun b k b1 b2 k1 k2 hq => ?_⟩
    by_cases c : b = n + 1
    · rw [c] at hq; exact e2 k k1 (by omega) hq
    · exact g2 b k b1 (by omega) k1 k2 (runC_up b1 41 s1 s' g1 h4 hq).2
theorem nolin_0 {R : Int → Int} (h5 : n5 R) (h : nolin R) : R 0 ≠ 0 := by
  intro q
  refine h 1 0 (by omega) (by omega) (by omega) (by omega) ⟨fun j => R (j + 1), fun j hj => ?_, fun j => ?_⟩
  · by_cases c : j = -1
    · show R (j + 1) = 0
      rw [c]; exact q
    · exact h5 (j + 1) (by omega)
  · show R j = 0 * R (j - 2 + 1) + 1 * R (j - 1 + 1) + 0 * R (j + 1)
    rw [show j - 1 + 1 = j by omega]; simp
theorem lin_lead {b k : Int} {S Q : Int → Int} (hb : 1 ≤ b) (h5 : n5 S) (h0 : 0 ≤ f_deg S) (hl : 1 ≤ S (f_deg S) ∧ S (f_deg S) ≤ 20) (hQ : n5 Q) (hd : dvs 0 b k S Q) : 1 ≤ Q (f_deg Q) ∧ Q (f_deg Q) ≤ 20 := by
  obtain ⟨d1, d2, d3⟩ := deg_dvs (a := 0) (b := b) (k := k) ⟨by omega, fun _ => hb⟩ h5 hQ hd h0
  rw [if_pos rfl] at d3
  rcases Int.lt_or_le (Q (f_deg Q)) 1 with q | q
  · have := mul_nn (show 0 ≤ b by omega) (show 0 ≤ -Q (f_deg Q) by omega)
    have e : b * -Q (f_deg Q) = -(b * Q (f_deg Q)) := by grind
    omega
  · refine ⟨q, ?_⟩
    have := Int.mul_le_mul_of_nonneg_right hb (show 0 ≤ Q (f_deg Q) by omega)
    omega
/-- the numbers without their content -/
theorem rest_mul {N : Int → Int} (hN : ∀ j, -20 ≤ N j ∧ N j ≤ 20) (h5 : n5 N) (h0 : 0 ≤ f_deg N) (j : Int) : f_cont N * f_rest N j = N j := by
  have hd : f_cont N ∣ N j := by
    have := G5_dj h5 j
    unfold f_cont
    split
    · exact Int.neg_dvd.mpr this
    · exact this
  unfold f_rest
  obtain ⟨q, hq⟩ := hd
  rw [hq, Int.mul_tdiv_cancel_left _ (cont_r hN h5 h0).1]
theorem rest_Bd {N : Int → Int} (hN : ∀ j, -20 ≤ N j ∧ N j ≤ 20) (h5 : n5 N) (h0 : 0 ≤ f_deg N) : Bd (f_rest N) ∧ f_deg (f_rest N) = f_deg N ∧ 1 ≤ f_rest N (f_deg N) ∧ f_rest N (f_deg N) ≤ 20 := by
  have hm := rest_mul hN h5 h0
  have hc := cont_r hN h5 h0
  have hz : ∀ j, N j = 0 → f_rest N j = 0 := fun j q => by unfold f_rest; rw [q]; simp
  have h5r : n5 (f_rest N) := fun j hj => hz j (h5 j hj)
  have hne : f_rest N (f_deg N) ≠ 0 := fun q => (deg_c N).2.2.2 h0 (by rw [← hm, q]; simp)
  have hdeg : f_deg (f_rest N) = f_deg N := deg_eq h0 (deg_c N).2.1 hne (fun j q1 q2 => hz j ((deg_c N).2.2.1 j q1 q2))
  refine ⟨⟨h5r, by omega, fun j => ?_⟩, hdeg, ?_, (tdiv_in (hN (f_deg N))).2⟩
  · have h1 : -20 ≤ f_rest N j ∧ f_rest N j ≤ 20 := tdiv_in (hN j)
    have h2 : 20 ≤ bnd (f_deg (f_rest N)) := by unfold bnd; grind
    omega
  · have hs : 0 < f_cont N * N (f_deg N) ∨ True := Or.inr trivial
    have hG := G5_pos hN h5 h0
    have e := hm (f_deg N)
    rcases Int.lt_or_le (f_rest N (f_deg N)) 1 with q | q
    · exfalso
      have q2 : f_rest N (f_deg N) ≤ -1 := by omega
      by_cases c : N (f_deg N) < 0
      · have ec : f_cont N = -(G5 N) := if_pos c
        have := mul_nn (show 0 ≤ G5 N by omega) (show 0 ≤ -f_rest N (f_deg N) by omega)
        have e2 : f_cont N * f_rest N (f_deg N) = G5 N * -f_rest N (f_deg N) := by rw [ec]; grind
        omega
      · have ec : f_cont N = G5 N := if_neg c
        have := Int.mul_le_mul (show (1 : Int) ≤ G5 N by omega) (show (1 : Int) ≤ -f_rest N (f_deg N) by omega) (by omega) (by omega)
        have e2 : f_cont N * f_rest N (f_deg N) = -(G5 N * -f_rest N (f_deg N)) := by rw [ec]; grind
        omega
    · exact q
/-- the splitting of N: its content, what is left, how many factors, their numbers -/
def Res (N : Int → Int) (cn : Int) (s : SS) : Prop := cn = f_cont N ∧ ∃ F0 s1, runB 20 (f_rest N, 0, F0) s1 ∧ QF s1 s
/-- the class's state is sound -/
def CI (N R D : Int → Int) (cn fc sp : Int) (Fs : Int → Int → Int) : Prop :=
  n5 N ∧ (∀ j, -20 ≤ N j ∧ N j ≤ 20) ∧ n5 R ∧ n5 D ∧ (∀ i, fbd (Fs i)) ∧ (sp = 0 ∨ (sp = 1 ∧ 0 ≤ f_deg N ∧ Res N cn (R, fc, Fs) ∧ Bd R ∧ 0 ≤ fc ∧ fc ≤ 4))
