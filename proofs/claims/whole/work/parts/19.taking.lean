/-! taking a factor out as often as it goes -/
def dvN (a b k : Int) : Nat → (Int → Int) → (Int → Int) → Prop
  | 0, R, S => S = R
  | t + 1, R, S => ∃ Q, n5 Q ∧ dvs a b k R Q ∧ dvN a b k t Q S
/-- t times, and no more: S is left -/
def tkR (a b k t : Int) (R S : Int → Int) : Prop := dvN a b k t.toNat R S ∧ ¬ ∃ Q, n5 Q ∧ dvs a b k S Q
theorem deg_eq {Q : Int → Int} {d : Int} (h0 : 0 ≤ d) (h4 : d ≤ 4) (h1 : Q d ≠ 0) (h2 : ∀ j, d < j → j ≤ 4 → Q j = 0) : f_deg Q = d := by
  obtain ⟨c1, c2, c3, c4⟩ := deg_c Q
  by_cases q : f_deg Q < d
  · exact absurd (c3 d q h4) h1
  · by_cases q2 : d < f_deg Q
    · exact absurd (h2 _ q2 c2) (c4 (by omega))
    · omega
theorem deg_dvs {a b k : Int} {R Q : Int → Int} (hab : 0 ≤ a ∧ (a = 0 → 1 ≤ b)) (hR : n5 R) (hQ : n5 Q) (hd : dvs a b k R Q) (h0 : 0 ≤ f_deg R) : 0 ≤ f_deg Q ∧ f_deg R = f_deg Q + (if a = 0 then 1 else 2) ∧ (if a = 0 then b else a) * Q (f_deg Q) = R (f_deg R) := by
  obtain ⟨c1, c2, c3, c4⟩ := deg_c R
  have hz : ∀ j, f_deg R < j → R j = 0 := fun j hj => by
    by_cases q : j ≤ 4
    · exact c3 j hj q
    · exact hR j (by omega)
  have key : ∀ (sz hi : Int), ((sz = 1 ∧ a = 0 ∧ hi = b) ∨ (sz = 2 ∧ hi = a)) → hi ≠ 0 → 0 ≤ f_deg Q ∧ f_deg R = f_deg Q + sz ∧ hi * Q (f_deg Q) = R (f_deg R) := by
    intro sz hi hs hne
    have ht := top0 (a := a) (b := b) (c := k) (i := f_deg R) (T := Q) (E := R) hs hne (fun j => (hd j).symm) hz (fun k hk => hQ k (by omega))
    have hm := dv_must (a := a) (b := b) (c := k) (i := f_deg R) (R := R) (G := fun _ => 0) (D := R) (Q := Q) hs hne (fun j => by
      by_cases q : j ≤ f_deg R
      · rw [if_pos q]; simp
      · rw [if_neg q, hz j (by omega)]; simp) (fun _ _ => rfl) hQ hd
    have hm2 : hi * Q (f_deg R - sz) = R (f_deg R) := by rw [← hm]; simp
    have hq0 : Q (f_deg R - sz) ≠ 0 := fun q => c4 h0 (by rw [← hm2, q]; simp)
    have hge : 0 ≤ f_deg R - sz := by
      rcases Int.lt_or_le (f_deg R - sz) 0 with q | q
      · exact absurd (hQ _ (Or.inl q)) hq0
      · exact q
    have hsz : 1 ≤ sz := by rcases hs with ⟨q, -⟩ | ⟨q, -⟩ <;> omega
    have e := deg_eq hge (by omega) hq0 (fun j hj _ => ht (5 - j).toNat j hj (by omega))
    rw [e]
    exact ⟨hge, by omega, hm2⟩
  by_cases ha : a = 0
  · rw [if_pos ha, if_pos ha]
    exact key 1 b (Or.inl ⟨rfl, ha, rfl⟩) (by have := hab.2 ha; omega)
  · rw [if_neg ha, if_neg ha]
    exact key 2 a (Or.inr ⟨rfl, rfl⟩) ha
theorem dvN_deg {a b k : Int} (hab : 0 ≤ a ∧ (a = 0 → 1 ≤ b)) : ∀ (t : Nat) (R S : Int → Int), n5 R → 0 ≤ f_deg R → dvN a b k t R S → n5 S ∧ 0 ≤ f_deg S ∧ f_deg R = f_deg S + t * (if a = 0 then 1 else 2) := by
  intro t
  induction t with
  | zero => intro R S h1 h2 h; rw [show S = R from h]; exact ⟨h1, h2, by simp⟩
  | succ t ih =>
    intro R S h1 h2 h
    obtain ⟨Q, hQ, hd, hr⟩ := h
    obtain ⟨d1, d2, -⟩ := deg_dvs hab h1 hQ hd h2
    obtain ⟨e1, e2, e3⟩ := ih Q S hQ d1 hr
    refine ⟨e1, e2, ?_⟩
    have : ((t + 1 : Nat) : Int) = (t : Int) + 1 := by omega
    rw [d2, e3, this]
    by_cases ha : a = 0
    · rw [if_pos ha]; omega
    · rw [if_neg ha]; omega
theorem dvN_four {a b k : Int} (hab : 0 ≤ a ∧ (a = 0 → 1 ≤ b)) {R S : Int → Int} (h1 : n5 R) (h2 : 0 ≤ f_deg R) (h : dvN a b k 4 R S) : ¬ ∃ Q, n5 Q ∧ dvs a b k S Q := by
  rintro ⟨Q, hQ, hd⟩
  obtain ⟨e1, e2, e3⟩ := dvN_deg hab 4 R S h1 h2 h
  obtain ⟨d1, d2, -⟩ := deg_dvs hab e1 hQ hd e2
  have := (deg_c R).2.1
  by_cases ha : a = 0
  · rw [if_pos ha] at e3 d2; omega
  · rw [if_neg ha] at e3 d2; omega
theorem dv_pos {a b k : Int} (hab : 0 ≤ a ∧ (a = 0 → 1 ≤ b)) {R Q : Int → Int} (h1 : n5 R) (h2 : 0 ≤ f_deg R) (hQ : n5 Q) (hd : dvs a b k R Q) : 1 ≤ f_deg R := by
  obtain ⟨d1, d2, -⟩ := deg_dvs hab h1 hQ hd h2
  by_cases ha : a = 0
  · rw [if_pos ha] at d2; omega
  · rw [if_neg ha] at d2; omega
