theorem mul_in {x y A B : Int} (hx : -A ≤ x ∧ x ≤ A) (hy : -B ≤ y ∧ y ≤ B) (hA : 0 ≤ A) (hB : 0 ≤ B) : -(A * B) ≤ x * y ∧ x * y ≤ A * B := by
  have h1 : (x * y).natAbs ≤ (A * B).natAbs := by
    rw [Int.natAbs_mul, Int.natAbs_mul]
    exact Nat.mul_le_mul (by omega) (by omega)
  have h2 : 0 ≤ A * B := Int.mul_nonneg hA hB
  omega
theorem tdiv_in {x y A : Int} (hx : -A ≤ x ∧ x ≤ A) : -A ≤ x.tdiv y ∧ x.tdiv y ≤ A := by
  have := Int.natAbs_tdiv_le_natAbs x y
  omega
/-- how far the division of R by a x x + b x + k has come: the quotient so far is G; at i and below stands what is left; L bounds the numbers -/
def DI (a b k sz hi dg K : Int) (L R : Int → Int) (i : Int) (D G : Int → Int) : Prop :=
  (((sz = 1 ∧ a = 0 ∧ hi = b) ∨ (sz = 2 ∧ hi = a)) ∧ hi ≠ 0 ∧ r32 hi ∧ sz ≤ dg ∧ dg ≤ 4 ∧ 0 ≤ K ∧ (-K ≤ b ∧ b ≤ K) ∧ (-K ≤ k ∧ k ≤ K) ∧ (∀ i, 1 ≤ i → i ≤ 4 → 0 ≤ L i ∧ L i * (1 + K) ≤ L (i - 1)) ∧ (∀ i, 0 ≤ i → i ≤ 4 → L i ≤ 2147483647) ∧ n5 R) ∧
  (sz - 1 ≤ i ∧ i ≤ dg) ∧ (∀ j, R j = a * G (j - 2) + b * G (j - 1) + k * G j + (if j ≤ i then D j else 0)) ∧ n5 G ∧ n5 D ∧
  (∀ x, i < x + sz → x + sz ≤ dg → 0 ≤ x → G x = D (x + sz)) ∧ (∀ x, x + sz ≤ i ∨ dg < x + sz → G x = 0) ∧ (∀ j, -(L i) ≤ D j ∧ D j ≤ L i)
section DI
variable {a b k sz hi dg K : Int} {L R : Int → Int} {i : Int} {D G : Int → Int}
theorem DI.szr (h : DI a b k sz hi dg K L R i D G) : 1 ≤ sz ∧ sz ≤ 2 := by
  rcases h.1.1 with ⟨q, -⟩ | ⟨q, -⟩ <;> omega
theorem DI.r (h : DI a b k sz hi dg K L R i D G) (j : Int) : r32 (D j) ∧ D j ≠ -2147483648 := by
  have h1 := h.2.2.2.2.2.2.2 j
  have h2 := h.szr
  have h3 := h.1.2.2.2.2.2.2.2.2.2.1 i (by have := h.2.1.1; omega) (by have := h.2.1.2; have := h.1.2.2.2.2.1; omega)
  exact ⟨⟨by omega, by omega⟩, by omega⟩
theorem DI.next (h : DI a b k sz hi dg K L R i D G) (hi1 : sz ≤ i) (hm : (D i).tmod hi = 0) (D' : Int → Int)
    (h0 : D' i = (D i).tdiv hi) (hk : D' (i - sz) = D (i - sz) - (D i).tdiv hi * k) (hb : sz = 2 → D' (i - 1) = D (i - 1) - (D i).tdiv hi * b) (ho : ∀ j, j ≠ i → j ≠ i - sz → (sz = 2 → j ≠ i - 1) → D' j = D j) :
    DI a b k sz hi dg K L R (i - 1) D' (iu G (i - sz) ((D i).tdiv hi)) := by
  have hsz := h.szr
  obtain ⟨⟨hs, hne, hrr, h3, h4, h5, h6, h7, h8, h9, hR⟩, ⟨g1, g2⟩, g3, g4, g5, g6, g7, g8⟩ := h
  have hq := tdiv_mul hm
  have hqb := tdiv_in (y := hi) (g8 i)
  obtain ⟨l1, l2⟩ := h8 i (by omega) (by omega)
  have l3 : L i * (1 + K) = L i + L i * K := by grind
  have b1 := mul_in hqb h7 l1 h5
  have b2 := mul_in hqb h6 l1 h5
  have l4 : 0 ≤ L i * K := Int.mul_nonneg l1 h5
  refine ⟨⟨hs, hne, hrr, h3, h4, h5, h6, h7, h8, h9, hR⟩, ⟨by omega, by omega⟩, ?_, ?_, ?_, ?_, ?_, ?_⟩
  · refine dv_step hs g3 (g7 _ (by omega)) _ hq D' ?_
    intro j hj
    by_cases c1 : j = i - sz
    · subst c1
      rw [hk, if_pos rfl, if_neg (by omega)]
      omega
    · rw [if_neg c1]
      by_cases c2 : sz = 2 ∧ j = i - 1
      · rw [if_pos c2, c2.2, hb c2.1]
        omega
      · rw [if_neg c2, ho j (by omega) c1 (fun q z => c2 ⟨q, z⟩)]
        omega
  · exact n5_iu g4 (by omega) (by omega)
  · intro j hj
    rw [ho j (by omega) (by omega) (by omega)]
    exact g5 j hj
  · intro x x1 x2 x3
    by_cases c1 : x = i - sz
    · subst c1
      rw [iu_s, show i - sz + sz = i by omega, h0]
    · rw [iu_n c1, ho (x + sz) (by omega) (by omega) (by omega)]
      exact g6 x (by omega) x2 x3
  · intro x hx
    rw [iu_n (by omega)]
    exact g7 x (by omega)
  · intro j
    have g9 := g8 j
    by_cases c1 : j = i
    · rw [c1, h0]; omega
    · by_cases c2 : j = i - sz
      · rw [c2, hk]
        have := g8 (i - sz)
        omega
      · by_cases c3 : sz = 2 ∧ j = i - 1
        · rw [c3.2, hb c3.1]
          have := g8 (i - 1)
          omega
        · rw [ho j c1 c2 (fun q z => c3 ⟨q, z⟩)]
          omega
theorem DI.no (h : DI a b k sz hi dg K L R i D G) (hm : ¬ (D i).tmod hi = 0) : ¬ ∃ Q, n5 Q ∧ dvs a b k R Q := by
  rintro ⟨Q, hQ, hd⟩
  exact hm (tdiv_of h.1.2.1 (dv_must h.1.1 h.1.2.1 h.2.2.1 h.2.2.2.1 hQ hd)).1
theorem DI.noend (h : DI a b k sz hi dg K L R i D G) (hi1 : ¬ sz ≤ i) (hm : ¬ D 0 = 0 ∨ ¬ D (sz - 1) = 0) : ¬ ∃ Q, n5 Q ∧ dvs a b k R Q := by
  rintro ⟨Q, hQ, hd⟩
  have hsz := h.szr
  have hI : i = sz - 1 := by have := h.2.1.1; omega
  have e1 := dv_must h.1.1 h.1.2.1 h.2.2.1 h.2.2.2.1 hQ hd
  have hG1 := h.2.2.2.1 (i - sz) (by omega)
  have hQ1 := hQ (i - sz) (by omega)
  rw [hG1, hQ1] at e1
  have z1 : D i = 0 := by rw [← e1]; simp
  rw [hI] at z1
  rcases hm with hm | hm
  · have h0 : ¬ sz = 1 := fun q => hm (by rw [q] at z1; exact z1)
    have hs2 : sz = 2 := by omega
    have e2 : ∀ x, Q x = G x := by
      intro x
      by_cases c1 : -1 < x
      · have hT : ∀ j, a * (fun k => Q k - G k) (j - 2) + b * (fun k => Q k - G k) (j - 1) + k * (fun k => Q k - G k) j = (fun j => if j ≤ i then D j else 0) j := by
          intro j
          have e := h.2.2.1 j
          have e2 := hd j
          show a * (Q (j - 2) - G (j - 2)) + b * (Q (j - 1) - G (j - 1)) + k * (Q j - G j) = (if j ≤ i then D j else 0)
          grind
        have := top0 (T := fun k => Q k - G k) (i := i) h.1.1 h.1.2.1 hT (fun j hj => if_neg (by omega)) (fun k hk => by show Q k - G k = 0; rw [hQ k (by omega), h.2.2.2.1 k (by omega)]; rfl) ((5 - x).toNat) x (by omega) (by omega)
        have t : Q x - G x = 0 := this
        omega
      · rw [hQ x (by omega), h.2.2.2.1 x (by omega)]
    have e3 := h.2.2.1 0
    have e4 := hd 0
    rw [e2, e2, e2] at e4
    rw [if_pos (by omega)] at e3
    omega
  · exact hm z1
theorem DI.yes (h : DI a b k sz hi dg K L R i D G) (hi1 : ¬ sz ≤ i) (h0 : D 0 = 0) (h1 : D (sz - 1) = 0) : dvs a b k R G ∧ n5 G ∧ ∀ x, 0 ≤ x → G x = if x + sz ≤ dg then D (x + sz) else 0 := by
  have hsz := h.szr
  have hI : i = sz - 1 := by have := h.2.1.1; omega
  refine ⟨fun j => ?_, h.2.2.2.1, fun x hx => ?_⟩
  · have e := h.2.2.1 j
    rw [e]
    by_cases c1 : j ≤ i
    · rw [if_pos c1]
      have : D j = 0 := by
        by_cases c2 : j < 0
        · exact h.2.2.2.2.1 j (Or.inl c2)
        · by_cases c3 : j = 0
          · rw [c3]; exact h0
          · rw [show j = sz - 1 by omega]; exact h1
      omega
    · rw [if_neg c1]; omega
  · by_cases c1 : x + sz ≤ dg
    · rw [if_pos c1]; exact h.2.2.2.2.2.1 x (by omega) c1 hx
    · rw [if_neg c1]; exact h.2.2.2.2.2.2.1 x (by omega)
end DI
theorem deg_c (R : Int → Int) : -1 ≤ f_deg R ∧ f_deg R ≤ 4 ∧ (∀ j, f_deg R < j → j ≤ 4 → R j = 0) ∧ (0 ≤ f_deg R → R (f_deg R) ≠ 0) := by
  unfold f_deg
  by_cases h4 : R 4 = 0
  · by_cases h3 : R 3 = 0
    · by_cases h2 : R 2 = 0
      · by_cases h1 : R 1 = 0
        · by_cases h0 : R 0 = 0
          · simp only [h4, h3, h2, h1, h0, if_true]
            refine ⟨by omega, by omega, fun j a b => ?_, fun h => absurd h (by omega)⟩
            rcases (show j = 0 ∨ j = 1 ∨ j = 2 ∨ j = 3 ∨ j = 4 by omega) with rfl | rfl | rfl | rfl | rfl <;> assumption
          · simp only [h4, h3, h2, h1, h0, if_true, if_false]
            refine ⟨by omega, by omega, fun j a b => ?_, fun _ => h0⟩
            rcases (show j = 1 ∨ j = 2 ∨ j = 3 ∨ j = 4 by omega) with rfl | rfl | rfl | rfl <;> assumption
        · simp only [h4, h3, h2, h1, if_true, if_false]
          refine ⟨by omega, by omega, fun j a b => ?_, fun _ => h1⟩
          rcases (show j = 2 ∨ j = 3 ∨ j = 4 by omega) with rfl | rfl | rfl <;> assumption
      · simp only [h4, h3, h2, if_true, if_false]
        refine ⟨by omega, by omega, fun j a b => ?_, fun _ => h2⟩
        rcases (show j = 3 ∨ j = 4 by omega) with rfl | rfl <;> assumption
    · simp only [h4, h3, if_true, if_false]
      refine ⟨by omega, by omega, fun j a b => ?_, fun _ => h3⟩
      rcases (show j = 4 by omega) with rfl
      assumption
  · simp only [h4, if_false]
    exact ⟨by omega, by omega, fun j a b => by omega, fun _ => h4⟩
