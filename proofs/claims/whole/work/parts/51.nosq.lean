theorem gcd_split {P Q : Int} (hQ : Q ≠ 0) : ∃ g p q, 1 ≤ g ∧ P = g * p ∧ Q = g * q ∧ Int.gcd p q = 1 := by
  obtain ⟨p, hp⟩ := gcd_dl P Q
  obtain ⟨q, hq⟩ := gcd_dr P Q
  have h0 : 0 ≤ f_gcd P Q := by show (0 : Int) ≤ (Int.gcd P Q : Int); omega
  have hne : f_gcd P Q ≠ 0 := fun z => hQ (by rw [hq, z]; omega)
  refine ⟨f_gcd P Q, p, q, by omega, hp, hq, ?_⟩
  obtain ⟨u, hu⟩ := gcd_dl p q
  obtain ⟨v, hv⟩ := gcd_dr p q
  have d1 : f_gcd P Q * f_gcd p q ∣ P := ⟨u, by
    have e : f_gcd P Q * f_gcd p q * u = f_gcd P Q * (f_gcd p q * u) := Int.mul_assoc _ _ _
    rw [e, ← hu]; exact hp⟩
  have d2 : f_gcd P Q * f_gcd p q ∣ Q := ⟨v, by
    have e : f_gcd P Q * f_gcd p q * v = f_gcd P Q * (f_gcd p q * v) := Int.mul_assoc _ _ _
    rw [e, ← hv]; exact hq⟩
  obtain ⟨z, hz⟩ := dvd_gcd9 d1 d2
  have e : f_gcd P Q * (f_gcd p q * z) = f_gcd P Q * 1 := by rw [Int.mul_one, ← Int.mul_assoc]; exact hz.symm
  have e2 : f_gcd p q * z = 1 := Int.eq_of_mul_eq_mul_left hne e
  have h1 : 0 ≤ f_gcd p q := by show (0 : Int) ≤ (Int.gcd p q : Int); omega
  have h2 := Int.le_of_dvd (by decide) (show f_gcd p q ∣ 1 from ⟨z, e2.symm⟩)
  have h3 : f_gcd p q ≠ 0 := fun w => by rw [w] at e2; omega
  have h4 : ((Int.gcd p q : Nat) : Int) = 1 := by show f_gcd p q = 1; omega
  omega
/-- what stands under the root of a quadratic factor is no square -/
theorem nosq {a b c r : Int} {S : Int → Int} (hn : nol S) (hS : n5 S) (ha : 1 ≤ a) (hd : Dv a b c S) : b * b - 4 * a * c ≠ r * r := by
  intro h
  obtain ⟨Q, hQ, hd⟩ := hd
  obtain ⟨g, p, q, hg, hp, hq, hc⟩ := gcd_split (P := r - b) (Q := 2 * a) (by omega)
  have hq1 : 1 ≤ q := by
    rcases Int.lt_or_le q 1 with z | z
    · have := Int.mul_nonneg (show 0 ≤ g by omega) (show 0 ≤ -q by omega)
      have e : g * -q = -(g * q) := Int.mul_neg _ _
      omega
    · exact z
  have key : a * ((r - b) * (r - b)) + b * ((r - b) * (2 * a)) + c * ((2 * a) * (2 * a)) = 0 := by
    have e : a * ((r - b) * (r - b)) + b * ((r - b) * (2 * a)) + c * ((2 * a) * (2 * a)) = a * (r * r - (b * b - 4 * a * c)) := by grind
    rw [e, h]; grind
  rw [hp, hq] at key
  have key2 : (g * g) * (a * (p * p) + b * (p * q) + c * (q * q)) = (g * g) * 0 := by
    rw [Int.mul_zero, ← key]; grind
  have hgg : g * g ≠ 0 := by have := Int.mul_pos (show 0 < g by omega) (show 0 < g by omega); omega
  have key3 : a * (p * p) + b * (p * q) + c * (q * q) = 0 := Int.eq_of_mul_eq_mul_left hgg key2
  have hcq : Int.gcd q p = 1 := by rw [Int.gcd_comm]; exact hc
  have d1 : q ∣ a := by
    have e1 : q ∣ p * (p * a) := ⟨-(b * p + c * q), by grind⟩
    exact cop_dvd (cop_dvd e1 hcq) hcq
  obtain ⟨t1, ht1⟩ := d1
  have key4 : q * (t1 * (p * p) + b * p + c * q) = q * 0 := by rw [Int.mul_zero, ← key3, ht1]; grind
  have key5 : t1 * (p * p) + b * p + c * q = 0 := Int.eq_of_mul_eq_mul_left (by omega) key4
  have d2 : p ∣ c := by
    have e1 : p ∣ q * c := ⟨-(t1 * p + b), by grind⟩
    exact cop_dvd e1 hc
  obtain ⟨t0, ht0⟩ := d2
  by_cases hp0 : p = 0
  · have c0 : c = 0 := by rw [ht0, hp0]; omega
    rw [c0] at hd
    exact q_c0 hn (by omega) hS hQ hd
  · have key6 : p * (t1 * p + b + t0 * q) = p * 0 := by rw [Int.mul_zero, ← key5, ht0]; grind
    have key7 : t1 * p + b + t0 * q = 0 := Int.eq_of_mul_eq_mul_left hp0 key6
    exact hn q (-p) hq1 (lin_quad (q := q) (v := -p) (t1 := t1) (t0 := -t0) (by omega) hS hQ hd ht1 (by grind) (by grind))
/-- what holds of each factor -/
def fok (F : Int → Int) : Prop := ∃ t a b c, F = nf t a b c ∧ (1 ≤ t ∧ t ≤ 4) ∧ ((a = 0 ∧ 1 ≤ b) ∨ (1 ≤ a ∧ ∀ r, b * b - 4 * a * c ≠ r * r))
theorem ins_P {k pos : Int} {Y : Int → Int} {Fs Gs : Int → Int → Int} {Pr : (Int → Int) → Prop} (h : insP k Y Fs Gs pos) (hX : Pr Y) (hF : ∀ i, 0 ≤ i → i < k → Pr (Fs i)) : ∀ i, 0 ≤ i → i < k + 1 → Pr (Gs i) := by
  obtain ⟨h0, hk, h1, h2, h3, h4, h5⟩ := h
  intro i i0 i1
  rcases (show i < pos ∨ i = pos ∨ pos < i by omega) with z | z | z
  · rw [h2 i i0 z]; exact hF i i0 (by omega)
  · rw [z, h1]; exact hX
  · have e := h3 (i - 1) (by omega) (by omega)
    rw [show i - 1 + 1 = i by omega] at e
    rw [e]; exact hF (i - 1) (by omega) (by omega)
theorem stp_P {a b k : Int} {s s' : SS} {Pr : (Int → Int) → Prop} (h : stp a b k s s') (hX : ∀ t, 1 ≤ t → t ≤ 4 → Dv a b k s.1 → Pr (nf t a b k)) (hF : ∀ i, 0 ≤ i → i < s.2.1 → Pr (s.2.2 i)) : ∀ i, 0 ≤ i → i < s'.2.1 → Pr (s'.2.2 i) := by
  obtain ⟨t, t0, t4, hk, ho⟩ := h
  rcases ho with ⟨q1, q2, q3⟩ | ⟨q1, q2, pos, q3⟩
  · rw [q2, q3]; exact hF
  · rw [q2]
    refine ins_P q3 (hX t q1 t4 ?_) hF
    have hN := hk.1
    obtain ⟨m, hm⟩ : ∃ m, t.toNat = m + 1 := ⟨t.toNat - 1, by omega⟩
    rw [hm] at hN
    obtain ⟨T, hT, hd, -⟩ := hN
    exact ⟨T, hT, hd⟩
theorem stpP_stp {a b k : Int} {s s' : SS} (h : stpP a b k s s') : stp a b k s s' := by
  obtain ⟨t, t1, t4, h1, h2, h3⟩ := h
  exact ⟨t, by omega, t4, h1, Or.inr ⟨t1, h2, h3⟩⟩
theorem runC_P {b : Int} {Pr : (Int → Int) → Prop} (hX : ∀ t k, 1 ≤ t → t ≤ 4 → Pr (nf t 0 b k)) : ∀ (n : Nat) (s s' : SS), runC b n s s' → (∀ i, 0 ≤ i → i < s.2.1 → Pr (s.2.2 i)) → ∀ i, 0 ≤ i → i < s'.2.1 → Pr (s'.2.2 i) := by
  intro n
  induction n with
  | zero => intro s s' h hF; rw [show s' = s from h]; exact hF
  | succ n ih =>
    intro s s' h hF
    obtain ⟨s1, h1, h2⟩ := h
    exact stp_P h2 (fun t q1 q2 _ => hX t _ q1 q2) (ih s s1 h1 hF)
theorem runB_P {Pr : (Int → Int) → Prop} (hX : ∀ t b k, 1 ≤ b → 1 ≤ t → t ≤ 4 → Pr (nf t 0 b k)) : ∀ (n : Nat) (s s' : SS), runB n s s' → (∀ i, 0 ≤ i → i < s.2.1 → Pr (s.2.2 i)) → ∀ i, 0 ≤ i → i < s'.2.1 → Pr (s'.2.2 i) := by
  intro n
  induction n with
  | zero => intro s s' h hF; rw [show s' = s from h]; exact hF
  | succ n ih =>
    intro s s' h hF
    obtain ⟨s1, h1, h2⟩ := h
    exact runC_P (fun t k => hX t _ k (by omega)) _ _ _ h2 (ih s s1 h1 hF)
/-- what the linear part comes to, of sound numbers -/
theorem runB_PR {N : Int → Int} (hN : ∀ j, -20 ≤ N j ∧ N j ≤ 20) (h5 : n5 N) (h0 : 0 ≤ f_deg N) {G : Int → Int → Int} {s1 : SS} (h : runB 20 (f_rest N, 0, G) s1) : PR s1.1 ∧ (∀ i, 0 ≤ i → i < s1.2.1 → ∃ t b k, s1.2.2 i = nf t 0 b k ∧ (1 ≤ t ∧ t ≤ 4) ∧ 1 ≤ b) := by
  have hp := rest_PL hN h5 h0
  have h1 := runB_inv (Pr := PL) (fun b k S Q q1 q2 q3 q4 => PL_lin q1 q2 q3 q4) 20 _ _ hp h
  have h2 := runB_no 20 _ _ hp.1.1 h
  refine ⟨PR_of h1 (fun b k q1 q2 q3 q4 => h2.2 b k q1 (by omega) q3 q4), ?_⟩
  exact runB_P (Pr := fun F => ∃ t b k, F = nf t 0 b k ∧ (1 ≤ t ∧ t ≤ 4) ∧ 1 ≤ b) (fun t b k q1 q2 q3 => ⟨t, b, k, rfl, ⟨q2, q3⟩, q1⟩) 20 _ _ h (fun i i0 i1 => absurd i1 (show ¬ i < 0 by omega))
theorem Res_fok {N : Int → Int} {cn : Int} {s : SS} (hN : ∀ j, -20 ≤ N j ∧ N j ≤ 20) (h5 : n5 N) (h0 : 0 ≤ f_deg N) (h : Res N cn s) : ∀ i, 0 ≤ i → i < s.2.1 → fok (s.2.2 i) := by
  obtain ⟨-, G, s1, hr, hq⟩ := h
  obtain ⟨hP, hl⟩ := runB_PR hN h5 h0 hr
  have hF : ∀ i, 0 ≤ i → i < s1.2.1 → fok (s1.2.2 i) := fun i i0 i1 => by
    obtain ⟨t, b, k, e, e2, e3⟩ := hl i i0 i1
    exact ⟨t, 0, b, k, e, e2, Or.inl ⟨rfl, e3⟩⟩
  have one : ∀ (a b k : Int) (u u' : SS), 1 ≤ a → PR u.1 → stpP a b k u u' → (∀ i, 0 ≤ i → i < u.2.1 → fok (u.2.2 i)) → ∀ i, 0 ≤ i → i < u'.2.1 → fok (u'.2.2 i) := fun a b k u u' ha hu hs hf =>
    stp_P (stpP_stp hs) (fun t q1 q2 q3 => ⟨t, a, b, k, rfl, ⟨q1, q2⟩, Or.inr ⟨ha, fun r => nosq hu.2.2.2.1 hu.1.1 ha q3⟩⟩) hf
  rcases hq with ⟨e, hs⟩ | ⟨-, -, rfl⟩ | ⟨-, rfl, -⟩ | ⟨e, a, b, k, s2, ha, hs, hr2⟩
  · have hl2 := hP.2.1
    rw [e] at hl2
    exact one _ _ _ _ _ hl2.1 hP hs hF
  · exact hF
  · exact hF
  · have hF2 := one _ _ _ _ _ ha hP hs hF
    have hP2 := PR_stpP ha hP hs
    rcases hr2 with ⟨-, rfl⟩ | ⟨-, a2, b2, k2, ha2, hs2⟩
    · exact hF2
    · exact one _ _ _ _ _ ha2 hP2 hs2 hF2
theorem nf_inj {t a b c t2 a2 b2 c2 : Int} (h : nf t a b c = nf t2 a2 b2 c2) : t = t2 ∧ a = a2 ∧ b = b2 ∧ c = c2 :=
  ⟨congrFun h 0, congrFun h 1, congrFun h 2, congrFun h 3⟩
/-- .. of the reference's factors -/
theorem RF_fok {N : Int → Int} {u : FS} (hN : ∀ j, -20 ≤ N j ∧ N j ≤ 20) (h5 : n5 N) (h0 : 0 ≤ f_deg N) (h : RF N u) {i : Int} (i0 : 0 ≤ i) (i1 : i < u.2.2.1) : (u.2.2.2.1 i = 0 ∧ 1 ≤ u.2.2.2.2.1 i) ∨ (1 ≤ u.2.2.2.1 i ∧ ∀ r, u.2.2.2.2.1 i * u.2.2.2.2.1 i - 4 * u.2.2.2.1 i * u.2.2.2.2.2.1 i ≠ r * r) := by
  obtain ⟨⟨Gs, hag, hR⟩, -⟩ := h
  obtain ⟨t, a, b, c, e, e2, e3⟩ := Res_fok hN h5 h0 hR i i0 i1
  have e4 : FF u.2.2.2.1 u.2.2.2.2.1 u.2.2.2.2.2.1 u.2.2.2.2.2.2 i = nf t a b c := (hag i i0 i1).trans e
  obtain ⟨-, g1, g2, g3⟩ := nf_inj e4
  rw [g1, g2, g3]
  exact e3
