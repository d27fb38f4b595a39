/-! what a splitting comes to is one thing only -/
theorem dvs_uniq {a b k : Int} {R Q Q2 : Int → Int} (hab : 0 ≤ a ∧ (a = 0 → 1 ≤ b)) (hQ : n5 Q) (hQ2 : n5 Q2) (hd : dvs a b k R Q) (hd2 : dvs a b k R Q2) : Q = Q2 := by
  have key : ∀ sz hi : Int, ((sz = 1 ∧ a = 0 ∧ hi = b) ∨ (sz = 2 ∧ hi = a)) → hi ≠ 0 → Q = Q2 := by
    intro sz hi hs hne
    funext j
    have ht := top0 (a := a) (b := b) (c := k) (i := j + sz - 1) (T := fun x => Q x - Q2 x) (E := fun _ => 0) hs hne (fun j => by
      have e1 := hd j
      have e2 := hd2 j
      show a * (Q (j - 2) - Q2 (j - 2)) + b * (Q (j - 1) - Q2 (j - 1)) + k * (Q j - Q2 j) = 0
      grind) (fun _ _ => rfl) (fun x hx => by
        show Q x - Q2 x = 0
        rw [hQ x (Or.inr hx), hQ2 x (Or.inr hx)]; rfl)
    have := ht (5 - j).toNat j (by omega) (by omega)
    have e : Q j - Q2 j = 0 := this
    omega
  by_cases ha : a = 0
  · exact key 1 b (Or.inl ⟨rfl, ha, rfl⟩) (by have := hab.2 ha; omega)
  · exact key 2 a (Or.inr ⟨rfl, rfl⟩) ha
theorem tk_uniq {a b k : Int} (hab : 0 ≤ a ∧ (a = 0 → 1 ≤ b)) : ∀ (t t2 : Nat) (R S S2 : Int → Int), dvN a b k t R S → (¬ ∃ Q, n5 Q ∧ dvs a b k S Q) → dvN a b k t2 R S2 → (¬ ∃ Q, n5 Q ∧ dvs a b k S2 Q) → t = t2 ∧ S = S2 := by
  intro t
  induction t with
  | zero =>
    intro t2 R S S2 h1 h2 h3 h4
    have e : S = R := h1
    cases t2 with
    | zero => exact ⟨rfl, e.trans (show S2 = R from h3).symm⟩
    | succ m =>
      obtain ⟨Q, hQ, hd, -⟩ := h3
      rw [e] at h2
      exact (h2 ⟨Q, hQ, hd⟩).elim
  | succ t ih =>
    intro t2 R S S2 h1 h2 h3 h4
    obtain ⟨Q, hQ, hd, hr⟩ := h1
    cases t2 with
    | zero =>
      rw [show S2 = R from h3] at h4
      exact (h4 ⟨Q, hQ, hd⟩).elim
    | succ m =>
      obtain ⟨Q2, hQ2, hd2, hr2⟩ := h3
      have e := dvs_uniq hab hQ hQ2 hd hd2
      subst e
      obtain ⟨g1, g2⟩ := ih m Q S S2 hr h2 hr2 h4
      exact ⟨by omega, g2⟩
theorem ins_uniq {k p p2 : Int} {Y : Int → Int} {Fs Fs2 Gs Gs2 : Int → Int → Int} (hag : agr k Fs Fs2) (h : insP k Y Fs Gs p) (h2 : insP k Y Fs2 Gs2 p2) : agr (k + 1) Gs Gs2 := by
  obtain ⟨a0, a1, a2, a3, a4, a5, a6⟩ := h
  obtain ⟨b0, b1, b2, b3, b4, b5, b6⟩ := h2
  have e : p = p2 := by
    rcases (show p < p2 ∨ p = p2 ∨ p2 < p by omega) with q | q | q
    · have g1 := b6 (by omega)
      have g2 := a5 (p2 - 1) (by omega) (by omega)
      rw [hag _ (by omega) (by omega)] at g2
      omega
    · exact q
    · have g1 := a6 (by omega)
      have g2 := b5 (p - 1) (by omega) (by omega)
      rw [← hag _ (by omega) (by omega)] at g2
      omega
  subst e
  intro i i0 i1
  rcases (show i < p ∨ i = p ∨ p < i by omega) with z | z | z
  · rw [a3 i i0 z, b3 i i0 z]; exact hag i i0 (by omega)
  · rw [z, a2, b2]
  · have e1 := a4 (i - 1) (by omega) (by omega)
    have e2 := b4 (i - 1) (by omega) (by omega)
    rw [show i - 1 + 1 = i by omega] at e1 e2
    rw [e1, e2]; exact hag (i - 1) (by omega) (by omega)
/-- two states that agree -/
def sag (s s2 : SS) : Prop := s.1 = s2.1 ∧ s.2.1 = s2.2.1 ∧ agr s.2.1 s.2.2 s2.2.2
theorem stp_uniq {a b k : Int} (hab : 0 ≤ a ∧ (a = 0 → 1 ≤ b)) {s s' s2 s2' : SS} (h : stp a b k s s') (h2 : stp a b k s2 s2') (hs : sag s s2) : sag s' s2' := by
  obtain ⟨t, t0, t4, ⟨hN, hno⟩, ho⟩ := h
  obtain ⟨u, u0, u4, ⟨hM, hmo⟩, hp⟩ := h2
  obtain ⟨e1, e2, e3⟩ := hs
  rw [← e1] at hM
  obtain ⟨g1, g2⟩ := tk_uniq hab t.toNat u.toNat _ _ _ hN hno hM hmo
  have e : t = u := by omega
  subst e
  refine ⟨g2, ?_⟩
  rcases ho with ⟨q1, q2, q3⟩ | ⟨q1, q2, pos, q3⟩
  · rcases hp with ⟨r1, r2, r3⟩ | ⟨r1, -⟩
    · rw [q2, r2, q3, r3]; exact ⟨e2, e3⟩
    · omega
  · rcases hp with ⟨r1, -⟩ | ⟨r1, r2, pos2, r3⟩
    · omega
    · rw [q2, r2, e2]
      rw [← e2] at r3
      refine ⟨rfl, ?_⟩
      rw [← e2]
      exact ins_uniq e3 q3 r3
theorem runC_uniq {b : Int} (hb : 1 ≤ b) : ∀ (n : Nat) (s s' s2 s2' : SS), runC b n s s' → runC b n s2 s2' → sag s s2 → sag s' s2' := by
  intro n
  induction n with
  | zero => intro s s' s2 s2' h h2 hs; rw [show s' = s from h, show s2' = s2 from h2]; exact hs
  | succ n ih =>
    intro s s' s2 s2' h h2 hs
    obtain ⟨s1, h1, h3⟩ := h
    obtain ⟨r1, g1, g3⟩ := h2
    exact stp_uniq ⟨by decide, fun _ => hb⟩ h3 g3 (ih _ _ _ _ h1 g1 hs)
theorem runB_uniq : ∀ (n : Nat) (s s' s2 s2' : SS), runB n s s' → runB n s2 s2' → sag s s2 → sag s' s2' := by
  intro n
  induction n with
  | zero => intro s s' s2 s2' h h2 hs; rw [show s' = s from h, show s2' = s2 from h2]; exact hs
  | succ n ih =>
    intro s s' s2 s2' h h2 hs
    obtain ⟨s1, h1, h3⟩ := h
    obtain ⟨r1, g1, g3⟩ := h2
    exact runC_uniq (by omega) _ _ _ _ _ h3 g3 (ih _ _ _ _ h1 g1 hs)
/-- two triples in lowest terms that are as one another -/
theorem tri_eq {a b c d e f : Int} (ha : 1 ≤ a) (hd : 1 ≤ d) (p1 : ∀ g : Int, g ∣ a → g ∣ b → g ∣ c → g ∣ 1) (p2 : ∀ g : Int, g ∣ d → g ∣ e → g ∣ f → g ∣ 1) (h1 : d * b = a * e) (h2 : d * c = a * f) : a = d ∧ b = e ∧ c = f := by
  obtain ⟨g, p, q, hg, hp, hq, hc⟩ := gcd_split (P := a) (Q := d) (by omega)
  have pos : ∀ x y : Int, 1 ≤ x → x = g * y → 1 ≤ y := fun x y hx hy => by
    rcases Int.lt_or_le y 1 with z | z
    · have := Int.mul_nonneg (show 0 ≤ g by omega) (show 0 ≤ -y by omega)
      have e : g * -y = -(g * y) := Int.mul_neg _ _
      omega
    · exact z
  have hp1 := pos a p ha hp
  have hq1 := pos d q hd hq
  have k1 : q * b = p * e := by
    have : g * (q * b) = g * (p * e) := by rw [← Int.mul_assoc, ← Int.mul_assoc, ← hp, ← hq]; exact h1
    exact Int.eq_of_mul_eq_mul_left (by omega) this
  have k2 : q * c = p * f := by
    have : g * (q * c) = g * (p * f) := by rw [← Int.mul_assoc, ← Int.mul_assoc, ← hp, ← hq]; exact h2
    exact Int.eq_of_mul_eq_mul_left (by omega) this
  have hcq : Int.gcd q p = 1 := by rw [Int.gcd_comm]; exact hc
  have dp : p ∣ 1 := p1 p ⟨g, by rw [hp, Int.mul_comm]⟩ (cop_dvd ⟨e, k1⟩ hc) (cop_dvd ⟨f, k2⟩ hc)
  have dq : q ∣ 1 := p2 q ⟨g, by rw [hq, Int.mul_comm]⟩ (cop_dvd ⟨b, k1.symm⟩ hcq) (cop_dvd ⟨c, k2.symm⟩ hcq)
  have ep : p = 1 := by have := Int.le_of_dvd (by decide) dp; omega
  have eq : q = 1 := by have := Int.le_of_dvd (by decide) dq; omega
  subst ep eq
  exact ⟨by omega, by omega, by omega⟩
theorem rg_1 (u z v w : Int) : (u * z - v * w) * (u * z - v * w) = (u * z + v * w) * (u * z + v * w) - 4 * ((u * w) * (v * z)) := by grind
theorem rg_2 (k A B C : Int) : k * B * (k * B) - 4 * (k * A * (k * C)) = k * k * (B * B - 4 * A * C) := by grind
theorem rg_3 (k m : Int) : k * m * (k * m) = k * k * (m * m) := by grind
/-- a quadratic factor of a product of two quadratic ones is one of them -/
theorem qq_or {a b c d e f A B C h2 h1 h0 : Int} (ha : 1 ≤ a) (hd : 1 ≤ d) (hA : 1 ≤ A)
    (pa : ∀ g : Int, g ∣ a → g ∣ b → g ∣ c → g ∣ 1) (pd : ∀ g : Int, g ∣ d → g ∣ e → g ∣ f → g ∣ 1) (pA : ∀ g : Int, g ∣ A → g ∣ B → g ∣ C → g ∣ 1)
    (hns : ∀ r, B * B - 4 * A * C ≠ r * r)
    (e4 : a * d = A * h2) (e3 : a * e + b * d = A * h1 + B * h2) (e2 : a * f + b * e + c * d = A * h0 + B * h1 + C * h2) (e1 : b * f + c * e = B * h0 + C * h1) (e0 : c * f = C * h0) :
    (A = a ∧ B = b ∧ C = c) ∨ (A = d ∧ B = e ∧ C = f) := by
  have k2 : (A * A * h0 - A * d * c - a * A * f + a * d * C) * A = (A * b - a * B) * (A * e - d * B) := by grind
  have k1 : (A * A * h0 - A * d * c - a * A * f + a * d * C) * B = (A * b - a * B) * (A * f - d * C) + (A * c - a * C) * (A * e - d * B) := by grind
  have k0 : (A * A * h0 - A * d * c - a * A * f + a * d * C) * C = (A * c - a * C) * (A * f - d * C) := by grind
  generalize hk : A * A * h0 - A * d * c - a * A * f + a * d * C = κ at *
  generalize hu : A * b - a * B = u at *
  generalize hv : A * c - a * C = v at *
  generalize hw : A * e - d * B = w at *
  generalize hz : A * f - d * C = z at *
  by_cases hk0 : κ = 0
  · have f2 : u * w = 0 := by rw [← k2, hk0]; omega
    have f1 : u * z + v * w = 0 := by rw [← k1, hk0]; omega
    have f0 : v * z = 0 := by rw [← k0, hk0]; omega
    have or1 : (u = 0 ∧ v = 0) ∨ (w = 0 ∧ z = 0) := by
      rcases Int.mul_eq_zero.mp f2 with q | q
      · rw [q] at f1
        rcases Int.mul_eq_zero.mp f0 with r | r
        · exact Or.inl ⟨q, r⟩
        · have : v * w = 0 := by omega
          rcases Int.mul_eq_zero.mp this with s | s
          · exact Or.inl ⟨q, s⟩
          · exact Or.inr ⟨s, r⟩
      · rw [q] at f1
        rcases Int.mul_eq_zero.mp f0 with r | r
        · have : u * z = 0 := by omega
          rcases Int.mul_eq_zero.mp this with s | s
          · exact Or.inl ⟨s, r⟩
          · exact Or.inr ⟨q, s⟩
        · exact Or.inr ⟨q, r⟩
    rcases or1 with ⟨q, r⟩ | ⟨q, r⟩
    · obtain ⟨g1, g2, g3⟩ := tri_eq ha hA pa pA (by omega) (by omega)
      exact Or.inl ⟨g1.symm, g2.symm, g3.symm⟩
    · obtain ⟨g1, g2, g3⟩ := tri_eq hd hA pd pA (by omega) (by omega)
      exact Or.inr ⟨g1.symm, g2.symm, g3.symm⟩
  · exfalso
    have sq : (u * z - v * w) * (u * z - v * w) = κ * κ * (B * B - 4 * A * C) := by
      have g1 : (u * z + v * w) * (u * z + v * w) = κ * B * (κ * B) := by rw [k1]
      have g2 : (u * w) * (v * z) = κ * A * (κ * C) := by rw [k2, k0]
      have g3 : (u * z - v * w) * (u * z - v * w) = (u * z + v * w) * (u * z + v * w) - 4 * ((u * w) * (v * z)) := rg_1 _ _ _ _
      rw [g3, g1, g2]
      exact rg_2 _ _ _ _
    have dv : κ ∣ u * z - v * w := by
      have d1 : κ ^ 2 ∣ (u * z - v * w) ^ 2 := ⟨B * B - 4 * A * C, by rw [Int.pow_succ, Int.pow_succ, Int.pow_zero, Int.one_mul, Int.pow_succ, Int.pow_succ, Int.pow_zero, Int.one_mul]; exact sq⟩
      exact (Int.pow_dvd_pow_iff (by decide)).mp d1
    obtain ⟨m, hm⟩ := dv
    rw [hm] at sq
    have s2 : κ * κ * (B * B - 4 * A * C) = κ * κ * (m * m) := by rw [← sq]; exact rg_3 _ _
    have hkk : κ * κ ≠ 0 := fun q => by rcases Int.mul_eq_zero.mp q with q | q <;> exact hk0 q
    exact hns m (Int.eq_of_mul_eq_mul_left hkk s2)
theorem R_one {S : Int → Int} (h : PR S) (h2 : f_deg S = 2) {a b k : Int} {s s' : SS} (ha : 1 ≤ a) (e : s.1 = S) (hs : stpP a b k s s') : a = S 2 ∧ b = S 1 ∧ k = S 0 ∧ s'.1 = p3 0 0 1 ∧ s'.2.1 = s.2.1 + 1 ∧ ∃ pos, insP s.2.1 (nf 1 a b k) s.2.2 s'.2.2 pos := by
  have hl := h.2.1
  rw [h2] at hl
  obtain ⟨t, t1, t4, ⟨hN, hno⟩, q1, q2⟩ := hs
  rw [e] at hN
  have hab : 0 ≤ a ∧ (a = 0 → 1 ≤ b) := ⟨by omega, fun z => absurd z (by omega)⟩
  obtain ⟨d1, d2, d3⟩ := dvN_deg hab t.toNat S _ h.1.1 h.1.2.1 hN
  rw [if_neg (by omega)] at d3
  have et : t = 1 := by omega
  subst et
  have hN2 := hN
  obtain ⟨T, hT, hd, hr⟩ := hN2
  obtain ⟨g1, g2, g3⟩ := q_d2 h.2.2.1 ha h.1.1 h2 hl.1 hT hd
  obtain ⟨w1, w2⟩ := dvs_self h.1.1 h2
  rw [← g1, ← g2, ← g3] at w2
  have e3 : T = p3 0 0 1 := dvs_uniq hab hT w1 hd w2
  exact ⟨g1, g2, g3, (show s'.1 = T from hr).trans e3, q1, q2⟩
theorem ins_end {k p a b c t : Int} {Fs Gs : Int → Int → Int} (ha : 1 ≤ a) (hl : ∀ i, 0 ≤ i → i < k → Fs i 1 = 0) (h : insP k (nf t a b c) Fs Gs p) : p = k := by
  obtain ⟨h0, h1, h2, h3, h4, h5, h6⟩ := h
  rcases (show p < k ∨ p = k by omega) with z | z
  · have g := h5 p (Int.le_refl _) z
    rw [bef_ql ha (hl p h0 z)] at g
    exact absurd g (by decide)
  · exact z
/-- two quadratic factors behind the linear ones -/
theorem ins_two {k p q a b c d e f t u : Int} {Fs Gs Hs : Int → Int → Int} (ha : 1 ≤ a) (hd : 1 ≤ d) (hk : 0 ≤ k) (hl : ∀ i, 0 ≤ i → i < k → Fs i 1 = 0) (h : insP k (nf t a b c) Fs Gs p) (h2 : insP (k + 1) (nf u d e f) Gs Hs q) :
    (∀ i, 0 ≤ i → i < k → Hs i = Fs i) ∧ (f_before (nf u d e f) (nf t a b c) = 1 → Hs k = nf u d e f ∧ Hs (k + 1) = nf t a b c) ∧ (f_before (nf u d e f) (nf t a b c) = 0 → Hs k = nf t a b c ∧ Hs (k + 1) = nf u d e f) := by
  have ep := ins_end ha hl h
  subst ep
  obtain ⟨a0, a1, a2, a3, a4, a5, a6⟩ := h
  obtain ⟨b0, b1, b2, b3, b4, b5, b6⟩ := h2
  rcases (show q < p ∨ q = p ∨ q = p + 1 by omega) with z | z | z
  · have g := b5 q (Int.le_refl _) (by omega)
    rw [a3 q b0 z, bef_ql hd (hl q b0 z)] at g
    exact absurd g (by decide)
  · subst z
    have g := b5 q (Int.le_refl _) (by omega)
    rw [a2] at g
    have e2 := b4 q (Int.le_refl _) (by omega)
    rw [a2] at e2
    exact ⟨fun i i0 i1 => (b3 i i0 i1).trans (a3 i i0 i1), fun _ => ⟨b2, e2⟩, fun z => by omega⟩
  · subst z
    have g := b6 (by omega)
    rw [show p + 1 - 1 = p by omega, a2] at g
    exact ⟨fun i i0 i1 => (b3 i i0 (by omega)).trans (a3 i i0 i1), fun z => by omega, fun _ => ⟨(b3 p (by omega) (by omega)).trans a2, b2⟩⟩
theorem stpP_uniq {a b k : Int} (ha : 1 ≤ a) {s s' s2 s2' : SS} (h : stpP a b k s s') (h2 : stpP a b k s2 s2') (hs : sag s s2) : sag s' s2' :=
  stp_uniq ⟨by omega, fun z => absurd z (by omega)⟩ (stpP_stp h) (stpP_stp h2) hs
theorem stpP_Dv {a b k : Int} {s s' : SS} (h : stpP a b k s s') : Dv a b k s.1 := by
  obtain ⟨t9, t1, t4, ⟨hN, -⟩, -⟩ := h
  obtain ⟨m, hm⟩ : ∃ m, t9.toNat = m + 1 := ⟨t9.toNat - 1, by omega⟩
  rw [hm] at hN
  obtain ⟨T, hT, hd, -⟩ := hN
  exact ⟨T, hT, hd⟩
/-- another quadratic factor is what is left behind one -/
theorem Dv_other {a b k a2 b2 k2 : Int} {S Q : Int → Int} (h : PR S) (h4 : f_deg S = 4) (ha : 1 ≤ a) (ha2 : 1 ≤ a2) (hQ : n5 Q) (hd : dvs a b k S Q) (h2 : Dv a2 b2 k2 S) (hne : ¬ (a2 = a ∧ b2 = b ∧ k2 = k)) : a2 = Q 2 ∧ b2 = Q 1 ∧ k2 = Q 0 := by
  obtain ⟨Q2, hQ2, hd2⟩ := h2
  obtain ⟨-, e4, e3, e2, e1, e0⟩ := quad_prod ha h.1.1 h4 hQ hd
  obtain ⟨-, f4, f3, f2, f1, f0⟩ := quad_prod ha2 h.1.1 h4 hQ2 hd2
  have hl := h.2.1
  have hq2 : 1 ≤ Q 2 := by
    have hp := PR_cl ha h hQ hd
    have l2 := lead_pos ha h.1.1 h.1.2.1 hl hQ hd
    obtain ⟨d1, d2, -⟩ := deg_dvs (a := a) (b := b) (k := k) ⟨by omega, fun q => absurd q (by omega)⟩ h.1.1 hQ hd h.1.2.1
    rw [if_neg (by omega)] at d2
    rw [show f_deg Q = 2 by omega] at l2
    exact l2.1
  refine (qq_or ha hq2 ha2 (fun g => prm_fac h.2.2.1 hd) (fun g g1 g2 g3 => prm_fac h.2.2.1 (dvs_swap ha h.1.1 h4 hQ hd) g1 g2 g3) (fun g => prm_fac h.2.2.1 hd2) (fun r => nosq h.2.2.2.1 h.1.1 ha2 ⟨Q2, hQ2, hd2⟩) (e4.symm.trans f4) (e3.symm.trans f3) (e2.symm.trans f2) (e1.symm.trans f1) (e0.symm.trans f0)).resolve_left hne
theorem bef_anti {t a b c u d e f : Int} (ha : 1 ≤ a) (hd : 1 ≤ d) (hne : ¬ (d = a ∧ e = b ∧ f = c)) : (f_before (nf u d e f) (nf t a b c) = 1 ∧ f_before (nf t a b c) (nf u d e f) = 0) ∨ (f_before (nf u d e f) (nf t a b c) = 0 ∧ f_before (nf t a b c) (nf u d e f) = 1) := by
  rw [bef_qq hd ha, bef_qq ha hd]
  grind
theorem QF_uniq {s0 s0' s s' : SS} (hP : PR s0.1) (h00 : 0 ≤ s0.2.1) (hl : ∀ i, 0 ≤ i → i < s0.2.1 → s0.2.2 i 1 = 0) (hs : sag s0 s0') (h : QF s0 s) (h' : QF s0' s') : sag s s' := by
  obtain ⟨e1, e2, e3⟩ := hs
  have hl' : ∀ i, 0 ≤ i → i < s0'.2.1 → s0'.2.2 i 1 = 0 := fun i i0 i1 => by rw [← e3 i i0 (by omega)]; exact hl i i0 (by omega)
  have hl1 := hP.2.1
  rcases h with ⟨g, h⟩ | ⟨g, g2, h⟩ | ⟨g, h, hn⟩ | ⟨g, a, b, k, s1, ha, h1, hr⟩
  · rcases h' with ⟨f, h'⟩ | ⟨f, f2, h'⟩ | ⟨f, h', hn'⟩ | ⟨f, a', b', k', s1', ha', h1', hr'⟩
    · rw [← e1] at h'
      rw [g] at hl1
      exact stpP_uniq hl1.1 h h' ⟨e1, e2, e3⟩
    all_goals rw [← e1] at f; omega
  · rcases h' with ⟨f, h'⟩ | ⟨f, f2, h'⟩ | ⟨f, h', hn'⟩ | ⟨f, a', b', k', s1', ha', h1', hr'⟩
    · rw [← e1] at f; omega
    · rw [h, h']; exact ⟨e1, e2, e3⟩
    all_goals rw [← e1] at f; omega
  · rcases h' with ⟨f, h'⟩ | ⟨f, f2, h'⟩ | ⟨f, h', hn'⟩ | ⟨f, a', b', k', s1', ha', h1', hr'⟩
    · rw [← e1] at f; omega
    · rw [← e1] at f2; omega
    · rw [h, h']; exact ⟨e1, e2, e3⟩
    · exact (hn a' b' k' ha' (by rw [e1]; exact stpP_Dv h1')).elim
  · rcases h' with ⟨f, h'⟩ | ⟨f, f2, h'⟩ | ⟨f, h', hn'⟩ | ⟨f, a', b', k', s1', ha', h1', hr'⟩
    · rw [← e1] at f; omega
    · rw [← e1] at f2; omega
    · exact (hn' a b k ha (by rw [← e1]; exact stpP_Dv h1)).elim
    · have hP1 := PR_stpP ha hP h1
      have hP1' := PR_stpP ha' (by rw [← e1]; exact hP) h1'
      by_cases hne : a' = a ∧ b' = b ∧ k' = k
      · obtain ⟨rfl, rfl, rfl⟩ := hne
        have hs1 := stpP_uniq ha h1 h1' ⟨e1, e2, e3⟩
        rcases hr with ⟨r1, r2⟩ | ⟨r1, a2, b2, k2, ha2, r2⟩
        · rcases hr' with ⟨t1, t2⟩ | ⟨t1, -⟩
          · rw [r2, t2]; exact hs1
          · rw [← hs1.1] at t1; omega
        · rcases hr' with ⟨t1, -⟩ | ⟨t1, a2', b2', k2', ha2', t2⟩
          · rw [← hs1.1] at t1; omega
          · obtain ⟨u1, u2, u3, -⟩ := R_one hP1 r1 ha2 rfl r2
            obtain ⟨v1, v2, v3, -⟩ := R_one hP1 r1 ha2' hs1.1.symm t2
            have w1 : a2' = a2 := v1.trans u1.symm
            have w2 : b2' = b2 := v2.trans u2.symm
            have w3 : k2' = k2 := v3.trans u3.symm
            subst w1 w2 w3
            exact stpP_uniq ha2 r2 t2 hs1
      · have other : ∀ (x y z x' y' z' : Int) (S : Int → Int) (v v1 : SS), PR S → f_deg S = 4 → v.1 = S → 1 ≤ x → 1 ≤ x' → ¬ (x' = x ∧ y' = y ∧ z' = z) → stpP x y z v v1 → Dv x' y' z' S → f_deg v1.1 = 2 ∧ v1.1 2 = x' ∧ v1.1 1 = y' ∧ v1.1 0 = z' ∧ v1.2.1 = v.2.1 + 1 ∧ ∃ pos, insP v.2.1 (nf 1 x y z) v.2.2 v1.2.2 pos := by
          intro x y z x' y' z' S v v1 hS h4 ev hx hx' hn hst hdv
          obtain ⟨t9, t1, t4, ⟨hN, hno⟩, i1, i2⟩ := hst
          rw [ev] at hN
          have hab : 0 ≤ x ∧ (x = 0 → 1 ≤ y) := ⟨by omega, fun q => absurd q (by omega)⟩
          obtain ⟨d1, d2, d3⟩ := dvN_deg hab t9.toNat S _ hS.1.1 hS.1.2.1 hN
          rw [if_neg (by omega)] at d3
          obtain ⟨m, hm⟩ : ∃ m, t9.toNat = m + 1 := ⟨t9.toNat - 1, by omega⟩
          have hN2 := hN
          rw [hm] at hN2
          obtain ⟨T, hT, hd, hr⟩ := hN2
          obtain ⟨o1, o2, o3⟩ := Dv_other hS h4 hx hx' hT hd hdv hn
          obtain ⟨c1, c2, c3⟩ := deg_dvs hab hS.1.1 hT hd hS.1.2.1
          rw [if_neg (by omega)] at c2
          have hPT := PR_cl hx hS hT hd
          cases m with
          | zero =>
            have et : t9 = 1 := by omega
            subst et
            have er : v1.1 = T := hr
            exact ⟨by rw [er]; omega, by rw [er]; exact o1.symm, by rw [er]; exact o2.symm, by rw [er]; exact o3.symm, i1, i2⟩
          | succ m =>
            obtain ⟨T2, hT2, hd2, -⟩ := hr
            have hlT := hPT.2.1
            have dT : f_deg T = 2 := by omega
            rw [dT] at hlT
            obtain ⟨g1, g2, g3⟩ := q_d2 hPT.2.2.1 hx hT dT hlT.1 hT2 hd2
            exact (hn ⟨o1.trans g1.symm, o2.trans g2.symm, o3.trans g3.symm⟩).elim
        have hne' : ¬ (a = a' ∧ b = b' ∧ k = k') := fun z => hne ⟨z.1.symm, z.2.1.symm, z.2.2.symm⟩
        obtain ⟨o1, o2, o3, o4, o5, pos, o6⟩ := other a b k a' b' k' s0.1 s0 s1 hP g rfl ha ha' hne h1 (by rw [e1]; exact stpP_Dv h1')
        obtain ⟨q1, q2, q3, q4, q5, pos', q6⟩ := other a' b' k' a b k s0.1 s0' s1' hP g e1.symm ha' ha hne' h1' (stpP_Dv h1)
        rcases hr with ⟨r1, -⟩ | ⟨r1, a2, b2, k2, ha2, r2⟩
        · omega
        · rcases hr' with ⟨t1, -⟩ | ⟨t1, a2', b2', k2', ha2', t2⟩
          · omega
          · obtain ⟨u1, u2, u3, u4, u5, p2, u6⟩ := R_one hP1 r1 ha2 rfl r2
            obtain ⟨v1, v2, v3, v4, v5, p2', v6⟩ := R_one hP1' t1 ha2' rfl t2
            rw [o2] at u1; rw [o3] at u2; rw [o4] at u3
            rw [q2] at v1; rw [q3] at v2; rw [q4] at v3
            subst u1 u2 u3 v1 v2 v3
            refine ⟨u4.trans v4.symm, by omega, ?_⟩
            rw [o5] at u6
            rw [q5] at v6
            obtain ⟨x1, x2, x3⟩ := ins_two ha ha' h00 hl o6 u6
            obtain ⟨y1, y2, y3⟩ := ins_two ha' ha (by omega) hl' q6 v6
            intro i i0 i1
            rw [u5, o5] at i1
            rcases (show i < s0.2.1 ∨ i = s0.2.1 ∨ i = s0.2.1 + 1 by omega) with z | z | z
            · rw [x1 i i0 z, y1 i i0 (by omega)]; exact e3 i i0 z
            · rw [z]
              rcases bef_anti (t := 1) (u := 1) ha ha' hne with ⟨w1, w2⟩ | ⟨w1, w2⟩
              · rw [(x2 w1).1, e2, (y3 w2).1]
              · rw [(x3 w1).1, e2, (y2 w2).1]
            · rw [z]
              rcases bef_anti (t := 1) (u := 1) ha ha' hne with ⟨w1, w2⟩ | ⟨w1, w2⟩
              · rw [(x2 w1).2, e2, (y3 w2).2]
              · rw [(x3 w1).2, e2, (y2 w2).2]
theorem stp_nn {a b k : Int} {s s' : SS} (h : stp a b k s s') (h0 : 0 ≤ s.2.1) : 0 ≤ s'.2.1 := by
  obtain ⟨t, -, -, -, ho⟩ := h
  rcases ho with ⟨-, q, -⟩ | ⟨-, q, -⟩ <;> omega
theorem runC_nn {b : Int} : ∀ (n : Nat) (s s' : SS), runC b n s s' → 0 ≤ s.2.1 → 0 ≤ s'.2.1 := by
  intro n
  induction n with
  | zero => intro s s' h h0; rw [show s' = s from h]; exact h0
  | succ n ih =>
    intro s s' h h0
    obtain ⟨s1, h1, h2⟩ := h
    exact stp_nn h2 (ih _ _ h1 h0)
theorem runB_nn : ∀ (n : Nat) (s s' : SS), runB n s s' → 0 ≤ s.2.1 → 0 ≤ s'.2.1 := by
  intro n
  induction n with
  | zero => intro s s' h h0; rw [show s' = s from h]; exact h0
  | succ n ih =>
    intro s s' h h0
    obtain ⟨s1, h1, h2⟩ := h
    exact runC_nn _ _ _ h2 (ih _ _ h1 h0)
/-- what a splitting comes to is one thing only -/
theorem Res_uniq {N : Int → Int} {cn cn2 : Int} {s s2 : SS} (hN : ∀ j, -20 ≤ N j ∧ N j ≤ 20) (h5 : n5 N) (h0 : 0 ≤ f_deg N) (h : Res N cn s) (h2 : Res N cn2 s2) : cn = cn2 ∧ sag s s2 := by
  obtain ⟨c1, F, s1, r1, q1⟩ := h
  obtain ⟨c2, F2, s12, r2, q2⟩ := h2
  refine ⟨c1.trans c2.symm, ?_⟩
  obtain ⟨hP, hl⟩ := runB_PR hN h5 h0 r1
  have hs := runB_uniq 20 _ _ _ _ r1 r2 ⟨rfl, rfl, fun i i0 i1 => absurd i1 (show ¬ i < 0 by omega)⟩
  have hn : 0 ≤ s1.2.1 := runB_nn 20 _ _ r1 (Int.le_refl 0)
  exact QF_uniq hP hn (fun i i0 i1 => by
    obtain ⟨t, b, k, e, -⟩ := hl i i0 i1
    rw [e]; rfl) hs q1 q2
