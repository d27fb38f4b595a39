def lexb (x y z a b c : Int) : Prop := x < a ∨ (x = a ∧ (y < b ∨ (y = b ∧ z < c)))
def inR (x y z : Int) : Prop := 1 ≤ x ∧ x ≤ 20 ∧ (-240 ≤ y ∧ y ≤ 240) ∧ (-20 ≤ z ∧ z ≤ 20)
def Dv (x y z : Int) (S : Int → Int) : Prop := ∃ Q, n5 Q ∧ dvs x y z S Q
/-- what is left while quadratic factors are sought -/
def PR (S : Int → Int) : Prop := Bd S ∧ (1 ≤ S (f_deg S) ∧ S (f_deg S) ≤ 20) ∧ prm S ∧ nol S ∧ S 0 ≠ 0 ∧ (-20 ≤ S 0 ∧ S 0 ≤ 20)
theorem qua_up {a b k x y z : Int} {S S' : Int → Int} (ha : a ≠ 0) (hx : x ≠ 0) (hS : n5 S) (hS' : n5 S') (hd : dvs a b k S S') (h : Dv x y z S') : Dv x y z S := by
  obtain ⟨Q, hQ, hd2⟩ := h
  obtain ⟨g4, g3, g2, g1, g0, z3, z4⟩ := qua_eqs ha hS hS' hd
  obtain ⟨f4, f3, f2, f1, f0, w3, w4⟩ := qua_eqs hx hS' hQ hd2
  have q2 : Q 2 = 0 := (Int.mul_eq_zero.mp (show x * Q 2 = 0 by omega)).resolve_left hx
  rw [q2] at f3 f2
  have q1 : Q 1 = 0 := (Int.mul_eq_zero.mp (show x * Q 1 = 0 by omega)).resolve_left hx
  rw [q1] at f2 f1
  have e2 : S' 2 = x * Q 0 := by omega
  have e1 : S' 1 = y * Q 0 := by omega
  rw [e2] at g4 g3 g2
  rw [e1] at g3 g2 g1
  rw [f0] at g2 g1 g0
  refine ⟨p4 (k * Q 0) (b * Q 0) (a * Q 0) 0, p4_n5 _ _ _ _, dvs_p4 hS (by omega) ?_ ?_ ?_ ?_ ?_⟩
  · rw [g4]; grind
  · rw [g3]; grind
  · rw [g2]; grind
  · rw [g1]; grind
  · rw [g0]; grind
theorem dvN_up {a b k x y z : Int} (ha : a ≠ 0) (hx : x ≠ 0) : ∀ (t : Nat) (S S' : Int → Int), n5 S → dvN a b k t S S' → Dv x y z S' → Dv x y z S := by
  intro t
  induction t with
  | zero => intro S S' _ h h2; rw [show S' = S from h] at h2; exact h2
  | succ t ih =>
    intro S S' h5 h h2
    obtain ⟨T, hT, hd, hr⟩ := h
    exact qua_up ha hx h5 hT hd (ih T S' hT hr h2)
theorem PR_cl {a b k : Int} {S Q : Int → Int} (ha : 1 ≤ a) (h : PR S) (hQ : n5 Q) (hd : dvs a b k S Q) : PR Q := by
  obtain ⟨hB, hl, hp, hn, h0, h02⟩ := h
  obtain ⟨g4, g3, g2, g1, g0, z3, z4⟩ := qua_eqs (by omega) hB.1 hQ hd
  obtain ⟨d1, d2, -⟩ := deg_dvs (a := a) (b := b) (k := k) ⟨by omega, fun q => absurd q (by omega)⟩ hB.1 hQ hd hB.2.1
  rw [if_neg (by omega)] at d2
  have hl2 := lead_pos ha hB.1 hB.2.1 hl hQ hd
  have hq0 : Q 0 ≠ 0 := fun q => h0 (by rw [g0, q]; omega)
  have hk0 : k ≠ 0 := fun q => h0 (by rw [g0, q]; omega)
  have hq02 := abs_mul_le (b := k) (x := Q 0) hk0 (by rw [← g0]; exact h02)
  refine ⟨⟨hQ, d1, ?_⟩, hl2, prm_dvs hp hd, fun b2 k2 hb2 h3 => hn b2 k2 hb2 (lin_up hb2 hB.1 hd h3), hq0, hq02⟩
  have hc := (deg_c S).2.1
  rcases (show f_deg S = 2 ∨ f_deg S = 3 ∨ f_deg S = 4 by omega) with e | e | e
  · have e0 : f_deg Q = 0 := by omega
    have hz := (deg_c Q).2.2.1
    rw [e0] at hz
    rw [show bnd (f_deg Q) = 480 by rw [e0]; rfl]
    intro j
    by_cases z : j = 0
    · rw [z]; omega
    · by_cases z2 : 0 ≤ j ∧ j ≤ 4
      · rw [hz j (by omega) z2.2]; omega
      · rw [hQ j (by omega)]; omega
  · rw [e] at hl
    exact (q_d3 hn ha hB.1 e hl.1 hQ hd).elim
  · have e2 : f_deg Q = 2 := by omega
    rw [e] at hl
    have hsw := dvs_swap ha hB.1 e hQ hd
    rw [e2] at hl2
    have hr := q_rng hB e hl.1 h0 (a := Q 2) (b := Q 1) (c := Q 0) hl2.1 (p3_n5 a b k) hsw
    rw [show bnd (f_deg Q) = 240 by rw [e2]; rfl]
    intro j
    by_cases z : 0 ≤ j ∧ j ≤ 2
    · rcases (show j = 0 ∨ j = 1 ∨ j = 2 by omega) with rfl | rfl | rfl
      · omega
      · exact hr.2.1
      · omega
    · have : Q j = 0 := by
        rcases Int.lt_or_le j 0 with q | q
        · exact hQ j (Or.inl q)
        · exact deg_out hQ (by omega)
      rw [this]; omega
theorem PR_L {S : Int → Int} (h : PR S) : n5 S ∧ 0 ≤ f_deg S ∧ ∀ j, -480 ≤ S j ∧ S j ≤ 480 := ⟨h.1.1, h.1.2.1, fun j => (Bd_r h.1 j).2⟩
theorem PR_of {S : Int → Int} (h : PL S) (hn : nolin S) : PR S := by
  have hn2 := nol_of h hn
  have h0 := nolin_0 h.1.1 hn
  obtain ⟨v, v0, v4, hz, hne, h1, h2⟩ := h.2.2.2
  have ev : v = 0 := by
    rcases (show v = 0 ∨ 0 < v by omega) with q | q
    · exact q
    · exact absurd (hz 0 q) h0
  rw [ev] at h1 h2
  exact ⟨h.1, h.2.1, h.2.2.1, hn2, h0, h1, h2⟩
theorem PR_deg {S : Int → Int} (h : PR S) : f_deg S = 0 ∨ f_deg S = 2 ∨ f_deg S = 3 ∨ f_deg S = 4 := by
  have hc := deg_c S
  have h0 := h.1.2.1
  rcases (show f_deg S = 0 ∨ f_deg S = 1 ∨ f_deg S = 2 ∨ f_deg S = 3 ∨ f_deg S = 4 by omega) with e | e | e | e | e
  · exact Or.inl e
  · have hl := h.2.1
    rw [e] at hl
    exact (q_d1 h.2.2.2.1 h.1.1 e hl.1).elim
  · exact Or.inr (Or.inl e)
  · exact Or.inr (Or.inr (Or.inl e))
  · exact Or.inr (Or.inr (Or.inr e))
/-- the reference's state before (a, b, c) is tried -/
def JI (a b c : Int) (s0 s : SS) : Prop :=
  (s = s0 ∧ ∀ x y z, inR x y z → lexb x y z a b c → ¬ Dv x y z s0.1) ∨
  (∃ a1 b1 k1 t1, 1 ≤ a1 ∧ lexb a1 b1 k1 a b c ∧ stpP a1 b1 k1 s0 s ∧ s.2.2 s0.2.1 = nf t1 a1 b1 k1 ∧ f_deg s0.1 = 4 ∧ f_deg s.1 = 2 ∧ ∀ x y z, inR x y z → lexb x y z a b c → ¬ Dv x y z s.1)
theorem JI_mono {a b c a2 b2 c2 : Int} {s0 s : SS} (h : JI a b c s0 s) (h1 : ∀ x y z, lexb x y z a b c → lexb x y z a2 b2 c2) (h2 : ∀ x y z, inR x y z → lexb x y z a2 b2 c2 → lexb x y z a b c ∨ ¬ Dv x y z s.1) : JI a2 b2 c2 s0 s := by
  rcases h with ⟨e, hn⟩ | ⟨a1, b1, k1, t1, q1, q2, q3, q4, q5, q6, hn⟩
  · exact Or.inl ⟨e, fun x y z g1 g2 => (h2 x y z g1 g2).elim (hn x y z g1) (fun q => by rw [e] at q; exact q)⟩
  · exact Or.inr ⟨a1, b1, k1, t1, q1, h1 _ _ _ q2, q3, q4, q5, q6, fun x y z g1 g2 => (h2 x y z g1 g2).elim (hn x y z g1) id⟩
theorem JI_skip {a b c : Int} {s0 s : SS} (h : JI a b c s0 s) (hd : ¬ Dv a b c s.1) : JI a b (c + 1) s0 s :=
  JI_mono h (fun x y z q => by unfold lexb at *; omega) (fun x y z _ q => by
    by_cases e : x = a ∧ y = b ∧ z = c
    · obtain ⟨rfl, rfl, rfl⟩ := e; exact Or.inr hd
    · refine Or.inl ?_
      unfold lexb at *
      omega)
theorem JI_row {a b : Int} {s0 s : SS} (h : JI a b 21 s0 s) : JI a (b + 1) (-20) s0 s :=
  JI_mono h (fun x y z q => by unfold lexb at *; omega) (fun x y z g q => by
    refine Or.inl ?_
    unfold lexb inR at *
    omega)
theorem JI_col {a : Int} {s0 s : SS} (h : JI a 241 (-20) s0 s) : JI (a + 1) (-240) (-20) s0 s :=
  JI_mono h (fun x y z q => by unfold lexb at *; omega) (fun x y z g q => by
    refine Or.inl ?_
    unfold lexb inR at *
    omega)
theorem JI_a {a : Int} {s0 s : SS} (h : JI a (-240) (-20) s0 s) (ha : 1 ≤ a) (h5 : n5 s.1) (h0 : 0 ≤ f_deg s.1) (hm : ¬ Int.tmod (s.1 (f_deg s.1)) a = 0) : JI (a + 1) (-240) (-20) s0 s :=
  JI_mono h (fun x y z q => by unfold lexb at *; omega) (fun x y z g q => by
    by_cases e : x = a
    · refine Or.inr ?_
      rintro ⟨Q, hQ, hd⟩
      subst e
      obtain ⟨d1, d2, d3⟩ := deg_dvs (a := x) (b := y) (k := z) ⟨by omega, fun q => absurd q (by omega)⟩ h5 hQ hd h0
      rw [if_neg (by omega)] at d3
      exact hm (tdiv_of (by omega) d3).1
    · refine Or.inl ?_
      unfold lexb inR at *
      omega)
theorem JI_hit {a b c t : Int} {s0 s s' : SS} (ha : 1 ≤ a) (h0 : PR s0.1) (h : JI a b c s0 s) (hs : stpP a b c s s') (hx : s'.2.2 s.2.1 = nf t a b c) : (f_deg s'.1 < 2 ∧ QF s0 s') ∨ (2 ≤ f_deg s'.1 ∧ JI a b (c + 1) s0 s') := by
  have hdiv : Dv a b c s.1 := by
    obtain ⟨t9, t1, t4, ⟨hN, -⟩, -⟩ := hs
    obtain ⟨m, hm⟩ : ∃ m, t9.toNat = m + 1 := ⟨t9.toNat - 1, by omega⟩
    rw [hm] at hN
    obtain ⟨T, hT, hd, -⟩ := hN
    exact ⟨T, hT, hd⟩
  rcases h with ⟨e, hn⟩ | ⟨a1, b1, k1, t1, q1, q2, q3, q4, q5, q6, hn⟩
  · subst e
    obtain ⟨d1, d2, d3, d4⟩ := stpP_deg ha h0.1.1 h0.1.2.1 hs
    obtain ⟨Q, hQ, hd⟩ := hdiv
    have hl := h0.2.1
    rcases PR_deg h0 with e | e | e | e
    · omega
    · rw [e] at hl
      obtain ⟨e1, e2, e3⟩ := q_d2 h0.2.2.1 ha h0.1.1 e hl.1 hQ hd
      refine Or.inl ⟨by omega, Or.inl ⟨e, ?_⟩⟩
      rw [← e1, ← e2, ← e3]
      exact hs
    · rw [e] at hl
      exact (q_d3 h0.2.2.2.1 ha h0.1.1 e hl.1 hQ hd).elim
    · rcases (show f_deg s'.1 = 0 ∨ f_deg s'.1 = 2 by omega) with g | g
      · exact Or.inl ⟨by omega, Or.inr (Or.inr (Or.inr ⟨e, a, b, c, s', ha, hs, Or.inl ⟨g, rfl⟩⟩))⟩
      · refine Or.inr ⟨by omega, Or.inr ⟨a, b, c, t, ha, by unfold lexb; omega, hs, hx, e, g, fun x y z r1 r2 => ?_⟩⟩
        obtain ⟨t9, u1, u4, ⟨hN, hno⟩, -⟩ := hs
        by_cases e9 : x = a ∧ y = b ∧ z = c
        · obtain ⟨rfl, rfl, rfl⟩ := e9
          exact hno
        · intro h9
          refine hn x y z r1 (by unfold lexb at *; omega) (dvN_up (by omega) (by have := r1.1; omega) _ _ _ h0.1.1 hN h9)
  · obtain ⟨d1, d2, d3, d4⟩ := stpP_deg q1 h0.1.1 h0.1.2.1 q3
    obtain ⟨f1, f2, f3, f4⟩ := stpP_deg ha d1 d2 hs
    exact Or.inl ⟨by omega, Or.inr (Or.inr (Or.inr ⟨q5, a1, b1, k1, s, q1, q3, Or.inr ⟨q6, a, b, c, ha, hs⟩⟩))⟩
theorem self_2 {S : Int → Int} (h : PR S) (h2 : f_deg S = 2) : inR (S 2) (S 1) (S 0) ∧ Dv (S 2) (S 1) (S 0) S := by
  have hl := h.2.1
  rw [h2] at hl
  have hb : ∀ j, -240 ≤ S j ∧ S j ≤ 240 := fun j => by have := h.1.2.2 j; rw [h2] at this; exact this
  exact ⟨⟨hl.1, hl.2, hb 1, h.2.2.2.2.2⟩, _, dvs_self h.1.1 h2⟩
theorem PR_stpP {a b k : Int} {s s' : SS} (ha : 1 ≤ a) (h : PR s.1) (hs : stpP a b k s s') : PR s'.1 := by
  obtain ⟨t9, t1, t4, ⟨hN, -⟩, -⟩ := hs
  exact dvN_inv (Pr := PR) (fun S Q q1 q2 q3 => PR_cl ha q1 q2 q3) _ _ _ h hN
theorem JI_end {s0 s : SS} (h0 : PR s0.1) (h : JI 21 (-240) (-20) s0 s) : QF s0 s := by
  have all : ∀ x y z, inR x y z → lexb x y z 21 (-240) (-20) := fun x y z q => by unfold lexb inR at *; omega
  rcases h with ⟨e, hn⟩ | ⟨a1, b1, k1, t1, q1, q2, q3, q4, q5, q6, hn⟩
  · subst e
    have hn2 : ∀ x y z, inR x y z → ¬ Dv x y z s.1 := fun x y z q => hn x y z q (all x y z q)
    rcases PR_deg h0 with e | e | e | e
    · exact Or.inr (Or.inl ⟨by omega, by omega, rfl⟩)
    · obtain ⟨g1, g2⟩ := self_2 h0 e
      exact (hn2 _ _ _ g1 g2).elim
    · exact Or.inr (Or.inl ⟨by omega, by omega, rfl⟩)
    · refine Or.inr (Or.inr (Or.inl ⟨e, rfl, fun a b c ha => ?_⟩))
      rintro ⟨Q, hQ, hd⟩
      have hl := h0.2.1
      rw [e] at hl
      obtain ⟨r1, r2, r3, r4⟩ := q_rng h0.1 e hl.1 h0.2.2.2.2.1 ha hQ hd
      exact hn2 a b c ⟨ha, r1, r2, r3⟩ ⟨Q, hQ, hd⟩
  · obtain ⟨g1, g2⟩ := self_2 (PR_stpP q1 h0 q3) q6
    exact (hn _ _ _ g1 (all _ _ _ g1) g2).elim
theorem JI_low {a b c : Int} {s0 s : SS} (h : JI a b c s0 s) (hd : f_deg s.1 ≤ 1) : QF s0 s := by
  rcases h with ⟨e, hn⟩ | ⟨a1, b1, k1, t1, q1, q2, q3, q4, q5, q6, hn⟩
  · subst e
    exact Or.inr (Or.inl ⟨by omega, by omega, rfl⟩)
  · omega
theorem bef_ql {t a b c : Int} {G : Int → Int} (ha : 1 ≤ a) (hG : G 1 = 0) : f_before (nf t a b c) G = 0 := by
  have l1 : f_lin (nf t a b c) = 0 := if_neg (show ¬ a = 0 by omega)
  have l2 : f_lin G = 1 := if_pos hG
  unfold f_before
  rw [l1, l2, if_neg (by decide)]
theorem bef_qq {t a b c t1 a1 b1 c1 : Int} (ha : 1 ≤ a) (ha1 : 1 ≤ a1) : f_before (nf t a b c) (nf t1 a1 b1 c1) = if a = a1 then (if b = b1 then (if c < c1 then 1 else 0) else (if b < b1 then 1 else 0)) else (if a < a1 then 1 else 0) := by
  have l1 : f_lin (nf t a b c) = 0 := if_neg (show ¬ a = 0 by omega)
  have l2 : f_lin (nf t1 a1 b1 c1) = 0 := if_neg (show ¬ a1 = 0 by omega)
  unfold f_before
  rw [l1, l2, if_pos rfl, if_pos rfl]
  rfl
theorem JI_bef {a b c t : Int} {s0 s : SS} (ha : 1 ≤ a) (hl : ∀ i, 0 ≤ i → i < s0.2.1 → s0.2.2 i 1 = 0) (h : JI a b c s0 s) (hp : 0 < s.2.1) (h00 : 0 ≤ s0.2.1) : f_before (nf t a b c) (s.2.2 (s.2.1 - 1)) = 0 := by
  rcases h with ⟨e, hn⟩ | ⟨a1, b1, k1, t1, q1, q2, q3, q4, q5, q6, hn⟩
  · subst e
    exact bef_ql ha (hl _ (by omega) (by omega))
  · obtain ⟨t9, u1, u4, u5, u6, u7⟩ := q3
    rw [show s.2.1 - 1 = s0.2.1 by omega, q4, bef_qq ha q1]
    unfold lexb at q2
    rcases q2 with q | ⟨q, r⟩
    · rw [if_neg (by omega), if_neg (by omega)]
    · rw [if_pos q.symm]
      rcases r with r | ⟨r, r2⟩
      · rw [if_neg (by omega), if_neg (by omega)]
      · rw [if_pos r.symm, if_neg (by omega)]
/-- the reference appends a quadratic factor -/
theorem app_P {a b c t : Int} {R R' : Int → Int} {fc : Int} {As Bs Cs Os : Int → Int} {Gs : Int → Int → Int} (h0 : 0 ≤ fc) (hag : agr fc (FF As Bs Cs Os) Gs) (ht : 1 ≤ t ∧ t ≤ 4) (hT : tkR a b c t R R') (hb : 0 < fc → f_before (nf t a b c) (Gs (fc - 1)) = 0) :
    stpP a b c (R, fc, Gs) (R', fc + 1, FF (iu As fc a) (iu Bs fc b) (iu Cs fc c) (iu Os fc t)) :=
  ⟨t, ht.1, ht.2, hT, rfl, fc, h0, Int.le_refl _, FF_at, fun i _ q => (FF_iu q).trans (hag i (by omega) q), fun i q1 q2 => absurd q2 (show ¬ i < fc by omega), fun i q1 q2 => absurd q2 (show ¬ i < fc by omega), hb⟩
