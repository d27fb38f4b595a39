def FF (As Bs Cs Os : Int → Int) : Int → Int → Int := fun i => nf (Os i) (As i) (Bs i) (Cs i)
def agr (k : Int) (F G : Int → Int → Int) : Prop := ∀ i, 0 ≤ i → i < k → F i = G i
/-- the linear factors that are there: in lowest terms, and before b x + k -/
def okl (fc b k : Int) (As Bs Cs : Int → Int) : Prop := ∀ i, 0 ≤ i → i < fc → As i = 0 ∧ (1 ≤ Bs i ∧ Bs i ≤ 20) ∧ (-20 ≤ Cs i ∧ Cs i ≤ 20) ∧ f_gcd (Bs i) (Cs i) = 1 ∧ (Bs i < b ∨ (Bs i = b ∧ Cs i < k))
/-- the reference's state between two linear factors -/
def LC (b k : Int) (s1 : SS) (R : Int → Int) (fc : Int) (As Bs Cs Os : Int → Int) : Prop :=
  PL R ∧ 0 ≤ fc ∧ fc + f_deg R ≤ 4 ∧ okl fc b k As Bs Cs ∧ ∃ Gs, agr fc (FF As Bs Cs Os) Gs ∧ runC b (k + 20).toNat s1 (R, fc, Gs)
theorem runC_s {b k : Int} (h : -20 ≤ k) {s1 s s' : SS} (hr : runC b (k + 20).toNat s1 s) (hs : stp 0 b k s s') : runC b (k + 1 + 20).toNat s1 s' := by
  have e1 : (k + 1 + 20).toNat = (k + 20).toNat + 1 := by omega
  have e2 : -20 + (((k + 20).toNat : Nat) : Int) = k := by omega
  rw [e1]
  exact ⟨s, hr, by rw [e2]; exact hs⟩
theorem okl_s {fc b k : Int} {As Bs Cs : Int → Int} (h : okl fc b k As Bs Cs) : okl fc b (k + 1) As Bs Cs := fun i h0 h1 => by
  obtain ⟨q1, q2, q3, q4, q5⟩ := h i h0 h1
  exact ⟨q1, q2, q3, q4, by omega⟩
theorem LC_skip {b k : Int} {s1 : SS} {R : Int → Int} {fc : Int} {As Bs Cs Os : Int → Int} (hk : -20 ≤ k) (hg : f_gcd b k ≠ 1) (h : LC b k s1 R fc As Bs Cs Os) : LC b (k + 1) s1 R fc As Bs Cs Os := by
  obtain ⟨h1, h2, h3, h4, Gs, h5, h6⟩ := h
  refine ⟨h1, h2, h3, okl_s h4, Gs, h5, runC_s hk h6 (stp_none ?_)⟩
  rintro ⟨Q, hQ, hd⟩
  exact hg (l_gcd h1.2.2.1 hd)
theorem FF_iu {As Bs Cs Os : Int → Int} {fc a b c t i : Int} (h : i < fc) : FF (iu As fc a) (iu Bs fc b) (iu Cs fc c) (iu Os fc t) i = FF As Bs Cs Os i := by
  unfold FF iu
  rw [if_neg (by omega), if_neg (by omega), if_neg (by omega), if_neg (by omega)]
theorem FF_at {As Bs Cs Os : Int → Int} {fc a b c t : Int} : FF (iu As fc a) (iu Bs fc b) (iu Cs fc c) (iu Os fc t) fc = nf t a b c := by
  unfold FF iu
  rw [if_pos rfl, if_pos rfl, if_pos rfl, if_pos rfl]
theorem LC_none {b k : Int} {s1 : SS} {R R' : Int → Int} {fc : Int} {As Bs Cs Os : Int → Int} (hk : -20 ≤ k) (h : LC b k s1 R fc As Bs Cs Os) (ht : tkR 0 b k 0 R R') : LC b (k + 1) s1 R' fc (iu As fc 0) (iu Bs fc b) (iu Cs fc k) (iu Os fc 0) := by
  obtain ⟨h1, h2, h3, h4, Gs, h5, h6⟩ := h
  have e : R' = R := ht.1
  subst e
  refine ⟨h1, h2, h3, fun i q0 q1 => ?_, Gs, fun i q0 q1 => (FF_iu q1).trans (h5 i q0 q1), runC_s hk h6 (stp_none ht.2)⟩
  have := okl_s h4 i q0 q1
  unfold iu
  rw [if_neg (by omega), if_neg (by omega), if_neg (by omega)]
  exact this
theorem bef_lin {t1 t2 b1 k1 b2 k2 : Int} : f_before (nf t1 0 b1 k1) (nf t2 0 b2 k2) = if -k1 * b2 < -k2 * b1 then 1 else 0 := by
  have l1 : f_lin (nf t1 0 b1 k1) = 1 := if_pos rfl
  have l2 : f_lin (nf t2 0 b2 k2) = 1 := if_pos rfl
  have m1 : f_mid (nf t1 0 b1 k1) = -k1 := if_pos rfl
  have m2 : f_mid (nf t2 0 b2 k2) = -k2 := if_pos rfl
  have c1 : f_below (nf t1 0 b1 k1) = b1 := if_pos rfl
  have c2 : f_below (nf t2 0 b2 k2) = b2 := if_pos rfl
  unfold f_before
  rw [l1, l2, if_pos rfl, if_neg (by decide), m1, m2, c1, c2]
theorem LC_take {b k t u : Int} {s1 : SS} {R R' : Int → Int} {fc : Int} {As Bs Cs Os : Int → Int} (hb : 1 ≤ b ∧ b ≤ 20) (hk : -20 ≤ k ∧ k ≤ 20) (h : LC b k s1 R fc As Bs Cs Os) (ht : 1 ≤ t ∧ t ≤ 4) (hg : f_gcd b k = 1) (hT : tkR 0 b k t R R') (hR : PL R')
    (hu : 0 ≤ u ∧ u ≤ fc + 1 - 1) (hp : ∀ i, u ≤ i → i < fc + 1 - 1 → ¬ -((iu Cs fc k) i) * (iu Bs fc b) (fc + 1 - 1) < -((iu Cs fc k) (fc + 1 - 1)) * (iu Bs fc b) i) (hq : 0 < u → -((iu Cs fc k) (u - 1)) * (iu Bs fc b) (fc + 1 - 1) < -((iu Cs fc k) (fc + 1 - 1)) * (iu Bs fc b) (u - 1)) :
    LC b (k + 1) s1 R' (fc + 1) (iu As fc 0) (mv (fc + 1 - 1) u (iu Bs fc b)) (mv (fc + 1 - 1) u (iu Cs fc k)) (mv (fc + 1 - 1) u (iu Os fc t)) := by
  rw [show fc + 1 - 1 = fc by omega] at *
  rw [iu_s, iu_s] at *
  obtain ⟨h1, h2, h3, h4, Gs, h5, h6⟩ := h
  obtain ⟨d1, d2, d3⟩ := dvN_deg (a := 0) (b := b) (k := k) ⟨by decide, fun _ => hb.1⟩ t.toNat R R' h1.1.1 h1.1.2.1 hT.1
  rw [if_pos rfl] at d3
  have ino : ∀ (O : Int → Int) (y i : Int), i < fc → iu O fc y i = O i := fun O y i q => if_neg (by omega)
  have hB : ∀ i, i < u → ∀ (O : Int → Int) (y : Int), mv fc u (iu O fc y) i = O i := fun i q O y => by
    unfold mv
    rw [if_neg (by omega), if_neg (by omega)]
    exact ino O y i (by omega)
  have hC : ∀ i, u ≤ i → i < fc → ∀ (O : Int → Int) (y : Int), mv fc u (iu O fc y) (i + 1) = O i := fun i q q2 O y => by
    unfold mv
    rw [if_neg (by omega), if_pos (by omega), show i + 1 - 1 = i by omega]
    exact ino O y i q2
  have hU : ∀ (O : Int → Int) (y : Int), mv fc u (iu O fc y) u = y := fun O y => by rw [mv_k, iu_s]
  have hA : ∀ i, 0 ≤ i → i ≤ fc → iu As fc 0 i = 0 := fun i q0 q => by
    by_cases e : i = fc
    · rw [e, iu_s]
    · rw [ino As 0 i (by omega)]; exact (h4 i q0 (by omega)).1
  refine ⟨hR, by omega, by omega, fun i q0 q1 => ?_, FF (iu As fc 0) (mv fc u (iu Bs fc b)) (mv fc u (iu Cs fc k)) (mv fc u (iu Os fc t)), fun i _ _ => rfl, runC_s hk.1 h6 ⟨t, by omega, ht.2, hT, Or.inr ⟨ht.1, rfl, u, hu.1, hu.2, ?_, fun i i0 i1 => ?_, fun i i0 i1 => ?_, fun i i0 i1 => ?_, fun z => ?_⟩⟩⟩
  · refine ⟨hA i q0 (by omega), ?_⟩
    rcases (show i < u ∨ i = u ∨ u < i by omega) with z | z | z
    · rw [hB i z Bs b, hB i z Cs k]
      exact (okl_s h4 i q0 (by omega)).2
    · rw [z, hU Bs b, hU Cs k]
      exact ⟨hb, hk, hg, by omega⟩
    · have e := hC (i - 1) (by omega) (by omega)
      rw [show i - 1 + 1 = i by omega] at e
      rw [e Bs b, e Cs k]
      exact (okl_s h4 (i - 1) (by omega) (by omega)).2
  · show nf _ _ _ _ = _
    rw [hU Bs b, hU Cs k, hU Os t, hA u hu.1 hu.2]
  · show nf _ _ _ _ = Gs i
    rw [← h5 i i0 (by omega), hB i i1 Bs b, hB i i1 Cs k, hB i i1 Os t, hA i i0 (by omega), ← (h4 i i0 (by omega)).1]
    rfl
  · have i1 : i < fc := i1
    show nf _ _ _ _ = Gs i
    rw [← h5 i (by omega) i1, hC i i0 i1 Bs b, hC i i0 i1 Cs k, hC i i0 i1 Os t, hA (i + 1) (by omega) (by omega), ← (h4 i (by omega) i1).1]
    rfl
  · have i1 : i < fc := i1
    show f_before _ (Gs i) = 1
    obtain ⟨o1, o2, o3, o4, o5⟩ := h4 i (by omega) i1
    have e : Gs i = nf (Os i) 0 (Bs i) (Cs i) := by rw [← h5 i (by omega) i1, ← o1]; rfl
    have p := hp i i0 i1
    rw [ino Cs k i i1, ino Bs b i i1] at p
    rw [e, bef_lin, if_pos]
    rcases Int.lt_or_le (-k * Bs i) (-(Cs i) * b) with z | z
    · exact z
    · have e2 : -(Cs i) * b = -k * Bs i := by omega
      have e3 : k * Bs i = Cs i * b := by
        have f1 := Int.neg_mul (Cs i) b
        have f2 := Int.neg_mul k (Bs i)
        omega
      obtain ⟨g1, g2⟩ := no_tie hg o4 hb.1 o2.1 e3
      omega
  · show f_before _ (Gs (u - 1)) = 0
    have i1 : u - 1 < fc := by omega
    obtain ⟨o1, o2, o3, o4, o5⟩ := h4 (u - 1) (by omega) i1
    have e : Gs (u - 1) = nf (Os (u - 1)) 0 (Bs (u - 1)) (Cs (u - 1)) := by rw [← h5 (u - 1) (by omega) i1, ← o1]; rfl
    have p := hq z
    rw [ino Cs k _ i1, ino Bs b _ i1] at p
    rw [e, bef_lin, if_neg (by omega)]
/-- .. and between two rows of them -/
def LB (b : Int) (s0 : SS) (R : Int → Int) (fc : Int) (As Bs Cs Os : Int → Int) : Prop :=
  PL R ∧ 0 ≤ fc ∧ fc + f_deg R ≤ 4 ∧ okl fc b (-20) As Bs Cs ∧ ∃ Gs, agr fc (FF As Bs Cs Os) Gs ∧ runB (b - 1).toNat s0 (R, fc, Gs)
theorem LB_in {b : Int} {s0 : SS} {R : Int → Int} {fc : Int} {As Bs Cs Os : Int → Int} (h : LB b s0 R fc As Bs Cs Os) : ∃ Gs, runB (b - 1).toNat s0 (R, fc, Gs) ∧ LC b (-20) (R, fc, Gs) R fc As Bs Cs Os := by
  obtain ⟨h1, h2, h3, h4, Gs, h5, h6⟩ := h
  exact ⟨Gs, h6, h1, h2, h3, h4, Gs, h5, rfl⟩
theorem LB_out {b : Int} {s0 s1 : SS} {R : Int → Int} {fc : Int} {As Bs Cs Os : Int → Int} (hb : 1 ≤ b) (hr : runB (b - 1).toNat s0 s1) (h : LC b 21 s1 R fc As Bs Cs Os) : LB (b + 1) s0 R fc As Bs Cs Os := by
  obtain ⟨h1, h2, h3, h4, Gs, h5, h6⟩ := h
  refine ⟨h1, h2, h3, fun i q0 q1 => ?_, Gs, h5, ?_⟩
  · obtain ⟨o1, o2, o3, o4, o5⟩ := h4 i q0 q1
    exact ⟨o1, o2, o3, o4, by omega⟩
  · have e1 : (b + 1 - 1).toNat = (b - 1).toNat + 1 := by omega
    have e2 : (((b - 1).toNat : Nat) : Int) + 1 = b := by omega
    rw [e1]
    exact ⟨s1, hr, by rw [e2]; exact h6⟩
