/-! what a call of the class and a call of the reference come to, for the law: u = (code, what is written, the class's state); v = the reference's state -/
theorem cs_res {N : Int → Int} {u : CS} (h : CIs N u) : n5 N ∧ (∀ j, -20 ≤ N j ∧ N j ≤ 20) ∧ 0 ≤ f_deg N ∧ Res N (f_cont N) (u.1, u.2.2.2.1, u.2.2.2.2.2.2) ∧ Bd u.1 ∧ (0 ≤ u.2.2.2.1 ∧ u.2.2.2.1 ≤ 4) ∧ ∀ i, fbd (u.2.2.2.2.2.2 i) := by
  obtain ⟨hc, hd, e1, e2⟩ := h
  obtain ⟨h5, hN, -, -, hF, hs⟩ := hc
  rcases hs with z | ⟨-, -, hR, hB, hf⟩
  · omega
  · rw [e1] at hR
    exact ⟨h5, hN, hd, hR, hB, hf, hF⟩
/-- the class's and the reference's factors of a number -/
theorem side {N : Int → Int} {u : CS} {f : FS} (h : CIs N u) (hf : RF N f) : u.2.2.2.1 = f.2.2.1 ∧ u.1 = f.1 ∧ ∀ k, 0 ≤ k → k < f.2.2.1 → u.2.2.2.2.2.2 k = nf (f.2.2.2.2.2.2 k) (f.2.2.2.1 k) (f.2.2.2.2.1 k) (f.2.2.2.2.2.1 k) ∧ gok (f.2.2.2.1 k) (f.2.2.2.2.1 k) (f.2.2.2.2.2.1 k) := by
  obtain ⟨h5, hN, hd, hR, -⟩ := cs_res h
  obtain ⟨-, e1, e2, e3⟩ := glue hN h5 hd hR hf
  exact ⟨e2, e1, fun k k0 k1 => ⟨e3 k k0 k1, gok_of hN h5 hd hf k0 k1⟩⟩
def H_put (N : Int → Int) (k v : Int) (u : Int × (Int → Int) × (Int → Int) × CS) : Prop :=
  CIu u.2.2.1 u.2.2.2 ∧ ((u.1 = 1 ∧ ¬ (0 ≤ k ∧ k ≤ 4) ∧ u.2.2.1 = N) ∨ (u.1 = 2 ∧ (0 ≤ k ∧ k ≤ 4) ∧ ¬ (-20 ≤ v ∧ v ≤ 20) ∧ u.2.2.1 = N) ∨ (u.1 = 0 ∧ (0 ≤ k ∧ k ≤ 4) ∧ (-20 ≤ v ∧ v ≤ 20) ∧ u.2.2.1 = iu N k v ∧ u.2.1 0 = if N k = v then 0 else 1))
theorem L_put {N : Int → Int} {k v : Int} {u : Int × (Int → Int) × (Int → Int) × CS} {α : Type} {ι : Int → α} {r9 : α} (h : H_put N k v u) (h9 : r9 = ι (if g_pc k v = 0 then (if N k = v then 0 else 1) else 0)) : g_pc k v = u.1 ∧ u.2.2.1 = (if g_pc k v = 0 then iu N k v else N) ∧ (u.1 = 0 → r9 = ι (u.2.1 0) ∧ (u.2.1 0 = 0 ∨ u.2.1 0 = 1)) := by
  obtain ⟨-, ⟨e, h1, h2⟩ | ⟨e, h1, h2, h3⟩ | ⟨e, h1, h2, h3, h4⟩⟩ := h
  · have : g_pc k v = 1 := if_pos h1
    rw [this, e]
    exact ⟨rfl, h2, fun z => absurd z (by decide)⟩
  · have : g_pc k v = 2 := by unfold g_pc; rw [if_neg (by omega), if_neg h2]
    rw [this, e]
    exact ⟨rfl, h3, fun z => absurd z (by decide)⟩
  · have : g_pc k v = 0 := by unfold g_pc; rw [if_neg (by omega), if_pos h2]
    rw [this, if_pos rfl] at h9
    rw [this, e]
    exact ⟨rfl, h3, fun _ => ⟨by rw [h9, h4], by rw [h4]; split; exact Or.inl rfl; exact Or.inr rfl⟩⟩
def H_at (N : Int → Int) (k : Int) (u : Int × (Int → Int) × CS) : Prop := CIu N u.2.2 ∧ ((u.1 = 1 ∧ ¬ (0 ≤ k ∧ k ≤ 4)) ∨ (u.1 = 0 ∧ (0 ≤ k ∧ k ≤ 4) ∧ u.2.1 0 = N k))
theorem L_at {N : Int → Int} {k : Int} {u : Int × (Int → Int) × CS} {α : Type} {ι : Int → α} {r9 : α} (h : H_at N k u) (h9 : r9 = ι (if g_ac k = 0 then N k else 0)) : g_ac k = u.1 ∧ (u.1 = 0 → r9 = ι (u.2.1 0)) := by
  obtain ⟨-, ⟨e, h1⟩ | ⟨e, h1, h2⟩⟩ := h
  · have : g_ac k = 1 := if_neg h1
    rw [this, e]
    exact ⟨rfl, fun z => absurd z (by decide)⟩
  · have : g_ac k = 0 := if_pos h1
    rw [this, if_pos rfl] at h9
    rw [this, e]
    exact ⟨rfl, fun _ => by rw [h9, h2]⟩
def H_change (N : Int → Int) (how : Int) (u : Int × (Int → Int) × (Int → Int) × CS) : Prop :=
  CIu u.2.2.1 u.2.2.2 ∧ ((u.1 = 1 ∧ ¬ (-1 ≤ how ∧ how ≤ 2) ∧ u.2.2.1 = N) ∨ (u.1 = 0 ∧ (-1 ≤ how ∧ how ≤ 2) ∧ u.2.2.1 = f_cnew N how ∧ u.2.1 0 = f_cok N how))
theorem L_change {N M : Int → Int} {how cd : Int} {α : Type} {ι : Int → α} {r9 : α} {u : Int × (Int → Int) × (Int → Int) × CS} (h : H_change N how u) (h2 : (¬ (-1 ≤ how ∧ how ≤ 2) ∧ cd = 1 ∧ M = N) ∨ ((-1 ≤ how ∧ how ≤ 2) ∧ cd = 0 ∧ M = f_cnew N how ∧ r9 = ι (f_cok N how))) : cd = u.1 ∧ u.2.2.1 = M ∧ (u.1 = 0 → r9 = ι (u.2.1 0) ∧ (u.2.1 0 = 0 ∨ u.2.1 0 = 1)) := by
  obtain ⟨-, ⟨e, h1, h3⟩ | ⟨e, h1, h3, h4⟩⟩ := h
  · rcases h2 with ⟨q1, q2, q3⟩ | ⟨q1, -⟩
    · exact ⟨by omega, h3.trans q3.symm, fun z => by omega⟩
    · exact absurd q1 h1
  · rcases h2 with ⟨q1, -⟩ | ⟨q1, q2, q3, q4⟩
    · exact absurd h1 q1
    · exact ⟨by omega, h3.trans q3.symm, fun _ => ⟨by rw [q4, h4], by rw [h4]; unfold f_cok f_all; grind⟩⟩
def H_factors (N : Int → Int) (u : Int × (Int → Int) × CS) : Prop := CIu N u.2.2 ∧ ((u.1 = 1 ∧ f_deg N < 0) ∨ (u.1 = 0 ∧ CIs N u.2.2 ∧ u.2.1 0 = u.2.2.2.2.2.1))
theorem L_factors {N : Int → Int} {u : Int × (Int → Int) × CS} {v : MT} {α : Type} {ι : Int → α} {r9 : α} (h : H_factors N u) (h2 : (f_deg N < 0 ∧ v.1 = 1) ∨ (0 ≤ f_deg N ∧ v.1 = 0 ∧ RF N v.2.2.2 ∧ r9 = ι v.2.2.2.2.2.1)) : v.1 = u.1 ∧ (u.1 = 0 → r9 = ι (u.2.1 0)) := by
  obtain ⟨-, ⟨e, h1⟩ | ⟨e, h1, h3⟩⟩ := h
  · rcases h2 with ⟨q1, q2⟩ | ⟨q1, -⟩
    · exact ⟨by omega, fun z => by omega⟩
    · omega
  · have hd := h1.2.1
    rcases h2 with ⟨q1, q2⟩ | ⟨q1, q2, q3, q4⟩
    · omega
    · obtain ⟨s1, s2, s3⟩ := side h1 q3
      exact ⟨by omega, fun _ => by rw [q4, h3, s1]⟩
def H_content (N : Int → Int) (u : Int × (Int → Int) × CS) : Prop := CIu N u.2.2 ∧ ((u.1 = 1 ∧ f_deg N < 0) ∨ (u.1 = 0 ∧ CIs N u.2.2 ∧ u.2.1 0 = f_cont N))
theorem L_content {N : Int → Int} {u : Int × (Int → Int) × CS} {v : MT} {α : Type} {ι : Int → α} {r9 : α} (h : H_content N u) (h2 : (f_deg N < 0 ∧ v.1 = 1) ∨ (0 ≤ f_deg N ∧ v.1 = 0 ∧ RF N v.2.2.2 ∧ r9 = ι (f_cont N))) : v.1 = u.1 ∧ (u.1 = 0 → r9 = ι (u.2.1 0)) := by
  obtain ⟨-, ⟨e, h1⟩ | ⟨e, h1, h3⟩⟩ := h
  · rcases h2 with ⟨q1, q2⟩ | ⟨q1, -⟩
    · exact ⟨by omega, fun z => by omega⟩
    · omega
  · have hd := h1.2.1
    rcases h2 with ⟨q1, q2⟩ | ⟨q1, q2, q3, q4⟩
    · omega
    · exact ⟨by omega, fun _ => by rw [q4, h3]⟩
def H_left (N : Int → Int) (k : Int) (u : Int × (Int → Int) × CS) : Prop := CIu N u.2.2 ∧ ((u.1 = 1 ∧ f_deg N < 0) ∨ (u.1 = 2 ∧ 0 ≤ f_deg N ∧ ¬ (0 ≤ k ∧ k ≤ 4)) ∨ (u.1 = 0 ∧ CIs N u.2.2 ∧ (0 ≤ k ∧ k ≤ 4) ∧ u.2.1 0 = u.2.2.1 k))
theorem L_left {N : Int → Int} {k : Int} {u : Int × (Int → Int) × CS} {v : MT} {α : Type} {ι : Int → α} {r9 : α} (h : H_left N k u) (h2 : (f_deg N < 0 ∧ v.1 = 1) ∨ (0 ≤ f_deg N ∧ ¬ (0 ≤ k ∧ k ≤ 4) ∧ v.1 = 2) ∨ (0 ≤ f_deg N ∧ (0 ≤ k ∧ k ≤ 4) ∧ v.1 = 0 ∧ RF N v.2.2.2 ∧ r9 = ι (v.2.2.2.1 k))) : v.1 = u.1 ∧ (u.1 = 0 → r9 = ι (u.2.1 0)) := by
  obtain ⟨-, ⟨e, h1⟩ | ⟨e, h1, h3⟩ | ⟨e, h1, h3, h4⟩⟩ := h
  · rcases h2 with ⟨q1, q2⟩ | ⟨q1, -⟩ | ⟨q1, -⟩
    · exact ⟨by omega, fun z => by omega⟩
    · omega
    · omega
  · rcases h2 with ⟨q1, q2⟩ | ⟨q1, q2, q3⟩ | ⟨q1, q2, -⟩
    · omega
    · exact ⟨by omega, fun z => by omega⟩
    · exact absurd q2 h3
  · have hd := h1.2.1
    rcases h2 with ⟨q1, q2⟩ | ⟨q1, q2, q3⟩ | ⟨q1, q2, q3, q4, q5⟩
    · omega
    · exact absurd h3 q2
    · obtain ⟨s1, s2, s3⟩ := side h1 q4
      exact ⟨by omega, fun _ => by rw [q5, h4, s2]⟩
def H_factor (N : Int → Int) (k w : Int) (u : Int × (Int → Int) × CS) : Prop := CIu N u.2.2 ∧ ((u.1 = 1 ∧ f_deg N < 0) ∨ (u.1 = 2 ∧ CIs N u.2.2 ∧ ¬ (0 ≤ k ∧ k < u.2.2.2.2.2.1)) ∨ (u.1 = 3 ∧ CIs N u.2.2 ∧ (0 ≤ k ∧ k < u.2.2.2.2.2.1) ∧ ¬ (0 ≤ w ∧ w ≤ 5)) ∨ (u.1 = 0 ∧ CIs N u.2.2 ∧ (0 ≤ k ∧ k < u.2.2.2.2.2.1) ∧ (0 ≤ w ∧ w ≤ 5) ∧ u.2.1 0 = f_fac (u.2.2.2.2.2.2.2.2 k) w))
/-- the reference's state behind a call that names a factor -/
def RX (N : Int → Int) (k : Int) (v : MT) (inner : Prop) : Prop := (f_deg N < 0 ∧ v.1 = 1) ∨ (0 ≤ f_deg N ∧ RF N v.2.2.2 ∧ ((¬ (0 ≤ k ∧ k < v.2.2.2.2.2.1) ∧ v.1 = 2) ∨ ((0 ≤ k ∧ k < v.2.2.2.2.2.1) ∧ inner)))
theorem L_x {N : Int → Int} {k : Int} {u : Int × (Int → Int) × CS} {v : MT} {α : Type} {ι : Int → α} {r9 : α} {ib : Prop} {jb : Prop} (h : (u.1 = 1 ∧ f_deg N < 0) ∨ (u.1 = 2 ∧ CIs N u.2.2 ∧ ¬ (0 ≤ k ∧ k < u.2.2.2.2.2.1)) ∨ (CIs N u.2.2 ∧ (0 ≤ k ∧ k < u.2.2.2.2.2.1) ∧ jb)) (h2 : RX N k v ib)
    (hk : CIs N u.2.2 → RF N v.2.2.2 → u.2.2.2.2.2.1 = v.2.2.2.2.2.1 → (0 ≤ k ∧ k < v.2.2.2.2.2.1) → jb → ib → v.1 = u.1 ∧ (u.1 = 0 → r9 = ι (u.2.1 0))) : v.1 = u.1 ∧ (u.1 = 0 → r9 = ι (u.2.1 0)) := by
  rcases h with ⟨e, h1⟩ | ⟨e, h1, h3⟩ | ⟨h1, h3, h4⟩
  · rcases h2 with ⟨q1, q2⟩ | ⟨q1, -⟩
    · exact ⟨by omega, fun z => by omega⟩
    · omega
  · have hd := h1.2.1
    rcases h2 with ⟨q1, q2⟩ | ⟨q1, q2, q3⟩
    · omega
    · obtain ⟨s1, s2, s3⟩ := side h1 q2
      rcases q3 with ⟨r1, r2⟩ | ⟨r1, -⟩
      · exact ⟨by omega, fun z => by omega⟩
      · rw [s1] at h3; exact absurd r1 h3
  · have hd := h1.2.1
    rcases h2 with ⟨q1, q2⟩ | ⟨q1, q2, q3⟩
    · omega
    · obtain ⟨s1, s2, s3⟩ := side h1 q2
      rw [s1] at h3
      rcases q3 with ⟨r1, r2⟩ | ⟨r1, r2⟩
      · exact absurd h3 r1
      · exact hk h1 q2 s1 r1 h4 r2
theorem L_factor {N : Int → Int} {k w : Int} {u : Int × (Int → Int) × CS} {v : MT} {α : Type} {ι : Int → α} {r9 : α} (h : H_factor N k w u) (h2 : RX N k v ((¬ (0 ≤ w ∧ w ≤ 5) ∧ v.1 = 3) ∨ ((0 ≤ w ∧ w ≤ 5) ∧ v.1 = 0 ∧ ((w < 5 ∧ r9 = ι (g_fac (v.2.2.2.2.2.2.1 k) (v.2.2.2.2.2.2.2.1 k) (v.2.2.2.2.2.2.2.2.1 k) (v.2.2.2.2.2.2.2.2.2 k) w)) ∨ (w = 5 ∧ AO (v.2.2.2.2.2.2.1 k) (v.2.2.2.2.2.2.2.1 k) (v.2.2.2.2.2.2.2.2.1 k) v.2.2.1 ∧ r9 = ι (v.2.2.1 4)))))) : v.1 = u.1 ∧ (u.1 = 0 → r9 = ι (u.2.1 0)) := by
  obtain ⟨-, h⟩ := h
  refine L_x (jb := (u.1 = 3 ∧ ¬ (0 ≤ w ∧ w ≤ 5)) ∨ (u.1 = 0 ∧ (0 ≤ w ∧ w ≤ 5) ∧ u.2.1 0 = f_fac (u.2.2.2.2.2.2.2.2 k) w)) ?_ h2 ?_
  · rcases h with h | h | ⟨e, h1, h3, h4⟩ | ⟨e, h1, h3, h4⟩
    · exact Or.inl h
    · exact Or.inr (Or.inl h)
    · exact Or.inr (Or.inr ⟨h1, h3, Or.inl ⟨e, h4⟩⟩)
    · exact Or.inr (Or.inr ⟨h1, h3, Or.inr ⟨e, h4⟩⟩)
  · intro h1 q2 s1 hk j i
    obtain ⟨-, -, s3⟩ := side h1 q2
    obtain ⟨f1, f2⟩ := s3 k hk.1 hk.2
    rcases j with ⟨e, j⟩ | ⟨e, j, j2⟩
    · rcases i with ⟨i, i2⟩ | ⟨i, -⟩
      · exact ⟨by omega, fun z => by omega⟩
      · exact absurd i j
    · rcases i with ⟨i, i2⟩ | ⟨i, i2, i3⟩
      · exact absurd j i
      · refine ⟨by omega, fun _ => ?_⟩
        rw [j2, f1]
        rcases i3 with ⟨w5, i3⟩ | ⟨w5, i3, i4⟩
        · rw [i3]
          congr 1
          unfold f_fac g_fac
          rcases (show w = 0 ∨ w = 1 ∨ w = 2 ∨ w = 3 ∨ w = 4 by omega) with rfl | rfl | rfl | rfl | rfl <;> rfl
        · rw [i4, w5]
          exact congrArg ι (ans_eq (t := 1) f2 i3).2.2.2.2.symm
def H_answer (N : Int → Int) (k w t : Int) (u : Int × (Int → Int) × CS) : Prop := CIu N u.2.2 ∧ ((u.1 = 1 ∧ f_deg N < 0) ∨ (u.1 = 2 ∧ CIs N u.2.2 ∧ ¬ (0 ≤ k ∧ k < u.2.2.2.2.2.1)) ∨ (u.1 = 3 ∧ CIs N u.2.2 ∧ (0 ≤ k ∧ k < u.2.2.2.2.2.1) ∧ ¬ ((0 ≤ w ∧ w ≤ 1) ∧ (0 ≤ t ∧ t ≤ 1))) ∨ (u.1 = 0 ∧ CIs N u.2.2 ∧ (0 ≤ k ∧ k < u.2.2.2.2.2.1) ∧ (0 ≤ w ∧ w ≤ 1) ∧ (0 ≤ t ∧ t ≤ 1) ∧ u.2.1 0 = f_ans (u.2.2.2.2.2.2.2.2 k) w t))
theorem L_answer {N : Int → Int} {k w t : Int} {u : Int × (Int → Int) × CS} {v : MT} {α : Type} {ι : Int → α} {r9 : α} (h : H_answer N k w t u) (h2 : RX N k v ((¬ ((0 ≤ w ∧ w ≤ 1) ∧ (0 ≤ t ∧ t ≤ 1)) ∧ v.1 = 3) ∨ ((0 ≤ w ∧ w ≤ 1) ∧ (0 ≤ t ∧ t ≤ 1) ∧ v.1 = 0 ∧ AO (v.2.2.2.2.2.2.1 k) (v.2.2.2.2.2.2.2.1 k) (v.2.2.2.2.2.2.2.2.1 k) v.2.2.1 ∧ r9 = ι (v.2.2.1 (if w = 0 then (if t = 0 then 0 else 1) else (if t = 0 then 2 else 3)))))) : v.1 = u.1 ∧ (u.1 = 0 → r9 = ι (u.2.1 0)) := by
  obtain ⟨-, h⟩ := h
  refine L_x (jb := (u.1 = 3 ∧ ¬ ((0 ≤ w ∧ w ≤ 1) ∧ (0 ≤ t ∧ t ≤ 1))) ∨ (u.1 = 0 ∧ (0 ≤ w ∧ w ≤ 1) ∧ (0 ≤ t ∧ t ≤ 1) ∧ u.2.1 0 = f_ans (u.2.2.2.2.2.2.2.2 k) w t)) ?_ h2 ?_
  · rcases h with h | h | ⟨e, h1, h3, h4⟩ | ⟨e, h1, h3, h4⟩
    · exact Or.inl h
    · exact Or.inr (Or.inl h)
    · exact Or.inr (Or.inr ⟨h1, h3, Or.inl ⟨e, h4⟩⟩)
    · exact Or.inr (Or.inr ⟨h1, h3, Or.inr ⟨e, h4⟩⟩)
  · intro h1 q2 s1 hk j i
    obtain ⟨-, -, s3⟩ := side h1 q2
    obtain ⟨f1, f2⟩ := s3 k hk.1 hk.2
    rcases j with ⟨e, j⟩ | ⟨e, j, j1, j2⟩
    · rcases i with ⟨i, i2⟩ | ⟨i, i1, -⟩
      · exact ⟨by omega, fun z => by omega⟩
      · exact absurd ⟨i, i1⟩ j
    · rcases i with ⟨i, i2⟩ | ⟨i, i1, i2, i3, i4⟩
      · exact absurd ⟨j, j1⟩ i
      · refine ⟨by omega, fun _ => ?_⟩
        rw [j2, f1, i4]
        obtain ⟨g0, g1, g2, g3, -⟩ := ans_eq (t := v.2.2.2.2.2.2.2.2.2 k) f2 i3
        rcases (show w = 0 ∨ w = 1 by omega) with rfl | rfl <;> rcases (show t = 0 ∨ t = 1 by omega) with rfl | rfl
        · exact congrArg ι g0.symm
        · exact congrArg ι g1.symm
        · exact congrArg ι g2.symm
        · exact congrArg ι g3.symm
def H_real (N : Int → Int) (u : Int × (Int → Int) × CS) : Prop := CIu N u.2.2 ∧ ((u.1 = 1 ∧ f_deg N < 0) ∨ (u.1 = 0 ∧ CIs N u.2.2 ∧ u.2.1 0 = f_sum u.2.2.2.2.2.2.2.2 u.2.2.2.2.2.1.toNat))
theorem L_real {N : Int → Int} {u : Int × (Int → Int) × CS} {v : MT} {α : Type} {ι : Int → α} {r9 : α} (h : H_real N u) (h2 : (f_deg N < 0 ∧ v.1 = 1) ∨ (0 ≤ f_deg N ∧ v.1 = 0 ∧ RF N v.2.2.2 ∧ r9 = ι (g_sum v.2.2.2.2.2.2.1 v.2.2.2.2.2.2.2.1 v.2.2.2.2.2.2.2.2.1 v.2.2.2.2.2.1.toNat))) : v.1 = u.1 ∧ (u.1 = 0 → r9 = ι (u.2.1 0)) := by
  obtain ⟨-, ⟨e, h1⟩ | ⟨e, h1, h3⟩⟩ := h
  · rcases h2 with ⟨q1, q2⟩ | ⟨q1, -⟩
    · exact ⟨by omega, fun z => by omega⟩
    · omega
  · have hd := h1.2.1
    rcases h2 with ⟨q1, q2⟩ | ⟨q1, q2, q3, q4⟩
    · omega
    · obtain ⟨s1, s2, s3⟩ := side h1 q3
      have hf := (cs_res h1).2.2.2.2.2.1
      refine ⟨by omega, fun _ => ?_⟩
      rw [h3, s1, q4]
      refine congrArg ι (Eq.symm ?_)
      exact sum_eq (Os := v.2.2.2.2.2.2.2.2.2) (fc := v.2.2.2.2.2.1) (fun i i0 i1 => (s3 i i0 i1).1.symm) (fun i i0 i1 => (s3 i i0 i1).2) _ (by omega)
def H_floor (N : Int → Int) (k up : Int) (u : Int × (Int → Int) × CS) : Prop := CIu N u.2.2 ∧ ((u.1 = 1 ∧ f_deg N < 0) ∨ (u.1 = 2 ∧ CIs N u.2.2 ∧ ¬ (0 ≤ k ∧ k < u.2.2.2.2.2.1)) ∨ (u.1 = 3 ∧ CIs N u.2.2 ∧ (0 ≤ k ∧ k < u.2.2.2.2.2.1) ∧ ¬ 0 ≤ (u.2.2.2.2.2.2.2.2 k) 5) ∨ (u.1 = 0 ∧ CIs N u.2.2 ∧ (0 ≤ k ∧ k < u.2.2.2.2.2.1) ∧ 0 ≤ (u.2.2.2.2.2.2.2.2 k) 5 ∧ ((f_below (u.2.2.2.2.2.2.2.2 k) < 1 ∧ u.2.1 0 = 0) ∨ (1 ≤ f_below (u.2.2.2.2.2.2.2.2 k) ∧ ∃ q, f_isrt (f_under (u.2.2.2.2.2.2.2.2 k)) q ∧ u.2.1 0 = f_flr (u.2.2.2.2.2.2.2.2 k) up q))))
theorem L_floor {N : Int → Int} {k up : Int} {u : Int × (Int → Int) × CS} {v : MT} {α : Type} {ι : Int → α} {r9 : α} (hup : up = 0 ∨ up = 1) (h : H_floor N k up u) (h2 : RX N k v ((g_real (v.2.2.2.2.2.2.1 k) (v.2.2.2.2.2.2.2.1 k) (v.2.2.2.2.2.2.2.2.1 k) = 0 ∧ v.1 = 3) ∨ (g_real (v.2.2.2.2.2.2.1 k) (v.2.2.2.2.2.2.2.1 k) (v.2.2.2.2.2.2.2.2.1 k) = 1 ∧ v.1 = 0 ∧ ∃ b, r9 = ι b ∧ (-1000 ≤ b ∧ b ≤ 1000) ∧ (b = -1000 ∨ 0 ≤ g_sign (v.2.2.2.2.2.2.1 k) (v.2.2.2.2.2.2.2.1 k) (v.2.2.2.2.2.2.2.2.1 k) up b) ∧ g_sign (v.2.2.2.2.2.2.1 k) (v.2.2.2.2.2.2.2.1 k) (v.2.2.2.2.2.2.2.2.1 k) up (b + 1) < 0))) : v.1 = u.1 ∧ (u.1 = 0 → r9 = ι (u.2.1 0)) := by
  obtain ⟨-, h⟩ := h
  refine L_x (jb := (u.1 = 3 ∧ ¬ 0 ≤ (u.2.2.2.2.2.2.2.2 k) 5) ∨ (u.1 = 0 ∧ 0 ≤ (u.2.2.2.2.2.2.2.2 k) 5 ∧ ((f_below (u.2.2.2.2.2.2.2.2 k) < 1 ∧ u.2.1 0 = 0) ∨ (1 ≤ f_below (u.2.2.2.2.2.2.2.2 k) ∧ ∃ q, f_isrt (f_under (u.2.2.2.2.2.2.2.2 k)) q ∧ u.2.1 0 = f_flr (u.2.2.2.2.2.2.2.2 k) up q)))) ?_ h2 ?_
  · rcases h with h | h | ⟨e, h1, h3, h4⟩ | ⟨e, h1, h3, h4⟩
    · exact Or.inl h
    · exact Or.inr (Or.inl h)
    · exact Or.inr (Or.inr ⟨h1, h3, Or.inl ⟨e, h4⟩⟩)
    · exact Or.inr (Or.inr ⟨h1, h3, Or.inr ⟨e, h4⟩⟩)
  · intro h1 q2 s1 hk j i
    obtain ⟨-, -, s3⟩ := side h1 q2
    obtain ⟨f1, f2⟩ := s3 k hk.1 hk.2
    have hr := real_eq f2
    have e5 : (u.2.2.2.2.2.2.2.2 k) 5 = f_ins (v.2.2.2.2.2.2.1 k) (v.2.2.2.2.2.2.2.1 k) (v.2.2.2.2.2.2.2.2.1 k) := by rw [f1]; rfl
    rw [e5] at j
    rcases j with ⟨e, j⟩ | ⟨e, j, j2⟩
    · rcases i with ⟨i, i2⟩ | ⟨i, -⟩
      · exact ⟨by omega, fun z => by omega⟩
      · exact absurd (hr.mpr i) j
    · rcases i with ⟨i, i2⟩ | ⟨i, i2, b, i5, -, i3, i4⟩
      · rw [hr.mp j] at i; exact absurd i (by decide)
      · refine ⟨by omega, fun _ => ?_⟩
        rcases j2 with ⟨z, -⟩ | ⟨-, q, j3, j4⟩
        · rw [f1] at z
          have := (below_p (t := v.2.2.2.2.2.2.2.2.2 k) f2).2
          omega
        · rw [f1] at j3 j4
          rw [i5, j4]
          exact congrArg ι (flr_eq f2 hup j j3 i3 i4).symm
def H_compare (N : Int → Int) (k up j ot : Int) (u : Int × (Int → Int) × CS) : Prop := CIu N u.2.2 ∧ ((u.1 = 1 ∧ f_deg N < 0) ∨ (u.1 = 2 ∧ CIs N u.2.2 ∧ ¬ ((0 ≤ k ∧ k < u.2.2.2.2.2.1) ∧ (0 ≤ j ∧ j < u.2.2.2.2.2.1))) ∨ (u.1 = 3 ∧ CIs N u.2.2 ∧ (0 ≤ k ∧ k < u.2.2.2.2.2.1) ∧ (0 ≤ j ∧ j < u.2.2.2.2.2.1) ∧ ¬ (0 ≤ (u.2.2.2.2.2.2.2.2 k) 5 ∧ 0 ≤ (u.2.2.2.2.2.2.2.2 j) 5)) ∨ (u.1 = 0 ∧ CIs N u.2.2 ∧ (0 ≤ k ∧ k < u.2.2.2.2.2.1) ∧ (0 ≤ j ∧ j < u.2.2.2.2.2.1) ∧ 0 ≤ (u.2.2.2.2.2.2.2.2 k) 5 ∧ 0 ≤ (u.2.2.2.2.2.2.2.2 j) 5 ∧ u.2.1 0 = f_cmp (u.2.2.2.2.2.2.2.2 k) (u.2.2.2.2.2.2.2.2 j) up ot))
theorem L_compare {N : Int → Int} {k up j ot : Int} {u : Int × (Int → Int) × CS} {v : MT} {α : Type} {ι : Int → α} {r9 : α} (hup : up = 0 ∨ up = 1) (hot : ot = 0 ∨ ot = 1) (h : H_compare N k up j ot u) (h2 : RX N k v ((¬ (0 ≤ j ∧ j < v.2.2.2.2.2.1) ∧ v.1 = 2) ∨ ((0 ≤ j ∧ j < v.2.2.2.2.2.1) ∧ ((¬ (g_real (v.2.2.2.2.2.2.1 k) (v.2.2.2.2.2.2.2.1 k) (v.2.2.2.2.2.2.2.2.1 k) = 1 ∧ g_real (v.2.2.2.2.2.2.1 j) (v.2.2.2.2.2.2.2.1 j) (v.2.2.2.2.2.2.2.2.1 j) = 1) ∧ v.1 = 3) ∨ ((g_real (v.2.2.2.2.2.2.1 k) (v.2.2.2.2.2.2.2.1 k) (v.2.2.2.2.2.2.2.2.1 k) = 1 ∧ g_real (v.2.2.2.2.2.2.1 j) (v.2.2.2.2.2.2.2.1 j) (v.2.2.2.2.2.2.2.2.1 j) = 1) ∧ v.1 = 0 ∧ r9 = ι (g_cmp k j up ot (v.2.2.2.2.2.2.1 k) (v.2.2.2.2.2.2.2.1 k) (v.2.2.2.2.2.2.2.2.1 k) (v.2.2.2.2.2.2.1 j) (v.2.2.2.2.2.2.2.1 j) (v.2.2.2.2.2.2.2.2.1 j))))))) : v.1 = u.1 ∧ (u.1 = 0 → r9 = ι (u.2.1 0)) := by
  obtain ⟨-, h⟩ := h
  rcases h with ⟨e, h1⟩ | ⟨e, h1, h3⟩ | ⟨e, h1, h3, h4, h6⟩ | ⟨e, h1, h3, h4, h6, h7, h8⟩
  · rcases h2 with ⟨q1, q2⟩ | ⟨q1, -⟩
    · exact ⟨by omega, fun z => by omega⟩
    · omega
  all_goals have hd := h1.2.1
  all_goals rcases h2 with ⟨q1, q2⟩ | ⟨q1, q2, q3⟩
  all_goals try omega
  all_goals obtain ⟨s1, s2, s3⟩ := side h1 q2
  · rw [s1] at h3
    rcases q3 with ⟨r1, r2⟩ | ⟨r1, ⟨r2, r3⟩ | ⟨r2, r3⟩⟩
    · exact ⟨by omega, fun z => by omega⟩
    · exact ⟨by omega, fun z => by omega⟩
    · exact absurd ⟨r1, r2⟩ h3
  all_goals rw [s1] at h3 h4
  all_goals rcases q3 with ⟨r1, r2⟩ | ⟨r1, ⟨r2, r3⟩ | ⟨r2, r3⟩⟩
  all_goals try exact absurd h3 r1
  all_goals try exact absurd h4 r2
  all_goals obtain ⟨f1, f2⟩ := s3 k h3.1 h3.2
  all_goals obtain ⟨g1, g2⟩ := s3 j h4.1 h4.2
  all_goals have e5 : (u.2.2.2.2.2.2.2.2 k) 5 = f_ins (v.2.2.2.2.2.2.1 k) (v.2.2.2.2.2.2.2.1 k) (v.2.2.2.2.2.2.2.2.1 k) := by rw [f1]; rfl
  all_goals have e6 : (u.2.2.2.2.2.2.2.2 j) 5 = f_ins (v.2.2.2.2.2.2.1 j) (v.2.2.2.2.2.2.2.1 j) (v.2.2.2.2.2.2.2.2.1 j) := by rw [g1]; rfl
  · rw [e5, e6, real_eq f2, real_eq g2] at h6
    rcases r3 with ⟨t1, t2⟩ | ⟨t1, t2, t3⟩
    · exact ⟨by omega, fun z => by omega⟩
    · exact absurd t1 h6
  · rw [e5] at h6
    rw [e6] at h7
    rcases r3 with ⟨t1, t2⟩ | ⟨t1, t2, t3⟩
    · exact absurd ⟨(real_eq f2).mp h6, (real_eq g2).mp h7⟩ t1
    · refine ⟨by omega, fun _ => ?_⟩
      rw [t3, h8, f1, g1]
      exact congrArg ι (cmp_eq f2 g2 hup hot h6 h7 (fun z => by rw [z]; exact ⟨rfl, rfl, rfl⟩)).symm
/-! what a call answers is an int -/
theorem z_fac {F : Int → Int} (h : fbd F) (w : Int) : r32 (f_fac F w) := by
  have h0 := h.1 0
  have h1 := h.1 1
  have h2 := h.1 2
  have h3 := h.1 3
  have h5 := h.1 5
  unfold f_fac
  constructor <;> grind
theorem z_ans {F : Int → Int} (h : fbd F) (w t : Int) : r32 (f_ans F w t) := by
  have h4 := h.1 4
  have h1 : -1002000 ≤ (if t = 0 then f_above F w else f_below F) ∧ (if t = 0 then f_above F w else f_below F) ≤ 1002000 := by
    have := h.2.1
    have := h.2.2.1
    unfold f_above
    constructor <;> grind
  unfold f_ans
  by_cases z : f_gcd (f_above F w) (f_below F) = 0
  · rw [if_pos z]; decide
  · rw [if_neg z]
    have := tdiv_in (y := f_gcd (f_above F w) (f_below F)) h1
    constructor <;> omega
theorem ediv_in {x y A : Int} (hy : 1 ≤ y) (hA : 0 ≤ A) (h : -A ≤ x ∧ x ≤ A) : -A ≤ x / y ∧ x / y ≤ A := by
  constructor
  · rw [Int.le_ediv_iff_mul_le (by omega)]
    have := Int.mul_le_mul_of_nonneg_left hy hA
    have e : -A * y = -(A * y) := Int.neg_mul _ _
    omega
  · rcases Int.lt_or_le x 0 with z | z
    · have := Int.ediv_neg_of_neg_of_pos z (show 0 < y by omega)
      omega
    · have := Int.ediv_le_self y z
      omega
theorem z_flr {F : Int → Int} {up q : Int} (h : fbd F) (hb : 1 ≤ f_below F) (hq : 0 ≤ q ∧ q ≤ 1000) : r32 (f_flr F up q) := by
  have hm := h.2.1
  have h1 : -1241 ≤ (if up = 0 ∧ ¬ F 1 = 0 then f_mid F - q - 1 else f_mid F + q) ∧ (if up = 0 ∧ ¬ F 1 = 0 then f_mid F - q - 1 else f_mid F + q) ≤ 1241 := by
    split <;> omega
  have := ediv_in hb (by decide) h1
  unfold f_flr
  constructor <;> omega
theorem z_cmp (F G : Int → Int) (up ot : Int) : r32 (f_cmp F G up ot) := by
  unfold f_cmp f_ss
  exact sg_r _
theorem z_left {N : Int → Int} {u : CS} (h : CIs N u) (k : Int) : r32 (u.1 k) := by
  have := (Bd_r (cs_res h).2.2.2.2.1 k).2
  constructor <;> omega
theorem z_cont {N : Int → Int} {u : CS} (h : CIs N u) : r32 (f_cont N) := by
  obtain ⟨h5, hN, hd, -⟩ := cs_res h
  have := cont_r hN h5 hd
  constructor <;> omega
theorem z_fc {N : Int → Int} {u : CS} (h : CIs N u) : r32 u.2.2.2.1 := by
  have := (cs_res h).2.2.2.2.2.1
  constructor <;> omega
theorem z_sum {N : Int → Int} {u : CS} (h : CIs N u) : r32 (f_sum u.2.2.2.2.2.2 u.2.2.2.1.toNat) := by
  have h1 := (cs_res h).2.2.2.2.2.1
  have := f_sum_b u.2.2.2.2.2.2 u.2.2.2.1.toNat
  constructor <;> omega
theorem z_fb {N : Int → Int} {u : CS} (h : CIs N u) (i : Int) : fbd (u.2.2.2.2.2.2 i) := (cs_res h).2.2.2.2.2.2 i
