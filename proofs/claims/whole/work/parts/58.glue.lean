/-! what the class and the reference come to, side by side -/
theorem gok_of {N : Int → Int} {u : FS} (hN : ∀ j, -20 ≤ N j ∧ N j ≤ 20) (h5 : n5 N) (h0 : 0 ≤ f_deg N) (h : RF N u) {i : Int} (i0 : 0 ≤ i) (i1 : i < u.2.2.1) : gok (u.2.2.2.1 i) (u.2.2.2.2.1 i) (u.2.2.2.2.2.1 i) := by
  obtain ⟨o1, o2, o3, o4⟩ := h.2.1 i i0 i1
  exact ⟨o1, o2, o3, RF_fok hN h5 h0 h i0 i1⟩
theorem glue {N : Int → Int} {s : SS} {cn : Int} {u : FS} (hN : ∀ j, -20 ≤ N j ∧ N j ≤ 20) (h5 : n5 N) (h0 : 0 ≤ f_deg N) (hR : Res N cn s) (h : RF N u) : cn = f_cont N ∧ s.1 = u.1 ∧ s.2.1 = u.2.2.1 ∧ ∀ k, 0 ≤ k → k < u.2.2.1 → s.2.2 k = nf (u.2.2.2.2.2.2 k) (u.2.2.2.1 k) (u.2.2.2.2.1 k) (u.2.2.2.2.2.1 k) := by
  obtain ⟨⟨Gs, hag, hR2⟩, -⟩ := h
  obtain ⟨c1, e1, e2, e3⟩ := Res_uniq hN h5 h0 hR hR2
  have e4 : s.2.1 = u.2.2.1 := e2
  exact ⟨c1, e1, e4, fun k k0 k1 => (e3 k k0 (by omega)).trans (hag k k0 k1).symm⟩
