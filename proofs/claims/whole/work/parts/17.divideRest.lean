set_option maxHeartbeats 4000000 in
set_option maxRecDepth 100000 in
theorem lp_divideRest2 {p : Program} {l : Launch} {e : Env} {Rm : Room} {s : State} {m : MethodId} {args : Array Value} {below : List Frame} {meth : Method} {c : Code} {dC : Nat → ClassId} {dI : Nat → Nat → Nat} {A : Nat → Prop} {a b k sz dg : Int} {R D G : Int → Int} {h n r d f : Nat} {cI : ClassId} {fc cn sp : Int} (hs : 1 ≤ sz ∧ sz ≤ 2) (hdg : dg ≤ 4 ∧ 0 ≤ dg) (hR : n5 R) (hD5 : n5 D) (hG5 : n5 G) (hd : dvs a b k R G) (hG : ∀ x, 0 ≤ x → G x = if x + sz ≤ dg then D (x + sz) else 0) (C0 : cx p s m meth c args RX1 cX1_divideRest 8 (some .boolean)) : ∀ (n9 : Nat) (S : Int → Int) (t : Int), 0 ≤ t ∧ t ≤ 5 → (∀ j, S j = if 0 ≤ j ∧ j < t then G j else R j) → (5 - t).toNat < n9 → ∀ (H : Heap) (locs : List Loc), va_K (dC, dI) vwCl [(cI, .int)] s → va_P (dC, dI) vwCl [(h, .inr (1, [.ref n, .ref r, .ref d, .ref f, .int (iI fc), .int (iI cn), .int (iI sp)])), (r, .inl (cI, 5, .inl (aI S))), (d, .inl (cI, 5, .inl (aI D)))] H → va_D A [(h, .inr (1, [.ref n, .ref r, .ref d, .ref f, .int (iI fc), .int (iI cn), .int (iI sp)])), (r, .inl (cI, 5, .inl (aI S))), (d, .inl (cI, 5, .inl (aI D)))] → va_S A s.heap H locs → ∀ (ls : Array Slot), lv_has ls 8 [(0, .ref h), (4, .int (iI sz)), (6, .int (iI dg)), (7, .int (iI t))] → W p l e Rm s m args below meth c H locs 0 0 (MQ below (va_Qi (fun (r9 : Int32) (u : (Int → Int) × (Int → Int)) => n5 u.2 ∧ ((r9 = iI 1 ∧ n5 u.1 ∧ dvs a b k R u.1) ∨ (r9 = iI 0 ∧ u.1 = R ∧ ¬ ∃ Q, n5 Q ∧ dvs a b k R Q))) (fun (u : (Int → Int) × (Int → Int)) t9 => va_P (dC, dI) vwCl [(h, .inr (1, [.ref n, .ref r, .ref d, .ref f, .int (iI fc), .int (iI cn), .int (iI sp)])), (r, .inl (cI, 5, .inl (aI u.1))), (d, .inl (cI, 5, .inl (aI u.2)))] t9.heap ∧ va_K (dC, dI) vwCl [(cI, .int)] t9 ∧ va_D A [(h, .inr (1, [.ref n, .ref r, .ref d, .ref f, .int (iI fc), .int (iI cn), .int (iI sp)])), (r, .inl (cI, 5, .inl (aI u.1))), (d, .inl (cI, 5, .inl (aI u.2)))]) A) args s 0 0 A) (F0 m 182 ls []) := by
  obtain ⟨hx, hb, hr, hml, hown, hw, hlocks⟩ := C0
  intro n9
  induction n9 with
  | zero => intro S t _ _ hmu; exact absurd hmu (Nat.not_lt_zero _)
  | succ n9 ih =>
    intro S t ht hF hmu H locs hK hP hD hS ls hl
    refine lv_iload hx hb dX1_divideRest_182 (lv_at hl 3 rfl) ?_
    refine lv_aload_n hx hb dX1_divideRest_184 rfl (lv_at hl 0 rfl) ?_
    refine va_get (D := (dC, dI)) (ci := 1) (v := .ref r) (C := RX1) (T := TX1) (N := 7) hx hb hw inX1 hown hK hP 0 rfl rfl 1 (by decide) (hw _ mA_54) (fun _ h9 => h9) rfl dX1_divideRest_185 ?_
    refine va_alen (v := iI 5) hx hb hK hP 1 0 rfl rfl rfl dX1_divideRest_188 ?_
    refine ix_icmp_ge (tgt := 229) hx hb dX1_divideRest_189 (by decide) (by omega) (by decide) (fun c1 => ?_) (fun c1 => ?_)
    · refine ix_iconst (n := 1) hx hb dX1_divideRest_229 ?_
      have e9 : S = G := by funext j; rw [hF j]; by_cases q : 0 ≤ j ∧ j < t; exact if_pos q; rw [if_neg q, hR j (by omega), hG5 j (by omega)]
      have hP9 := hP.sub (ws' := [(h, .inr (1, [.ref n, .ref r, .ref d, .ref f, .int (iI fc), .int (iI cn), .int (iI sp)])), (r, .inl (cI, 5, .inl (aI S))), (d, .inl (cI, 5, .inl (aI D)))]) [0, 1, 2] rfl
      have hD9 := hD.sub (ws' := [(h, .inr (1, [.ref n, .ref r, .ref d, .ref f, .int (iI fc), .int (iI cn), .int (iI sp)])), (r, .inl (cI, 5, .inl (aI S))), (d, .inl (cI, 5, .inl (aI D)))]) [0, 1, 2] (by decide) rfl
      have hK9 := hK.sub (tys' := [(cI, .int)]) [0] rfl
      exact W.zret (v := iI 1) hx hb hr (by decide) (fun t ht hW => ⟨⟨iI 1, (S, D), rfl, ⟨hD5, Or.inl ⟨rfl, by rw [e9]; exact hG5, by rw [e9]; exact hd⟩⟩, by rw [ht]; exact hP9, va_K.moved hW.alike hK9, hD9⟩, hS.F ht⟩) hS.2.2 dX1_divideRest_230
    · refine lv_aload_n hx hb dX1_divideRest_192 rfl (lv_at hl 0 rfl) ?_
      refine va_get (D := (dC, dI)) (ci := 1) (v := .ref r) (C := RX1) (T := TX1) (N := 7) hx hb hw inX1 hown hK hP 0 rfl rfl 1 (by decide) (hw _ mA_54) (fun _ h9 => h9) rfl dX1_divideRest_193 ?_
      refine lv_iload hx hb dX1_divideRest_196 (lv_at hl 3 rfl) ?_
      refine lv_iload hx hb dX1_divideRest_198 (lv_at hl 3 rfl) ?_
      refine lv_iload hx hb dX1_divideRest_200 (lv_at hl 1 rfl) ?_
      refine ix_iadd hx hb dX1_divideRest_202 ?_
      refine lv_iload hx hb dX1_divideRest_203 (lv_at hl 2 rfl) ?_
      refine ix_icmp_gt (tgt := 221) hx hb dX1_divideRest_205 (by decide) (by omega) (by omega) (fun c2 => ?_) (fun c2 => ?_)
      · refine ix_iconst (n := 0) hx hb dX1_divideRest_221 ?_
        refine ix_iast (k := t) (x := 0) hx hb hK hP hD hS 1 0 rfl rfl (by omega) (by omega) (by decide) dX1_divideRest_222 (fun H locs hP hD hS => ?_)
        have hP : va_P (dC, dI) vwCl [(h, .inr (1, [.ref n, .ref r, .ref d, .ref f, .int (iI fc), .int (iI cn), .int (iI sp)])), (r, .inl (cI, 5, .inl (aI (iu S t 0)))), (d, .inl (cI, 5, .inl (aI D)))] H := hP
        have hD : va_D A [(h, .inr (1, [.ref n, .ref r, .ref d, .ref f, .int (iI fc), .int (iI cn), .int (iI sp)])), (r, .inl (cI, 5, .inl (aI (iu S t 0)))), (d, .inl (cI, 5, .inl (aI D)))] := hD
        refine ix_iinc (k := 3) (lv2 := [(7, .int (iI (t + 1))), (0, .ref h), (4, .int (iI sz)), (6, .int (iI dg))]) hx hb dX1_divideRest_223 hl rfl (by decide) rfl (fun ls hl => ?_)
        refine lv_goto (tgt := 182) hx hb dX1_divideRest_226 (by decide) ?_
        exact ih (iu S t 0) (t + 1) (by omega) (fun j => by unfold iu; have := hF j; have := hG j; grind) (by omega) _ _ hK hP hD hS ls (lv_sub hl [1, 2, 3, 0] rfl)
      · refine lv_aload_n hx hb dX1_divideRest_208 rfl (lv_at hl 0 rfl) ?_
        refine va_get (D := (dC, dI)) (ci := 1) (v := .ref d) (C := RX1) (T := TX1) (N := 7) hx hb hw inX1 hown hK hP 0 rfl rfl 2 (by decide) (hw _ mA_55) (fun _ h9 => h9) rfl dX1_divideRest_209 ?_
        refine lv_iload hx hb dX1_divideRest_212 (lv_at hl 3 rfl) ?_
        refine lv_iload hx hb dX1_divideRest_214 (lv_at hl 1 rfl) ?_
        refine ix_iadd hx hb dX1_divideRest_216 ?_
        refine ix_iald (k := t + sz) hx hb hK hP 2 0 rfl rfl (by omega) (by omega) (by decide) dX1_divideRest_217 ?_
        refine lv_goto (tgt := 222) hx hb dX1_divideRest_218 (by decide) ?_
        refine ix_iast (k := t) (x := D (t + sz)) hx hb hK hP hD hS 1 0 rfl rfl (by omega) (by omega) (by decide) dX1_divideRest_222 (fun H locs hP hD hS => ?_)
        have hP : va_P (dC, dI) vwCl [(h, .inr (1, [.ref n, .ref r, .ref d, .ref f, .int (iI fc), .int (iI cn), .int (iI sp)])), (r, .inl (cI, 5, .inl (aI (iu S t (D (t + sz)))))), (d, .inl (cI, 5, .inl (aI D)))] H := hP
        have hD : va_D A [(h, .inr (1, [.ref n, .ref r, .ref d, .ref f, .int (iI fc), .int (iI cn), .int (iI sp)])), (r, .inl (cI, 5, .inl (aI (iu S t (D (t + sz)))))), (d, .inl (cI, 5, .inl (aI D)))] := hD
        refine ix_iinc (k := 3) (lv2 := [(7, .int (iI (t + 1))), (0, .ref h), (4, .int (iI sz)), (6, .int (iI dg))]) hx hb dX1_divideRest_223 hl rfl (by decide) rfl (fun ls hl => ?_)
        refine lv_goto (tgt := 182) hx hb dX1_divideRest_226 (by decide) ?_
        exact ih (iu S t (D (t + sz))) (t + 1) (by omega) (fun j => by unfold iu; have := hF j; have := hG j; grind) (by omega) _ _ hK hP hD hS ls (lv_sub hl [1, 2, 3, 0] rfl)
set_option maxHeartbeats 4000000 in
set_option maxRecDepth 100000 in
theorem lp_divideRest1 {p : Program} {l : Launch} {e : Env} {Rm : Room} {s : State} {m : MethodId} {args : Array Value} {below : List Frame} {meth : Method} {c : Code} {dC : Nat → ClassId} {dI : Nat → Nat → Nat} {A : Nat → Prop} {a b k sz hi dg K : Int} {L R : Int → Int} {h n r d f : Nat} {cI : ClassId} {fc cn sp : Int} (C0 : cx p s m meth c args RX1 cX1_divideRest 8 (some .boolean)) : ∀ (n9 : Nat) (i : Int) (D : Int → Int) (G : Int → Int), DI a b k sz hi dg K L R i D G → i.toNat + 1 < n9 → ∀ (H : Heap) (locs : List Loc), va_K (dC, dI) vwCl [(cI, .int)] s → va_P (dC, dI) vwCl [(h, .inr (1, [.ref n, .ref r, .ref d, .ref f, .int (iI fc), .int (iI cn), .int (iI sp)])), (r, .inl (cI, 5, .inl (aI R))), (d, .inl (cI, 5, .inl (aI D)))] H → va_D A [(h, .inr (1, [.ref n, .ref r, .ref d, .ref f, .int (iI fc), .int (iI cn), .int (iI sp)])), (r, .inl (cI, 5, .inl (aI R))), (d, .inl (cI, 5, .inl (aI D)))] → va_S A s.heap H locs → ∀ (ls : Array Slot), lv_has ls 8 [(0, .ref h), (1, .int (iI a)), (2, .int (iI b)), (3, .int (iI k)), (4, .int (iI sz)), (5, .int (iI hi)), (6, .int (iI dg)), (7, .int (iI i))] → W p l e Rm s m args below meth c H locs 0 0 (MQ below (va_Qi (fun (r9 : Int32) (u : (Int → Int) × (Int → Int)) => n5 u.2 ∧ ((r9 = iI 1 ∧ n5 u.1 ∧ dvs a b k R u.1) ∨ (r9 = iI 0 ∧ u.1 = R ∧ ¬ ∃ Q, n5 Q ∧ dvs a b k R Q))) (fun (u : (Int → Int) × (Int → Int)) t9 => va_P (dC, dI) vwCl [(h, .inr (1, [.ref n, .ref r, .ref d, .ref f, .int (iI fc), .int (iI cn), .int (iI sp)])), (r, .inl (cI, 5, .inl (aI u.1))), (d, .inl (cI, 5, .inl (aI u.2)))] t9.heap ∧ va_K (dC, dI) vwCl [(cI, .int)] t9 ∧ va_D A [(h, .inr (1, [.ref n, .ref r, .ref d, .ref f, .int (iI fc), .int (iI cn), .int (iI sp)])), (r, .inl (cI, 5, .inl (aI u.1))), (d, .inl (cI, 5, .inl (aI u.2)))]) A) args s 0 0 A) (F0 m 67 ls []) := by
  obtain ⟨hx, hb, hr, hml, hown, hw, hlocks⟩ := C0
  intro n9
  induction n9 with
  | zero => intro i D G _ hmu; exact absurd hmu (Nat.not_lt_zero _)
  | succ n9 ih =>
    intro i D G hI hmu H locs hK hP hD hS ls hl
    have hsz := hI.szr
    have hii := hI.2.1
    have hd4 := hI.1.2.2.2.2.1
    refine lv_iload hx hb dX1_divideRest_67 (lv_at hl 7 rfl) ?_
    refine lv_iload hx hb dX1_divideRest_69 (lv_at hl 4 rfl) ?_
    refine ix_icmp_lt (tgt := 156) hx hb dX1_divideRest_71 (by decide) (by omega) (by omega) (fun c1 => ?_) (fun c1 => ?_)
    · have c2 : ¬ sz ≤ i := by omega
      refine lv_aload_n hx hb dX1_divideRest_156 rfl (lv_at hl 0 rfl) ?_
      refine va_get (D := (dC, dI)) (ci := 1) (v := .ref d) (C := RX1) (T := TX1) (N := 7) hx hb hw inX1 hown hK hP 0 rfl rfl 2 (by decide) (hw _ mA_55) (fun _ h9 => h9) rfl dX1_divideRest_157 ?_
      refine ix_iconst (n := 0) hx hb dX1_divideRest_160 ?_
      refine ix_iald (k := 0) hx hb hK hP 2 0 rfl rfl (by decide) (by decide) (by decide) dX1_divideRest_161 ?_
      refine ix_if_ne (tgt := 177) hx hb dX1_divideRest_162 (by decide) (hI.r _).1 (fun c3 => ?_) (fun c3 => ?_)
      · refine ix_iconst (n := 0) hx hb dX1_divideRest_177 ?_
        have hP9 := hP.sub (ws' := [(h, .inr (1, [.ref n, .ref r, .ref d, .ref f, .int (iI fc), .int (iI cn), .int (iI sp)])), (r, .inl (cI, 5, .inl (aI R))), (d, .inl (cI, 5, .inl (aI D)))]) [0, 1, 2] rfl
        have hD9 := hD.sub (ws' := [(h, .inr (1, [.ref n, .ref r, .ref d, .ref f, .int (iI fc), .int (iI cn), .int (iI sp)])), (r, .inl (cI, 5, .inl (aI R))), (d, .inl (cI, 5, .inl (aI D)))]) [0, 1, 2] (by decide) rfl
        have hK9 := hK.sub (tys' := [(cI, .int)]) [0] rfl
        exact W.zret (v := iI 0) hx hb hr (by decide) (fun t ht hW => ⟨⟨iI 0, (R, D), rfl, ⟨hI.2.2.2.2.1, Or.inr ⟨rfl, rfl, hI.noend c2 (by first | exact Or.inl c3 | exact Or.inr c3)⟩⟩, by rw [ht]; exact hP9, va_K.moved hW.alike hK9, hD9⟩, hS.F ht⟩) hS.2.2 dX1_divideRest_178
      · refine lv_aload_n hx hb dX1_divideRest_165 rfl (lv_at hl 0 rfl) ?_
        refine va_get (D := (dC, dI)) (ci := 1) (v := .ref d) (C := RX1) (T := TX1) (N := 7) hx hb hw inX1 hown hK hP 0 rfl rfl 2 (by decide) (hw _ mA_55) (fun _ h9 => h9) rfl dX1_divideRest_166 ?_
        refine lv_iload hx hb dX1_divideRest_169 (lv_at hl 4 rfl) ?_
        refine ix_iconst (n := 1) hx hb dX1_divideRest_171 ?_
        refine ix_isub hx hb dX1_divideRest_172 ?_
        refine ix_iald (k := sz - 1) hx hb hK hP 2 0 rfl rfl (by omega) (by omega) (by decide) dX1_divideRest_173 ?_
        refine ix_if_eq (tgt := 179) hx hb dX1_divideRest_174 (by decide) (hI.r _).1 (fun c4 => ?_) (fun c4 => ?_)
        · refine ix_iconst (n := 0) hx hb dX1_divideRest_179 ?_
          refine lv_istore (lv' := [(7, .int (iI 0)), (0, .ref h), (1, .int (iI a)), (2, .int (iI b)), (3, .int (iI k)), (4, .int (iI sz)), (5, .int (iI hi)), (6, .int (iI dg))]) hx hb dX1_divideRest_180 hl (by decide) rfl (fun ls hl => ?_)
          obtain ⟨y1, y2, y3⟩ := hI.yes c2 (by omega) (by omega)
          exact lp_divideRest2 (by omega) ⟨by omega, by omega⟩ hI.1.2.2.2.2.2.2.2.2.2.2 hI.2.2.2.2.1 y2 y1 y3 ⟨hx, hb, hr, hml, hown, hw, hlocks⟩ 6 R 0 ⟨by omega, by omega⟩ (fun j => by rw [if_neg (by omega)]) (by omega) _ _ hK hP hD hS ls (lv_sub hl [1, 5, 7, 0] rfl)
        · refine ix_iconst (n := 0) hx hb dX1_divideRest_177 ?_
          have hP9 := hP.sub (ws' := [(h, .inr (1, [.ref n, .ref r, .ref d, .ref f, .int (iI fc), .int (iI cn), .int (iI sp)])), (r, .inl (cI, 5, .inl (aI R))), (d, .inl (cI, 5, .inl (aI D)))]) [0, 1, 2] rfl
          have hD9 := hD.sub (ws' := [(h, .inr (1, [.ref n, .ref r, .ref d, .ref f, .int (iI fc), .int (iI cn), .int (iI sp)])), (r, .inl (cI, 5, .inl (aI R))), (d, .inl (cI, 5, .inl (aI D)))]) [0, 1, 2] (by decide) rfl
          have hK9 := hK.sub (tys' := [(cI, .int)]) [0] rfl
          exact W.zret (v := iI 0) hx hb hr (by decide) (fun t ht hW => ⟨⟨iI 0, (R, D), rfl, ⟨hI.2.2.2.2.1, Or.inr ⟨rfl, rfl, hI.noend c2 (by first | exact Or.inl c4 | exact Or.inr c4)⟩⟩, by rw [ht]; exact hP9, va_K.moved hW.alike hK9, hD9⟩, hS.F ht⟩) hS.2.2 dX1_divideRest_178
    · have hi1 : sz ≤ i := by omega
      refine lv_aload_n hx hb dX1_divideRest_74 rfl (lv_at hl 0 rfl) ?_
      refine va_get (D := (dC, dI)) (ci := 1) (v := .ref d) (C := RX1) (T := TX1) (N := 7) hx hb hw inX1 hown hK hP 0 rfl rfl 2 (by decide) (hw _ mA_55) (fun _ h9 => h9) rfl dX1_divideRest_75 ?_
      refine lv_iload hx hb dX1_divideRest_78 (lv_at hl 7 rfl) ?_
      refine ix_iald (k := i) hx hb hK hP 2 0 rfl rfl (by omega) (by omega) (by decide) dX1_divideRest_80 ?_
      refine lv_iload hx hb dX1_divideRest_81 (lv_at hl 5 rfl) ?_
      refine ix_irem hx hb dX1_divideRest_83 (hI.r _).1 hI.1.2.2.1 hI.1.2.1 ?_
      refine ix_if_eq (tgt := 89) hx hb dX1_divideRest_84 (by decide) (tmod_r (hI.r _).1) (fun c5 => ?_) (fun c5 => ?_)
      · have hm : (D i).tmod hi = 0 := c5
        refine lv_aload_n hx hb dX1_divideRest_89 rfl (lv_at hl 0 rfl) ?_
        refine va_get (D := (dC, dI)) (ci := 1) (v := .ref d) (C := RX1) (T := TX1) (N := 7) hx hb hw inX1 hown hK hP 0 rfl rfl 2 (by decide) (hw _ mA_55) (fun _ h9 => h9) rfl dX1_divideRest_90 ?_
        refine lv_iload hx hb dX1_divideRest_93 (lv_at hl 7 rfl) ?_
        refine lv_dup2_11 hx hb dX1_divideRest_95 rfl rfl ?_
        refine ix_iald (k := i) hx hb hK hP 2 0 rfl rfl (by omega) (by omega) (by decide) dX1_divideRest_96 ?_
        refine lv_iload hx hb dX1_divideRest_97 (lv_at hl 5 rfl) ?_
        refine ix_idiv hx hb dX1_divideRest_99 (hI.r _).1 hI.1.2.2.1 (hI.r _).2 hI.1.2.1 ?_
        refine ix_iast (k := i) (x := Int.tdiv (D i) hi) hx hb hK hP hD hS 2 0 rfl rfl (by omega) (by omega) (by decide) dX1_divideRest_100 (fun H locs hP hD hS => ?_)
        have hP : va_P (dC, dI) vwCl [(h, .inr (1, [.ref n, .ref r, .ref d, .ref f, .int (iI fc), .int (iI cn), .int (iI sp)])), (r, .inl (cI, 5, .inl (aI R))), (d, .inl (cI, 5, .inl (aI (iu D i (Int.tdiv (D i) hi)))))] H := hP
        have hD : va_D A [(h, .inr (1, [.ref n, .ref r, .ref d, .ref f, .int (iI fc), .int (iI cn), .int (iI sp)])), (r, .inl (cI, 5, .inl (aI R))), (d, .inl (cI, 5, .inl (aI (iu D i (Int.tdiv (D i) hi)))))] := hD
        refine lv_aload_n hx hb dX1_divideRest_101 rfl (lv_at hl 0 rfl) ?_
        refine va_get (D := (dC, dI)) (ci := 1) (v := .ref d) (C := RX1) (T := TX1) (N := 7) hx hb hw inX1 hown hK hP 0 rfl rfl 2 (by decide) (hw _ mA_55) (fun _ h9 => h9) rfl dX1_divideRest_102 ?_
        refine lv_iload hx hb dX1_divideRest_105 (lv_at hl 7 rfl) ?_
        refine lv_iload hx hb dX1_divideRest_107 (lv_at hl 4 rfl) ?_
        refine ix_isub hx hb dX1_divideRest_109 ?_
        refine lv_dup2_11 hx hb dX1_divideRest_110 rfl rfl ?_
        refine ix_iald (k := i - sz) hx hb hK hP 2 0 rfl rfl (by omega) (by omega) (by decide) dX1_divideRest_111 ?_
        refine lv_aload_n hx hb dX1_divideRest_112 rfl (lv_at hl 0 rfl) ?_
        refine va_get (D := (dC, dI)) (ci := 1) (v := .ref d) (C := RX1) (T := TX1) (N := 7) hx hb hw inX1 hown hK hP 0 rfl rfl 2 (by decide) (hw _ mA_55) (fun _ h9 => h9) rfl dX1_divideRest_113 ?_
        refine lv_iload hx hb dX1_divideRest_116 (lv_at hl 7 rfl) ?_
        refine ix_iald (k := i) hx hb hK hP 2 0 rfl rfl (by omega) (by omega) (by decide) dX1_divideRest_118 ?_
        refine lv_iload_n hx hb dX1_divideRest_119 rfl (lv_at hl 3 rfl) ?_
        refine ix_imul hx hb dX1_divideRest_120 ?_
        refine ix_isub hx hb dX1_divideRest_121 ?_
        refine ix_iast (k := i - sz) (x := ((iu D i (Int.tdiv (D i) hi)) (i - sz)) - (((iu D i (Int.tdiv (D i) hi)) i) * k)) hx hb hK hP hD hS 2 0 rfl rfl (by omega) (by omega) (by decide) dX1_divideRest_122 (fun H locs hP hD hS => ?_)
        have hP : va_P (dC, dI) vwCl [(h, .inr (1, [.ref n, .ref r, .ref d, .ref f, .int (iI fc), .int (iI cn), .int (iI sp)])), (r, .inl (cI, 5, .inl (aI R))), (d, .inl (cI, 5, .inl (aI (iu (iu D i (Int.tdiv (D i) hi)) (i - sz) (((iu D i (Int.tdiv (D i) hi)) (i - sz)) - (((iu D i (Int.tdiv (D i) hi)) i) * k))))))] H := hP
        have hD : va_D A [(h, .inr (1, [.ref n, .ref r, .ref d, .ref f, .int (iI fc), .int (iI cn), .int (iI sp)])), (r, .inl (cI, 5, .inl (aI R))), (d, .inl (cI, 5, .inl (aI (iu (iu D i (Int.tdiv (D i) hi)) (i - sz) (((iu D i (Int.tdiv (D i) hi)) (i - sz)) - (((iu D i (Int.tdiv (D i) hi)) i) * k))))))] := hD
        refine lv_iload hx hb dX1_divideRest_123 (lv_at hl 4 rfl) ?_
        refine ix_iconst (n := 2) hx hb dX1_divideRest_125 ?_
        refine ix_icmp_ne (tgt := 150) hx hb dX1_divideRest_126 (by decide) (by omega) (by decide) (fun c6 => ?_) (fun c6 => ?_)
        · refine ix_iinc (k := 7) (lv2 := [(7, .int (iI (i + (-1)))), (0, .ref h), (1, .int (iI a)), (2, .int (iI b)), (3, .int (iI k)), (4, .int (iI sz)), (5, .int (iI hi)), (6, .int (iI dg))]) hx hb dX1_divideRest_150 hl rfl (by decide) rfl (fun ls hl => ?_)
          refine lv_goto (tgt := 67) hx hb dX1_divideRest_153 (by decide) ?_
          have hN := hI.next hi1 hm (iu (iu D i (Int.tdiv (D i) hi)) (i - sz) (((iu D i (Int.tdiv (D i) hi)) (i - sz)) - (((iu D i (Int.tdiv (D i) hi)) i) * k))) (by unfold iu; grind) (by unfold iu; grind) (by intro _; unfold iu; grind) (by intro j _ _ _; unfold iu; grind)
          exact ih (i - 1) (iu (iu D i (Int.tdiv (D i) hi)) (i - sz) (((iu D i (Int.tdiv (D i) hi)) (i - sz)) - (((iu D i (Int.tdiv (D i) hi)) i) * k))) (iu G (i - sz) ((D i).tdiv hi)) hN (by omega) _ _ hK hP hD hS ls (lv_sub hl [1, 2, 3, 4, 5, 6, 7, 0] rfl)
        · refine lv_aload_n hx hb dX1_divideRest_129 rfl (lv_at hl 0 rfl) ?_
          refine va_get (D := (dC, dI)) (ci := 1) (v := .ref d) (C := RX1) (T := TX1) (N := 7) hx hb hw inX1 hown hK hP 0 rfl rfl 2 (by decide) (hw _ mA_55) (fun _ h9 => h9) rfl dX1_divideRest_130 ?_
          refine lv_iload hx hb dX1_divideRest_133 (lv_at hl 7 rfl) ?_
          refine ix_iconst (n := 1) hx hb dX1_divideRest_135 ?_
          refine ix_isub hx hb dX1_divideRest_136 ?_
          refine lv_dup2_11 hx hb dX1_divideRest_137 rfl rfl ?_
          refine ix_iald (k := i - 1) hx hb hK hP 2 0 rfl rfl (by omega) (by omega) (by decide) dX1_divideRest_138 ?_
          refine lv_aload_n hx hb dX1_divideRest_139 rfl (lv_at hl 0 rfl) ?_
          refine va_get (D := (dC, dI)) (ci := 1) (v := .ref d) (C := RX1) (T := TX1) (N := 7) hx hb hw inX1 hown hK hP 0 rfl rfl 2 (by decide) (hw _ mA_55) (fun _ h9 => h9) rfl dX1_divideRest_140 ?_
          refine lv_iload hx hb dX1_divideRest_143 (lv_at hl 7 rfl) ?_
          refine ix_iald (k := i) hx hb hK hP 2 0 rfl rfl (by omega) (by omega) (by decide) dX1_divideRest_145 ?_
          refine lv_iload_n hx hb dX1_divideRest_146 rfl (lv_at hl 2 rfl) ?_
          refine ix_imul hx hb dX1_divideRest_147 ?_
          refine ix_isub hx hb dX1_divideRest_148 ?_
          refine ix_iast (k := i - 1) (x := ((iu (iu D i (Int.tdiv (D i) hi)) (i - sz) (((iu D i (Int.tdiv (D i) hi)) (i - sz)) - (((iu D i (Int.tdiv (D i) hi)) i) * k))) (i - 1)) - (((iu (iu D i (Int.tdiv (D i) hi)) (i - sz) (((iu D i (Int.tdiv (D i) hi)) (i - sz)) - (((iu D i (Int.tdiv (D i) hi)) i) * k))) i) * b)) hx hb hK hP hD hS 2 0 rfl rfl (by omega) (by omega) (by decide) dX1_divideRest_149 (fun H locs hP hD hS => ?_)
          have hP : va_P (dC, dI) vwCl [(h, .inr (1, [.ref n, .ref r, .ref d, .ref f, .int (iI fc), .int (iI cn), .int (iI sp)])), (r, .inl (cI, 5, .inl (aI R))), (d, .inl (cI, 5, .inl (aI (iu (iu (iu D i (Int.tdiv (D i) hi)) (i - sz) (((iu D i (Int.tdiv (D i) hi)) (i - sz)) - (((iu D i (Int.tdiv (D i) hi)) i) * k))) (i - 1) (((iu (iu D i (Int.tdiv (D i) hi)) (i - sz) (((iu D i (Int.tdiv (D i) hi)) (i - sz)) - (((iu D i (Int.tdiv (D i) hi)) i) * k))) (i - 1)) - (((iu (iu D i (Int.tdiv (D i) hi)) (i - sz) (((iu D i (Int.tdiv (D i) hi)) (i - sz)) - (((iu D i (Int.tdiv (D i) hi)) i) * k))) i) * b))))))] H := hP
          have hD : va_D A [(h, .inr (1, [.ref n, .ref r, .ref d, .ref f, .int (iI fc), .int (iI cn), .int (iI sp)])), (r, .inl (cI, 5, .inl (aI R))), (d, .inl (cI, 5, .inl (aI (iu (iu (iu D i (Int.tdiv (D i) hi)) (i - sz) (((iu D i (Int.tdiv (D i) hi)) (i - sz)) - (((iu D i (Int.tdiv (D i) hi)) i) * k))) (i - 1) (((iu (iu D i (Int.tdiv (D i) hi)) (i - sz) (((iu D i (Int.tdiv (D i) hi)) (i - sz)) - (((iu D i (Int.tdiv (D i) hi)) i) * k))) (i - 1)) - (((iu (iu D i (Int.tdiv (D i) hi)) (i - sz) (((iu D i (Int.tdiv (D i) hi)) (i - sz)) - (((iu D i (Int.tdiv (D i) hi)) i) * k))) i) * b))))))] := hD
          refine ix_iinc (k := 7) (lv2 := [(7, .int (iI (i + (-1)))), (0, .ref h), (1, .int (iI a)), (2, .int (iI b)), (3, .int (iI k)), (4, .int (iI sz)), (5, .int (iI hi)), (6, .int (iI dg))]) hx hb dX1_divideRest_150 hl rfl (by decide) rfl (fun ls hl => ?_)
          refine lv_goto (tgt := 67) hx hb dX1_divideRest_153 (by decide) ?_
          have hN := hI.next hi1 hm (iu (iu (iu D i (Int.tdiv (D i) hi)) (i - sz) (((iu D i (Int.tdiv (D i) hi)) (i - sz)) - (((iu D i (Int.tdiv (D i) hi)) i) * k))) (i - 1) (((iu (iu D i (Int.tdiv (D i) hi)) (i - sz) (((iu D i (Int.tdiv (D i) hi)) (i - sz)) - (((iu D i (Int.tdiv (D i) hi)) i) * k))) (i - 1)) - (((iu (iu D i (Int.tdiv (D i) hi)) (i - sz) (((iu D i (Int.tdiv (D i) hi)) (i - sz)) - (((iu D i (Int.tdiv (D i) hi)) i) * k))) i) * b))) (by unfold iu; grind) (by unfold iu; grind) (by intro _; unfold iu; grind) (by intro j _ _ _; unfold iu; grind)
          exact ih (i - 1) (iu (iu (iu D i (Int.tdiv (D i) hi)) (i - sz) (((iu D i (Int.tdiv (D i) hi)) (i - sz)) - (((iu D i (Int.tdiv (D i) hi)) i) * k))) (i - 1) (((iu (iu D i (Int.tdiv (D i) hi)) (i - sz) (((iu D i (Int.tdiv (D i) hi)) (i - sz)) - (((iu D i (Int.tdiv (D i) hi)) i) * k))) (i - 1)) - (((iu (iu D i (Int.tdiv (D i) hi)) (i - sz) (((iu D i (Int.tdiv (D i) hi)) (i - sz)) - (((iu D i (Int.tdiv (D i) hi)) i) * k))) i) * b))) (iu G (i - sz) ((D i).tdiv hi)) hN (by omega) _ _ hK hP hD hS ls (lv_sub hl [1, 2, 3, 4, 5, 6, 7, 0] rfl)
      · refine ix_iconst (n := 0) hx hb dX1_divideRest_87 ?_
        have hP9 := hP.sub (ws' := [(h, .inr (1, [.ref n, .ref r, .ref d, .ref f, .int (iI fc), .int (iI cn), .int (iI sp)])), (r, .inl (cI, 5, .inl (aI R))), (d, .inl (cI, 5, .inl (aI D)))]) [0, 1, 2] rfl
        have hD9 := hD.sub (ws' := [(h, .inr (1, [.ref n, .ref r, .ref d, .ref f, .int (iI fc), .int (iI cn), .int (iI sp)])), (r, .inl (cI, 5, .inl (aI R))), (d, .inl (cI, 5, .inl (aI D)))]) [0, 1, 2] (by decide) rfl
        have hK9 := hK.sub (tys' := [(cI, .int)]) [0] rfl
        exact W.zret (v := iI 0) hx hb hr (by decide) (fun t ht hW => ⟨⟨iI 0, (R, D), rfl, ⟨hI.2.2.2.2.1, Or.inr ⟨rfl, rfl, hI.no c5⟩⟩, by rw [ht]; exact hP9, va_K.moved hW.alike hK9, hD9⟩, hS.F ht⟩) hS.2.2 dX1_divideRest_88
set_option maxHeartbeats 4000000 in
set_option maxRecDepth 100000 in
/-- the rest divided, if it goes up -/
theorem kX1_divideRest (l : Launch) (dC : Nat → ClassId) (dI : Nat → Nat → Nat) (sz : Nat) (h n r d f : Nat) (cI : ClassId) (fc cn sp : Int) (R D : Int → Int) (a b k K : Int) (L : Int → Int) (hR : n5 R) (hD5 : n5 D) (hR0 : 0 ≤ f_deg R) (hB : ∀ j, -(L (f_deg R)) ≤ R j ∧ R j ≤ L (f_deg R)) (hLr : L (f_deg R) ≤ 2147483647) (hab : 0 ≤ a ∧ a ≤ 2147483647 ∧ (a = 0 → 1 ≤ b)) (hK0 : 0 ≤ K ∧ K ≤ 2147483647) (hKb : -K ≤ b ∧ b ≤ K) (hKk : -K ≤ k ∧ k ≤ K) (hL : ∀ i, 1 ≤ i → i ≤ 4 → 0 ≤ L i ∧ L i * (1 + K) ≤ L (i - 1)) (hL2 : ∀ i, 0 ≤ i → i ≤ 4 → L i ≤ 2147483647) : Met l yX1_divideRest (.code yX1_divideRest cX1_divideRest 8 (some .boolean) :: wsA) ({ frames := 1, cells := 0, slots := 0, locals := 60 }) (va_Pc [.ref h, .int (iI a), .int (iI b), .int (iI k)] (fun U => U.heap.size = sz ∧ va_P (dC, dI) vwCl [(h, .inr (1, [.ref n, .ref r, .ref d, .ref f, .int (iI fc), .int (iI cn), .int (iI sp)])), (r, .inl (cI, 5, .inl (aI R))), (d, .inl (cI, 5, .inl (aI D)))] U.heap ∧ va_K (dC, dI) vwCl [(cI, .int)] U ∧ va_D (fun _ => True) [(h, .inr (1, [.ref n, .ref r, .ref d, .ref f, .int (iI fc), .int (iI cn), .int (iI sp)])), (r, .inl (cI, 5, .inl (aI R))), (d, .inl (cI, 5, .inl (aI D)))] ∧ nb U)) (va_Qi (fun (r9 : Int32) (u : (Int → Int) × (Int → Int)) => n5 u.2 ∧ ((r9 = iI 1 ∧ n5 u.1 ∧ dvs a b k R u.1) ∨ (r9 = iI 0 ∧ u.1 = R ∧ ¬ ∃ Q, n5 Q ∧ dvs a b k R Q))) (fun (u : (Int → Int) × (Int → Int)) t9 => va_P (dC, dI) vwCl [(h, .inr (1, [.ref n, .ref r, .ref d, .ref f, .int (iI fc), .int (iI cn), .int (iI sp)])), (r, .inl (cI, 5, .inl (aI u.1))), (d, .inl (cI, 5, .inl (aI u.2)))] t9.heap ∧ va_K (dC, dI) vwCl [(cI, .int)] t9 ∧ va_D (va_A [(h, .inr (1, [.ref n, .ref r, .ref d, .ref f, .int (iI fc), .int (iI cn), .int (iI sp)])), (r, .inl (cI, 5, .inl (aI R))), (d, .inl (cI, 5, .inl (aI D)))] sz) [(h, .inr (1, [.ref n, .ref r, .ref d, .ref f, .int (iI fc), .int (iI cn), .int (iI sp)])), (r, .inl (cI, 5, .inl (aI u.1))), (d, .inl (cI, 5, .inl (aI u.2)))]) (va_A [(h, .inr (1, [.ref n, .ref r, .ref d, .ref f, .int (iI fc), .int (iI cn), .int (iI sp)])), (r, .inl (cI, 5, .inl (aI R))), (d, .inl (cI, 5, .inl (aI D)))] sz)) 0 0 (va_A [(h, .inr (1, [.ref n, .ref r, .ref d, .ref f, .int (iI fc), .int (iI cn), .int (iI sp)])), (r, .inl (cI, 5, .inl (aI R))), (d, .inl (cI, 5, .inl (aI D)))] sz) := by
  refine Met.ofW (cc := cX1_divideRest) (maxL := 8) (ret := (some .boolean)) (by decide) rfl ?_
  intro p e s m args below meth c s₁ B hml hv
  obtain ⟨rfl, hsz, hP, hK, hD0, hnb⟩ := hv
  have hx := B.exec
  have hb := B.bytes
  have hr := B.returns
  have hts := atoms_spec (ws := .code yX1_divideRest cX1_divideRest 8 (some .boolean) :: wsA) B.pre
  have hw : ∀ w ∈ wsA, w.before _ s = true := fun w h => hts w (List.mem_cons_of_mem _ h)
  have hown : s.vm.findClass RX1 = some m.cls := findClass_of_methodNamed B.named
  have hlocks := B.notSynchronized
  subst hsz
  have hD := hD0.self (sz := s.heap.size)
  generalize hAe : va_A [(h, .inr (1, [.ref n, .ref r, .ref d, .ref f, .int (iI fc), .int (iI cn), .int (iI sp)])), (r, .inl (cI, 5, .inl (aI R))), (d, .inl (cI, 5, .inl (aI D)))] s.heap.size = A at hD ⊢
  have hA : ∀ q : Nat, s.heap.size ≤ q → A q := fun q h => by rw [← hAe]; exact Or.inr h
  have hS : va_S A s.heap s.heap [] := va_S.rf
  have hP : va_P (dC, dI) vwCl [(h, .inr (1, [.ref n, .ref r, .ref d, .ref f, .int (iI fc), .int (iI cn), .int (iI sp)])), (r, .inl (cI, 5, .inl (aI R))), (d, .inl (cI, 5, .inl (aI D)))] s.heap := hP
  have hl := lv_entry ([.ref h, .int (iI a), .int (iI b), .int (iI k)]) (n := 8) (Nat.le_of_ble_eq_true rfl)
  rw [lg_entry_eq]
  generalize (lg_sl ([.ref h, .int (iI a), .int (iI b), .int (iI k)]) ++ List.replicate (8 - (lg_sl ([.ref h, .int (iI a), .int (iI b), .int (iI k)])).length) Slot.unset).toArray = ls at hl ⊢
  have hl : lv_has ls 8 [(0, .ref h), (1, .int (iI a)), (2, .int (iI b)), (3, .int (iI k))] := hl
  refine lv_iload_n hx hb dX1_divideRest_0 rfl (lv_at hl 1 rfl) ?_
  refine ix_if_ne (tgt := 8) hx hb dX1_divideRest_1 (by decide) (by omega) (fun c1 => ?_) (fun c1 => ?_)
  · refine ix_iconst (n := 2) hx hb dX1_divideRest_8 ?_
    refine lv_istore (lv' := [(4, .int (iI 2)), (0, .ref h), (1, .int (iI a)), (2, .int (iI b)), (3, .int (iI k))]) hx hb dX1_divideRest_9 hl (by decide) rfl (fun ls hl => ?_)
    refine lv_iload_n hx hb dX1_divideRest_11 rfl (lv_at hl 2 rfl) ?_
    refine ix_if_ne (tgt := 19) hx hb dX1_divideRest_12 (by decide) (by omega) (fun c2 => ?_) (fun c2 => ?_)
    · refine lv_iload_n hx hb dX1_divideRest_19 rfl (lv_at hl 2 rfl) ?_
      refine lv_istore (lv' := [(5, .int (iI a)), (4, .int (iI 2)), (0, .ref h), (1, .int (iI a)), (2, .int (iI b)), (3, .int (iI k))]) hx hb dX1_divideRest_20 hl (by decide) rfl (fun ls hl => ?_)
      refine lv_aload_n hx hb dX1_divideRest_22 rfl (lv_at hl 2 rfl) ?_
      refine va_get (D := (dC, dI)) (ci := 1) (v := .ref r) (C := RX1) (T := TX1) (N := 7) hx hb hw inX1 hown hK hP 0 rfl rfl 1 (by decide) (hw _ mA_54) (fun _ h9 => h9) rfl dX1_divideRest_23 ?_
      have hPc := hP.sub (ws' := [(r, .inl (cI, 5, .inl (aI R)))]) [1] rfl
      have hKc := hK.sub (tys' := [(cI, .int)]) [0] rfl
      refine vp_callSi (W.runS (As := [.ref r]) (rest := []) ⟨hx, hb, hml, hown, hw⟩ (kX1_degreeOf l dC dI r cI R (fun j => ⟨by have := (hB j).1; omega, by have := (hB j).2; omega⟩)) (cwS 1 hw (gS mA_193 mA_194 mA_1 mA_195) rfl rfl rfl (by decide +kernel) ⟨Nat.le_of_ble_eq_true rfl, Nat.le_of_ble_eq_true rfl⟩) ⟨fun a U g mk q => by obtain ⟨q0, qP, qK⟩ := q; exact ⟨q0, qP, va_K.moved (u := U) (U := U.calling g mk a) (Vm.Alike.refl U.vm) qK⟩, fun U hU hW => ⟨rfl, by rw [hU]; exact hPc, va_K.moved hW.alike hKc⟩⟩ rfl rfl hl.1 rfl (lv_room (Nat.le_of_ble_eq_true rfl)) dX1_divideRest_26 ⟨Nat.le_of_ble_eq_true rfl, Nat.le_of_ble_eq_true rfl⟩) (fun r3 h4 => ?_)
      subst h4
      have hdc := deg_c R
      refine lv_istore (lv' := [(6, .int (iI (f_deg R))), (5, .int (iI a)), (4, .int (iI 2)), (0, .ref h), (1, .int (iI a)), (2, .int (iI b)), (3, .int (iI k))]) hx hb dX1_divideRest_29 hl (by decide) rfl (fun ls hl => ?_)
      refine lv_iload hx hb dX1_divideRest_31 (lv_at hl 1 rfl) ?_
      refine ix_if_eq (tgt := 43) hx hb dX1_divideRest_33 (by decide) (by omega) (fun c5 => ?_) (fun c5 => ?_)
      · refine ix_iconst (n := 0) hx hb dX1_divideRest_43 ?_
        have hno : ¬ ∃ Q, n5 Q ∧ dvs a b k R Q := by
          rintro ⟨Q, hQ, hd⟩
          have hz : ∀ j, R j = a * (fun _ => 0) (j - 2) + b * (fun _ => 0) (j - 1) + k * (fun _ => (0 : Int)) j + (if j ≤ f_deg R then R j else 0) := by
            intro j
            by_cases q : j ≤ f_deg R
            · rw [if_pos q]; simp
            · rw [if_neg q]; by_cases q2 : j ≤ 4; rw [hdc.2.2.1 j (by omega) q2]; simp; rw [hR j (by omega)]; simp
          have e1 := dv_must (sz := 2) (hi := a) (by omega) (by omega) hz (fun _ _ => rfl) hQ hd
          rw [hQ _ (by omega)] at e1
          exact hdc.2.2.2 hR0 (by rw [← e1]; simp)
        have hP9 := hP.sub (ws' := [(h, .inr (1, [.ref n, .ref r, .ref d, .ref f, .int (iI fc), .int (iI cn), .int (iI sp)])), (r, .inl (cI, 5, .inl (aI R))), (d, .inl (cI, 5, .inl (aI D)))]) [0, 1, 2] rfl
        have hD9 := hD.sub (ws' := [(h, .inr (1, [.ref n, .ref r, .ref d, .ref f, .int (iI fc), .int (iI cn), .int (iI sp)])), (r, .inl (cI, 5, .inl (aI R))), (d, .inl (cI, 5, .inl (aI D)))]) [0, 1, 2] (by decide) rfl
        have hK9 := hK.sub (tys' := [(cI, .int)]) [0] rfl
        exact W.zret (v := iI 0) hx hb hr (by decide) (fun t ht hW => ⟨⟨iI 0, (R, D), rfl, ⟨hD5, Or.inr ⟨rfl, rfl, hno⟩⟩, by rw [ht]; exact hP9, va_K.moved hW.alike hK9, hD9⟩, hS.F ht⟩) hS.2.2 dX1_divideRest_44
      · refine lv_iload hx hb dX1_divideRest_36 (lv_at hl 0 rfl) ?_
        refine lv_iload hx hb dX1_divideRest_38 (lv_at hl 2 rfl) ?_
        refine ix_icmp_ge (tgt := 45) hx hb dX1_divideRest_40 (by decide) (by omega) (by decide) (fun c6 => ?_) (fun c6 => ?_)
        · refine lv_aload_n hx hb dX1_divideRest_45 rfl (lv_at hl 3 rfl) ?_
          refine va_get (D := (dC, dI)) (ci := 1) (v := .ref r) (C := RX1) (T := TX1) (N := 7) hx hb hw inX1 hown hK hP 0 rfl rfl 1 (by decide) (hw _ mA_54) (fun _ h9 => h9) rfl dX1_divideRest_46 ?_
          refine ix_iconst (n := 0) hx hb dX1_divideRest_49 ?_
          refine lv_aload_n hx hb dX1_divideRest_50 rfl (lv_at hl 3 rfl) ?_
          refine va_get (D := (dC, dI)) (ci := 1) (v := .ref d) (C := RX1) (T := TX1) (N := 7) hx hb hw inX1 hown hK hP 0 rfl rfl 2 (by decide) (hw _ mA_55) (fun _ h9 => h9) rfl dX1_divideRest_51 ?_
          refine ix_iconst (n := 0) hx hb dX1_divideRest_54 ?_
          refine lv_aload_n hx hb dX1_divideRest_55 rfl (lv_at hl 3 rfl) ?_
          refine va_get (D := (dC, dI)) (ci := 1) (v := .ref d) (C := RX1) (T := TX1) (N := 7) hx hb hw inX1 hown hK hP 0 rfl rfl 2 (by decide) (hw _ mA_55) (fun _ h9 => h9) rfl dX1_divideRest_56 ?_
          refine va_alen (v := iI 5) hx hb hK hP 2 0 rfl rfl rfl dX1_divideRest_59 ?_
          refine ix_copy5 hx hb (by rw [hml]; exact hl.1.symm) hown (hw _ mA_200) (hw _ mA_202) (hw _ mA_201) (hw _ mA_9) hK hP hD hS 1 2 0 rfl rfl rfl hR hD5 (Nat.le_of_ble_eq_true rfl) (by decide) dX1_divideRest_60 (fun H locs hP hD hS => ?_)
          have hP : va_P (dC, dI) vwCl [(h, .inr (1, [.ref n, .ref r, .ref d, .ref f, .int (iI fc), .int (iI cn), .int (iI sp)])), (r, .inl (cI, 5, .inl (aI R))), (d, .inl (cI, 5, .inl (aI R)))] H := hP
          have hD : va_D A [(h, .inr (1, [.ref n, .ref r, .ref d, .ref f, .int (iI fc), .int (iI cn), .int (iI sp)])), (r, .inl (cI, 5, .inl (aI R))), (d, .inl (cI, 5, .inl (aI R)))] := hD
          refine lv_iload hx hb dX1_divideRest_63 (lv_at hl 0 rfl) ?_
          refine lv_istore (lv' := [(7, .int (iI (f_deg R))), (6, .int (iI (f_deg R))), (5, .int (iI a)), (4, .int (iI 2)), (0, .ref h), (1, .int (iI a)), (2, .int (iI b)), (3, .int (iI k))]) hx hb dX1_divideRest_65 hl (by decide) rfl (fun ls hl => ?_)
          refine lp_divideRest1 (a := a) (b := b) (k := k) (sz := 2) (hi := a) (dg := f_deg R) (K := K) (L := L) (R := R) ⟨hx, hb, hr, hml, hown, hw, hlocks⟩ _ (f_deg R) R (fun _ => 0) ?_ (Nat.lt_succ_self _) _ _ hK hP hD hS ls (lv_sub hl [4, 5, 6, 7, 3, 2, 1, 0] rfl)
          refine ⟨⟨by omega, by omega, ⟨by omega, by omega⟩, by omega, hdc.2.1, hK0.1, hKb, hKk, hL, hL2, hR⟩, ⟨by omega, by omega⟩, ?_, fun _ _ => rfl, hR, fun x x1 x2 _ => by omega, fun _ _ => rfl, hB⟩
          intro j
          by_cases q : j ≤ f_deg R
          · rw [if_pos q]; simp
          · rw [if_neg q]; by_cases q2 : j ≤ 4; rw [hdc.2.2.1 j (by omega) q2]; simp; rw [hR j (by omega)]; simp
        · refine ix_iconst (n := 0) hx hb dX1_divideRest_43 ?_
          have hno : ¬ ∃ Q, n5 Q ∧ dvs a b k R Q := by
            rintro ⟨Q, hQ, hd⟩
            have hz : ∀ j, R j = a * (fun _ => 0) (j - 2) + b * (fun _ => 0) (j - 1) + k * (fun _ => (0 : Int)) j + (if j ≤ f_deg R then R j else 0) := by
              intro j
              by_cases q : j ≤ f_deg R
              · rw [if_pos q]; simp
              · rw [if_neg q]; by_cases q2 : j ≤ 4; rw [hdc.2.2.1 j (by omega) q2]; simp; rw [hR j (by omega)]; simp
            have e1 := dv_must (sz := 2) (hi := a) (by omega) (by omega) hz (fun _ _ => rfl) hQ hd
            rw [hQ _ (by omega)] at e1
            exact hdc.2.2.2 hR0 (by rw [← e1]; simp)
          have hP9 := hP.sub (ws' := [(h, .inr (1, [.ref n, .ref r, .ref d, .ref f, .int (iI fc), .int (iI cn), .int (iI sp)])), (r, .inl (cI, 5, .inl (aI R))), (d, .inl (cI, 5, .inl (aI D)))]) [0, 1, 2] rfl
          have hD9 := hD.sub (ws' := [(h, .inr (1, [.ref n, .ref r, .ref d, .ref f, .int (iI fc), .int (iI cn), .int (iI sp)])), (r, .inl (cI, 5, .inl (aI R))), (d, .inl (cI, 5, .inl (aI D)))]) [0, 1, 2] (by decide) rfl
          have hK9 := hK.sub (tys' := [(cI, .int)]) [0] rfl
          exact W.zret (v := iI 0) hx hb hr (by decide) (fun t ht hW => ⟨⟨iI 0, (R, D), rfl, ⟨hD5, Or.inr ⟨rfl, rfl, hno⟩⟩, by rw [ht]; exact hP9, va_K.moved hW.alike hK9, hD9⟩, hS.F ht⟩) hS.2.2 dX1_divideRest_44
    · refine lv_iload_n hx hb dX1_divideRest_15 rfl (lv_at hl 3 rfl) ?_
      refine lv_goto (tgt := 20) hx hb dX1_divideRest_16 (by decide) ?_
      refine lv_istore (lv' := [(5, .int (iI b)), (4, .int (iI 2)), (0, .ref h), (1, .int (iI a)), (2, .int (iI b)), (3, .int (iI k))]) hx hb dX1_divideRest_20 hl (by decide) rfl (fun ls hl => ?_)
      refine lv_aload_n hx hb dX1_divideRest_22 rfl (lv_at hl 2 rfl) ?_
      refine va_get (D := (dC, dI)) (ci := 1) (v := .ref r) (C := RX1) (T := TX1) (N := 7) hx hb hw inX1 hown hK hP 0 rfl rfl 1 (by decide) (hw _ mA_54) (fun _ h9 => h9) rfl dX1_divideRest_23 ?_
      have hPc := hP.sub (ws' := [(r, .inl (cI, 5, .inl (aI R)))]) [1] rfl
      have hKc := hK.sub (tys' := [(cI, .int)]) [0] rfl
      refine vp_callSi (W.runS (As := [.ref r]) (rest := []) ⟨hx, hb, hml, hown, hw⟩ (kX1_degreeOf l dC dI r cI R (fun j => ⟨by have := (hB j).1; omega, by have := (hB j).2; omega⟩)) (cwS 1 hw (gS mA_193 mA_194 mA_1 mA_195) rfl rfl rfl (by decide +kernel) ⟨Nat.le_of_ble_eq_true rfl, Nat.le_of_ble_eq_true rfl⟩) ⟨fun a U g mk q => by obtain ⟨q0, qP, qK⟩ := q; exact ⟨q0, qP, va_K.moved (u := U) (U := U.calling g mk a) (Vm.Alike.refl U.vm) qK⟩, fun U hU hW => ⟨rfl, by rw [hU]; exact hPc, va_K.moved hW.alike hKc⟩⟩ rfl rfl hl.1 rfl (lv_room (Nat.le_of_ble_eq_true rfl)) dX1_divideRest_26 ⟨Nat.le_of_ble_eq_true rfl, Nat.le_of_ble_eq_true rfl⟩) (fun r7 h8 => ?_)
      subst h8
      have hdc := deg_c R
      refine lv_istore (lv' := [(6, .int (iI (f_deg R))), (5, .int (iI b)), (4, .int (iI 2)), (0, .ref h), (1, .int (iI a)), (2, .int (iI b)), (3, .int (iI k))]) hx hb dX1_divideRest_29 hl (by decide) rfl (fun ls hl => ?_)
      refine lv_iload hx hb dX1_divideRest_31 (lv_at hl 1 rfl) ?_
      refine ix_if_eq (tgt := 43) hx hb dX1_divideRest_33 (by decide) (by omega) (fun c9 => ?_) (fun c9 => ?_)
      · refine ix_iconst (n := 0) hx hb dX1_divideRest_43 ?_
        have hno : ¬ ∃ Q, n5 Q ∧ dvs a b k R Q := by
          rintro ⟨Q, hQ, hd⟩
          have hz : ∀ j, R j = a * (fun _ => 0) (j - 2) + b * (fun _ => 0) (j - 1) + k * (fun _ => (0 : Int)) j + (if j ≤ f_deg R then R j else 0) := by
            intro j
            by_cases q : j ≤ f_deg R
            · rw [if_pos q]; simp
            · rw [if_neg q]; by_cases q2 : j ≤ 4; rw [hdc.2.2.1 j (by omega) q2]; simp; rw [hR j (by omega)]; simp
          have e1 := dv_must (sz := 2) (hi := b) (by omega) (by omega) hz (fun _ _ => rfl) hQ hd
          rw [hQ _ (by omega)] at e1
          exact hdc.2.2.2 hR0 (by rw [← e1]; simp)
        have hP9 := hP.sub (ws' := [(h, .inr (1, [.ref n, .ref r, .ref d, .ref f, .int (iI fc), .int (iI cn), .int (iI sp)])), (r, .inl (cI, 5, .inl (aI R))), (d, .inl (cI, 5, .inl (aI D)))]) [0, 1, 2] rfl
        have hD9 := hD.sub (ws' := [(h, .inr (1, [.ref n, .ref r, .ref d, .ref f, .int (iI fc), .int (iI cn), .int (iI sp)])), (r, .inl (cI, 5, .inl (aI R))), (d, .inl (cI, 5, .inl (aI D)))]) [0, 1, 2] (by decide) rfl
        have hK9 := hK.sub (tys' := [(cI, .int)]) [0] rfl
        exact W.zret (v := iI 0) hx hb hr (by decide) (fun t ht hW => ⟨⟨iI 0, (R, D), rfl, ⟨hD5, Or.inr ⟨rfl, rfl, hno⟩⟩, by rw [ht]; exact hP9, va_K.moved hW.alike hK9, hD9⟩, hS.F ht⟩) hS.2.2 dX1_divideRest_44
      · refine lv_iload hx hb dX1_divideRest_36 (lv_at hl 0 rfl) ?_
        refine lv_iload hx hb dX1_divideRest_38 (lv_at hl 2 rfl) ?_
        refine ix_icmp_ge (tgt := 45) hx hb dX1_divideRest_40 (by decide) (by omega) (by decide) (fun c10 => ?_) (fun c10 => ?_)
        · refine lv_aload_n hx hb dX1_divideRest_45 rfl (lv_at hl 3 rfl) ?_
          refine va_get (D := (dC, dI)) (ci := 1) (v := .ref r) (C := RX1) (T := TX1) (N := 7) hx hb hw inX1 hown hK hP 0 rfl rfl 1 (by decide) (hw _ mA_54) (fun _ h9 => h9) rfl dX1_divideRest_46 ?_
          refine ix_iconst (n := 0) hx hb dX1_divideRest_49 ?_
          refine lv_aload_n hx hb dX1_divideRest_50 rfl (lv_at hl 3 rfl) ?_
          refine va_get (D := (dC, dI)) (ci := 1) (v := .ref d) (C := RX1) (T := TX1) (N := 7) hx hb hw inX1 hown hK hP 0 rfl rfl 2 (by decide) (hw _ mA_55) (fun _ h9 => h9) rfl dX1_divideRest_51 ?_
          refine ix_iconst (n := 0) hx hb dX1_divideRest_54 ?_
          refine lv_aload_n hx hb dX1_divideRest_55 rfl (lv_at hl 3 rfl) ?_
          refine va_get (D := (dC, dI)) (ci := 1) (v := .ref d) (C := RX1) (T := TX1) (N := 7) hx hb hw inX1 hown hK hP 0 rfl rfl 2 (by decide) (hw _ mA_55) (fun _ h9 => h9) rfl dX1_divideRest_56 ?_
          refine va_alen (v := iI 5) hx hb hK hP 2 0 rfl rfl rfl dX1_divideRest_59 ?_
          refine ix_copy5 hx hb (by rw [hml]; exact hl.1.symm) hown (hw _ mA_200) (hw _ mA_202) (hw _ mA_201) (hw _ mA_9) hK hP hD hS 1 2 0 rfl rfl rfl hR hD5 (Nat.le_of_ble_eq_true rfl) (by decide) dX1_divideRest_60 (fun H locs hP hD hS => ?_)
          have hP : va_P (dC, dI) vwCl [(h, .inr (1, [.ref n, .ref r, .ref d, .ref f, .int (iI fc), .int (iI cn), .int (iI sp)])), (r, .inl (cI, 5, .inl (aI R))), (d, .inl (cI, 5, .inl (aI R)))] H := hP
          have hD : va_D A [(h, .inr (1, [.ref n, .ref r, .ref d, .ref f, .int (iI fc), .int (iI cn), .int (iI sp)])), (r, .inl (cI, 5, .inl (aI R))), (d, .inl (cI, 5, .inl (aI R)))] := hD
          refine lv_iload hx hb dX1_divideRest_63 (lv_at hl 0 rfl) ?_
          refine lv_istore (lv' := [(7, .int (iI (f_deg R))), (6, .int (iI (f_deg R))), (5, .int (iI b)), (4, .int (iI 2)), (0, .ref h), (1, .int (iI a)), (2, .int (iI b)), (3, .int (iI k))]) hx hb dX1_divideRest_65 hl (by decide) rfl (fun ls hl => ?_)
          refine lp_divideRest1 (a := a) (b := b) (k := k) (sz := 2) (hi := b) (dg := f_deg R) (K := K) (L := L) (R := R) ⟨hx, hb, hr, hml, hown, hw, hlocks⟩ _ (f_deg R) R (fun _ => 0) ?_ (Nat.lt_succ_self _) _ _ hK hP hD hS ls (lv_sub hl [4, 5, 6, 7, 3, 2, 1, 0] rfl)
          refine ⟨⟨by omega, by omega, ⟨by omega, by omega⟩, by omega, hdc.2.1, hK0.1, hKb, hKk, hL, hL2, hR⟩, ⟨by omega, by omega⟩, ?_, fun _ _ => rfl, hR, fun x x1 x2 _ => by omega, fun _ _ => rfl, hB⟩
          intro j
          by_cases q : j ≤ f_deg R
          · rw [if_pos q]; simp
          · rw [if_neg q]; by_cases q2 : j ≤ 4; rw [hdc.2.2.1 j (by omega) q2]; simp; rw [hR j (by omega)]; simp
        · refine ix_iconst (n := 0) hx hb dX1_divideRest_43 ?_
          have hno : ¬ ∃ Q, n5 Q ∧ dvs a b k R Q := by
            rintro ⟨Q, hQ, hd⟩
            have hz : ∀ j, R j = a * (fun _ => 0) (j - 2) + b * (fun _ => 0) (j - 1) + k * (fun _ => (0 : Int)) j + (if j ≤ f_deg R then R j else 0) := by
              intro j
              by_cases q : j ≤ f_deg R
              · rw [if_pos q]; simp
              · rw [if_neg q]; by_cases q2 : j ≤ 4; rw [hdc.2.2.1 j (by omega) q2]; simp; rw [hR j (by omega)]; simp
            have e1 := dv_must (sz := 2) (hi := b) (by omega) (by omega) hz (fun _ _ => rfl) hQ hd
            rw [hQ _ (by omega)] at e1
            exact hdc.2.2.2 hR0 (by rw [← e1]; simp)
          have hP9 := hP.sub (ws' := [(h, .inr (1, [.ref n, .ref r, .ref d, .ref f, .int (iI fc), .int (iI cn), .int (iI sp)])), (r, .inl (cI, 5, .inl (aI R))), (d, .inl (cI, 5, .inl (aI D)))]) [0, 1, 2] rfl
          have hD9 := hD.sub (ws' := [(h, .inr (1, [.ref n, .ref r, .ref d, .ref f, .int (iI fc), .int (iI cn), .int (iI sp)])), (r, .inl (cI, 5, .inl (aI R))), (d, .inl (cI, 5, .inl (aI D)))]) [0, 1, 2] (by decide) rfl
          have hK9 := hK.sub (tys' := [(cI, .int)]) [0] rfl
          exact W.zret (v := iI 0) hx hb hr (by decide) (fun t ht hW => ⟨⟨iI 0, (R, D), rfl, ⟨hD5, Or.inr ⟨rfl, rfl, hno⟩⟩, by rw [ht]; exact hP9, va_K.moved hW.alike hK9, hD9⟩, hS.F ht⟩) hS.2.2 dX1_divideRest_44
  · refine ix_iconst (n := 1) hx hb dX1_divideRest_4 ?_
    refine lv_goto (tgt := 9) hx hb dX1_divideRest_5 (by decide) ?_
    refine lv_istore (lv' := [(4, .int (iI 1)), (0, .ref h), (1, .int (iI a)), (2, .int (iI b)), (3, .int (iI k))]) hx hb dX1_divideRest_9 hl (by decide) rfl (fun ls hl => ?_)
    refine lv_iload_n hx hb dX1_divideRest_11 rfl (lv_at hl 2 rfl) ?_
    refine ix_if_ne (tgt := 19) hx hb dX1_divideRest_12 (by decide) (by omega) (fun c11 => ?_) (fun c11 => ?_)
    · refine lv_iload_n hx hb dX1_divideRest_19 rfl (lv_at hl 2 rfl) ?_
      refine lv_istore (lv' := [(5, .int (iI a)), (4, .int (iI 1)), (0, .ref h), (1, .int (iI a)), (2, .int (iI b)), (3, .int (iI k))]) hx hb dX1_divideRest_20 hl (by decide) rfl (fun ls hl => ?_)
      refine lv_aload_n hx hb dX1_divideRest_22 rfl (lv_at hl 2 rfl) ?_
      refine va_get (D := (dC, dI)) (ci := 1) (v := .ref r) (C := RX1) (T := TX1) (N := 7) hx hb hw inX1 hown hK hP 0 rfl rfl 1 (by decide) (hw _ mA_54) (fun _ h9 => h9) rfl dX1_divideRest_23 ?_
      have hPc := hP.sub (ws' := [(r, .inl (cI, 5, .inl (aI R)))]) [1] rfl
      have hKc := hK.sub (tys' := [(cI, .int)]) [0] rfl
      refine vp_callSi (W.runS (As := [.ref r]) (rest := []) ⟨hx, hb, hml, hown, hw⟩ (kX1_degreeOf l dC dI r cI R (fun j => ⟨by have := (hB j).1; omega, by have := (hB j).2; omega⟩)) (cwS 1 hw (gS mA_193 mA_194 mA_1 mA_195) rfl rfl rfl (by decide +kernel) ⟨Nat.le_of_ble_eq_true rfl, Nat.le_of_ble_eq_true rfl⟩) ⟨fun a U g mk q => by obtain ⟨q0, qP, qK⟩ := q; exact ⟨q0, qP, va_K.moved (u := U) (U := U.calling g mk a) (Vm.Alike.refl U.vm) qK⟩, fun U hU hW => ⟨rfl, by rw [hU]; exact hPc, va_K.moved hW.alike hKc⟩⟩ rfl rfl hl.1 rfl (lv_room (Nat.le_of_ble_eq_true rfl)) dX1_divideRest_26 ⟨Nat.le_of_ble_eq_true rfl, Nat.le_of_ble_eq_true rfl⟩) (fun r12 h13 => ?_)
      subst h13
      have hdc := deg_c R
      refine lv_istore (lv' := [(6, .int (iI (f_deg R))), (5, .int (iI a)), (4, .int (iI 1)), (0, .ref h), (1, .int (iI a)), (2, .int (iI b)), (3, .int (iI k))]) hx hb dX1_divideRest_29 hl (by decide) rfl (fun ls hl => ?_)
      refine lv_iload hx hb dX1_divideRest_31 (lv_at hl 1 rfl) ?_
      refine ix_if_eq (tgt := 43) hx hb dX1_divideRest_33 (by decide) (by omega) (fun c14 => ?_) (fun c14 => ?_)
      · refine ix_iconst (n := 0) hx hb dX1_divideRest_43 ?_
        have hno : ¬ ∃ Q, n5 Q ∧ dvs a b k R Q := by
          rintro ⟨Q, hQ, hd⟩
          have hz : ∀ j, R j = a * (fun _ => 0) (j - 2) + b * (fun _ => 0) (j - 1) + k * (fun _ => (0 : Int)) j + (if j ≤ f_deg R then R j else 0) := by
            intro j
            by_cases q : j ≤ f_deg R
            · rw [if_pos q]; simp
            · rw [if_neg q]; by_cases q2 : j ≤ 4; rw [hdc.2.2.1 j (by omega) q2]; simp; rw [hR j (by omega)]; simp
          have e1 := dv_must (sz := 1) (hi := a) (by omega) (by omega) hz (fun _ _ => rfl) hQ hd
          rw [hQ _ (by omega)] at e1
          exact hdc.2.2.2 hR0 (by rw [← e1]; simp)
        have hP9 := hP.sub (ws' := [(h, .inr (1, [.ref n, .ref r, .ref d, .ref f, .int (iI fc), .int (iI cn), .int (iI sp)])), (r, .inl (cI, 5, .inl (aI R))), (d, .inl (cI, 5, .inl (aI D)))]) [0, 1, 2] rfl
        have hD9 := hD.sub (ws' := [(h, .inr (1, [.ref n, .ref r, .ref d, .ref f, .int (iI fc), .int (iI cn), .int (iI sp)])), (r, .inl (cI, 5, .inl (aI R))), (d, .inl (cI, 5, .inl (aI D)))]) [0, 1, 2] (by decide) rfl
        have hK9 := hK.sub (tys' := [(cI, .int)]) [0] rfl
        exact W.zret (v := iI 0) hx hb hr (by decide) (fun t ht hW => ⟨⟨iI 0, (R, D), rfl, ⟨hD5, Or.inr ⟨rfl, rfl, hno⟩⟩, by rw [ht]; exact hP9, va_K.moved hW.alike hK9, hD9⟩, hS.F ht⟩) hS.2.2 dX1_divideRest_44
      · refine lv_iload hx hb dX1_divideRest_36 (lv_at hl 0 rfl) ?_
        refine lv_iload hx hb dX1_divideRest_38 (lv_at hl 2 rfl) ?_
        refine ix_icmp_ge (tgt := 45) hx hb dX1_divideRest_40 (by decide) (by omega) (by decide) (fun c15 => ?_) (fun c15 => ?_)
        · refine lv_aload_n hx hb dX1_divideRest_45 rfl (lv_at hl 3 rfl) ?_
          refine va_get (D := (dC, dI)) (ci := 1) (v := .ref r) (C := RX1) (T := TX1) (N := 7) hx hb hw inX1 hown hK hP 0 rfl rfl 1 (by decide) (hw _ mA_54) (fun _ h9 => h9) rfl dX1_divideRest_46 ?_
          refine ix_iconst (n := 0) hx hb dX1_divideRest_49 ?_
          refine lv_aload_n hx hb dX1_divideRest_50 rfl (lv_at hl 3 rfl) ?_
          refine va_get (D := (dC, dI)) (ci := 1) (v := .ref d) (C := RX1) (T := TX1) (N := 7) hx hb hw inX1 hown hK hP 0 rfl rfl 2 (by decide) (hw _ mA_55) (fun _ h9 => h9) rfl dX1_divideRest_51 ?_
          refine ix_iconst (n := 0) hx hb dX1_divideRest_54 ?_
          refine lv_aload_n hx hb dX1_divideRest_55 rfl (lv_at hl 3 rfl) ?_
          refine va_get (D := (dC, dI)) (ci := 1) (v := .ref d) (C := RX1) (T := TX1) (N := 7) hx hb hw inX1 hown hK hP 0 rfl rfl 2 (by decide) (hw _ mA_55) (fun _ h9 => h9) rfl dX1_divideRest_56 ?_
          refine va_alen (v := iI 5) hx hb hK hP 2 0 rfl rfl rfl dX1_divideRest_59 ?_
          refine ix_copy5 hx hb (by rw [hml]; exact hl.1.symm) hown (hw _ mA_200) (hw _ mA_202) (hw _ mA_201) (hw _ mA_9) hK hP hD hS 1 2 0 rfl rfl rfl hR hD5 (Nat.le_of_ble_eq_true rfl) (by decide) dX1_divideRest_60 (fun H locs hP hD hS => ?_)
          have hP : va_P (dC, dI) vwCl [(h, .inr (1, [.ref n, .ref r, .ref d, .ref f, .int (iI fc), .int (iI cn), .int (iI sp)])), (r, .inl (cI, 5, .inl (aI R))), (d, .inl (cI, 5, .inl (aI R)))] H := hP
          have hD : va_D A [(h, .inr (1, [.ref n, .ref r, .ref d, .ref f, .int (iI fc), .int (iI cn), .int (iI sp)])), (r, .inl (cI, 5, .inl (aI R))), (d, .inl (cI, 5, .inl (aI R)))] := hD
          refine lv_iload hx hb dX1_divideRest_63 (lv_at hl 0 rfl) ?_
          refine lv_istore (lv' := [(7, .int (iI (f_deg R))), (6, .int (iI (f_deg R))), (5, .int (iI a)), (4, .int (iI 1)), (0, .ref h), (1, .int (iI a)), (2, .int (iI b)), (3, .int (iI k))]) hx hb dX1_divideRest_65 hl (by decide) rfl (fun ls hl => ?_)
          refine lp_divideRest1 (a := a) (b := b) (k := k) (sz := 1) (hi := a) (dg := f_deg R) (K := K) (L := L) (R := R) ⟨hx, hb, hr, hml, hown, hw, hlocks⟩ _ (f_deg R) R (fun _ => 0) ?_ (Nat.lt_succ_self _) _ _ hK hP hD hS ls (lv_sub hl [4, 5, 6, 7, 3, 2, 1, 0] rfl)
          refine ⟨⟨by omega, by omega, ⟨by omega, by omega⟩, by omega, hdc.2.1, hK0.1, hKb, hKk, hL, hL2, hR⟩, ⟨by omega, by omega⟩, ?_, fun _ _ => rfl, hR, fun x x1 x2 _ => by omega, fun _ _ => rfl, hB⟩
          intro j
          by_cases q : j ≤ f_deg R
          · rw [if_pos q]; simp
          · rw [if_neg q]; by_cases q2 : j ≤ 4; rw [hdc.2.2.1 j (by omega) q2]; simp; rw [hR j (by omega)]; simp
        · refine ix_iconst (n := 0) hx hb dX1_divideRest_43 ?_
          have hno : ¬ ∃ Q, n5 Q ∧ dvs a b k R Q := by
            rintro ⟨Q, hQ, hd⟩
            have hz : ∀ j, R j = a * (fun _ => 0) (j - 2) + b * (fun _ => 0) (j - 1) + k * (fun _ => (0 : Int)) j + (if j ≤ f_deg R then R j else 0) := by
              intro j
              by_cases q : j ≤ f_deg R
              · rw [if_pos q]; simp
              · rw [if_neg q]; by_cases q2 : j ≤ 4; rw [hdc.2.2.1 j (by omega) q2]; simp; rw [hR j (by omega)]; simp
            have e1 := dv_must (sz := 1) (hi := a) (by omega) (by omega) hz (fun _ _ => rfl) hQ hd
            rw [hQ _ (by omega)] at e1
            exact hdc.2.2.2 hR0 (by rw [← e1]; simp)
          have hP9 := hP.sub (ws' := [(h, .inr (1, [.ref n, .ref r, .ref d, .ref f, .int (iI fc), .int (iI cn), .int (iI sp)])), (r, .inl (cI, 5, .inl (aI R))), (d, .inl (cI, 5, .inl (aI D)))]) [0, 1, 2] rfl
          have hD9 := hD.sub (ws' := [(h, .inr (1, [.ref n, .ref r, .ref d, .ref f, .int (iI fc), .int (iI cn), .int (iI sp)])), (r, .inl (cI, 5, .inl (aI R))), (d, .inl (cI, 5, .inl (aI D)))]) [0, 1, 2] (by decide) rfl
          have hK9 := hK.sub (tys' := [(cI, .int)]) [0] rfl
          exact W.zret (v := iI 0) hx hb hr (by decide) (fun t ht hW => ⟨⟨iI 0, (R, D), rfl, ⟨hD5, Or.inr ⟨rfl, rfl, hno⟩⟩, by rw [ht]; exact hP9, va_K.moved hW.alike hK9, hD9⟩, hS.F ht⟩) hS.2.2 dX1_divideRest_44
    · refine lv_iload_n hx hb dX1_divideRest_15 rfl (lv_at hl 3 rfl) ?_
      refine lv_goto (tgt := 20) hx hb dX1_divideRest_16 (by decide) ?_
      refine lv_istore (lv' := [(5, .int (iI b)), (4, .int (iI 1)), (0, .ref h), (1, .int (iI a)), (2, .int (iI b)), (3, .int (iI k))]) hx hb dX1_divideRest_20 hl (by decide) rfl (fun ls hl => ?_)
      refine lv_aload_n hx hb dX1_divideRest_22 rfl (lv_at hl 2 rfl) ?_
      refine va_get (D := (dC, dI)) (ci := 1) (v := .ref r) (C := RX1) (T := TX1) (N := 7) hx hb hw inX1 hown hK hP 0 rfl rfl 1 (by decide) (hw _ mA_54) (fun _ h9 => h9) rfl dX1_divideRest_23 ?_
      have hPc := hP.sub (ws' := [(r, .inl (cI, 5, .inl (aI R)))]) [1] rfl
      have hKc := hK.sub (tys' := [(cI, .int)]) [0] rfl
      refine vp_callSi (W.runS (As := [.ref r]) (rest := []) ⟨hx, hb, hml, hown, hw⟩ (kX1_degreeOf l dC dI r cI R (fun j => ⟨by have := (hB j).1; omega, by have := (hB j).2; omega⟩)) (cwS 1 hw (gS mA_193 mA_194 mA_1 mA_195) rfl rfl rfl (by decide +kernel) ⟨Nat.le_of_ble_eq_true rfl, Nat.le_of_ble_eq_true rfl⟩) ⟨fun a U g mk q => by obtain ⟨q0, qP, qK⟩ := q; exact ⟨q0, qP, va_K.moved (u := U) (U := U.calling g mk a) (Vm.Alike.refl U.vm) qK⟩, fun U hU hW => ⟨rfl, by rw [hU]; exact hPc, va_K.moved hW.alike hKc⟩⟩ rfl rfl hl.1 rfl (lv_room (Nat.le_of_ble_eq_true rfl)) dX1_divideRest_26 ⟨Nat.le_of_ble_eq_true rfl, Nat.le_of_ble_eq_true rfl⟩) (fun r16 h17 => ?_)
      subst h17
      have hdc := deg_c R
      refine lv_istore (lv' := [(6, .int (iI (f_deg R))), (5, .int (iI b)), (4, .int (iI 1)), (0, .ref h), (1, .int (iI a)), (2, .int (iI b)), (3, .int (iI k))]) hx hb dX1_divideRest_29 hl (by decide) rfl (fun ls hl => ?_)
      refine lv_iload hx hb dX1_divideRest_31 (lv_at hl 1 rfl) ?_
      refine ix_if_eq (tgt := 43) hx hb dX1_divideRest_33 (by decide) (by omega) (fun c18 => ?_) (fun c18 => ?_)
      · refine ix_iconst (n := 0) hx hb dX1_divideRest_43 ?_
        have hno : ¬ ∃ Q, n5 Q ∧ dvs a b k R Q := by
          rintro ⟨Q, hQ, hd⟩
          have hz : ∀ j, R j = a * (fun _ => 0) (j - 2) + b * (fun _ => 0) (j - 1) + k * (fun _ => (0 : Int)) j + (if j ≤ f_deg R then R j else 0) := by
            intro j
            by_cases q : j ≤ f_deg R
            · rw [if_pos q]; simp
            · rw [if_neg q]; by_cases q2 : j ≤ 4; rw [hdc.2.2.1 j (by omega) q2]; simp; rw [hR j (by omega)]; simp
          have e1 := dv_must (sz := 1) (hi := b) (by omega) (by omega) hz (fun _ _ => rfl) hQ hd
          rw [hQ _ (by omega)] at e1
          exact hdc.2.2.2 hR0 (by rw [← e1]; simp)
        have hP9 := hP.sub (ws' := [(h, .inr (1, [.ref n, .ref r, .ref d, .ref f, .int (iI fc), .int (iI cn), .int (iI sp)])), (r, .inl (cI, 5, .inl (aI R))), (d, .inl (cI, 5, .inl (aI D)))]) [0, 1, 2] rfl
        have hD9 := hD.sub (ws' := [(h, .inr (1, [.ref n, .ref r, .ref d, .ref f, .int (iI fc), .int (iI cn), .int (iI sp)])), (r, .inl (cI, 5, .inl (aI R))), (d, .inl (cI, 5, .inl (aI D)))]) [0, 1, 2] (by decide) rfl
        have hK9 := hK.sub (tys' := [(cI, .int)]) [0] rfl
        exact W.zret (v := iI 0) hx hb hr (by decide) (fun t ht hW => ⟨⟨iI 0, (R, D), rfl, ⟨hD5, Or.inr ⟨rfl, rfl, hno⟩⟩, by rw [ht]; exact hP9, va_K.moved hW.alike hK9, hD9⟩, hS.F ht⟩) hS.2.2 dX1_divideRest_44
      · refine lv_iload hx hb dX1_divideRest_36 (lv_at hl 0 rfl) ?_
        refine lv_iload hx hb dX1_divideRest_38 (lv_at hl 2 rfl) ?_
        refine ix_icmp_ge (tgt := 45) hx hb dX1_divideRest_40 (by decide) (by omega) (by decide) (fun c19 => ?_) (fun c19 => ?_)
        · refine lv_aload_n hx hb dX1_divideRest_45 rfl (lv_at hl 3 rfl) ?_
          refine va_get (D := (dC, dI)) (ci := 1) (v := .ref r) (C := RX1) (T := TX1) (N := 7) hx hb hw inX1 hown hK hP 0 rfl rfl 1 (by decide) (hw _ mA_54) (fun _ h9 => h9) rfl dX1_divideRest_46 ?_
          refine ix_iconst (n := 0) hx hb dX1_divideRest_49 ?_
          refine lv_aload_n hx hb dX1_divideRest_50 rfl (lv_at hl 3 rfl) ?_
          refine va_get (D := (dC, dI)) (ci := 1) (v := .ref d) (C := RX1) (T := TX1) (N := 7) hx hb hw inX1 hown hK hP 0 rfl rfl 2 (by decide) (hw _ mA_55) (fun _ h9 => h9) rfl dX1_divideRest_51 ?_
          refine ix_iconst (n := 0) hx hb dX1_divideRest_54 ?_
          refine lv_aload_n hx hb dX1_divideRest_55 rfl (lv_at hl 3 rfl) ?_
          refine va_get (D := (dC, dI)) (ci := 1) (v := .ref d) (C := RX1) (T := TX1) (N := 7) hx hb hw inX1 hown hK hP 0 rfl rfl 2 (by decide) (hw _ mA_55) (fun _ h9 => h9) rfl dX1_divideRest_56 ?_
          refine va_alen (v := iI 5) hx hb hK hP 2 0 rfl rfl rfl dX1_divideRest_59 ?_
          refine ix_copy5 hx hb (by rw [hml]; exact hl.1.symm) hown (hw _ mA_200) (hw _ mA_202) (hw _ mA_201) (hw _ mA_9) hK hP hD hS 1 2 0 rfl rfl rfl hR hD5 (Nat.le_of_ble_eq_true rfl) (by decide) dX1_divideRest_60 (fun H locs hP hD hS => ?_)
          have hP : va_P (dC, dI) vwCl [(h, .inr (1, [.ref n, .ref r, .ref d, .ref f, .int (iI fc), .int (iI cn), .int (iI sp)])), (r, .inl (cI, 5, .inl (aI R))), (d, .inl (cI, 5, .inl (aI R)))] H := hP
          have hD : va_D A [(h, .inr (1, [.ref n, .ref r, .ref d, .ref f, .int (iI fc), .int (iI cn), .int (iI sp)])), (r, .inl (cI, 5, .inl (aI R))), (d, .inl (cI, 5, .inl (aI R)))] := hD
          refine lv_iload hx hb dX1_divideRest_63 (lv_at hl 0 rfl) ?_
          refine lv_istore (lv' := [(7, .int (iI (f_deg R))), (6, .int (iI (f_deg R))), (5, .int (iI b)), (4, .int (iI 1)), (0, .ref h), (1, .int (iI a)), (2, .int (iI b)), (3, .int (iI k))]) hx hb dX1_divideRest_65 hl (by decide) rfl (fun ls hl => ?_)
          refine lp_divideRest1 (a := a) (b := b) (k := k) (sz := 1) (hi := b) (dg := f_deg R) (K := K) (L := L) (R := R) ⟨hx, hb, hr, hml, hown, hw, hlocks⟩ _ (f_deg R) R (fun _ => 0) ?_ (Nat.lt_succ_self _) _ _ hK hP hD hS ls (lv_sub hl [4, 5, 6, 7, 3, 2, 1, 0] rfl)
          refine ⟨⟨by omega, by omega, ⟨by omega, by omega⟩, by omega, hdc.2.1, hK0.1, hKb, hKk, hL, hL2, hR⟩, ⟨by omega, by omega⟩, ?_, fun _ _ => rfl, hR, fun x x1 x2 _ => by omega, fun _ _ => rfl, hB⟩
          intro j
          by_cases q : j ≤ f_deg R
          · rw [if_pos q]; simp
          · rw [if_neg q]; by_cases q2 : j ≤ 4; rw [hdc.2.2.1 j (by omega) q2]; simp; rw [hR j (by omega)]; simp
        · refine ix_iconst (n := 0) hx hb dX1_divideRest_43 ?_
          have hno : ¬ ∃ Q, n5 Q ∧ dvs a b k R Q := by
            rintro ⟨Q, hQ, hd⟩
            have hz : ∀ j, R j = a * (fun _ => 0) (j - 2) + b * (fun _ => 0) (j - 1) + k * (fun _ => (0 : Int)) j + (if j ≤ f_deg R then R j else 0) := by
              intro j
              by_cases q : j ≤ f_deg R
              · rw [if_pos q]; simp
              · rw [if_neg q]; by_cases q2 : j ≤ 4; rw [hdc.2.2.1 j (by omega) q2]; simp; rw [hR j (by omega)]; simp
            have e1 := dv_must (sz := 1) (hi := b) (by omega) (by omega) hz (fun _ _ => rfl) hQ hd
            rw [hQ _ (by omega)] at e1
            exact hdc.2.2.2 hR0 (by rw [← e1]; simp)
          have hP9 := hP.sub (ws' := [(h, .inr (1, [.ref n, .ref r, .ref d, .ref f, .int (iI fc), .int (iI cn), .int (iI sp)])), (r, .inl (cI, 5, .inl (aI R))), (d, .inl (cI, 5, .inl (aI D)))]) [0, 1, 2] rfl
          have hD9 := hD.sub (ws' := [(h, .inr (1, [.ref n, .ref r, .ref d, .ref f, .int (iI fc), .int (iI cn), .int (iI sp)])), (r, .inl (cI, 5, .inl (aI R))), (d, .inl (cI, 5, .inl (aI D)))]) [0, 1, 2] (by decide) rfl
          have hK9 := hK.sub (tys' := [(cI, .int)]) [0] rfl
          exact W.zret (v := iI 0) hx hb hr (by decide) (fun t ht hW => ⟨⟨iI 0, (R, D), rfl, ⟨hD5, Or.inr ⟨rfl, rfl, hno⟩⟩, by rw [ht]; exact hP9, va_K.moved hW.alike hK9, hD9⟩, hS.F ht⟩) hS.2.2 dX1_divideRest_44
