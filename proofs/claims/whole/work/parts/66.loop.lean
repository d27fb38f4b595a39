set_option maxHeartbeats 4000000 in
set_option maxRecDepth 100000 in
/-- the law's loop -/
theorem lw_loop {p : Program} {l : Launch} {e : Env} {s : State} {m : MethodId} {below : List Frame} {meth : Method} {c : Code} {dC : Nat → ClassId} {dI : Nat → Nat → Nat} {b L : Nat} {xs : Nat → Int32} {h n r d f o x n2 r2 d2 ya yb yc yo : Nat} {cI cF cO cI2 cJ : ClassId} (hlt : l.stackTraces = false) (hL : L ≤ 2560) (hX : va_X b L xs s s.heap) (hbl : b < s.heap.size) (hnb : nb s) (hnc : nc s) (hzt : zt (fun q => s.heap.size ≤ q) s) (C0 : cx p s m meth c #[Value.ref b] RL cL_law 7 ret) (hK : va_K (dC, dI) vwCl [(cI, .int), (cF, .object RX0), (cO, .long), (cI2, .int), (cJ, .long)] s) : ∀ (n9 : Nat) (i : Int) (N O : Int → Int) (u : CS) (v : MT), (0 ≤ i ∧ i ≤ L) → (L - i).toNat < n9 → CIu N u → MI v → r32 (O 0) → ∀ (H : Heap) (locs : List Loc), va_P (dC, dI) vwCl (lwd h n r d f cI cF N u o cO O x n2 r2 d2 ya yb yc yo cI2 cJ N v) H → va_D (fun q => s.heap.size ≤ q) (lwd h n r d f cI cF N u o cO O x n2 r2 d2 ya yb yc yo cI2 cJ N v) → va_S (fun q => s.heap.size ≤ q) s.heap H locs → ∀ (ls : Array Slot), lv_has ls 7 [(0, .ref b), (1, .ref h), (2, .ref x), (3, .ref o), (4, .int (iI i))] → W p l e room_1 s m #[Value.ref b] below meth c H locs (18 + i.toNat) (103 + 6 * i.toNat) (lw_Z below #[Value.ref b] s) (F0 m 23 ls []) := by
  have C1 := C0
  obtain ⟨hx, hb, hr, hml, hown, hw, hlocks⟩ := C0
  have hbA : ¬ (fun q => s.heap.size ≤ q) b := fun z => Nat.not_le.mpr hbl z
  have hA : ∀ q : Nat, s.heap.size ≤ q → (fun q => s.heap.size ≤ q) q := fun q z => z
  intro n9
  induction n9 with
  | zero => intro i N O u v _ hmu; exact absurd hmu (Nat.not_lt_zero _)
  | succ n9 ih =>
    intro i N O u v hi hmu hci hmi hO H locs hP hD hS ls hl
    refine lv_iload hx hb dL_law_23 (lv_at hl 4 rfl) ?_
    refine lv_aload_n hx hb dL_law_25 rfl (lv_at hl 0 rfl) ?_
    refine ix_slen hx hb hX hbl hbA hS dL_law_26 ?_
    refine ix_iconst (n := 5) hx hb dL_law_27 ?_
    refine ix_isub hx hb dL_law_28 ?_
    refine ix_icmp_gt (tgt := 855) hx hb dL_law_29 (by decide) ⟨by omega, by omega⟩ ⟨by omega, by omega⟩ (fun c1 => ?_) (fun c1 => ?_)
    · refine ix_iconst (n := 1) hx hb dL_law_855 ?_
      refine va_forget (fun q hq => hS.2.2 q hq) ?_
      refine W.widen (k := 672099) (n := 7079807) (by omega) (by omega) ?_
      refine W.eq (g2 := F0 m 856 ls [.int 1]) rfl ?_
      exact lw_ret hx hb hr hlocks dL_law_856
    · have hi5 : 0 ≤ i ∧ i + 5 ≤ L := ⟨hi.1, by omega⟩
      have hcs : 18 + i.toNat + 5 ≤ 672099 ∧ 103 + 6 * i.toNat + 30 ≤ 7079807 := ⟨by omega, by omega⟩
      have kk : ∀ (N O : Int → Int) (u : CS) (v : MT) (H : Heap) (locs : List Loc), CIu N u → MI v → r32 (O 0) → va_P (dC, dI) vwCl (lwd h n r d f cI cF N u o cO O x n2 r2 d2 ya yb yc yo cI2 cJ N v) H → va_D (fun q => s.heap.size ≤ q) (lwd h n r d f cI cF N u o cO O x n2 r2 d2 ya yb yc yo cI2 cJ N v) → va_S (fun q => s.heap.size ≤ q) s.heap H locs → ∀ (ls : Array Slot), lv_has ls 7 [(0, .ref b), (1, .ref h), (2, .ref x), (3, .ref o), (4, .int (iI i))] → W p l e room_1 s m #[Value.ref b] below meth c H locs (18 + i.toNat + 5) (103 + 6 * i.toNat + 30) (lw_Z below #[Value.ref b] s) (F0 m 849 ls []) := by
        intro N O u v H locs hci hmi hO hP hD hS ls hl
        refine ix_iinc (k := 4) (lv2 := [(4, .int (iI (i + 5))), (0, .ref b), (1, .ref h), (2, .ref x), (3, .ref o)]) hx hb dL_law_849 hl rfl (by decide) rfl (fun ls hl => ?_)
        refine lv_goto (tgt := 23) hx hb dL_law_852 (by decide) ?_
        refine W.widen (k := 18 + (i + 5).toNat) (n := 103 + 6 * (i + 5).toNat) (by omega) (by omega) ?_
        exact ih (i + 5) N O u v ⟨by omega, by omega⟩ (by omega) hci hmi hO H locs hP hD hS ls (lv_sub hl [1, 2, 3, 4, 0] rfl)
      refine lv_aload_n hx hb dL_law_32 rfl (lv_at hl 0 rfl) ?_
      refine lv_iload hx hb dL_law_33 (lv_at hl 4 rfl) ?_
      refine ix_sld (k := i) hx hb hX hbl hbA hS (by omega) (by omega) hL dL_law_35 ?_
      refine ix_bipush (n := 15) hx hb dL_law_36 rfl ?_
      refine lv_iand hx hb dL_law_38 ?_
      generalize iI (sc xs i) &&& iI 15 = z9
      by_cases ho : z9.toInt < 0 ∨ 11 < z9.toInt
      · refine lv_tableOut (tgt := 849) hx hb dL_law_39 ho rfl ?_
        refine W.widen (k := 18 + i.toNat + 5) (n := 103 + 6 * i.toNat + 30) (by omega) (by omega) ?_
        exact kk N O u v H locs hci hmi hO hP hD hS ls hl
      · have h1 : ¬ z9.toInt < 0 := fun q => ho (Or.inl q)
        have h2 : ¬ 11 < z9.toInt := fun q => ho (Or.inr q)
        rcases (show z9.toInt = 0 ∨ z9.toInt = 1 ∨ z9.toInt = 2 ∨ z9.toInt = 3 ∨ z9.toInt = 4 ∨ z9.toInt = 5 ∨ z9.toInt = 6 ∨ z9.toInt = 7 ∨ z9.toInt = 8 ∨ z9.toInt = 9 ∨ z9.toInt = 10 ∨ z9.toInt = 11 by omega) with hz | hz | hz | hz | hz | hz | hz | hz | hz | hz | hz | hz
        · refine lv_tableIn (off := 61) (tgt := 100) hx hb dL_law_39 h1 h2 (by rw [hz]; rfl) rfl ?_
          exact lc_put hlt hL hX hbl hbA hA hnb hnc hzt C1 hK hi5 hci hmi hO hcs kk hP hD hS hl
        · refine lv_tableIn (off := 136) (tgt := 175) hx hb dL_law_39 h1 h2 (by rw [hz]; rfl) rfl ?_
          exact lc_at hlt hL hX hbl hbA hA hnb hnc hzt C1 hK hi5 hci hmi hO hcs kk hP hD hS hl
        · refine lv_tableIn (off := 192) (tgt := 231) hx hb dL_law_39 h1 h2 (by rw [hz]; rfl) rfl ?_
          exact lc_change hlt hL hX hbl hbA hA hnb hnc hzt C1 hK hi5 hci hmi hO hcs kk hP hD hS hl
        · refine lv_tableIn (off := 255) (tgt := 294) hx hb dL_law_39 h1 h2 (by rw [hz]; rfl) rfl ?_
          exact lc_factors hlt hL hX hbl hbA hA hnb hnc hzt C1 hK hi5 hci hmi hO hcs kk hP hD hS hl
        · refine lv_tableIn (off := 299) (tgt := 338) hx hb dL_law_39 h1 h2 (by rw [hz]; rfl) rfl ?_
          exact lc_factor hlt hL hX hbl hbA hA hnb hnc hzt C1 hK hi5 hci hmi hO hcs kk hP hD hS hl
        · refine lv_tableIn (off := 367) (tgt := 406) hx hb dL_law_39 h1 h2 (by rw [hz]; rfl) rfl ?_
          exact lc_content hlt hL hX hbl hbA hA hnb hnc hzt C1 hK hi5 hci hmi hO hcs kk hP hD hS hl
        · refine lv_tableIn (off := 411) (tgt := 450) hx hb dL_law_39 h1 h2 (by rw [hz]; rfl) rfl ?_
          exact lc_left hlt hL hX hbl hbA hA hnb hnc hzt C1 hK hi5 hci hmi hO hcs kk hP hD hS hl
        · refine lv_tableIn (off := 467) (tgt := 506) hx hb dL_law_39 h1 h2 (by rw [hz]; rfl) rfl ?_
          exact lc_answer hlt hL hX hbl hbA hA hnb hnc hzt C1 hK hi5 hci hmi hO hcs kk hP hD hS hl
        · refine lv_tableIn (off := 547) (tgt := 586) hx hb dL_law_39 h1 h2 (by rw [hz]; rfl) rfl ?_
          exact lc_real hlt hL hX hbl hbA hA hnb hnc hzt C1 hK hi5 hci hmi hO hcs kk hP hD hS hl
        · refine lv_tableIn (off := 591) (tgt := 630) hx hb dL_law_39 h1 h2 (by rw [hz]; rfl) rfl ?_
          exact lc_floor hlt hL hX hbl hbA hA hnb hnc hzt C1 hK hi5 hci hmi hO hcs kk hP hD hS hl
        · refine lv_tableIn (off := 675) (tgt := 714) hx hb dL_law_39 h1 h2 (by rw [hz]; rfl) rfl ?_
          exact lc_compare hlt hL hX hbl hbA hA hnb hnc hzt C1 hK hi5 hci hmi hO hcs kk hP hD hS hl
        · refine lv_tableIn (off := 799) (tgt := 838) hx hb dL_law_39 h1 h2 (by rw [hz]; rfl) rfl ?_
          exact lc_clear hlt hL hX hbl hbA hA hnb hnc hzt C1 hK hi5 hci hmi hO hcs kk hP hD hS hl
