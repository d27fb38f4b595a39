/-! polynomials as functions of the power; division by a x x + b x + c (by b x + c with a being 0) -/
def n5 (N : Int → Int) : Prop := ∀ j, j < 0 ∨ 4 < j → N j = 0
def dvs (a b c : Int) (R Q : Int → Int) : Prop := ∀ j, R j = a * Q (j - 2) + b * Q (j - 1) + c * Q j
theorem n5_iu {N : Int → Int} (h : n5 N) {k x : Int} (h0 : 0 ≤ k) (h4 : k ≤ 4) : n5 (iu N k x) := by
  intro j hj
  rw [iu_n (by omega)]
  exact h j hj
/-- one step of the division: q comes into the quotient -/
theorem dv_step {a b c sz hi i : Int} {R G D : Int → Int} (hs : (sz = 1 ∧ a = 0 ∧ hi = b) ∨ (sz = 2 ∧ hi = a))
    (h1 : ∀ j, R j = a * G (j - 2) + b * G (j - 1) + c * G j + (if j ≤ i then D j else 0)) (h2 : G (i - sz) = 0) (q : Int) (hq : hi * q = D i) (D' : Int → Int)
    (hD' : ∀ j, j ≤ i - 1 → D' j = D j - (if j = i - sz then q * c else 0) - (if sz = 2 ∧ j = i - 1 then q * b else 0)) :
    ∀ j, R j = a * iu G (i - sz) q (j - 2) + b * iu G (i - sz) q (j - 1) + c * iu G (i - sz) q j + (if j ≤ i - 1 then D' j else 0) := by
  intro j
  have e := h1 j
  have e2 := hD' j
  rcases hs with ⟨rfl, rfl, rfl⟩ | ⟨rfl, rfl⟩
  · unfold iu
    by_cases c1 : j = i
    · subst c1
      rw [if_pos (Int.le_refl j)] at e
      rw [if_pos rfl, if_neg (by omega), if_neg (by omega)]
      grind
    · by_cases c2 : j = i - 1
      · subst c2
        grind
      · grind
  · unfold iu
    by_cases c1 : j = i
    · subst c1
      grind
    · by_cases c2 : j = i - 1
      · subst c2
        grind
      · by_cases c3 : j = i - 2
        · subst c3
          grind
        · grind
theorem top0 {a b c sz hi i : Int} {T E : Int → Int} (hs : (sz = 1 ∧ a = 0 ∧ hi = b) ∨ (sz = 2 ∧ hi = a)) (hne : hi ≠ 0)
    (hT : ∀ j, a * T (j - 2) + b * T (j - 1) + c * T j = E j) (hE : ∀ j, i < j → E j = 0) (h4 : ∀ k, 4 < k → T k = 0) : ∀ (m : Nat) (k : Int), i - sz < k → 4 < k + m → T k = 0 := by
  intro m
  induction m with
  | zero => intro k _ h; exact h4 k (by omega)
  | succ m ih =>
    intro k hk h
    have t1 : T (k + 1) = 0 := ih (k + 1) (by omega) (by omega)
    have t2 : T (k + 2) = 0 := ih (k + 2) (by omega) (by omega)
    have e := hT (k + sz)
    rw [hE (k + sz) (by omega)] at e
    rcases hs with ⟨rfl, rfl, rfl⟩ | ⟨rfl, rfl⟩
    · rw [show k + 1 - 1 = k by omega, t1] at e
      have e3 : hi * T k = 0 := by grind
      rcases Int.mul_eq_zero.mp e3 with q | q
      · exact absurd q hne
      · exact q
    · rw [show k + 2 - 2 = k by omega, show k + 2 - 1 = k + 1 by omega, t1, t2] at e
      have e3 : hi * T k = 0 := by grind
      rcases Int.mul_eq_zero.mp e3 with q | q
      · exact absurd q hne
      · exact q
/-- what a division that goes up must meet: the step's number is divided -/
theorem dv_must {a b c sz hi i : Int} {R G D Q : Int → Int} (hs : (sz = 1 ∧ a = 0 ∧ hi = b) ∨ (sz = 2 ∧ hi = a)) (hne : hi ≠ 0)
    (h1 : ∀ j, R j = a * G (j - 2) + b * G (j - 1) + c * G j + (if j ≤ i then D j else 0)) (hG : n5 G) (hQ : n5 Q) (hd : dvs a b c R Q) : hi * (Q (i - sz) - G (i - sz)) = D i := by
  have hT : ∀ j, a * (fun k => Q k - G k) (j - 2) + b * (fun k => Q k - G k) (j - 1) + c * (fun k => Q k - G k) j = (fun j => if j ≤ i then D j else 0) j := by
    intro j
    have e := h1 j
    have e2 := hd j
    show a * (Q (j - 2) - G (j - 2)) + b * (Q (j - 1) - G (j - 1)) + c * (Q j - G j) = (if j ≤ i then D j else 0)
    grind
  have hz : ∀ k, i - sz < k → Q k - G k = 0 := fun k hk => top0 (T := fun k => Q k - G k) (i := i) hs hne hT (fun j hj => if_neg (by omega)) (fun k hk => by show Q k - G k = 0; rw [hQ k (by omega), hG k (by omega)]; rfl) ((5 - k).toNat) k hk (by omega)
  have e := hT i
  have z1 := hz (i - sz + 1) (by omega)
  have z2 := hz (i - sz + 2) (by omega)
  have e5 : a * (Q (i - 2) - G (i - 2)) + b * (Q (i - 1) - G (i - 1)) + c * (Q i - G i) = D i := by
    have : (fun j => if j ≤ i then D j else 0) i = D i := if_pos (Int.le_refl i)
    rw [this] at e
    exact e
  rcases hs with ⟨rfl, rfl, rfl⟩ | ⟨rfl, rfl⟩
  · rw [show i - 1 + 1 = i by omega] at z1
    grind
  · rw [show i - 2 + 1 = i - 1 by omega] at z1
    rw [show i - 2 + 2 = i by omega] at z2
    grind
theorem tdiv_of {hi q x : Int} (h : hi ≠ 0) (e : hi * q = x) : x.tmod hi = 0 ∧ x.tdiv hi = q := by
  subst e
  exact ⟨Int.mul_tmod_right _ _, Int.mul_tdiv_cancel_left _ h⟩
theorem tdiv_mul {hi x : Int} (e : x.tmod hi = 0) : hi * x.tdiv hi = x := by
  have := Int.tmod_add_mul_tdiv x hi
  omega
section CP
variable {p : Program} {l : Launch} {e : Env} {R : Room} {s : State} {m : MethodId} {args : Array Value} {below : List Frame} {meth : Method} {c : Code} {H : Heap} {locs : List Loc} {cells slots : Nat} {Q : State → Prop} {cc : ByteArray} {pc : Nat} {ls : Array Slot} {rest : List Value} {D : va_G} {cl : List vw_C} {ws : va_W} {tys : List (ClassId × FieldType)} {A : Nat → Prop} {H0 : Heap} {a a0 : Nat}
theorem cpy5 {N M : Int → Int} (hN : n5 N) (hM : n5 M) : va_cpy (aI N) (aI M) (iI 0).toNatClampNeg (iI 0).toNatClampNeg (iI 5).toNatClampNeg = aI N := by
  funext k
  show (if (iI 0).toNatClampNeg ≤ k ∧ k < (iI 0).toNatClampNeg + (iI 5).toNatClampNeg then aI N ((iI 0).toNatClampNeg + (k - (iI 0).toNatClampNeg)) else aI M k) = aI N k
  have e0 : (iI 0).toNatClampNeg = 0 := by decide
  have e5 : (iI 5).toNatClampNeg = 5 := by decide
  rw [e0, e5]
  by_cases h : k < 5
  · rw [if_pos ⟨by omega, by omega⟩]
    simp
  · rw [if_neg (by omega)]
    unfold aI
    rw [hN k (by omega), hM k (by omega)]
/-- System.arraycopy of five ints -/
theorem ix_copy5 (hexec : p.tables.exec = Jvm.exec) (hb : c.code = cc) (hml : c.maxLocals = ls.size) {own : String} {index : Nat} (hown : s.vm.findClass own = some m.cls) (hlink : (Cond.methodLink own index arraycopyName).before args s = true) (hnat : (Cond.native arraycopyName).before args s = true) (hstat : (Cond.static arraycopyName).before args s = true) (hini : (Cond.initialized "java/lang/System").before args s = true) (hK : va_K D cl tys s) (hP : va_P D cl ws H) (hD : va_D A ws) (hS : va_S A H0 H locs) (q0 q1 t0 : Nat) {c0 : ClassId} {N M : Int → Int} (ha0 : ws[q0]? = some (a0, .inl (c0, 5, .inl (aI N)))) (ha1 : ws[q1]? = some (a, .inl (c0, 5, .inl (aI M)))) (ht0 : tys[t0]? = some (c0, .int)) (hN : n5 N) (hM : n5 M) (hframes : 1 ≤ R.frames) (hlocals : (rest.map fun v => v.category).sum + (nativeFrameWords "java/lang/System" "arraycopy" 5 + 11) ≤ R.locals) (hdg : decode cc pc = .ok (.invokestatic index, 3))
    (kk : ∀ (H1 : Heap) (locs1 : List Loc), va_P D cl (ws.set q1 (a, .inl (c0, 5, .inl (aI N)))) H1 → va_D A (ws.set q1 (a, .inl (c0, 5, .inl (aI N)))) → va_S A H0 H1 locs1 → W p l e R s m args below meth c H1 locs1 cells slots Q (F0 m (pc + 3) ls rest)) : W p l e R s m args below meth c H locs cells slots Q (F0 m pc ls (.int (iI 5) :: .int (iI 0) :: .ref a :: .int (iI 0) :: .ref a0 :: rest)) :=
  va_copyi hexec hb hml hown hlink hnat hstat hini hK hP hD hS q0 q1 t0 t0 ha0 ha1 ht0 ht0 rfl (by decide) (by decide) (by decide) (by decide) (by decide) (fun i _ => rfl) hframes hlocals hdg (fun H1 locs1 b1 b2 b3 => kk H1 locs1 (by rw [cpy5 hN hM] at b1; exact b1) (by rw [cpy5 hN hM] at b2; exact b2) b3)
end CP
