/-! how large the numbers of what is left can be -/
def bnd (n : Int) : Int := if n = 4 then 20 else if n = 3 then 80 else if n = 2 then 240 else 480
def Bd (R : Int → Int) : Prop := n5 R ∧ 0 ≤ f_deg R ∧ ∀ j, -(bnd (f_deg R)) ≤ R j ∧ R j ≤ bnd (f_deg R)
theorem near {b x r k y B Y : Int} (hb : 1 ≤ b) (e : b * x = r - k * y) (hk : -b ≤ k ∧ k ≤ b) (hr : -B ≤ r ∧ r ≤ B) (hy : -Y ≤ y ∧ y ≤ Y) (hB : 0 ≤ B) (hY : 0 ≤ Y) : -(B + Y) ≤ x ∧ x ≤ B + Y := by
  have h1 := mul_in hk hy (by omega) hY
  have h2 : b * x ≤ B + b * Y := by omega
  have h3 : -(B + b * Y) ≤ b * x := by omega
  have h4 : B ≤ b * B := by
    have := Int.mul_le_mul_of_nonneg_right hb hB
    omega
  have h5 : b * (B + Y) = b * B + b * Y := Int.mul_add b B Y
  constructor
  · rcases Int.lt_or_le x (-(B + Y)) with q | q
    · have h6 : b * x ≤ b * (-(B + Y) - 1) := Int.mul_le_mul_of_nonneg_left (by omega) (by omega)
      have h7 : b * (-(B + Y) - 1) = -(b * (B + Y)) - b := by grind
      omega
    · exact q
  · rcases Int.lt_or_le (B + Y) x with q | q
    · have h6 : b * (B + Y + 1) ≤ b * x := Int.mul_le_mul_of_nonneg_left (by omega) (by omega)
      have h7 : b * (B + Y + 1) = b * (B + Y) + b := by grind
      omega
    · exact q
theorem near2 {b x r k y B Y : Int} (hk : b ≤ k ∨ k ≤ -b) (hb : 1 ≤ b) (e : k * x = r - b * y) (hr : -B ≤ r ∧ r ≤ B) (hy : -Y ≤ y ∧ y ≤ Y) (hB : 0 ≤ B) (hY : 0 ≤ Y) : -(B + Y) ≤ x ∧ x ≤ B + Y := by
  rcases hk with h | h
  · exact near (b := k) (k := b) (by omega) e ⟨by omega, by omega⟩ hr hy hB hY
  · refine near (b := -k) (k := b) (r := -r) (y := -y) (by omega) (by grind) ⟨by omega, by omega⟩ ⟨by omega, by omega⟩ ⟨by omega, by omega⟩ hB hY
/-- the quotient by a linear factor -/
theorem lin_le {b k B : Int} {R Q : Int → Int} {n : Nat} (hb : 1 ≤ b) (hQ : n5 Q) (hd : dvs 0 b k R Q) (hB0 : 0 ≤ B) (hB : ∀ j, -B ≤ R j ∧ R j ≤ B) (hz : ∀ j, (n : Int) ≤ j → Q j = 0) : ∀ j, -(n * B) ≤ Q j ∧ Q j ≤ n * B := by
  have hmul : ∀ i : Nat, i ≤ n → (i : Int) * B ≤ n * B := fun i hi => Int.mul_le_mul_of_nonneg_right (by omega) hB0
  have hn0 : ∀ i : Nat, 0 ≤ (i : Int) * B := fun i => Int.mul_nonneg (by omega) hB0
  have hs : ∀ i : Nat, ((i + 1 : Nat) : Int) * B = B + i * B := fun i => by
    have : ((i + 1 : Nat) : Int) = (i : Int) + 1 := by omega
    rw [this]; grind
  rcases (show (-b ≤ k ∧ k ≤ b) ∨ (b ≤ k ∨ k ≤ -b) by omega) with hk | hk
  · have key : ∀ i : Nat, i ≤ n → ∀ j : Int, (n : Int) - i ≤ j → -(i * B) ≤ Q j ∧ Q j ≤ i * B := by
      intro i
      induction i with
      | zero => intro _ j hj; rw [hz j (by omega)]; simp
      | succ i ih =>
        intro hi j hj
        have h1 := ih (by omega) (j + 1) (by omega)
        have e := hd (j + 1)
        rw [show j + 1 - 1 = j by omega] at e
        rw [hs i]
        exact near hb (by grind) hk (hB (j + 1)) h1 hB0 (hn0 i)
    intro j
    rcases Int.lt_or_le j 0 with q | q
    · rw [hQ j (Or.inl q)]; have := hn0 n; omega
    · exact key n (Nat.le_refl n) j (by omega)
  · have key : ∀ i : Nat, i ≤ n → ∀ j : Int, j < (i : Int) → -(i * B) ≤ Q j ∧ Q j ≤ i * B := by
      intro i
      induction i with
      | zero => intro _ j hj; rw [hQ j (by omega)]; simp
      | succ i ih =>
        intro hi j hj
        have h1 := ih (by omega) (j - 1) (by omega)
        have e := hd j
        rw [hs i]
        exact near2 hk hb (by grind) (hB j) h1 hB0 (hn0 i)
    intro j
    rcases Int.lt_or_le j n with q | q
    · exact key n (Nat.le_refl n) j q
    · rw [hz j q]; have := hn0 n; omega
theorem bnd_0 (n : Int) : 0 ≤ bnd n := by unfold bnd; grind
theorem deg_out {R : Int → Int} (h : n5 R) {j : Int} (hj : f_deg R < j) : R j = 0 := by
  by_cases q : j ≤ 4
  · exact (deg_c R).2.2.1 j hj q
  · exact h j (by omega)
theorem Bd_lin {b k : Int} {R Q : Int → Int} (hb : 1 ≤ b) (hR : Bd R) (hQ : n5 Q) (hd : dvs 0 b k R Q) : Bd Q := by
  obtain ⟨d1, d2, -⟩ := deg_dvs (a := 0) ⟨by omega, fun _ => hb⟩ hR.1 hQ hd hR.2.1
  rw [if_pos rfl] at d2
  have h4 := (deg_c R).2.1
  have h := lin_le (n := (f_deg R).toNat) hb hQ hd (bnd_0 _) hR.2.2 (fun j hj => deg_out hQ (by omega))
  refine ⟨hQ, d1, fun j => ?_⟩
  have hj := h j
  rw [Int.toNat_of_nonneg hR.2.1] at hj
  have e : f_deg R * bnd (f_deg R) ≤ bnd (f_deg Q) := by
    rcases (show f_deg R = 1 ∧ f_deg Q = 0 ∨ f_deg R = 2 ∧ f_deg Q = 1 ∨ f_deg R = 3 ∧ f_deg Q = 2 ∨ f_deg R = 4 ∧ f_deg Q = 3 by omega) with ⟨q, q2⟩ | ⟨q, q2⟩ | ⟨q, q2⟩ | ⟨q, q2⟩ <;> (rw [q, q2]; decide)
  omega
/-- bounds for the dividing of such by numbers up to 20 -/
def L20 (i : Int) : Int := if i = 4 then 480 else if i = 3 then 10080 else if i = 2 then 211680 else if i = 1 then 4445280 else 93350880
theorem L20_ok : ∀ i, 1 ≤ i → i ≤ 4 → 0 ≤ L20 i ∧ L20 i * (1 + 20) ≤ L20 (i - 1) := by
  intro i h1 h4
  rcases (show i = 1 ∨ i = 2 ∨ i = 3 ∨ i = 4 by omega) with rfl | rfl | rfl | rfl <;> decide
theorem L20_r : ∀ i, 0 ≤ i → i ≤ 4 → L20 i ≤ 2147483647 := by
  intro i h1 h4
  rcases (show i = 0 ∨ i = 1 ∨ i = 2 ∨ i = 3 ∨ i = 4 by omega) with rfl | rfl | rfl | rfl | rfl <;> decide
theorem Bd_L20 {R : Int → Int} (h : Bd R) : n5 R ∧ 0 ≤ f_deg R ∧ ∀ j, -(L20 (f_deg R)) ≤ R j ∧ R j ≤ L20 (f_deg R) := by
  refine ⟨h.1, h.2.1, fun j => ?_⟩
  have h1 := h.2.2 j
  have h4 := (deg_c R).2.1
  have h0 := h.2.1
  have e : bnd (f_deg R) ≤ L20 (f_deg R) := by
    rcases (show f_deg R = 0 ∨ f_deg R = 1 ∨ f_deg R = 2 ∨ f_deg R = 3 ∨ f_deg R = 4 by omega) with q | q | q | q | q <;> (rw [q]; decide)
  omega
theorem gsq_0 : f_gsq 0 = 0 := by
  show gsL (f_size 0) 1000 = 0
  have := gsL_end (z := f_size 0) (m := 0) (by decide) 1000
  rw [Nat.zero_add] at this
  exact this.trans rfl
theorem nf4 (t a b k : Int) : nf t a b k 4 = f_out a b k := by unfold nf; rw [if_neg (by decide), if_neg (by decide), if_neg (by decide), if_neg (by decide), if_pos rfl]
theorem nf5 (t a b k : Int) : nf t a b k 5 = f_ins a b k := by unfold nf; rw [if_neg (by decide), if_neg (by decide), if_neg (by decide), if_neg (by decide), if_neg (by decide), if_pos rfl]
theorem fbd_lin {t b k : Int} (ht : 0 ≤ t ∧ t ≤ 4) (hb : -40 ≤ b ∧ b ≤ 40) (hk : -240 ≤ k ∧ k ≤ 240) : fbd (nf t 0 b k) := by
  have e1 : f_out 0 b k = 0 := by unfold f_out f_und; rw [if_pos rfl]; exact gsq_0
  have e2 : f_ins 0 b k = 0 := by unfold f_ins; rw [if_pos e1]
  refine ⟨fun j => ?_, ?_, ?_, ?_⟩
  · unfold nf; rw [e1, e2]; grind
  · unfold f_mid
    rw [show nf t 0 b k 1 = 0 from rfl, if_pos rfl, show nf t 0 b k 3 = k from rfl]
    omega
  · unfold f_below
    rw [show nf t 0 b k 1 = 0 from rfl, if_pos rfl, show nf t 0 b k 2 = b from rfl]
    omega
  · unfold f_under
    rw [nf4, e1]
    omega
/-- one linear factor's turn: what is left, how many are found, their numbers -/
def stp (a b k : Int) (s s' : (Int → Int) × Int × (Int → Int → Int)) : Prop :=
  ∃ t, 0 ≤ t ∧ t ≤ 4 ∧ tkR a b k t s.1 s'.1 ∧ ((t = 0 ∧ s'.2.1 = s.2.1 ∧ s'.2.2 = s.2.2) ∨ (1 ≤ t ∧ s'.2.1 = s.2.1 + 1 ∧ ∃ pos, insP s.2.1 (nf t a b k) s.2.2 s'.2.2 pos))
def runC (b : Int) : Nat → (Int → Int) × Int × (Int → Int → Int) → (Int → Int) × Int × (Int → Int → Int) → Prop
  | 0, s, s' => s' = s
  | n + 1, s, s' => ∃ s1, runC b n s s1 ∧ stp 0 b (-20 + n) s1 s'
def runB : Nat → (Int → Int) × Int × (Int → Int → Int) → (Int → Int) × Int × (Int → Int → Int) → Prop
  | 0, s, s' => s' = s
  | n + 1, s, s' => ∃ s1, runB n s s1 ∧ runC ((n : Int) + 1) 41 s1 s'
theorem stp_none {a b k : Int} {s : (Int → Int) × Int × (Int → Int → Int)} (h : ¬ ∃ Q, n5 Q ∧ dvs a b k s.1 Q) : stp a b k s s := ⟨0, by omega, by omega, ⟨rfl, h⟩, Or.inl ⟨rfl, rfl, rfl⟩⟩
theorem runC_none {b : Int} {s : (Int → Int) × Int × (Int → Int → Int)} (h : ∀ k, ¬ ∃ Q, n5 Q ∧ dvs 0 b k s.1 Q) : ∀ n, runC b n s s := by
  intro n
  induction n with
  | zero => rfl
  | succ n ih => exact ⟨s, ih, stp_none (h _)⟩
theorem stp_deg {a b k : Int} {s s' : (Int → Int) × Int × (Int → Int → Int)} (hab : 0 ≤ a ∧ (a = 0 → 1 ≤ b)) (h5 : n5 s.1) (h0 : 0 ≤ f_deg s.1) (hc : s.2.1 + f_deg s.1 ≤ 4) (h : stp a b k s s') : s'.2.1 + f_deg s'.1 ≤ 4 ∧ s.2.1 ≤ s'.2.1 := by
  obtain ⟨t, t0, t4, ⟨hN, -⟩, ho⟩ := h
  obtain ⟨e1, e2, e3⟩ := dvN_deg hab t.toNat _ _ h5 h0 hN
  have hz : 0 ≤ (t.toNat : Int) * (if a = 0 then 1 else 2) := Int.mul_nonneg (by omega) (by by_cases q : a = 0 <;> simp [q])
  rcases ho with ⟨q1, q2, -⟩ | ⟨q1, q2, -⟩
  · rw [q2]; omega
  · rw [q2]
    have hz2 : (t.toNat : Int) ≤ (t.toNat : Int) * (if a = 0 then 1 else 2) := by
      by_cases q : a = 0
      · rw [if_pos q]; omega
      · rw [if_neg q]; omega
    omega
theorem nodiv_deg {b k : Int} {R : Int → Int} (hb : 1 ≤ b) (hR : Bd R) (h : f_deg R ≤ 0) : ¬ ∃ Q, n5 Q ∧ dvs 0 b k R Q := by
  rintro ⟨Q, hQ, hd⟩
  have := dv_pos (a := 0) ⟨by omega, fun _ => hb⟩ hR.1 hR.2.1 hQ hd
  omega
theorem nodiv_lead {b k : Int} {R : Int → Int} (hb : 1 ≤ b) (hR : Bd R) (h : ¬ (R (f_deg R)).tmod b = 0) : ¬ ∃ Q, n5 Q ∧ dvs 0 b k R Q := by
  rintro ⟨Q, hQ, hd⟩
  obtain ⟨-, -, d3⟩ := deg_dvs (a := 0) ⟨by omega, fun _ => hb⟩ hR.1 hQ hd hR.2.1
  rw [if_pos rfl] at d3
  exact h (tdiv_of (by omega) d3).1
