/-! quadratic factors: how far they are sought -/
theorem mul_nn {a b : Int} (h : 0 ≤ a) (h2 : 0 ≤ b) : 0 ≤ a * b := Int.mul_nonneg h h2
/-- a factor's middle number is no larger than the seeking goes (b not below 0) -/
theorem reach0 {a b c d e f : Int} (ha : 1 ≤ a) (had : a ≤ d) (hb : 0 ≤ b) (h4 : a * d ≤ 20) (h3 : -20 ≤ a * e + b * d ∧ a * e + b * d ≤ 20) (h2 : -20 ≤ a * f + b * e + c * d ∧ a * f + b * e + c * d ≤ 20) (h1 : -20 ≤ b * f + c * e ∧ b * f + c * e ≤ 20) (h0 : -20 ≤ c * f ∧ c * f ≤ 20) (hc : c ≠ 0) (hf : f ≠ 0) : b * d ≤ 2 * (a * d) + 40 := by
  rcases Int.lt_or_le (2 * (a * d) + 40) (b * d) with q | q
  · exfalso
    have hd : 1 ≤ d := by omega
    have hh : 1 ≤ a * d := by have := Int.mul_le_mul ha hd (by omega) (by omega); omega
    -- E = -e; X = |c| d; Y = a |f|
    obtain ⟨E, hE⟩ : ∃ E, E = -e := ⟨_, rfl⟩
    obtain ⟨u, hu⟩ : ∃ u : Int, u = (c.natAbs : Int) := ⟨_, rfl⟩
    obtain ⟨v, hv⟩ : ∃ v : Int, v = (f.natAbs : Int) := ⟨_, rfl⟩
    have hu1 : 1 ≤ u := by omega
    have hv1 : 1 ≤ v := by omega
    have huv : u * v ≤ 20 := by
      have : (c * f).natAbs = c.natAbs * f.natAbs := Int.natAbs_mul c f
      rw [hu, hv]
      have h9 : ((c.natAbs * f.natAbs : Nat) : Int) ≤ 20 := by omega
      have h8 : ((c.natAbs * f.natAbs : Nat) : Int) = (c.natAbs : Int) * (f.natAbs : Int) := by simp
      omega
    obtain ⟨X, hX⟩ : ∃ X, X = u * d := ⟨_, rfl⟩
    obtain ⟨Y, hY⟩ : ∃ Y, Y = a * v := ⟨_, rfl⟩
    obtain ⟨t, ht⟩ : ∃ t, t = a * d := ⟨_, rfl⟩
    obtain ⟨B, hB⟩ : ∃ B, B = b * d := ⟨_, rfl⟩
    obtain ⟨G, hG⟩ : ∃ G, G = a * E := ⟨_, rfl⟩
    have haE : a * e = -G := by rw [hG, hE]; grind
    rw [haE, ← hB] at h3
    have hG1 : B - 20 ≤ G ∧ G ≤ B + 20 := ⟨by omega, by omega⟩
    have hB1 : 2 * t + 41 ≤ B := by omega
    -- |c d| and |a f|
    have hcd : -X ≤ c * d ∧ c * d ≤ X := by
      rw [hX]
      exact mul_in (x := c) (y := d) (A := u) (B := d) ⟨by omega, by omega⟩ ⟨by omega, by omega⟩ (by omega) (by omega)
    have haf : -Y ≤ a * f ∧ a * f ≤ Y := by
      rw [hY]
      exact mul_in (x := a) (y := f) (A := a) (B := v) ⟨by omega, by omega⟩ ⟨by omega, by omega⟩ (by omega) (by omega)
    have hbe : b * e = -(b * E) := by rw [hE]; grind
    have h2' : b * E ≤ 20 + Y + X := by omega
    -- t * (b E) = B * G
    have e1 : t * (b * E) = B * G := by rw [ht, hB, hG]; grind
    have hG0 : 2 * t + 21 ≤ G := by omega
    have e2 : (2 * t + 41) * (2 * t + 21) ≤ B * G := Int.mul_le_mul hB1 hG0 (by omega) (by omega)
    have e3 : t * (b * E) ≤ t * (20 + Y + X) := Int.mul_le_mul_of_nonneg_left h2' (by omega)
    have e4 : (2 * t + 41) * (2 * t + 21) = t * (4 * t + 124) + 861 := by grind
    have hXY : 4 * t + 104 ≤ X + Y := by
      rcases Int.lt_or_le (X + Y) (4 * t + 104) with z | z
      · have : t * (20 + Y + X) ≤ t * (4 * t + 124) := Int.mul_le_mul_of_nonneg_left (by omega) (by omega)
        omega
      · exact z
    have ha4 : a ≤ 4 := by
      rcases Int.lt_or_le 4 a with z | z
      · have := Int.mul_le_mul (show (5 : Int) ≤ a by omega) (show (5 : Int) ≤ d by omega) (by omega) (by omega)
        omega
      · exact z
    have hv20 : v ≤ 20 := by
      have := Int.mul_le_mul_of_nonneg_right hu1 (show 0 ≤ v by omega)
      omega
    have hY80 : Y ≤ 80 := by
      rw [hY]
      have := Int.mul_le_mul ha4 hv20 (by omega) (by omega)
      omega
    have hX24 : 4 * t + 24 ≤ X := by omega
    have hXYp : X * Y ≤ 20 * t := by
      have e5 : X * Y = t * (u * v) := by rw [hX, hY, ht]; grind
      have : t * (u * v) ≤ t * 20 := Int.mul_le_mul_of_nonneg_left huv (by omega)
      omega
    have hY0 : 0 ≤ Y := by rw [hY]; exact mul_nn (by omega) (by omega)
    have hY4 : Y ≤ 4 := by
      rcases Int.lt_or_le 4 Y with z | z
      · have := Int.mul_le_mul hX24 (show (5 : Int) ≤ Y by omega) (by omega) (by omega)
        omega
      · exact z
    -- |c E| from the number at 1
    have hce : u * E ≤ 20 + b * v := by
      have hbf : -(b * v) ≤ b * f ∧ b * f ≤ b * v := mul_in (x := b) (y := f) (A := b) (B := v) ⟨by omega, by omega⟩ ⟨by omega, by omega⟩ hb (by omega)
      have hE0 : 0 ≤ E := by
        rcases Int.lt_or_le E 0 with z | z
        · have := Int.mul_le_mul_of_nonneg_left (show E ≤ -1 by omega) (show 0 ≤ a by omega)
          omega
        · exact z
      have hce2 : c * e = -(c * E) := by rw [hE]; grind
      have hcu : c = u ∨ c = -u := by omega
      rcases hcu with z | z
      · rw [← z]; omega
      · have : u * E = -(c * E) := by rw [z]; grind
        omega
    have e6 : X * G = (u * E) * t := by rw [hX, hG, ht]; grind
    have e7 : (u * E) * t ≤ (20 + b * v) * t := Int.mul_le_mul_of_nonneg_right hce (by omega)
    have e8 : (20 + b * v) * t = 20 * t + B * Y := by rw [ht, hB, hY]; grind
    have e9 : X * (B - 20) ≤ X * G := Int.mul_le_mul_of_nonneg_left hG1.1 (by omega)
    have e10 : X * (B - 20) = X * B - 20 * X := by grind
    have e11 : B * Y ≤ B * 4 := Int.mul_le_mul_of_nonneg_left hY4 (by omega)
    have e12 : X * B - 4 * B = (X - 4) * B := by grind
    have e13 : (X - 4) * (2 * t + 41) ≤ (X - 4) * B := Int.mul_le_mul_of_nonneg_left hB1 (by omega)
    have e14 : (X - 4) * (2 * t + 41) = X * (2 * t + 41) - 8 * t - 164 := by grind
    have e15 : (4 * t + 24) * (2 * t + 21) ≤ X * (2 * t + 21) := Int.mul_le_mul_of_nonneg_right hX24 (by omega)
    have e16 : X * (2 * t + 41) = X * (2 * t + 21) + 20 * X := by grind
    have e17 : (4 * t + 24) * (2 * t + 21) = 8 * (t * t) + 132 * t + 504 := by grind
    have e18 : 0 ≤ t * t := mul_nn (by omega) (by omega)
    omega
  · exact q
theorem reach1 {a b c d e f : Int} (ha : 1 ≤ a) (had : a ≤ d) (h4 : a * d ≤ 20) (h3 : -20 ≤ a * e + b * d ∧ a * e + b * d ≤ 20) (h2 : -20 ≤ a * f + b * e + c * d ∧ a * f + b * e + c * d ≤ 20) (h1 : -20 ≤ b * f + c * e ∧ b * f + c * e ≤ 20) (h0 : -20 ≤ c * f ∧ c * f ≤ 20) (hc : c ≠ 0) (hf : f ≠ 0) : -(2 * (a * d) + 40) ≤ b * d ∧ b * d ≤ 2 * (a * d) + 40 := by
  rcases Int.lt_or_le b 0 with q | q
  · have h := reach0 (b := -b) (e := -e) ha had (by omega) h4 (by grind) (by grind) (by grind) h0 hc hf
    have e : -b * d = -(b * d) := by grind
    have hd : b * d ≤ 0 := by
      have := mul_nn (show 0 ≤ -b by omega) (show 0 ≤ d by omega)
      omega
    have hp := mul_nn (show 0 ≤ a by omega) (show 0 ≤ d by omega)
    omega
  · have h := reach0 ha had q h4 h3 h2 h1 h0 hc hf
    have := mul_nn q (show 0 ≤ d by omega)
    have hp := mul_nn (show 0 ≤ a by omega) (show 0 ≤ d by omega)
    omega
/-- how far b goes -/
def rch (a h : Int) : Int := 2 * a + Int.tdiv (40 * a) h
theorem rch_of {a d b : Int} (ha : 1 ≤ a) (hd : 1 ≤ d) (h : b * d ≤ 2 * (a * d) + 40) : b ≤ rch a (a * d) := by
  unfold rch
  have hp : 1 ≤ a * d := by have := Int.mul_le_mul ha hd (by omega) (by omega); omega
  rw [Int.tdiv_eq_ediv_of_nonneg (by omega)]
  have : b - 2 * a ≤ 40 * a / (a * d) := by
    rw [Int.le_ediv_iff_mul_le (by omega)]
    have e : (b - 2 * a) * (a * d) = a * (b * d - 2 * (a * d)) := by grind
    rw [e]
    have : a * (b * d - 2 * (a * d)) ≤ a * 40 := Int.mul_le_mul_of_nonneg_left (by omega) (by omega)
    omega
  omega
theorem rch_le {a d b : Int} (ha : 1 ≤ a) (hd : 1 ≤ d) (h : b ≤ rch a (a * d)) : b * d ≤ 2 * (a * d) + 40 := by
  unfold rch at h
  have hp : 1 ≤ a * d := by have := Int.mul_le_mul ha hd (by omega) (by omega); omega
  rw [Int.tdiv_eq_ediv_of_nonneg (by omega)] at h
  have h1 : (40 * a / (a * d)) * (a * d) ≤ 40 * a := Int.ediv_mul_le _ (by omega)
  have h2 : (b - 2 * a) * (a * d) ≤ (40 * a / (a * d)) * (a * d) := Int.mul_le_mul_of_nonneg_right (by omega) (by omega)
  have e : (b - 2 * a) * (a * d) = a * (b * d - 2 * (a * d)) := by grind
  have h3 : a * (b * d - 2 * (a * d)) ≤ a * 40 := by omega
  have := Int.le_of_mul_le_mul_left h3 (by omega)
  omega
