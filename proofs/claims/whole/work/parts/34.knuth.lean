/-! ===== guesses of a quotient's digit ===== -/
/-- with a scaled divisor the first limb is high -/
theorem kn_scale {B t : Nat} (hB : 12 ≤ B) (hev : B / 2 * 2 = B) (h1 : 1 ≤ t) (h2 : t < B) : B / 2 ≤ B / (t + 1) * t := by
  by_cases c1 : B / 2 ≤ t
  · have : 1 ≤ B / (t + 1) := (Nat.le_div_iff_mul_le (by omega)).mpr (by omega)
    have := Nat.mul_le_mul_right t this
    omega
  · by_cases c2 : B ≤ 4 * t
    · have : 2 ≤ B / (t + 1) := (Nat.le_div_iff_mul_le (by omega)).mpr (by omega)
      have := Nat.mul_le_mul_right t this
      omega
    · by_cases c3 : t = 1
      · subst c3
        omega
      · -- (t + 1) * d ≥ B - t
        have hd := Nat.div_add_mod B (t + 1)
        have hm := Nat.mod_lt B (show t + 1 > 0 by omega)
        have q1 : B - t ≤ (t + 1) * (B / (t + 1)) := by omega
        have q2 : t * (B - t) ≤ (t + 1) * (B / (t + 1) * t) := by
          have := Nat.mul_le_mul_left t q1
          rw [show (t + 1) * (B / (t + 1) * t) = t * ((t + 1) * (B / (t + 1))) by rw [← Nat.mul_assoc, Nat.mul_comm]]
          exact this
        -- B (t + 1) ≤ 2 t (B - t)
        have q3 : t * (4 * t) ≤ t * B := Nat.mul_le_mul_left t (by omega)
        have q4 : 2 * B ≤ t * B := Nat.mul_le_mul_right B (by omega)
        have q5 : t * (B - t) = t * B - t * t := Nat.mul_sub t B t
        have q6 : t * (4 * t) = 4 * (t * t) := Nat.mul_left_comm _ _ _
        have q7 : (t + 1) * (2 * (B / (t + 1) * t)) = 2 * ((t + 1) * (B / (t + 1) * t)) := Nat.mul_left_comm _ _ _
        have q8 : (t + 1) * B = t * B + B := by rw [Nat.add_mul, Nat.one_mul]
        have q9 : (t + 1) * B ≤ (t + 1) * (2 * (B / (t + 1) * t)) := by rw [q7, q8]; omega
        have := Nat.le_of_mul_le_mul_left q9 (by omega)
        omega
/-- a guess out of the first limbs is not too small -/
theorem kn_ge {V s T P : Nat} (hP : 0 < P) (hT : T * P ≤ s) (hs : 0 < s) (h0 : 0 < T) : V / s ≤ V / P / T := by
  rw [Nat.div_div_eq_div_mul]
  rw [Nat.le_div_iff_mul_le (Nat.mul_pos hP h0)]
  have h1 := Nat.div_mul_le_self V s
  have h2 : V / s * (P * T) ≤ V / s * s := Nat.mul_le_mul_left _ (by rw [Nat.mul_comm]; exact hT)
  omega
/-- a guess that is too great by the first two limbs is too great -/
theorem kn_down {V s T P g : Nat} (hP : 0 < P) (hT : T * P ≤ s) (h : V / P < g * T) : V < g * s := by
  have h1 : V < (V / P + 1) * P := by
    have := Nat.div_add_mod V P
    have h3 := Nat.mod_lt V hP
    rw [Nat.add_mul, Nat.one_mul, Nat.mul_comm (V / P)]
    omega
  have h2 : (V / P + 1) * P ≤ g * T * P := Nat.mul_le_mul_right P h
  have h3 : g * T * P ≤ g * s := by rw [Nat.mul_assoc]; exact Nat.mul_le_mul_left g hT
  omega
/-- a guess that is not, is at most one too great -/
theorem kn_up {V s T P g q : Nat} (hP : 0 < P) (hT : s < (T + 1) * P) (hg : g ≤ T + 1) (h : g * T ≤ V / P) (hq : V < (q + 1) * s) : g ≤ q + 1 := by
  apply Nat.le_of_not_lt
  intro hc
  have h1 : g * T * P ≤ V := by
    have := Nat.div_mul_le_self V P
    exact Nat.le_trans (Nat.mul_le_mul_right P h) this
  have h2 : (q + 1) * s ≤ (g - 1) * s := Nat.mul_le_mul_right s (by omega)
  have h3 : (g - 1) * s ≤ (g - 1) * ((T + 1) * P) := Nat.mul_le_mul_left _ (by omega)
  have h4 : (g - 1) * ((T + 1) * P) = (g - 1) * (T + 1) * P := by rw [Nat.mul_assoc]
  have h5 : (g - 1) * (T + 1) ≤ g * T := by
    obtain ⟨e, rfl⟩ : ∃ e, g = e + 1 := ⟨g - 1, by omega⟩
    rw [Nat.add_sub_cancel, Nat.mul_add, Nat.add_mul]
    omega
  have h6 : (g - 1) * (T + 1) * P ≤ g * T * P := Nat.mul_le_mul_right P h5
  omega
/-- a guess with a great rest is right -/
theorem kn_rest {V s T P g l : Nat} (hP : 0 < P) (hT : s < (T + 1) * P) (h : V / P = g * T + l) (hl : g ≤ l) : g * s ≤ V := by
  have h1 := Nat.div_mul_le_self V P
  rw [h] at h1
  have h2 : g * s ≤ g * ((T + 1) * P) := Nat.mul_le_mul_left _ (Nat.le_of_lt hT)
  have h3 : g * ((T + 1) * P) = (g * T + g) * P := by rw [← Nat.mul_assoc, Nat.mul_add, Nat.mul_one]
  have h4 : (g * T + g) * P ≤ (g * T + l) * P := Nat.mul_le_mul_right P (by omega)
  omega
