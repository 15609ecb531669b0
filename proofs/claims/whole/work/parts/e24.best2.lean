/-! ===== the best approximation: neighbours ===== -/
def SbX (bd x d : Nat) (s : Sb) : Prop := (0 < s.2.2.2.1 ∧ s.2.2.2.1 ≤ bd ∧ 0 < s.2.2.2.2.2 ∧ s.2.2.2.2.2 ≤ bd) ∧ s.2.2.2.2.1 * s.2.2.2.1 = s.2.2.1 * s.2.2.2.2.2 + 1 ∧ (s.1 + s.2.2.1 * d = x * s.2.2.2.1 ∧ s.2.1 + x * s.2.2.2.2.2 = s.2.2.2.2.1 * d) ∧ 0 < s.2.1
theorem sb_end {bd x d : Nat} : ∀ (k : Nat) (s : Sb), bd < s.2.2.2.1 + s.2.2.2.2.2 + k → SbX bd x d s → SbX bd x d (sbl bd k s) ∧ (bd < (sbl bd k s).2.2.2.1 + (sbl bd k s).2.2.2.2.2 ∨ (sbl bd k s).1 = 0)
  | 0, s, h, hX => ⟨hX, Or.inl h⟩
  | k + 1, s, h, hX => by
    rw [sbl]
    by_cases c1 : bd < s.2.2.2.1 + s.2.2.2.2.2
    · rw [if_pos c1]; exact ⟨hX, Or.inl c1⟩
    rw [if_neg c1]
    by_cases c2 : s.1 = 0
    · rw [if_pos c2]; exact ⟨hX, Or.inr c2⟩
    rw [if_neg c2]
    obtain ⟨⟨i1, i2, i3, i4⟩, i5, ⟨i6, i7⟩, i8⟩ := hX
    by_cases c3 : s.1 < s.2.1
    · rw [if_pos c3]
      refine sb_end k _ (show bd < s.2.2.2.1 + (s.2.2.2.2.2 + s.2.2.2.1) + k by omega) ⟨⟨i1, i2, ?_, ?_⟩, ?_, ⟨i6, ?_⟩, ?_⟩
      · show 0 < s.2.2.2.2.2 + s.2.2.2.1; omega
      · show s.2.2.2.2.2 + s.2.2.2.1 ≤ bd; omega
      · show (s.2.2.2.2.1 + s.2.2.1) * s.2.2.2.1 = s.2.2.1 * (s.2.2.2.2.2 + s.2.2.2.1) + 1
        rw [Nat.add_mul, Nat.mul_add]; omega
      · show s.2.1 - s.1 + x * (s.2.2.2.2.2 + s.2.2.2.1) = (s.2.2.2.2.1 + s.2.2.1) * d
        rw [Nat.add_mul, Nat.mul_add]; omega
      · show 0 < s.2.1 - s.1; omega
    · rw [if_neg c3]
      refine sb_end k _ (show bd < s.2.2.2.1 + s.2.2.2.2.2 + s.2.2.2.2.2 + k by omega) ⟨⟨?_, ?_, i3, i4⟩, ?_, ⟨?_, i7⟩, i8⟩
      · show 0 < s.2.2.2.1 + s.2.2.2.2.2; omega
      · show s.2.2.2.1 + s.2.2.2.2.2 ≤ bd; omega
      · show s.2.2.2.2.1 * (s.2.2.2.1 + s.2.2.2.2.2) = (s.2.2.1 + s.2.2.2.2.1) * s.2.2.2.2.2 + 1
        rw [Nat.add_mul, Nat.mul_add]; omega
      · show s.1 - s.2.1 + (s.2.2.1 + s.2.2.2.2.1) * d = x * (s.2.2.2.1 + s.2.2.2.2.2)
        rw [Nat.add_mul, Nat.mul_add]; omega
theorem cn_lt {e X Y : Int} (he : 0 < e) (h : e * X < e * Y) : X < Y := Int.lt_of_mul_lt_mul_left h (by omega)
theorem cn_eq {e X Y : Int} (he : 0 < e) (h : e * X = e * Y) : X = Y := Int.eq_of_mul_eq_mul_left (by omega) h
theorem pos_m {b m b' : Int} (hb : 0 < b) (hb' : 0 < b') (h : b' = b * m) : b ≤ b' ∧ (b' = b → m = 1) := by
  have hm : 0 < m := by
    by_cases c : 0 < m
    · exact c
    · have := Int.mul_le_mul_of_nonneg_left (show m ≤ 0 by omega) (show 0 ≤ b by omega)
      omega
  have h1 := Int.mul_le_mul_of_nonneg_left (show 1 ≤ m by omega) (show 0 ≤ b by omega)
  refine ⟨by omega, fun y => ?_⟩
  exact cn_eq hb (by rw [← h, y]; omega)
/-- the lower neighbour, or the upper, is the nearest -/
theorem sb_lx {N x d sF l r a b c e bd : Int} (hd : 0 < d) (hN : N = sF * d + x) (hb : 0 < b ∧ b ≤ bd) (he : 0 < e ∧ e ≤ bd) (h1 : c * b = a * e + 1) (hl : l + a * d = x * b) (hr : r + x * e = c * d) (l0 : 0 ≤ l) (r0 : 0 < r) (hend : bd < b + e ∨ l = 0) {b' P' : Int} (hb' : 0 < b' ∧ b' ≤ bd) :
    (l * e < r * b ∨ (l * e = r * b ∧ b ≤ e) → LX l b (sF * b + a) (er N d b' P') b' P') ∧ (¬ (l * e < r * b ∨ (l * e = r * b ∧ b ≤ e)) → LX r e (sF * e + c) (er N d b' P') b' P') := by
  have hP : P' = sF * b' + (P' - sF * b') := by omega
  generalize P' - sF * b' = A at hP
  subst hP
  have hV : N * b' - (sF * b' + A) * d = x * b' - A * d := by grind
  by_cases c1 : A * b ≤ a * b'
  · -- below the lower one
    have k0 : 0 ≤ (a * b' - A * b) * d := Int.mul_nonneg (by omega) (by omega)
    have kp : A * b < a * b' → 0 < (a * b' - A * b) * d := fun y => Int.mul_pos (by omega) hd
    have hE : b * (x * b' - A * d) = b' * l + (a * b' - A * b) * d := by grind
    have hbl : 0 ≤ b' * l := Int.mul_nonneg (by omega) l0
    have h0 : 0 ≤ x * b' - A * d := by
      by_cases y : 0 ≤ x * b' - A * d
      · exact y
      · have := Int.mul_pos hb.1 (show 0 < -(x * b' - A * d) by omega)
        rw [Int.mul_neg] at this
        omega
    rw [er_lo (t := x * b' - A * d) hV.symm h0]
    generalize x * b' - A * d = E at *
    have key : A * b = a * b' → b' = b * (c * b' - e * A) := fun y => by grind
    constructor
    · intro hlow
      have e1 : E * b = b * E := Int.mul_comm _ _
      have e2 : l * b' = b' * l := Int.mul_comm _ _
      by_cases y : A * b < a * b'
      · have := kp y
        exact Or.inl (by omega)
      · have y : A * b = a * b' := by omega
        have z0 : (a * b' - A * b) * d = 0 := by rw [y, Int.sub_self, Int.zero_mul]
        obtain ⟨g1, g2⟩ := pos_m hb.1 hb'.1 (key y)
        refine Or.inr ⟨by omega, ?_⟩
        by_cases z : b = b'
        · subst z
          have : A = a := Int.eq_of_mul_eq_mul_right (by omega) y
          subst this
          exact Or.inr ⟨rfl, Int.le_refl _⟩
        · exact Or.inl (by omega)
    · intro hhigh
      have e1 : b * (E * e) = b' * l * e + (a * b' - A * b) * d * e := by grind
      have e2 : b * (r * b') = r * b * b' := by grind
      have e3 : b' * l * e = l * e * b' := by grind
      have hle : r * b ≤ l * e := by omega
      have f1 := Int.mul_le_mul_of_nonneg_right hle (show 0 ≤ b' by omega)
      by_cases y : A * b < a * b'
      · have := Int.mul_pos (kp y) he.1
        exact Or.inl (cn_lt hb.1 (by omega))
      · have y : A * b = a * b' := by omega
        have z0 : (a * b' - A * b) * d * e = 0 := by rw [y, Int.sub_self, Int.zero_mul, Int.zero_mul]
        by_cases z : r * b < l * e
        · have := Int.mul_lt_mul_of_pos_right z hb'.1
          exact Or.inl (cn_lt hb.1 (by omega))
        · have z : r * b = l * e := by omega
          have z2 : r * b * b' = l * e * b' := by rw [z]
          obtain ⟨g1, g2⟩ := pos_m hb.1 hb'.1 (key y)
          refine Or.inr ⟨cn_eq hb.1 (by omega), Or.inl (by omega)⟩
  · by_cases c2 : c * b' ≤ A * e
    · -- above the upper one
      have k0 : 0 ≤ (A * e - c * b') * d := Int.mul_nonneg (by omega) (by omega)
      have kp : c * b' < A * e → 0 < (A * e - c * b') * d := fun y => Int.mul_pos (by omega) hd
      have hE : e * (A * d - x * b') = b' * r + (A * e - c * b') * d := by grind
      have hbr : 0 < b' * r := Int.mul_pos hb'.1 r0
      have h0 : 0 ≤ A * d - x * b' := by
        by_cases y : 0 ≤ A * d - x * b'
        · exact y
        · have := Int.mul_pos he.1 (show 0 < -(A * d - x * b') by omega)
          rw [Int.mul_neg] at this
          omega
      have hW : A * d - x * b' = (sF * b' + A) * d - N * b' := by omega
      rw [er_hi (t := A * d - x * b') hW h0]
      generalize A * d - x * b' = E at *
      have key : A * e = c * b' → b' = e * (b * A - a * b') := fun y => by grind
      constructor
      · intro hlow
        have e1 : e * (E * b) = b' * r * b + (A * e - c * b') * d * b := by grind
        have e2 : e * (l * b') = l * e * b' := by grind
        have e3 : b' * r * b = r * b * b' := by grind
        have hle : l * e ≤ r * b := by omega
        have f1 := Int.mul_le_mul_of_nonneg_right hle (show 0 ≤ b' by omega)
        by_cases y : c * b' < A * e
        · have := Int.mul_pos (kp y) hb.1
          exact Or.inl (cn_lt he.1 (by omega))
        · have y : A * e = c * b' := by omega
          have z0 : (A * e - c * b') * d * b = 0 := by rw [y, Int.sub_self, Int.zero_mul, Int.zero_mul]
          by_cases z : l * e < r * b
          · have := Int.mul_lt_mul_of_pos_right z hb'.1
            exact Or.inl (cn_lt he.1 (by omega))
          · have z : l * e = r * b := by omega
            have z2 : l * e * b' = r * b * b' := by rw [z]
            obtain ⟨g1, g2⟩ := pos_m he.1 hb'.1 (key y)
            refine Or.inr ⟨cn_eq he.1 (by omega), ?_⟩
            by_cases w : b = b'
            · subst w
              have hbe : e = b := by omega
              subst hbe
              have : A = c := Int.eq_of_mul_eq_mul_right (show e ≠ 0 by omega) y
              subst this
              refine Or.inr ⟨rfl, ?_⟩
              have : a < A := by
                by_cases v : a < A
                · exact v
                · have := Int.mul_le_mul_of_nonneg_right (show A ≤ a by omega) (show 0 ≤ e by omega)
                  omega
              omega
            · exact Or.inl (by omega)
      · intro hhigh
        have e1 : E * e = e * E := Int.mul_comm _ _
        have e2 : r * b' = b' * r := Int.mul_comm _ _
        by_cases y : c * b' < A * e
        · have := kp y
          exact Or.inl (by omega)
        · have y : A * e = c * b' := by omega
          have z0 : (A * e - c * b') * d = 0 := by rw [y, Int.sub_self, Int.zero_mul]
          obtain ⟨g1, g2⟩ := pos_m he.1 hb'.1 (key y)
          refine Or.inr ⟨by omega, ?_⟩
          by_cases z : e = b'
          · subst z
            have : A = c := Int.eq_of_mul_eq_mul_right (by omega) y
            subst this
            exact Or.inr ⟨rfl, Int.le_refl _⟩
          · exact Or.inl (by omega)
    · -- between the two
      have f1 : b' = b * (c * b' - A * e) + e * (A * b - a * b') := by grind
      have f2 := Int.mul_le_mul_of_nonneg_left (show 1 ≤ c * b' - A * e by omega) (show 0 ≤ b by omega)
      have f3 := Int.mul_le_mul_of_nonneg_left (show 1 ≤ A * b - a * b' by omega) (show 0 ≤ e by omega)
      have l00 : l = 0 := by omega
      subst l00
      have hrb : 0 < r * b := Int.mul_pos r0 hb.1
      refine ⟨fun _ => Or.inl ?_, fun y => absurd (Or.inl (by omega)) y⟩
      have hne : 0 < er N d b' (sF * b' + A) := by
        have hE : b * (x * b' - A * d) = -((A * b - a * b') * d) := by grind
        have := Int.mul_pos (show 0 < A * b - a * b' by omega) hd
        unfold er
        rw [hV]
        have : x * b' - A * d ≠ 0 := fun z => by rw [z, Int.mul_zero] at hE; omega
        omega
      have := Int.mul_pos hne hb.1
      omega
