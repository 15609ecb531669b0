/-! ===== the reference: common divisor, lowest terms, size ===== -/
theorem Rv.z {σ : St} {m r x : Nat} (h : Rv σ m r x) : ∃ w, sA σ (m + 2) r = nI w ∧ w ≤ 990 ∧ (w = 0 ↔ x = 0) := by
  obtain ⟨w, hU, hw, hmin⟩ := h
  refine ⟨w, hU.1, hw, fun h => ?_, fun h => ?_⟩
  · subst h
    have := hU.2.2
    rw [Nat.pow_zero] at this
    omega
  · rcases hmin with h1 | h1
    · exact h1
    · have := tp_pos (w - 1)
      omega
theorem tp_two (k : Nat) : 10000 ^ k ≤ 2 ^ (14 * k) := by
  rw [Nat.pow_mul]
  exact Nat.pow_le_pow_left (by omega) k
theorem rf_finds_loop {m u : Nat} (hu : u ≤ 978) : ∀ (n : Nat) (σ : St) (x y : Nat), MS σ m → y ≤ x → x * y < 2 ^ n → x < 10000 ^ u → Rv σ m 8 x → Rv σ m 12 y →
    ∃ σ', fX12_finds_14 (n + 1) σ m = some (σ', ()) ∧ rfR m [8, 9, 10, 11, 12] σ σ' ∧ Rv σ' m 8 (Nat.gcd x y) := by
  intro n
  induction n with
  | zero =>
    intro σ x y hm hyx hxy hx hA hB
    have h0 : y = 0 := by
      rw [Nat.pow_zero] at hxy
      rcases Nat.eq_zero_or_pos y with h | h
      · exact h
      · have := Nat.mul_pos (show 0 < x by omega) h
        omega
    subst h0
    obtain ⟨w, hw, hw9, hwz⟩ := hB.z
    have hw0 : w = 0 := hwz.mpr rfl
    subst hw0
    refine ⟨σ, ?_, rfR.rf, by rw [Nat.gcd_zero_right]; exact hA⟩
    rw [fX12_finds_14]
    simp (disch := first | exact hm | ((repeat (first | apply MS_A | apply MS_I)) <;> exact hm) | omega) only [sm_bind, sm_cb, sm_nm, lits, sm_add, sm_mul, sm_le, sm_lt, sm_eq, sm_div, sm_sub, sA_wA_b, sA_wA_eq, Nat.zero_le, ↓reduceIte, rf_ck, rf_wide, ld_wide, st_wide, hw, Nat.le_refl]
  | succ n ih =>
    intro σ x y hm hyx hxy hx hA hB
    obtain ⟨w, hw, hw9, hwz⟩ := hB.z
    rw [fX12_finds_14]
    by_cases h0 : y = 0
    · have hw0 : w = 0 := hwz.mpr h0
      subst h0
      subst hw0
      refine ⟨σ, ?_, rfR.rf, by rw [Nat.gcd_zero_right]; exact hA⟩
      simp (disch := first | exact hm | ((repeat (first | apply MS_A | apply MS_I)) <;> exact hm) | omega) only [sm_bind, sm_cb, sm_nm, lits, sm_add, sm_mul, sm_le, sm_lt, sm_eq, sm_div, sm_sub, sA_wA_b, sA_wA_eq, Nat.zero_le, ↓reduceIte, rf_ck, rf_wide, ld_wide, st_wide, hw, Nat.le_refl]
    · have hw0 : ¬ w ≤ 0 := by
        intro h
        exact h0 (hwz.mp (by omega))
      obtain ⟨σ1, e1, hR1, hQ1, hV1⟩ := rf_divides (a := 8) (b := 12) hm (by omega) (by omega) (by omega) (by omega) hu hx (by omega) hA hB
      have hm1 := hR1.ms hm
      obtain ⟨σ2, e2, hR2, hV2⟩ := rf_copies (t := 8) (f := 12) hm1 (by omega) (by omega) (by omega) (hB.keep hR1 (by simp))
      have hm2 := hR2.ms hm1
      obtain ⟨σ3, e3, hR3, hV3⟩ := rf_copies (t := 12) (f := 10) hm2 (by omega) (by omega) (by omega) (hV1.keep hR2 (by simp))
      have hm3 := hR3.ms hm2
      have hmod := Nat.mod_lt x (show 0 < y by omega)
      have hhalf : y * (x % y) < 2 ^ n := by
        have h1 : 2 * (x % y) ≤ x := by
          have h2 := Nat.div_add_mod x y
          have h3 : y * 1 ≤ y * (x / y) := Nat.mul_le_mul_left y (Nat.div_pos hyx (by omega))
          omega
        have h2 : y * (2 * (x % y)) ≤ y * x := Nat.mul_le_mul_left y h1
        have h3 : y * (2 * (x % y)) = 2 * (y * (x % y)) := Nat.mul_left_comm _ _ _
        have h4 : 2 ^ (n + 1) = 2 ^ n * 2 := by rw [Nat.pow_succ]
        have h5 : x * y = y * x := Nat.mul_comm _ _
        omega
      obtain ⟨σ4, e4, hR4, hV4⟩ := ih σ3 y (x % y) hm3 (by omega) hhalf (by omega) (hV2.keep hR3 (by simp)) hV3
      refine ⟨σ4, ?_, (hR1.mo (by simp)).tr ((hR2.mo (by simp)).tr ((hR3.mo (by simp)).tr hR4)), ?_⟩
      · have c0 : ¬ (nI w ≤ nI 0) := by rw [sm_le (by omega) (by omega)]; exact hw0
        have q1 : ldI σ (m + 2) (nI 12) = some (nI w) := by rw [ld_wide hm (by omega), hw]
        simp only [lits, sm_bind, sm_cb, rf_wide hm, q1, c0, ↓reduceIte, rf_ck hm, rf_ck hm1, rf_ck hm2, e1, e2, e3, e4]
      · have hg : Nat.gcd x y = Nat.gcd y (x % y) := by
          rw [Nat.gcd_comm x y, Nat.gcd_rec y x, Nat.gcd_comm]
        rw [hg]
        exact hV4
theorem rf_finds {m a b x y u : Nat} {σ : St} (hm : MS σ m) (ha : a < 15) (hb : b < 15) (ha9 : a ≠ 8) (hb9 : b ≠ 8 ∧ b ≠ 12) (hu : u ≤ 978) (hx : x < 10000 ^ u) (hy : y < 10000 ^ u) (hA : Rv σ m a x) (hB : Rv σ m b y) :
    ∃ σ', fX12_finds σ m (nI a) (nI b) = some (σ', ()) ∧ rfR m [8, 9, 10, 11, 12] σ σ' ∧ Rv σ' m 8 (Nat.gcd x y) := by
  obtain ⟨σ1, e1, hR1, hV1⟩ := rf_copies (t := 8) (f := a) hm (by omega) ha (by omega) hA
  have hm1 := hR1.ms hm
  obtain ⟨σ2, e2, hR2, hV2⟩ := rf_copies (t := 12) (f := b) hm1 (by omega) hb (by omega) (hB.keep hR1 (by simp; omega))
  have hm2 := hR2.ms hm1
  have hV12 := hV1.keep hR2 (by simp)
  have hbig : ∀ p q, p < 10000 ^ u → q < 10000 ^ u → p * q < 2 ^ 30000 := by
    intro p q hp hq
    have h1 : p * q < 10000 ^ u * 10000 ^ u := Nat.mul_lt_mul'' hp hq
    rw [← Nat.pow_add] at h1
    have h2 := tp_two (u + u)
    have h3 : 2 ^ (14 * (u + u)) ≤ 2 ^ 30000 := Nat.pow_le_pow_right (by omega) (by omega)
    exact Nat.lt_of_lt_of_le h1 (Nat.le_trans h2 h3)
  have hfin : ∃ σ', fX12_finds_14 FU σ2 m = some (σ', ()) ∧ rfR m [8, 9, 10, 11, 12] σ2 σ' ∧ Rv σ' m 8 (Nat.gcd x y) := by
    by_cases hyx : y ≤ x
    · obtain ⟨σ3, e3, h3⟩ := rf_finds_loop hu (FU - 1) σ2 x y hm2 hyx (Nat.lt_of_lt_of_le (hbig x y hx hy) (Nat.pow_le_pow_right (by omega) (by unfold FU; omega))) hx hV12 hV2
      rw [show FU - 1 + 1 = FU by unfold FU; omega] at e3
      exact ⟨σ3, e3, h3⟩
    · -- the first step swaps
      obtain ⟨w, hw, hw9, hwz⟩ := hV2.z
      have hw0 : ¬ w ≤ 0 := by
        intro h
        have := hwz.mp (by omega)
        omega
      obtain ⟨σ3, e3, hR3, hQ3, hV3⟩ := rf_divides (a := 8) (b := 12) hm2 (by omega) (by omega) (by omega) (by omega) hu hx (by omega) hV12 hV2
      have hm3 := hR3.ms hm2
      obtain ⟨σ4, e4, hR4, hV4⟩ := rf_copies (t := 8) (f := 12) hm3 (by omega) (by omega) (by omega) (hV2.keep hR3 (by simp))
      have hm4 := hR4.ms hm3
      obtain ⟨σ5, e5, hR5, hV5⟩ := rf_copies (t := 12) (f := 10) hm4 (by omega) (by omega) (by omega) (hV3.keep hR4 (by simp))
      have hm5 := hR5.ms hm4
      rw [Nat.mod_eq_of_lt (by omega)] at hV5
      obtain ⟨σ6, e6, hR6, hV6⟩ := rf_finds_loop hu (FU - 2) σ5 y x hm5 (by omega) (Nat.lt_of_lt_of_le (hbig y x hy hx) (Nat.pow_le_pow_right (by omega) (by unfold FU; omega))) hy (hV4.keep hR5 (by simp)) hV5
      rw [show FU - 2 + 1 = FU - 1 by unfold FU; omega] at e6
      refine ⟨σ6, ?_, (hR3.mo (by simp)).tr ((hR4.mo (by simp)).tr ((hR5.mo (by simp)).tr hR6)), by rw [Nat.gcd_comm]; exact hV6⟩
      rw [show FU = FU - 1 + 1 by unfold FU; omega, fX12_finds_14]
      have c0 : ¬ (nI w ≤ nI 0) := by rw [sm_le (by omega) (by omega)]; exact hw0
      have q1 : ldI σ2 (m + 2) (nI 12) = some (nI w) := by rw [ld_wide hm2 (by omega), hw]
      simp only [lits, sm_bind, sm_cb, rf_wide hm2, q1, c0, ↓reduceIte, rf_ck hm2, rf_ck hm3, rf_ck hm4, e3, e4, e5, e6]
  obtain ⟨σ3, e3, hR3, hV3⟩ := hfin
  refine ⟨σ3, ?_, (hR1.mo (by simp)).tr ((hR2.mo (by simp)).tr hR3), hV3⟩
  unfold fX12_finds
  simp only [lits, sm_bind, sm_cb, rf_ck hm, rf_ck hm1, e1, e2, e3]
theorem rf_lowers {m x y u : Nat} {σ : St} (hm : MS σ m) (hu : u ≤ 978) (hx : x < 10000 ^ u) (hy : y < 10000 ^ u) (h0 : 0 < y) (hA : Rv σ m 6 x) (hB : Rv σ m 7 y) :
    ∃ σ', fX12_lowers σ m = some (σ', ()) ∧ rfR m [6, 7, 8, 9, 10, 11, 12] σ σ' ∧ Rv σ' m 6 (x / Nat.gcd x y) ∧ Rv σ' m 7 (y / Nat.gcd x y) := by
  obtain ⟨σ1, e1, hR1, hV1⟩ := rf_finds (a := 6) (b := 7) hm (by omega) (by omega) (by omega) (by omega) hu hx hy hA hB
  have hm1 := hR1.ms hm
  have hg0 : 0 < Nat.gcd x y := Nat.gcd_pos_of_pos_right _ h0
  obtain ⟨σ2, e2, hR2, hV2, _⟩ := rf_divides (a := 6) (b := 8) hm1 (by omega) (by omega) (by omega) (by omega) hu hx hg0 (hA.keep hR1 (by simp)) hV1
  have hm2 := hR2.ms hm1
  obtain ⟨σ3, e3, hR3, hV3⟩ := rf_copies (t := 6) (f := 9) hm2 (by omega) (by omega) (by omega) hV2
  have hm3 := hR3.ms hm2
  obtain ⟨σ4, e4, hR4, hV4, _⟩ := rf_divides (a := 7) (b := 8) hm3 (by omega) (by omega) (by omega) (by omega) hu hy hg0 (((hB.keep hR1 (by simp)).keep hR2 (by simp)).keep hR3 (by simp)) ((hV1.keep hR2 (by simp)).keep hR3 (by simp))
  have hm4 := hR4.ms hm3
  obtain ⟨σ5, e5, hR5, hV5⟩ := rf_copies (t := 7) (f := 9) hm4 (by omega) (by omega) (by omega) hV4
  refine ⟨σ5, ?_, (hR1.mo (by simp)).tr ((hR2.mo (by simp)).tr ((hR3.mo (by simp)).tr ((hR4.mo (by simp)).tr (hR5.mo (by simp))))), (hV3.keep hR4 (by simp)).keep hR5 (by simp), hV5⟩
  unfold fX12_lowers
  simp only [lits, sm_bind, sm_cb, rf_ck hm, rf_ck hm1, rf_ck hm2, rf_ck hm3, rf_ck hm4, e1, e2, e3, e4, e5]
/-- thirty digits -/
def dig30 : Nat := 100 * 10000 ^ 7
theorem rf_isSmall {m r x : Nat} {σ : St} (hm : MS σ m) (hr : r < 15) (hA : Rv σ m r x) : fX12_isSmall σ m (nI r) = some (σ, nI (if x < dig30 then 1 else 0)) := by
  obtain ⟨w, hU, hw, hmin⟩ := hA
  have r1 := hU.1
  have d30 : dig30 = 100 * 10000 ^ 7 := rfl
  have q1 : ldI σ (m + 2) (nI r) = some (nI w) := by rw [ld_wide hm hr, r1]
  unfold fX12_isSmall fX12_isSmall_42
  by_cases h8 : w < 8
  · have hx : x < dig30 := by
      have h1 := tp_mono (show w ≤ 7 by omega)
      have h2 := hU.2.2
      omega
    rw [if_pos hx]
    simp (disch := first | exact hm | ((repeat (first | apply MS_A | apply MS_I)) <;> exact hm) | omega) only [sm_bind, sm_cb, sm_nm, lits, sm_add, sm_mul, sm_le, sm_lt, sm_eq, sm_div, sm_sub, sA_wA_b, sA_wA_eq, Nat.zero_le, ↓reduceIte, rf_ck, rf_wide, ld_wide, st_wide, q1, h8]
  · by_cases h9 : w = 8
    · subst h9
      have r2 := hU.2.1 7 (by omega)
      have h8' : dq x 7 < 10000 := by
        unfold dq
        rw [Nat.div_lt_iff_lt_mul (tp_pos _), ← Nat.pow_succ']
        exact hU.2.2
      rw [Nat.mod_eq_of_lt h8'] at r2
      have hiff : 100 ≤ dq x 7 ↔ ¬ x < dig30 := by
        unfold dq
        rw [Nat.le_div_iff_mul_le (tp_pos _)]
        omega
      have q2 : ldI σ (m + 1) (nI 1000 * nI r + nI 8 - nI 1) = some (nI (dq x 7)) := by
        rw [sm_mul, sm_add, sm_sub (by omega), show 1000 * r + 8 - 1 = 1000 * r + 7 by omega, ld_big hm (by omega), r2]
      have c1 : ¬ (nI 8 < nI 8) := by rw [sm_lt (by omega) (by omega)]; omega
      by_cases hc : 100 ≤ dq x 7
      · have c2 : nI 100 ≤ nI (dq x 7) := by rw [sm_le (by omega) (by omega)]; exact hc
        rw [if_neg (hiff.mp hc)]
        simp only [lits, sm_bind, rf_wide hm, rf_big hm, q1, q2, c1, c2, ↓reduceIte]
      · have c2 : ¬ (nI 100 ≤ nI (dq x 7)) := by rw [sm_le (by omega) (by omega)]; exact hc
        rw [if_pos (by
          apply Classical.not_not.mp
          intro h
          exact hc (hiff.mpr h))]
        simp only [lits, sm_bind, rf_wide hm, rf_big hm, q1, q2, c1, c2, ↓reduceIte]
    · have hx : ¬ x < dig30 := by
        rcases hmin with h | h
        · omega
        · have h1 := tp_mono (show 8 ≤ w - 1 by omega)
          have h3 : (10000 : Nat) ^ 8 = 10000 ^ 7 * 10000 := tp_s 7
          omega
      rw [if_neg hx]
      simp (disch := first | exact hm | ((repeat (first | apply MS_A | apply MS_I)) <;> exact hm) | omega) only [sm_bind, sm_cb, sm_nm, lits, sm_add, sm_mul, sm_le, sm_lt, sm_eq, sm_div, sm_sub, sA_wA_b, sA_wA_eq, Nat.zero_le, ↓reduceIte, rf_ck, rf_wide, ld_wide, st_wide, q1, h8, h9]
