/-! ===== the reference: what the signs and the known functions give ===== -/
theorem qok.sg {q : Qv} (h : qok q) : -1 ≤ q.1 ∧ q.1 ≤ 1 := by
  rcases h.1 with h | h | h <;> omega
theorem qok.n8 {q : Qv} (h : qok q) : q.2.1 < 10000 ^ 8 := Nat.lt_trans h.2.2.2.2.1 dig30_lt
theorem qok.d8 {q : Qv} (h : qok q) : q.2.2 < 10000 ^ 8 := Nat.lt_trans h.2.2.2.2.2 dig30_lt
theorem qok.dp {q : Qv} (h : qok q) : 0 < q.2.2 := h.2.2.1
theorem qok.nz {q : Qv} (h : qok q) (h0 : q.2.1 ≠ 0) : q.1 = 1 ∨ q.1 = -1 := by
  rcases h.1 with h1 | h1
  · exact absurd (h.2.1.mp h1) h0
  · exact h1
theorem mul16 {x y : Nat} (hx : x < 10000 ^ 8) (hy : y < 10000 ^ 8) : x * y < 10000 ^ 16 := by
  rw [show 16 = 8 + 8 by omega, Nat.pow_add]
  exact Nat.mul_lt_mul'' hx hy
theorem Vl.sg {σ : St} {m i : Nat} {q : Qv} (h : Vl σ m i q) (hm : MS σ m) (hi : i < 12600) : ldI σ (m + 3) (nI i) = some (iz q.1) := by
  rw [ld_sign hm hi, h.2.1]
/-- the order of two values: -1, 0, 1 -/
def cmpq (p q : Qv) : Int := if p.1 = q.1 then p.1 * cmp3 (p.2.1 * q.2.2) (q.2.1 * p.2.2) else if q.1 ≤ p.1 then 1 else -1
theorem rf_order {m i j : Nat} {p q : Qv} {σ : St} (hm : MS σ m) (hi : i < 12600) (hj : j < 12600) (hp : Vl σ m i p) (hq : Vl σ m j q) :
    ∃ σ', fX12_order σ m (nI i) (nI j) = some (σ', iz (cmpq p q)) ∧ rfR m [0, 1, 2, 3, 4, 5] σ σ' := by
  have g1 := hp.sg hm hi
  have g2 := hq.sg hm hj
  have b1 := hp.1.sg
  have b2 := hq.1.sg
  have F : rfR m [0, 1, 2, 3, 4, 5] σ σ := rfR.rf
  unfold fX12_order cmpq
  by_cases hc : p.1 = q.1
  · have c1 : iz p.1 = iz q.1 := by rw [hc]
    obtain ⟨σ1, e1, hR1, A, B, C, D⟩ := rf_loadsBoth hm hi hj hp hq
    have hm1 := hR1.ms hm
    have hp := hp.keep hR1
    have hq := hq.keep hR1
    have F := F.tr (hR1.mo (by simp))
    obtain ⟨σ2, e2, hR2, M1⟩ := rf_multiplies (t := 4) (a := 0) (b := 3) (u := 8) (v := 8) hm1 (by omega) (by omega) (by omega) (by omega) (by omega) (by omega) hp.1.n8 hq.1.d8 A D
    have hm2 := hR2.ms hm1
    have A := A.keep hR2 (by simp)
    have B := B.keep hR2 (by simp)
    have C := C.keep hR2 (by simp)
    have D := D.keep hR2 (by simp)
    have hp := hp.keep hR2
    have hq := hq.keep hR2
    have F := F.tr (hR2.mo (by simp))
    obtain ⟨σ3, e3, hR3, M2⟩ := rf_multiplies (t := 5) (a := 2) (b := 1) (u := 8) (v := 8) hm2 (by omega) (by omega) (by omega) (by omega) (by omega) (by omega) hq.1.n8 hp.1.d8 C B
    have hm3 := hR3.ms hm2
    have M1 := M1.keep hR3 (by simp)
    have hp := hp.keep hR3
    have hq := hq.keep hR3
    have F := F.tr (hR3.mo (by simp))
    have hc9 := rf_compares hm3 (show 4 < 15 by omega) (show 5 < 15 by omega) M1 M2
    have g3 := hp.sg hm3 hi
    refine ⟨σ3, ?_, F⟩
    rw [if_pos hc]
    simp only [lits, sm_bind, sm_cb, sm_nm, rf_ck hm, rf_ck hm1, rf_ck hm2, rf_ck hm3, e1, e2, e3, rf_sign hm, rf_sign hm3, g1, g2, c1, g3, hc9, iz_mul, ↓reduceIte]
    rw [hc]
  · have c1 : ¬ (iz p.1 = iz q.1) := by rw [iz_eq (by omega) (by omega) (by omega) (by omega)]; exact hc
    rw [if_neg hc]
    by_cases h2 : q.1 ≤ p.1
    · have c2 : iz q.1 ≤ iz p.1 := by rw [iz_le (by omega) (by omega) (by omega) (by omega)]; exact h2
      refine ⟨σ, ?_, rfR.rf⟩
      rw [if_pos h2]
      simp only [sm_bind, rf_sign hm, g1, g2, c1, c2, ↓reduceIte]
      rfl
    · have c2 : ¬ (iz q.1 ≤ iz p.1) := by rw [iz_le (by omega) (by omega) (by omega) (by omega)]; exact h2
      refine ⟨σ, ?_, rfR.rf⟩
      rw [if_neg h2]
      simp only [sm_bind, rf_sign hm, g1, g2, c1, c2, ↓reduceIte]
      rfl
/-- two amounts with signs, added: sign and amount -/
def jnS (s t : Int) (x y : Nat) : Int := if s = 0 then t else if t = 0 then s else if s = t then s else if x < y then t else if x = y then 0 else s
def jnN (s t : Int) (x y : Nat) : Nat := if s = 0 ∨ t = 0 ∨ s = t then x + y else if x < y then y - x else x - y
theorem cmp3_lt {x y : Nat} : cmp3 x y < 0 ↔ x < y := by
  unfold cmp3
  split
  · simp [*]
  · split <;> simp [*]
theorem cmp3_b (x y : Nat) : -1 ≤ cmp3 x y ∧ cmp3 x y ≤ 1 := by
  unfold cmp3
  split
  · simp
  · split <;> simp
theorem rf_joins {m x y : Nat} {s t : Int} {σ : St} (hm : MS σ m) (hx : x < 10000 ^ 900) (hy : y < 10000 ^ 900) (hs : -1 ≤ s ∧ s ≤ 1) (ht : -1 ≤ t ∧ t ≤ 1) (hA : Rv σ m 4 x) (hB : Rv σ m 5 y) :
    ∃ σ', fX12_joins σ m (iz s) (iz t) = some (σ', iz (jnS s t x y)) ∧ rfR m [6] σ σ' ∧ Rv σ' m 6 (jnN s t x y) := by
  have e0 : nI 0 = iz 0 := rfl
  have z1 : (iz s = nI 0) = (s = 0) := by rw [e0, iz_eq (by omega) (by omega) (by omega) (by omega)]
  have z2 : (iz t = nI 0) = (t = 0) := by rw [e0, iz_eq (by omega) (by omega) (by omega) (by omega)]
  have z3 : (iz s = iz t) = (s = t) := by rw [iz_eq (by omega) (by omega) (by omega) (by omega)]
  have F : rfR m [6] σ σ := rfR.rf
  unfold fX12_joins jnS jnN
  by_cases hc : s = 0 ∨ t = 0 ∨ s = t
  · obtain ⟨σ1, e1, hR1, A⟩ := rf_copies (t := 6) (f := 4) hm (by omega) (by omega) (by omega) hA
    have hm1 := hR1.ms hm
    have F := F.tr (hR1.mo (by simp))
    have hB := hB.keep hR1 (by simp)
    obtain ⟨σ2, e2, hR2, B⟩ := rf_adds (t := 6) (b := 5) (u := 900) hm1 (by omega) (by omega) (by omega) (by omega) hx hy A hB
    have hm2 := hR2.ms hm1
    have F := F.tr (hR2.mo (by simp))
    rw [if_pos hc]
    refine ⟨σ2, ?_, F, B⟩
    have tail : fX12_joins_13 σ m (iz s) (iz t) = some (σ2, iz (if s = 0 then t else s)) := by
      unfold fX12_joins_13
      by_cases h0 : s = 0
      · simp only [lits, sm_bind, sm_cb, sm_nm, rf_ck hm, rf_ck hm1, rf_ck hm2, e1, e2, z1, h0, ↓reduceIte]
        rw [if_pos (show iz 0 = nI 0 from rfl)]
      · simp only [lits, sm_bind, sm_cb, sm_nm, rf_ck hm, rf_ck hm1, rf_ck hm2, e1, e2, z1, h0, ↓reduceIte]
    by_cases h0 : s = 0
    · rw [if_pos h0] at tail
      simp only [lits, z1, h0, ↓reduceIte]
      rw [h0] at tail
      exact tail
    · rw [if_neg h0] at tail
      by_cases h1 : t = 0
      · simp only [lits, z1, z2, h0, h1, ↓reduceIte]
        rw [h1] at tail
        exact tail
      · have h2 : s = t := by
          rcases hc with h | h | h
          · exact absurd h h0
          · exact absurd h h1
          · exact h
        simp only [lits, z1, z2, z3, h0, h1, h2, ↓reduceIte]
        rw [h2] at tail
        exact tail
  · have h0 : ¬ s = 0 := fun h => hc (Or.inl h)
    have h1 : ¬ t = 0 := fun h => hc (Or.inr (Or.inl h))
    have h2 : ¬ s = t := fun h => hc (Or.inr (Or.inr h))
    have hcp := rf_compares hm (show 4 < 15 by omega) (show 5 < 15 by omega) hA hB
    have cb := cmp3_b x y
    rw [if_neg hc, if_neg h0, if_neg h1, if_neg h2]
    by_cases hlt : x < y
    · have c9 : ¬ (nI 0 ≤ iz (cmp3 x y)) := by
        rw [e0, iz_le (by omega) (by omega) (by omega) (by omega)]
        have := cmp3_lt.mpr hlt
        omega
      obtain ⟨σ1, e1, hR1, A⟩ := rf_copies (t := 6) (f := 5) hm (by omega) (by omega) (by omega) hB
      have hm1 := hR1.ms hm
      have F := F.tr (hR1.mo (by simp))
      have hA := hA.keep hR1 (by simp)
      obtain ⟨σ2, e2, hR2, B⟩ := rf_takesAway (t := 6) (b := 4) hm1 (by omega) (by omega) (by omega) (Nat.le_of_lt hlt) A hA
      have hm2 := hR2.ms hm1
      have F := F.tr (hR2.mo (by simp))
      obtain ⟨w, w1, w2, w3⟩ := B.z
      have q1 : ldI σ2 (m + 2) (nI 6) = some (nI w) := by rw [ld_wide hm2 (by omega), w1]
      have c8 : ¬ (nI w = nI 0) := by rw [sm_eq (by omega) (by omega)]; intro h; have := w3.mp h; omega
      have c7 : ¬ (nI 1 = nI 0) := by rw [sm_eq (by omega) (by omega)]; omega
      rw [if_pos hlt, if_pos hlt]
      refine ⟨σ2, ?_, F, B⟩
      simp only [lits, z1, z2, z3, h0, h1, h2, ↓reduceIte]
      simp only [lits, sm_bind, sm_cb, sm_nm, rf_ck hm, rf_ck hm1, rf_ck hm2, e1, e2, hcp, c9, ↓reduceIte, fX12_joins_51, c7, fX12_joins_64, fX12_joins_79, rf_wide hm2, q1, c8]
    · have c9 : nI 0 ≤ iz (cmp3 x y) := by
        rw [e0, iz_le (by omega) (by omega) (by omega) (by omega)]
        apply Int.not_lt.mp
        intro h
        exact hlt (cmp3_lt.mp h)
      obtain ⟨σ1, e1, hR1, A⟩ := rf_copies (t := 6) (f := 4) hm (by omega) (by omega) (by omega) hA
      have hm1 := hR1.ms hm
      have F := F.tr (hR1.mo (by simp))
      have hB := hB.keep hR1 (by simp)
      obtain ⟨σ2, e2, hR2, B⟩ := rf_takesAway (t := 6) (b := 5) hm1 (by omega) (by omega) (by omega) (Nat.le_of_not_lt hlt) A hB
      have hm2 := hR2.ms hm1
      have F := F.tr (hR2.mo (by simp))
      obtain ⟨w, w1, w2, w3⟩ := B.z
      have q1 : ldI σ2 (m + 2) (nI 6) = some (nI w) := by rw [ld_wide hm2 (by omega), w1]
      rw [if_neg hlt, if_neg hlt]
      refine ⟨σ2, ?_, F, B⟩
      simp only [lits, z1, z2, z3, h0, h1, h2, ↓reduceIte]
      by_cases hxy : x = y
      · have hw0 : w = 0 := w3.mpr (by omega)
        rw [if_pos hxy]
        simp only [lits, sm_bind, sm_cb, sm_nm, rf_ck hm, rf_ck hm1, rf_ck hm2, e1, e2, hcp, c9, ↓reduceIte, fX12_joins_51, fX12_joins_64, fX12_joins_79, rf_wide hm2, q1, hw0]
        rfl
      · have c8 : ¬ (nI w = nI 0) := by rw [sm_eq (by omega) (by omega)]; intro h; have := w3.mp h; omega
        rw [if_neg hxy]
        simp only [lits, sm_bind, sm_cb, sm_nm, rf_ck hm, rf_ck hm1, rf_ck hm2, e1, e2, hcp, c9, ↓reduceIte, fX12_joins_51, fX12_joins_64, fX12_joins_79, rf_wide hm2, q1, c8]
