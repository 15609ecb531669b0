theorem iz_ng (s : Int) : nI 0 - iz s = iz (-s) := by
  rw [sm_iz, iz_sub]
  congr 1
  omega
theorem jn_nz {s t : Int} {x y : Nat} (hs : s = 0 ∨ s = 1 ∨ s = -1) (ht : t = 0 ∨ t = 1 ∨ t = -1) (hx : s = 0 ↔ x = 0) (hy : t = 0 ↔ y = 0) : jnN s t x y ≠ 0 → jnS s t x y = 1 ∨ jnS s t x y = -1 := by
  unfold jnS jnN
  intro h
  by_cases h0 : s = 0
  · rw [if_pos (Or.inl h0)] at h
    rw [if_pos h0]
    rcases ht with h1 | h1
    · have := hx.mp h0
      have := hy.mp h1
      omega
    · exact h1
  · rw [if_neg h0]
    by_cases h1 : t = 0
    · rw [if_pos h1]
      rcases hs with h2 | h2
      · exact absurd h2 h0
      · exact h2
    · rw [if_neg h1]
      by_cases h2 : s = t
      · rw [if_pos h2]
        rcases hs with h3 | h3
        · exact absurd h3 h0
        · exact h3
      · rw [if_neg h2]
        rw [if_neg (by intro h; rcases h with h | h | h <;> contradiction)] at h
        by_cases h3 : x < y
        · rw [if_pos h3]
          rcases ht with h4 | h4
          · exact absurd h4 h1
          · exact h4
        · rw [if_neg h3]
          rw [if_neg h3] at h
          rw [if_neg (by omega)]
          rcases hs with h4 | h4
          · exact absurd h4 h0
          · exact h4
theorem jnN_le (s t : Int) (x y : Nat) : jnN s t x y ≤ x + y := by
  unfold jnN
  split
  · exact Nat.le_refl _
  · split <;> omega
theorem rf_sums {m st i j : Nat} {p q : Qv} {σ : St} (hm : MS σ m) (hst : st = 1 ∨ st = 2 ∨ st = 16) (hi : i < 12600) (hj : j < 12600) (hp : Vl σ m i p) (hq : Vl σ m j q) (t : Int) (X Y D : Nat) (ht : t = if st = 2 then -q.1 else q.1) (hX : X = if st = 16 then p.2.1 else p.2.1 * q.2.2) (hY : Y = if st = 16 then q.2.1 else q.2.1 * p.2.2) (hD : D = if st = 16 then p.2.2 + q.2.2 else p.2.2 * q.2.2) :
    ∃ σ', fX12_sums σ m (nI st) (nI i) (nI j) = some (σ', iz (jnS p.1 t X Y)) ∧ rfR m [0, 1, 2, 3, 4, 5, 6, 7] σ σ' ∧ Rv σ' m 6 (jnN p.1 t X Y) ∧ Rv σ' m 7 D := by
  have b1 := hp.1.sg
  have b2 := hq.1.sg
  have bt : -1 ≤ t ∧ t ≤ 1 := by rw [ht]; split <;> omega
  have F : rfR m [0, 1, 2, 3, 4, 5, 6, 7] σ σ := rfR.rf
  have h16 : (10000 : Nat) ^ 16 ≤ 10000 ^ 900 := tp_mono (by omega)
  have h8 : (10000 : Nat) ^ 8 ≤ 10000 ^ 900 := tp_mono (by omega)
  have n1 := hp.1.n8
  have n2 := hq.1.n8
  have d1 := hp.1.d8
  have d2 := hq.1.d8
  have core : ∃ σ', fX12_sums_22 σ m (nI st) (nI i) (nI j) (iz t) = some (σ', iz (jnS p.1 t X Y)) ∧ rfR m [0, 1, 2, 3, 4, 5, 6, 7] σ σ' ∧ Rv σ' m 6 (jnN p.1 t X Y) ∧ Rv σ' m 7 D := by
    unfold fX12_sums_22
    obtain ⟨σ1, e1, hR1, A, B, C, E⟩ := rf_loadsBoth hm hi hj hp hq
    have hm1 := hR1.ms hm
    have hp := hp.keep hR1
    have hq := hq.keep hR1
    have F := F.tr (hR1.mo (by simp))
    by_cases h16s : st = 16
    · rw [if_pos h16s] at hX hY hD
      have c1 : nI st = nI 16 := by rw [h16s]
      obtain ⟨σ2, e2, hR2, M1⟩ := rf_copies (t := 4) (f := 0) hm1 (by omega) (by omega) (by omega) A
      have hm2 := hR2.ms hm1
      have B := B.keep hR2 (by simp)
      have C := C.keep hR2 (by simp)
      have E := E.keep hR2 (by simp)
      have hp := hp.keep hR2
      have hq := hq.keep hR2
      have F := F.tr (hR2.mo (by simp))
      obtain ⟨σ3, e3, hR3, M2⟩ := rf_copies (t := 5) (f := 2) hm2 (by omega) (by omega) (by omega) C
      have hm3 := hR3.ms hm2
      have B := B.keep hR3 (by simp)
      have E := E.keep hR3 (by simp)
      have M1 := M1.keep hR3 (by simp)
      have hp := hp.keep hR3
      have hq := hq.keep hR3
      have F := F.tr (hR3.mo (by simp))
      obtain ⟨σ4, e4, hR4, M3⟩ := rf_copies (t := 7) (f := 1) hm3 (by omega) (by omega) (by omega) B
      have hm4 := hR4.ms hm3
      have E := E.keep hR4 (by simp)
      have M1 := M1.keep hR4 (by simp)
      have M2 := M2.keep hR4 (by simp)
      have hp := hp.keep hR4
      have hq := hq.keep hR4
      have F := F.tr (hR4.mo (by simp))
      obtain ⟨σ5, e5, hR5, M4⟩ := rf_adds (t := 7) (b := 3) (u := 8) hm4 (by omega) (by omega) (by omega) (by omega) d1 d2 M3 E
      have hm5 := hR5.ms hm4
      have M1 := M1.keep hR5 (by simp)
      have M2 := M2.keep hR5 (by simp)
      have hp := hp.keep hR5
      have hq := hq.keep hR5
      have F := F.tr (hR5.mo (by simp))
      have g1 := hp.sg hm5 hi
      subst hX hY hD
      obtain ⟨σ6, e6, hR6, M5⟩ := rf_joins (s := p.1) (t := t) hm5 (by omega) (by omega) b1 bt M1 M2
      have hm6 := hR6.ms hm5
      have M4 := M4.keep hR6 (by simp)
      have F := F.tr (hR6.mo (by simp))
      refine ⟨σ6, ?_, F, M5, M4⟩
      simp only [lits, sm_bind, sm_cb, sm_nm, rf_ck hm, rf_ck hm1, rf_ck hm2, rf_ck hm3, rf_ck hm4, rf_ck hm5, rf_ck hm6, e1, e2, e3, e4, e5, e6, c1, ↓reduceIte, fX12_sums_87, rf_sign hm5, g1]
    · rw [if_neg h16s] at hX hY hD
      have c1 : ¬ (nI st = nI 16) := by rw [sm_eq (by omega) (by omega)]; exact h16s
      obtain ⟨σ2, e2, hR2, M1⟩ := rf_multiplies (t := 4) (a := 0) (b := 3) (u := 8) (v := 8) hm1 (by omega) (by omega) (by omega) (by omega) (by omega) (by omega) n1 d2 A E
      have hm2 := hR2.ms hm1
      have B := B.keep hR2 (by simp)
      have C := C.keep hR2 (by simp)
      have E := E.keep hR2 (by simp)
      have hp := hp.keep hR2
      have hq := hq.keep hR2
      have F := F.tr (hR2.mo (by simp))
      obtain ⟨σ3, e3, hR3, M2⟩ := rf_multiplies (t := 5) (a := 2) (b := 1) (u := 8) (v := 8) hm2 (by omega) (by omega) (by omega) (by omega) (by omega) (by omega) n2 d1 C B
      have hm3 := hR3.ms hm2
      have B := B.keep hR3 (by simp)
      have E := E.keep hR3 (by simp)
      have M1 := M1.keep hR3 (by simp)
      have hp := hp.keep hR3
      have hq := hq.keep hR3
      have F := F.tr (hR3.mo (by simp))
      obtain ⟨σ4, e4, hR4, M3⟩ := rf_multiplies (t := 7) (a := 1) (b := 3) (u := 8) (v := 8) hm3 (by omega) (by omega) (by omega) (by omega) (by omega) (by omega) d1 d2 B E
      have hm4 := hR4.ms hm3
      have M1 := M1.keep hR4 (by simp)
      have M2 := M2.keep hR4 (by simp)
      have hp := hp.keep hR4
      have hq := hq.keep hR4
      have F := F.tr (hR4.mo (by simp))
      have g1 := hp.sg hm4 hi
      have x1 := mul16 n1 d2
      have x2 := mul16 n2 d1
      subst hX hY hD
      obtain ⟨σ5, e5, hR5, M5⟩ := rf_joins (s := p.1) (t := t) hm4 (by omega) (by omega) b1 bt M1 M2
      have hm5 := hR5.ms hm4
      have M3 := M3.keep hR5 (by simp)
      have F := F.tr (hR5.mo (by simp))
      refine ⟨σ5, ?_, F, M5, M3⟩
      simp only [lits, sm_bind, sm_cb, sm_nm, rf_ck hm, rf_ck hm1, rf_ck hm2, rf_ck hm3, rf_ck hm4, rf_ck hm5, e1, e2, e3, e4, e5, c1, ↓reduceIte, fX12_sums_87, rf_sign hm4, g1]
  obtain ⟨σ', e, h⟩ := core
  have g2 := hq.sg hm hj
  refine ⟨σ', ?_, h⟩
  unfold fX12_sums
  by_cases h2 : st = 2
  · rw [if_pos h2] at ht
    have c1 : nI st = nI 2 := by rw [h2]
    rw [ht] at e
    simp only [lits, c1, ↓reduceIte, rf_sign hm, sm_bind, g2, iz_ng]
    rw [← c1, ht]
    exact e
  · rw [if_neg h2] at ht
    have c1 : ¬ (nI st = nI 2) := by rw [sm_eq (by omega) (by omega)]; exact h2
    rw [ht] at e
    simp only [lits, c1, ↓reduceIte, rf_sign hm, sm_bind, g2]
    rw [ht]
    exact e
theorem rf_products {m st i j : Nat} {p q : Qv} {σ : St} (hm : MS σ m) (hst : st = 3 ∨ st = 4) (hi : i < 12600) (hj : j < 12600) (hp : Vl σ m i p) (hq : Vl σ m j q) :
    ∃ σ', fX12_products σ m (nI st) (nI i) (nI j) = some (σ', iz (p.1 * q.1)) ∧ rfR m [0, 1, 2, 3, 6, 7] σ σ' ∧ Rv σ' m 6 (p.2.1 * (if st = 3 then q.2.1 else q.2.2)) ∧ Rv σ' m 7 (p.2.2 * (if st = 3 then q.2.2 else q.2.1)) := by
  have F : rfR m [0, 1, 2, 3, 6, 7] σ σ := rfR.rf
  have n1 := hp.1.n8
  have n2 := hq.1.n8
  have d1 := hp.1.d8
  have d2 := hq.1.d8
  unfold fX12_products
  obtain ⟨σ1, e1, hR1, A, B, C, E⟩ := rf_loadsBoth hm hi hj hp hq
  have hm1 := hR1.ms hm
  have hp := hp.keep hR1
  have hq := hq.keep hR1
  have F := F.tr (hR1.mo (by simp))
  by_cases h3 : st = 3
  · have c1 : nI st = nI 3 := by rw [h3]
    obtain ⟨σ2, e2, hR2, M1⟩ := rf_multiplies (t := 6) (a := 0) (b := 2) (u := 8) (v := 8) hm1 (by omega) (by omega) (by omega) (by omega) (by omega) (by omega) n1 n2 A C
    have hm2 := hR2.ms hm1
    have B := B.keep hR2 (by simp)
    have E := E.keep hR2 (by simp)
    have hp := hp.keep hR2
    have hq := hq.keep hR2
    have F := F.tr (hR2.mo (by simp))
    obtain ⟨σ3, e3, hR3, M2⟩ := rf_multiplies (t := 7) (a := 1) (b := 3) (u := 8) (v := 8) hm2 (by omega) (by omega) (by omega) (by omega) (by omega) (by omega) d1 d2 B E
    have hm3 := hR3.ms hm2
    have M1 := M1.keep hR3 (by simp)
    have hp := hp.keep hR3
    have hq := hq.keep hR3
    have F := F.tr (hR3.mo (by simp))
    have g1 := hp.sg hm3 hi
    have g2 := hq.sg hm3 hj
    refine ⟨σ3, ?_, F, by rw [if_pos h3]; exact M1, by rw [if_pos h3]; exact M2⟩
    simp only [lits, sm_bind, sm_cb, sm_nm, rf_ck hm, rf_ck hm1, rf_ck hm2, rf_ck hm3, e1, e2, e3, c1, ↓reduceIte, fX12_products_20, fX12_products_37, rf_sign hm3, g1, g2, iz_mul]
  · have c1 : ¬ (nI st = nI 3) := by rw [sm_eq (by omega) (by omega)]; exact h3
    obtain ⟨σ2, e2, hR2, M1⟩ := rf_multiplies (t := 6) (a := 0) (b := 3) (u := 8) (v := 8) hm1 (by omega) (by omega) (by omega) (by omega) (by omega) (by omega) n1 d2 A E
    have hm2 := hR2.ms hm1
    have B := B.keep hR2 (by simp)
    have C := C.keep hR2 (by simp)
    have hp := hp.keep hR2
    have hq := hq.keep hR2
    have F := F.tr (hR2.mo (by simp))
    obtain ⟨σ3, e3, hR3, M2⟩ := rf_multiplies (t := 7) (a := 1) (b := 2) (u := 8) (v := 8) hm2 (by omega) (by omega) (by omega) (by omega) (by omega) (by omega) d1 n2 B C
    have hm3 := hR3.ms hm2
    have M1 := M1.keep hR3 (by simp)
    have hp := hp.keep hR3
    have hq := hq.keep hR3
    have F := F.tr (hR3.mo (by simp))
    have g1 := hp.sg hm3 hi
    have g2 := hq.sg hm3 hj
    refine ⟨σ3, ?_, F, by rw [if_neg h3]; exact M1, by rw [if_neg h3]; exact M2⟩
    simp only [lits, sm_bind, sm_cb, sm_nm, rf_ck hm, rf_ck hm1, rf_ck hm2, rf_ck hm3, e1, e2, e3, c1, ↓reduceIte, fX12_products_20, fX12_products_37, rf_sign hm3, g1, g2, iz_mul]
theorem rf_remains {m i j : Nat} {p q : Qv} {σ : St} (hm : MS σ m) (hi : i < 12600) (hj : j < 12600) (hp : Vl σ m i p) (hq : Vl σ m j q) (h0 : q.2.1 ≠ 0) (X Y r : Nat) (hX : X = p.2.1 * q.2.2) (hY : Y = q.2.1 * p.2.2) (hr : r = X % Y) :
    ∃ σ', fX12_remains σ m (nI i) (nI j) = some (σ', iz q.1) ∧ rfR m [0, 1, 2, 3, 4, 5, 6, 7, 9, 10, 11] σ σ' ∧ Rv σ' m 6 (if r ≠ 0 ∧ p.1 ≠ q.1 then Y - r else r) ∧ Rv σ' m 7 (p.2.2 * q.2.2) := by
  have F : rfR m [0, 1, 2, 3, 4, 5, 6, 7, 9, 10, 11] σ σ := rfR.rf
  have n1 := hp.1.n8
  have n2 := hq.1.n8
  have d1 := hp.1.d8
  have d2 := hq.1.d8
  have b1 := hp.1.sg
  have b2 := hq.1.sg
  have x1 := mul16 n1 d2
  have hYp : 0 < Y := by rw [hY]; exact Nat.mul_pos (by omega) hp.1.dp
  have hrY : r < Y := by rw [hr]; exact Nat.mod_lt _ hYp
  unfold fX12_remains
  obtain ⟨σ1, e1, hR1, A, B, C, E⟩ := rf_loadsBoth hm hi hj hp hq
  have hm1 := hR1.ms hm
  have hp := hp.keep hR1
  have hq := hq.keep hR1
  have F := F.tr (hR1.mo (by simp))
  obtain ⟨σ2, e2, hR2, M1⟩ := rf_multiplies (t := 4) (a := 0) (b := 3) (u := 8) (v := 8) hm1 (by omega) (by omega) (by omega) (by omega) (by omega) (by omega) n1 d2 A E
  have hm2 := hR2.ms hm1
  have B := B.keep hR2 (by simp)
  have C := C.keep hR2 (by simp)
  have E := E.keep hR2 (by simp)
  have hp := hp.keep hR2
  have hq := hq.keep hR2
  have F := F.tr (hR2.mo (by simp))
  obtain ⟨σ3, e3, hR3, M2⟩ := rf_multiplies (t := 5) (a := 2) (b := 1) (u := 8) (v := 8) hm2 (by omega) (by omega) (by omega) (by omega) (by omega) (by omega) n2 d1 C B
  have hm3 := hR3.ms hm2
  have B := B.keep hR3 (by simp)
  have E := E.keep hR3 (by simp)
  have M1 := M1.keep hR3 (by simp)
  have hp := hp.keep hR3
  have hq := hq.keep hR3
  have F := F.tr (hR3.mo (by simp))
  obtain ⟨σ4, e4, hR4, M3⟩ := rf_multiplies (t := 7) (a := 1) (b := 3) (u := 8) (v := 8) hm3 (by omega) (by omega) (by omega) (by omega) (by omega) (by omega) d1 d2 B E
  have hm4 := hR4.ms hm3
  have M1 := M1.keep hR4 (by simp)
  have M2 := M2.keep hR4 (by simp)
  have hp := hp.keep hR4
  have hq := hq.keep hR4
  have F := F.tr (hR4.mo (by simp))
  rw [← hX] at M1 x1
  rw [← hY] at M2
  obtain ⟨σ5, e5, hR5, Q, R⟩ := rf_divides (a := 4) (b := 5) (u := 16) hm4 (by omega) (by omega) (by omega) (by omega) (by omega) x1 hYp M1 M2
  have hm5 := hR5.ms hm4
  have M2 := M2.keep hR5 (by simp)
  have M3 := M3.keep hR5 (by simp)
  have hp := hp.keep hR5
  have hq := hq.keep hR5
  have F := F.tr (hR5.mo (by simp))
  rw [← hr] at R
  obtain ⟨σ6, e6, hR6, N⟩ := rf_copies (t := 6) (f := 10) hm5 (by omega) (by omega) (by omega) R
  have hm6 := hR6.ms hm5
  have R := R.keep hR6 (by simp)
  have M2 := M2.keep hR6 (by simp)
  have M3 := M3.keep hR6 (by simp)
  have hp := hp.keep hR6
  have hq := hq.keep hR6
  have F := F.tr (hR6.mo (by simp))
  have g1 := hp.sg hm6 hi
  have g2 := hq.sg hm6 hj
  obtain ⟨w, w1, w2, w3⟩ := N.z
  have q1 : ldI σ6 (m + 2) (nI 6) = some (nI w) := by rw [ld_wide hm6 (by omega), w1]
  by_cases hr0 : r = 0
  · have hw : w = 0 := w3.mpr hr0
    subst hw
    have c1 : nI 0 ≤ nI 0 := by rw [sm_le (by omega) (by omega)]; omega
    refine ⟨σ6, ?_, F, by rw [if_neg (fun h => h.1 hr0)]; exact N, M3⟩
    simp only [lits, sm_bind, sm_cb, sm_nm, rf_ck hm, rf_ck hm1, rf_ck hm2, rf_ck hm3, rf_ck hm4, rf_ck hm5, rf_ck hm6, e1, e2, e3, e4, e5, e6, rf_wide hm6, q1, c1, ↓reduceIte, fX12_remains_82, rf_sign hm6, g2]
  · have c1 : ¬ (nI w ≤ nI 0) := by rw [sm_le (by omega) (by omega)]; intro h; exact hr0 (w3.mp (by omega))
    by_cases hs : p.1 = q.1
    · have c2 : iz p.1 = iz q.1 := by rw [hs]
      refine ⟨σ6, ?_, F, by rw [if_neg (fun h => h.2 hs)]; exact N, M3⟩
      simp only [lits, sm_bind, sm_cb, sm_nm, rf_ck hm, rf_ck hm1, rf_ck hm2, rf_ck hm3, rf_ck hm4, rf_ck hm5, rf_ck hm6, e1, e2, e3, e4, e5, e6, rf_wide hm6, q1, c1, ↓reduceIte, fX12_remains_82, rf_sign hm6, g1, g2, c2]
    · have c2 : ¬ (iz p.1 = iz q.1) := by rw [iz_eq (by omega) (by omega) (by omega) (by omega)]; exact hs
      obtain ⟨σ7, e7, hR7, N2⟩ := rf_copies (t := 6) (f := 5) hm6 (by omega) (by omega) (by omega) M2
      have hm7 := hR7.ms hm6
      have R := R.keep hR7 (by simp)
      have M3 := M3.keep hR7 (by simp)
      have hp := hp.keep hR7
      have hq := hq.keep hR7
      have F := F.tr (hR7.mo (by simp))
      obtain ⟨σ8, e8, hR8, N3⟩ := rf_takesAway (t := 6) (b := 10) hm7 (by omega) (by omega) (by omega) (Nat.le_of_lt hrY) N2 R
      have hm8 := hR8.ms hm7
      have M3 := M3.keep hR8 (by simp)
      have hp := hp.keep hR8
      have hq := hq.keep hR8
      have F := F.tr (hR8.mo (by simp))
      have g3 := hq.sg hm8 hj
      refine ⟨σ8, ?_, F, by rw [if_pos ⟨hr0, hs⟩]; exact N3, M3⟩
      simp only [lits, sm_bind, sm_cb, sm_nm, rf_ck hm, rf_ck hm1, rf_ck hm2, rf_ck hm3, rf_ck hm4, rf_ck hm5, rf_ck hm6, rf_ck hm7, rf_ck hm8, e1, e2, e3, e4, e5, e6, e7, e8, rf_wide hm6, q1, c1, ↓reduceIte, fX12_remains_82, rf_sign hm6, rf_sign hm8, g1, g2, g3, c2]
