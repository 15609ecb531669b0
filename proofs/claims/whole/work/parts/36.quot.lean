/-! ===== the reference: one digit of a quotient ===== -/
theorem tp_s (n : Nat) : 10000 ^ (n + 1) = 10000 ^ n * 10000 := by rw [Nat.pow_succ]
theorem sm_dec {a : Nat} (h : 1 ≤ a) : nI a + -nI 1 = nI (a - 1) := by
  rw [sm_iz, sm_iz, sm_iz, iz_neg, iz_add]
  congr 1
  omega
theorem rf_dig125 {m k n g s V : Nat} {σ : St} (hm : MS σ m) (hkn : k + n < 990) (hg : g ≤ 9999) (hs : s < 10000 ^ n) (h0 : 0 < s) (hV : V < s * 10000) (h1 : V / s ≤ g) (h2 : g ≤ V / s + 1) (hS : Ru σ m 11 n s)
    (hW : ∀ j, j ≤ n → sA σ (m + 1) (10000 + (k + j)) = nI (dq V j % 10000)) : ∃ σ', fX12_digitAt_125 σ m (nI k) (nI n) (nI g) = some (σ', nI (V / s)) ∧ rfW m k n σ σ' ∧ ∀ j, j ≤ n → sA σ' (m + 1) (10000 + (k + j)) = nI (dq (V % s) j % 10000) := by
  have hts := tp_s n
  have hq0 := Nat.zero_le (V / s)
  have hV9 : V < 10000 ^ (n + 1) := by omega
  have hmod := Nat.mod_lt V h0
  have hdiv := Nat.div_add_mod V s
  have hp : 10000 ^ n ≤ 10000 ^ (n + 1) := tp_mono (by omega)
  by_cases hc : g = V / s
  · obtain ⟨σ', e, hR, hL⟩ := rf_takesd (V' := V % s) (F := 0) hm hkn hg hs (by omega) hV9 (by rw [hc, Nat.mul_comm (V / s)]; omega) (by omega) hS hW
    refine ⟨σ', ?_, hR, hL⟩
    unfold fX12_digitAt_125
    simp (disch := first | exact hm | ((repeat (first | apply MS_A | apply MS_I)) <;> exact hm) | omega) only [sm_bind, sm_cb, sm_nm, lits, sm_add, sm_mul, sm_le, sm_lt, sm_eq, sm_div, sm_sub, sA_wA_b, sA_wA_eq, Nat.zero_le, ↓reduceIte, rf_ck, e]
    rw [hc]
  · have hgq : g = V / s + 1 := by omega
    have hlt : V < g * s := by
      rw [hgq, Nat.add_mul, Nat.one_mul, Nat.mul_comm]
      omega
    have hle : g * s ≤ V + s := by
      rw [hgq, Nat.add_mul, Nat.one_mul, Nat.mul_comm]
      omega
    have hgs : V + s = g * s + V % s := by
      rw [hgq, Nat.add_mul, Nat.one_mul, Nat.mul_comm (V / s)]
      omega
    obtain ⟨σ1, e1, hR1, hL1⟩ := rf_takesd (V' := V + 10000 ^ (n + 1) - g * s) (F := 1) hm hkn hg hs (by omega) hV9 (by omega) (by omega) hS hW
    obtain ⟨σ2, e2, hR2, hL2⟩ := rf_back (g := g) hkn hs (U := V + 10000 ^ (n + 1) - g * s) (by omega) FU σ1 0 (hR1.ms hm) (by unfold FU; omega) (by omega) (hS.keep (hR1.R (by omega)) (by simp) (by omega)) (fun j hj => by omega) (fun j _ hj => hL1 j hj)
    rw [dq_0, dq_0, dq_0, show V + 10000 ^ (n + 1) - g * s + s - (V + 10000 ^ (n + 1) - g * s) - s = 0 by omega, sm_sub (by omega)] at e2
    refine ⟨σ2, ?_, hR1.tr hR2, fun j hj => ?_⟩
    · unfold fX12_digitAt_125
      have e9 : ¬ (1 : Nat) = 0 := by omega
      simp (disch := first | exact hm | ((repeat (first | apply MS_A | apply MS_I)) <;> exact hm) | omega) only [sm_bind, sm_cb, sm_nm, lits, sm_add, sm_mul, sm_le, sm_lt, sm_eq, sm_div, sm_sub, sA_wA_b, sA_wA_eq, Nat.zero_le, ↓reduceIte, rf_ck, e1, e9, e2]
      rw [show g - 1 = V / s by omega]
    · rw [hL2 j hj, show V + 10000 ^ (n + 1) - g * s + s = V % s + 1 * 10000 ^ (n + 1) by omega, dq_low _ _ _ _ hj]
theorem rf_dig58 {m k n s V : Nat} {σ : St} (hm : MS σ m) (hkn : k + n < 990) (hn2 : 2 ≤ n) (hs : s < 10000 ^ n) (htop : 5000 ≤ dq s (n - 1)) (hV : V < s * 10000) (hS : Ru σ m 11 n s)
    (hW : ∀ j, j ≤ n → sA σ (m + 1) (10000 + (k + j)) = nI (dq V j % 10000)) : ∀ (f g : Nat), g < f → V / s ≤ g → g ≤ 10001 → g * dq s (n - 1) ≤ dq V (n - 1) →
    ∃ σ', fX12_digitAt_58 f σ m (nI k) (nI n) (nI (dq s (n - 1))) (nI g) (nI (dq V (n - 1) - g * dq s (n - 1))) = some (σ', nI (V / s)) ∧ rfW m k n σ σ' ∧ ∀ j, j ≤ n → sA σ' (m + 1) (10000 + (k + j)) = nI (dq (V % s) j % 10000) := by
  have h0 : 0 < s := by
    apply Nat.pos_of_ne_zero
    intro h
    rw [h] at htop
    unfold dq at htop
    rw [Nat.zero_div] at htop
    omega
  have hT := Nat.div_add_mod s (10000 ^ (n - 1))
  have hTm := Nat.mod_lt s (tp_pos (n - 1))
  have hs1 : s < (dq s (n - 1) + 1) * 10000 ^ (n - 1) := by
    unfold dq
    rw [Nat.add_mul, Nat.one_mul, Nat.mul_comm]
    omega
  have hq9 : V / s ≤ 9999 := by
    have := (Nat.div_lt_iff_lt_mul h0).mpr (by rw [Nat.mul_comm]; exact hV)
    omega
  have htop9 : dq s (n - 1) < 10000 := by
    unfold dq
    rw [Nat.div_lt_iff_lt_mul (tp_pos _), ← Nat.pow_succ', show (n - 1).succ = n by omega]
    exact hs
  have hhigh : dq V (n - 1) < 10000 * (dq s (n - 1) + 1) := by
    have h1 : V < 10000 * (dq s (n - 1) + 1) * 10000 ^ (n - 1) := by
      rw [Nat.mul_assoc]
      omega
    show V / _ < _
    rw [Nat.div_lt_iff_lt_mul (tp_pos _)]
    exact h1
  have hts := tp_s n
  have hq0 := Nat.zero_le (V / s)
  have hV10 : V < 10000 ^ (n + 1) := by omega
  have htp2 : dq s (n - 2) / 10000 = dq s (n - 1) := by rw [← tp_dv, show n - 2 + 1 = n - 1 by omega]
  have hvp2 : dq V (n - 2) / 10000 = dq V (n - 1) := by rw [← tp_dv, show n - 2 + 1 = n - 1 by omega]
  have hT2 : dq s (n - 2) * 10000 ^ (n - 2) ≤ s := Nat.div_mul_le_self _ _
  have hs2 : s < (dq s (n - 2) + 1) * 10000 ^ (n - 2) := by
    have h1 := Nat.div_add_mod s (10000 ^ (n - 2))
    have h2 := Nat.mod_lt s (tp_pos (n - 2))
    unfold dq
    rw [Nat.add_mul, Nat.one_mul, Nat.mul_comm]
    omega
  have hqV : V < (V / s + 1) * s := by
    have h1 := Nat.div_add_mod V s
    have h2 := Nat.mod_lt V h0
    rw [Nat.add_mul, Nat.one_mul, Nat.mul_comm]
    omega
  intro f
  induction f with
  | zero => intro g h; omega
  | succ f ih =>
    intro g hf hqg hg1 hgl
    rw [fX12_digitAt_58]
    have down : V / s < g → ∃ σ', fX12_digitAt_113 (fX12_digitAt_58 f) σ m (nI k) (nI n) (nI (dq s (n - 1))) (nI g) (nI (dq V (n - 1) - g * dq s (n - 1))) = some (σ', nI (V / s)) ∧ rfW m k n σ σ' ∧ ∀ j, j ≤ n → sA σ' (m + 1) (10000 + (k + j)) = nI (dq (V % s) j % 10000) := by
      intro h
      have e1 : (g - 1) * dq s (n - 1) + dq s (n - 1) = g * dq s (n - 1) := by
        conv => rhs; rw [show g = g - 1 + 1 by omega, Nat.add_mul, Nat.one_mul]
      obtain ⟨σ', e, h9⟩ := ih (g - 1) (by omega) (by omega) (by omega) (by omega)
      refine ⟨σ', ?_, h9⟩
      rw [show dq V (n - 1) - (g - 1) * dq s (n - 1) = dq V (n - 1) - g * dq s (n - 1) + dq s (n - 1) by omega] at e
      have hg0 : 1 ≤ g := by omega
      unfold fX12_digitAt_113
      simp (disch := first | exact hm | ((repeat (first | apply MS_A | apply MS_I)) <;> exact hm) | omega) only [sm_bind, sm_cb, sm_nm, lits, sm_add, sm_mul, sm_le, sm_lt, sm_eq, sm_div, sm_sub, sA_wA_b, sA_wA_eq, Nat.zero_le, ↓reduceIte, rf_ck, sm_dec, e]
    by_cases c1 : 10000 ≤ dq V (n - 1) - g * dq s (n - 1)
    · have hg9 : g ≤ 9999 := by
        apply Nat.le_of_not_lt
        intro hc
        have := Nat.mul_le_mul_right (dq s (n - 1)) (show 10000 ≤ g by omega)
        omega
      have hgs : g * s ≤ V := kn_rest (tp_pos (n - 1)) hs1 (show dq V (n - 1) = g * dq s (n - 1) + (dq V (n - 1) - g * dq s (n - 1)) by omega) (by omega)
      have hgq : g ≤ V / s := (Nat.le_div_iff_mul_le h0).mpr hgs
      obtain ⟨σ', e, h9⟩ := rf_dig125 hm hkn hg9 hs h0 hV hqg (by omega) hS hW
      refine ⟨σ', ?_, h9⟩
      simp (disch := first | exact hm | ((repeat (first | apply MS_A | apply MS_I)) <;> exact hm) | omega) only [sm_bind, sm_cb, sm_nm, lits, sm_add, sm_mul, sm_le, sm_lt, sm_eq, sm_div, sm_sub, sA_wA_b, sA_wA_eq, Nat.zero_le, ↓reduceIte, rf_ck, c1, e]
    · by_cases c2 : 10000 ≤ g
      · obtain ⟨σ', e, h9⟩ := down (by omega)
        refine ⟨σ', ?_, h9⟩
        simp (disch := first | exact hm | ((repeat (first | apply MS_A | apply MS_I)) <;> exact hm) | omega) only [sm_bind, sm_cb, sm_nm, lits, sm_add, sm_mul, sm_le, sm_lt, sm_eq, sm_div, sm_sub, sA_wA_b, sA_wA_eq, Nat.zero_le, ↓reduceIte, rf_ck, c1, c2, e]
      · have r1 := hS.2.1 (n - 2) (by omega)
        have r2 := hW (n - 2) (by omega)
        have b1 : g * (dq s (n - 2) % 10000) ≤ 9999 * 9999 := Nat.mul_le_mul (by omega) (by omega)
        have eg : g * dq s (n - 2) = g * dq s (n - 1) * 10000 + g * (dq s (n - 2) % 10000) := by
          conv => lhs; rw [← Nat.div_add_mod (dq s (n - 2)) 10000, htp2, Nat.mul_add]
          rw [Nat.mul_comm 10000, Nat.mul_assoc]
        have e11 : 11000 + n - 2 = 1000 * 11 + (n - 2) := by omega
        have e10 : 10000 + k + n - 2 = 10000 + (k + (n - 2)) := by omega
        have hl1 : ldI σ (m + 1) (nI 11000 + nI n - nI 2) = some (nI (dq s (n - 2) % 10000)) := by
          rw [sm_add, sm_sub (by omega), e11, ld_big hm (by omega), r1]
        have hl2 : ldI σ (m + 1) (nI 10000 + nI k + nI n - nI 2) = some (nI (dq V (n - 2) % 10000)) := by
          rw [sm_add, sm_add, sm_sub (by omega), e10, ld_big hm (by omega), r2]
        by_cases c3 : g * (dq s (n - 2) % 10000) ≤ (dq V (n - 1) - g * dq s (n - 1)) * 10000 + dq V (n - 2) % 10000
        · have hup : g ≤ V / s + 1 := kn_up (tp_pos (n - 2)) hs2 (by omega) (show g * dq s (n - 2) ≤ dq V (n - 2) by omega) hqV
          obtain ⟨σ', e, h9⟩ := rf_dig125 hm hkn (by omega) hs h0 hV hqg hup hS hW
          refine ⟨σ', ?_, h9⟩
          simp (disch := first | exact hm | ((repeat (first | apply MS_A | apply MS_I)) <;> exact hm) | omega) only [sm_bind, lits, sm_le, rf_big, hl1, hl2, c1, c2, ↓reduceIte]
          rw [sm_mul, sm_mul, sm_add, if_pos (by rw [sm_le (by omega) (by omega)]; exact c3), e]
        · have hdn : V < g * s := kn_down (tp_pos (n - 2)) hT2 (show dq V (n - 2) < g * dq s (n - 2) by omega)
          obtain ⟨σ', e, h9⟩ := down ((Nat.div_lt_iff_lt_mul h0).mpr hdn)
          refine ⟨σ', ?_, h9⟩
          simp (disch := first | exact hm | ((repeat (first | apply MS_A | apply MS_I)) <;> exact hm) | omega) only [sm_bind, lits, sm_le, rf_big, hl1, hl2, c1, c2, ↓reduceIte]
          rw [sm_mul, sm_mul, sm_add, if_neg (by rw [sm_le (by omega) (by omega)]; exact c3), e]
theorem rf_digitAt {m k n s V : Nat} {σ : St} (hm : MS σ m) (hkn : k + n < 990) (hn2 : 2 ≤ n) (hs : s < 10000 ^ n) (htop : 5000 ≤ dq s (n - 1)) (hV : V < s * 10000) (hS : Ru σ m 11 n s)
    (hW : ∀ j, j ≤ n → sA σ (m + 1) (10000 + (k + j)) = nI (dq V j % 10000)) : ∃ σ', fX12_digitAt σ m (nI k) (nI n) = some (σ', nI (V / s)) ∧ rfW m k n σ σ' ∧ ∀ j, j ≤ n → sA σ' (m + 1) (10000 + (k + j)) = nI (dq (V % s) j % 10000) := by
  have htop9 : dq s (n - 1) < 10000 := by
    unfold dq
    rw [Nat.div_lt_iff_lt_mul (tp_pos _), ← Nat.pow_succ', show (n - 1).succ = n by omega]
    exact hs
  have h0 : 0 < s := by
    apply Nat.pos_of_ne_zero
    intro h
    rw [h] at htop
    unfold dq at htop
    rw [Nat.zero_div] at htop
    omega
  have hs1 : s < (dq s (n - 1) + 1) * 10000 ^ (n - 1) := by
    have hT := Nat.div_add_mod s (10000 ^ (n - 1))
    have hTm := Nat.mod_lt s (tp_pos (n - 1))
    unfold dq
    rw [Nat.add_mul, Nat.one_mul, Nat.mul_comm]
    omega
  have hhigh : dq V (n - 1) < 10000 * (dq s (n - 1) + 1) := by
    have h1 : V < 10000 * (dq s (n - 1) + 1) * 10000 ^ (n - 1) := by
      rw [Nat.mul_assoc]
      omega
    show V / _ < _
    rw [Nat.div_lt_iff_lt_mul (tp_pos _)]
    exact h1
  have hVn : dq V (n - 1) / 10000 = dq V n := by rw [← tp_dv, show n - 1 + 1 = n by omega]
  have hge : V / s ≤ dq V (n - 1) / dq s (n - 1) := kn_ge (tp_pos (n - 1)) (Nat.div_mul_le_self _ _) h0 (by omega)
  have hml := Nat.div_mul_le_self (dq V (n - 1)) (dq s (n - 1))
  have hg1 : dq V (n - 1) / dq s (n - 1) ≤ 10001 := by
    apply Nat.le_of_lt_succ
    rw [Nat.div_lt_iff_lt_mul (by omega)]
    omega
  obtain ⟨σ', e, h9⟩ := rf_dig58 hm hkn hn2 hs htop hV hS hW FU (dq V (n - 1) / dq s (n - 1)) (by unfold FU; omega) hge hg1 hml
  refine ⟨σ', ?_, h9⟩
  have r1 := hS.2.1 (n - 1) (by omega)
  have r2 := hW (n - 1) (by omega)
  have r3 := hW n (by omega)
  rw [Nat.mod_eq_of_lt htop9] at r1
  have e11 : 11000 + n - 1 = 1000 * 11 + (n - 1) := by omega
  have e10 : 10000 + k + n - 1 = 10000 + (k + (n - 1)) := by omega
  have e12 : 10000 + k + n = 10000 + (k + n) := by omega
  have hl1 : ldI σ (m + 1) (nI 11000 + nI n - nI 1) = some (nI (dq s (n - 1))) := by
    rw [sm_add, sm_sub (by omega), e11, ld_big hm (by omega), r1]
  have hl2 : ldI σ (m + 1) (nI 10000 + nI k + nI n - nI 1) = some (nI (dq V (n - 1) % 10000)) := by
    rw [sm_add, sm_add, sm_sub (by omega), e10, ld_big hm (by omega), r2]
  have hl3 : ldI σ (m + 1) (nI 10000 + nI k + nI n) = some (nI (dq V n % 10000)) := by
    rw [sm_add, sm_add, e12, ld_big hm (by omega), r3]
  have ev : nI (dq V n % 10000) * nI 10000 + nI (dq V (n - 1) % 10000) = nI (dq V (n - 1)) := by
    rw [sm_mul, sm_add]
    congr 1
    omega
  have ck : ckD (nI (dq s (n - 1))) = some () := by
    unfold ckD
    rw [if_neg]
    intro h
    have := sm_inj (by omega) (by omega) (show nI (dq s (n - 1)) = nI 0 from h)
    omega
  have em : nI (dq V (n - 1)) - nI (dq V (n - 1)) / nI (dq s (n - 1)) * nI (dq s (n - 1)) = nI (dq V (n - 1) - dq V (n - 1) / dq s (n - 1) * dq s (n - 1)) := by
    rw [sm_div (by omega) (by omega) (by omega), sm_mul, sm_sub hml]
  unfold fX12_digitAt
  simp (disch := first | exact hm | ((repeat (first | apply MS_A | apply MS_I)) <;> exact hm) | omega) only [sm_bind, sm_nm, lits, rf_big, hl1, hl2, hl3, ev, ck, em]
  rw [sm_div (by omega) (by omega) (by omega)]
  exact e
