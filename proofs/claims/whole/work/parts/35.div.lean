/-! ===== the reference: division ===== -/
/-- of the register REST only the limbs k to k + n are written -/
def rfW (m k n : Nat) (σ σ' : St) : Prop := (rfE m σ σ' ∧ sI σ' = sI σ ∧ ∀ b, b ≠ m + 1 → sA σ' b = sA σ b) ∧ ∀ p, (p < 10000 + k ∨ 10000 + k + n < p) → sA σ' (m + 1) p = sA σ (m + 1) p
theorem rfW.rf {m k n : Nat} {σ : St} : rfW m k n σ σ := ⟨⟨rfE.rf, rfl, fun _ _ => rfl⟩, fun _ _ => rfl⟩
theorem rfW.tr {m k n : Nat} {σ σ1 σ2 : St} (h1 : rfW m k n σ σ1) (h2 : rfW m k n σ1 σ2) : rfW m k n σ σ2 := by
  obtain ⟨⟨a1, a2, a3⟩, a4⟩ := h1
  obtain ⟨⟨b1, b2, b3⟩, b4⟩ := h2
  exact ⟨⟨a1.tr b1, b2.trans a2, fun b h => (b3 b h).trans (a3 b h)⟩, fun p hp => (b4 p hp).trans (a4 p hp)⟩
theorem rfW.w {m k n j : Nat} {σ : St} {v : Int32} (hj : j ≤ n) : rfW m k n σ (wA σ (m + 1) (10000 + (k + j)) v) := by
  refine ⟨⟨rfE.wA (by omega), rfl, fun b h => sA_wA_b h⟩, fun p hp => ?_⟩
  exact sA_wA_j (by omega)
theorem rfW.R {m k n : Nat} {σ σ' : St} (h : rfW m k n σ σ') (hk : k + n < 1000) : rfR m [10] σ σ' := by
  refine ⟨⟨h.1.1, h.1.2.1, fun b h1 _ => h.1.2.2 b h1⟩, fun r hr => ⟨by rw [h.1.2.2 _ (by omega)], fun j hj => h.2 _ ?_⟩⟩
  have : r ≠ 10 := by simpa using hr
  omega
theorem rfW.ms {m k n : Nat} {σ σ' : St} (h : rfW m k n σ σ') (hm : MS σ m) : MS σ' m := h.1.1.keep hm
theorem dq_low (V F n i : Nat) (hi : i ≤ n) : dq (V + F * 10000 ^ (n + 1)) i % 10000 = dq V i % 10000 := by
  rw [Nat.mul_comm F]
  exact dq_add_low (by omega)
theorem rf_takesq {m k n g s V V' F : Nat} (hkn : k + n < 990) (hg : g ≤ 9999) (hs : s < 10000 ^ n) (hVb : V' < 10000 ^ (n + 1)) (hV9 : V < 10000 ^ (n + 1)) (hF : V + F * 10000 ^ (n + 1) = g * s + V') (hF1 : F ≤ 1) : ∀ (f : Nat) (σ : St) (i : Nat), MS σ m → n + 1 - i < f → i ≤ n + 1 → Ru σ m 11 n s →
    (∀ j, j < i → sA σ (m + 1) (10000 + (k + j)) = nI (dq V' j % 10000)) → (∀ j, i ≤ j → j ≤ n → sA σ (m + 1) (10000 + (k + j)) = nI (dq V j % 10000)) →
    ∃ σ', fX12_takes_9 f σ m (nI k) (nI n) (nI g) (nI (dq (V + F * 10000 ^ (n + 1)) i - dq V' i - dq (g * s) i)) (nI (dq (g * s) i - g * dq s i)) (nI i) = some (σ', nI F) ∧ rfW m k n σ σ' ∧ ∀ j, j ≤ n → sA σ' (m + 1) (10000 + (k + j)) = nI (dq V' j % 10000) := by
  intro f
  induction f with
  | zero => intro σ i _ h; omega
  | succ f ih =>
    intro σ i hm hn hi hS h1 h2
    rw [fX12_takes_9]
    have hD : g * s < 10000 ^ (n + 1) := by
      rw [Nat.pow_succ, Nat.mul_comm (10000 ^ n)]
      rcases Nat.eq_zero_or_pos g with h0 | h0
      · subst h0; rw [Nat.zero_mul]; exact Nat.mul_pos (by omega) (tp_pos n)
      · exact Nat.lt_of_lt_of_le (Nat.mul_lt_mul_of_pos_left hs h0) (Nat.mul_le_mul_right _ (by omega))
    by_cases hc : n < i
    · have hin : i = n + 1 := by omega
      subst hin
      have e1 : dq (V + F * 10000 ^ (n + 1)) (n + 1) - dq V' (n + 1) - dq (g * s) (n + 1) = F := by
        rw [Nat.mul_comm F, dq_add_mul, tp_lt.mp hV9, tp_lt.mp hVb, tp_lt.mp hD]
        omega
      refine ⟨σ, ?_, rfW.rf, fun j hj => h1 j (by omega)⟩
      rw [e1]
      simp (disch := first | exact hm | ((repeat (first | apply MS_A | apply MS_I)) <;> exact hm) | omega) only [sm_bind, sm_cb, sm_nm, lits, sm_add, sm_mul, sm_le, sm_lt, sm_eq, sm_div, sm_sub, sA_wA_b, sA_wA_eq, Nat.zero_le, ↓reduceIte, rf_ck, hc]
    · -- the limbs at i
      have r1 := h2 i (Nat.le_refl _) (by omega)
      have dX := tp_dv (V + F * 10000 ^ (n + 1)) i
      have dV' := tp_dv V' i
      have dD := tp_dv (g * s) i
      have ds := tp_dv s i
      have hXlow := dq_low V F n i (by omega)
      have hle := dq_add_le (g * s) V' i
      have hlt := dq_add_lt (g * s) V' i
      rw [← hF] at hle hlt
      have hmle := dq_mul_le s g i
      have hmlt := dq_mul_lt s g i
      rw [Nat.mul_comm s g] at hmle hmlt
      generalize hX : dq (V + F * 10000 ^ (n + 1)) i = X at *
      generalize hY : dq V' i = Y at *
      generalize hDD : dq (g * s) i = Dd at *
      generalize hss : dq s i = Ss at *
      have hSd := Nat.div_add_mod Ss 10000
      have eS : Ss * g = 10000 * (Ss / 10000 * g) + Ss % 10000 * g := by
        conv => lhs; rw [← hSd, Nat.add_mul, Nat.mul_assoc]
      have hv : Ss % 10000 * g ≤ 9999 * 9999 := Nat.mul_le_mul (by omega) hg
      have eg : g * Ss = Ss * g := Nat.mul_comm _ _
      have eg2 : g * (Ss / 10000) = Ss / 10000 * g := Nat.mul_comm _ _
      -- product and its carry
      have eov : (Ss % 10000 * g + (Dd - g * Ss)) / 10000 = Dd / 10000 - g * (Ss / 10000) := by omega
      have epr : (Ss % 10000 * g + (Dd - g * Ss)) - (Dd / 10000 - g * (Ss / 10000)) * 10000 = Dd % 10000 := by omega
      have hst : rfW m k n σ (wA σ (m + 1) (10000 + (k + i)) (nI (Y % 10000))) := rfW.w (by omega)
      obtain ⟨σ', e, hR, hV⟩ := ih (wA σ (m + 1) (10000 + (k + i)) (nI (Y % 10000))) (i + 1) hm (by omega) (by omega) (hS.keep (hst.R (by omega)) (by simp) (by omega)) (fun j hj => by
          by_cases hji : j = i
          · subst hji; rw [sA_wA_eq, hY]
          · rw [sA_wA_j (by omega)]; exact h1 j (by omega)) (fun j hj hj2 => by
          rw [sA_wA_j (by omega)]
          exact h2 j (by omega) hj2)
      rw [dX, dV', dD, ds] at e
      refine ⟨σ', ?_, hst.tr hR, hV⟩
      have e10 : 10000 + k + i = 10000 + (k + i) := by omega
      have tail : ∀ (pr : Nat), pr = Ss % 10000 * g + (Dd - g * Ss) → fX12_takes_38 (fX12_takes_9 f) σ m (nI k) (nI n) (nI g) (nI (X - Y - Dd)) (nI (Dd - g * Ss)) (nI i) (nI (pr - (Dd - g * Ss))) = some (σ', nI F) := by
        intro pr hpr
        unfold fX12_takes_38
        have q1 : pr - (Dd - g * Ss) + (Dd - g * Ss) = Ss % 10000 * g + (Dd - g * Ss) := by omega
        have ed : nI (X % 10000) - nI (Dd % 10000) - nI (X - Y - Dd) = iz (((X % 10000 : Nat) : Int) - ((Dd % 10000 : Nat) : Int) - ((X - Y - Dd : Nat) : Int)) := by rw [sm_iz, sm_iz, sm_iz, iz_sub, iz_sub]
        rw [← hXlow] at r1
        by_cases hn9 : X % 10000 < Dd % 10000 + (X - Y - Dd)
        · have eo : X / 10000 - Y / 10000 - Dd / 10000 = 1 := by omega
          rw [eo] at e
          have c9 : ¬ (nI 0 ≤ iz (((X % 10000 : Nat) : Int) - ((Dd % 10000 : Nat) : Int) - ((X - Y - Dd : Nat) : Int))) := by
            rw [sm_iz, iz_le (by omega) (by omega) (by omega) (by omega)]
            omega
          have ev : iz (((X % 10000 : Nat) : Int) - ((Dd % 10000 : Nat) : Int) - ((X - Y - Dd : Nat) : Int)) + nI 10000 = nI (Y % 10000) := by
            rw [sm_iz, sm_iz, iz_add]
            congr 1
            omega
          simp (disch := first | exact hm | ((repeat (first | apply MS_A | apply MS_I)) <;> exact hm) | omega) only [sm_bind, sm_cb, sm_nm, lits, sm_add, sm_mul, sm_le, sm_lt, sm_eq, sm_div, sm_sub, sA_wA_b, sA_wA_eq, Nat.zero_le, ↓reduceIte, rf_ck, rf_big, ld_big, st_big, q1, eov, epr, e10, r1]
          rw [ed, if_neg c9]
          unfold fX12_takes_86
          simp (disch := first | exact hm | ((repeat (first | apply MS_A | apply MS_I)) <;> exact hm) | omega) only [sm_bind, sm_cb, sm_nm, lits, sm_add, sm_mul, sm_le, sm_lt, sm_eq, sm_div, sm_sub, sA_wA_b, sA_wA_eq, Nat.zero_le, ↓reduceIte, rf_ck, rf_big, ld_big, st_big, Nat.one_mul, e10, ev, e]
        · have eo : X / 10000 - Y / 10000 - Dd / 10000 = 0 := by omega
          rw [eo] at e
          simp (disch := first | exact hm | ((repeat (first | apply MS_A | apply MS_I)) <;> exact hm) | omega) only [sm_bind, sm_cb, sm_nm, lits, sm_add, sm_mul, sm_le, sm_lt, sm_eq, sm_div, sm_sub, sA_wA_b, sA_wA_eq, Nat.zero_le, ↓reduceIte, rf_ck, rf_big, ld_big, st_big, q1, eov, epr, e10, r1]
          rw [show nI (X % 10000 - Dd % 10000 - (X - Y - Dd)) = nI (Y % 10000) by congr 1; omega]
          unfold fX12_takes_86
          simp (disch := first | exact hm | ((repeat (first | apply MS_A | apply MS_I)) <;> exact hm) | omega) only [sm_bind, sm_cb, sm_nm, lits, sm_add, sm_mul, sm_le, sm_lt, sm_eq, sm_div, sm_sub, sA_wA_b, sA_wA_eq, Nat.zero_le, ↓reduceIte, rf_ck, rf_big, ld_big, st_big, Nat.zero_mul, Nat.add_zero, e10, e]
      by_cases hni : n ≤ i
      · have h0 : Ss = 0 := by rw [← hss]; exact tp_lt.mp (Nat.lt_of_lt_of_le hs (tp_mono hni))
        have ht := tail (Dd - g * Ss) (by rw [h0]; omega)
        rw [Nat.sub_self] at ht
        simp (disch := first | exact hm | ((repeat (first | apply MS_A | apply MS_I)) <;> exact hm) | omega) only [sm_bind, sm_cb, sm_nm, lits, sm_add, sm_mul, sm_le, sm_lt, sm_eq, sm_div, sm_sub, sA_wA_b, sA_wA_eq, Nat.zero_le, ↓reduceIte, rf_ck, hc, hni]
        exact ht
      · have r2 := hS.2.1 i (by omega)
        rw [hss] at r2
        have ht := tail (Ss % 10000 * g + (Dd - g * Ss)) rfl
        rw [Nat.add_sub_cancel] at ht
        have e11 : 11000 + i = 1000 * 11 + i := by omega
        rw [← e11] at r2
        have hl : ldI σ (m + 1) (11000 + nI i) = some (nI (Ss % 10000)) := by simp (disch := first | exact hm | ((repeat (first | apply MS_A | apply MS_I)) <;> exact hm) | omega) only [sm_bind, sm_cb, sm_nm, lits, sm_add, sm_mul, sm_le, sm_lt, sm_eq, sm_div, sm_sub, sA_wA_b, sA_wA_eq, Nat.zero_le, ↓reduceIte, rf_ck, rf_big, ld_big, st_big, r2]
        rw [if_neg (by rw [sm_lt (by omega) (by omega)]; exact hc), if_neg (by rw [sm_le (by omega) (by omega)]; exact hni), rf_big hm, sm_bind, hl, sm_bind, sm_mul]
        exact ht
theorem rf_takesd {m k n g s V V' F : Nat} {σ : St} (hm : MS σ m) (hkn : k + n < 990) (hg : g ≤ 9999) (hs : s < 10000 ^ n) (hVb : V' < 10000 ^ (n + 1)) (hV9 : V < 10000 ^ (n + 1)) (hF : V + F * 10000 ^ (n + 1) = g * s + V') (hF1 : F ≤ 1) (hS : Ru σ m 11 n s)
    (h2 : ∀ j, j ≤ n → sA σ (m + 1) (10000 + (k + j)) = nI (dq V j % 10000)) : ∃ σ', fX12_takes σ m (nI k) (nI n) (nI g) = some (σ', nI F) ∧ rfW m k n σ σ' ∧ ∀ j, j ≤ n → sA σ' (m + 1) (10000 + (k + j)) = nI (dq V' j % 10000) := by
  obtain ⟨σ', e, h⟩ := rf_takesq hkn hg hs hVb hV9 hF hF1 FU σ 0 hm (by unfold FU; omega) (by omega) hS (fun j hj => by omega) (fun j _ hj => h2 j hj)
  rw [dq_0, dq_0, dq_0, dq_0, Nat.sub_self, show V + F * 10000 ^ (n + 1) - V' - g * s = 0 by omega] at e
  exact ⟨σ', e, h⟩
/-- adding the divisor back, which gives a carry -/
theorem rf_back {m k n g s U : Nat} (hkn : k + n < 990) (hs : s < 10000 ^ n) (hU : U < 10000 ^ (n + 1)) : ∀ (f : Nat) (σ : St) (i : Nat), MS σ m → n + 1 - i < f → i ≤ n + 1 → Ru σ m 11 n s →
    (∀ j, j < i → sA σ (m + 1) (10000 + (k + j)) = nI (dq (U + s) j % 10000)) → (∀ j, i ≤ j → j ≤ n → sA σ (m + 1) (10000 + (k + j)) = nI (dq U j % 10000)) →
    ∃ σ', fX12_digitAt_149 f σ m (nI k) (nI n) (nI g) (nI (dq (U + s) i - dq U i - dq s i)) (nI i) = some (σ', nI g - nI 1) ∧ rfW m k n σ σ' ∧ ∀ j, j ≤ n → sA σ' (m + 1) (10000 + (k + j)) = nI (dq (U + s) j % 10000) := by
  intro f
  induction f with
  | zero => intro σ i _ h; omega
  | succ f ih =>
    intro σ i hm hn hi hS h1 h2
    rw [fX12_digitAt_149]
    by_cases hc : n < i
    · refine ⟨σ, ?_, rfW.rf, fun j hj => h1 j (by omega)⟩
      rw [if_pos (by rw [sm_lt (by omega) (by omega)]; exact hc)]
      rfl
    · have r1 := h2 i (Nat.le_refl _) (by omega)
      have dX := tp_dv (U + s) i
      have dU := tp_dv U i
      have ds := tp_dv s i
      have hle := dq_add_le U s i
      have hlt := dq_add_lt U s i
      generalize hX : dq (U + s) i = X at *
      generalize hY : dq U i = Y at *
      generalize hss : dq s i = Ss at *
      have eo : (Y % 10000 + Ss % 10000 + (X - Y - Ss)) / 10000 = X / 10000 - Y / 10000 - Ss / 10000 := by omega
      have ed : (Y % 10000 + Ss % 10000 + (X - Y - Ss)) - (X / 10000 - Y / 10000 - Ss / 10000) * 10000 = X % 10000 := by omega
      have hst : rfW m k n σ (wA σ (m + 1) (10000 + (k + i)) (nI (X % 10000))) := rfW.w (by omega)
      obtain ⟨σ', e, hR, hV⟩ := ih (wA σ (m + 1) (10000 + (k + i)) (nI (X % 10000))) (i + 1) hm (by omega) (by omega) (hS.keep (hst.R (by omega)) (by simp) (by omega)) (fun j hj => by
          by_cases hji : j = i
          · subst hji; rw [sA_wA_eq, hX]
          · rw [sA_wA_j (by omega)]; exact h1 j (by omega)) (fun j hj hj2 => by
          rw [sA_wA_j (by omega)]
          exact h2 j (by omega) hj2)
      rw [dX, dU, ds] at e
      refine ⟨σ', ?_, hst.tr hR, hV⟩
      have e10 : 10000 + k + i = 10000 + (k + i) := by omega
      by_cases hni : n ≤ i
      · have h0 : Ss = 0 := by rw [← hss]; exact tp_lt.mp (Nat.lt_of_lt_of_le hs (tp_mono hni))
        have z1 : Y % 10000 + 0 = Y % 10000 + Ss % 10000 := by rw [h0]
        simp (disch := first | exact hm | ((repeat (first | apply MS_A | apply MS_I)) <;> exact hm) | omega) only [sm_bind, sm_cb, sm_nm, lits, sm_add, sm_mul, sm_le, sm_lt, sm_eq, sm_div, sm_sub, sA_wA_b, sA_wA_eq, Nat.zero_le, ↓reduceIte, rf_ck, rf_big, ld_big, st_big, hc, hni, e10, r1, fX12_digitAt_189, z1, eo, ed]
        exact e
      · have r2 := hS.2.1 i (by omega)
        rw [hss] at r2
        have e11 : 11000 + i = 1000 * 11 + i := by omega
        simp (disch := first | exact hm | ((repeat (first | apply MS_A | apply MS_I)) <;> exact hm) | omega) only [sm_bind, sm_cb, sm_nm, lits, sm_add, sm_mul, sm_le, sm_lt, sm_eq, sm_div, sm_sub, sA_wA_b, sA_wA_eq, Nat.zero_le, ↓reduceIte, rf_ck, rf_big, ld_big, st_big, hc, hni, e10, e11, r1, r2, fX12_digitAt_189, eo, ed]
        exact e
