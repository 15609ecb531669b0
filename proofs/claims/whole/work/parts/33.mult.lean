/-! ===== the reference: products ===== -/
theorem dq_add_mul (a b k : Nat) : dq (a + 10000 ^ k * b) k = dq a k + b := by
  unfold dq
  rw [Nat.add_mul_div_left _ _ (tp_pos k)]
theorem dq_dq (x a b : Nat) : dq x (a + b) = dq (dq x a) b := by
  unfold dq
  rw [Nat.pow_add, Nat.div_div_eq_div_mul]
theorem dq_add_low {a b q j : Nat} (h : j < q) : dq (a + 10000 ^ q * b) j % 10000 = dq a j % 10000 := by
  have e : 10000 ^ q * b = 10000 ^ j * (10000 * (10000 ^ (q - j - 1) * b)) := by
    rw [show q = j + (1 + (q - j - 1)) by omega, Nat.pow_add, Nat.pow_add, Nat.pow_one, Nat.mul_assoc, Nat.mul_assoc]
    rw [show j + (1 + (q - j - 1)) - j - 1 = q - j - 1 by omega]
  rw [e, dq_add_mul, Nat.add_mul_mod_self_left]
theorem mod_tp (y k : Nat) : y % 10000 ^ (k + 1) = y % 10000 ^ k + 10000 ^ k * (dq y k % 10000) := Nat.mod_pow_succ
theorem rf_mul_inner {m t a b x y Z i wa wb W : Nat} (K : St → Nat → Int32 → Int32 → Int32 → Int32 → Option (St × Unit)) (ht : t < 15) (ha : a < 15) (hb : b < 15) (hat : a ≠ t) (hbt : b ≠ t) (hW : W ≤ 980) (hi : i < wa) (hWab : W = wa + wb) (hyb : y < 10000 ^ wb)
    (hZ : Z < 10000 ^ W) (hT : Z + 10000 ^ i * (dq x i % 10000 * y) < 10000 ^ W) {P : St × Unit → Prop} : ∀ (n : Nat) (σ : St) (k : Nat), MS σ m → W - i + 1 - k < n → k ≤ W - i → Ru σ m a wa x → Ru σ m b wb y → wb ≤ 980 → Rv σ m b y → sA σ (m + 2) t = nI W →
    dq (Z + 10000 ^ i * (dq x i % 10000 * (y % 10000 ^ k))) (i + k) - dq Z (i + k) ≤ 9999 →
    (∀ j, j < i + k → sA σ (m + 1) (1000 * t + j) = nI (dq (Z + 10000 ^ i * (dq x i % 10000 * (y % 10000 ^ k))) j % 10000)) → (∀ j, i + k ≤ j → j < W → sA σ (m + 1) (1000 * t + j) = nI (dq Z j % 10000)) →
    (∀ σ', rfR m [t] σ σ' → Ru σ' m t W (Z + 10000 ^ i * (dq x i % 10000 * y)) → ∃ R, K σ' m (nI t) (nI a) (nI b) (nI (i + 1)) = some R ∧ P R) →
    ∃ R, fX12_multiplies_73 K n σ m (nI t) (nI a) (nI b) (nI i) (nI (dq (Z + 10000 ^ i * (dq x i % 10000 * (y % 10000 ^ k))) (i + k) - dq Z (i + k))) (nI k) = some R ∧ P R := by
  intro n
  induction n with
  | zero => intro σ k _ h; omega
  | succ n ih =>
    intro σ k hm hn hk hA hB hwb hBv hw ho h1 h2 hK
    rw [fX12_multiplies_73]
    have hTk : Z + 10000 ^ i * (dq x i % 10000 * (y % 10000 ^ k)) ≤ Z + 10000 ^ i * (dq x i % 10000 * y) := Nat.add_le_add_left (Nat.mul_le_mul_left _ (Nat.mul_le_mul_left _ (Nat.mod_le _ _))) _
    have eT : Z + 10000 ^ i * (dq x i % 10000 * (y % 10000 ^ (k + 1))) = (Z + 10000 ^ i * (dq x i % 10000 * (y % 10000 ^ k))) + 10000 ^ (i + k) * (dq x i % 10000 * (dq y k % 10000)) := by
      rw [mod_tp, Nat.mul_add, Nat.mul_add, Nat.pow_add, ← Nat.add_assoc]
      congr 1
      rw [Nat.mul_assoc, Nat.mul_left_comm (10000 ^ k)]
    have hdd : dq x i % 10000 * (dq y k % 10000) ≤ 9999 * 9999 := Nat.mul_le_mul (by omega) (by omega)
    have hZT : dq Z (i + k) ≤ dq (Z + 10000 ^ i * (dq x i % 10000 * (y % 10000 ^ k))) (i + k) := dq_mono _ (Nat.le_add_right _ _)
    have eTq := dq_add_mul (Z + 10000 ^ i * (dq x i % 10000 * (y % 10000 ^ k))) (dq x i % 10000 * (dq y k % 10000)) (i + k)
    have dZ := tp_dv Z (i + k)
    have dT := tp_dv (Z + 10000 ^ i * (dq x i % 10000 * (y % 10000 ^ (k + 1)))) (i + k)
    rw [eT, eTq] at dT
    have hWk : W ≤ i + k → dq (Z + 10000 ^ i * (dq x i % 10000 * (y % 10000 ^ k))) (i + k) = 0 := fun h => tp_lt.mp (Nat.lt_of_lt_of_le (Nat.lt_of_le_of_lt hTk hT) (tp_mono h))
    have hlow : ∀ j, j < i + k → dq (Z + 10000 ^ i * (dq x i % 10000 * (y % 10000 ^ (k + 1)))) j % 10000 = dq (Z + 10000 ^ i * (dq x i % 10000 * (y % 10000 ^ k))) j % 10000 := fun j hj => by rw [eT]; exact dq_add_low hj
    -- the body
    have body : i + k < W → ∀ (hk9 : k < wb ∨ 0 < dq (Z + 10000 ^ i * (dq x i % 10000 * (y % 10000 ^ k))) (i + k) - dq Z (i + k)),
        ∃ R, fX12_multiplies_89 K (fX12_multiplies_73 K n) σ m (nI t) (nI a) (nI b) (nI i) (nI (dq (Z + 10000 ^ i * (dq x i % 10000 * (y % 10000 ^ k))) (i + k) - dq Z (i + k))) (nI k) = some R ∧ P R := by
      intro hq _
      have r1 := h2 (i + k) (Nat.le_refl _) hq
      have r2 := hA.2.1 i hi
      have r3 := rf_limb (k := k) hm hb (by omega) hBv
      generalize hTk9 : dq (Z + 10000 ^ i * (dq x i % 10000 * (y % 10000 ^ k))) (i + k) = Tq at *
      generalize hZq9 : dq Z (i + k) = Zq at *
      generalize hdd9 : dq x i % 10000 * (dq y k % 10000) = dd at *
      have ed : (Zq % 10000 + dd + (Tq - Zq)) - (dq (Z + 10000 ^ i * (dq x i % 10000 * (y % 10000 ^ (k + 1)))) (i + k + 1) - dq Z (i + k + 1)) * 10000 = (Tq + dd) % 10000 := by rw [eT, dT, dZ]; omega
      have eo : (Zq % 10000 + dd + (Tq - Zq)) / 10000 = dq (Z + 10000 ^ i * (dq x i % 10000 * (y % 10000 ^ (k + 1)))) (i + k + 1) - dq Z (i + k + 1) := by rw [eT, dT, dZ]; omega
      have hst : rfR m [t] σ (wA σ (m + 1) (1000 * t + (i + k)) (nI ((Tq + dd) % 10000))) := rfR.w1 List.mem_cons_self (by omega)
      obtain ⟨R, i1, hPR⟩ := ih (wA σ (m + 1) (1000 * t + (i + k)) (nI ((Tq + dd) % 10000))) (k + 1) hm (by omega) (by omega) (hA.keep hst (by simp; omega) (by omega)) (hB.keep hst (by simp; omega) (by omega)) hwb (hBv.keep hst (by simp; omega)) (by rw [sA_wA_b (by omega), hw])
        (by rw [show i + (k + 1) = i + k + 1 by omega, ← eo]; omega)
        (fun j hj => by
          by_cases hjk : j = i + k
          · subst hjk; rw [sA_wA_eq, eT, eTq]
          · rw [sA_wA_j (by omega), hlow j (by omega)]; exact h1 j (by omega))
        (fun j hj hj2 => by rw [sA_wA_j (by omega)]; exact h2 j (by omega) hj2)
        (fun σ' hR hU => hK σ' (hst.tr hR) hU)
      rw [show i + (k + 1) = i + k + 1 by omega] at i1
      refine ⟨R, ?_, hPR⟩
      unfold fX12_multiplies_89
      simp (disch := first | exact hm | ((repeat (first | apply MS_A | apply MS_I)) <;> exact hm) | omega) only [sm_bind, sm_cb, sm_nm, lits, sm_add, sm_mul, sm_le, sm_lt, sm_eq, sm_div, sm_sub, sA_wA_b, sA_wA_eq, Nat.zero_le, ↓reduceIte, rf_ck, rf_big, ld_big, st_big, rf_wide, ld_wide, st_wide, Nat.add_assoc (1000 * t) i k, r1, r2, r3, hdd9, eo, ed]
      exact i1
    by_cases hkb : k < wb
    · obtain ⟨R, h9, hPR⟩ := body (by omega) (Or.inl hkb)
      have q1 := hB.1
      refine ⟨R, ?_, hPR⟩
      simp (disch := first | exact hm | ((repeat (first | apply MS_A | apply MS_I)) <;> exact hm) | omega) only [sm_bind, sm_cb, sm_nm, lits, sm_add, sm_mul, sm_le, sm_lt, sm_eq, sm_div, sm_sub, sA_wA_b, sA_wA_eq, Nat.zero_le, ↓reduceIte, rf_ck, rf_wide, ld_wide, st_wide, q1, hkb]
      exact h9
    · have q1 := hB.1
      by_cases ho9 : dq (Z + 10000 ^ i * (dq x i % 10000 * (y % 10000 ^ k))) (i + k) - dq Z (i + k) = 0
      · have hy9 : y % 10000 ^ k = y := Nat.mod_eq_of_lt (Nat.lt_of_lt_of_le hyb (tp_mono (by omega)))
        rw [hy9] at h1 ho9 hZT hWk
        obtain ⟨R, h9, hPR⟩ := hK σ rfR.rf ⟨hw, fun j hj => by
          by_cases hjq : j < i + k
          · exact h1 j hjq
          · rw [h2 j (by omega) hj]
            congr 2
            rw [show j = i + k + (j - (i + k)) by omega, dq_dq, dq_dq (Z + _)]
            congr 1
            omega, hT⟩
        refine ⟨R, ?_, hPR⟩
        rw [hy9, ho9]
        simp (disch := first | exact hm | ((repeat (first | apply MS_A | apply MS_I)) <;> exact hm) | omega) only [sm_bind, sm_cb, sm_nm, lits, sm_add, sm_mul, sm_le, sm_lt, sm_eq, sm_div, sm_sub, sA_wA_b, sA_wA_eq, Nat.zero_le, ↓reduceIte, rf_ck, rf_wide, ld_wide, st_wide, q1, hkb, Nat.le_refl]
        exact h9
      · obtain ⟨R, h9, hPR⟩ := body (by
          apply Nat.lt_of_not_le
          intro h
          have := hWk h
          omega) (Or.inr (by omega))
        have q2 : ¬ dq (Z + 10000 ^ i * (dq x i % 10000 * (y % 10000 ^ k))) (i + k) - dq Z (i + k) ≤ 0 := by omega
        refine ⟨R, ?_, hPR⟩
        simp (disch := first | exact hm | ((repeat (first | apply MS_A | apply MS_I)) <;> exact hm) | omega) only [sm_bind, sm_cb, sm_nm, lits, sm_add, sm_mul, sm_le, sm_lt, sm_eq, sm_div, sm_sub, sA_wA_b, sA_wA_eq, Nat.zero_le, ↓reduceIte, rf_ck, rf_wide, ld_wide, st_wide, q1, hkb, q2]
        exact h9
theorem rf_mul_outer {m t a b x y wa wb W : Nat} (ht : t < 15) (ha : a < 15) (hb : b < 15) (hat : a ≠ t) (hbt : b ≠ t) (hW : W ≤ 980) (hWab : W = wa + wb) (hxa : x < 10000 ^ wa) (hyb : y < 10000 ^ wb) : ∀ (n : Nat) (σ : St) (i : Nat), MS σ m → wa - i < n → i ≤ wa → Ru σ m a wa x → Ru σ m b wb y → Rv σ m b y →
    Ru σ m t W (x % 10000 ^ i * y) → ∃ σ', fX12_multiplies_56 n σ m (nI t) (nI a) (nI b) (nI i) = some (σ', ()) ∧ rfR m [t] σ σ' ∧ Rv σ' m t (x * y) := by
  intro n
  induction n with
  | zero => intro σ i _ h; omega
  | succ n ih =>
    intro σ i hm hn hi hA hB hBv hT
    rw [fX12_multiplies_56]
    have q1 := hA.1
    have hxy : x * y < 10000 ^ W := by
      rw [hWab, Nat.pow_add]
      exact Nat.mul_lt_mul'' hxa hyb
    by_cases hc : wa ≤ i
    · have hiw : i = wa := by omega
      subst hiw
      rw [Nat.mod_eq_of_lt hxa] at hT
      obtain ⟨σ', e, hR, hV⟩ := rf_trims hm ht (by omega) hT
      refine ⟨σ', ?_, hR, hV⟩
      simp (disch := first | exact hm | ((repeat (first | apply MS_A | apply MS_I)) <;> exact hm) | omega) only [sm_bind, sm_cb, sm_nm, lits, sm_add, sm_mul, sm_le, sm_lt, sm_eq, sm_div, sm_sub, sA_wA_b, sA_wA_eq, Nat.zero_le, ↓reduceIte, rf_ck, rf_wide, ld_wide, st_wide, q1, hc, e]
    · have eS : x % 10000 ^ (i + 1) * y = x % 10000 ^ i * y + 10000 ^ i * (dq x i % 10000 * y) := by rw [mod_tp, Nat.add_mul, Nat.mul_assoc]
      have hS : x % 10000 ^ i * y + 10000 ^ i * (dq x i % 10000 * y) < 10000 ^ W := by
        rw [← eS]
        exact Nat.lt_of_le_of_lt (Nat.mul_le_mul_right y (Nat.mod_le _ _)) hxy
      have h0 : dq (x % 10000 ^ i * y + 10000 ^ i * (dq x i % 10000 * (y % 10000 ^ 0))) (i + 0) - dq (x % 10000 ^ i * y) (i + 0) = 0 := by
        rw [Nat.pow_zero, Nat.mod_one, Nat.mul_zero, Nat.mul_zero, Nat.add_zero]
        exact Nat.sub_self _
      obtain ⟨R, e, hR, hV⟩ := rf_mul_inner (P := fun R => rfR m [t] σ R.1 ∧ Rv R.1 m t (x * y)) (fX12_multiplies_56 n) ht ha hb hat hbt hW (by omega) hWab hyb hT.2.2 hS FU σ 0 hm (by unfold FU; omega) (by omega) hA hB (by omega) hBv hT.1 (by rw [h0]; omega) (fun j hj => by
        rw [Nat.pow_zero, Nat.mod_one, Nat.mul_zero, Nat.mul_zero, Nat.add_zero]
        exact hT.2.1 j (by omega)) (fun j _ hj => hT.2.1 j hj) (fun σ' h1 h2 => by
        obtain ⟨σ2, e2, hR2, hV2⟩ := ih σ' (i + 1) (h1.ms hm) (by omega) (by omega) (hA.keep h1 (by simp; omega) (by omega)) (hB.keep h1 (by simp; omega) (by omega)) (hBv.keep h1 (by simp; omega)) (by rw [eS]; exact h2)
        exact ⟨(σ2, ()), e2, h1.tr hR2, hV2⟩)
      rw [h0] at e
      refine ⟨R.1, ?_, hR, hV⟩
      simp (disch := first | exact hm | ((repeat (first | apply MS_A | apply MS_I)) <;> exact hm) | omega) only [sm_bind, sm_cb, sm_nm, lits, sm_add, sm_mul, sm_le, sm_lt, sm_eq, sm_div, sm_sub, sA_wA_b, sA_wA_eq, Nat.zero_le, ↓reduceIte, rf_ck, rf_wide, ld_wide, st_wide, q1, hc]
      exact e
theorem rf_mul_clear {m t a b wa wb W x y : Nat} (ht : t < 15) (ha : a < 15) (hb : b < 15) (hat : a ≠ t) (hbt : b ≠ t) (hW : W ≤ 980) (hWab : W = wa + wb) (hxa : x < 10000 ^ wa) (hyb : y < 10000 ^ wb) : ∀ (n : Nat) (σ : St) (k : Nat), MS σ m → W - k < n → k ≤ W → Ru σ m a wa x → Ru σ m b wb y → Rv σ m b y →
    sA σ (m + 2) t = nI W → (∀ j, j < k → sA σ (m + 1) (1000 * t + j) = nI 0) → ∃ σ', fX12_multiplies_22 n σ m (nI t) (nI a) (nI b) (nI k) = some (σ', ()) ∧ rfR m [t] σ σ' ∧ Rv σ' m t (x * y) := by
  intro n
  induction n with
  | zero => intro σ k _ h; omega
  | succ n ih =>
    intro σ k hm hn hk hA hB hBv h1 h2
    rw [fX12_multiplies_22]
    by_cases hc : W ≤ k
    · obtain ⟨σ', e, hR, hV⟩ := rf_mul_outer ht ha hb hat hbt hW hWab hxa hyb FU σ 0 hm (by unfold FU; omega) (by omega) hA hB hBv ⟨h1, fun j hj => by
        rw [h2 j (by omega), Nat.pow_zero, Nat.mod_one, Nat.zero_mul]
        unfold dq
        rw [Nat.zero_div], by rw [Nat.pow_zero, Nat.mod_one, Nat.zero_mul]; exact tp_pos _⟩
      refine ⟨σ', ?_, hR, hV⟩
      simp (disch := first | exact hm | ((repeat (first | apply MS_A | apply MS_I)) <;> exact hm) | omega) only [sm_bind, sm_cb, sm_nm, lits, sm_add, sm_mul, sm_le, sm_lt, sm_eq, sm_div, sm_sub, sA_wA_b, sA_wA_eq, Nat.zero_le, ↓reduceIte, rf_ck, rf_wide, ld_wide, st_wide, h1, hc, e]
    · have hst : rfR m [t] σ (wA σ (m + 1) (1000 * t + k) (nI 0)) := rfR.w1 List.mem_cons_self (by omega)
      obtain ⟨σ', e, hR, hV⟩ := ih (wA σ (m + 1) (1000 * t + k) (nI 0)) (k + 1) hm (by omega) (by omega) (hA.keep hst (by simp; omega) (by omega)) (hB.keep hst (by simp; omega) (by omega)) (hBv.keep hst (by simp; omega)) (by rw [sA_wA_b (by omega), h1]) (fun j hj => by
        by_cases hjk : j = k
        · subst hjk; exact sA_wA_eq
        · rw [sA_wA_j (by omega)]; exact h2 j (by omega))
      refine ⟨σ', ?_, hst.tr hR, hV⟩
      simp (disch := first | exact hm | ((repeat (first | apply MS_A | apply MS_I)) <;> exact hm) | omega) only [sm_bind, sm_cb, sm_nm, lits, sm_add, sm_mul, sm_le, sm_lt, sm_eq, sm_div, sm_sub, sA_wA_b, sA_wA_eq, Nat.zero_le, ↓reduceIte, rf_ck, rf_wide, ld_wide, st_wide, rf_big, ld_big, st_big, h1, hc, e]
theorem rf_multiplies {m t a b x y u v : Nat} {σ : St} (hm : MS σ m) (ht : t < 15) (ha : a < 15) (hb : b < 15) (hat : a ≠ t) (hbt : b ≠ t) (huv : u + v ≤ 980) (hx : x < 10000 ^ u) (hy : y < 10000 ^ v) (hA : Rv σ m a x) (hB : Rv σ m b y) :
    ∃ σ', fX12_multiplies σ m (nI t) (nI a) (nI b) = some (σ', ()) ∧ rfR m [t] σ σ' ∧ Rv σ' m t (x * y) := by
  obtain ⟨wa, hUa, ha9, hm1⟩ := id hA
  obtain ⟨wb, hUb, hb9, hm2⟩ := id hB
  have hwa := wid_le hm1 hx
  have hwb := wid_le hm2 hy
  have hst : rfR m [t] σ (wA σ (m + 2) t (nI (wa + wb))) := rfR.w2 List.mem_cons_self
  obtain ⟨σ', e, hR, hV⟩ := rf_mul_clear ht ha hb hat hbt (by omega) rfl hUa.2.2 hUb.2.2 FU (wA σ (m + 2) t (nI (wa + wb))) 0 hm (by unfold FU; omega) (by omega) (hUa.keep hst (by simp; omega) (by omega)) (hUb.keep hst (by simp; omega) (by omega)) (hB.keep hst (by simp; omega)) sA_wA_eq (fun j hj => by omega)
  have q1 := hUa.1
  have q2 := hUb.1
  refine ⟨σ', ?_, hst.tr hR, hV⟩
  unfold fX12_multiplies
  simp (disch := first | exact hm | ((repeat (first | apply MS_A | apply MS_I)) <;> exact hm) | omega) only [sm_bind, sm_cb, sm_nm, lits, sm_add, sm_mul, sm_le, sm_lt, sm_eq, sm_div, sm_sub, sA_wA_b, sA_wA_eq, Nat.zero_le, ↓reduceIte, rf_ck, rf_wide, ld_wide, st_wide, q1, q2, e]
