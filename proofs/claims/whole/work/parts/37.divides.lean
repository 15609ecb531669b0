/-! ===== the reference: quotient and rest ===== -/
theorem dq_mod_low {x j k : Nat} (h : j < k) : dq (x % 10000 ^ k) j % 10000 = dq x j % 10000 := by
  conv => rhs; rw [← Nat.mod_add_div x (10000 ^ k), dq_add_low h]
theorem dq_mod_0 {x k : Nat} : dq (x % 10000 ^ k) k = 0 := tp_lt.mp (Nat.mod_lt _ (tp_pos k))
theorem rf_div165 {m n s X d H : Nat} (hn2 : 2 ≤ n) (hHn : H + n < 990) (hs : s < 10000 ^ n) (htop : 5000 ≤ dq s (n - 1)) (hX : X < s * 10000 ^ (H + 1)) (hd0 : 0 < d) (hd : d ≤ 10000) : ∀ (f : Nat) (σ : St) (K : Nat), MS σ m → K < f → K ≤ H + 1 → Ru σ m 11 n s →
    sA σ (m + 2) 9 = nI (H + 1) → (∀ j, j < K + n → sA σ (m + 1) (10000 + j) = nI (dq (X % (s * 10000 ^ K)) j % 10000)) → (∀ j, K ≤ j → j ≤ H → sA σ (m + 1) (9000 + j) = nI (dq (X / s) j % 10000)) →
    ∃ σ', fX12_divides_165 f σ m (nI d) (nI n) (iz ((K : Int) - 1)) = some (σ', ()) ∧ rfR m [9, 10] σ σ' ∧ Rv σ' m 9 (X / s) ∧ Rv σ' m 10 (X % s / d) := by
  have h0 : 0 < s := by
    apply Nat.pos_of_ne_zero
    intro h
    rw [h] at htop
    unfold dq at htop
    rw [Nat.zero_div] at htop
    omega
  intro f
  induction f with
  | zero => intro σ K _ h; omega
  | succ f ih =>
    intro σ K hm hf hK hS h9 h1 h2
    rw [fX12_divides_165]
    have ez : nI 0 = iz 0 := rfl
    by_cases hc : K = 0
    · subst hc
      rw [Nat.pow_zero, Nat.mul_one] at h1
      have c0 : iz (((0 : Nat) : Int) - 1) < nI 0 := by rw [ez, iz_lt (by omega) (by omega) (by omega) (by omega)]; omega
      have hst : rfR m [9, 10] σ (wA σ (m + 2) 10 (nI n)) := rfR.w2 (by simp)
      have hm0 : MS (wA σ (m + 2) 10 (nI n)) m := hst.ms hm
      obtain ⟨σ1, e1, hR1, hV1⟩ := rf_trims (r := 10) (w := n) (x := X % s) hm0 (by omega) (by omega) ⟨sA_wA_eq, fun j hj => by
        rw [sA_wA_b (by omega)]; exact h1 j (by omega), Nat.lt_trans (Nat.mod_lt _ h0) hs⟩
      have hm1 := hR1.ms hm0
      obtain ⟨σ2, e2, hR2, hV2⟩ := rf_trims (r := 9) (w := H + 1) (x := X / s) hm1 (by omega) (by omega) (Ru.keep (S := [10]) (σ := wA σ (m + 2) 10 (nI n)) ⟨by rw [sA_wA_j (by omega)]; exact h9, fun j hj => by
        rw [sA_wA_b (by omega)]; exact h2 j (by omega) (by omega), (Nat.div_lt_iff_lt_mul h0).mpr (by rw [Nat.mul_comm]; exact hX)⟩ hR1 (by simp) (by omega))
      have hm2 := hR2.ms hm1
      obtain ⟨σ3, e3, hR3, hV3⟩ := rf_shortens (t := 10) (c := d) hm2 (by omega) hd0 hd (hV1.keep hR2 (by simp))
      refine ⟨σ3, ?_, hst.tr ((hR1.mo (by simp)).tr ((hR2.mo (by simp)).tr (hR3.mo (by simp)))), hV2.keep hR3 (by simp), hV3⟩
      simp only [lits, c0, ↓reduceIte, rf_wide hm, sm_bind, st_wide hm (show 10 < 15 by omega), rf_ck hm0, rf_ck hm1, rf_ck hm2, e1, e2, e3, sm_cb]
    · obtain ⟨k, rfl⟩ : ∃ k, K = k + 1 := ⟨K - 1, by omega⟩
      have c0 : ¬ (nI k < nI 0) := by rw [sm_lt (by omega) (by omega)]; omega
      have ek : iz (((k + 1 : Nat) : Int) - 1) = nI k := by rw [sm_iz]; congr 1; omega
      -- the rest so far, cut at k
      have hY := Nat.mod_lt X (show 0 < s * 10000 ^ (k + 1) from Nat.mul_pos h0 (tp_pos _))
      have hV : dq (X % (s * 10000 ^ (k + 1))) k < s * 10000 := by
        unfold dq
        rw [Nat.div_lt_iff_lt_mul (tp_pos k), Nat.mul_assoc, ← Nat.pow_succ']
        exact hY
      obtain ⟨σ1, e1, hR1, hL1⟩ := rf_digitAt (k := k) (V := dq (X % (s * 10000 ^ (k + 1))) k) hm (by omega) hn2 hs htop hV hS (fun j hj => by rw [h1 (k + j) (by omega), dq_dq])
      have hR1' : rfR m [9, 10] σ σ1 := (hR1.R (by omega)).mo (by simp)
      have hm1 := hR1.ms hm
      have eq9 : dq (X % (s * 10000 ^ (k + 1))) k / s = dq (X / s) k % 10000 := by
        unfold dq
        rw [Nat.div_div_eq_div_mul, Nat.div_div_eq_div_mul, Nat.mul_comm (10000 ^ k), Nat.pow_succ, ← Nat.mul_assoc, Nat.mod_mul_right_div_self]
      have er : X % (s * 10000 ^ k) = X % (s * 10000 ^ (k + 1)) % 10000 ^ k + 10000 ^ k * (dq (X % (s * 10000 ^ (k + 1))) k % s) := by
        unfold dq
        rw [← Nat.mod_mul, Nat.mul_comm (10000 ^ k) s, Nat.pow_succ, ← Nat.mul_assoc, Nat.mod_mul_right_mod]
      have hst : rfR m [9, 10] σ1 (wA σ1 (m + 1) (9000 + k) (nI (dq (X / s) k % 10000))) := rfR.w1 (r := 9) (by simp) (by omega)
      obtain ⟨σ2, e2, hR2, hV2⟩ := ih (wA σ1 (m + 1) (9000 + k) (nI (dq (X / s) k % 10000))) k (hst.ms hm1) (by omega) (by omega) ((hS.keep hR1' (by simp) (by omega)).keep hst (by simp) (by omega)) (by rw [sA_wA_b (by omega), hR1.1.2.2 _ (by omega), h9])
        (fun j hj => by
          rw [sA_wA_j (by omega)]
          by_cases hjk : j < k
          · rw [hR1.2 _ (by omega), h1 j (by omega), er, dq_add_low hjk, dq_mod_low hjk]
          · have hl := hL1 (j - k) (by omega)
            rw [show k + (j - k) = j by omega] at hl
            rw [hl, er, show dq (X % (s * 10000 ^ (k + 1)) % 10000 ^ k + 10000 ^ k * (dq (X % (s * 10000 ^ (k + 1))) k % s)) j = dq (dq (X % (s * 10000 ^ (k + 1)) % 10000 ^ k + 10000 ^ k * (dq (X % (s * 10000 ^ (k + 1))) k % s)) k) (j - k) by rw [← dq_dq, show k + (j - k) = j by omega], dq_add_mul, dq_mod_0, Nat.zero_add])
        (fun j hj hj2 => by
          by_cases hjk : j = k
          · subst hjk; exact sA_wA_eq
          · rw [sA_wA_j (by omega), hR1.2 _ (by omega)]; exact h2 j (by omega) hj2)
      have ek2 : nI k + -nI 1 = iz ((k : Int) - 1) := by rw [sm_iz 1, sm_iz k, iz_neg, iz_add]; rfl
      refine ⟨σ2, ?_, hR1'.tr (hst.tr hR2), hV2⟩
      rw [← eq9] at e2
      have e3 : stI σ1 (m + 1) (nI 9000 + nI k) (nI (dq (X % (s * 10000 ^ (k + 1))) k / s)) = some (wA σ1 (m + 1) (9000 + k) (nI (dq (X % (s * 10000 ^ (k + 1))) k / s))) := by rw [sm_add, st_big hm1 (by omega)]
      rw [ek]
      simp only [lits, c0, ↓reduceIte, rf_big hm, sm_bind, rf_ck hm, e1, sm_cb, sm_nm, e3, ek2]
      exact e2
theorem rf_divides {m a b x y u : Nat} {σ : St} (hm : MS σ m) (ha : a < 15) (hb : b < 15) (ha9 : a ≠ 9 ∧ a ≠ 10 ∧ a ≠ 11) (hb9 : b ≠ 9 ∧ b ≠ 10 ∧ b ≠ 11) (hu : u ≤ 978) (hx : x < 10000 ^ u) (h0 : 0 < y) (hA : Rv σ m a x) (hB : Rv σ m b y) :
    ∃ σ', fX12_divides σ m (nI a) (nI b) = some (σ', ()) ∧ rfR m [9, 10, 11] σ σ' ∧ Rv σ' m 9 (x / y) ∧ Rv σ' m 10 (x % y) := by
  obtain ⟨σ1, e1, hR1, hV1⟩ := rf_copies (t := 10) hm (by omega) ha (by omega) hA
  have hm1 := hR1.ms hm
  have hst : rfR m [9] σ1 (wA σ1 (m + 2) 9 (nI 0)) := rfR.w2 (by simp)
  have hm2 := hst.ms hm1
  have hA2 := (hA.keep hR1 (by simp; omega)).keep hst (by simp; omega)
  have hB2 := (hB.keep hR1 (by simp; omega)).keep hst (by simp; omega)
  have hV2 := hV1.keep hst (by simp)
  have hc := rf_compares hm2 ha hb hA2 hB2
  have hR2 : rfR m [9, 10, 11] σ (wA σ1 (m + 2) 9 (nI 0)) := (hR1.mo (by simp)).tr (hst.mo (by simp))
  have ez : nI 0 = iz 0 := rfl
  unfold fX12_divides
  by_cases hlt : x < y
  · have ec : cmp3 x y = -1 := by unfold cmp3; rw [if_pos hlt]
    rw [ec] at hc
    have c0 : ¬ (nI 0 ≤ iz (-1)) := by rw [ez, iz_le (by omega) (by omega) (by omega) (by omega)]; omega
    refine ⟨_, ?_, hR2, ⟨0, ⟨sA_wA_eq, fun k hk => by omega, by rw [Nat.div_eq_of_lt hlt]; exact tp_pos _⟩, by omega, Or.inl rfl⟩, by rw [Nat.mod_eq_of_lt hlt]; exact hV2⟩
    simp only [lits, sm_bind, sm_cb, rf_ck hm, e1, rf_wide hm1, st_wide hm1 (show 9 < 15 by omega), rf_ck hm2, hc, c0, ↓reduceIte]
  · have c0 : nI 0 ≤ iz (cmp3 x y) := by
      have : cmp3 x y = 0 ∨ cmp3 x y = 1 := by
        unfold cmp3
        rw [if_neg hlt]
        split
        · exact Or.inl rfl
        · exact Or.inr rfl
      rw [ez, iz_le (by omega) (by omega) (by omega) (by omega)]
      omega
    obtain ⟨v, hU, hv9, hmin⟩ := id hB2
    have hvp : 0 < v := wid_pos hU.2.2 h0
    have hmin' : 10000 ^ (v - 1) ≤ y := by rcases hmin with h | h; omega; exact h
    have r1 := hU.1
    by_cases hv1 : v = 1
    · subst hv1
      have hy9 : y < 10000 := by have := hU.2.2; rw [Nat.pow_one] at this; exact this
      have r2 := hU.2.1 0 (by omega)
      rw [dq_0, Nat.mod_eq_of_lt hy9] at r2
      obtain ⟨σ3, e3, hR3, hV3⟩ := rf_copies (t := 9) hm2 (by omega) ha (by omega) hA2
      have hm3 := hR3.ms hm2
      have r3 : sA σ3 (m + 1) (1000 * b) = nI y := by
        have := (hR3.2 b (by simp; omega)).2 0 (by omega)
        exact this.trans r2
      obtain ⟨σ4, e4, hR4, hV4⟩ := rf_shortens (t := 9) (c := y) hm3 (by omega) h0 (by omega) hV3
      have hm4 := hR4.ms hm3
      have hxy9 := Nat.mod_lt x h0
      obtain ⟨σ5, e5, hR5, hV5⟩ := rf_puts (r := 10) (v := x % y) hm4 (by omega) (by omega)
      refine ⟨σ5, ?_, hR2.tr ((hR3.mo (by simp)).tr ((hR4.mo (by simp)).tr (hR5.mo (by simp)))), hV4.keep hR5 (by simp), hV5⟩
      have q1 : ldI (wA σ1 (m + 2) 9 (nI 0)) (m + 2) (nI b) = some (nI 1) := by rw [ld_wide hm2 hb, r1]
      have q2 : ldI σ3 (m + 1) (nI 1000 * nI b) = some (nI y) := by rw [sm_mul, ld_big hm3 (by omega), r3]
      simp only [lits, sm_bind, sm_cb, rf_ck hm, e1, rf_wide hm1, rf_wide hm2, st_wide hm1 (show 9 < 15 by omega), rf_ck hm2, hc, c0, ↓reduceIte, q1, e3, rf_big hm3, q2, rf_ck hm3, rf_ck hm4, e4, e5]
    · obtain ⟨σ3, e3, hR3, hV3⟩ := rf_copies (t := 11) hm2 (by omega) hb (by omega) hB2
      have hm3 := hR3.ms hm2
      have hU3 := hU.keep hR3 (by simp; omega) (by omega)
      -- the scale
      have htop := Nat.div_add_mod y (10000 ^ (v - 1))
      have htm := Nat.mod_lt y (tp_pos (v - 1))
      have htop1 : 1 ≤ dq y (v - 1) := by
        have := tp_ge.mp hmin'
        omega
      have htop9 : dq y (v - 1) < 10000 := by
        unfold dq
        rw [Nat.div_lt_iff_lt_mul (tp_pos _), ← Nat.pow_succ', show (v - 1).succ = v by omega]
        exact hU.2.2
      have hsc := kn_scale (B := 10000) (t := dq y (v - 1)) (by omega) (by omega) htop1 htop9
      have hd1 : 0 < 10000 / (dq y (v - 1) + 1) := Nat.div_pos (by omega) (by omega)
      have hdt : 10000 / (dq y (v - 1) + 1) * (dq y (v - 1) + 1) ≤ 10000 := Nat.div_mul_le_self _ _
      have hd9 : 10000 / (dq y (v - 1) + 1) ≤ 10000 := Nat.div_le_self _ _
      have hdiv : 10000 / (dq y (v - 1) + 1) = 10000 / (dq y (v - 1) + 1) := rfl
      generalize hd : 10000 / (dq y (v - 1) + 1) = d at *
      have q1 : ldI (wA σ1 (m + 2) 9 (nI 0)) (m + 2) (nI b) = some (nI v) := by rw [ld_wide hm2 hb, r1]
      have q2 : ldI σ3 (m + 2) (nI b) = some (nI v) := by rw [ld_wide hm3 hb, hU3.1]
      have q3 : ldI σ3 (m + 1) (nI 1000 * nI b + nI v - nI 1) = some (nI (dq y (v - 1))) := by
        have := hU3.2.1 (v - 1) (by omega)
        rw [Nat.mod_eq_of_lt htop9] at this
        rw [sm_mul, sm_add, sm_sub (by omega), show 1000 * b + v - 1 = 1000 * b + (v - 1) by omega, ld_big hm3 (by omega), this]
      have q4 : nI 10000 / (nI (dq y (v - 1)) + nI 1) = nI d := by rw [sm_add, sm_div (by omega) (by omega) (by omega), hd]
      have q5 : ckD (nI (dq y (v - 1)) + nI 1) = some () := by
        unfold ckD
        rw [if_neg]
        intro h
        rw [sm_add] at h
        have := sm_inj (by omega) (by omega) (show nI (dq y (v - 1) + 1) = nI 0 from h)
        omega
      have hyu : y ≤ x := by omega
      have hvu : v ≤ u := wid_le hmin (Nat.lt_of_le_of_lt hyu hx)
      obtain ⟨σ4, e4, hR4, hV4⟩ := rf_times (t := 11) (c := d) (u := u) hm3 (by omega) hd9 (by omega) (Nat.lt_of_le_of_lt hyu hx) hV3
      have hm4 := hR4.ms hm3
      have hV34 := (hV2.keep hR3 (by simp)).keep hR4 (by simp)
      obtain ⟨σ5, e5, hR5, hV5⟩ := rf_times (t := 10) (c := d) (u := u) hm4 (by omega) hd9 (by omega) hx hV34
      have hm5 := hR5.ms hm4
      have hV45 := hV4.keep hR5 (by simp)
      -- width of the scaled divisor
      have hs1 : dq y (v - 1) * d * 10000 ^ (v - 1) ≤ y * d := by
        rw [Nat.mul_right_comm]
        exact Nat.mul_le_mul_right d (Nat.div_mul_le_self _ _)
      have hs2 : y * d < 10000 ^ v := by
        have h1 : y < (dq y (v - 1) + 1) * 10000 ^ (v - 1) := by
          unfold dq
          rw [Nat.add_mul, Nat.one_mul, Nat.mul_comm]
          omega
        have h2 := Nat.mul_lt_mul_of_pos_right h1 hd1
        have h3 : (dq y (v - 1) + 1) * 10000 ^ (v - 1) * d = d * (dq y (v - 1) + 1) * 10000 ^ (v - 1) := by
          rw [Nat.mul_comm _ d, Nat.mul_assoc]
        have h4 : d * (dq y (v - 1) + 1) * 10000 ^ (v - 1) ≤ 10000 * 10000 ^ (v - 1) := Nat.mul_le_mul_right _ hdt
        have h5 : 10000 * 10000 ^ (v - 1) = 10000 ^ v := by rw [← Nat.pow_succ', show (v - 1).succ = v by omega]
        omega
      have hstop : 5000 ≤ dq (y * d) (v - 1) := by
        unfold dq
        rw [Nat.le_div_iff_mul_le (tp_pos _)]
        have h1 := Nat.mul_le_mul_right (10000 ^ (v - 1)) (show 5000 ≤ dq y (v - 1) * d by rw [Nat.mul_comm]; exact hsc)
        omega
      obtain ⟨n, hS, hn9, hnm⟩ := id hV45
      have hnv : n = v := by
        have h1 := wid_le hnm hs2
        have h2 : v - 1 < n := by
          apply Nat.lt_of_not_le
          intro h
          have h3 := hS.2.2
          have h4 := tp_mono h
          have h5 : 5000 * 10000 ^ (v - 1) ≤ y * d := by
            have := (Nat.le_div_iff_mul_le (tp_pos (v - 1))).mp hstop
            exact this
          have h6 := tp_pos (v - 1)
          omega
        omega
      subst hnv
      obtain ⟨w, hX, hw9, hwm⟩ := id hV5
      have hxd : x * d < 10000 ^ (u + 1) := by
        rw [tp_s]
        have h1 := Nat.mul_le_mul_left x hd9
        omega
      have hwu := wid_le hwm hxd
      have hnw : n ≤ w := by
        apply Nat.le_of_not_lt
        intro h
        have h1 := hX.2.2
        have h2 := tp_mono (show w ≤ n - 1 by omega)
        have h3 : 5000 * 10000 ^ (n - 1) ≤ y * d := (Nat.le_div_iff_mul_le (tp_pos (n - 1))).mp hstop
        have h4 : y * d ≤ x * d := Nat.mul_le_mul_right d hyu
        have h6 := tp_pos (n - 1)
        omega
      have q6 : ldI σ5 (m + 2) (nI 11) = some (nI n) := by rw [ld_wide hm5 (by omega), hS.1]
      have q7 : ldI σ5 (m + 2) (nI 10) = some (nI w) := by rw [ld_wide hm5 (by omega), hX.1]
      have q8 : nI w - nI n = nI (w - n) := sm_sub hnw
      have hst1 : rfR m [9, 10] σ5 (wA σ5 (m + 1) (1000 * 10 + w) (nI 0)) := rfR.w1 (by simp) (by omega)
      have hm6 := hst1.ms hm5
      have hst2 : rfR m [9, 10] (wA σ5 (m + 1) (1000 * 10 + w) (nI 0)) (wA (wA σ5 (m + 1) (1000 * 10 + w) (nI 0)) (m + 2) 9 (nI (w - n + 1))) := rfR.w2 (by simp)
      have hm7 := hst2.ms hm6
      have q9 : stI σ5 (m + 1) (nI 10000 + nI w) (nI 0) = some (wA σ5 (m + 1) (1000 * 10 + w) (nI 0)) := by rw [sm_add, st_big hm5 (by omega)]
      have q10 : stI (wA σ5 (m + 1) (1000 * 10 + w) (nI 0)) (m + 2) (nI 9) (nI (w - n) + nI 1) = some (wA (wA σ5 (m + 1) (1000 * 10 + w) (nI 0)) (m + 2) 9 (nI (w - n + 1))) := by rw [sm_add, st_wide hm6 (by omega)]
      have hXlt : x * d < y * d * 10000 ^ (w - n + 1) := by
        have h1 := hX.2.2
        have h3 : 5000 * 10000 ^ (n - 1) ≤ y * d := (Nat.le_div_iff_mul_le (tp_pos (n - 1))).mp hstop
        have h4 : 10000 ^ (n - 1) * 10000 ^ (w - n + 1) = 10000 ^ w := by rw [← Nat.pow_add]; congr 1; omega
        have h5 : 10000 ^ (n - 1) * 10000 ^ (w - n + 1) ≤ y * d * 10000 ^ (w - n + 1) := Nat.mul_le_mul_right _ (by omega)
        omega
      have hXw : x * d < 10000 ^ (w + 1) := by
        have := tp_mono (show w ≤ w + 1 by omega)
        have := hX.2.2
        omega
      obtain ⟨σ6, e6, hR6, hV6, hV7⟩ := rf_div165 (n := n) (s := y * d) (X := x * d) (d := d) (H := w - n) (by omega) (by omega) hs2 hstop hXlt hd1 hd9 FU (wA (wA σ5 (m + 1) (1000 * 10 + w) (nI 0)) (m + 2) 9 (nI (w - n + 1))) (w - n + 1) hm7 (by unfold FU; omega) (by omega) ((hS.keep hst1 (by simp) (by omega)).keep hst2 (by simp) (by omega)) sA_wA_eq
        (fun j hj => by
          rw [sA_wA_b (by omega), Nat.mod_eq_of_lt hXlt]
          by_cases hjw : j = w
          · subst hjw
            rw [show 10000 + j = 1000 * 10 + j by omega, sA_wA_eq, tp_lt.mp hX.2.2]
          · rw [sA_wA_j (by omega), show 10000 + j = 1000 * 10 + j by omega]
            exact hX.2.1 j (by omega)) (fun j hj hj2 => by omega)
      rw [show (((w - n + 1 : Nat) : Int) - 1) = ((w - n : Nat) : Int) by omega, ← sm_iz] at e6
      rw [Nat.mul_div_mul_right _ _ hd1] at hV6
      rw [Nat.mul_mod_mul_right, Nat.mul_div_cancel _ hd1] at hV7
      refine ⟨σ6, ?_, hR2.tr ((hR3.mo (by simp)).tr ((hR4.mo (by simp)).tr ((hR5.mo (by simp)).tr ((hst1.mo (by simp)).tr ((hst2.mo (by simp)).tr (hR6.mo (by simp))))))), hV6, hV7⟩
      have cv : ¬ (nI n = nI 1) := by rw [sm_eq (by omega) (by omega)]; exact hv1
      simp only [lits, sm_bind, sm_cb, sm_nm, rf_ck hm, e1, rf_wide hm1, rf_wide hm2, rf_wide hm3, rf_wide hm5, rf_wide hm6, st_wide hm1 (show 9 < 15 by omega), rf_ck hm2, hc, c0, ↓reduceIte, q1, cv, e3, rf_big hm3, rf_big hm5, q2, q3, q4, q5, rf_ck hm3, rf_ck hm4, e4, e5, q6, q7, q8, q9, q10, e6]
