/-! ===== the reference: what a step gives; frames by fields, arrays and values ===== -/
theorem qmk_id {q : Qv} (h : qok q) : qmk q.1 q.2.1 q.2.2 = q := by
  unfold qmk
  rw [h.2.2.2.1, Nat.div_one, Nat.div_one]
  by_cases h0 : q.2.1 = 0
  · have := h.2.1.mpr h0
    rw [if_pos h0, ← this]
  · rw [if_neg h0]
/-- what a step gives, if it is a value -/
def wkq (st : Nat) (p q : Qv) : Qv :=
  if st = 1 then qmk (jnS p.1 q.1 (p.2.1 * q.2.2) (q.2.1 * p.2.2)) (jnN p.1 q.1 (p.2.1 * q.2.2) (q.2.1 * p.2.2)) (p.2.2 * q.2.2)
  else if st = 2 then qmk (jnS p.1 (-q.1) (p.2.1 * q.2.2) (q.2.1 * p.2.2)) (jnN p.1 (-q.1) (p.2.1 * q.2.2) (q.2.1 * p.2.2)) (p.2.2 * q.2.2)
  else if st = 3 then qmk (p.1 * q.1) (p.2.1 * q.2.1) (p.2.2 * q.2.2)
  else if st = 4 then qmk (p.1 * q.1) (p.2.1 * q.2.2) (p.2.2 * q.2.1)
  else if st = 5 then qmk q.1 (if p.2.1 * q.2.2 % (q.2.1 * p.2.2) ≠ 0 ∧ p.1 ≠ q.1 then q.2.1 * p.2.2 - p.2.1 * q.2.2 % (q.2.1 * p.2.2) else p.2.1 * q.2.2 % (q.2.1 * p.2.2)) (p.2.2 * q.2.2)
  else if st = 6 then qmk (if p.1 < 0 ∧ (asI q).natAbs % 2 = 1 then -1 else 1) (pwb p (asI q) ^ (asI q).natAbs) (pwc p (asI q) ^ (asI q).natAbs)
  else if st = 7 then qmk 1 (fct p.2.1) 1
  else if st = 8 then (-p.1, p.2.1, p.2.2)
  else if st = 10 then qmk 1 (Nat.gcd p.2.1 q.2.1) 1
  else if st = 11 then qmk 1 (if p.2.1 = 0 ∨ q.2.1 = 0 then 0 else lcq p.2.1 q.2.1) 1
  else if st = 12 ∨ st = 13 ∨ st = 14 then qmk p.1 (rnd st p) 1
  else if st = 15 then qmk 1 p.2.1 p.2.2
  else if st = 16 then qmk (jnS p.1 q.1 p.2.1 q.2.1) (jnN p.1 q.1 p.2.1 q.2.1) (p.2.2 + q.2.2)
  else if st = 17 then qmk p.1 p.2.1 1
  else if st = 18 then qmk 1 p.2.2 1
  else if (cmpq p q < 0) = (st = 19) then p else q
/-- NUM and DEN hold what gives Q -/
def WkR (σ : St) (m : Nat) (Q : Qv) (σ' : St) (v : Int32) : Prop := ∃ (s : Int) (x y : Nat), v = iz s ∧ rfR m [0, 1, 2, 3, 4, 5, 6, 7, 8, 9, 10, 11, 12] σ σ' ∧ Rv σ' m 6 x ∧ Rv σ' m 7 y ∧ x < 10000 ^ 17 ∧ y < 10000 ^ 17 ∧ 0 < y ∧ (x ≠ 0 → s = 1 ∨ s = -1) ∧ (qsm (qmk s x y) ↔ qsm Q) ∧ (qsm (qmk s x y) → qmk s x y = Q)
theorem WkR.mk {σ σ' : St} {m x y : Nat} {s : Int} {S : List Nat} {Q : Qv} (hR : rfR m S σ σ') (hS : ∀ r ∈ S, r ∈ [0, 1, 2, 3, 4, 5, 6, 7, 8, 9, 10, 11, 12]) (hx : Rv σ' m 6 x) (hy : Rv σ' m 7 y) (h1 : x < 10000 ^ 17) (h2 : y < 10000 ^ 17) (h3 : 0 < y) (h4 : x ≠ 0 → s = 1 ∨ s = -1) (h5 : qmk s x y = Q) : WkR σ m Q σ' (iz s) :=
  ⟨s, x, y, rfl, hR.mo hS, hx, hy, h1, h2, h3, h4, by rw [h5], fun _ => h5⟩
theorem t17 {x : Nat} (h : x < 10000 ^ 16) : x < 10000 ^ 17 := Nat.lt_of_lt_of_le h (tp_mono (by omega))
theorem t18 {x : Nat} (h : x < 10000 ^ 8) : x < 10000 ^ 17 := Nat.lt_of_lt_of_le h (tp_mono (by omega))
theorem t1 : (1 : Nat) < 10000 ^ 17 := t18 (Nat.lt_of_lt_of_le (show 1 < 10000 ^ 1 by omega) (tp_mono (by omega)))
theorem t17a {x y : Nat} (h : x < 10000 ^ 16) (h' : y < 10000 ^ 16) : x + y < 10000 ^ 17 := by
  have := tp_s 16
  omega
theorem jn_ok {p q : Qv} {t : Int} (hp : qok p) (hq : qok q) (ht : t = q.1 ∨ t = -q.1) {a b : Nat} (ha : 0 < a) (hb : 0 < b) : jnN p.1 t (p.2.1 * a) (q.2.1 * b) ≠ 0 → jnS p.1 t (p.2.1 * a) (q.2.1 * b) = 1 ∨ jnS p.1 t (p.2.1 * a) (q.2.1 * b) = -1 := by
  have h1 := hq.1
  have z1 : p.1 = 0 ↔ p.2.1 * a = 0 := by
    rw [hp.2.1, Nat.mul_eq_zero]
    omega
  have z2 : q.1 = 0 ↔ q.2.1 * b = 0 := by
    rw [hq.2.1, Nat.mul_eq_zero]
    omega
  refine jn_nz hp.1 (by omega) z1 (by omega)
/-- powers that are no values are none as soon as they pass -/
theorem pw_pass {b c j k : Nat} (hc : Nat.gcd b c = 1) (hjk : j ≤ k) (hb0 : b ≠ 0 ∨ c ≠ 0) (h : ¬ (b ^ j < dig30 ∧ c ^ j < dig30)) : ¬ (b ^ k < dig30 ∧ c ^ k < dig30) := by
  have mono : ∀ x : Nat, 1 ≤ x → x ^ j ≤ x ^ k := fun x hx => Nat.pow_le_pow_right hx hjk
  have zero : ∀ x : Nat, x = 0 → x ^ j < dig30 := by
    intro x hx
    subst hx
    have h1 : (1 : Nat) < dig30 := by decide +kernel
    cases j with
    | zero => exact h1
    | succ j => rw [Nat.zero_pow (by omega)]; omega
  intro h9
  apply h
  constructor
  · by_cases h1 : b = 0
    · exact zero b h1
    · exact Nat.lt_of_le_of_lt (mono b (by omega)) h9.1
  · by_cases h1 : c = 0
    · exact zero c h1
    · exact Nat.lt_of_le_of_lt (mono c (by omega)) h9.2
theorem rf_works {m st i j : Nat} {p q : Qv} {σ : St} (hm : MS σ m) (hst : 1 ≤ st ∧ st ≤ 20 ∧ st ≠ 9) (hi : i < 12600) (hj : j < 12600) (hp : Vl σ m i p) (hq : Vl σ m j q) (hca : ca st p q = 0) :
    Hx (fX12_works σ m (nI st) (nI i) (nI j)) (WkR σ m (wkq st p q)) := by
  have n1 := hp.1.n8
  have n2 := hq.1.n8
  have d1 := hp.1.d8
  have d2 := hq.1.d8
  have p1 := hp.1.dp
  have p2 := hq.1.dp
  have b1 := hp.1.sg
  have b2 := hq.1.sg
  have sgn1 : p.2.1 ≠ 0 → p.1 = 1 ∨ p.1 = -1 := hp.1.nz
  have sgn2 : q.2.1 ≠ 0 → q.1 = 1 ∨ q.1 = -1 := hq.1.nz
  have z1 := hp.1.2.1
  have z2 := hq.1.2.1
  have one : (1 : Nat) < 10000 ^ 17 := t1
  unfold fX12_works
  by_cases k1 : st = 1 ∨ st = 2 ∨ st = 16
  · obtain ⟨σ1, e1, hR, hN, hD⟩ := rf_sums hm (by omega) hi hj hp hq _ _ _ _ rfl rfl rfl rfl
    have e : Hx (fX12_works_16 σ m (nI st) (nI i) (nI j)) (WkR σ m (wkq st p q)) := by
      unfold fX12_works_16
      (try simp (disch := first | assumption | ((repeat (first | apply MS_A | apply MS_I)) <;> assumption) | omega) only [sm_bind, sm_cb, sm_nm, lits, sm_add, sm_mul, sm_le, sm_lt, sm_eq, sm_div, sm_sub, mx_le, mx_lt, mx_eq, xm_le, xm_lt, xm_eq, iz_le, iz_lt, iz_eq, nb0, nb1, sA_wA_b, sA_wA_eq, Nat.zero_le, ↓reduceIte, not_true_eq_false, not_false_eq_true, eq_self, Nat.reduceEqDiff, rf_ck, e1])
      refine Hx.ret (WkR.mk hR (by simp) hN hD ?_ ?_ ?_ ?_ ?_)
      · refine Nat.lt_of_le_of_lt (jnN_le _ _ _ _) (t17a ?_ ?_)
        · split
          · exact Nat.lt_of_lt_of_le n1 (tp_mono (by omega))
          · exact mul16 n1 d2
        · split
          · exact Nat.lt_of_lt_of_le n2 (tp_mono (by omega))
          · exact mul16 n2 d1
      · split
        · exact t17a (Nat.lt_of_lt_of_le d1 (tp_mono (by omega))) (Nat.lt_of_lt_of_le d2 (tp_mono (by omega)))
        · exact t17 (mul16 d1 d2)
      · split
        · omega
        · exact Nat.mul_pos p1 p2
      · have ht : (if st = 2 then -q.1 else q.1) = q.1 ∨ (if st = 2 then -q.1 else q.1) = -q.1 := by by_cases h : st = 2 <;> simp [h]
        by_cases h16 : st = 16
        · rw [if_pos h16, if_pos h16]
          have := jn_ok (a := 1) (b := 1) hp.1 hq.1 ht (by omega) (by omega)
          rw [Nat.mul_one, Nat.mul_one] at this
          exact this
        · rw [if_neg h16, if_neg h16]
          exact jn_ok hp.1 hq.1 ht p2 p1
      · unfold wkq
        rcases k1 with h | h | h <;> subst h <;> simp
    rcases k1 with h | h | h <;> subst h
    · (try simp (disch := first | assumption | ((repeat (first | apply MS_A | apply MS_I)) <;> assumption) | omega) only [sm_bind, sm_cb, sm_nm, lits, sm_add, sm_mul, sm_le, sm_lt, sm_eq, sm_div, sm_sub, mx_le, mx_lt, mx_eq, xm_le, xm_lt, xm_eq, iz_le, iz_lt, iz_eq, nb0, nb1, sA_wA_b, sA_wA_eq, Nat.zero_le, ↓reduceIte, not_true_eq_false, not_false_eq_true, eq_self, Nat.reduceEqDiff, rf_ck])
      exact e
    · (try simp (disch := first | assumption | ((repeat (first | apply MS_A | apply MS_I)) <;> assumption) | omega) only [sm_bind, sm_cb, sm_nm, lits, sm_add, sm_mul, sm_le, sm_lt, sm_eq, sm_div, sm_sub, mx_le, mx_lt, mx_eq, xm_le, xm_lt, xm_eq, iz_le, iz_lt, iz_eq, nb0, nb1, sA_wA_b, sA_wA_eq, Nat.zero_le, ↓reduceIte, not_true_eq_false, not_false_eq_true, eq_self, Nat.reduceEqDiff, rf_ck, Nat.reduceEqDiff])
      exact e
    · (try simp (disch := first | assumption | ((repeat (first | apply MS_A | apply MS_I)) <;> assumption) | omega) only [sm_bind, sm_cb, sm_nm, lits, sm_add, sm_mul, sm_le, sm_lt, sm_eq, sm_div, sm_sub, mx_le, mx_lt, mx_eq, xm_le, xm_lt, xm_eq, iz_le, iz_lt, iz_eq, nb0, nb1, sA_wA_b, sA_wA_eq, Nat.zero_le, ↓reduceIte, not_true_eq_false, not_false_eq_true, eq_self, Nat.reduceEqDiff, rf_ck, Nat.reduceEqDiff])
      exact e
  · have k1a : ¬ st = 1 := by omega
    have k1b : ¬ st = 2 := by omega
    have k1c : ¬ st = 16 := by omega
    by_cases k3 : st = 3 ∨ st = 4
    · obtain ⟨σ1, e1, hR, hN, hD⟩ := rf_products hm k3 hi hj hp hq
      have hq4 : st = 4 → q.2.1 ≠ 0 := by
        intro h h0
        subst h
        unfold ca at hca
        simp [z2.mpr h0] at hca
      have e : Hx (fX12_works_34 σ m (nI st) (nI i) (nI j)) (WkR σ m (wkq st p q)) := by
        unfold fX12_works_34
        (try simp (disch := first | assumption | ((repeat (first | apply MS_A | apply MS_I)) <;> assumption) | omega) only [sm_bind, sm_cb, sm_nm, lits, sm_add, sm_mul, sm_le, sm_lt, sm_eq, sm_div, sm_sub, mx_le, mx_lt, mx_eq, xm_le, xm_lt, xm_eq, iz_le, iz_lt, iz_eq, nb0, nb1, sA_wA_b, sA_wA_eq, Nat.zero_le, ↓reduceIte, not_true_eq_false, not_false_eq_true, eq_self, Nat.reduceEqDiff, rf_ck, e1])
        refine Hx.ret (WkR.mk hR (by simp) hN hD ?_ ?_ ?_ ?_ ?_)
        · split
          · exact t17 (mul16 n1 n2)
          · exact t17 (mul16 n1 d2)
        · split
          · exact t17 (mul16 d1 d2)
          · exact t17 (mul16 d1 n2)
        · split
          · exact Nat.mul_pos p1 p2
          · exact Nat.mul_pos p1 (by have := hq4 (by omega); omega)
        · intro h
          have h1 : p.2.1 ≠ 0 := fun h0 => h (by rw [h0, Nat.zero_mul])
          have h2 : q.2.1 ≠ 0 := by
            rcases k3 with h3 | h3
            · intro h0
              apply h
              rw [h0, if_pos h3, Nat.mul_zero]
            · exact hq4 h3
          rcases sgn1 h1 with e1 | e1 <;> rcases sgn2 h2 with e2 | e2 <;> rw [e1, e2] <;> omega
        · unfold wkq
          rcases k3 with h | h <;> subst h <;> simp
      rcases k3 with h | h <;> subst h
      · (try simp (disch := first | assumption | ((repeat (first | apply MS_A | apply MS_I)) <;> assumption) | omega) only [sm_bind, sm_cb, sm_nm, lits, sm_add, sm_mul, sm_le, sm_lt, sm_eq, sm_div, sm_sub, mx_le, mx_lt, mx_eq, xm_le, xm_lt, xm_eq, iz_le, iz_lt, iz_eq, nb0, nb1, sA_wA_b, sA_wA_eq, Nat.zero_le, ↓reduceIte, not_true_eq_false, not_false_eq_true, eq_self, Nat.reduceEqDiff, rf_ck, k1a, k1b, k1c, Nat.reduceEqDiff])
        exact e
      · (try simp (disch := first | assumption | ((repeat (first | apply MS_A | apply MS_I)) <;> assumption) | omega) only [sm_bind, sm_cb, sm_nm, lits, sm_add, sm_mul, sm_le, sm_lt, sm_eq, sm_div, sm_sub, mx_le, mx_lt, mx_eq, xm_le, xm_lt, xm_eq, iz_le, iz_lt, iz_eq, nb0, nb1, sA_wA_b, sA_wA_eq, Nat.zero_le, ↓reduceIte, not_true_eq_false, not_false_eq_true, eq_self, Nat.reduceEqDiff, rf_ck, k1a, k1b, k1c, Nat.reduceEqDiff])
        exact e
    · have k3a : ¬ st = 3 := by omega
      have k3b : ¬ st = 4 := by omega
      by_cases k5 : st = 5
      · have hq0 : q.2.1 ≠ 0 := by
          intro h0
          subst k5
          unfold ca at hca
          simp [z2.mpr h0] at hca
        obtain ⟨σ1, e1, hR, hN, hD⟩ := rf_remains hm hi hj hp hq hq0 _ _ _ rfl rfl rfl
        (try simp (disch := first | assumption | ((repeat (first | apply MS_A | apply MS_I)) <;> assumption) | omega) only [sm_bind, sm_cb, sm_nm, lits, sm_add, sm_mul, sm_le, sm_lt, sm_eq, sm_div, sm_sub, mx_le, mx_lt, mx_eq, xm_le, xm_lt, xm_eq, iz_le, iz_lt, iz_eq, nb0, nb1, sA_wA_b, sA_wA_eq, Nat.zero_le, ↓reduceIte, not_true_eq_false, not_false_eq_true, eq_self, Nat.reduceEqDiff, rf_ck, k1a, k1b, k1c, k3a, k3b, k5, e1])
        have hYp : 0 < q.2.1 * p.2.2 := Nat.mul_pos (by omega) p1
        have hm9 := Nat.mod_lt (p.2.1 * q.2.2) hYp
        have y9 := mul16 n2 d1
        refine Hx.ret (WkR.mk hR (by simp) hN hD (t17 ?_) (t17 (mul16 d1 d2)) (Nat.mul_pos p1 p2) (fun _ => sgn2 hq0) ?_)
        · split <;> omega
        · unfold wkq
          simp
      · by_cases k6 : st = 6
        · subst k6
          have hc6 : q.2.2 = 1 ∧ q.2.1 ≤ 100 := by
            apply Classical.byContradiction
            intro h
            unfold ca at hca
            rw [if_pos ⟨rfl, h⟩] at hca
            omega
          have hc0 : ¬ (p.1 = 0 ∧ q.1 < 0) := by
            intro h
            unfold ca at hca
            rw [if_neg (fun h => h.2 hc6), if_neg (by omega), if_neg (by omega), if_neg (by omega), if_pos ⟨rfl, h⟩] at hca
            omega
          have he := (asI_in hq.1).mpr hc6.2
          have hes : asI q < 0 → q.1 < 0 := by
            rw [asI_sm hc6.2]
            rcases hq.1.1 with h | h | h <;> rw [h] <;> omega
          have A2 := rf_asInt hm hj hq
          (try simp (disch := first | assumption | ((repeat (first | apply MS_A | apply MS_I)) <;> assumption) | omega) only [sm_bind, sm_cb, sm_nm, lits, sm_add, sm_mul, sm_le, sm_lt, sm_eq, sm_div, sm_sub, mx_le, mx_lt, mx_eq, xm_le, xm_lt, xm_eq, iz_le, iz_lt, iz_eq, nb0, nb1, sA_wA_b, sA_wA_eq, Nat.zero_le, ↓reduceIte, not_true_eq_false, not_false_eq_true, eq_self, Nat.reduceEqDiff, rf_ck, k1a, k1b, k1c, k3a, k3b, k5, Nat.reduceEqDiff, A2])
          refine Hx.bd (rf_powers hm hi he hp) ?_
          rintro σ1 v ⟨rfl, hR, j', hj', hj9, hX, hY, x9, y9⟩
          have hcop : Nat.gcd (pwb p (asI q)) (pwc p (asI q)) = 1 := by
            have := hp.1.2.2.2.1
            unfold pwb pwc
            split
            · rw [Nat.gcd_comm]; exact this
            · exact this
          have hcop9 : ∀ k, Nat.gcd (pwb p (asI q) ^ k) (pwc p (asI q) ^ k) = 1 := fun k => Nat.Coprime.pow k k hcop
          have hc1 : 0 < pwc p (asI q) := by
            unfold pwc
            split
            · rename_i h
              have := hes h
              have : p.2.1 ≠ 0 := fun h0 => hc0 ⟨z1.mpr h0, this⟩
              omega
            · exact p1
          have hsm : ∀ (s : Int) k, qsm (qmk s (pwb p (asI q) ^ k) (pwc p (asI q) ^ k)) ↔ (pwb p (asI q) ^ k < dig30 ∧ pwc p (asI q) ^ k < dig30) := by
            intro s k
            unfold qsm qmk
            rw [hcop9, Nat.div_one, Nat.div_one]
          have hw : wkq 6 p q = qmk (if p.1 < 0 ∧ (asI q).natAbs % 2 = 1 then -1 else 1) (pwb p (asI q) ^ (asI q).natAbs) (pwc p (asI q) ^ (asI q).natAbs) := by simp [wkq]
          refine Hx.ret ⟨_, _, _, rfl, hR.mo (by simp), hX, hY, t17 x9, t17 y9, Nat.pow_pos hc1, fun _ => by split <;> simp, ?_, ?_⟩
          · rw [hw, hsm, hsm]
            rcases hj9 with h | h
            · rw [h]
            · exact ⟨fun h1 => absurd h1 h, fun h1 => absurd h1 (pw_pass hcop hj' (Or.inr (by omega)) h)⟩
          · rw [hsm, hw]
            intro h
            rcases hj9 with h1 | h1
            · rw [h1]
            · exact absurd h h1
        · by_cases k7 : st = 7
          · subst k7
            have hc7 : (p.2.2 = 1 ∧ 0 ≤ p.1) ∧ p.2.1 ≤ 28 := by
              unfold ca at hca
              rw [if_neg (by omega)] at hca
              by_cases h : p.2.2 = 1 ∧ 0 ≤ p.1
              · rw [if_neg (fun h9 => h9.2 h), if_neg (by omega), if_neg (by omega), if_neg (by omega)] at hca
                refine ⟨h, ?_⟩
                apply Classical.byContradiction
                intro h9
                rw [if_pos ⟨rfl, by omega⟩] at hca
                omega
              · rw [if_pos ⟨rfl, h⟩] at hca
                omega
            (try simp (disch := first | assumption | ((repeat (first | apply MS_A | apply MS_I)) <;> assumption) | omega) only [sm_bind, sm_cb, sm_nm, lits, sm_add, sm_mul, sm_le, sm_lt, sm_eq, sm_div, sm_sub, mx_le, mx_lt, mx_eq, xm_le, xm_lt, xm_eq, iz_le, iz_lt, iz_eq, nb0, nb1, sA_wA_b, sA_wA_eq, Nat.zero_le, ↓reduceIte, not_true_eq_false, not_false_eq_true, eq_self, Nat.reduceEqDiff, rf_ck, k1a, k1b, k1c, k3a, k3b, k5, k6, Nat.reduceEqDiff])
            refine Hx.bd (rf_fact hm hi hc7.2 hc7.1.2 hp) ?_
            rintro σ1 v ⟨rfl, hR, hX, hY⟩
            refine Hx.ret (WkR.mk hR (by simp) hX hY (t18 (fct_b hc7.2)) one (by omega) (fun _ => Or.inl rfl) ?_)
            simp [wkq]
          · by_cases k10 : st = 10 ∨ st = 11
            · have e : Hx (fX12_works_95 σ m (nI st) (nI i) (nI j)) (WkR σ m (wkq st p q)) := by
                unfold fX12_works_95
                (try simp (disch := first | assumption | ((repeat (first | apply MS_A | apply MS_I)) <;> assumption) | omega) only [sm_bind, sm_cb, sm_nm, lits, sm_add, sm_mul, sm_le, sm_lt, sm_eq, sm_div, sm_sub, mx_le, mx_lt, mx_eq, xm_le, xm_lt, xm_eq, iz_le, iz_lt, iz_eq, nb0, nb1, sA_wA_b, sA_wA_eq, Nat.zero_le, ↓reduceIte, not_true_eq_false, not_false_eq_true, eq_self, Nat.reduceEqDiff, rf_ck])
                refine Hx.bd (rf_factors hm k10 hi hj hp hq) ?_
                rintro σ1 v ⟨rfl, hR, hX, hY⟩
                refine Hx.ret (WkR.mk hR (by simp) hX hY ?_ one (by omega) (fun _ => Or.inl rfl) ?_)
                · split
                  · have : Nat.gcd p.2.1 q.2.1 < 10000 ^ 8 := by
                      rcases Nat.eq_zero_or_pos p.2.1 with h | h
                      · rw [h, Nat.gcd_zero_left]; exact n2
                      · exact Nat.lt_of_le_of_lt (Nat.gcd_le_left _ h) n1
                    exact t18 this
                  · split
                    · exact Nat.pow_pos (by omega)
                    · unfold lcq
                      exact t17 (mul16 (Nat.lt_of_le_of_lt (Nat.div_le_self _ _) n1) n2)
                · unfold wkq
                  rcases k10 with h | h <;> subst h <;> simp
              rcases k10 with h | h <;> subst h
              · (try simp (disch := first | assumption | ((repeat (first | apply MS_A | apply MS_I)) <;> assumption) | omega) only [sm_bind, sm_cb, sm_nm, lits, sm_add, sm_mul, sm_le, sm_lt, sm_eq, sm_div, sm_sub, mx_le, mx_lt, mx_eq, xm_le, xm_lt, xm_eq, iz_le, iz_lt, iz_eq, nb0, nb1, sA_wA_b, sA_wA_eq, Nat.zero_le, ↓reduceIte, not_true_eq_false, not_false_eq_true, eq_self, Nat.reduceEqDiff, rf_ck, k1a, k1b, k1c, k3a, k3b, k5, k6, k7, Nat.reduceEqDiff])
                exact e
              · (try simp (disch := first | assumption | ((repeat (first | apply MS_A | apply MS_I)) <;> assumption) | omega) only [sm_bind, sm_cb, sm_nm, lits, sm_add, sm_mul, sm_le, sm_lt, sm_eq, sm_div, sm_sub, mx_le, mx_lt, mx_eq, xm_le, xm_lt, xm_eq, iz_le, iz_lt, iz_eq, nb0, nb1, sA_wA_b, sA_wA_eq, Nat.zero_le, ↓reduceIte, not_true_eq_false, not_false_eq_true, eq_self, Nat.reduceEqDiff, rf_ck, k1a, k1b, k1c, k3a, k3b, k5, k6, k7, Nat.reduceEqDiff])
                exact e
            · have k10a : ¬ st = 10 := by omega
              have k10b : ¬ st = 11 := by omega
              by_cases k12 : st = 12 ∨ st = 13 ∨ st = 14
              · have e : Hx (fX12_works_121 σ m (nI st) (nI i)) (WkR σ m (wkq st p q)) := by
                  unfold fX12_works_121
                  (try simp (disch := first | assumption | ((repeat (first | apply MS_A | apply MS_I)) <;> assumption) | omega) only [sm_bind, sm_cb, sm_nm, lits, sm_add, sm_mul, sm_le, sm_lt, sm_eq, sm_div, sm_sub, mx_le, mx_lt, mx_eq, xm_le, xm_lt, xm_eq, iz_le, iz_lt, iz_eq, nb0, nb1, sA_wA_b, sA_wA_eq, Nat.zero_le, ↓reduceIte, not_true_eq_false, not_false_eq_true, eq_self, Nat.reduceEqDiff, rf_ck])
                  refine Hx.bd (rf_rounds hm k12 hi hp) ?_
                  rintro σ1 v ⟨hR, hX, hY, -⟩
                  have hm1 := hR.ms hm
                  have g1 := (hp.keep hR).sg hm1 hi
                  (try simp (disch := first | assumption | ((repeat (first | apply MS_A | apply MS_I)) <;> assumption) | omega) only [sm_bind, sm_cb, sm_nm, lits, sm_add, sm_mul, sm_le, sm_lt, sm_eq, sm_div, sm_sub, mx_le, mx_lt, mx_eq, xm_le, xm_lt, xm_eq, iz_le, iz_lt, iz_eq, nb0, nb1, sA_wA_b, sA_wA_eq, Nat.zero_le, ↓reduceIte, not_true_eq_false, not_false_eq_true, eq_self, Nat.reduceEqDiff, rf_ck, rf_sign, g1])
                  have hql : p.2.1 / p.2.2 ≤ p.2.1 := Nat.div_le_self _ _
                  have hrn : rnd st p ≤ p.2.1 / p.2.2 + 1 := by
                    unfold rnd
                    simp only
                    repeat' split
                    all_goals omega
                  have hs8 := tp_s 16
                  have hs9 := tp_mono (show 8 ≤ 16 by omega)
                  refine Hx.ret (WkR.mk hR (by simp) hX hY (by omega) one (by omega) ?_ ?_)
                  · intro h
                    apply sgn1
                    intro h0
                    apply h
                    have hz := z1.mpr h0
                    unfold rnd
                    simp only [h0, Nat.zero_div, Nat.zero_mod, Nat.mul_zero]
                    rcases k12 with h | h | h <;> subst h <;> simp <;> omega
                  · unfold wkq
                    rcases k12 with h | h | h <;> subst h <;> simp
                rcases k12 with h | h | h <;> subst h
                · (try simp (disch := first | assumption | ((repeat (first | apply MS_A | apply MS_I)) <;> assumption) | omega) only [sm_bind, sm_cb, sm_nm, lits, sm_add, sm_mul, sm_le, sm_lt, sm_eq, sm_div, sm_sub, mx_le, mx_lt, mx_eq, xm_le, xm_lt, xm_eq, iz_le, iz_lt, iz_eq, nb0, nb1, sA_wA_b, sA_wA_eq, Nat.zero_le, ↓reduceIte, not_true_eq_false, not_false_eq_true, eq_self, Nat.reduceEqDiff, rf_ck, k1a, k1b, k1c, k3a, k3b, k5, k6, k7, k10a, k10b, Nat.reduceEqDiff])
                  exact e
                · (try simp (disch := first | assumption | ((repeat (first | apply MS_A | apply MS_I)) <;> assumption) | omega) only [sm_bind, sm_cb, sm_nm, lits, sm_add, sm_mul, sm_le, sm_lt, sm_eq, sm_div, sm_sub, mx_le, mx_lt, mx_eq, xm_le, xm_lt, xm_eq, iz_le, iz_lt, iz_eq, nb0, nb1, sA_wA_b, sA_wA_eq, Nat.zero_le, ↓reduceIte, not_true_eq_false, not_false_eq_true, eq_self, Nat.reduceEqDiff, rf_ck, k1a, k1b, k1c, k3a, k3b, k5, k6, k7, k10a, k10b, Nat.reduceEqDiff])
                  exact e
                · (try simp (disch := first | assumption | ((repeat (first | apply MS_A | apply MS_I)) <;> assumption) | omega) only [sm_bind, sm_cb, sm_nm, lits, sm_add, sm_mul, sm_le, sm_lt, sm_eq, sm_div, sm_sub, mx_le, mx_lt, mx_eq, xm_le, xm_lt, xm_eq, iz_le, iz_lt, iz_eq, nb0, nb1, sA_wA_b, sA_wA_eq, Nat.zero_le, ↓reduceIte, not_true_eq_false, not_false_eq_true, eq_self, Nat.reduceEqDiff, rf_ck, k1a, k1b, k1c, k3a, k3b, k5, k6, k7, k10a, k10b, Nat.reduceEqDiff])
                  exact e
              · have k12a : ¬ st = 12 := by omega
                have k12b : ¬ st = 13 := by omega
                have k12c : ¬ st = 14 := by omega
                by_cases k19 : st = 19 ∨ st = 20
                · obtain ⟨σ1, e1, hR1⟩ := rf_order hm hi hj hp hq
                  have hm1 := hR1.ms hm
                  have cb : -1 ≤ cmpq p q ∧ cmpq p q ≤ 1 := by
                    unfold cmpq
                    have := cmp3_b (p.2.1 * q.2.2) (q.2.1 * p.2.2)
                    split
                    · rcases hp.1.1 with h | h | h <;> rw [h] <;> omega
                    · split <;> omega
                  have cpq : ∀ (k : Nat) (r : Qv), k < 12600 → Vl σ m k r → Hx (fX12_works_181 σ1 m (nI 0) (nI k)) (WkR σ m r) := by
                    intro k r hk hr
                    unfold fX12_works_181
                    (try simp (disch := first | assumption | ((repeat (first | apply MS_A | apply MS_I)) <;> assumption) | omega) only [sm_bind, sm_cb, sm_nm, lits, sm_add, sm_mul, sm_le, sm_lt, sm_eq, sm_div, sm_sub, mx_le, mx_lt, mx_eq, xm_le, xm_lt, xm_eq, iz_le, iz_lt, iz_eq, nb0, nb1, sA_wA_b, sA_wA_eq, Nat.zero_le, ↓reduceIte, not_true_eq_false, not_false_eq_true, eq_self, Nat.reduceEqDiff, rf_ck])
                    refine Hx.bd (rf_copiesPart (st := 0) hm1 (by omega) hk (hr.keep hR1) r.1 r.2.1 r.2.2 (by simp) (by simp) (by simp)) ?_
                    rintro σ2 v ⟨rfl, hR2, hX, hY⟩
                    refine Hx.ret (WkR.mk (hR1.mo (by simp) |>.tr (hR2.mo (S' := [0, 1, 2, 3, 4, 5, 6, 7, 8, 9, 10, 11, 12]) (by simp))) (by simp) hX hY (t18 hr.1.n8) (t18 hr.1.d8) hr.1.dp hr.1.nz (qmk_id hr.1))
                  have e : Hx (fX12_works_146 σ m (nI st) (nI i) (nI j)) (WkR σ m (if (cmpq p q < 0) = (st = 19) then p else q)) := by
                    unfold fX12_works_146 fX12_works_162 fX12_works_173
                    have hw9 : ¬ (nI 0 = nI 1) := by decide
                    have hw8 : ¬ (nI 1 = nI 0) := by decide
                    (try simp (disch := first | assumption | ((repeat (first | apply MS_A | apply MS_I)) <;> assumption) | omega) only [sm_bind, sm_cb, sm_nm, lits, sm_add, sm_mul, sm_le, sm_lt, sm_eq, sm_div, sm_sub, mx_le, mx_lt, mx_eq, xm_le, xm_lt, xm_eq, iz_le, iz_lt, iz_eq, nb0, nb1, sA_wA_b, sA_wA_eq, Nat.zero_le, ↓reduceIte, not_true_eq_false, not_false_eq_true, eq_self, Nat.reduceEqDiff, rf_ck, e1])
                    by_cases c0 : ((0 : Nat) : Int) ≤ cmpq p q
                    · have c1 : ¬ (cmpq p q < 0) := by omega
                      rcases k19 with h | h
                      · subst h
                        (try simp (disch := first | assumption | ((repeat (first | apply MS_A | apply MS_I)) <;> assumption) | omega) only [sm_bind, sm_cb, sm_nm, lits, sm_add, sm_mul, sm_le, sm_lt, sm_eq, sm_div, sm_sub, mx_le, mx_lt, mx_eq, xm_le, xm_lt, xm_eq, iz_le, iz_lt, iz_eq, nb0, nb1, sA_wA_b, sA_wA_eq, Nat.zero_le, ↓reduceIte, not_true_eq_false, not_false_eq_true, eq_self, Nat.reduceEqDiff, rf_ck, c0, hw9, hw8, Nat.reduceEqDiff])
                        simp only [c1, eq_self, eq_iff_iff, iff_true, ↓reduceIte]
                        exact cpq j q hj hq
                      · subst h
                        (try simp (disch := first | assumption | ((repeat (first | apply MS_A | apply MS_I)) <;> assumption) | omega) only [sm_bind, sm_cb, sm_nm, lits, sm_add, sm_mul, sm_le, sm_lt, sm_eq, sm_div, sm_sub, mx_le, mx_lt, mx_eq, xm_le, xm_lt, xm_eq, iz_le, iz_lt, iz_eq, nb0, nb1, sA_wA_b, sA_wA_eq, Nat.zero_le, ↓reduceIte, not_true_eq_false, not_false_eq_true, eq_self, Nat.reduceEqDiff, rf_ck, c0, hw9, hw8, Nat.reduceEqDiff])
                        rw [if_pos (by simp [c1])]
                        exact cpq i p hi hp
                    · have c1 : cmpq p q < 0 := by omega
                      rcases k19 with h | h
                      · subst h
                        (try simp (disch := first | assumption | ((repeat (first | apply MS_A | apply MS_I)) <;> assumption) | omega) only [sm_bind, sm_cb, sm_nm, lits, sm_add, sm_mul, sm_le, sm_lt, sm_eq, sm_div, sm_sub, mx_le, mx_lt, mx_eq, xm_le, xm_lt, xm_eq, iz_le, iz_lt, iz_eq, nb0, nb1, sA_wA_b, sA_wA_eq, Nat.zero_le, ↓reduceIte, not_true_eq_false, not_false_eq_true, eq_self, Nat.reduceEqDiff, rf_ck, c0, hw9, hw8, Nat.reduceEqDiff])
                        rw [if_pos (by simp [c1])]
                        exact cpq i p hi hp
                      · subst h
                        (try simp (disch := first | assumption | ((repeat (first | apply MS_A | apply MS_I)) <;> assumption) | omega) only [sm_bind, sm_cb, sm_nm, lits, sm_add, sm_mul, sm_le, sm_lt, sm_eq, sm_div, sm_sub, mx_le, mx_lt, mx_eq, xm_le, xm_lt, xm_eq, iz_le, iz_lt, iz_eq, nb0, nb1, sA_wA_b, sA_wA_eq, Nat.zero_le, ↓reduceIte, not_true_eq_false, not_false_eq_true, eq_self, Nat.reduceEqDiff, rf_ck, c0, hw9, hw8, Nat.reduceEqDiff])
                        rw [if_neg (by simp [c1])]
                        exact cpq j q hj hq
                  have ew : wkq st p q = if (cmpq p q < 0) = (st = 19) then p else q := by
                    unfold wkq
                    rcases k19 with h | h <;> subst h <;> simp
                  rw [ew]
                  generalize (if (cmpq p q < 0) = (st = 19) then p else q) = Q at e ⊢
                  rcases k19 with h | h <;> subst h
                  · (try simp (disch := first | assumption | ((repeat (first | apply MS_A | apply MS_I)) <;> assumption) | omega) only [sm_bind, sm_cb, sm_nm, lits, sm_add, sm_mul, sm_le, sm_lt, sm_eq, sm_div, sm_sub, mx_le, mx_lt, mx_eq, xm_le, xm_lt, xm_eq, iz_le, iz_lt, iz_eq, nb0, nb1, sA_wA_b, sA_wA_eq, Nat.zero_le, ↓reduceIte, not_true_eq_false, not_false_eq_true, eq_self, Nat.reduceEqDiff, rf_ck, k1a, k1b, k1c, k3a, k3b, k5, k6, k7, k10a, k10b, k12a, k12b, k12c, Nat.reduceEqDiff])
                    exact e
                  · (try simp (disch := first | assumption | ((repeat (first | apply MS_A | apply MS_I)) <;> assumption) | omega) only [sm_bind, sm_cb, sm_nm, lits, sm_add, sm_mul, sm_le, sm_lt, sm_eq, sm_div, sm_sub, mx_le, mx_lt, mx_eq, xm_le, xm_lt, xm_eq, iz_le, iz_lt, iz_eq, nb0, nb1, sA_wA_b, sA_wA_eq, Nat.zero_le, ↓reduceIte, not_true_eq_false, not_false_eq_true, eq_self, Nat.reduceEqDiff, rf_ck, k1a, k1b, k1c, k3a, k3b, k5, k6, k7, k10a, k10b, k12a, k12b, k12c, Nat.reduceEqDiff])
                    exact e
                · have k19a : ¬ st = 19 := by omega
                  have k19b : ¬ st = 20 := by omega
                  (try simp (disch := first | assumption | ((repeat (first | apply MS_A | apply MS_I)) <;> assumption) | omega) only [sm_bind, sm_cb, sm_nm, lits, sm_add, sm_mul, sm_le, sm_lt, sm_eq, sm_div, sm_sub, mx_le, mx_lt, mx_eq, xm_le, xm_lt, xm_eq, iz_le, iz_lt, iz_eq, nb0, nb1, sA_wA_b, sA_wA_eq, Nat.zero_le, ↓reduceIte, not_true_eq_false, not_false_eq_true, eq_self, Nat.reduceEqDiff, rf_ck, k1a, k1b, k1c, k3a, k3b, k5, k6, k7, k10a, k10b, k12a, k12b, k12c, k19a, k19b])
                  refine Hx.bd (rf_copiesPart hm (by omega) hi hp _ _ _ rfl rfl rfl) ?_
                  rintro σ1 v ⟨rfl, hR, hX, hY⟩
                  have hst9 : st = 8 ∨ st = 15 ∨ st = 17 ∨ st = 18 := by omega
                  refine Hx.ret (WkR.mk hR (by simp) hX hY ?_ ?_ ?_ ?_ ?_)
                  · split
                    · exact t18 d1
                    · exact t18 n1
                  · split
                    · exact one
                    · exact t18 d1
                  · split
                    · omega
                    · exact p1
                  · rcases hst9 with h | h | h | h <;> subst h <;> simp <;> intro h0 <;> have := sgn1 (by omega) <;> omega
                  · rcases hst9 with h | h | h | h <;> subst h <;> simp [wkq]
                    have hn : qok (-p.1, p.2.1, p.2.2) := by
                      obtain ⟨a1, a2, a3⟩ := hp.1
                      exact ⟨by show -p.1 = 0 ∨ -p.1 = 1 ∨ -p.1 = -1; omega, by show -p.1 = 0 ↔ p.2.1 = 0; omega, a3⟩
                    exact qmk_id hn
/-! ===== frames by fields, arrays and values ===== -/
/-- of the int fields only those of F change, of the arrays only those of A, of the values only those of V -/
def rfM (m : Nat) (F A : List Nat) (V : Nat → Prop) (σ σ' : St) : Prop := rfE m σ σ' ∧ (∀ f, f ∉ F → sI σ' (fid 16 f) m = sI σ (fid 16 f) m) ∧ (∀ j, j ∉ A → j ≠ 3 → j ≠ 4 → sA σ' (m + j) = sA σ (m + j)) ∧
  ∀ i, ¬ V i → sA σ' (m + 3) i = sA σ (m + 3) i ∧ ∀ k, k < 16 → sA σ' (m + 4) (16 * i + k) = sA σ (m + 4) (16 * i + k)
theorem rfM.rf {m : Nat} {F A : List Nat} {V : Nat → Prop} {σ : St} : rfM m F A V σ σ := ⟨rfE.rf, fun _ _ => rfl, fun _ _ _ _ => rfl, fun _ _ => ⟨rfl, fun _ _ => rfl⟩⟩
theorem rfM.tr {m : Nat} {F A : List Nat} {V : Nat → Prop} {σ σ1 σ2 : St} (h1 : rfM m F A V σ σ1) (h2 : rfM m F A V σ1 σ2) : rfM m F A V σ σ2 :=
  ⟨h1.1.tr h2.1, fun f hf => (h2.2.1 f hf).trans (h1.2.1 f hf), fun j h h3 h4 => (h2.2.2.1 j h h3 h4).trans (h1.2.2.1 j h h3 h4), fun i hi => ⟨(h2.2.2.2 i hi).1.trans (h1.2.2.2 i hi).1, fun k hk => ((h2.2.2.2 i hi).2 k hk).trans ((h1.2.2.2 i hi).2 k hk)⟩⟩
theorem rfM.mo {m : Nat} {F A F' A' : List Nat} {V V' : Nat → Prop} {σ σ' : St} (h : rfM m F A V σ σ') (hs : (∀ f ∈ F, f ∈ F') ∧ (∀ j ∈ A, j ∈ A')) (hv : ∀ i, V i → V' i) : rfM m F' A' V' σ σ' :=
  ⟨h.1, fun f hf => h.2.1 f fun q => hf (hs.1 f q), fun j hj => h.2.2.1 j fun q => hj (hs.2 j q), fun i hi => h.2.2.2 i fun q => hi (hv i q)⟩
theorem rfR.M {m : Nat} {S : List Nat} {V : Nat → Prop} {σ σ' : St} (h : rfR m S σ σ') : rfM m [] [1, 2] V σ σ' :=
  ⟨h.1.1, fun f _ => by rw [h.1.2.1], fun j hj _ _ => h.1.2.2 _ (by simp at hj; omega) (by simp at hj; omega), fun i _ => ⟨by rw [h.1.2.2 _ (by omega) (by omega)], fun k _ => by rw [h.1.2.2 _ (by omega) (by omega)]⟩⟩
theorem rfG.M {m : Nat} {S : List Nat} {V : Nat → Prop} {σ σ' : St} (h : rfG m S V σ σ') : rfM m [] [1, 2] V σ σ' :=
  ⟨h.1.1, fun f _ => by rw [h.1.2.1], fun j hj h3 h4 => h.1.2.2 _ (by simp at hj; omega) (by simp at hj; omega) (by omega) (by omega), h.2.2⟩
theorem rfM.ms {m : Nat} {F A : List Nat} {V : Nat → Prop} {σ σ' : St} (h : rfM m F A V σ σ') (hm : MS σ m) : MS σ' m := h.1.keep hm
theorem fid_inj {f g : Nat} (h : fid 16 f = fid 16 g) : f = g := by unfold fid at h; omega
theorem rfM.wI {m f : Nat} {F A : List Nat} {V : Nat → Prop} {σ : St} {v : Int32} (h : f ∈ F) : rfM m F A V σ (wI σ (fid 16 f) m v) :=
  ⟨rfE.wI, fun g hg => sI_wI_f fun e => hg (by rw [fid_inj e]; exact h), fun _ _ _ _ => rfl, fun _ _ => ⟨rfl, fun _ _ => rfl⟩⟩
theorem rfM.wA {m j i : Nat} {F A : List Nat} {V : Nat → Prop} {σ : St} {v : Int32} (h : j ∈ A) (h3 : j ≠ 3 ∧ j ≠ 4 ∧ 1 ≤ j ∧ j ≤ 44) : rfM m F A V σ (wA σ (m + j) i v) :=
  ⟨rfE.wA ⟨h3.2.2.1, h3.2.2.2⟩, fun _ _ => rfl, fun k hk _ _ => sA_wA_b (by intro e; exact hk (by rw [show k = j by omega]; exact h)), fun _ _ => ⟨by rw [sA_wA_b (by omega)], fun _ _ => by rw [sA_wA_b (by omega)]⟩⟩
theorem rfM.fd {m : Nat} {F A : List Nat} {V : Nat → Prop} {σ σ' : St} (h : rfM m F A V σ σ') {f : Nat} (hf : f ∉ F) : sI σ' (fid 16 f) m = sI σ (fid 16 f) m := h.2.1 f hf
theorem rfM.ar {m : Nat} {F A : List Nat} {V : Nat → Prop} {σ σ' : St} (h : rfM m F A V σ σ') (j : Nat) (hj : j ∉ A ∧ j ≠ 3 ∧ j ≠ 4) : sA σ' (m + j) = sA σ (m + j) := h.2.2.1 j hj.1 hj.2.1 hj.2.2
theorem Vl.keepM {m i : Nat} {q : Qv} {F A : List Nat} {V : Nat → Prop} {σ σ' : St} (h : Vl σ m i q) (hR : rfM m F A V σ σ') (hi : ¬ V i) : Vl σ' m i q := by
  refine ⟨h.1, (hR.2.2.2 i hi).1.trans h.2.1, fun k hk => ((hR.2.2.2 i hi).2 k (by omega)).trans (h.2.2.1 k hk), fun k hk => ?_⟩
  have := (hR.2.2.2 i hi).2 (8 + k) (by omega)
  rw [show 16 * i + 8 + k = 16 * i + (8 + k) by omega, this, show 16 * i + (8 + k) = 16 * i + 8 + k by omega]
  exact h.2.2.2 k hk
/-- an int field; an array's first places -/
def Fi (σ : St) (m f : Nat) (v : Int32) : Prop := sI σ (fid 16 f) m = v
def Ar (σ : St) (m j n : Nat) (g : Nat → Int32) : Prop := ∀ k, k < n → sA σ (m + j) k = g k
theorem Fi.keep {m f : Nat} {v : Int32} {F A : List Nat} {V : Nat → Prop} {σ σ' : St} (h : Fi σ m f v) (hR : rfM m F A V σ σ') (hf : f ∉ F) : Fi σ' m f v := (hR.fd hf).trans h
theorem Ar.keep {m j n : Nat} {g : Nat → Int32} {F A : List Nat} {V : Nat → Prop} {σ σ' : St} (h : Ar σ m j n g) (hR : rfM m F A V σ σ') (hj : j ∉ A ∧ j ≠ 3 ∧ j ≠ 4) : Ar σ' m j n g := fun k hk => by rw [hR.ar j hj]; exact h k hk
theorem Fi.R {m f : Nat} {v : Int32} {S : List Nat} {σ σ' : St} (h : Fi σ m f v) (hR : rfR m S σ σ') : Fi σ' m f v := h.keep (V := fun _ => False) hR.M (by simp)
/-- no value -/
def nV : Nat → Prop := fun _ => False
