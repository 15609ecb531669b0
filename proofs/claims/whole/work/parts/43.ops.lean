/-! ===== the reference: powers, factorials, factors, rounding, parts ===== -/
theorem rf_pow_tail {m i k : Nat} {p : Qv} {σ : St} (hm : MS σ m) (hi : i < 12600) (hk : k < 2000) (hp : Vl σ m i p) : fX12_powers_119 σ m (nI i) (nI k) = some (σ, iz (if p.1 < 0 ∧ k % 2 = 1 then -1 else 1)) := by
  have S1 := hp.sg hm hi
  have b1 := hp.1.sg
  have hmd : nI k - nI k / nI 2 * nI 2 = nI (k % 2) := sm_mod (by omega) (by omega) (by omega)
  unfold fX12_powers_119
  by_cases c1 : p.1 < 0
  · have c2 : ¬ (((0 : Nat) : Int) ≤ p.1) := by omega
    by_cases c3 : k % 2 = 1
    · rw [show (if p.1 < 0 ∧ k % 2 = 1 then (-1 : Int) else 1) = -1 from if_pos ⟨c1, c3⟩]
      simp only [lits, hmd]
      (try simp (disch := first | assumption | ((repeat (first | apply MS_A | apply MS_I)) <;> assumption) | omega) only [sm_bind, sm_cb, sm_nm, lits, sm_add, sm_mul, sm_le, sm_lt, sm_eq, sm_div, sm_sub, mx_le, mx_lt, mx_eq, xm_le, xm_lt, xm_eq, iz_le, iz_lt, iz_eq, nb0, nb1, sA_wA_b, sA_wA_eq, Nat.zero_le, ↓reduceIte, not_true_eq_false, not_false_eq_true, eq_self, Nat.reduceEqDiff, rf_ck, rf_sign, S1, c2, c3])
      rfl
    · rw [show (if p.1 < 0 ∧ k % 2 = 1 then (-1 : Int) else 1) = 1 from if_neg (fun h => c3 h.2)]
      simp only [lits, hmd]
      (try simp (disch := first | assumption | ((repeat (first | apply MS_A | apply MS_I)) <;> assumption) | omega) only [sm_bind, sm_cb, sm_nm, lits, sm_add, sm_mul, sm_le, sm_lt, sm_eq, sm_div, sm_sub, mx_le, mx_lt, mx_eq, xm_le, xm_lt, xm_eq, iz_le, iz_lt, iz_eq, nb0, nb1, sA_wA_b, sA_wA_eq, Nat.zero_le, ↓reduceIte, not_true_eq_false, not_false_eq_true, eq_self, Nat.reduceEqDiff, rf_ck, rf_sign, S1, c2, c3])
      rfl
  · rw [show (if p.1 < 0 ∧ k % 2 = 1 then (-1 : Int) else 1) = 1 from if_neg (fun h => c1 h.1)]
    have c2 : (((0 : Nat) : Int) ≤ p.1) := by omega
    (try simp (disch := first | assumption | ((repeat (first | apply MS_A | apply MS_I)) <;> assumption) | omega) only [sm_bind, sm_cb, sm_nm, lits, sm_add, sm_mul, sm_le, sm_lt, sm_eq, sm_div, sm_sub, mx_le, mx_lt, mx_eq, xm_le, xm_lt, xm_eq, iz_le, iz_lt, iz_eq, nb0, nb1, sA_wA_b, sA_wA_eq, Nat.zero_le, ↓reduceIte, not_true_eq_false, not_false_eq_true, eq_self, Nat.reduceEqDiff, rf_ck, rf_sign, S1, c2])
    rfl
theorem rf_powers_loop {m i k b c : Nat} {p : Qv} (hi : i < 12600) (hk : k ≤ 100) (hb : b < dig30) (hc : c < dig30) : ∀ (n : Nat) (σ : St) (j : Nat), MS σ m → k - j < n → j ≤ k → Vl σ m i p → Rv σ m 0 b → Rv σ m 1 c → Rv σ m 6 (b ^ j) → Rv σ m 7 (c ^ j) → b ^ j < 10000 ^ 16 → c ^ j < 10000 ^ 16 →
    Hx (fX12_powers_59 n σ m (nI i) (nI k) (nI j)) fun σ' v => v = iz (if p.1 < 0 ∧ k % 2 = 1 then -1 else 1) ∧ rfR m [4, 6, 7] σ σ' ∧ ∃ j', j' ≤ k ∧ (j' = k ∨ ¬ (b ^ j' < dig30 ∧ c ^ j' < dig30)) ∧ Rv σ' m 6 (b ^ j') ∧ Rv σ' m 7 (c ^ j') ∧ b ^ j' < 10000 ^ 16 ∧ c ^ j' < 10000 ^ 16 := by
  intro n
  induction n with
  | zero => intro σ j _ h; omega
  | succ n ih =>
    intro σ j hm hn hj hV hA hB hX hY x1 y1
    have T := rf_pow_tail (k := k) hm hi (by omega) hV
    have F : rfR m [4, 6, 7] σ σ := rfR.rf
    have s6 := rf_isSmall hm (show 6 < 15 by omega) hX
    have s7 := rf_isSmall hm (show 7 < 15 by omega) hY
    have d8 := dig30_lt
    rw [fX12_powers_59]
    by_cases c1 : k ≤ j
    · (try simp (disch := first | assumption | ((repeat (first | apply MS_A | apply MS_I)) <;> assumption) | omega) only [sm_bind, sm_cb, sm_nm, lits, sm_add, sm_mul, sm_le, sm_lt, sm_eq, sm_div, sm_sub, mx_le, mx_lt, mx_eq, xm_le, xm_lt, xm_eq, iz_le, iz_lt, iz_eq, nb0, nb1, sA_wA_b, sA_wA_eq, Nat.zero_le, ↓reduceIte, not_true_eq_false, not_false_eq_true, eq_self, Nat.reduceEqDiff, rf_ck, c1, T])
      exact Hx.ret ⟨rfl, F, j, hj, Or.inl (by omega), hX, hY, x1, y1⟩
    · by_cases c2 : b ^ j < dig30
      · by_cases c3 : c ^ j < dig30
        · (try simp (disch := first | assumption | ((repeat (first | apply MS_A | apply MS_I)) <;> assumption) | omega) only [sm_bind, sm_cb, sm_nm, lits, sm_add, sm_mul, sm_le, sm_lt, sm_eq, sm_div, sm_sub, mx_le, mx_lt, mx_eq, xm_le, xm_lt, xm_eq, iz_le, iz_lt, iz_eq, nb0, nb1, sA_wA_b, sA_wA_eq, Nat.zero_le, ↓reduceIte, not_true_eq_false, not_false_eq_true, eq_self, Nat.reduceEqDiff, rf_ck, c1, s6, s7, c2, c3])
          refine Hx.bE (rf_multiplies (t := 4) (a := 6) (b := 0) (u := 8) (v := 8) hm (by omega) (by omega) (by omega) (by omega) (by omega) (by omega) (Nat.lt_trans c2 d8) (Nat.lt_trans hb d8) hX hA) ?_
          rintro σ1 ⟨hR1, M1⟩
          have hm1 := hR1.ms hm
          have hA := hA.keep hR1 (by simp)
          have hB := hB.keep hR1 (by simp)
          have hX := hX.keep hR1 (by simp)
          have hY := hY.keep hR1 (by simp)
          have hV := hV.keep hR1
          have F := F.tr (hR1.mo (by simp))
          (try simp (disch := first | assumption | ((repeat (first | apply MS_A | apply MS_I)) <;> assumption) | omega) only [sm_bind, sm_cb, sm_nm, lits, sm_add, sm_mul, sm_le, sm_lt, sm_eq, sm_div, sm_sub, mx_le, mx_lt, mx_eq, xm_le, xm_lt, xm_eq, iz_le, iz_lt, iz_eq, nb0, nb1, sA_wA_b, sA_wA_eq, Nat.zero_le, ↓reduceIte, not_true_eq_false, not_false_eq_true, eq_self, Nat.reduceEqDiff, rf_ck])
          refine Hx.bE (rf_copies (t := 6) (f := 4) hm1 (by omega) (by omega) (by omega) M1) ?_
          rintro σ2 ⟨hR2, M2⟩
          have hm2 := hR2.ms hm1
          have hA := hA.keep hR2 (by simp)
          have hB := hB.keep hR2 (by simp)
          have hY := hY.keep hR2 (by simp)
          have hV := hV.keep hR2
          have F := F.tr (hR2.mo (by simp))
          (try simp (disch := first | assumption | ((repeat (first | apply MS_A | apply MS_I)) <;> assumption) | omega) only [sm_bind, sm_cb, sm_nm, lits, sm_add, sm_mul, sm_le, sm_lt, sm_eq, sm_div, sm_sub, mx_le, mx_lt, mx_eq, xm_le, xm_lt, xm_eq, iz_le, iz_lt, iz_eq, nb0, nb1, sA_wA_b, sA_wA_eq, Nat.zero_le, ↓reduceIte, not_true_eq_false, not_false_eq_true, eq_self, Nat.reduceEqDiff, rf_ck])
          refine Hx.bE (rf_multiplies (t := 4) (a := 7) (b := 1) (u := 8) (v := 8) hm2 (by omega) (by omega) (by omega) (by omega) (by omega) (by omega) (Nat.lt_trans c3 d8) (Nat.lt_trans hc d8) hY hB) ?_
          rintro σ3 ⟨hR3, M3⟩
          have hm3 := hR3.ms hm2
          have M2 := M2.keep hR3 (by simp)
          have hA := hA.keep hR3 (by simp)
          have hB := hB.keep hR3 (by simp)
          have hY := hY.keep hR3 (by simp)
          have hV := hV.keep hR3
          have F := F.tr (hR3.mo (by simp))
          (try simp (disch := first | assumption | ((repeat (first | apply MS_A | apply MS_I)) <;> assumption) | omega) only [sm_bind, sm_cb, sm_nm, lits, sm_add, sm_mul, sm_le, sm_lt, sm_eq, sm_div, sm_sub, mx_le, mx_lt, mx_eq, xm_le, xm_lt, xm_eq, iz_le, iz_lt, iz_eq, nb0, nb1, sA_wA_b, sA_wA_eq, Nat.zero_le, ↓reduceIte, not_true_eq_false, not_false_eq_true, eq_self, Nat.reduceEqDiff, rf_ck])
          refine Hx.bE (rf_copies (t := 7) (f := 4) hm3 (by omega) (by omega) (by omega) M3) ?_
          rintro σ4 ⟨hR4, M4⟩
          have hm4 := hR4.ms hm3
          have M2 := M2.keep hR4 (by simp)
          have hA := hA.keep hR4 (by simp)
          have hB := hB.keep hR4 (by simp)
          have hV := hV.keep hR4
          have F := F.tr (hR4.mo (by simp))
          have z1 := mul16 (Nat.lt_trans c2 d8) (Nat.lt_trans hb d8)
          have z2 := mul16 (Nat.lt_trans c3 d8) (Nat.lt_trans hc d8)
          rw [← Nat.pow_succ] at M2 M4 z1 z2
          (try simp (disch := first | assumption | ((repeat (first | apply MS_A | apply MS_I)) <;> assumption) | omega) only [sm_bind, sm_cb, sm_nm, lits, sm_add, sm_mul, sm_le, sm_lt, sm_eq, sm_div, sm_sub, mx_le, mx_lt, mx_eq, xm_le, xm_lt, xm_eq, iz_le, iz_lt, iz_eq, nb0, nb1, sA_wA_b, sA_wA_eq, Nat.zero_le, ↓reduceIte, not_true_eq_false, not_false_eq_true, eq_self, Nat.reduceEqDiff, rf_ck])
          refine (ih σ4 (j + 1) hm4 (by omega) (by omega) hV hA hB M2 M4 z1 z2).mo ?_
          rintro σ' v ⟨h1, h2, h3⟩
          exact ⟨h1, F.tr h2, h3⟩
        · (try simp (disch := first | assumption | ((repeat (first | apply MS_A | apply MS_I)) <;> assumption) | omega) only [sm_bind, sm_cb, sm_nm, lits, sm_add, sm_mul, sm_le, sm_lt, sm_eq, sm_div, sm_sub, mx_le, mx_lt, mx_eq, xm_le, xm_lt, xm_eq, iz_le, iz_lt, iz_eq, nb0, nb1, sA_wA_b, sA_wA_eq, Nat.zero_le, ↓reduceIte, not_true_eq_false, not_false_eq_true, eq_self, Nat.reduceEqDiff, rf_ck, c1, s6, s7, c2, c3, T])
          exact Hx.ret ⟨rfl, F, j, hj, Or.inr (fun h => c3 h.2), hX, hY, x1, y1⟩
      · (try simp (disch := first | assumption | ((repeat (first | apply MS_A | apply MS_I)) <;> assumption) | omega) only [sm_bind, sm_cb, sm_nm, lits, sm_add, sm_mul, sm_le, sm_lt, sm_eq, sm_div, sm_sub, mx_le, mx_lt, mx_eq, xm_le, xm_lt, xm_eq, iz_le, iz_lt, iz_eq, nb0, nb1, sA_wA_b, sA_wA_eq, Nat.zero_le, ↓reduceIte, not_true_eq_false, not_false_eq_true, eq_self, Nat.reduceEqDiff, rf_ck, c1, s6, c2, T])
        exact Hx.ret ⟨rfl, F, j, hj, Or.inr (fun h => c2 h.1), hX, hY, x1, y1⟩
/-- the base and the other of a power -/
def pwb (p : Qv) (e : Int) : Nat := if e < 0 then p.2.2 else p.2.1
def pwc (p : Qv) (e : Int) : Nat := if e < 0 then p.2.1 else p.2.2
theorem rf_powers {m i : Nat} {e : Int} {p : Qv} {σ : St} (hm : MS σ m) (hi : i < 12600) (he : -100 ≤ e ∧ e ≤ 100) (hp : Vl σ m i p) :
    Hx (fX12_powers σ m (nI i) (iz e)) fun σ' v => v = iz (if p.1 < 0 ∧ e.natAbs % 2 = 1 then -1 else 1) ∧ rfR m [0, 1, 4, 6, 7] σ σ' ∧ ∃ j, j ≤ e.natAbs ∧ (j = e.natAbs ∨ ¬ (pwb p e ^ j < dig30 ∧ pwc p e ^ j < dig30)) ∧ Rv σ' m 6 (pwb p e ^ j) ∧ Rv σ' m 7 (pwc p e ^ j) ∧ pwb p e ^ j < 10000 ^ 16 ∧ pwc p e ^ j < 10000 ^ 16 := by
  have F : rfR m [0, 1, 4, 6, 7] σ σ := rfR.rf
  have n9 := hp.1.2.2.2.2.1
  have d9 := hp.1.2.2.2.2.2
  have h1 : (1 : Nat) < 10000 ^ 16 := by
    have := tp_mono (show 1 ≤ 16 by omega)
    omega
  have key : ∀ (f g : Nat), f ≤ 1 → g ≤ 1 → (f = if e < 0 then 1 else 0) → (g = if 0 ≤ e then 1 else 0) → Hx (fX12_powers_24 σ m (nI i) (iz e) (nI e.natAbs) m (nI 0) (nI i) (nI f)) fun σ' v => v = iz (if p.1 < 0 ∧ e.natAbs % 2 = 1 then -1 else 1) ∧ rfR m [0, 1, 4, 6, 7] σ σ' ∧ ∃ j, j ≤ e.natAbs ∧ (j = e.natAbs ∨ ¬ (pwb p e ^ j < dig30 ∧ pwc p e ^ j < dig30)) ∧ Rv σ' m 6 (pwb p e ^ j) ∧ Rv σ' m 7 (pwc p e ^ j) ∧ pwb p e ^ j < 10000 ^ 16 ∧ pwc p e ^ j < 10000 ^ 16 := by
    intro f g hf hg ef eg
    have eb : (if f = 0 then p.2.1 else p.2.2) = pwb p e := by unfold pwb; rw [ef]; split <;> simp
    have ec : (if g = 0 then p.2.1 else p.2.2) = pwc p e := by
      unfold pwc
      rw [eg]
      by_cases h : e < 0
      · rw [if_pos h, if_neg (show ¬ 0 ≤ e by omega), if_pos rfl]
      · rw [if_neg h, if_pos (show 0 ≤ e by omega), if_neg (by omega)]
    have b30 : pwb p e < dig30 := by unfold pwb; split <;> assumption
    have c30 : pwc p e < dig30 := by unfold pwc; split <;> assumption
    unfold fX12_powers_24 fX12_powers_39
    (try simp (disch := first | assumption | ((repeat (first | apply MS_A | apply MS_I)) <;> assumption) | omega) only [sm_bind, sm_cb, sm_nm, lits, sm_add, sm_mul, sm_le, sm_lt, sm_eq, sm_div, sm_sub, mx_le, mx_lt, mx_eq, xm_le, xm_lt, xm_eq, iz_le, iz_lt, iz_eq, nb0, nb1, sA_wA_b, sA_wA_eq, Nat.zero_le, ↓reduceIte, not_true_eq_false, not_false_eq_true, eq_self, Nat.reduceEqDiff, rf_ck])
    refine Hx.bE (rf_loads (r := 0) hm (by omega) hi hp f hf) ?_
    rintro σ1 ⟨hR1, A⟩
    have hm1 := hR1.ms hm
    have hp := hp.keep hR1
    have F := F.tr (hR1.mo (by simp))
    rw [eb] at A
    have core : Hx (cb (fX12_loads σ1 m (nI 1) (nI i) (nI g)) fun σ1 v2 => Option.bind (ckK σ1 17 m) fun _ => cb (fX12_puts σ1 m (nI 6) (nI 1)) fun σ4 v5 => Option.bind (ckK σ4 17 m) fun _ => cb (fX12_puts σ4 m (nI 7) (nI 1)) fun σ7 v8 => fX12_powers_59 FU σ7 m (nI i) (nI e.natAbs) (nI 0)) fun σ' v => v = iz (if p.1 < 0 ∧ e.natAbs % 2 = 1 then -1 else 1) ∧ rfR m [0, 1, 4, 6, 7] σ σ' ∧ ∃ j, j ≤ e.natAbs ∧ (j = e.natAbs ∨ ¬ (pwb p e ^ j < dig30 ∧ pwc p e ^ j < dig30)) ∧ Rv σ' m 6 (pwb p e ^ j) ∧ Rv σ' m 7 (pwc p e ^ j) ∧ pwb p e ^ j < 10000 ^ 16 ∧ pwc p e ^ j < 10000 ^ 16 := by
      refine Hx.bE (rf_loads (r := 1) hm1 (by omega) hi hp g hg) ?_
      rintro σ2 ⟨hR2, B⟩
      have hm2 := hR2.ms hm1
      have A := A.keep hR2 (by simp)
      have hp := hp.keep hR2
      have F := F.tr (hR2.mo (by simp))
      rw [ec] at B
      (try simp (disch := first | assumption | ((repeat (first | apply MS_A | apply MS_I)) <;> assumption) | omega) only [sm_bind, sm_cb, sm_nm, lits, sm_add, sm_mul, sm_le, sm_lt, sm_eq, sm_div, sm_sub, mx_le, mx_lt, mx_eq, xm_le, xm_lt, xm_eq, iz_le, iz_lt, iz_eq, nb0, nb1, sA_wA_b, sA_wA_eq, Nat.zero_le, ↓reduceIte, not_true_eq_false, not_false_eq_true, eq_self, Nat.reduceEqDiff, rf_ck])
      refine Hx.bE (rf_puts (r := 6) (v := 1) hm2 (by omega) (by omega)) ?_
      rintro σ3 ⟨hR3, C⟩
      have hm3 := hR3.ms hm2
      have A := A.keep hR3 (by simp)
      have B := B.keep hR3 (by simp)
      have hp := hp.keep hR3
      have F := F.tr (hR3.mo (by simp))
      (try simp (disch := first | assumption | ((repeat (first | apply MS_A | apply MS_I)) <;> assumption) | omega) only [sm_bind, sm_cb, sm_nm, lits, sm_add, sm_mul, sm_le, sm_lt, sm_eq, sm_div, sm_sub, mx_le, mx_lt, mx_eq, xm_le, xm_lt, xm_eq, iz_le, iz_lt, iz_eq, nb0, nb1, sA_wA_b, sA_wA_eq, Nat.zero_le, ↓reduceIte, not_true_eq_false, not_false_eq_true, eq_self, Nat.reduceEqDiff, rf_ck])
      refine Hx.bE (rf_puts (r := 7) (v := 1) hm3 (by omega) (by omega)) ?_
      rintro σ4 ⟨hR4, D⟩
      have hm4 := hR4.ms hm3
      have A := A.keep hR4 (by simp)
      have B := B.keep hR4 (by simp)
      have C := C.keep hR4 (by simp)
      have hp := hp.keep hR4
      have F := F.tr (hR4.mo (by simp))
      refine (rf_powers_loop (b := pwb p e) (c := pwc p e) hi (by omega) b30 c30 FU σ4 0 hm4 (by unfold FU; omega) (by omega) hp A B (by rw [Nat.pow_zero]; exact C) (by rw [Nat.pow_zero]; exact D) (by rw [Nat.pow_zero]; exact h1) (by rw [Nat.pow_zero]; exact h1)).mo ?_
      rintro σ' v ⟨q1, q2, q3⟩
      exact ⟨q1, F.tr (q2.mo (by simp)), q3⟩
    by_cases h : e < 0
    · have h9 : e < ((0 : Nat) : Int) := h
      obtain rfl : g = 0 := by rw [eg, if_neg (by omega)]
      (try simp (disch := first | assumption | ((repeat (first | apply MS_A | apply MS_I)) <;> assumption) | omega) only [sm_bind, sm_cb, sm_nm, lits, sm_add, sm_mul, sm_le, sm_lt, sm_eq, sm_div, sm_sub, mx_le, mx_lt, mx_eq, xm_le, xm_lt, xm_eq, iz_le, iz_lt, iz_eq, nb0, nb1, sA_wA_b, sA_wA_eq, Nat.zero_le, ↓reduceIte, not_true_eq_false, not_false_eq_true, eq_self, Nat.reduceEqDiff, rf_ck, h9])
      exact core
    · have h9 : ¬ (e < ((0 : Nat) : Int)) := h
      obtain rfl : g = 1 := by rw [eg, if_pos (by omega)]
      (try simp (disch := first | assumption | ((repeat (first | apply MS_A | apply MS_I)) <;> assumption) | omega) only [sm_bind, sm_cb, sm_nm, lits, sm_add, sm_mul, sm_le, sm_lt, sm_eq, sm_div, sm_sub, mx_le, mx_lt, mx_eq, xm_le, xm_lt, xm_eq, iz_le, iz_lt, iz_eq, nb0, nb1, sA_wA_b, sA_wA_eq, Nat.zero_le, ↓reduceIte, not_true_eq_false, not_false_eq_true, eq_self, Nat.reduceEqDiff, rf_ck, h9])
      exact core
  unfold fX12_powers fX12_powers_11
  by_cases h : 0 ≤ e
  · have h9 : ((0 : Nat) : Int) ≤ e := h
    have ea : iz e = nI e.natAbs := by rw [sm_iz]; congr 1; omega
    have := key 0 1 (by omega) (by omega) (by rw [if_neg (by omega)]) (by rw [if_pos h])
    (try simp (disch := first | assumption | ((repeat (first | apply MS_A | apply MS_I)) <;> assumption) | omega) only [sm_bind, sm_cb, sm_nm, lits, sm_add, sm_mul, sm_le, sm_lt, sm_eq, sm_div, sm_sub, mx_le, mx_lt, mx_eq, xm_le, xm_lt, xm_eq, iz_le, iz_lt, iz_eq, nb0, nb1, sA_wA_b, sA_wA_eq, Nat.zero_le, ↓reduceIte, not_true_eq_false, not_false_eq_true, eq_self, Nat.reduceEqDiff, rf_ck, h9])
    rw [ea] at this ⊢
    exact this
  · have h9 : ¬ (((0 : Nat) : Int) ≤ e) := h
    have ea : nI 0 - iz e = nI e.natAbs := by rw [sm_iz, sm_iz, iz_sub]; congr 1; omega
    have := key 1 0 (by omega) (by omega) (by rw [if_pos (by omega)]) (by rw [if_neg h])
    simp only [lits, ea]
    (try simp (disch := first | assumption | ((repeat (first | apply MS_A | apply MS_I)) <;> assumption) | omega) only [sm_bind, sm_cb, sm_nm, lits, sm_add, sm_mul, sm_le, sm_lt, sm_eq, sm_div, sm_sub, mx_le, mx_lt, mx_eq, xm_le, xm_lt, xm_eq, iz_le, iz_lt, iz_eq, nb0, nb1, sA_wA_b, sA_wA_eq, Nat.zero_le, ↓reduceIte, not_true_eq_false, not_false_eq_true, eq_self, Nat.reduceEqDiff, rf_ck, h9])
    exact this
/-- n! from k on -/
def fct : Nat → Nat
  | 0 => 1
  | n + 1 => (n + 1) * fct n
theorem fct_b {n : Nat} (h : n ≤ 28) : fct n < 10000 ^ 8 := by
  have h1 : ∀ a b, a ≤ b → fct a ≤ fct b := by
    intro a b hab
    induction b with
    | zero => obtain rfl : a = 0 := by omega
              exact Nat.le_refl _
    | succ b ih =>
      by_cases h9 : a = b + 1
      · subst h9; exact Nat.le_refl _
      · exact Nat.le_trans (ih (by omega)) (Nat.le_mul_of_pos_left _ (by omega))
  exact Nat.lt_of_le_of_lt (h1 n 28 h) (by decide +kernel)
theorem rf_fact_loop {m i : Nat} {p : Qv} (hi : i < 12600) (h28 : p.2.1 ≤ 28) (hs : 0 ≤ p.1) : ∀ (n : Nat) (σ : St) (k : Nat), MS σ m → 30 - k < n → 2 ≤ k → (k ≤ p.2.1 + 1 ∨ k = 2 ∧ p.2.1 ≤ 1) → Vl σ m i p → Rv σ m 6 (fct (k - 1)) → Rv σ m 7 1 →
    Hx (fX12_multipliesAll_16 n σ m (nI i) (nI k)) fun σ' v => v = iz 1 ∧ rfR m [6, 7] σ σ' ∧ Rv σ' m 6 (fct p.2.1) ∧ Rv σ' m 7 1 := by
  intro n
  induction n with
  | zero => intro σ k _ h; omega
  | succ n ih =>
    intro σ k hm hn h2 hk hV hX hY
    have F : rfR m [6, 7] σ σ := rfR.rf
    have A1 := rf_asInt hm hi hV
    have a2 : asI p = (p.2.1 : Int) := by
      have h3 := hV.1.2.1
      rw [asI_sm (by omega)]
      rcases hV.1.1 with h | h | h <;> rw [h] at h3 hs ⊢ <;> omega
    rw [a2, ← sm_iz] at A1
    rw [fX12_multipliesAll_16]
    by_cases c1 : p.2.1 < k
    · (try simp (disch := first | assumption | ((repeat (first | apply MS_A | apply MS_I)) <;> assumption) | omega) only [sm_bind, sm_cb, sm_nm, lits, sm_add, sm_mul, sm_le, sm_lt, sm_eq, sm_div, sm_sub, mx_le, mx_lt, mx_eq, xm_le, xm_lt, xm_eq, iz_le, iz_lt, iz_eq, nb0, nb1, sA_wA_b, sA_wA_eq, Nat.zero_le, ↓reduceIte, not_true_eq_false, not_false_eq_true, eq_self, Nat.reduceEqDiff, rf_ck, A1, c1])
      refine Hx.ret ⟨rfl, F, ?_, hY⟩
      have : fct (k - 1) = fct p.2.1 := by
        rcases hk with h | ⟨h, h'⟩
        · rw [show k - 1 = p.2.1 by omega]
        · subst h
          have h9 : p.2.1 = 0 ∨ p.2.1 = 1 := by omega
          rcases h9 with h9 | h9 <;> rw [h9] <;> rfl
      rw [← this]; exact hX
    · (try simp (disch := first | assumption | ((repeat (first | apply MS_A | apply MS_I)) <;> assumption) | omega) only [sm_bind, sm_cb, sm_nm, lits, sm_add, sm_mul, sm_le, sm_lt, sm_eq, sm_div, sm_sub, mx_le, mx_lt, mx_eq, xm_le, xm_lt, xm_eq, iz_le, iz_lt, iz_eq, nb0, nb1, sA_wA_b, sA_wA_eq, Nat.zero_le, ↓reduceIte, not_true_eq_false, not_false_eq_true, eq_self, Nat.reduceEqDiff, rf_ck, A1, c1])
      refine Hx.bE (rf_times (t := 6) (c := k) (u := 8) hm (by omega) (by omega) (by omega) (fct_b (by omega)) hX) ?_
      rintro σ1 ⟨hR1, M1⟩
      have hm1 := hR1.ms hm
      have hY := hY.keep hR1 (by simp)
      have hV := hV.keep hR1
      have F := F.tr (hR1.mo (by simp))
      (try simp (disch := first | assumption | ((repeat (first | apply MS_A | apply MS_I)) <;> assumption) | omega) only [sm_bind, sm_cb, sm_nm, lits, sm_add, sm_mul, sm_le, sm_lt, sm_eq, sm_div, sm_sub, mx_le, mx_lt, mx_eq, xm_le, xm_lt, xm_eq, iz_le, iz_lt, iz_eq, nb0, nb1, sA_wA_b, sA_wA_eq, Nat.zero_le, ↓reduceIte, not_true_eq_false, not_false_eq_true, eq_self, Nat.reduceEqDiff, rf_ck])
      refine (ih σ1 (k + 1) hm1 (by omega) (by omega) (Or.inl (by omega)) hV (by
        rw [show k + 1 - 1 = k - 1 + 1 by omega]
        show Rv σ1 m 6 ((k - 1 + 1) * fct (k - 1))
        rw [show k - 1 + 1 = k by omega, Nat.mul_comm]
        exact M1) hY).mo ?_
      rintro σ' v ⟨q1, q2, q3⟩
      exact ⟨q1, F.tr q2, q3⟩
theorem rf_fact {m i : Nat} {p : Qv} {σ : St} (hm : MS σ m) (hi : i < 12600) (h28 : p.2.1 ≤ 28) (hs : 0 ≤ p.1) (hp : Vl σ m i p) :
    Hx (fX12_multipliesAll σ m (nI i)) fun σ' v => v = iz 1 ∧ rfR m [6, 7] σ σ' ∧ Rv σ' m 6 (fct p.2.1) ∧ Rv σ' m 7 1 := by
  have F : rfR m [6, 7] σ σ := rfR.rf
  unfold fX12_multipliesAll
  (try simp (disch := first | assumption | ((repeat (first | apply MS_A | apply MS_I)) <;> assumption) | omega) only [sm_bind, sm_cb, sm_nm, lits, sm_add, sm_mul, sm_le, sm_lt, sm_eq, sm_div, sm_sub, mx_le, mx_lt, mx_eq, xm_le, xm_lt, xm_eq, iz_le, iz_lt, iz_eq, nb0, nb1, sA_wA_b, sA_wA_eq, Nat.zero_le, ↓reduceIte, not_true_eq_false, not_false_eq_true, eq_self, Nat.reduceEqDiff, rf_ck])
  refine Hx.bE (rf_puts (r := 6) (v := 1) hm (by omega) (by omega)) ?_
  rintro σ1 ⟨hR1, C⟩
  have hm1 := hR1.ms hm
  have hp := hp.keep hR1
  have F := F.tr (hR1.mo (by simp))
  (try simp (disch := first | assumption | ((repeat (first | apply MS_A | apply MS_I)) <;> assumption) | omega) only [sm_bind, sm_cb, sm_nm, lits, sm_add, sm_mul, sm_le, sm_lt, sm_eq, sm_div, sm_sub, mx_le, mx_lt, mx_eq, xm_le, xm_lt, xm_eq, iz_le, iz_lt, iz_eq, nb0, nb1, sA_wA_b, sA_wA_eq, Nat.zero_le, ↓reduceIte, not_true_eq_false, not_false_eq_true, eq_self, Nat.reduceEqDiff, rf_ck])
  refine Hx.bE (rf_puts (r := 7) (v := 1) hm1 (by omega) (by omega)) ?_
  rintro σ2 ⟨hR2, D⟩
  have hm2 := hR2.ms hm1
  have C := C.keep hR2 (by simp)
  have hp := hp.keep hR2
  have F := F.tr (hR2.mo (by simp))
  refine (rf_fact_loop hi h28 hs FU σ2 2 hm2 (by unfold FU; omega) (by omega) (by omega) hp C D).mo ?_
  rintro σ' v ⟨q1, q2, q3⟩
  exact ⟨q1, F.tr q2, q3⟩
/-- lcm as the reference says it -/
def lcq (a b : Nat) : Nat := a / Nat.gcd a b * b
theorem rf_factors {m st i j : Nat} {p q : Qv} {σ : St} (hm : MS σ m) (hst : st = 10 ∨ st = 11) (hi : i < 12600) (hj : j < 12600) (hp : Vl σ m i p) (hq : Vl σ m j q) :
    Hx (fX12_factors σ m (nI st) (nI i) (nI j)) fun σ' v => v = iz 1 ∧ rfR m [0, 1, 2, 3, 4, 6, 7, 8, 9, 10, 11, 12] σ σ' ∧ Rv σ' m 6 (if st = 10 then Nat.gcd p.2.1 q.2.1 else if p.2.1 = 0 ∨ q.2.1 = 0 then 0 else lcq p.2.1 q.2.1) ∧ Rv σ' m 7 1 := by
  have F : rfR m [0, 1, 2, 3, 4, 6, 7, 8, 9, 10, 11, 12] σ σ := rfR.rf
  have n1 := hp.1.n8
  have n2 := hq.1.n8
  have b1 := hp.1.sg
  have b2 := hq.1.sg
  have z1 := hp.1.2.1
  have z2 := hq.1.2.1
  have tail : ∀ (σ' : St) (x : Nat), MS σ' m → rfR m [0, 1, 2, 3, 4, 6, 7, 8, 9, 10, 11, 12] σ σ' → Rv σ' m 6 x → Hx (fX12_factors_76 σ' m) fun σ'' v => v = iz 1 ∧ rfR m [0, 1, 2, 3, 4, 6, 7, 8, 9, 10, 11, 12] σ σ'' ∧ Rv σ'' m 6 x ∧ Rv σ'' m 7 1 := by
    intro σ' x hm' hF hx
    unfold fX12_factors_76
    (try simp (disch := first | assumption | ((repeat (first | apply MS_A | apply MS_I)) <;> assumption) | omega) only [sm_bind, sm_cb, sm_nm, lits, sm_add, sm_mul, sm_le, sm_lt, sm_eq, sm_div, sm_sub, mx_le, mx_lt, mx_eq, xm_le, xm_lt, xm_eq, iz_le, iz_lt, iz_eq, nb0, nb1, sA_wA_b, sA_wA_eq, Nat.zero_le, ↓reduceIte, not_true_eq_false, not_false_eq_true, eq_self, Nat.reduceEqDiff, rf_ck])
    refine Hx.bE (rf_puts (r := 7) (v := 1) hm' (by omega) (by omega)) ?_
    rintro σ1 ⟨hR1, A⟩
    exact Hx.ret ⟨rfl, hF.tr (hR1.mo (by simp)), hx.keep hR1 (by simp), A⟩
  unfold fX12_factors
  (try simp (disch := first | assumption | ((repeat (first | apply MS_A | apply MS_I)) <;> assumption) | omega) only [sm_bind, sm_cb, sm_nm, lits, sm_add, sm_mul, sm_le, sm_lt, sm_eq, sm_div, sm_sub, mx_le, mx_lt, mx_eq, xm_le, xm_lt, xm_eq, iz_le, iz_lt, iz_eq, nb0, nb1, sA_wA_b, sA_wA_eq, Nat.zero_le, ↓reduceIte, not_true_eq_false, not_false_eq_true, eq_self, Nat.reduceEqDiff, rf_ck])
  refine Hx.bE (rf_loadsBoth hm hi hj hp hq) ?_
  rintro σ1 ⟨hR1, A, B, C, E⟩
  have hm1 := hR1.ms hm
  have hp := hp.keep hR1
  have hq := hq.keep hR1
  have F := F.tr (hR1.mo (by simp))
  (try simp (disch := first | assumption | ((repeat (first | apply MS_A | apply MS_I)) <;> assumption) | omega) only [sm_bind, sm_cb, sm_nm, lits, sm_add, sm_mul, sm_le, sm_lt, sm_eq, sm_div, sm_sub, mx_le, mx_lt, mx_eq, xm_le, xm_lt, xm_eq, iz_le, iz_lt, iz_eq, nb0, nb1, sA_wA_b, sA_wA_eq, Nat.zero_le, ↓reduceIte, not_true_eq_false, not_false_eq_true, eq_self, Nat.reduceEqDiff, rf_ck])
  refine Hx.bE (rf_finds (a := 0) (b := 2) (u := 8) hm1 (by omega) (by omega) (by omega) (by omega) (by omega) n1 n2 A C) ?_
  rintro σ2 ⟨hR2, G⟩
  have hm2 := hR2.ms hm1
  have A := A.keep hR2 (by simp)
  have C := C.keep hR2 (by simp)
  have hp := hp.keep hR2
  have hq := hq.keep hR2
  have F := F.tr (hR2.mo (by simp))
  (try simp (disch := first | assumption | ((repeat (first | apply MS_A | apply MS_I)) <;> assumption) | omega) only [sm_bind, sm_cb, sm_nm, lits, sm_add, sm_mul, sm_le, sm_lt, sm_eq, sm_div, sm_sub, mx_le, mx_lt, mx_eq, xm_le, xm_lt, xm_eq, iz_le, iz_lt, iz_eq, nb0, nb1, sA_wA_b, sA_wA_eq, Nat.zero_le, ↓reduceIte, not_true_eq_false, not_false_eq_true, eq_self, Nat.reduceEqDiff, rf_ck])
  refine Hx.bE (rf_copies (t := 6) (f := 8) hm2 (by omega) (by omega) (by omega) G) ?_
  rintro σ3 ⟨hR3, N⟩
  have hm3 := hR3.ms hm2
  have A := A.keep hR3 (by simp)
  have C := C.keep hR3 (by simp)
  have G := G.keep hR3 (by simp)
  have hp := hp.keep hR3
  have hq := hq.keep hR3
  have F := F.tr (hR3.mo (by simp))
  rcases hst with h | h
  · subst h
    (try simp (disch := first | assumption | ((repeat (first | apply MS_A | apply MS_I)) <;> assumption) | omega) only [sm_bind, sm_cb, sm_nm, lits, sm_add, sm_mul, sm_le, sm_lt, sm_eq, sm_div, sm_sub, mx_le, mx_lt, mx_eq, xm_le, xm_lt, xm_eq, iz_le, iz_lt, iz_eq, nb0, nb1, sA_wA_b, sA_wA_eq, Nat.zero_le, ↓reduceIte, not_true_eq_false, not_false_eq_true, eq_self, Nat.reduceEqDiff, rf_ck])
    exact tail σ3 _ hm3 F N
  · subst h
    have g1 := hp.sg hm3 hi
    have g2 := hq.sg hm3 hj
    (try simp (disch := first | assumption | ((repeat (first | apply MS_A | apply MS_I)) <;> assumption) | omega) only [sm_bind, sm_cb, sm_nm, lits, sm_add, sm_mul, sm_le, sm_lt, sm_eq, sm_div, sm_sub, mx_le, mx_lt, mx_eq, xm_le, xm_lt, xm_eq, iz_le, iz_lt, iz_eq, nb0, nb1, sA_wA_b, sA_wA_eq, Nat.zero_le, ↓reduceIte, not_true_eq_false, not_false_eq_true, eq_self, Nat.reduceEqDiff, rf_ck, rf_sign, g1, g2])
    have zero : Hx (fX12_factors_44 σ3 m) fun σ' v => v = iz 1 ∧ rfR m [0, 1, 2, 3, 4, 6, 7, 8, 9, 10, 11, 12] σ σ' ∧ Rv σ' m 6 0 ∧ Rv σ' m 7 1 := by
      unfold fX12_factors_44
      (try simp (disch := first | assumption | ((repeat (first | apply MS_A | apply MS_I)) <;> assumption) | omega) only [sm_bind, sm_cb, sm_nm, lits, sm_add, sm_mul, sm_le, sm_lt, sm_eq, sm_div, sm_sub, mx_le, mx_lt, mx_eq, xm_le, xm_lt, xm_eq, iz_le, iz_lt, iz_eq, nb0, nb1, sA_wA_b, sA_wA_eq, Nat.zero_le, ↓reduceIte, not_true_eq_false, not_false_eq_true, eq_self, Nat.reduceEqDiff, rf_ck])
      refine Hx.bE (rf_puts (r := 6) (v := 0) hm3 (by omega) (by omega)) ?_
      rintro σ4 ⟨hR4, A4⟩
      exact tail σ4 _ (hR4.ms hm3) (F.tr (hR4.mo (by simp))) A4
    refine Hx.cs (fun c1 => ?_) (fun c1 => Hx.cs (fun c2 => ?_) (fun c2 => ?_))
    · rw [if_pos (Or.inl (by omega))]
      exact zero
    · rw [if_pos (Or.inr (by omega))]
      exact zero
    · have e1 : p.2.1 ≠ 0 := fun h => c1 (by omega)
      have e2 : q.2.1 ≠ 0 := fun h => c2 (by omega)
      rw [if_neg (by omega)]
      have hg : 0 < Nat.gcd p.2.1 q.2.1 := Nat.gcd_pos_of_pos_left _ (by omega)
      refine Hx.bE (rf_divides (a := 0) (b := 8) (u := 8) hm3 (by omega) (by omega) (by omega) (by omega) (by omega) n1 hg A G) ?_
      rintro σ4 ⟨hR4, Q, R⟩
      have hm4 := hR4.ms hm3
      have C := C.keep hR4 (by simp)
      have F := F.tr (hR4.mo (by simp))
      (try simp (disch := first | assumption | ((repeat (first | apply MS_A | apply MS_I)) <;> assumption) | omega) only [sm_bind, sm_cb, sm_nm, lits, sm_add, sm_mul, sm_le, sm_lt, sm_eq, sm_div, sm_sub, mx_le, mx_lt, mx_eq, xm_le, xm_lt, xm_eq, iz_le, iz_lt, iz_eq, nb0, nb1, sA_wA_b, sA_wA_eq, Nat.zero_le, ↓reduceIte, not_true_eq_false, not_false_eq_true, eq_self, Nat.reduceEqDiff, rf_ck])
      refine Hx.bE (rf_copies (t := 4) (f := 9) hm4 (by omega) (by omega) (by omega) Q) ?_
      rintro σ5 ⟨hR5, O⟩
      have hm5 := hR5.ms hm4
      have C := C.keep hR5 (by simp)
      have F := F.tr (hR5.mo (by simp))
      (try simp (disch := first | assumption | ((repeat (first | apply MS_A | apply MS_I)) <;> assumption) | omega) only [sm_bind, sm_cb, sm_nm, lits, sm_add, sm_mul, sm_le, sm_lt, sm_eq, sm_div, sm_sub, mx_le, mx_lt, mx_eq, xm_le, xm_lt, xm_eq, iz_le, iz_lt, iz_eq, nb0, nb1, sA_wA_b, sA_wA_eq, Nat.zero_le, ↓reduceIte, not_true_eq_false, not_false_eq_true, eq_self, Nat.reduceEqDiff, rf_ck])
      refine Hx.bE (rf_multiplies (t := 6) (a := 4) (b := 2) (u := 8) (v := 8) hm5 (by omega) (by omega) (by omega) (by omega) (by omega) (by omega) (Nat.lt_of_le_of_lt (Nat.div_le_self _ _) n1) n2 O C) ?_
      rintro σ6 ⟨hR6, M⟩
      have hm6 := hR6.ms hm5
      have F := F.tr (hR6.mo (by simp))
      exact tail σ6 _ hm6 F M
/-- the quotient, one more if it is to be rounded up -/
def rnd (st : Nat) (p : Qv) : Nat :=
  let q := p.2.1 / p.2.2
  let r := p.2.1 % p.2.2
  if st = 14 then (if p.2.2 < 2 * r ∨ 2 * r = p.2.2 ∧ q % 2 = 1 then q + 1 else q)
  else if r ≠ 0 ∧ (if st = 12 then p.1 < 0 else 0 < p.1) then q + 1 else q
theorem rf_rounds {m st i : Nat} {p : Qv} {σ : St} (hm : MS σ m) (hst : st = 12 ∨ st = 13 ∨ st = 14) (hi : i < 12600) (hp : Vl σ m i p) :
    Hx (fX12_rounds σ m (nI st) (nI i)) fun σ' v => rfR m [0, 1, 4, 6, 7, 9, 10, 11] σ σ' ∧ Rv σ' m 6 (rnd st p) ∧ Rv σ' m 7 1 ∧ (st = 12 → Rv σ' m 1 p.2.2 ∧ Rv σ' m 0 p.2.1) := by
  have F : rfR m [0, 1, 4, 6, 7, 9, 10, 11] σ σ := rfR.rf
  have n1 := hp.1.n8
  have d1 := hp.1.d8
  have dp := hp.1.dp
  have b1 := hp.1.sg
  have hml := Nat.mod_lt p.2.1 dp
  have hql : p.2.1 / p.2.2 < 10000 ^ 8 := Nat.lt_of_le_of_lt (Nat.div_le_self _ _) n1
  have one : (1 : Nat) < 10000 ^ 8 := by
    have := tp_mono (show 1 ≤ 8 by omega)
    omega
  -- the end
  have tail : ∀ (σ' : St) (b : Nat), b ≤ 1 → MS σ' m → rfR m [0, 1, 4, 6, 7, 9, 10, 11] σ σ' → Rv σ' m 6 (p.2.1 / p.2.2) → Rv σ' m 0 p.2.1 → Rv σ' m 1 p.2.2 → Hx (fX12_rounds_122 σ' m (nI b)) fun σ'' v => rfR m [0, 1, 4, 6, 7, 9, 10, 11] σ σ'' ∧ Rv σ'' m 6 (p.2.1 / p.2.2 + b) ∧ Rv σ'' m 7 1 ∧ (Rv σ'' m 1 p.2.2 ∧ Rv σ'' m 0 p.2.1) := by
    intro σ' b hb hm' hF hN hA hB
    unfold fX12_rounds_122 fX12_rounds_139
    (try simp (disch := first | assumption | ((repeat (first | apply MS_A | apply MS_I)) <;> assumption) | omega) only [sm_bind, sm_cb, sm_nm, lits, sm_add, sm_mul, sm_le, sm_lt, sm_eq, sm_div, sm_sub, mx_le, mx_lt, mx_eq, xm_le, xm_lt, xm_eq, iz_le, iz_lt, iz_eq, nb0, nb1, sA_wA_b, sA_wA_eq, Nat.zero_le, ↓reduceIte, not_true_eq_false, not_false_eq_true, eq_self, Nat.reduceEqDiff, rf_ck])
    refine Hx.bE (rf_puts (r := 4) (v := 1) hm' (by omega) (by omega)) ?_
    rintro σ1 ⟨hR1, A1⟩
    have hm1 := hR1.ms hm'
    have hN := hN.keep hR1 (by simp)
    have hA := hA.keep hR1 (by simp)
    have hB := hB.keep hR1 (by simp)
    (try simp (disch := first | assumption | ((repeat (first | apply MS_A | apply MS_I)) <;> assumption) | omega) only [sm_bind, sm_cb, sm_nm, lits, sm_add, sm_mul, sm_le, sm_lt, sm_eq, sm_div, sm_sub, mx_le, mx_lt, mx_eq, xm_le, xm_lt, xm_eq, iz_le, iz_lt, iz_eq, nb0, nb1, sA_wA_b, sA_wA_eq, Nat.zero_le, ↓reduceIte, not_true_eq_false, not_false_eq_true, eq_self, Nat.reduceEqDiff, rf_ck])
    refine Hx.cs (fun c => ?_) (fun c => ?_)
    · refine Hx.bE (rf_puts (r := 7) (v := 1) hm1 (by omega) (by omega)) ?_
      rintro σ2 ⟨hR2, A2⟩
      subst c
      exact Hx.ret ⟨hF.tr ((hR1.mo (by simp)).tr (hR2.mo (by simp))), hN.keep hR2 (by simp), A2, hB.keep hR2 (by simp), hA.keep hR2 (by simp)⟩
    · obtain rfl : b = 1 := by omega
      refine Hx.bE (rf_adds (t := 6) (b := 4) (u := 8) hm1 (by omega) (by omega) (by omega) (by omega) hql one hN A1) ?_
      rintro σ2 ⟨hR2, A2⟩
      have hm2 := hR2.ms hm1
      (try simp (disch := first | assumption | ((repeat (first | apply MS_A | apply MS_I)) <;> assumption) | omega) only [sm_bind, sm_cb, sm_nm, lits, sm_add, sm_mul, sm_le, sm_lt, sm_eq, sm_div, sm_sub, mx_le, mx_lt, mx_eq, xm_le, xm_lt, xm_eq, iz_le, iz_lt, iz_eq, nb0, nb1, sA_wA_b, sA_wA_eq, Nat.zero_le, ↓reduceIte, not_true_eq_false, not_false_eq_true, eq_self, Nat.reduceEqDiff, rf_ck])
      refine Hx.bE (rf_puts (r := 7) (v := 1) hm2 (by omega) (by omega)) ?_
      rintro σ3 ⟨hR3, A3⟩
      exact Hx.ret ⟨hF.tr ((hR1.mo (by simp)).tr ((hR2.mo (by simp)).tr (hR3.mo (by simp)))), A2.keep hR3 (by simp), A3, (hB.keep hR2 (by simp)).keep hR3 (by simp), (hA.keep hR2 (by simp)).keep hR3 (by simp)⟩
  -- near
  have near : ∀ (σ' : St) (b : Nat), st = 14 → MS σ' m → rfR m [0, 1, 4, 6, 7, 9, 10, 11] σ σ' → Rv σ' m 6 (p.2.1 / p.2.2) → Rv σ' m 0 p.2.1 → Rv σ' m 1 p.2.2 → Rv σ' m 10 (p.2.1 % p.2.2) → Hx (fX12_rounds_70 σ' m (nI st) (nI b)) fun σ'' v => rfR m [0, 1, 4, 6, 7, 9, 10, 11] σ σ'' ∧ Rv σ'' m 6 (rnd st p) ∧ Rv σ'' m 7 1 := by
    intro σ' b h14 hm' hF hN hA hB hC
    subst h14
    have hr : rnd 14 p = if p.2.2 < 2 * (p.2.1 % p.2.2) ∨ 2 * (p.2.1 % p.2.2) = p.2.2 ∧ p.2.1 / p.2.2 % 2 = 1 then p.2.1 / p.2.2 + 1 else p.2.1 / p.2.2 := by simp [rnd]
    have hb9 : p.2.1 % p.2.2 * 2 < 10000 ^ 9 := by
      have h9 := tp_s 8
      omega
    unfold fX12_rounds_70 fX12_rounds_116 fX12_rounds_120 fX12_rounds_121
    (try simp (disch := first | assumption | ((repeat (first | apply MS_A | apply MS_I)) <;> assumption) | omega) only [sm_bind, sm_cb, sm_nm, lits, sm_add, sm_mul, sm_le, sm_lt, sm_eq, sm_div, sm_sub, mx_le, mx_lt, mx_eq, xm_le, xm_lt, xm_eq, iz_le, iz_lt, iz_eq, nb0, nb1, sA_wA_b, sA_wA_eq, Nat.zero_le, ↓reduceIte, not_true_eq_false, not_false_eq_true, eq_self, Nat.reduceEqDiff, rf_ck])
    refine Hx.bE (rf_times (t := 10) (c := 2) (u := 8) hm' (by omega) (by omega) (by omega) (Nat.lt_trans hml d1) hC) ?_
    rintro σ1 ⟨hR1, A1⟩
    have hm1 := hR1.ms hm'
    have hN := hN.keep hR1 (by simp)
    have hA := hA.keep hR1 (by simp)
    have hB := hB.keep hR1 (by simp)
    have F1 := hF.tr (hR1.mo (by simp))
    have cp := rf_compares hm1 (show 10 < 15 by omega) (show 1 < 15 by omega) A1 hB
    have cb := cmp3_b (p.2.1 % p.2.2 * 2) p.2.2
    have lb := rf_limb (k := 0) hm1 (show 6 < 15 by omega) (by omega) hN
    rw [dq_0] at lb
    have hmd : nI (p.2.1 / p.2.2 % 10000) - nI (p.2.1 / p.2.2 % 10000) / nI 2 * nI 2 = nI (p.2.1 / p.2.2 % 2) := by
      rw [sm_mod (by omega) (by omega) (by omega)]
      congr 1
      omega
    have T0 := tail σ1 0 (by omega) hm1 F1 hN hA hB
    have T1 := tail σ1 1 (by omega) hm1 F1 hN hA hB
    have c3 : cmp3 (p.2.1 % p.2.2 * 2) p.2.2 = if p.2.1 % p.2.2 * 2 < p.2.2 then -1 else if p.2.1 % p.2.2 * 2 = p.2.2 then 0 else 1 := rfl
    (try simp (disch := first | assumption | ((repeat (first | apply MS_A | apply MS_I)) <;> assumption) | omega) only [sm_bind, sm_cb, sm_nm, lits, sm_add, sm_mul, sm_le, sm_lt, sm_eq, sm_div, sm_sub, mx_le, mx_lt, mx_eq, xm_le, xm_lt, xm_eq, iz_le, iz_lt, iz_eq, nb0, nb1, sA_wA_b, sA_wA_eq, Nat.zero_le, ↓reduceIte, not_true_eq_false, not_false_eq_true, eq_self, Nat.reduceEqDiff, rf_ck, cp, lb])
    refine Hx.cs (fun c => ?_) (fun c => Hx.cs (fun c1 => ?_) (fun c1 => ?_))
    · refine T1.mo ?_
      rintro σ2 v ⟨q1, q2, q3, _⟩
      refine ⟨q1, ?_, q3⟩
      rw [hr, if_pos (Or.inl (by split at c3 <;> (try split at c3) <;> omega))]
      exact q2
    · have e2 : p.2.1 % p.2.2 * 2 = p.2.2 := by split at c3 <;> (try split at c3) <;> omega
      refine Hx.cs (fun c2 => ?_) (fun c2 => ?_)
      · refine T1.mo ?_
        rintro σ2 v ⟨q1, q2, q3, _⟩
        refine ⟨q1, ?_, q3⟩
        rw [hr, if_pos (Or.inr ⟨by omega, by omega⟩)]
        exact q2
      · refine T0.mo ?_
        rintro σ2 v ⟨q1, q2, q3, _⟩
        refine ⟨q1, ?_, q3⟩
        rw [hr, if_neg (by omega)]
        exact q2
    · refine T0.mo ?_
      rintro σ2 v ⟨q1, q2, q3, _⟩
      refine ⟨q1, ?_, q3⟩
      rw [hr, if_neg (by split at c3 <;> (try split at c3) <;> omega)]
      exact q2
  unfold fX12_rounds
  (try simp (disch := first | assumption | ((repeat (first | apply MS_A | apply MS_I)) <;> assumption) | omega) only [sm_bind, sm_cb, sm_nm, lits, sm_add, sm_mul, sm_le, sm_lt, sm_eq, sm_div, sm_sub, mx_le, mx_lt, mx_eq, xm_le, xm_lt, xm_eq, iz_le, iz_lt, iz_eq, nb0, nb1, sA_wA_b, sA_wA_eq, Nat.zero_le, ↓reduceIte, not_true_eq_false, not_false_eq_true, eq_self, Nat.reduceEqDiff, rf_ck])
  refine Hx.bE (rf_loads0 (r := 0) hm (by omega) hi hp) ?_
  rintro σ1 ⟨hR1, A⟩
  have hm1 := hR1.ms hm
  have hp := hp.keep hR1
  have F := F.tr (hR1.mo (by simp))
  (try simp (disch := first | assumption | ((repeat (first | apply MS_A | apply MS_I)) <;> assumption) | omega) only [sm_bind, sm_cb, sm_nm, lits, sm_add, sm_mul, sm_le, sm_lt, sm_eq, sm_div, sm_sub, mx_le, mx_lt, mx_eq, xm_le, xm_lt, xm_eq, iz_le, iz_lt, iz_eq, nb0, nb1, sA_wA_b, sA_wA_eq, Nat.zero_le, ↓reduceIte, not_true_eq_false, not_false_eq_true, eq_self, Nat.reduceEqDiff, rf_ck])
  refine Hx.bE (rf_loads1 (r := 1) hm1 (by omega) hi hp) ?_
  rintro σ2 ⟨hR2, B⟩
  have hm2 := hR2.ms hm1
  have A := A.keep hR2 (by simp)
  have hp := hp.keep hR2
  have F := F.tr (hR2.mo (by simp))
  (try simp (disch := first | assumption | ((repeat (first | apply MS_A | apply MS_I)) <;> assumption) | omega) only [sm_bind, sm_cb, sm_nm, lits, sm_add, sm_mul, sm_le, sm_lt, sm_eq, sm_div, sm_sub, mx_le, mx_lt, mx_eq, xm_le, xm_lt, xm_eq, iz_le, iz_lt, iz_eq, nb0, nb1, sA_wA_b, sA_wA_eq, Nat.zero_le, ↓reduceIte, not_true_eq_false, not_false_eq_true, eq_self, Nat.reduceEqDiff, rf_ck])
  refine Hx.bE (rf_divides (a := 0) (b := 1) (u := 8) hm2 (by omega) (by omega) (by omega) (by omega) (by omega) n1 dp A B) ?_
  rintro σ3 ⟨hR3, Q, R⟩
  have hm3 := hR3.ms hm2
  have A := A.keep hR3 (by simp)
  have B := B.keep hR3 (by simp)
  have hp := hp.keep hR3
  have F := F.tr (hR3.mo (by simp))
  (try simp (disch := first | assumption | ((repeat (first | apply MS_A | apply MS_I)) <;> assumption) | omega) only [sm_bind, sm_cb, sm_nm, lits, sm_add, sm_mul, sm_le, sm_lt, sm_eq, sm_div, sm_sub, mx_le, mx_lt, mx_eq, xm_le, xm_lt, xm_eq, iz_le, iz_lt, iz_eq, nb0, nb1, sA_wA_b, sA_wA_eq, Nat.zero_le, ↓reduceIte, not_true_eq_false, not_false_eq_true, eq_self, Nat.reduceEqDiff, rf_ck])
  refine Hx.bE (rf_copies (t := 6) (f := 9) hm3 (by omega) (by omega) (by omega) Q) ?_
  rintro σ4 ⟨hR4, N⟩
  have hm4 := hR4.ms hm3
  have A := A.keep hR4 (by simp)
  have B := B.keep hR4 (by simp)
  have R := R.keep hR4 (by simp)
  have hp := hp.keep hR4
  have F := F.tr (hR4.mo (by simp))
  obtain ⟨w, w1, w2, w3⟩ := R.z
  have g1 := hp.sg hm4 hi
  unfold fX12_rounds_69 fX12_rounds_65
  (try simp (disch := first | assumption | ((repeat (first | apply MS_A | apply MS_I)) <;> assumption) | omega) only [sm_bind, sm_cb, sm_nm, lits, sm_add, sm_mul, sm_le, sm_lt, sm_eq, sm_div, sm_sub, mx_le, mx_lt, mx_eq, xm_le, xm_lt, xm_eq, iz_le, iz_lt, iz_eq, nb0, nb1, sA_wA_b, sA_wA_eq, Nat.zero_le, ↓reduceIte, not_true_eq_false, not_false_eq_true, eq_self, Nat.reduceEqDiff, rf_ck, rf_wide, ld_wide, st_wide, w1, rf_sign, g1])
  by_cases h14 : st = 14
  · refine Hx.cs (fun c1 => ?_) (fun c1 => Hx.cs (fun c2 => absurd c2 (by omega)) (fun c2 => Hx.cs (fun c3 => ?_) (fun c3 => ?_)))
    all_goals
      refine (near σ4 _ h14 hm4 F N A B R).mo ?_
      rintro σ2 v ⟨q1, q2, q3⟩
      exact ⟨q1, q2, q3, fun h => absurd h (by omega)⟩
  · have hr : rnd st p = if p.2.1 % p.2.2 ≠ 0 ∧ (if st = 12 then p.1 < 0 else 0 < p.1) then p.2.1 / p.2.2 + 1 else p.2.1 / p.2.2 := by simp [rnd, h14]
    have T0 := tail σ4 0 (by omega) hm4 F N A B
    have T1 := tail σ4 1 (by omega) hm4 F N A B
    have c70 : ∀ b, fX12_rounds_70 σ4 m (nI st) (nI b) = fX12_rounds_122 σ4 m (nI b) := by
      intro b
      unfold fX12_rounds_70
      (try simp (disch := first | assumption | ((repeat (first | apply MS_A | apply MS_I)) <;> assumption) | omega) only [sm_bind, sm_cb, sm_nm, lits, sm_add, sm_mul, sm_le, sm_lt, sm_eq, sm_div, sm_sub, mx_le, mx_lt, mx_eq, xm_le, xm_lt, xm_eq, iz_le, iz_lt, iz_eq, nb0, nb1, sA_wA_b, sA_wA_eq, Nat.zero_le, ↓reduceIte, not_true_eq_false, not_false_eq_true, eq_self, Nat.reduceEqDiff, rf_ck, h14])
    rw [c70, c70]
    refine Hx.cs (fun c1 => ?_) (fun c1 => Hx.cs (fun c2 => Hx.cs (fun c3 => ?_) (fun c3 => ?_)) (fun c2 => Hx.cs (fun c3 => ?_) (fun c3 => ?_)))
    · refine T0.mo ?_
      rintro σ2 v ⟨q1, q2, q3, q4⟩
      rw [hr, if_neg (fun h => h.1 (by omega))]
      exact ⟨q1, q2, q3, fun _ => q4⟩
    · refine T0.mo ?_
      rintro σ2 v ⟨q1, q2, q3, q4⟩
      rw [hr, if_neg (fun h => by have := h.2; rw [if_pos c2] at this; omega)]
      exact ⟨q1, q2, q3, fun _ => q4⟩
    · refine T1.mo ?_
      rintro σ2 v ⟨q1, q2, q3, q4⟩
      rw [hr, if_pos ⟨fun h => c1 (by omega), by rw [if_pos c2]; omega⟩]
      exact ⟨q1, q2, q3, fun _ => q4⟩
    · refine T0.mo ?_
      rintro σ2 v ⟨q1, q2, q3, q4⟩
      rw [hr, if_neg (fun h => by have := h.2; rw [if_neg c2] at this; omega)]
      exact ⟨q1, q2, q3, fun _ => q4⟩
    · refine T1.mo ?_
      rintro σ2 v ⟨q1, q2, q3, q4⟩
      rw [hr, if_pos ⟨fun h => c1 (by omega), by rw [if_neg c2]; omega⟩]
      exact ⟨q1, q2, q3, fun _ => q4⟩
theorem rf_copiesPart {m st i : Nat} {p : Qv} {σ : St} (hm : MS σ m) (hst : st < 100) (hi : i < 12600) (hp : Vl σ m i p) (V : Int) (X D : Nat) (hV : V = if st = 15 ∨ st = 18 then 1 else if st = 8 then -p.1 else p.1) (hX : X = if st = 18 then p.2.2 else p.2.1) (hD : D = if st = 17 ∨ st = 18 then 1 else p.2.2) :
    Hx (fX12_copiesPart σ m (nI st) (nI i)) fun σ' v => v = iz V ∧ rfR m [6, 7] σ σ' ∧ Rv σ' m 6 X ∧ Rv σ' m 7 D := by
  have F : rfR m [6, 7] σ σ := rfR.rf
  have tail : ∀ σ', MS σ' m → Vl σ' m i p → fX12_copiesPart_45 σ' m (nI st) (nI i) = some (σ', iz V) := by
    intro σ' hm' hp'
    have g := hp'.sg hm' hi
    unfold fX12_copiesPart_45 fX12_copiesPart_57
    by_cases h15 : st = 15
    · have e : V = 1 := by rw [hV, if_pos (Or.inl h15)]
      (try simp (disch := first | assumption | ((repeat (first | apply MS_A | apply MS_I)) <;> assumption) | omega) only [sm_bind, sm_cb, sm_nm, lits, sm_add, sm_mul, sm_le, sm_lt, sm_eq, sm_div, sm_sub, mx_le, mx_lt, mx_eq, xm_le, xm_lt, xm_eq, iz_le, iz_lt, iz_eq, nb0, nb1, sA_wA_b, sA_wA_eq, Nat.zero_le, ↓reduceIte, not_true_eq_false, not_false_eq_true, eq_self, Nat.reduceEqDiff, rf_ck, h15, e])
      rfl
    · by_cases h18 : st = 18
      · have e : V = 1 := by rw [hV, if_pos (Or.inr h18)]
        (try simp (disch := first | assumption | ((repeat (first | apply MS_A | apply MS_I)) <;> assumption) | omega) only [sm_bind, sm_cb, sm_nm, lits, sm_add, sm_mul, sm_le, sm_lt, sm_eq, sm_div, sm_sub, mx_le, mx_lt, mx_eq, xm_le, xm_lt, xm_eq, iz_le, iz_lt, iz_eq, nb0, nb1, sA_wA_b, sA_wA_eq, Nat.zero_le, ↓reduceIte, not_true_eq_false, not_false_eq_true, eq_self, Nat.reduceEqDiff, rf_ck, h15, h18, e])
        rfl
      · by_cases h8 : st = 8
        · have e : V = -p.1 := by rw [hV, if_neg (by omega), if_pos h8]
          (try simp (disch := first | assumption | ((repeat (first | apply MS_A | apply MS_I)) <;> assumption) | omega) only [sm_bind, sm_cb, sm_nm, lits, sm_add, sm_mul, sm_le, sm_lt, sm_eq, sm_div, sm_sub, mx_le, mx_lt, mx_eq, xm_le, xm_lt, xm_eq, iz_le, iz_lt, iz_eq, nb0, nb1, sA_wA_b, sA_wA_eq, Nat.zero_le, ↓reduceIte, not_true_eq_false, not_false_eq_true, eq_self, Nat.reduceEqDiff, rf_ck, h15, h18, h8, rf_sign, g, iz_ng, e])
        · have e : V = p.1 := by rw [hV, if_neg (by omega), if_neg h8]
          (try simp (disch := first | assumption | ((repeat (first | apply MS_A | apply MS_I)) <;> assumption) | omega) only [sm_bind, sm_cb, sm_nm, lits, sm_add, sm_mul, sm_le, sm_lt, sm_eq, sm_div, sm_sub, mx_le, mx_lt, mx_eq, xm_le, xm_lt, xm_eq, iz_le, iz_lt, iz_eq, nb0, nb1, sA_wA_b, sA_wA_eq, Nat.zero_le, ↓reduceIte, not_true_eq_false, not_false_eq_true, eq_self, Nat.reduceEqDiff, rf_ck, h15, h18, h8, rf_sign, g, e])
  have core : ∀ f, f ≤ 1 → X = (if f = 0 then p.2.1 else p.2.2) → Hx (fX12_copiesPart_15 σ m (nI st) (nI i) m (nI 6) (nI i) (nI f)) fun σ' v => v = iz V ∧ rfR m [6, 7] σ σ' ∧ Rv σ' m 6 X ∧ Rv σ' m 7 D := by
    intro f hf hXf
    unfold fX12_copiesPart_15 fX12_copiesPart_38
    (try simp (disch := first | assumption | ((repeat (first | apply MS_A | apply MS_I)) <;> assumption) | omega) only [sm_bind, sm_cb, sm_nm, lits, sm_add, sm_mul, sm_le, sm_lt, sm_eq, sm_div, sm_sub, mx_le, mx_lt, mx_eq, xm_le, xm_lt, xm_eq, iz_le, iz_lt, iz_eq, nb0, nb1, sA_wA_b, sA_wA_eq, Nat.zero_le, ↓reduceIte, not_true_eq_false, not_false_eq_true, eq_self, Nat.reduceEqDiff, rf_ck])
    refine Hx.bE (rf_loads (r := 6) hm (by omega) hi hp f hf) ?_
    rintro σ1 ⟨hR1, A⟩
    have hm1 := hR1.ms hm
    have hp := hp.keep hR1
    have F := F.tr (hR1.mo (by simp))
    rw [← hXf] at A
    (try simp (disch := first | assumption | ((repeat (first | apply MS_A | apply MS_I)) <;> assumption) | omega) only [sm_bind, sm_cb, sm_nm, lits, sm_add, sm_mul, sm_le, sm_lt, sm_eq, sm_div, sm_sub, mx_le, mx_lt, mx_eq, xm_le, xm_lt, xm_eq, iz_le, iz_lt, iz_eq, nb0, nb1, sA_wA_b, sA_wA_eq, Nat.zero_le, ↓reduceIte, not_true_eq_false, not_false_eq_true, eq_self, Nat.reduceEqDiff, rf_ck])
    refine Hx.bE (rf_loads1 (r := 7) hm1 (by omega) hi hp) ?_
    rintro σ2 ⟨hR2, B⟩
    have hm2 := hR2.ms hm1
    have A := A.keep hR2 (by simp)
    have hp := hp.keep hR2
    have F := F.tr (hR2.mo (by simp))
    (try simp (disch := first | assumption | ((repeat (first | apply MS_A | apply MS_I)) <;> assumption) | omega) only [sm_bind, sm_cb, sm_nm, lits, sm_add, sm_mul, sm_le, sm_lt, sm_eq, sm_div, sm_sub, mx_le, mx_lt, mx_eq, xm_le, xm_lt, xm_eq, iz_le, iz_lt, iz_eq, nb0, nb1, sA_wA_b, sA_wA_eq, Nat.zero_le, ↓reduceIte, not_true_eq_false, not_false_eq_true, eq_self, Nat.reduceEqDiff, rf_ck])
    have one : D = 1 → Hx (cb (fX12_puts σ2 m (nI 7) (nI 1)) fun σ1 v2 => fX12_copiesPart_45 σ1 m (nI st) (nI i)) fun σ' v => v = iz V ∧ rfR m [6, 7] σ σ' ∧ Rv σ' m 6 X ∧ Rv σ' m 7 D := by
      intro hD1
      refine Hx.bE (rf_puts (r := 7) (v := 1) hm2 (by omega) (by omega)) ?_
      rintro σ3 ⟨hR3, C⟩
      have hm3 := hR3.ms hm2
      have A := A.keep hR3 (by simp)
      have hp := hp.keep hR3
      have F := F.tr (hR3.mo (by simp))
      rw [tail σ3 hm3 hp]
      rw [← hD1] at C
      exact Hx.ret ⟨rfl, F, A, C⟩
    refine Hx.cs (fun c => ?_) (fun c => Hx.cs (fun c2 => ?_) (fun c2 => ?_))
    · exact one (by rw [hD, if_pos (Or.inl c)])
    · exact one (by rw [hD, if_pos (Or.inr c2)])
    · rw [if_neg (by omega)] at hD
      rw [tail σ2 hm2 hp, hD]
      exact Hx.ret ⟨rfl, F, A, B⟩
  unfold fX12_copiesPart
  by_cases h18 : st = 18
  · have := core 1 (by omega) (by rw [hX, if_pos h18, if_neg (by omega)])
    (try simp (disch := first | assumption | ((repeat (first | apply MS_A | apply MS_I)) <;> assumption) | omega) only [sm_bind, sm_cb, sm_nm, lits, sm_add, sm_mul, sm_le, sm_lt, sm_eq, sm_div, sm_sub, mx_le, mx_lt, mx_eq, xm_le, xm_lt, xm_eq, iz_le, iz_lt, iz_eq, nb0, nb1, sA_wA_b, sA_wA_eq, Nat.zero_le, ↓reduceIte, not_true_eq_false, not_false_eq_true, eq_self, Nat.reduceEqDiff, rf_ck, h18])
    rw [h18] at this
    exact this
  · have := core 0 (by omega) (by rw [hX, if_neg h18, if_pos rfl])
    (try simp (disch := first | assumption | ((repeat (first | apply MS_A | apply MS_I)) <;> assumption) | omega) only [sm_bind, sm_cb, sm_nm, lits, sm_add, sm_mul, sm_le, sm_lt, sm_eq, sm_div, sm_sub, mx_le, mx_lt, mx_eq, xm_le, xm_lt, xm_eq, iz_le, iz_lt, iz_eq, nb0, nb1, sA_wA_b, sA_wA_eq, Nat.zero_le, ↓reduceIte, not_true_eq_false, not_false_eq_true, eq_self, Nat.reduceEqDiff, rf_ck, h18])
    exact this
