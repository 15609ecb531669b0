/-! ===== a step's end: what holds behind it ===== -/
def Hx {α : Type} (o : Option (St × α)) (P : St → α → Prop) : Prop := ∃ σ' v, o = some (σ', v) ∧ P σ' v
theorem Hx.ret {α : Type} {σ : St} {v : α} {P : St → α → Prop} (h : P σ v) : Hx (some (σ, v)) P := ⟨σ, v, rfl, h⟩
theorem Hx.bd {α β : Type} {o : Option (St × α)} {k : St → α → Option (St × β)} {Q : St → α → Prop} {P : St → β → Prop} (h : Hx o Q) (hk : ∀ σ v, Q σ v → Hx (k σ v) P) : Hx (cb o k) P := by
  obtain ⟨σ1, v, rfl, hq⟩ := h
  exact hk σ1 v hq
theorem Hx.bE {α β : Type} {o : Option (St × α)} {k : St → α → Option (St × β)} {w : α} {Q : St → Prop} {P : St → β → Prop} (h : ∃ σ', o = some (σ', w) ∧ Q σ') (hk : ∀ σ, Q σ → Hx (k σ w) P) : Hx (cb o k) P := by
  obtain ⟨σ1, rfl, hq⟩ := h
  exact hk σ1 hq
theorem Hx.mo {α : Type} {o : Option (St × α)} {Q P : St → α → Prop} (h : Hx o Q) (hk : ∀ σ v, Q σ v → P σ v) : Hx o P := by
  obtain ⟨σ1, v, e, hq⟩ := h
  exact ⟨σ1, v, e, hk σ1 v hq⟩
theorem Hx.of {α : Type} {o : Option (St × α)} {w : α} {Q : St → Prop} (h : ∃ σ', o = some (σ', w) ∧ Q σ') : Hx o (fun σ v => v = w ∧ Q σ) := by
  obtain ⟨σ1, e, hq⟩ := h
  exact ⟨σ1, w, e, rfl, hq⟩
theorem Hx.cs {α : Type} {c : Prop} {d : Decidable c} {a b : Option (St × α)} {P : St → α → Prop} (h1 : c → Hx a P) (h2 : ¬ c → Hx b P) : Hx (@ite _ c d a b) P := by
  by_cases h : c
  · rw [if_pos h]; exact h1 h
  · rw [if_neg h]; exact h2 h
theorem mx_le {a : Nat} {v : Int} (h1 : a < 2147483648) (h2 : -2147483648 ≤ v) (h3 : v < 2147483648) : (nI a ≤ iz v) = ((a : Int) ≤ v) := by rw [sm_iz, iz_le (by omega) (by omega) h2 h3]
theorem mx_lt {a : Nat} {v : Int} (h1 : a < 2147483648) (h2 : -2147483648 ≤ v) (h3 : v < 2147483648) : (nI a < iz v) = ((a : Int) < v) := by rw [sm_iz, iz_lt (by omega) (by omega) h2 h3]
theorem mx_eq {a : Nat} {v : Int} (h1 : a < 2147483648) (h2 : -2147483648 ≤ v) (h3 : v < 2147483648) : (nI a = iz v) = ((a : Int) = v) := by rw [sm_iz, iz_eq (by omega) (by omega) h2 h3]
theorem xm_le {a : Nat} {v : Int} (h1 : a < 2147483648) (h2 : -2147483648 ≤ v) (h3 : v < 2147483648) : (iz v ≤ nI a) = (v ≤ (a : Int)) := by rw [sm_iz, iz_le h2 h3 (by omega) (by omega)]
theorem xm_lt {a : Nat} {v : Int} (h1 : a < 2147483648) (h2 : -2147483648 ≤ v) (h3 : v < 2147483648) : (iz v < nI a) = (v < (a : Int)) := by rw [sm_iz, iz_lt h2 h3 (by omega) (by omega)]
theorem xm_eq {a : Nat} {v : Int} (h1 : a < 2147483648) (h2 : -2147483648 ≤ v) (h3 : v < 2147483648) : (iz v = nI a) = (v = (a : Int)) := by rw [sm_iz, iz_eq h2 h3 (by omega) (by omega)]
theorem nb0 {c : Prop} {d : Decidable c} : (nI (@ite Nat c d 1 0) = nI 0) = ¬ c := by
  by_cases h : c
  · rw [if_pos h]; exact propext ⟨fun q => absurd q (by decide), fun q => absurd h q⟩
  · rw [if_neg h]; exact propext ⟨fun _ => h, fun _ => rfl⟩
theorem nb1 {c : Prop} {d : Decidable c} : (nI (@ite Nat c d 1 0) = nI 1) = c := by
  by_cases h : c
  · rw [if_pos h]; exact propext ⟨fun q => h, fun q => rfl⟩
  · rw [if_neg h]; exact propext ⟨fun q => absurd q (by decide), fun q => absurd q h⟩
theorem rf_in {σ : St} {v a b : Int} (h1 : -2147483648 ≤ v) (h2 : v < 2147483648) (h3 : -2147483648 ≤ a) (h4 : a < 2147483648) (h5 : -2147483648 ≤ b) (h6 : b < 2147483648) : fX12_in σ (iz v) (iz a) (iz b) = some (σ, nI (if a ≤ v ∧ v ≤ b then 1 else 0)) := by
  unfold fX12_in
  simp only [iz_lt h1 h2 h3 h4, iz_lt h5 h6 h1 h2]
  by_cases c1 : v < a
  · rw [if_pos c1, if_neg (by omega)]; rfl
  · rw [if_neg c1]
    by_cases c2 : b < v
    · rw [if_pos c2, if_neg (by omega)]; rfl
    · rw [if_neg c2, if_pos (by omega)]; rfl
theorem rf_inN {σ : St} {v a b : Nat} (h2 : v < 2147483648) (h4 : a < 2147483648) (h6 : b < 2147483648) : fX12_in σ (nI v) (nI a) (nI b) = some (σ, nI (if a ≤ v ∧ v ≤ b then 1 else 0)) := by
  have := rf_in (σ := σ) (v := v) (a := a) (b := b) (by omega) (by omega) (by omega) (by omega) (by omega) (by omega)
  rw [← sm_iz, ← sm_iz, ← sm_iz] at this
  rw [this]
  by_cases c : a ≤ v ∧ v ≤ b
  · rw [if_pos c, if_pos (by omega)]
  · rw [if_neg c, if_neg (by omega)]
/-! ===== whole? as an int ===== -/
theorem rf_isWhole_loop {m i d : Nat} {σ : St} (hm : MS σ m) (hi : i < 12600) (hd : d < 10000 ^ 8) (h : ∀ k, k < 8 → sA σ (m + 4) (16 * i + 8 + k) = nI (dq d k % 10000)) : ∀ (n k : Nat), 8 - k < n → 1 ≤ k → k ≤ 8 →
    fX12_isWhole_20 n σ m (nI i) (nI k) = some (σ, nI (if dq d k = 0 then 1 else 0)) := by
  intro n
  induction n with
  | zero => intro k h; omega
  | succ n ih =>
    intro k hn h1 hk
    rw [fX12_isWhole_20]
    have dk := tp_dv d k
    by_cases hc : 8 ≤ k
    · obtain rfl : k = 8 := by omega
      rw [if_pos (tp_lt.mp hd)]
      simp (disch := first | assumption | ((repeat (first | apply MS_A | apply MS_I)) <;> assumption) | omega) only [sm_bind, sm_cb, sm_nm, lits, sm_add, sm_mul, sm_le, sm_lt, sm_eq, sm_div, sm_sub, mx_le, mx_lt, mx_eq, xm_le, xm_lt, xm_eq, iz_le, iz_lt, iz_eq, nb0, nb1, sA_wA_b, sA_wA_eq, Nat.zero_le, ↓reduceIte, not_true_eq_false, not_false_eq_true, eq_self, Nat.reduceEqDiff, rf_ck, Nat.le_refl]
    · have g1 := h k (by omega)
      by_cases h0 : dq d k % 10000 = 0
      · have i1 := ih (k + 1) (by omega) (by omega) (by omega)
        have e9 : (dq d (k + 1) = 0) = (dq d k = 0) := propext (by omega)
        simp only [e9] at i1
        simp (disch := first | assumption | ((repeat (first | apply MS_A | apply MS_I)) <;> assumption) | omega) only [sm_bind, sm_cb, sm_nm, lits, sm_add, sm_mul, sm_le, sm_lt, sm_eq, sm_div, sm_sub, mx_le, mx_lt, mx_eq, xm_le, xm_lt, xm_eq, iz_le, iz_lt, iz_eq, nb0, nb1, sA_wA_b, sA_wA_eq, Nat.zero_le, ↓reduceIte, not_true_eq_false, not_false_eq_true, eq_self, Nat.reduceEqDiff, rf_ck, rf_part, ld_part, st_part, hc, g1, h0, i1]
      · rw [if_neg (show ¬ dq d k = 0 by omega)]
        simp (disch := first | assumption | ((repeat (first | apply MS_A | apply MS_I)) <;> assumption) | omega) only [sm_bind, sm_cb, sm_nm, lits, sm_add, sm_mul, sm_le, sm_lt, sm_eq, sm_div, sm_sub, mx_le, mx_lt, mx_eq, xm_le, xm_lt, xm_eq, iz_le, iz_lt, iz_eq, nb0, nb1, sA_wA_b, sA_wA_eq, Nat.zero_le, ↓reduceIte, not_true_eq_false, not_false_eq_true, eq_self, Nat.reduceEqDiff, rf_ck, rf_part, ld_part, st_part, hc, g1, h0]
theorem rf_isWhole {m i : Nat} {p : Qv} {σ : St} (hm : MS σ m) (hi : i < 12600) (hp : Vl σ m i p) : fX12_isWhole σ m (nI i) = some (σ, nI (if p.2.2 = 1 then 1 else 0)) := by
  have hd := hp.1.d8
  have g0 := hp.2.2.2 0 (by omega)
  rw [dq_0, Nat.add_zero] at g0
  have hl := rf_isWhole_loop hm hi hd hp.2.2.2 FU 1 (by unfold FU; omega) (by omega) (by omega)
  have d1 := tp_dv p.2.2 0
  rw [dq_0, Nat.zero_add] at d1
  unfold fX12_isWhole
  by_cases h1 : p.2.2 % 10000 = 1
  · have e : (dq p.2.2 1 = 0) = (p.2.2 = 1) := propext (by omega)
    simp only [e] at hl
    simp (disch := first | assumption | ((repeat (first | apply MS_A | apply MS_I)) <;> assumption) | omega) only [sm_bind, sm_cb, sm_nm, lits, sm_add, sm_mul, sm_le, sm_lt, sm_eq, sm_div, sm_sub, mx_le, mx_lt, mx_eq, xm_le, xm_lt, xm_eq, iz_le, iz_lt, iz_eq, nb0, nb1, sA_wA_b, sA_wA_eq, Nat.zero_le, ↓reduceIte, not_true_eq_false, not_false_eq_true, eq_self, Nat.reduceEqDiff, rf_ck, rf_part, ld_part, st_part, g0, h1, hl]
  · rw [if_neg (show ¬ p.2.2 = 1 by intro h; rw [h] at h1; omega)]
    simp (disch := first | assumption | ((repeat (first | apply MS_A | apply MS_I)) <;> assumption) | omega) only [sm_bind, sm_cb, sm_nm, lits, sm_add, sm_mul, sm_le, sm_lt, sm_eq, sm_div, sm_sub, mx_le, mx_lt, mx_eq, xm_le, xm_lt, xm_eq, iz_le, iz_lt, iz_eq, nb0, nb1, sA_wA_b, sA_wA_eq, Nat.zero_le, ↓reduceIte, not_true_eq_false, not_false_eq_true, eq_self, Nat.reduceEqDiff, rf_ck, rf_part, ld_part, st_part, g0, h1]
theorem rf_asInt_loop {m i : Nat} {p : Qv} {σ : St} (hm : MS σ m) (hi : i < 12600) (hp : Vl σ m i p) : ∀ (n k : Nat), 8 - k < n → 1 ≤ k → k ≤ 8 →
    fX12_asInt_2 n σ m (nI i) (nI k) = some (σ, if dq p.2.1 k = 0 then iz p.1 * nI (p.2.1 % 10000) else iz p.1 * nI 10000) := by
  have g2 := hp.sg hm hi
  have g0 : sA σ (m + 4) (16 * i) = nI (p.2.1 % 10000) := by
    have h := hp.2.2.1 0 (by omega)
    rw [dq_0] at h
    exact h
  intro n
  induction n with
  | zero => intro k h; omega
  | succ n ih =>
    intro k hn h1 hk
    rw [fX12_asInt_2]
    have dk := tp_dv p.2.1 k
    by_cases hc : 8 ≤ k
    · obtain rfl : k = 8 := by omega
      rw [if_pos (tp_lt.mp hp.1.n8)]
      simp (disch := first | assumption | ((repeat (first | apply MS_A | apply MS_I)) <;> assumption) | omega) only [sm_bind, sm_cb, sm_nm, lits, sm_add, sm_mul, sm_le, sm_lt, sm_eq, sm_div, sm_sub, mx_le, mx_lt, mx_eq, xm_le, xm_lt, xm_eq, iz_le, iz_lt, iz_eq, nb0, nb1, sA_wA_b, sA_wA_eq, Nat.zero_le, ↓reduceIte, not_true_eq_false, not_false_eq_true, eq_self, Nat.reduceEqDiff, rf_ck, rf_part, ld_part, st_part, Nat.le_refl, rf_sign, g2, g0]
    · have g1 := hp.2.2.1 k (by omega)
      by_cases h0 : dq p.2.1 k % 10000 = 0
      · have i1 := ih (k + 1) (by omega) (by omega) (by omega)
        have e9 : (dq p.2.1 (k + 1) = 0) = (dq p.2.1 k = 0) := propext (by omega)
        simp only [e9] at i1
        simp (disch := first | assumption | ((repeat (first | apply MS_A | apply MS_I)) <;> assumption) | omega) only [sm_bind, sm_cb, sm_nm, lits, sm_add, sm_mul, sm_le, sm_lt, sm_eq, sm_div, sm_sub, mx_le, mx_lt, mx_eq, xm_le, xm_lt, xm_eq, iz_le, iz_lt, iz_eq, nb0, nb1, sA_wA_b, sA_wA_eq, Nat.zero_le, ↓reduceIte, not_true_eq_false, not_false_eq_true, eq_self, Nat.reduceEqDiff, rf_ck, rf_part, ld_part, st_part, hc, g1, h0, i1]
      · rw [if_neg (show ¬ dq p.2.1 k = 0 by omega)]
        simp (disch := first | assumption | ((repeat (first | apply MS_A | apply MS_I)) <;> assumption) | omega) only [sm_bind, sm_cb, sm_nm, lits, sm_add, sm_mul, sm_le, sm_lt, sm_eq, sm_div, sm_sub, mx_le, mx_lt, mx_eq, xm_le, xm_lt, xm_eq, iz_le, iz_lt, iz_eq, nb0, nb1, sA_wA_b, sA_wA_eq, Nat.zero_le, ↓reduceIte, not_true_eq_false, not_false_eq_true, eq_self, Nat.reduceEqDiff, rf_ck, rf_part, ld_part, st_part, hc, g1, h0, rf_sign, g2]
/-- a whole value as an int -/
def asI (p : Qv) : Int := if p.2.1 < 10000 then p.1 * p.2.1 else p.1 * 10000
theorem rf_asInt {m i : Nat} {p : Qv} {σ : St} (hm : MS σ m) (hi : i < 12600) (hp : Vl σ m i p) : fX12_asInt σ m (nI i) = some (σ, iz (asI p)) := by
  have hl := rf_asInt_loop hm hi hp FU 1 (by unfold FU; omega) (by omega) (by omega)
  have d1 := tp_dv p.2.1 0
  rw [dq_0, Nat.zero_add] at d1
  unfold fX12_asInt asI
  rw [show (1 : Int32) = nI 1 from rfl, hl]
  by_cases h : p.2.1 < 10000
  · rw [if_pos h, if_pos (by omega), Nat.mod_eq_of_lt h, sm_iz, iz_mul]
  · rw [if_neg h, if_neg (by omega), sm_iz, iz_mul]
    rfl
theorem asI_b {p : Qv} (h : qok p) : -10000 ≤ asI p ∧ asI p ≤ 10000 := by
  unfold asI
  rcases h.1 with h1 | h1 | h1 <;> rw [h1] <;> split <;> omega
theorem asI_in {p : Qv} (h : qok p) : (-100 ≤ asI p ∧ asI p ≤ 100) ↔ p.2.1 ≤ 100 := by
  have h2 := h.2.1
  unfold asI
  rcases h.1 with h1 | h1 | h1 <;> rw [h1] at h2 ⊢ <;> split <;> omega
theorem asI_sm {p : Qv} (h : p.2.1 ≤ 100) : asI p = p.1 * p.2.1 := if_pos (by omega)
/-- why a step is refused ahead of its result -/
def ca (st : Nat) (p q : Qv) : Nat :=
  if st = 6 ∧ ¬ (q.2.2 = 1 ∧ q.2.1 ≤ 100) then 6
  else if st = 7 ∧ ¬ (p.2.2 = 1 ∧ 0 ≤ p.1) then 6
  else if (st = 10 ∨ st = 11) ∧ ¬ (p.2.2 = 1 ∧ q.2.2 = 1) then 6
  else if (st = 4 ∨ st = 5) ∧ q.1 = 0 then 5
  else if st = 6 ∧ p.1 = 0 ∧ q.1 < 0 then 5
  else if st = 7 ∧ 28 < p.2.1 then 7 else 0
theorem rf_cause {m st i j : Nat} {p q : Qv} {σ : St} (hm : MS σ m) (hst : st < 100) (hi : i < 12600) (hj : j < 12600) (hp : Vl σ m i p) (hq : Vl σ m j q) : fX12_cause σ m (nI st) (nI i) (nI j) = some (σ, nI (ca st p q)) := by
  have W1 := rf_isWhole hm hi hp
  have W2 := rf_isWhole hm hj hq
  have A1 := rf_asInt hm hi hp
  have A2 := rf_asInt hm hj hq
  have S1 := hp.sg hm hi
  have S2 := hq.sg hm hj
  have b1 := hp.1.sg
  have b2 := hq.1.sg
  have a1 := asI_b hp.1
  have a2 := asI_b hq.1
  have I2 := rf_in (σ := σ) (v := asI q) (a := -100) (b := 100) (by omega) (by omega) (by omega) (by omega) (by omega) (by omega)
  have em : (-nI 100 : Int32) = iz (-100) := rfl
  have ep : iz 100 = nI 100 := rfl
  rw [ep] at I2
  have hin := asI_in hq.1
  simp only [hin] at I2
  by_cases h6 : st = 6
  · subst h6
    by_cases c1 : q.2.2 = 1
    · by_cases c2 : q.2.1 ≤ 100
      · by_cases c3 : p.1 = ((0 : Nat) : Int)
        · by_cases c4 : ((0 : Nat) : Int) ≤ q.1
          · rw [show ca 6 p q = 0 by unfold ca; (repeat' split) <;> omega]
            simp (disch := first | assumption | ((repeat (first | apply MS_A | apply MS_I)) <;> assumption) | omega) only [sm_bind, sm_cb, sm_nm, lits, sm_add, sm_mul, sm_le, sm_lt, sm_eq, sm_div, sm_sub, mx_le, mx_lt, mx_eq, xm_le, xm_lt, xm_eq, iz_le, iz_lt, iz_eq, nb0, nb1, sA_wA_b, sA_wA_eq, Nat.zero_le, ↓reduceIte, not_true_eq_false, not_false_eq_true, eq_self, Nat.reduceEqDiff, rf_ck, fX12_cause, fX12_cause_32, fX12_cause_58, fX12_cause_70, fX12_cause_89, fX12_cause_99, fX12_cause_110, fX12_cause_136, rf_sign, S1, S2, em, I2, W1, W2, A1, A2, c1, c2, c3, c4, Int.ofNat_eq_zero]
          · rw [show ca 6 p q = 5 by unfold ca; (repeat' split) <;> omega]
            simp (disch := first | assumption | ((repeat (first | apply MS_A | apply MS_I)) <;> assumption) | omega) only [sm_bind, sm_cb, sm_nm, lits, sm_add, sm_mul, sm_le, sm_lt, sm_eq, sm_div, sm_sub, mx_le, mx_lt, mx_eq, xm_le, xm_lt, xm_eq, iz_le, iz_lt, iz_eq, nb0, nb1, sA_wA_b, sA_wA_eq, Nat.zero_le, ↓reduceIte, not_true_eq_false, not_false_eq_true, eq_self, Nat.reduceEqDiff, rf_ck, fX12_cause, fX12_cause_32, fX12_cause_58, fX12_cause_70, fX12_cause_89, fX12_cause_99, fX12_cause_110, fX12_cause_136, rf_sign, S1, S2, em, I2, W1, W2, A1, A2, c1, c2, c3, c4]
        · rw [show ca 6 p q = 0 by unfold ca; (repeat' split) <;> omega]
          have c3' := c3
          simp (disch := first | assumption | ((repeat (first | apply MS_A | apply MS_I)) <;> assumption) | omega) only [sm_bind, sm_cb, sm_nm, lits, sm_add, sm_mul, sm_le, sm_lt, sm_eq, sm_div, sm_sub, mx_le, mx_lt, mx_eq, xm_le, xm_lt, xm_eq, iz_le, iz_lt, iz_eq, nb0, nb1, sA_wA_b, sA_wA_eq, Nat.zero_le, ↓reduceIte, not_true_eq_false, not_false_eq_true, eq_self, Nat.reduceEqDiff, rf_ck, fX12_cause, fX12_cause_32, fX12_cause_58, fX12_cause_70, fX12_cause_89, fX12_cause_99, fX12_cause_110, fX12_cause_136, rf_sign, S1, S2, em, I2, W1, W2, A1, A2, c1, c2, c3']
      · rw [show ca 6 p q = 6 by unfold ca; (repeat' split) <;> omega]
        simp (disch := first | assumption | ((repeat (first | apply MS_A | apply MS_I)) <;> assumption) | omega) only [sm_bind, sm_cb, sm_nm, lits, sm_add, sm_mul, sm_le, sm_lt, sm_eq, sm_div, sm_sub, mx_le, mx_lt, mx_eq, xm_le, xm_lt, xm_eq, iz_le, iz_lt, iz_eq, nb0, nb1, sA_wA_b, sA_wA_eq, Nat.zero_le, ↓reduceIte, not_true_eq_false, not_false_eq_true, eq_self, Nat.reduceEqDiff, rf_ck, fX12_cause, fX12_cause_32, fX12_cause_58, fX12_cause_70, fX12_cause_89, fX12_cause_99, fX12_cause_110, fX12_cause_136, rf_sign, S1, S2, em, I2, W1, W2, A1, A2, c1, c2]
    · rw [show ca 6 p q = 6 by unfold ca; (repeat' split) <;> omega]
      simp (disch := first | assumption | ((repeat (first | apply MS_A | apply MS_I)) <;> assumption) | omega) only [sm_bind, sm_cb, sm_nm, lits, sm_add, sm_mul, sm_le, sm_lt, sm_eq, sm_div, sm_sub, mx_le, mx_lt, mx_eq, xm_le, xm_lt, xm_eq, iz_le, iz_lt, iz_eq, nb0, nb1, sA_wA_b, sA_wA_eq, Nat.zero_le, ↓reduceIte, not_true_eq_false, not_false_eq_true, eq_self, Nat.reduceEqDiff, rf_ck, fX12_cause, fX12_cause_32, fX12_cause_58, fX12_cause_70, fX12_cause_89, fX12_cause_99, fX12_cause_110, fX12_cause_136, rf_sign, S1, S2, em, I2, W1, W2, A1, A2, c1]
  · by_cases h7 : st = 7
    · subst h7
      by_cases c1 : p.2.2 = 1
      · by_cases c2 : ((0 : Nat) : Int) ≤ p.1
        · have hv : (asI p ≤ ((28 : Nat) : Int)) = ¬ (28 < p.2.1) := by
            have h2 := hp.1.2.1
            apply propext
            unfold asI
            rcases hp.1.1 with h1 | h1 | h1 <;> rw [h1] at h2 c2 ⊢ <;> split <;> omega
          by_cases c3 : 28 < p.2.1
          · rw [show ca 7 p q = 7 by unfold ca; (repeat' split) <;> omega]
            simp (disch := first | assumption | ((repeat (first | apply MS_A | apply MS_I)) <;> assumption) | omega) only [sm_bind, sm_cb, sm_nm, lits, sm_add, sm_mul, sm_le, sm_lt, sm_eq, sm_div, sm_sub, mx_le, mx_lt, mx_eq, xm_le, xm_lt, xm_eq, iz_le, iz_lt, iz_eq, nb0, nb1, sA_wA_b, sA_wA_eq, Nat.zero_le, ↓reduceIte, not_true_eq_false, not_false_eq_true, eq_self, Nat.reduceEqDiff, rf_ck, fX12_cause, fX12_cause_32, fX12_cause_58, fX12_cause_70, fX12_cause_89, fX12_cause_99, fX12_cause_110, fX12_cause_136, rf_sign, S1, S2, em, I2, W1, W2, A1, A2, c1, c2, hv, c3]
          · rw [show ca 7 p q = 0 by unfold ca; (repeat' split) <;> omega]
            simp (disch := first | assumption | ((repeat (first | apply MS_A | apply MS_I)) <;> assumption) | omega) only [sm_bind, sm_cb, sm_nm, lits, sm_add, sm_mul, sm_le, sm_lt, sm_eq, sm_div, sm_sub, mx_le, mx_lt, mx_eq, xm_le, xm_lt, xm_eq, iz_le, iz_lt, iz_eq, nb0, nb1, sA_wA_b, sA_wA_eq, Nat.zero_le, ↓reduceIte, not_true_eq_false, not_false_eq_true, eq_self, Nat.reduceEqDiff, rf_ck, fX12_cause, fX12_cause_32, fX12_cause_58, fX12_cause_70, fX12_cause_89, fX12_cause_99, fX12_cause_110, fX12_cause_136, rf_sign, S1, S2, em, I2, W1, W2, A1, A2, c1, c2, hv, c3]
        · rw [show ca 7 p q = 6 by unfold ca; (repeat' split) <;> omega]
          simp (disch := first | assumption | ((repeat (first | apply MS_A | apply MS_I)) <;> assumption) | omega) only [sm_bind, sm_cb, sm_nm, lits, sm_add, sm_mul, sm_le, sm_lt, sm_eq, sm_div, sm_sub, mx_le, mx_lt, mx_eq, xm_le, xm_lt, xm_eq, iz_le, iz_lt, iz_eq, nb0, nb1, sA_wA_b, sA_wA_eq, Nat.zero_le, ↓reduceIte, not_true_eq_false, not_false_eq_true, eq_self, Nat.reduceEqDiff, rf_ck, fX12_cause, fX12_cause_32, fX12_cause_58, fX12_cause_70, fX12_cause_89, fX12_cause_99, fX12_cause_110, fX12_cause_136, rf_sign, S1, S2, em, I2, W1, W2, A1, A2, c1, c2]
      · rw [show ca 7 p q = 6 by unfold ca; (repeat' split) <;> omega]
        simp (disch := first | assumption | ((repeat (first | apply MS_A | apply MS_I)) <;> assumption) | omega) only [sm_bind, sm_cb, sm_nm, lits, sm_add, sm_mul, sm_le, sm_lt, sm_eq, sm_div, sm_sub, mx_le, mx_lt, mx_eq, xm_le, xm_lt, xm_eq, iz_le, iz_lt, iz_eq, nb0, nb1, sA_wA_b, sA_wA_eq, Nat.zero_le, ↓reduceIte, not_true_eq_false, not_false_eq_true, eq_self, Nat.reduceEqDiff, rf_ck, fX12_cause, fX12_cause_32, fX12_cause_58, fX12_cause_70, fX12_cause_89, fX12_cause_99, fX12_cause_110, fX12_cause_136, rf_sign, S1, S2, em, I2, W1, W2, A1, A2, c1]
    · by_cases h10 : st = 10 ∨ st = 11
      · by_cases c1 : p.2.2 = 1
        · by_cases c2 : q.2.2 = 1
          · rcases h10 with h | h <;> subst h
            · rw [show ca 10 p q = 0 by unfold ca; (repeat' split) <;> omega]
              simp (disch := first | assumption | ((repeat (first | apply MS_A | apply MS_I)) <;> assumption) | omega) only [sm_bind, sm_cb, sm_nm, lits, sm_add, sm_mul, sm_le, sm_lt, sm_eq, sm_div, sm_sub, mx_le, mx_lt, mx_eq, xm_le, xm_lt, xm_eq, iz_le, iz_lt, iz_eq, nb0, nb1, sA_wA_b, sA_wA_eq, Nat.zero_le, ↓reduceIte, not_true_eq_false, not_false_eq_true, eq_self, Nat.reduceEqDiff, rf_ck, fX12_cause, fX12_cause_32, fX12_cause_58, fX12_cause_70, fX12_cause_89, fX12_cause_99, fX12_cause_110, fX12_cause_136, rf_sign, S1, S2, em, I2, W1, W2, A1, A2, c1, c2]
            · rw [show ca 11 p q = 0 by unfold ca; (repeat' split) <;> omega]
              simp (disch := first | assumption | ((repeat (first | apply MS_A | apply MS_I)) <;> assumption) | omega) only [sm_bind, sm_cb, sm_nm, lits, sm_add, sm_mul, sm_le, sm_lt, sm_eq, sm_div, sm_sub, mx_le, mx_lt, mx_eq, xm_le, xm_lt, xm_eq, iz_le, iz_lt, iz_eq, nb0, nb1, sA_wA_b, sA_wA_eq, Nat.zero_le, ↓reduceIte, not_true_eq_false, not_false_eq_true, eq_self, Nat.reduceEqDiff, rf_ck, fX12_cause, fX12_cause_32, fX12_cause_58, fX12_cause_70, fX12_cause_89, fX12_cause_99, fX12_cause_110, fX12_cause_136, rf_sign, S1, S2, em, I2, W1, W2, A1, A2, c1, c2]
          · rcases h10 with h | h <;> subst h
            · rw [show ca 10 p q = 6 by unfold ca; (repeat' split) <;> omega]
              simp (disch := first | assumption | ((repeat (first | apply MS_A | apply MS_I)) <;> assumption) | omega) only [sm_bind, sm_cb, sm_nm, lits, sm_add, sm_mul, sm_le, sm_lt, sm_eq, sm_div, sm_sub, mx_le, mx_lt, mx_eq, xm_le, xm_lt, xm_eq, iz_le, iz_lt, iz_eq, nb0, nb1, sA_wA_b, sA_wA_eq, Nat.zero_le, ↓reduceIte, not_true_eq_false, not_false_eq_true, eq_self, Nat.reduceEqDiff, rf_ck, fX12_cause, fX12_cause_32, fX12_cause_58, fX12_cause_70, fX12_cause_89, fX12_cause_99, fX12_cause_110, fX12_cause_136, rf_sign, S1, S2, em, I2, W1, W2, A1, A2, c1, c2]
            · rw [show ca 11 p q = 6 by unfold ca; (repeat' split) <;> omega]
              simp (disch := first | assumption | ((repeat (first | apply MS_A | apply MS_I)) <;> assumption) | omega) only [sm_bind, sm_cb, sm_nm, lits, sm_add, sm_mul, sm_le, sm_lt, sm_eq, sm_div, sm_sub, mx_le, mx_lt, mx_eq, xm_le, xm_lt, xm_eq, iz_le, iz_lt, iz_eq, nb0, nb1, sA_wA_b, sA_wA_eq, Nat.zero_le, ↓reduceIte, not_true_eq_false, not_false_eq_true, eq_self, Nat.reduceEqDiff, rf_ck, fX12_cause, fX12_cause_32, fX12_cause_58, fX12_cause_70, fX12_cause_89, fX12_cause_99, fX12_cause_110, fX12_cause_136, rf_sign, S1, S2, em, I2, W1, W2, A1, A2, c1, c2]
        · rcases h10 with h | h <;> subst h
          · rw [show ca 10 p q = 6 by unfold ca; (repeat' split) <;> omega]
            simp (disch := first | assumption | ((repeat (first | apply MS_A | apply MS_I)) <;> assumption) | omega) only [sm_bind, sm_cb, sm_nm, lits, sm_add, sm_mul, sm_le, sm_lt, sm_eq, sm_div, sm_sub, mx_le, mx_lt, mx_eq, xm_le, xm_lt, xm_eq, iz_le, iz_lt, iz_eq, nb0, nb1, sA_wA_b, sA_wA_eq, Nat.zero_le, ↓reduceIte, not_true_eq_false, not_false_eq_true, eq_self, Nat.reduceEqDiff, rf_ck, fX12_cause, fX12_cause_32, fX12_cause_58, fX12_cause_70, fX12_cause_89, fX12_cause_99, fX12_cause_110, fX12_cause_136, rf_sign, S1, S2, em, I2, W1, W2, A1, A2, c1]
          · rw [show ca 11 p q = 6 by unfold ca; (repeat' split) <;> omega]
            simp (disch := first | assumption | ((repeat (first | apply MS_A | apply MS_I)) <;> assumption) | omega) only [sm_bind, sm_cb, sm_nm, lits, sm_add, sm_mul, sm_le, sm_lt, sm_eq, sm_div, sm_sub, mx_le, mx_lt, mx_eq, xm_le, xm_lt, xm_eq, iz_le, iz_lt, iz_eq, nb0, nb1, sA_wA_b, sA_wA_eq, Nat.zero_le, ↓reduceIte, not_true_eq_false, not_false_eq_true, eq_self, Nat.reduceEqDiff, rf_ck, fX12_cause, fX12_cause_32, fX12_cause_58, fX12_cause_70, fX12_cause_89, fX12_cause_99, fX12_cause_110, fX12_cause_136, rf_sign, S1, S2, em, I2, W1, W2, A1, A2, c1]
      · have h10a : ¬ st = 10 := by omega
        have h11 : ¬ st = 11 := by omega
        by_cases h4 : st = 4 ∨ st = 5
        · by_cases c1 : q.1 = ((0 : Nat) : Int)
          · rcases h4 with h | h <;> subst h
            · rw [show ca 4 p q = 5 by unfold ca; (repeat' split) <;> omega]
              simp (disch := first | assumption | ((repeat (first | apply MS_A | apply MS_I)) <;> assumption) | omega) only [sm_bind, sm_cb, sm_nm, lits, sm_add, sm_mul, sm_le, sm_lt, sm_eq, sm_div, sm_sub, mx_le, mx_lt, mx_eq, xm_le, xm_lt, xm_eq, iz_le, iz_lt, iz_eq, nb0, nb1, sA_wA_b, sA_wA_eq, Nat.zero_le, ↓reduceIte, not_true_eq_false, not_false_eq_true, eq_self, Nat.reduceEqDiff, rf_ck, fX12_cause, fX12_cause_32, fX12_cause_58, fX12_cause_70, fX12_cause_89, fX12_cause_99, fX12_cause_110, fX12_cause_136, rf_sign, S1, S2, em, I2, W1, W2, A1, A2, c1]
            · rw [show ca 5 p q = 5 by unfold ca; (repeat' split) <;> omega]
              simp (disch := first | assumption | ((repeat (first | apply MS_A | apply MS_I)) <;> assumption) | omega) only [sm_bind, sm_cb, sm_nm, lits, sm_add, sm_mul, sm_le, sm_lt, sm_eq, sm_div, sm_sub, mx_le, mx_lt, mx_eq, xm_le, xm_lt, xm_eq, iz_le, iz_lt, iz_eq, nb0, nb1, sA_wA_b, sA_wA_eq, Nat.zero_le, ↓reduceIte, not_true_eq_false, not_false_eq_true, eq_self, Nat.reduceEqDiff, rf_ck, fX12_cause, fX12_cause_32, fX12_cause_58, fX12_cause_70, fX12_cause_89, fX12_cause_99, fX12_cause_110, fX12_cause_136, rf_sign, S1, S2, em, I2, W1, W2, A1, A2, c1]
          · rcases h4 with h | h <;> subst h
            · rw [show ca 4 p q = 0 by unfold ca; (repeat' split) <;> omega]
              simp (disch := first | assumption | ((repeat (first | apply MS_A | apply MS_I)) <;> assumption) | omega) only [sm_bind, sm_cb, sm_nm, lits, sm_add, sm_mul, sm_le, sm_lt, sm_eq, sm_div, sm_sub, mx_le, mx_lt, mx_eq, xm_le, xm_lt, xm_eq, iz_le, iz_lt, iz_eq, nb0, nb1, sA_wA_b, sA_wA_eq, Nat.zero_le, ↓reduceIte, not_true_eq_false, not_false_eq_true, eq_self, Nat.reduceEqDiff, rf_ck, fX12_cause, fX12_cause_32, fX12_cause_58, fX12_cause_70, fX12_cause_89, fX12_cause_99, fX12_cause_110, fX12_cause_136, rf_sign, S1, S2, em, I2, W1, W2, A1, A2, c1]
            · rw [show ca 5 p q = 0 by unfold ca; (repeat' split) <;> omega]
              simp (disch := first | assumption | ((repeat (first | apply MS_A | apply MS_I)) <;> assumption) | omega) only [sm_bind, sm_cb, sm_nm, lits, sm_add, sm_mul, sm_le, sm_lt, sm_eq, sm_div, sm_sub, mx_le, mx_lt, mx_eq, xm_le, xm_lt, xm_eq, iz_le, iz_lt, iz_eq, nb0, nb1, sA_wA_b, sA_wA_eq, Nat.zero_le, ↓reduceIte, not_true_eq_false, not_false_eq_true, eq_self, Nat.reduceEqDiff, rf_ck, fX12_cause, fX12_cause_32, fX12_cause_58, fX12_cause_70, fX12_cause_89, fX12_cause_99, fX12_cause_110, fX12_cause_136, rf_sign, S1, S2, em, I2, W1, W2, A1, A2, c1]
        · have h4a : ¬ st = 4 := by omega
          have h5 : ¬ st = 5 := by omega
          rw [show ca st p q = 0 by unfold ca; (repeat' split) <;> omega]
          simp (disch := first | assumption | ((repeat (first | apply MS_A | apply MS_I)) <;> assumption) | omega) only [sm_bind, sm_cb, sm_nm, lits, sm_add, sm_mul, sm_le, sm_lt, sm_eq, sm_div, sm_sub, mx_le, mx_lt, mx_eq, xm_le, xm_lt, xm_eq, iz_le, iz_lt, iz_eq, nb0, nb1, sA_wA_b, sA_wA_eq, Nat.zero_le, ↓reduceIte, not_true_eq_false, not_false_eq_true, eq_self, Nat.reduceEqDiff, rf_ck, fX12_cause, fX12_cause_32, fX12_cause_58, fX12_cause_70, fX12_cause_89, fX12_cause_99, fX12_cause_110, fX12_cause_136, rf_sign, S1, S2, em, I2, W1, W2, A1, A2, h6, h7, h10a, h11, h4a, h5]
