/-! ===== the reference's registers: rows of four digits at a time ===== -/
theorem tp_pos (k : Nat) : 0 < 10000 ^ k := Nat.pow_pos (by omega)
/-- x without its lowest k limbs -/
def dq (x k : Nat) : Nat := x / 10000 ^ k
theorem dq_0 (x : Nat) : dq x 0 = x := by unfold dq; rw [Nat.pow_zero, Nat.div_one]
theorem dq_le (x k : Nat) : dq x k ≤ x := Nat.div_le_self _ _
theorem dq_mono {x y : Nat} (k : Nat) (h : x ≤ y) : dq x k ≤ dq y k := Nat.div_le_div_right h
theorem tp_dv (x k : Nat) : dq x (k + 1) = dq x k / 10000 := by unfold dq; rw [Nat.pow_succ, Nat.div_div_eq_div_mul]
theorem tp_lt {x k : Nat} : x < 10000 ^ k ↔ dq x k = 0 := (Nat.div_eq_zero_iff_lt (tp_pos k)).symm
theorem tp_ge {x k : Nat} : 10000 ^ k ≤ x ↔ 0 < dq x k := by
  have := @tp_lt x k
  omega
theorem dq_add_le (x y k : Nat) : dq x k + dq y k ≤ dq (x + y) k := by
  unfold dq
  rw [Nat.le_div_iff_mul_le (tp_pos k), Nat.add_mul]
  exact Nat.add_le_add (Nat.div_mul_le_self x _) (Nat.div_mul_le_self y _)
theorem dq_add_lt (x y k : Nat) : dq (x + y) k ≤ dq x k + dq y k + 1 := by
  unfold dq
  have hz := tp_pos k
  generalize 10000 ^ k = P at hz
  have q1 := Nat.div_add_mod x P
  have q2 := Nat.div_add_mod y P
  have q3 := Nat.mod_lt x hz
  have q4 := Nat.mod_lt y hz
  apply Nat.le_of_lt_succ
  rw [Nat.div_lt_iff_lt_mul hz]
  have e9 : (x / P + y / P + 1 + 1) * P = P * (x / P) + P * (y / P) + P + P := by
    rw [Nat.add_mul, Nat.add_mul, Nat.add_mul, Nat.one_mul, Nat.mul_comm (x / P), Nat.mul_comm (y / P)]
  rw [Nat.succ_eq_add_one, e9]
  omega
theorem dq_mul_le (x c k : Nat) : dq x k * c ≤ dq (x * c) k := by
  unfold dq
  rw [Nat.le_div_iff_mul_le (tp_pos k), Nat.mul_assoc, Nat.mul_comm c, ← Nat.mul_assoc]
  exact Nat.mul_le_mul_right c (Nat.div_mul_le_self x _)
theorem dq_mul_lt (x c k : Nat) : dq (x * c) k ≤ dq x k * c + c := by
  unfold dq
  have hz := tp_pos k
  generalize 10000 ^ k = P at hz
  have q1 := Nat.div_add_mod x P
  have q3 := Nat.mod_lt x hz
  apply Nat.le_of_lt_succ
  rw [Nat.div_lt_iff_lt_mul hz]
  have e1 : x * c = P * (x / P * c) + x % P * c := by
    conv => lhs; rw [← q1, Nat.add_mul, Nat.mul_assoc]
  have e2 : x % P * c ≤ P * c := Nat.mul_le_mul_right c (Nat.le_of_lt q3)
  rw [Nat.succ_eq_add_one, Nat.add_mul, Nat.add_mul, Nat.one_mul, Nat.mul_comm (x / P * c), Nat.mul_comm c]
  omega
theorem dq_div (x c k : Nat) : dq (x / c) k = dq x k / c := by
  unfold dq
  rw [Nat.div_div_eq_div_mul, Nat.div_div_eq_div_mul, Nat.mul_comm]
theorem MS_A {σ : St} {a j m : Nat} {v : Int32} (h : MS σ m) : MS (wA σ a j v) m := h
theorem MS_I {σ : St} {f a m : Nat} {v : Int32} (h : MS σ m) : MS (wI σ f a v) m := h
theorem tp_mono {a b : Nat} (h : a ≤ b) : 10000 ^ a ≤ 10000 ^ b := Nat.pow_le_pow_right (by omega) h
theorem wid_le {w x u : Nat} (h : w = 0 ∨ 10000 ^ (w - 1) ≤ x) (hx : x < 10000 ^ u) : w ≤ u := by
  rcases h with h | h
  · omega
  · apply Nat.le_of_not_lt
    intro hu
    have := tp_mono (a := u) (b := w - 1) (by omega)
    omega
theorem wid_pos {w x : Nat} (hx : x < 10000 ^ w) (h0 : 0 < x) : 0 < w := by
  cases w with
  | zero => simp at hx; omega
  | succ n => omega
/-- w limbs, not all of them wanted -/
def Ru (σ : St) (m r w x : Nat) : Prop := sA σ (m + 2) r = nI w ∧ (∀ k, k < w → sA σ (m + 1) (1000 * r + k) = nI (dq x k % 10000)) ∧ x < 10000 ^ w
/-- the register r holds x -/
def Rv (σ : St) (m r x : Nat) : Prop := ∃ w, Ru σ m r w x ∧ w ≤ 990 ∧ (w = 0 ∨ 10000 ^ (w - 1) ≤ x)
/-- of the registers only those of S are written, and nothing else -/
def rfR (m : Nat) (S : List Nat) (σ σ' : St) : Prop := (rfE m σ σ' ∧ sI σ' = sI σ ∧ ∀ b, b ≠ m + 1 → b ≠ m + 2 → sA σ' b = sA σ b) ∧
  ∀ r, r ∉ S → sA σ' (m + 2) r = sA σ (m + 2) r ∧ ∀ k, k < 1000 → sA σ' (m + 1) (1000 * r + k) = sA σ (m + 1) (1000 * r + k)
theorem rfR.rf {m : Nat} {S : List Nat} {σ : St} : rfR m S σ σ := ⟨⟨rfE.rf, rfl, fun _ _ _ => rfl⟩, fun _ _ => ⟨rfl, fun _ _ => rfl⟩⟩
theorem rfR.tr {m : Nat} {S : List Nat} {σ σ1 σ2 : St} (h1 : rfR m S σ σ1) (h2 : rfR m S σ1 σ2) : rfR m S σ σ2 := by
  obtain ⟨⟨a1, a2, a3⟩, a4⟩ := h1
  obtain ⟨⟨b1, b2, b3⟩, b4⟩ := h2
  exact ⟨⟨a1.tr b1, b2.trans a2, fun b h h' => (b3 b h h').trans (a3 b h h')⟩, fun r hr => ⟨(b4 r hr).1.trans (a4 r hr).1, fun k hk => ((b4 r hr).2 k hk).trans ((a4 r hr).2 k hk)⟩⟩
theorem rfR.mo {m : Nat} {S S' : List Nat} {σ σ' : St} (h : rfR m S σ σ') (hs : ∀ r ∈ S, r ∈ S') : rfR m S' σ σ' := ⟨h.1, fun r hr => h.2 r fun q => hr (hs r q)⟩
theorem rfR.w1 {m r k : Nat} {S : List Nat} {σ : St} {v : Int32} (hr : r ∈ S) (hk : k < 1000) : rfR m S σ (wA σ (m + 1) (1000 * r + k) v) := by
  refine ⟨⟨rfE.wA (by omega), rfl, fun b h _ => sA_wA_b h⟩, fun q hq => ⟨by rw [sA_wA_b (by omega)], fun j hj => ?_⟩⟩
  have hne : q ≠ r := fun h => hq (h ▸ hr)
  exact sA_wA_j (by omega)
theorem rfR.w2 {m r : Nat} {S : List Nat} {σ : St} {v : Int32} (hr : r ∈ S) : rfR m S σ (wA σ (m + 2) r v) := by
  refine ⟨⟨rfE.wA (by omega), rfl, fun b _ h => sA_wA_b h⟩, fun q hq => ⟨?_, fun j hj => by rw [sA_wA_b (by omega)]⟩⟩
  have hne : q ≠ r := fun h => hq (h ▸ hr)
  exact sA_wA_j hne
theorem rfR.ms {m : Nat} {S : List Nat} {σ σ' : St} (h : rfR m S σ σ') (hm : MS σ m) : MS σ' m := h.1.1.keep hm
theorem Ru.keep {m r w x : Nat} {S : List Nat} {σ σ' : St} (h : Ru σ m r w x) (hR : rfR m S σ σ') (hr : r ∉ S) (hw : w ≤ 1000) : Ru σ' m r w x := by
  obtain ⟨h1, h2, h3⟩ := h
  have h4 := hR.2 r hr
  exact ⟨h4.1.trans h1, fun k hk => (h4.2 k (by omega)).trans (h2 k hk), h3⟩
theorem Rv.keep {m r x : Nat} {S : List Nat} {σ σ' : St} (h : Rv σ m r x) (hR : rfR m S σ σ') (hr : r ∉ S) : Rv σ' m r x := by
  obtain ⟨w, h1, h2, h3⟩ := h
  exact ⟨w, h1.keep hR hr (by omega), h2, h3⟩
theorem Rv.inj {m r x y : Nat} {σ : St} (h : Rv σ m r x) (h' : Rv σ m r y) : x = y := by
  obtain ⟨w, ⟨h1, h2, h3⟩, h4, h5⟩ := h
  obtain ⟨w', ⟨h1', h2', h3'⟩, h4', h5'⟩ := h'
  have hw : w = w' := sm_inj (by omega) (by omega) (h1.symm.trans h1')
  subst hw
  have key : ∀ k, k ≤ w → dq x (w - k) = dq y (w - k) := by
    intro k
    induction k with
    | zero => intro _; rw [Nat.sub_zero, tp_lt.mp h3, tp_lt.mp h3']
    | succ k ih =>
      intro hk
      have e1 := ih (by omega)
      have e2 := sm_inj (by omega) (by omega) ((h2 (w - (k + 1)) (by omega)).symm.trans (h2' (w - (k + 1)) (by omega)))
      rw [show w - k = w - (k + 1) + 1 by omega, tp_dv, tp_dv] at e1
      omega
  have := key w (Nat.le_refl _)
  simpa [dq_0] using this
/-- a register's number from its limbs -/
theorem Ru.trim {m r w x : Nat} {σ : St} (h : Ru σ m r (w + 1) x) (h0 : dq x w % 10000 = 0) : x < 10000 ^ w := by
  have h3 := tp_lt.mp h.2.2
  rw [tp_dv] at h3
  exact tp_lt.mpr (by omega)
/-! ===== puts ===== -/
theorem rf_puts_loop {m r v : Nat} (hr : r < 15) (hv : v < 2147483648) : ∀ (n : Nat) (σ : St) (w : Nat), MS σ m → dq v w < n → w ≤ 3 → sA σ (m + 2) r = nI w → (∀ k, k < w → sA σ (m + 1) (1000 * r + k) = nI (dq v k % 10000)) → (w = 0 ∨ 10000 ^ (w - 1) ≤ v) →
    ∃ σ', fX12_puts_9 n σ m (nI r) (nI (dq v w)) = some (σ', ()) ∧ rfR m [r] σ σ' ∧ Rv σ' m r v := by
  intro n
  induction n with
  | zero => intro σ w _ h; omega
  | succ n ih =>
    intro σ w hm hn hw h1 h2 h3
    have hyv := dq_le v w
    rw [fX12_puts_9]
    by_cases h0 : dq v w = 0
    · refine ⟨σ, ?_, rfR.rf, w, ⟨h1, h2, tp_lt.mpr h0⟩, by omega, h3⟩
      rw [h0]
      simp (disch := first | exact hm | ((repeat (first | apply MS_A | apply MS_I)) <;> exact hm) | omega) only [sm_bind, sm_cb, sm_nm, lits, sm_add, sm_mul, sm_le, sm_lt, sm_eq, sm_div, sm_sub, sA_wA_b, sA_wA_eq, Nat.zero_le, ↓reduceIte, rf_ck, Nat.le_refl]
    · have hw3 : w ≤ 2 := by
        apply Nat.le_of_not_lt
        intro h
        have h9 : w = 3 := by omega
        subst h9
        apply h0
        exact tp_lt.mp (by omega)
      have hc : ¬ dq v w ≤ 0 := by omega
      have hd := tp_dv v w
      obtain ⟨σ', e, hR, hV⟩ := ih (wA (wA σ (m + 1) (1000 * r + w) (nI (dq v w - dq v w / 10000 * 10000))) (m + 2) r (nI (w + 1))) (w + 1) hm (by omega) (by omega) sA_wA_eq (fun k hk => by
        rw [sA_wA_b (by omega)]
        by_cases hkw : k = w
        · subst hkw
          rw [sA_wA_eq]
          congr 1
          omega
        · rw [sA_wA_j (by omega)]
          exact h2 k (by omega)) (Or.inr (by rw [Nat.add_sub_cancel]; exact tp_ge.mpr (by omega)))
      rw [hd] at e
      refine ⟨σ', ?_, (rfR.w1 (k := w) List.mem_cons_self (by omega)).tr ((rfR.w2 List.mem_cons_self).tr hR), hV⟩
      simp (disch := first | exact hm | ((repeat (first | apply MS_A | apply MS_I)) <;> exact hm) | omega) only [sm_bind, sm_cb, sm_nm, lits, sm_add, sm_mul, sm_le, sm_lt, sm_eq, sm_div, sm_sub, sA_wA_b, sA_wA_eq, Nat.zero_le, ↓reduceIte, rf_ck, rf_big, ld_big, st_big, rf_wide, ld_wide, st_wide, h1, hc, e]
theorem rf_puts {m r v : Nat} {σ : St} (hm : MS σ m) (hr : r < 15) (hv : v < 2147483648) : ∃ σ', fX12_puts σ m (nI r) (nI v) = some (σ', ()) ∧ rfR m [r] σ σ' ∧ Rv σ' m r v := by
  obtain ⟨σ', e, hR, hV⟩ := rf_puts_loop hr hv FU (wA σ (m + 2) r (nI 0)) 0 hm (by rw [dq_0]; unfold FU; omega) (by omega) sA_wA_eq (fun k hk => by omega) (Or.inl rfl)
  rw [dq_0] at e
  refine ⟨σ', ?_, (rfR.w2 List.mem_cons_self).tr hR, hV⟩
  unfold fX12_puts
  simp (disch := first | exact hm | ((repeat (first | apply MS_A | apply MS_I)) <;> exact hm) | omega) only [sm_bind, sm_cb, sm_nm, lits, sm_add, sm_mul, sm_le, sm_lt, sm_eq, sm_div, sm_sub, sA_wA_b, sA_wA_eq, Nat.zero_le, ↓reduceIte, rf_ck, rf_wide, ld_wide, st_wide, e]
/-! ===== trims ===== -/
theorem rf_trims_loop {m r x : Nat} (hr : r < 15) : ∀ (n : Nat) (σ : St) (w : Nat), MS σ m → w < n → w ≤ 990 → Ru σ m r w x → ∃ σ', fX12_trims_0 n σ m (nI r) = some (σ', ()) ∧ rfR m [r] σ σ' ∧ Rv σ' m r x := by
  intro n
  induction n with
  | zero => intro σ w _ h; omega
  | succ n ih =>
    intro σ w hm hn hw h
    obtain ⟨h1, h2, h3⟩ := id h
    rw [fX12_trims_0]
    cases w with
    | zero =>
      refine ⟨σ, ?_, rfR.rf, 0, h, by omega, Or.inl rfl⟩
      simp (disch := first | exact hm | ((repeat (first | apply MS_A | apply MS_I)) <;> exact hm) | omega) only [sm_bind, sm_cb, sm_nm, lits, sm_add, sm_mul, sm_le, sm_lt, sm_eq, sm_div, sm_sub, sA_wA_b, sA_wA_eq, Nat.zero_le, ↓reduceIte, rf_ck, rf_wide, ld_wide, st_wide, h1, Nat.le_refl]
    | succ w =>
      have hc : ¬ w + 1 ≤ 0 := by omega
      have h4 := h2 w (by omega)
      have e1 : 1000 * r + (w + 1) - 1 = 1000 * r + w := by omega
      by_cases h0 : dq x w % 10000 = 0
      · obtain ⟨σ', e, hR, hV⟩ := ih (wA σ (m + 2) r (nI w)) w hm (by omega) (by omega) ⟨sA_wA_eq, fun k hk => by rw [sA_wA_b (by omega)]; exact h2 k (by omega), h.trim h0⟩
        refine ⟨σ', ?_, (rfR.w2 List.mem_cons_self).tr hR, hV⟩
        simp (disch := first | exact hm | ((repeat (first | apply MS_A | apply MS_I)) <;> exact hm) | omega) only [sm_bind, sm_cb, sm_nm, lits, sm_add, sm_mul, sm_le, sm_lt, sm_eq, sm_div, sm_sub, sA_wA_b, sA_wA_eq, Nat.zero_le, ↓reduceIte, rf_ck, rf_big, ld_big, st_big, rf_wide, ld_wide, st_wide, h1, hc, e1, h4, h0, Nat.add_sub_cancel, e]
      · refine ⟨σ, ?_, rfR.rf, w + 1, h, by omega, Or.inr ?_⟩
        · simp (disch := first | exact hm | ((repeat (first | apply MS_A | apply MS_I)) <;> exact hm) | omega) only [sm_bind, sm_cb, sm_nm, lits, sm_add, sm_mul, sm_le, sm_lt, sm_eq, sm_div, sm_sub, sA_wA_b, sA_wA_eq, Nat.zero_le, ↓reduceIte, rf_ck, rf_big, ld_big, st_big, rf_wide, ld_wide, st_wide, h1, hc, e1, h4, h0]
        · rw [Nat.add_sub_cancel]
          exact tp_ge.mpr (by omega)
theorem rf_trims {m r w x : Nat} {σ : St} (hm : MS σ m) (hr : r < 15) (hw : w ≤ 990) (h : Ru σ m r w x) : ∃ σ', fX12_trims σ m (nI r) = some (σ', ()) ∧ rfR m [r] σ σ' ∧ Rv σ' m r x :=
  rf_trims_loop hr FU σ w hm (by unfold FU; omega) hw h
/-! ===== copies ===== -/
theorem rf_copies_loop {m t f w x : Nat} (ht : t < 15) (hf : f < 15) (hne : t ≠ f) (hw : w ≤ 990) : ∀ (n : Nat) (σ : St) (k : Nat), MS σ m → w - k < n → k ≤ w → Ru σ m f w x → sA σ (m + 2) t = nI w → (∀ j, j < k → sA σ (m + 1) (1000 * t + j) = nI (dq x j % 10000)) →
    ∃ σ', fX12_copies_14 n σ m (nI t) (nI f) (nI k) = some (σ', ()) ∧ rfR m [t] σ σ' ∧ Ru σ' m t w x := by
  intro n
  induction n with
  | zero => intro σ k _ h; omega
  | succ n ih =>
    intro σ k hm hn hk hU h1 h2
    obtain ⟨u1, u2, u3⟩ := id hU
    rw [fX12_copies_14]
    by_cases hc : w ≤ k
    · have hkw : k = w := by omega
      subst hkw
      refine ⟨σ, ?_, rfR.rf, h1, h2, u3⟩
      simp (disch := first | exact hm | ((repeat (first | apply MS_A | apply MS_I)) <;> exact hm) | omega) only [sm_bind, sm_cb, sm_nm, lits, sm_add, sm_mul, sm_le, sm_lt, sm_eq, sm_div, sm_sub, sA_wA_b, sA_wA_eq, Nat.zero_le, ↓reduceIte, rf_ck, rf_wide, ld_wide, st_wide, u1, hc]
    · have h4 := u2 k (by omega)
      have hst : rfR m [t] σ (wA σ (m + 1) (1000 * t + k) (nI (dq x k % 10000))) := rfR.w1 List.mem_cons_self (by omega)
      obtain ⟨σ', e, hR, hV⟩ := ih (wA σ (m + 1) (1000 * t + k) (nI (dq x k % 10000))) (k + 1) hm (by omega) (by omega) (hU.keep hst (by simp; omega) (by omega)) (by rw [sA_wA_b (by omega)]; exact h1) (fun j hj => by
        by_cases hjk : j = k
        · subst hjk; exact sA_wA_eq
        · rw [sA_wA_j (by omega)]; exact h2 j (by omega))
      refine ⟨σ', ?_, hst.tr hR, hV⟩
      simp (disch := first | exact hm | ((repeat (first | apply MS_A | apply MS_I)) <;> exact hm) | omega) only [sm_bind, sm_cb, sm_nm, lits, sm_add, sm_mul, sm_le, sm_lt, sm_eq, sm_div, sm_sub, sA_wA_b, sA_wA_eq, Nat.zero_le, ↓reduceIte, rf_ck, rf_big, ld_big, st_big, rf_wide, ld_wide, st_wide, u1, hc, h4, e]
theorem rf_copies {m t f x : Nat} {σ : St} (hm : MS σ m) (ht : t < 15) (hf : f < 15) (hne : t ≠ f) (h : Rv σ m f x) : ∃ σ', fX12_copies σ m (nI t) (nI f) = some (σ', ()) ∧ rfR m [t] σ σ' ∧ Rv σ' m t x := by
  obtain ⟨w, hU, hw, hmin⟩ := h
  have hst : rfR m [t] σ (wA σ (m + 2) t (nI w)) := rfR.w2 List.mem_cons_self
  obtain ⟨σ', e, hR, hV⟩ := rf_copies_loop (x := x) ht hf hne hw FU (wA σ (m + 2) t (nI w)) 0 hm (by unfold FU; omega) (by omega) (hU.keep hst (by simp; omega) (by omega)) sA_wA_eq (fun j hj => by omega)
  refine ⟨σ', ?_, hst.tr hR, w, hV, hw, hmin⟩
  have h1 := hU.1
  unfold fX12_copies
  simp (disch := first | exact hm | ((repeat (first | apply MS_A | apply MS_I)) <;> exact hm) | omega) only [sm_bind, sm_cb, sm_nm, lits, sm_add, sm_mul, sm_le, sm_lt, sm_eq, sm_div, sm_sub, sA_wA_b, sA_wA_eq, Nat.zero_le, ↓reduceIte, rf_ck, rf_wide, ld_wide, st_wide, h1, e]
/-! ===== limb ===== -/
theorem rf_limb {m r k x : Nat} {σ : St} (hm : MS σ m) (hr : r < 15) (hk : k < 2000) (h : Rv σ m r x) : fX12_limb σ m (nI r) (nI k) = some (σ, nI (dq x k % 10000)) := by
  obtain ⟨w, ⟨h1, h2, h3⟩, hw, -⟩ := h
  unfold fX12_limb
  by_cases hc : w ≤ k
  · have h0 : dq x k = 0 := tp_lt.mp (Nat.lt_of_lt_of_le h3 (tp_mono hc))
    simp (disch := first | exact hm | ((repeat (first | apply MS_A | apply MS_I)) <;> exact hm) | omega) only [sm_bind, sm_cb, sm_nm, lits, sm_add, sm_mul, sm_le, sm_lt, sm_eq, sm_div, sm_sub, sA_wA_b, sA_wA_eq, Nat.zero_le, ↓reduceIte, rf_ck, rf_wide, ld_wide, st_wide, h1, hc, h0, Nat.zero_mod]
  · have h4 := h2 k (by omega)
    simp (disch := first | exact hm | ((repeat (first | apply MS_A | apply MS_I)) <;> exact hm) | omega) only [sm_bind, sm_cb, sm_nm, lits, sm_add, sm_mul, sm_le, sm_lt, sm_eq, sm_div, sm_sub, sA_wA_b, sA_wA_eq, Nat.zero_le, ↓reduceIte, rf_ck, rf_wide, ld_wide, st_wide, rf_big, ld_big, st_big, h1, hc, h4]
/-! ===== compares ===== -/
def cmp3 (x y : Nat) : Int := if x < y then -1 else if x = y then 0 else 1
theorem rf_compares_loop {m a b w x y : Nat} {σ : St} (hm : MS σ m) (ha : a < 15) (hb : b < 15) (hw : w ≤ 990) (hA : Ru σ m a w x) (hB : Ru σ m b w y) : ∀ (n k : Nat), k < n → k ≤ w → dq x k = dq y k →
    fX12_compares_45 n σ m (nI a) (nI b) (iz ((k : Int) - 1)) = some (σ, iz (cmp3 x y)) := by
  intro n
  induction n with
  | zero => intro k h; omega
  | succ n ih =>
    intro k hn hk he
    rw [fX12_compares_45]
    cases k with
    | zero =>
      rw [dq_0, dq_0] at he
      subst he
      have hc : (iz (((0 : Nat) : Int) - 1) < (0 : Int32)) := by decide
      rw [if_pos hc]
      unfold cmp3
      rw [if_neg (by omega), if_pos rfl]
      rfl
    | succ k =>
      have e0 : iz (((k + 1 : Nat) : Int) - 1) = nI k := by rw [sm_iz]; congr 1; omega
      rw [e0]
      have hc : ¬ k < 0 := by omega
      have h1 := hA.2.1 k (by omega)
      have h2 := hB.2.1 k (by omega)
      have hx := tp_dv x k
      have hy := tp_dv y k
      have em : nI k + -nI 1 = iz ((k : Int) - 1) := by rw [sm_iz, sm_iz, iz_neg, iz_add]; rfl
      by_cases heq : dq x k % 10000 = dq y k % 10000
      · have hi := ih k (by omega) (by omega) (by omega)
        simp (disch := first | exact hm | ((repeat (first | apply MS_A | apply MS_I)) <;> exact hm) | omega) only [sm_bind, sm_cb, sm_nm, lits, sm_add, sm_mul, sm_le, sm_lt, sm_eq, sm_div, sm_sub, sA_wA_b, sA_wA_eq, Nat.zero_le, ↓reduceIte, rf_ck, rf_big, ld_big, st_big, hc, h1, h2, heq, em, hi]
      · by_cases hlt : dq y k % 10000 ≤ dq x k % 10000
        · have hyx : y < x := by
            apply Nat.lt_of_not_le
            intro h
            have := dq_mono k h
            omega
          have ec : cmp3 x y = 1 := by unfold cmp3; rw [if_neg (by omega), if_neg (by omega)]
          have e1 : iz 1 = nI 1 := rfl
          simp (disch := first | exact hm | ((repeat (first | apply MS_A | apply MS_I)) <;> exact hm) | omega) only [sm_bind, sm_cb, sm_nm, lits, sm_add, sm_mul, sm_le, sm_lt, sm_eq, sm_div, sm_sub, sA_wA_b, sA_wA_eq, Nat.zero_le, ↓reduceIte, rf_ck, rf_big, ld_big, st_big, hc, h1, h2, heq, hlt, ec, e1]
        · have hyx : x < y := by
            apply Nat.lt_of_not_le
            intro h
            have := dq_mono k h
            omega
          have ec : cmp3 x y = -1 := by unfold cmp3; rw [if_pos hyx]
          have e1 : -nI 1 = iz (-1) := rfl
          simp (disch := first | exact hm | ((repeat (first | apply MS_A | apply MS_I)) <;> exact hm) | omega) only [sm_bind, sm_cb, sm_nm, lits, sm_add, sm_mul, sm_le, sm_lt, sm_eq, sm_div, sm_sub, sA_wA_b, sA_wA_eq, Nat.zero_le, ↓reduceIte, rf_ck, rf_big, ld_big, st_big, hc, h1, h2, heq, hlt, ec, e1]
theorem rf_compares {m a b x y : Nat} {σ : St} (hm : MS σ m) (ha : a < 15) (hb : b < 15) (hA : Rv σ m a x) (hB : Rv σ m b y) : fX12_compares σ m (nI a) (nI b) = some (σ, iz (cmp3 x y)) := by
  obtain ⟨w, hU, hw, hm1⟩ := hA
  obtain ⟨v, hV, hv, hm2⟩ := hB
  have u1 := hU.1
  have v1 := hV.1
  unfold fX12_compares
  by_cases hwv : w = v
  · subst hwv
    have h1 := rf_compares_loop hm ha hb hw hU hV FU w (by unfold FU; omega) (Nat.le_refl _) (by rw [tp_lt.mp hU.2.2, tp_lt.mp hV.2.2])
    have em : nI w - 1 = iz ((w : Int) - 1) := by rw [sm_iz]; show iz (w : Int) - iz 1 = _; rw [iz_sub]
    simp (disch := first | exact hm | ((repeat (first | apply MS_A | apply MS_I)) <;> exact hm) | omega) only [sm_bind, sm_cb, sm_nm, lits, sm_add, sm_mul, sm_le, sm_lt, sm_eq, sm_div, sm_sub, sA_wA_b, sA_wA_eq, Nat.zero_le, ↓reduceIte, rf_ck, rf_wide, ld_wide, st_wide, u1, v1]
    rw [show (nI w - nI 1 : Int32) = iz ((w : Int) - 1) from em]
    exact h1
  · by_cases hlt : v ≤ w
    · have hyx : y < x := by
        rcases hm1 with h | h
        · omega
        · have := tp_mono (a := v) (b := w - 1) (by omega)
          have := hV.2.2
          omega
      have ec : cmp3 x y = 1 := by unfold cmp3; rw [if_neg (by omega), if_neg (by omega)]
      have e1 : iz 1 = nI 1 := rfl
      simp (disch := first | exact hm | ((repeat (first | apply MS_A | apply MS_I)) <;> exact hm) | omega) only [sm_bind, sm_cb, sm_nm, lits, sm_add, sm_mul, sm_le, sm_lt, sm_eq, sm_div, sm_sub, sA_wA_b, sA_wA_eq, Nat.zero_le, ↓reduceIte, rf_ck, rf_wide, ld_wide, st_wide, u1, v1, hwv, hlt, ec, e1]
    · have hyx : x < y := by
        rcases hm2 with h | h
        · omega
        · have := tp_mono (a := w) (b := v - 1) (by omega)
          have := hU.2.2
          omega
      have ec : cmp3 x y = -1 := by unfold cmp3; rw [if_pos hyx]
      have e1 : -nI 1 = iz (-1) := rfl
      simp (disch := first | exact hm | ((repeat (first | apply MS_A | apply MS_I)) <;> exact hm) | omega) only [sm_bind, sm_cb, sm_nm, lits, sm_add, sm_mul, sm_le, sm_lt, sm_eq, sm_div, sm_sub, sA_wA_b, sA_wA_eq, Nat.zero_le, ↓reduceIte, rf_ck, rf_wide, ld_wide, st_wide, u1, v1, hwv, hlt, ec, e1]
