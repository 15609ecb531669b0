/-! ===== the reference: sums, differences, products by one limb, shares by one limb ===== -/
theorem rf_adds_loop {m t b p x y w v : Nat} (ht : t < 15) (hb : b < 15) (hne : t ≠ b) (hw : w ≤ 980) (hv : v ≤ 980) (hp : p = if v ≤ w then w else v) (hyv : y < 10000 ^ v) (hxw : x < 10000 ^ w) : ∀ (n : Nat) (σ : St) (k : Nat), MS σ m → p + 1 - k < n → k ≤ p + 1 → Rv σ m b y →
    sA σ (m + 2) t = nI (if k ≤ w then w else k) → (∀ j, j < k → sA σ (m + 1) (1000 * t + j) = nI (dq (x + y) j % 10000)) → (∀ j, k ≤ j → j < w → sA σ (m + 1) (1000 * t + j) = nI (dq x j % 10000)) →
    ∃ σ', fX12_adds_37 n σ m (nI t) (nI b) (nI p) (nI (dq (x + y) k - dq x k - dq y k)) (nI k) = some (σ', ()) ∧ rfR m [t] σ σ' ∧ Rv σ' m t (x + y) := by
  intro n
  induction n with
  | zero => intro σ k _ h; omega
  | succ n ih =>
    intro σ k hm hn hk hB h1 h2 h3
    rw [fX12_adds_37]
    have hpw : p ≤ 980 := by rw [hp]; split <;> omega
    have hwp : w ≤ p ∧ v ≤ p := by rw [hp]; split <;> omega
    by_cases hc : p < k
    · have hkp : k = p + 1 := by omega
      subst hkp
      have hs : x + y < 10000 ^ (p + 1) := by
        have e1 := tp_mono hwp.1
        have e2 := tp_mono hwp.2
        rw [Nat.pow_succ]
        omega
      obtain ⟨σ', e, hR, hV⟩ := rf_trims (x := x + y) (w := p + 1) hm ht (by omega) ⟨by rw [h1, if_neg (by omega)], h2, hs⟩
      refine ⟨σ', ?_, hR, hV⟩
      simp (disch := first | exact hm | ((repeat (first | apply MS_A | apply MS_I)) <;> exact hm) | omega) only [sm_bind, sm_cb, sm_nm, lits, sm_add, sm_mul, sm_le, sm_lt, sm_eq, sm_div, sm_sub, sA_wA_b, sA_wA_eq, Nat.zero_le, ↓reduceIte, rf_ck, hc, e]
    · have e1 : sA σ (m + 2) t = nI (if k ≤ w then w else k) := h1
      -- the limb of t at k
      have hl : fX12_limb σ m (nI t) (nI k) = some (σ, nI (dq x k % 10000)) := by
        unfold fX12_limb
        by_cases hkw : k < w
        · have q1 : sA σ (m + 2) t = nI w := by rw [h1, if_pos (by omega)]
          have q2 : ¬ w ≤ k := by omega
          have q3 := h3 k (Nat.le_refl _) hkw
          simp (disch := first | exact hm | ((repeat (first | apply MS_A | apply MS_I)) <;> exact hm) | omega) only [sm_bind, sm_cb, sm_nm, lits, sm_add, sm_mul, sm_le, sm_lt, sm_eq, sm_div, sm_sub, sA_wA_b, sA_wA_eq, Nat.zero_le, ↓reduceIte, rf_ck, rf_wide, ld_wide, st_wide, rf_big, ld_big, st_big, q1, q2, q3]
        · have h0 : dq x k = 0 := tp_lt.mp (Nat.lt_of_lt_of_le hxw (tp_mono (by omega)))
          have q1 : sA σ (m + 2) t = nI k := by
            rw [h1]
            split
            · congr 1; omega
            · rfl
          have q2 : k ≤ k := Nat.le_refl _
          simp (disch := first | exact hm | ((repeat (first | apply MS_A | apply MS_I)) <;> exact hm) | omega) only [sm_bind, sm_cb, sm_nm, lits, sm_add, sm_mul, sm_le, sm_lt, sm_eq, sm_div, sm_sub, sA_wA_b, sA_wA_eq, Nat.zero_le, ↓reduceIte, rf_ck, rf_wide, ld_wide, st_wide, rf_big, ld_big, st_big, q1, q2, h0, Nat.zero_mod]
      have hl2 := rf_limb (k := k) hm hb (by omega) hB
      have dx := tp_dv x k
      have dy := tp_dv y k
      have ds := tp_dv (x + y) k
      have hle := dq_add_le x y k
      have hlt := dq_add_lt x y k
      generalize hX : dq x k = X at *
      generalize hY : dq y k = Y at *
      generalize hS : dq (x + y) k = S at *
      have ed : (X % 10000 + Y % 10000 + (S - X - Y)) - (S / 10000 - X / 10000 - Y / 10000) * 10000 = S % 10000 := by omega
      have eo : (X % 10000 + Y % 10000 + (S - X - Y)) / 10000 = S / 10000 - X / 10000 - Y / 10000 := by omega
      have hst : rfR m [t] σ (wA σ (m + 1) (1000 * t + k) (nI (S % 10000))) := rfR.w1 List.mem_cons_self (by omega)
      have hd : ∀ (σ1 : St), (∀ j, sA σ1 (m + 1) j = sA (wA σ (m + 1) (1000 * t + k) (nI (S % 10000))) (m + 1) j) → (∀ j, j < k + 1 → sA σ1 (m + 1) (1000 * t + j) = nI (dq (x + y) j % 10000)) ∧ (∀ j, k + 1 ≤ j → j < w → sA σ1 (m + 1) (1000 * t + j) = nI (dq x j % 10000)) := by
        intro σ1 hq
        refine ⟨fun j hj => ?_, fun j hj hj2 => ?_⟩
        · rw [hq]
          by_cases hjk : j = k
          · subst hjk; rw [sA_wA_eq, hS]
          · rw [sA_wA_j (by omega)]; exact h2 j (by omega)
        · rw [hq, sA_wA_j (by omega)]
          exact h3 j (by omega) hj2
      by_cases hkw : k < w
      · have q1 : sA σ (m + 2) t = nI w := by rw [h1, if_pos (by omega)]
        obtain ⟨d1, d2⟩ := hd _ (fun _ => rfl)
        obtain ⟨σ', e, hR, hV⟩ := ih (wA σ (m + 1) (1000 * t + k) (nI (S % 10000))) (k + 1) hm (by omega) (by omega) (hB.keep hst (by simp; omega)) (by rw [sA_wA_b (by omega), q1, if_pos (by omega)]) d1 d2
        rw [dx, dy, ds] at e
        refine ⟨σ', ?_, hst.tr hR, hV⟩
        simp (disch := first | exact hm | ((repeat (first | apply MS_A | apply MS_I)) <;> exact hm) | omega) only [sm_bind, sm_cb, sm_nm, lits, sm_add, sm_mul, sm_le, sm_lt, sm_eq, sm_div, sm_sub, sA_wA_b, sA_wA_eq, Nat.zero_le, ↓reduceIte, rf_ck, rf_big, ld_big, st_big, rf_wide, ld_wide, st_wide, hc, hl, hl2, ed, eo, q1, hkw, fX12_adds_111, e]
      · have q1 : sA σ (m + 2) t = nI k := by
          rw [h1]
          split
          · congr 1; omega
          · rfl
        have q2 : ¬ k < k := by omega
        have hst2 : rfR m [t] (wA σ (m + 1) (1000 * t + k) (nI (S % 10000))) (wA (wA σ (m + 1) (1000 * t + k) (nI (S % 10000))) (m + 2) t (nI (k + 1))) := rfR.w2 List.mem_cons_self
        obtain ⟨d1, d2⟩ := hd (wA (wA σ (m + 1) (1000 * t + k) (nI (S % 10000))) (m + 2) t (nI (k + 1))) (fun j => by rw [sA_wA_b (by omega)])
        obtain ⟨σ', e, hR, hV⟩ := ih (wA (wA σ (m + 1) (1000 * t + k) (nI (S % 10000))) (m + 2) t (nI (k + 1))) (k + 1) hm (by omega) (by omega) ((hB.keep hst (by simp; omega)).keep hst2 (by simp; omega)) (by rw [sA_wA_eq, if_neg (by omega)]) d1 d2
        rw [dx, dy, ds] at e
        refine ⟨σ', ?_, hst.tr (hst2.tr hR), hV⟩
        simp (disch := first | exact hm | ((repeat (first | apply MS_A | apply MS_I)) <;> exact hm) | omega) only [sm_bind, sm_cb, sm_nm, lits, sm_add, sm_mul, sm_le, sm_lt, sm_eq, sm_div, sm_sub, sA_wA_b, sA_wA_eq, Nat.zero_le, ↓reduceIte, rf_ck, rf_big, ld_big, st_big, rf_wide, ld_wide, st_wide, hc, hl, hl2, ed, eo, q1, q2, fX12_adds_111, e]
theorem rf_adds {m t b x y u : Nat} {σ : St} (hm : MS σ m) (ht : t < 15) (hb : b < 15) (hne : t ≠ b) (hu : u ≤ 980) (hx : x < 10000 ^ u) (hy : y < 10000 ^ u) (hA : Rv σ m t x) (hB : Rv σ m b y) :
    ∃ σ', fX12_adds σ m (nI t) (nI b) = some (σ', ()) ∧ rfR m [t] σ σ' ∧ Rv σ' m t (x + y) := by
  obtain ⟨w, ⟨u1, u2, u3⟩, hw, hm1⟩ := id hA
  obtain ⟨v, ⟨v1, v2, v3⟩, hv, hm2⟩ := id hB
  have hw9 := wid_le hm1 hx
  have hv9 := wid_le hm2 hy
  obtain ⟨σ', e, hR, hV⟩ := rf_adds_loop (p := if v ≤ w then w else v) ht hb hne (by omega) (by omega) rfl v3 u3 FU σ 0 hm (by split <;> (unfold FU; omega)) (by omega) hB (by rw [u1, if_pos (by omega)]) (fun j hj => by omega) (fun j _ hj => u2 j hj)
  rw [dq_0, dq_0, dq_0, show x + y - x - y = 0 by omega] at e
  refine ⟨σ', ?_, hR, hV⟩
  unfold fX12_adds
  by_cases hc : w ≤ v
  · have e1 : (if v ≤ w then w else v) = v := by split <;> omega
    rw [e1] at e
    simp (disch := first | exact hm | ((repeat (first | apply MS_A | apply MS_I)) <;> exact hm) | omega) only [sm_bind, sm_cb, sm_nm, lits, sm_add, sm_mul, sm_le, sm_lt, sm_eq, sm_div, sm_sub, sA_wA_b, sA_wA_eq, Nat.zero_le, ↓reduceIte, rf_ck, rf_wide, ld_wide, st_wide, u1, v1, hc, fX12_adds_30, e]
  · rw [if_pos (by omega)] at e
    simp (disch := first | exact hm | ((repeat (first | apply MS_A | apply MS_I)) <;> exact hm) | omega) only [sm_bind, sm_cb, sm_nm, lits, sm_add, sm_mul, sm_le, sm_lt, sm_eq, sm_div, sm_sub, sA_wA_b, sA_wA_eq, Nat.zero_le, ↓reduceIte, rf_ck, rf_wide, ld_wide, st_wide, u1, v1, hc, fX12_adds_30, e]
theorem rf_takes_loop {m t b x y w : Nat} (ht : t < 15) (hb : b < 15) (hne : t ≠ b) (hw : w ≤ 990) (hyx : y ≤ x) (hxw : x < 10000 ^ w) : ∀ (n : Nat) (σ : St) (k : Nat), MS σ m → w - k < n → k ≤ w → Rv σ m b y →
    sA σ (m + 2) t = nI w → (∀ j, j < k → sA σ (m + 1) (1000 * t + j) = nI (dq (x - y) j % 10000)) → (∀ j, k ≤ j → j < w → sA σ (m + 1) (1000 * t + j) = nI (dq x j % 10000)) →
    ∃ σ', fX12_takesAway_5 n σ m (nI t) (nI b) (nI (dq x k - dq (x - y) k - dq y k)) (nI k) = some (σ', ()) ∧ rfR m [t] σ σ' ∧ Rv σ' m t (x - y) := by
  intro n
  induction n with
  | zero => intro σ k _ h; omega
  | succ n ih =>
    intro σ k hm hn hk hB h1 h2 h3
    rw [fX12_takesAway_5]
    by_cases hc : w ≤ k
    · have hkp : k = w := by omega
      subst hkp
      obtain ⟨σ', e, hR, hV⟩ := rf_trims (x := x - y) (w := k) hm ht hw ⟨h1, h2, by omega⟩
      refine ⟨σ', ?_, hR, hV⟩
      simp (disch := first | exact hm | ((repeat (first | apply MS_A | apply MS_I)) <;> exact hm) | omega) only [sm_bind, sm_cb, sm_nm, lits, sm_add, sm_mul, sm_le, sm_lt, sm_eq, sm_div, sm_sub, sA_wA_b, sA_wA_eq, Nat.zero_le, ↓reduceIte, rf_ck, rf_wide, ld_wide, st_wide, h1, hc, e]
    · have hl2 := rf_limb (k := k) hm hb (by omega) hB
      have q3 := h3 k (Nat.le_refl _) (by omega)
      have dx := tp_dv x k
      have dy := tp_dv y k
      have ds := tp_dv (x - y) k
      have hle := dq_add_le (x - y) y k
      have hlt := dq_add_lt (x - y) y k
      rw [Nat.sub_add_cancel hyx] at hle hlt
      generalize hX : dq x k = X at *
      generalize hY : dq y k = Y at *
      generalize hS : dq (x - y) k = S at *
      have hst : rfR m [t] σ (wA σ (m + 1) (1000 * t + k) (nI (S % 10000))) := rfR.w1 List.mem_cons_self (by omega)
      have d1 : ∀ j, j < k + 1 → sA (wA σ (m + 1) (1000 * t + k) (nI (S % 10000))) (m + 1) (1000 * t + j) = nI (dq (x - y) j % 10000) := by
        intro j hj
        by_cases hjk : j = k
        · subst hjk; rw [sA_wA_eq, hS]
        · rw [sA_wA_j (by omega)]; exact h2 j (by omega)
      have d2 : ∀ j, k + 1 ≤ j → j < w → sA (wA σ (m + 1) (1000 * t + k) (nI (S % 10000))) (m + 1) (1000 * t + j) = nI (dq x j % 10000) := by
        intro j hj hj2
        rw [sA_wA_j (by omega)]
        exact h3 j (by omega) hj2
      obtain ⟨σ', e, hR, hV⟩ := ih (wA σ (m + 1) (1000 * t + k) (nI (S % 10000))) (k + 1) hm (by omega) (by omega) (hB.keep hst (by simp; omega)) (by rw [sA_wA_b (by omega), h1]) d1 d2
      rw [dx, dy, ds] at e
      refine ⟨σ', ?_, hst.tr hR, hV⟩
      have ed : nI (X % 10000) - nI (Y % 10000) - nI (X - S - Y) = iz (((X % 10000 : Nat) : Int) - ((Y % 10000 : Nat) : Int) - ((X - S - Y : Nat) : Int)) := by rw [sm_iz, sm_iz, sm_iz, iz_sub, iz_sub]
      by_cases hn9 : X % 10000 < Y % 10000 + (X - S - Y)
      · have eo : X / 10000 - S / 10000 - Y / 10000 = 1 := by omega
        rw [eo] at e
        have c9 : ¬ (nI 0 ≤ iz (((X % 10000 : Nat) : Int) - ((Y % 10000 : Nat) : Int) - ((X - S - Y : Nat) : Int))) := by
          rw [sm_iz, iz_le (by omega) (by omega) (by omega) (by omega)]
          omega
        have ev : iz (((X % 10000 : Nat) : Int) - ((Y % 10000 : Nat) : Int) - ((X - S - Y : Nat) : Int)) + nI 10000 = nI (S % 10000) := by
          rw [sm_iz, sm_iz, iz_add]
          congr 1
          omega
        simp (disch := first | exact hm | ((repeat (first | apply MS_A | apply MS_I)) <;> exact hm) | omega) only [sm_bind, sm_cb, sm_nm, lits, sm_add, sm_mul, sm_le, sm_lt, sm_eq, sm_div, sm_sub, sA_wA_b, sA_wA_eq, Nat.zero_le, ↓reduceIte, rf_ck, rf_big, ld_big, st_big, rf_wide, ld_wide, st_wide, h1, hc, hl2, q3]
        rw [ed, if_neg c9]
        unfold fX12_takesAway_51
        simp (disch := first | exact hm | ((repeat (first | apply MS_A | apply MS_I)) <;> exact hm) | omega) only [sm_bind, sm_cb, sm_nm, lits, sm_add, sm_mul, sm_le, sm_lt, sm_eq, sm_div, sm_sub, sA_wA_b, sA_wA_eq, Nat.zero_le, ↓reduceIte, rf_ck, rf_big, ld_big, st_big, rf_wide, ld_wide, st_wide, Nat.one_mul, ev, e]
      · have eo : X / 10000 - S / 10000 - Y / 10000 = 0 := by omega
        rw [eo] at e
        have ez : nI (X % 10000) - nI (Y % 10000) - nI (X - S - Y) = nI (S % 10000) := by
          rw [sm_sub (by omega), sm_sub (by omega)]
          congr 1
          omega
        have c9 : 0 ≤ S % 10000 := Nat.zero_le _
        simp (disch := first | exact hm | ((repeat (first | apply MS_A | apply MS_I)) <;> exact hm) | omega) only [sm_bind, sm_cb, sm_nm, lits, sm_add, sm_mul, sm_le, sm_lt, sm_eq, sm_div, sm_sub, sA_wA_b, sA_wA_eq, Nat.zero_le, ↓reduceIte, rf_ck, rf_big, ld_big, st_big, rf_wide, ld_wide, st_wide, h1, hc, hl2, q3]
        rw [show nI (X % 10000 - Y % 10000 - (X - S - Y)) = nI (S % 10000) by congr 1; omega]
        unfold fX12_takesAway_51
        simp (disch := first | exact hm | ((repeat (first | apply MS_A | apply MS_I)) <;> exact hm) | omega) only [sm_bind, sm_cb, sm_nm, lits, sm_add, sm_mul, sm_le, sm_lt, sm_eq, sm_div, sm_sub, sA_wA_b, sA_wA_eq, Nat.zero_le, ↓reduceIte, rf_ck, rf_big, ld_big, st_big, rf_wide, ld_wide, st_wide, c9, Nat.zero_mul, Nat.add_zero, e]
theorem rf_takesAway {m t b x y : Nat} {σ : St} (hm : MS σ m) (ht : t < 15) (hb : b < 15) (hne : t ≠ b) (hyx : y ≤ x) (hA : Rv σ m t x) (hB : Rv σ m b y) :
    ∃ σ', fX12_takesAway σ m (nI t) (nI b) = some (σ', ()) ∧ rfR m [t] σ σ' ∧ Rv σ' m t (x - y) := by
  obtain ⟨w, ⟨u1, u2, u3⟩, hw, hm1⟩ := id hA
  obtain ⟨σ', e, hR, hV⟩ := rf_takes_loop ht hb hne hw hyx u3 FU σ 0 hm (by unfold FU; omega) (by omega) hB u1 (fun j hj => by omega) (fun j _ hj => u2 j hj)
  rw [dq_0, dq_0, dq_0, show x - (x - y) - y = 0 by omega] at e
  exact ⟨σ', e, hR, hV⟩
/-! ===== times one limb ===== -/
theorem rf_times_loop {m t c x w : Nat} (ht : t < 15) (hc0 : c ≤ 10000) (hw : w ≤ 980) (hxw : x < 10000 ^ w) : ∀ (n : Nat) (σ : St) (k : Nat), MS σ m → w - k < n → k ≤ w →
    sA σ (m + 2) t = nI w → (∀ j, j < k → sA σ (m + 1) (1000 * t + j) = nI (dq (x * c) j % 10000)) → (∀ j, k ≤ j → j < w → sA σ (m + 1) (1000 * t + j) = nI (dq x j % 10000)) →
    ∃ σ', fX12_times_5 n σ m (nI t) (nI c) (nI (dq (x * c) k - dq x k * c)) (nI k) = some (σ', ()) ∧ rfR m [t] σ σ' ∧ Rv σ' m t (x * c) := by
  intro n
  induction n with
  | zero => intro σ k _ h; omega
  | succ n ih =>
    intro σ k hm hn hk h1 h2 h3
    rw [fX12_times_5]
    have hz := tp_pos k
    have hov := dq_mul_lt x c k
    have hle := dq_mul_le x c k
    by_cases hc : w ≤ k
    · have hkp : k = w := by omega
      subst hkp
      have h0 := tp_lt.mp hxw
      rw [h0, Nat.zero_mul] at hov hle ⊢
      rw [Nat.sub_zero]
      by_cases ho : dq (x * c) k = 0
      · obtain ⟨σ', e, hR, hV⟩ := rf_trims (x := x * c) (w := k) hm ht (by omega) ⟨h1, h2, tp_lt.mpr ho⟩
        refine ⟨σ', ?_, hR, hV⟩
        rw [ho]
        simp (disch := first | exact hm | ((repeat (first | apply MS_A | apply MS_I)) <;> exact hm) | omega) only [sm_bind, sm_cb, sm_nm, lits, sm_add, sm_mul, sm_le, sm_lt, sm_eq, sm_div, sm_sub, sA_wA_b, sA_wA_eq, Nat.zero_le, ↓reduceIte, rf_ck, rf_wide, ld_wide, st_wide, h1, hc, Nat.le_refl, fX12_times_99, e]
      · have hn0 : ¬ dq (x * c) k ≤ 0 := by omega
        have hst : rfR m [t] σ (wA σ (m + 1) (1000 * t + k) (nI (dq (x * c) k))) := rfR.w1 List.mem_cons_self (by omega)
        have hst2 : rfR m [t] (wA σ (m + 1) (1000 * t + k) (nI (dq (x * c) k))) (wA (wA σ (m + 1) (1000 * t + k) (nI (dq (x * c) k))) (m + 2) t (nI (k + 1))) := rfR.w2 List.mem_cons_self
        have hlt : x * c < 10000 ^ (k + 1) := by
          rw [Nat.pow_succ]
          have : x * c < 10000 ^ k * 10000 := by
            rcases Nat.eq_zero_or_pos c with h9 | h9
            · subst h9; rw [Nat.mul_zero]; exact Nat.mul_pos hz (by omega)
            · exact Nat.lt_of_lt_of_le (Nat.mul_lt_mul_of_pos_right hxw h9) (Nat.mul_le_mul_left _ hc0)
          exact this
        have hm10 : dq (x * c) k < 10000 := by
          have h9 := tp_lt.mp hlt
          rw [tp_dv] at h9
          omega
        obtain ⟨σ', e, hR, hV⟩ := rf_trims (x := x * c) (w := k + 1) (σ := wA (wA σ (m + 1) (1000 * t + k) (nI (dq (x * c) k))) (m + 2) t (nI (k + 1))) hm ht (by omega) ⟨sA_wA_eq, fun j hj => by
          rw [sA_wA_b (by omega)]
          by_cases hjk : j = k
          · subst hjk; rw [sA_wA_eq, Nat.mod_eq_of_lt hm10]
          · rw [sA_wA_j (by omega)]; exact h2 j (by omega), hlt⟩
        refine ⟨σ', ?_, hst.tr (hst2.tr hR), hV⟩
        simp (disch := first | exact hm | ((repeat (first | apply MS_A | apply MS_I)) <;> exact hm) | omega) only [sm_bind, sm_cb, sm_nm, lits, sm_add, sm_mul, sm_le, sm_lt, sm_eq, sm_div, sm_sub, sA_wA_b, sA_wA_eq, Nat.zero_le, ↓reduceIte, rf_ck, rf_wide, ld_wide, st_wide, rf_big, ld_big, st_big, h1, hc, hn0, fX12_times_99, e]
    · have q3 := h3 k (Nat.le_refl _) (by omega)
      have dx := tp_dv x k
      have dp := tp_dv (x * c) k
      generalize hP : dq (x * c) k = Pk at *
      generalize hX : dq x k = X at *
      have hXd := Nat.div_add_mod X 10000
      have eX : X * c = 10000 * (X / 10000 * c) + X % 10000 * c := by
        conv => lhs; rw [← hXd, Nat.add_mul, Nat.mul_assoc]
      have hv : X % 10000 * c ≤ 9999 * 10000 := Nat.mul_le_mul (by omega) hc0
      have ed : (X % 10000 * c + (Pk - X * c)) - (Pk / 10000 - X / 10000 * c) * 10000 = Pk % 10000 := by omega
      have eo : (X % 10000 * c + (Pk - X * c)) / 10000 = Pk / 10000 - X / 10000 * c := by omega
      have hst : rfR m [t] σ (wA σ (m + 1) (1000 * t + k) (nI (Pk % 10000))) := rfR.w1 List.mem_cons_self (by omega)
      obtain ⟨σ', e, hR, hV⟩ := ih (wA σ (m + 1) (1000 * t + k) (nI (Pk % 10000))) (k + 1) hm (by omega) (by omega) (by rw [sA_wA_b (by omega), h1]) (fun j hj => by
          by_cases hjk : j = k
          · subst hjk; rw [sA_wA_eq, hP]
          · rw [sA_wA_j (by omega)]; exact h2 j (by omega)) (fun j hj hj2 => by
          rw [sA_wA_j (by omega)]
          exact h3 j (by omega) hj2)
      rw [dx, dp] at e
      refine ⟨σ', ?_, hst.tr hR, hV⟩
      simp (disch := first | exact hm | ((repeat (first | apply MS_A | apply MS_I)) <;> exact hm) | omega) only [sm_bind, sm_cb, sm_nm, lits, sm_add, sm_mul, sm_le, sm_lt, sm_eq, sm_div, sm_sub, sA_wA_b, sA_wA_eq, Nat.zero_le, ↓reduceIte, rf_ck, rf_wide, ld_wide, st_wide, rf_big, ld_big, st_big, h1, hc, q3, ed, eo, e]
theorem rf_times {m t c x u : Nat} {σ : St} (hm : MS σ m) (ht : t < 15) (hc : c ≤ 10000) (hu : u ≤ 980) (hx : x < 10000 ^ u) (hA : Rv σ m t x) : ∃ σ', fX12_times σ m (nI t) (nI c) = some (σ', ()) ∧ rfR m [t] σ σ' ∧ Rv σ' m t (x * c) := by
  obtain ⟨w, ⟨u1, u2, u3⟩, hw, hm1⟩ := id hA
  obtain ⟨σ', e, hR, hV⟩ := rf_times_loop ht hc (by have := wid_le hm1 hx; omega) u3 FU σ 0 hm (by unfold FU; omega) (by omega) u1 (fun j hj => by omega) (fun j _ hj => u2 j hj)
  rw [dq_0, dq_0, Nat.sub_self] at e
  exact ⟨σ', e, hR, hV⟩
/-! ===== shortens ===== -/
theorem rf_shortens_loop {m t c x w : Nat} (ht : t < 15) (hc0 : 0 < c) (hc1 : c ≤ 10000) (hw : w ≤ 990) (hxw : x < 10000 ^ w) : ∀ (n : Nat) (σ : St) (k : Nat), MS σ m → k < n → k ≤ w →
    sA σ (m + 2) t = nI w → (∀ j, k ≤ j → j < w → sA σ (m + 1) (1000 * t + j) = nI (dq (x / c) j % 10000)) → (∀ j, j < k → sA σ (m + 1) (1000 * t + j) = nI (dq x j % 10000)) →
    ∃ σ', fX12_shortens_12 n σ m (nI t) (nI c) (nI (dq x k % c)) (iz ((k : Int) - 1)) = some (σ', nI (x % c)) ∧ rfR m [t] σ σ' ∧ Rv σ' m t (x / c) := by
  intro n
  induction n with
  | zero => intro σ k h; omega
  | succ n ih =>
    intro σ k hm hn hk h1 h2 h3
    rw [fX12_shortens_12]
    cases k with
    | zero =>
      have hlt : (iz (((0 : Nat) : Int) - 1) < (0 : Int32)) := by decide
      obtain ⟨σ', e, hR, hV⟩ := rf_trims (x := x / c) (w := w) hm ht hw ⟨h1, fun j hj => h2 j (by omega) hj, Nat.lt_of_le_of_lt (Nat.div_le_self x c) hxw⟩
      refine ⟨σ', ?_, hR, hV⟩
      rw [if_pos hlt, dq_0]
      simp (disch := first | exact hm | ((repeat (first | apply MS_A | apply MS_I)) <;> exact hm) | omega) only [sm_bind, sm_cb, sm_nm, lits, sm_add, sm_mul, sm_le, sm_lt, sm_eq, sm_div, sm_sub, sA_wA_b, sA_wA_eq, Nat.zero_le, ↓reduceIte, rf_ck, e]
    | succ k =>
      have e0 : iz (((k + 1 : Nat) : Int) - 1) = nI k := by rw [sm_iz]; congr 1; omega
      rw [e0]
      have hnk : ¬ k < 0 := by omega
      have em : nI k + -nI 1 = iz ((k : Int) - 1) := by rw [sm_iz, sm_iz, iz_neg, iz_add]; rfl
      have q3 := h3 k (by omega)
      have dx := tp_dv x k
      generalize hX : dq x k = X at *
      have hr : dq x (k + 1) % c = X / 10000 % c := by rw [dx]
      have hrc : X / 10000 % c < c := Nat.mod_lt _ hc0
      have hs : X / 10000 % c * 10000 + X % 10000 < c * 10000 := by
        have : (X / 10000 % c + 1) * 10000 ≤ c * 10000 := Nat.mul_le_mul_right _ hrc
        omega
      have hbd : X / 10000 % c * 10000 + X % 10000 < 2147483648 := by
        have : c * 10000 ≤ 10000 * 10000 := Nat.mul_le_mul_right _ hc1
        omega
      -- X = c * (10000 * Q) + s
      have hX2 : X = c * (10000 * (X / 10000 / c)) + (X / 10000 % c * 10000 + X % 10000) := by
        have e1 := Nat.div_add_mod X 10000
        have e2 := Nat.div_add_mod (X / 10000) c
        have e3 : 10000 * (c * (X / 10000 / c) + X / 10000 % c) = c * (10000 * (X / 10000 / c)) + 10000 * (X / 10000 % c) := by
          rw [Nat.mul_add, Nat.mul_left_comm]
        rw [e2] at e3
        omega
      have hQ : X / c = 10000 * (X / 10000 / c) + (X / 10000 % c * 10000 + X % 10000) / c := by
        conv => lhs; rw [hX2]
        rw [Nat.mul_add_div hc0]
      have hM : X % c = (X / 10000 % c * 10000 + X % 10000) % c := by
        conv => lhs; rw [hX2]
        rw [Nat.mul_add_mod]
      have hq10 : (X / 10000 % c * 10000 + X % 10000) / c < 10000 := by
        rw [Nat.div_lt_iff_lt_mul hc0, Nat.mul_comm 10000]
        exact hs
      have hdig : dq (x / c) k % 10000 = (X / 10000 % c * 10000 + X % 10000) / c := by
        rw [dq_div, hX, hQ, Nat.mul_add_mod, Nat.mod_eq_of_lt hq10]
      have hst : rfR m [t] σ (wA σ (m + 1) (1000 * t + k) (nI ((X / 10000 % c * 10000 + X % 10000) / c))) := rfR.w1 List.mem_cons_self (by omega)
      obtain ⟨σ', e, hR, hV⟩ := ih (wA σ (m + 1) (1000 * t + k) (nI ((X / 10000 % c * 10000 + X % 10000) / c))) k hm (by omega) (by omega) (by rw [sA_wA_b (by omega), h1]) (fun j hj hj2 => by
          by_cases hjk : j = k
          · subst hjk; rw [sA_wA_eq, hdig]
          · rw [sA_wA_j (by omega)]; exact h2 j (by omega) hj2) (fun j hj => by
          rw [sA_wA_j (by omega)]
          exact h3 j (by omega))
      rw [hX, hM] at e
      refine ⟨σ', ?_, hst.tr hR, hV⟩
      have hck : ckD (nI c) = some () := by
        unfold ckD
        rw [if_neg]
        show ¬ nI c = nI 0
        rw [sm_eq (by omega) (by omega)]
        omega
      rw [hr]
      have emod : nI (X / 10000 % c * 10000 + X % 10000) - nI (X / 10000 % c * 10000 + X % 10000) / nI c * nI c = nI ((X / 10000 % c * 10000 + X % 10000) % c) := sm_mod hbd hc0 (by omega)
      rw [if_neg (by show ¬ nI k < nI 0; rw [sm_lt (by omega) (by omega)]; omega)]
      simp (disch := first | exact hm | ((repeat (first | apply MS_A | apply MS_I)) <;> exact hm) | omega) only [sm_bind, sm_nm, rf_big, ld_big, q3, lits, sm_mul, sm_add, hck, st_big, emod]
      rw [sm_div hbd hc0 (by omega)]
      rw [em]
      exact e
theorem rf_shortens {m t c x : Nat} {σ : St} (hm : MS σ m) (ht : t < 15) (hc0 : 0 < c) (hc1 : c ≤ 10000) (hA : Rv σ m t x) : ∃ σ', fX12_shortens σ m (nI t) (nI c) = some (σ', nI (x % c)) ∧ rfR m [t] σ σ' ∧ Rv σ' m t (x / c) := by
  obtain ⟨w, ⟨u1, u2, u3⟩, hw, hm1⟩ := id hA
  obtain ⟨σ', e, hR, hV⟩ := rf_shortens_loop ht hc0 hc1 hw u3 FU σ w hm (by unfold FU; omega) (Nat.le_refl _) u1 (fun j hj hj2 => by omega) u2
  rw [tp_lt.mp u3, Nat.zero_mod] at e
  refine ⟨σ', ?_, hR, hV⟩
  have em : nI w - 1 = iz ((w : Int) - 1) := by rw [sm_iz]; show iz (w : Int) - iz 1 = _; rw [iz_sub]
  unfold fX12_shortens
  simp (disch := first | exact hm | ((repeat (first | apply MS_A | apply MS_I)) <;> exact hm) | omega) only [sm_bind, sm_nm, rf_wide, ld_wide, u1]
  rw [em]
  exact e
