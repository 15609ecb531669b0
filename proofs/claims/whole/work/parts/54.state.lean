/-! ===== the reference: values kept ===== -/
theorem rfM.w3 {m i : Nat} {F A : List Nat} {V : Nat → Prop} {σ : St} {v : Int32} (hi : V i) : rfM m F A V σ (wA σ (m + 3) i v) :=
  ⟨rfE.wA (by omega), fun _ _ => rfl, fun k _ h3 _ => sA_wA_b (by omega), fun q hq => ⟨sA_wA_j (fun e => hq (e ▸ hi)), fun _ _ => by rw [sA_wA_b (by omega)]⟩⟩
theorem rfM.w4 {m i o : Nat} {F A : List Nat} {V : Nat → Prop} {σ : St} {v : Int32} (hi : V i) (ho : o < 16) : rfM m F A V σ (wA σ (m + 4) (16 * i + o) v) :=
  ⟨rfE.wA (by omega), fun _ _ => rfl, fun k _ _ h4 => sA_wA_b (by omega), fun q hq => ⟨by rw [sA_wA_b (by omega)], fun k hk => sA_wA_j (by
    intro e
    have : q = i := by omega
    exact hq (this ▸ hi))⟩⟩
theorem rf_copiesValue_loop {m t f : Nat} {g : Nat → Int32} (ht : t < 12600) (hf : f < 12600) : ∀ (n : Nat) (σ : St) (k : Nat), MS σ m → 16 - k < n → k ≤ 16 → (∀ j, j < 16 → sA σ (m + 4) (16 * f + j) = g j) → (∀ j, j < k → sA σ (m + 4) (16 * t + j) = g j) →
    Hx (fX12_copiesValue_14 n σ m (nI t) (nI f) (nI k)) fun σ' _ => rfM m [] [] (fun i => i = t) σ σ' ∧ sA σ' (m + 3) = sA σ (m + 3) ∧ ∀ j, j < 16 → sA σ' (m + 4) (16 * t + j) = g j := by
  intro n
  induction n with
  | zero => intro σ k _ h; omega
  | succ n ih =>
    intro σ k hm hn hk h1 h2
    rw [n_fX12_copiesValue_14]
    by_cases hc : 16 ≤ k
    · (repeat (first | with_reducible refine hx_bs ?_ | with_reducible refine hx_cs ?_ | with_reducible refine hx_t ?_ | with_reducible refine hx_f ?_ | ((conv => arg 1; arg 1; simp (disch := first | assumption | exact MS_A (by assumption) | exact MS_I (by assumption) | exact MS_A (MS_A (by assumption)) | omega | exact Or.inr rfl | exact Or.inl rfl) only [sm_add, sm_mul, sm_le, sm_lt, sm_eq, sm_div, sm_sub, mx_le, mx_lt, mx_eq, xm_le, xm_lt, xm_eq, iz_le, iz_lt, iz_eq, nb0, nb1, sA_wA_b, sA_wA_eq, Nat.zero_le, not_true_eq_false, not_false_eq_true, Nat.reduceEqDiff, Bool.false_eq_true, rf_ck, hc]); first | with_reducible refine hx_bs ?_ | with_reducible refine hx_cs ?_ | with_reducible refine hx_t ?_ | with_reducible refine hx_f ?_ | with_reducible refine hx_nm ?_))); (try (conv => arg 1; arg 1; simp (disch := first | assumption | exact MS_A (by assumption) | exact MS_I (by assumption) | exact MS_A (MS_A (by assumption)) | omega | exact Or.inr rfl | exact Or.inl rfl) only [sm_add, sm_mul, sm_le, sm_lt, sm_eq, sm_div, sm_sub, mx_le, mx_lt, mx_eq, xm_le, xm_lt, xm_eq, iz_le, iz_lt, iz_eq, nb0, nb1, sA_wA_b, sA_wA_eq, Nat.zero_le, not_true_eq_false, not_false_eq_true, Nat.reduceEqDiff, Bool.false_eq_true, rf_ck, hc]))
      exact Hx.ret ⟨rfM.rf, rfl, fun j hj => h2 j (by omega)⟩
    · have g1 := h1 k (by omega)
      have w : rfM m [] [] (fun i => i = t) σ (wA σ (m + 4) (16 * t + k) (g k)) := rfM.w4 rfl (by omega)
      (repeat (first | with_reducible refine hx_bs ?_ | with_reducible refine hx_cs ?_ | with_reducible refine hx_t ?_ | with_reducible refine hx_f ?_ | ((conv => arg 1; arg 1; simp (disch := first | assumption | exact MS_A (by assumption) | exact MS_I (by assumption) | exact MS_A (MS_A (by assumption)) | omega | exact Or.inr rfl | exact Or.inl rfl) only [sm_add, sm_mul, sm_le, sm_lt, sm_eq, sm_div, sm_sub, mx_le, mx_lt, mx_eq, xm_le, xm_lt, xm_eq, iz_le, iz_lt, iz_eq, nb0, nb1, sA_wA_b, sA_wA_eq, Nat.zero_le, not_true_eq_false, not_false_eq_true, Nat.reduceEqDiff, Bool.false_eq_true, rf_ck, rf_part, ld_part, st_part, hc, g1]); first | with_reducible refine hx_bs ?_ | with_reducible refine hx_cs ?_ | with_reducible refine hx_t ?_ | with_reducible refine hx_f ?_ | with_reducible refine hx_nm ?_))); (try (conv => arg 1; arg 1; simp (disch := first | assumption | exact MS_A (by assumption) | exact MS_I (by assumption) | exact MS_A (MS_A (by assumption)) | omega | exact Or.inr rfl | exact Or.inl rfl) only [sm_add, sm_mul, sm_le, sm_lt, sm_eq, sm_div, sm_sub, mx_le, mx_lt, mx_eq, xm_le, xm_lt, xm_eq, iz_le, iz_lt, iz_eq, nb0, nb1, sA_wA_b, sA_wA_eq, Nat.zero_le, not_true_eq_false, not_false_eq_true, Nat.reduceEqDiff, Bool.false_eq_true, rf_ck, rf_part, ld_part, st_part, hc, g1]))
      refine (ih (wA σ (m + 4) (16 * t + k) (g k)) (k + 1) hm (by omega) (by omega) (fun j hj => ?_) (fun j hj => ?_)).mo ?_
      · by_cases e : 16 * f + j = 16 * t + k
        · rw [e, sA_wA_eq]
          congr 1
          omega
        · rw [sA_wA_j e]; exact h1 j hj
      · by_cases e : j = k
        · subst e; exact sA_wA_eq
        · rw [sA_wA_j (by omega)]; exact h2 j (by omega)
      · rintro σ' v ⟨q1, q2, q3⟩
        exact ⟨w.tr q1, by rw [q2, sA_wA_b (by omega)], q3⟩
theorem rf_copiesValue {m t f : Nat} {q : Qv} {σ : St} (hm : MS σ m) (ht : t < 12600) (hf : f < 12600) (hV : Vl σ m f q) : Hx (fX12_copiesValue σ m (nI t) (nI f)) fun σ' _ => rfM m [] [] (fun i => i = t) σ σ' ∧ Vl σ' m t q := by
  obtain ⟨h0, h1, h2, h3⟩ := hV
  have w : rfM m [] [] (fun i => i = t) σ (wA σ (m + 3) t (iz q.1)) := rfM.w3 rfl
  rw [n_fX12_copiesValue]
  (repeat (first | with_reducible refine hx_bs ?_ | with_reducible refine hx_cs ?_ | with_reducible refine hx_t ?_ | with_reducible refine hx_f ?_ | ((conv => arg 1; arg 1; simp (disch := first | assumption | exact MS_A (by assumption) | exact MS_I (by assumption) | exact MS_A (MS_A (by assumption)) | omega | exact Or.inr rfl | exact Or.inl rfl) only [sm_add, sm_mul, sm_le, sm_lt, sm_eq, sm_div, sm_sub, mx_le, mx_lt, mx_eq, xm_le, xm_lt, xm_eq, iz_le, iz_lt, iz_eq, nb0, nb1, sA_wA_b, sA_wA_eq, Nat.zero_le, not_true_eq_false, not_false_eq_true, Nat.reduceEqDiff, Bool.false_eq_true, rf_ck, rf_sign, ld_sign, st_sign, h1]); first | with_reducible refine hx_bs ?_ | with_reducible refine hx_cs ?_ | with_reducible refine hx_t ?_ | with_reducible refine hx_f ?_ | with_reducible refine hx_nm ?_))); (try (conv => arg 1; arg 1; simp (disch := first | assumption | exact MS_A (by assumption) | exact MS_I (by assumption) | exact MS_A (MS_A (by assumption)) | omega | exact Or.inr rfl | exact Or.inl rfl) only [sm_add, sm_mul, sm_le, sm_lt, sm_eq, sm_div, sm_sub, mx_le, mx_lt, mx_eq, xm_le, xm_lt, xm_eq, iz_le, iz_lt, iz_eq, nb0, nb1, sA_wA_b, sA_wA_eq, Nat.zero_le, not_true_eq_false, not_false_eq_true, Nat.reduceEqDiff, Bool.false_eq_true, rf_ck, rf_sign, ld_sign, st_sign, h1]))
  refine (rf_copiesValue_loop (g := fun j => if j < 8 then nI (dq q.2.1 j % 10000) else nI (dq q.2.2 (j - 8) % 10000)) ht hf FU (wA σ (m + 3) t (iz q.1)) 0 hm (by unfold FU; omega) (by omega) (fun j hj => ?_) (fun j hj => by omega)).mo ?_
  · rw [sA_wA_b (by omega)]
    by_cases h8 : j < 8
    · rw [if_pos h8]; exact h2 j h8
    · rw [if_neg h8]
      have := h3 (j - 8) (by omega)
      rw [show 16 * f + 8 + (j - 8) = 16 * f + j by omega] at this
      exact this
  · rintro σ' v ⟨q1, q2, q3⟩
    refine ⟨w.tr q1, h0, ?_, fun k hk => ?_, fun k hk => ?_⟩
    · rw [q2, sA_wA_eq]
    · have := q3 k (by omega)
      rw [if_pos hk] at this
      exact this
    · have := q3 (8 + k) (by omega)
      rw [if_neg (by omega), show 16 * t + (8 + k) = 16 * t + 8 + k by omega, show 8 + k - 8 = k by omega] at this
      exact this
theorem rf_newValue {m vm : Nat} {σ : St} (hm : MS σ m) (h5 : Fi σ m 5 (nI vm)) (hv : vm < 12600) : fX12_newValue σ m = some (wI σ (fid 16 5) m (nI (vm + 1)), nI vm) := by
  have h5' : sI σ (fid 16 5) m = nI vm := h5
  rw [n_fX12_newValue]
  (try simp (disch := first | assumption | exact MS_A (by assumption) | exact MS_I (by assumption) | exact MS_A (MS_A (by assumption)) | omega | exact Or.inr rfl | exact Or.inl rfl) only [sm_add, sm_mul, sm_le, sm_lt, sm_eq, sm_div, sm_sub, mx_le, mx_lt, mx_eq, xm_le, xm_lt, xm_eq, iz_le, iz_lt, iz_eq, nb0, nb1, sA_wA_b, sA_wA_eq, Nat.zero_le, not_true_eq_false, not_false_eq_true, Nat.reduceEqDiff, Bool.false_eq_true, rf_ck, rf_gI, rf_pI, h5', sm_bind, sI_wI_eq, Nat.add_sub_cancel])
theorem rf_keeps {m vm i : Nat} {q : Qv} {σ : St} (hm : MS σ m) (h5 : Fi σ m 5 (nI vm)) (hv : 600 ≤ vm ∧ vm < 12600) (hV : Vl σ m i q) (hi : i < 600 ∨ i < vm) : Hx (fX12_keeps σ m (nI i)) fun σ' v => ∃ i' vm', v = nI i' ∧ Fi σ' m 5 (nI vm') ∧ (vm ≤ vm' ∧ vm' ≤ vm + 1) ∧ (600 ≤ i' ∧ i' < vm') ∧ Vl σ' m i' q ∧ rfM m [5] [] (fun j => j = vm) σ σ' := by
  rw [n_fX12_keeps]
  by_cases h : i < 600
  · have nv := rf_newValue hm h5 hv.2
    have w : rfM m [5] [] (fun j => j = vm) σ (wI σ (fid 16 5) m (nI (vm + 1))) := rfM.wI (by simp)
    (repeat (first | with_reducible refine hx_bs ?_ | with_reducible refine hx_cs ?_ | with_reducible refine hx_t ?_ | with_reducible refine hx_f ?_ | ((conv => arg 1; arg 1; simp (disch := first | assumption | exact MS_A (by assumption) | exact MS_I (by assumption) | exact MS_A (MS_A (by assumption)) | omega | exact Or.inr rfl | exact Or.inl rfl) only [sm_add, sm_mul, sm_le, sm_lt, sm_eq, sm_div, sm_sub, mx_le, mx_lt, mx_eq, xm_le, xm_lt, xm_eq, iz_le, iz_lt, iz_eq, nb0, nb1, sA_wA_b, sA_wA_eq, Nat.zero_le, not_true_eq_false, not_false_eq_true, Nat.reduceEqDiff, Bool.false_eq_true, rf_ck, h, nv]); first | with_reducible refine hx_bs ?_ | with_reducible refine hx_cs ?_ | with_reducible refine hx_t ?_ | with_reducible refine hx_f ?_ | with_reducible refine hx_nm ?_))); (try (conv => arg 1; arg 1; simp (disch := first | assumption | exact MS_A (by assumption) | exact MS_I (by assumption) | exact MS_A (MS_A (by assumption)) | omega | exact Or.inr rfl | exact Or.inl rfl) only [sm_add, sm_mul, sm_le, sm_lt, sm_eq, sm_div, sm_sub, mx_le, mx_lt, mx_eq, xm_le, xm_lt, xm_eq, iz_le, iz_lt, iz_eq, nb0, nb1, sA_wA_b, sA_wA_eq, Nat.zero_le, not_true_eq_false, not_false_eq_true, Nat.reduceEqDiff, Bool.false_eq_true, rf_ck, h, nv]))
    refine Hx.bd (rf_copiesValue (σ := wI σ (fid 16 5) m (nI (vm + 1))) hm hv.2 (by omega) (hV.keepM (V := nV) (rfM.wI (F := [5]) (A := []) (by simp)) (fun h => h))) ?_
    rintro σ1 v ⟨q1, q2⟩
    exact Hx.ret ⟨vm, vm + 1, rfl, (show Fi (wI σ (fid 16 5) m (nI (vm + 1))) m 5 (nI (vm + 1)) from sI_wI_eq).keep q1 (by simp), ⟨by omega, by omega⟩, ⟨by omega, by omega⟩, q2, w.tr (q1.mo (by simp) (fun _ h => h))⟩
  · have hi9 : i < 12600 := by omega
    (repeat (first | with_reducible refine hx_bs ?_ | with_reducible refine hx_cs ?_ | with_reducible refine hx_t ?_ | with_reducible refine hx_f ?_ | ((conv => arg 1; arg 1; simp (disch := first | assumption | exact MS_A (by assumption) | exact MS_I (by assumption) | exact MS_A (MS_A (by assumption)) | omega | exact Or.inr rfl | exact Or.inl rfl) only [sm_add, sm_mul, sm_le, sm_lt, sm_eq, sm_div, sm_sub, mx_le, mx_lt, mx_eq, xm_le, xm_lt, xm_eq, iz_le, iz_lt, iz_eq, nb0, nb1, sA_wA_b, sA_wA_eq, Nat.zero_le, not_true_eq_false, not_false_eq_true, Nat.reduceEqDiff, Bool.false_eq_true, rf_ck, h]); first | with_reducible refine hx_bs ?_ | with_reducible refine hx_cs ?_ | with_reducible refine hx_t ?_ | with_reducible refine hx_f ?_ | with_reducible refine hx_nm ?_))); (try (conv => arg 1; arg 1; simp (disch := first | assumption | exact MS_A (by assumption) | exact MS_I (by assumption) | exact MS_A (MS_A (by assumption)) | omega | exact Or.inr rfl | exact Or.inl rfl) only [sm_add, sm_mul, sm_le, sm_lt, sm_eq, sm_div, sm_sub, mx_le, mx_lt, mx_eq, xm_le, xm_lt, xm_eq, iz_le, iz_lt, iz_eq, nb0, nb1, sA_wA_b, sA_wA_eq, Nat.zero_le, not_true_eq_false, not_false_eq_true, Nat.reduceEqDiff, Bool.false_eq_true, rf_ck, h]))
    exact Hx.ret ⟨i, vm, rfl, h5, ⟨by omega, by omega⟩, ⟨by omega, by omega⟩, hV, rfM.rf⟩
theorem rf_keepsMade {m vm x y u : Nat} {s : Int} {σ : St} (hm : MS σ m) (h5 : Fi σ m 5 (nI vm)) (hv : vm < 12600) (hu : u ≤ 978) (hx : x < 10000 ^ u) (hy : y < 10000 ^ u) (h0 : 0 < y) (hs : x ≠ 0 → s = 1 ∨ s = -1) (hA : Rv σ m 6 x) (hB : Rv σ m 7 y) :
    Hx (fX12_keepsMade σ m (iz s)) fun σ' v => rfM m [5] [1, 2] (fun j => j = vm) σ σ' ∧ if qsm (qmk s x y) then v = nI vm ∧ Fi σ' m 5 (nI (vm + 1)) ∧ Vl σ' m vm (qmk s x y) else v = iz (-1) ∧ Fi σ' m 5 (nI vm) := by
  have nv := rf_newValue hm h5 hv
  have w : rfM m [5] [1, 2] (fun j => j = vm) σ (wI σ (fid 16 5) m (nI (vm + 1))) := rfM.wI (by simp)
  have hm1 : MS (wI σ (fid 16 5) m (nI (vm + 1))) m := hm
  have F1 : Fi (wI σ (fid 16 5) m (nI (vm + 1))) m 5 (nI (vm + 1)) := sI_wI_eq
  have hA1 : Rv (wI σ (fid 16 5) m (nI (vm + 1))) m 6 x := hA
  have hB1 : Rv (wI σ (fid 16 5) m (nI (vm + 1))) m 7 y := hB
  rw [n_fX12_keepsMade]
  (repeat (first | with_reducible refine hx_bs ?_ | with_reducible refine hx_cs ?_ | with_reducible refine hx_t ?_ | with_reducible refine hx_f ?_ | ((conv => arg 1; arg 1; simp (disch := first | assumption | exact MS_A (by assumption) | exact MS_I (by assumption) | exact MS_A (MS_A (by assumption)) | omega | exact Or.inr rfl | exact Or.inl rfl) only [sm_add, sm_mul, sm_le, sm_lt, sm_eq, sm_div, sm_sub, mx_le, mx_lt, mx_eq, xm_le, xm_lt, xm_eq, iz_le, iz_lt, iz_eq, nb0, nb1, sA_wA_b, sA_wA_eq, Nat.zero_le, not_true_eq_false, not_false_eq_true, Nat.reduceEqDiff, Bool.false_eq_true, rf_ck, nv]); first | with_reducible refine hx_bs ?_ | with_reducible refine hx_cs ?_ | with_reducible refine hx_t ?_ | with_reducible refine hx_f ?_ | with_reducible refine hx_nm ?_))); (try (conv => arg 1; arg 1; simp (disch := first | assumption | exact MS_A (by assumption) | exact MS_I (by assumption) | exact MS_A (MS_A (by assumption)) | omega | exact Or.inr rfl | exact Or.inl rfl) only [sm_add, sm_mul, sm_le, sm_lt, sm_eq, sm_div, sm_sub, mx_le, mx_lt, mx_eq, xm_le, xm_lt, xm_eq, iz_le, iz_lt, iz_eq, nb0, nb1, sA_wA_b, sA_wA_eq, Nat.zero_le, not_true_eq_false, not_false_eq_true, Nat.reduceEqDiff, Bool.false_eq_true, rf_ck, nv]))
  refine Hx.bE (rf_lays hm1 hv hu hx hy h0 hs hA1 hB1) ?_
  rintro σ2 ⟨hR2, hV2⟩
  have hm2 := hR2.ms hm1
  have F2 : sI σ2 (fid 16 5) m = nI (vm + 1) := F1.keep hR2.M (by simp)
  by_cases hq : qsm (qmk s x y)
  · have hqT := eq_true hq
    (repeat (first | with_reducible refine hx_bs ?_ | with_reducible refine hx_cs ?_ | with_reducible refine hx_t ?_ | with_reducible refine hx_f ?_ | ((conv => arg 1; arg 1; simp (disch := first | assumption | exact MS_A (by assumption) | exact MS_I (by assumption) | exact MS_A (MS_A (by assumption)) | omega | exact Or.inr rfl | exact Or.inl rfl) only [sm_add, sm_mul, sm_le, sm_lt, sm_eq, sm_div, sm_sub, mx_le, mx_lt, mx_eq, xm_le, xm_lt, xm_eq, iz_le, iz_lt, iz_eq, nb0, nb1, sA_wA_b, sA_wA_eq, Nat.zero_le, not_true_eq_false, not_false_eq_true, Nat.reduceEqDiff, Bool.false_eq_true, rf_ck, hqT]); first | with_reducible refine hx_bs ?_ | with_reducible refine hx_cs ?_ | with_reducible refine hx_t ?_ | with_reducible refine hx_f ?_ | with_reducible refine hx_nm ?_))); (try (conv => arg 1; arg 1; simp (disch := first | assumption | exact MS_A (by assumption) | exact MS_I (by assumption) | exact MS_A (MS_A (by assumption)) | omega | exact Or.inr rfl | exact Or.inl rfl) only [sm_add, sm_mul, sm_le, sm_lt, sm_eq, sm_div, sm_sub, mx_le, mx_lt, mx_eq, xm_le, xm_lt, xm_eq, iz_le, iz_lt, iz_eq, nb0, nb1, sA_wA_b, sA_wA_eq, Nat.zero_le, not_true_eq_false, not_false_eq_true, Nat.reduceEqDiff, Bool.false_eq_true, rf_ck, hqT]))
    refine Hx.ret ⟨w.tr (hR2.M.mo (by simp) (fun j h => h.1)), ?_⟩
    rw [if_pos hq]
    exact ⟨rfl, F2, hV2 hq⟩
  · have hqF := eq_false hq
    (repeat (first | with_reducible refine hx_bs ?_ | with_reducible refine hx_cs ?_ | with_reducible refine hx_t ?_ | with_reducible refine hx_f ?_ | ((conv => arg 1; arg 1; simp (disch := first | assumption | exact MS_A (by assumption) | exact MS_I (by assumption) | exact MS_A (MS_A (by assumption)) | omega | exact Or.inr rfl | exact Or.inl rfl) only [sm_add, sm_mul, sm_le, sm_lt, sm_eq, sm_div, sm_sub, mx_le, mx_lt, mx_eq, xm_le, xm_lt, xm_eq, iz_le, iz_lt, iz_eq, nb0, nb1, sA_wA_b, sA_wA_eq, Nat.zero_le, not_true_eq_false, not_false_eq_true, Nat.reduceEqDiff, Bool.false_eq_true, rf_ck, rf_gI, rf_pI, hqF, F2, Nat.add_sub_cancel]); first | with_reducible refine hx_bs ?_ | with_reducible refine hx_cs ?_ | with_reducible refine hx_t ?_ | with_reducible refine hx_f ?_ | with_reducible refine hx_nm ?_))); (try (conv => arg 1; arg 1; simp (disch := first | assumption | exact MS_A (by assumption) | exact MS_I (by assumption) | exact MS_A (MS_A (by assumption)) | omega | exact Or.inr rfl | exact Or.inl rfl) only [sm_add, sm_mul, sm_le, sm_lt, sm_eq, sm_div, sm_sub, mx_le, mx_lt, mx_eq, xm_le, xm_lt, xm_eq, iz_le, iz_lt, iz_eq, nb0, nb1, sA_wA_b, sA_wA_eq, Nat.zero_le, not_true_eq_false, not_false_eq_true, Nat.reduceEqDiff, Bool.false_eq_true, rf_ck, rf_gI, rf_pI, hqF, F2, Nat.add_sub_cancel]))
    have w2 : rfM m [5] [1, 2] (fun j => j = vm) σ2 (wI σ2 (fid 16 5) m (nI vm)) := rfM.wI (by simp)
    refine Hx.ret ⟨(w.tr (hR2.M.mo (by simp) (fun j h => h.1))).tr w2, ?_⟩
    rw [if_neg hq]
    exact ⟨rfl, sI_wI_eq⟩
theorem rf_becomes {m vm i : Nat} {q : Qv} {σ : St} (hm : MS σ m) (h5 : Fi σ m 5 (nI vm)) (hv : 600 ≤ vm ∧ vm < 12600) (hV : Vl σ m i q) (hi : i < 600 ∨ i < vm) : Hx (fX12_becomes σ m (nI i)) fun σ' v => v = iz q.1 ∧ ∃ i' vm', Fi σ' m 57 (nI i') ∧ Fi σ' m 5 (nI vm') ∧ (vm ≤ vm' ∧ vm' ≤ vm + 1) ∧ (600 ≤ i' ∧ i' < vm') ∧ Vl σ' m i' q ∧ rfM m [5, 57] [] (fun j => j = vm) σ σ' := by
  rw [n_fX12_becomes]
  (repeat (first | with_reducible refine hx_bs ?_ | with_reducible refine hx_cs ?_ | with_reducible refine hx_t ?_ | with_reducible refine hx_f ?_ | ((conv => arg 1; arg 1; simp (disch := first | assumption | exact MS_A (by assumption) | exact MS_I (by assumption) | exact MS_A (MS_A (by assumption)) | omega | exact Or.inr rfl | exact Or.inl rfl) only [sm_add, sm_mul, sm_le, sm_lt, sm_eq, sm_div, sm_sub, mx_le, mx_lt, mx_eq, xm_le, xm_lt, xm_eq, iz_le, iz_lt, iz_eq, nb0, nb1, sA_wA_b, sA_wA_eq, Nat.zero_le, not_true_eq_false, not_false_eq_true, Nat.reduceEqDiff, Bool.false_eq_true, rf_ck]); first | with_reducible refine hx_bs ?_ | with_reducible refine hx_cs ?_ | with_reducible refine hx_t ?_ | with_reducible refine hx_f ?_ | with_reducible refine hx_nm ?_))); (try (conv => arg 1; arg 1; simp (disch := first | assumption | exact MS_A (by assumption) | exact MS_I (by assumption) | exact MS_A (MS_A (by assumption)) | omega | exact Or.inr rfl | exact Or.inl rfl) only [sm_add, sm_mul, sm_le, sm_lt, sm_eq, sm_div, sm_sub, mx_le, mx_lt, mx_eq, xm_le, xm_lt, xm_eq, iz_le, iz_lt, iz_eq, nb0, nb1, sA_wA_b, sA_wA_eq, Nat.zero_le, not_true_eq_false, not_false_eq_true, Nat.reduceEqDiff, Bool.false_eq_true, rf_ck]))
  refine Hx.bd (rf_keeps hm h5 hv hV hi) ?_
  rintro σ1 v ⟨i', vm', rfl, h1, h2, h3, h4, h5⟩
  have hm1 := h5.ms hm
  have w : rfM m [5, 57] [] (fun j => j = vm) σ1 (wI σ1 (fid 16 57) m (nI i')) := rfM.wI (by simp)
  have hm2 : MS (wI σ1 (fid 16 57) m (nI i')) m := hm1
  have h4' : Vl (wI σ1 (fid 16 57) m (nI i')) m i' q := h4
  have g := h4'.sg hm2 (by omega)
  (repeat (first | with_reducible refine hx_bs ?_ | with_reducible refine hx_cs ?_ | with_reducible refine hx_t ?_ | with_reducible refine hx_f ?_ | ((conv => arg 1; arg 1; simp (disch := first | assumption | exact MS_A (by assumption) | exact MS_I (by assumption) | exact MS_A (MS_A (by assumption)) | omega | exact Or.inr rfl | exact Or.inl rfl) only [sm_add, sm_mul, sm_le, sm_lt, sm_eq, sm_div, sm_sub, mx_le, mx_lt, mx_eq, xm_le, xm_lt, xm_eq, iz_le, iz_lt, iz_eq, nb0, nb1, sA_wA_b, sA_wA_eq, Nat.zero_le, not_true_eq_false, not_false_eq_true, Nat.reduceEqDiff, Bool.false_eq_true, rf_ck, rf_gI, rf_pI, rf_sign, ld_sign, st_sign, sI_wI_eq, h4.2.1, sA_wI_]); first | with_reducible refine hx_bs ?_ | with_reducible refine hx_cs ?_ | with_reducible refine hx_t ?_ | with_reducible refine hx_f ?_ | with_reducible refine hx_nm ?_))); (try (conv => arg 1; arg 1; simp (disch := first | assumption | exact MS_A (by assumption) | exact MS_I (by assumption) | exact MS_A (MS_A (by assumption)) | omega | exact Or.inr rfl | exact Or.inl rfl) only [sm_add, sm_mul, sm_le, sm_lt, sm_eq, sm_div, sm_sub, mx_le, mx_lt, mx_eq, xm_le, xm_lt, xm_eq, iz_le, iz_lt, iz_eq, nb0, nb1, sA_wA_b, sA_wA_eq, Nat.zero_le, not_true_eq_false, not_false_eq_true, Nat.reduceEqDiff, Bool.false_eq_true, rf_ck, rf_gI, rf_pI, rf_sign, ld_sign, st_sign, sI_wI_eq, h4.2.1, sA_wI_]))
  exact Hx.ret ⟨rfl, i', vm', sI_wI_eq, (sI_wI_f (by decide)).trans h1, h2, h3, h4', (h5.mo (by simp) (fun _ h => h)).tr w⟩
/-! ===== the reference: the state as a row of ints ===== -/
abbrev Rd := Int32 × Int32 × (Nat → Int32) × (Nat → Int32) × (Nat → Int32) × (Nat → Int32) × (Nat → Int32)
def curR (σ : St) (m : Nat) : Rd := (sI σ (fid 16 40) m, sI σ (fid 16 41) m, sA σ (m + 18), sA σ (m + 19), sA σ (m + 20), sA σ (m + 37), sA σ (m + 36))
def snpR (A : Nat → Int32) (o : Nat) : Rd := (A o, A (o + 1), fun t => A (o + 2 + 3 * t), fun t => A (o + 2 + 3 * t + 1), fun t => A (o + 2 + 3 * t + 2), fun r => A (o + 92 + 51 * r), fun i => A (o + 92 + 51 * (i / 50) + 1 + i % 50))
def Rda (a b : Rd) : Prop := a.1 = b.1 ∧ a.2.1 = b.2.1 ∧ (∀ t, t < 30 → a.2.2.1 t = b.2.2.1 t ∧ a.2.2.2.1 t = b.2.2.2.1 t ∧ a.2.2.2.2.1 t = b.2.2.2.2.1 t) ∧ (∀ r, r < 3 → a.2.2.2.2.2.1 r = b.2.2.2.2.2.1 r) ∧ ∀ i, i < 150 → a.2.2.2.2.2.2 i = b.2.2.2.2.2.2 i
theorem Rda.rf {a : Rd} : Rda a a := ⟨rfl, rfl, fun _ _ => ⟨rfl, rfl, rfl⟩, fun _ _ => rfl, fun _ _ => rfl⟩
theorem Rda.sy {a b : Rd} (h : Rda a b) : Rda b a := ⟨h.1.symm, h.2.1.symm, fun t ht => ⟨(h.2.2.1 t ht).1.symm, (h.2.2.1 t ht).2.1.symm, (h.2.2.1 t ht).2.2.symm⟩, fun r hr => (h.2.2.2.1 r hr).symm, fun i hi => (h.2.2.2.2 i hi).symm⟩
theorem Rda.tr {a b c : Rd} (h : Rda a b) (h' : Rda b c) : Rda a c := ⟨h.1.trans h'.1, h.2.1.trans h'.2.1, fun t ht => ⟨(h.2.2.1 t ht).1.trans (h'.2.2.1 t ht).1, (h.2.2.1 t ht).2.1.trans (h'.2.2.1 t ht).2.1, (h.2.2.1 t ht).2.2.trans (h'.2.2.1 t ht).2.2⟩, fun r hr => (h.2.2.2.1 r hr).trans (h'.2.2.2.1 r hr), fun i hi => (h.2.2.2.2 i hi).trans (h'.2.2.2.2 i hi)⟩
theorem snpR_w {A B : Nat → Int32} {o : Nat} (h : ∀ i, o ≤ i → i < o + 245 → A i = B i) : Rda (snpR A o) (snpR B o) := by
  refine ⟨h _ (by omega) (by omega), h _ (by omega) (by omega), fun t ht => ⟨h _ (by omega) (by omega), h _ (by omega) (by omega), h _ (by omega) (by omega)⟩, fun r hr => h _ (by omega) (by omega), fun i hi => ?_⟩
  have h1 : i / 50 < 3 := by omega
  have h2 : i % 50 < 50 := by omega
  show A (o + 92 + 51 * (i / 50) + 1 + i % 50) = B (o + 92 + 51 * (i / 50) + 1 + i % 50)
  exact h _ (by omega) (by omega)
/-- an array that a state can be written to: its number, its length -/
def Sar (m j L : Nat) : Prop := (j = 38 ∨ j = 39 ∨ j = 40) ∧ L ≤ 5040 ∧ (∀ (σ : St) (k : Nat) (v : Int32), MS σ m → k < L → stI σ (m + j) (nI k) v = some (wA σ (m + j) k v)) ∧ ∀ (σ : St) (k : Nat), MS σ m → k < L → ldI σ (m + j) (nI k) = some (sA σ (m + j) k)
theorem Sar_saved {m : Nat} : Sar m 38 252 := ⟨by omega, by omega, fun _ _ _ h hk => st_saved h hk, fun _ _ h hk => ld_saved h hk⟩
theorem Sar_undos {m : Nat} : Sar m 39 5040 := ⟨by omega, by omega, fun _ _ _ h hk => st_undos h hk, fun _ _ h hk => ld_undos h hk⟩
theorem Sar_redos {m : Nat} : Sar m 40 5040 := ⟨by omega, by omega, fun _ _ _ h hk => st_redos h hk, fun _ _ h hk => ld_redos h hk⟩
theorem rf_ws_row {m j L o r : Nat} {R : Nat → Int32} {P : St → Unit → Prop} (k77 : St → Nat → Nat → Int32 → Int32 → Option (St × Unit)) (hS : Sar m j L) (hr : r < 3) (ho : o + 252 ≤ L) : ∀ (n : Nat) (σ : St) (i : Nat), MS σ m → 50 - i < n → i ≤ 50 → sA σ (m + 36) = R →
      (∀ x, x < i → sA σ (m + j) (o + 92 + 51 * r + 1 + x) = R (50 * r + x)) →
      (∀ σ', rfM m [] [j] nV σ σ' → (∀ q, (q < o + 92 + 51 * r + 1 ∨ o + 92 + 51 * r + 51 ≤ q) → sA σ' (m + j) q = sA σ (m + j) q) → (∀ x, x < 50 → sA σ' (m + j) (o + 92 + 51 * r + 1 + x) = R (50 * r + x)) → Hx (k77 σ' m (m + j) (nI (o + 92 + 51 * (r + 1))) (nI (r + 1))) P) →
      Hx (fX12_writesState_99 k77 n σ m (m + j) (nI (o + 92 + 51 * r + 1 + i)) (nI r) (nI i)) P := by
  obtain ⟨hj, hL, hst, hld⟩ := id hS
  intro n
  induction n with
  | zero => intro σ i _ h; omega
  | succ n ih =>
    intro σ i hm hn hi hR hW hk
    rw [n_fX12_writesState_99]
    by_cases hc : 50 ≤ i
    · have hi50 : i = 50 := by omega
      subst hi50
      (repeat (first | with_reducible refine hx_bs ?_ | with_reducible refine hx_cs ?_ | with_reducible refine hx_t ?_ | with_reducible refine hx_f ?_ | ((conv => arg 1; arg 1; simp (disch := first | assumption | exact MS_A (by assumption) | exact MS_I (by assumption) | exact MS_A (MS_A (by assumption)) | omega | exact Or.inr rfl | exact Or.inl rfl) only [sm_add, sm_mul, sm_le, sm_lt, sm_eq, sm_div, sm_sub, mx_le, mx_lt, mx_eq, xm_le, xm_lt, xm_eq, iz_le, iz_lt, iz_eq, nb0, nb1, sA_wA_b, sA_wA_eq, Nat.zero_le, not_true_eq_false, not_false_eq_true, Nat.reduceEqDiff, Bool.false_eq_true, rf_ck, hc]); first | with_reducible refine hx_bs ?_ | with_reducible refine hx_cs ?_ | with_reducible refine hx_t ?_ | with_reducible refine hx_f ?_ | with_reducible refine hx_nm ?_))); (try (conv => arg 1; arg 1; simp (disch := first | assumption | exact MS_A (by assumption) | exact MS_I (by assumption) | exact MS_A (MS_A (by assumption)) | omega | exact Or.inr rfl | exact Or.inl rfl) only [sm_add, sm_mul, sm_le, sm_lt, sm_eq, sm_div, sm_sub, mx_le, mx_lt, mx_eq, xm_le, xm_lt, xm_eq, iz_le, iz_lt, iz_eq, nb0, nb1, sA_wA_b, sA_wA_eq, Nat.zero_le, not_true_eq_false, not_false_eq_true, Nat.reduceEqDiff, Bool.false_eq_true, rf_ck, hc]))
      rw [show o + 92 + 51 * r + 1 + 50 = o + 92 + 51 * (r + 1) by omega]
      exact hk σ rfM.rf (fun _ _ => rfl) hW
    · have w : rfM m [] [j] nV σ (wA σ (m + j) (o + 92 + 51 * r + 1 + i) (R (50 * r + i))) := rfM.wA (by simp) (by omega)
      have e1 := hst σ (o + 92 + 51 * r + 1 + i) (R (50 * r + i)) hm (by omega)
      (repeat (first | with_reducible refine hx_bs ?_ | with_reducible refine hx_cs ?_ | with_reducible refine hx_t ?_ | with_reducible refine hx_f ?_ | ((conv => arg 1; arg 1; simp (disch := first | assumption | exact MS_A (by assumption) | exact MS_I (by assumption) | exact MS_A (MS_A (by assumption)) | omega | exact Or.inr rfl | exact Or.inl rfl) only [sm_add, sm_mul, sm_le, sm_lt, sm_eq, sm_div, sm_sub, mx_le, mx_lt, mx_eq, xm_le, xm_lt, xm_eq, iz_le, iz_lt, iz_eq, nb0, nb1, sA_wA_b, sA_wA_eq, Nat.zero_le, not_true_eq_false, not_false_eq_true, Nat.reduceEqDiff, Bool.false_eq_true, rf_ck, rf_row, ld_row, st_row, hc, hR, e1]); first | with_reducible refine hx_bs ?_ | with_reducible refine hx_cs ?_ | with_reducible refine hx_t ?_ | with_reducible refine hx_f ?_ | with_reducible refine hx_nm ?_))); (try (conv => arg 1; arg 1; simp (disch := first | assumption | exact MS_A (by assumption) | exact MS_I (by assumption) | exact MS_A (MS_A (by assumption)) | omega | exact Or.inr rfl | exact Or.inl rfl) only [sm_add, sm_mul, sm_le, sm_lt, sm_eq, sm_div, sm_sub, mx_le, mx_lt, mx_eq, xm_le, xm_lt, xm_eq, iz_le, iz_lt, iz_eq, nb0, nb1, sA_wA_b, sA_wA_eq, Nat.zero_le, not_true_eq_false, not_false_eq_true, Nat.reduceEqDiff, Bool.false_eq_true, rf_ck, rf_row, ld_row, st_row, hc, hR, e1]))
      rw [show o + 92 + 51 * r + 1 + i + 1 = o + 92 + 51 * r + 1 + (i + 1) by omega]
      refine ih (wA σ (m + j) (o + 92 + 51 * r + 1 + i) (R (50 * r + i))) (i + 1) hm (by omega) (by omega) (by rw [sA_wA_b (by omega)]; exact hR) (fun x hx => ?_) ?_
      · by_cases e : x = i
        · subst e; exact sA_wA_eq
        · rw [sA_wA_j (by omega)]; exact hW x (by omega)
      · intro σ' h1 h2 h3
        exact hk σ' (w.tr h1) (fun q hq => by rw [h2 q hq, sA_wA_j (by omega)]) h3
theorem rf_ws_rows {m j L o : Nat} {R C : Nat → Int32} (hS : Sar m j L) (ho : o + 252 ≤ L) : ∀ (n : Nat) (σ : St) (r : Nat), MS σ m → 3 - r < n → r ≤ 3 → sA σ (m + 36) = R → sA σ (m + 37) = C →
      (∀ x, x < r → sA σ (m + j) (o + 92 + 51 * x) = C x ∧ ∀ i, i < 50 → sA σ (m + j) (o + 92 + 51 * x + 1 + i) = R (50 * x + i)) →
      Hx (fX12_writesState_77 n σ m (m + j) (nI (o + 92 + 51 * r)) (nI r)) fun σ' _ => rfM m [] [j] nV σ σ' ∧ (∀ q, (q < o + 92 ∨ o + 252 ≤ q) → sA σ' (m + j) q = sA σ (m + j) q) ∧ ∀ x, x < 3 → sA σ' (m + j) (o + 92 + 51 * x) = C x ∧ ∀ i, i < 50 → sA σ' (m + j) (o + 92 + 51 * x + 1 + i) = R (50 * x + i) := by
  obtain ⟨hj, hL, hst, hld⟩ := id hS
  intro n
  induction n with
  | zero => intro σ r _ h; omega
  | succ n ih =>
    intro σ r hm hn hr hR hC hW
    rw [n_fX12_writesState_77]
    by_cases hc : 3 ≤ r
    · (repeat (first | with_reducible refine hx_bs ?_ | with_reducible refine hx_cs ?_ | with_reducible refine hx_t ?_ | with_reducible refine hx_f ?_ | ((conv => arg 1; arg 1; simp (disch := first | assumption | exact MS_A (by assumption) | exact MS_I (by assumption) | exact MS_A (MS_A (by assumption)) | omega | exact Or.inr rfl | exact Or.inl rfl) only [sm_add, sm_mul, sm_le, sm_lt, sm_eq, sm_div, sm_sub, mx_le, mx_lt, mx_eq, xm_le, xm_lt, xm_eq, iz_le, iz_lt, iz_eq, nb0, nb1, sA_wA_b, sA_wA_eq, Nat.zero_le, not_true_eq_false, not_false_eq_true, Nat.reduceEqDiff, Bool.false_eq_true, rf_ck, hc]); first | with_reducible refine hx_bs ?_ | with_reducible refine hx_cs ?_ | with_reducible refine hx_t ?_ | with_reducible refine hx_f ?_ | with_reducible refine hx_nm ?_))); (try (conv => arg 1; arg 1; simp (disch := first | assumption | exact MS_A (by assumption) | exact MS_I (by assumption) | exact MS_A (MS_A (by assumption)) | omega | exact Or.inr rfl | exact Or.inl rfl) only [sm_add, sm_mul, sm_le, sm_lt, sm_eq, sm_div, sm_sub, mx_le, mx_lt, mx_eq, xm_le, xm_lt, xm_eq, iz_le, iz_lt, iz_eq, nb0, nb1, sA_wA_b, sA_wA_eq, Nat.zero_le, not_true_eq_false, not_false_eq_true, Nat.reduceEqDiff, Bool.false_eq_true, rf_ck, hc]))
      exact Hx.ret ⟨rfM.rf, fun _ _ => rfl, fun x hx => hW x (by omega)⟩
    · have w : rfM m [] [j] nV σ (wA σ (m + j) (o + 92 + 51 * r) (C r)) := rfM.wA (by simp) (by omega)
      have e1 := hst σ (o + 92 + 51 * r) (C r) hm (by omega)
      (repeat (first | with_reducible refine hx_bs ?_ | with_reducible refine hx_cs ?_ | with_reducible refine hx_t ?_ | with_reducible refine hx_f ?_ | ((conv => arg 1; arg 1; simp (disch := first | assumption | exact MS_A (by assumption) | exact MS_I (by assumption) | exact MS_A (MS_A (by assumption)) | omega | exact Or.inr rfl | exact Or.inl rfl) only [sm_add, sm_mul, sm_le, sm_lt, sm_eq, sm_div, sm_sub, mx_le, mx_lt, mx_eq, xm_le, xm_lt, xm_eq, iz_le, iz_lt, iz_eq, nb0, nb1, sA_wA_b, sA_wA_eq, Nat.zero_le, not_true_eq_false, not_false_eq_true, Nat.reduceEqDiff, Bool.false_eq_true, rf_ck, rf_rowMany, ld_rowMany, st_rowMany, hc, hC, e1]); first | with_reducible refine hx_bs ?_ | with_reducible refine hx_cs ?_ | with_reducible refine hx_t ?_ | with_reducible refine hx_f ?_ | with_reducible refine hx_nm ?_))); (try (conv => arg 1; arg 1; simp (disch := first | assumption | exact MS_A (by assumption) | exact MS_I (by assumption) | exact MS_A (MS_A (by assumption)) | omega | exact Or.inr rfl | exact Or.inl rfl) only [sm_add, sm_mul, sm_le, sm_lt, sm_eq, sm_div, sm_sub, mx_le, mx_lt, mx_eq, xm_le, xm_lt, xm_eq, iz_le, iz_lt, iz_eq, nb0, nb1, sA_wA_b, sA_wA_eq, Nat.zero_le, not_true_eq_false, not_false_eq_true, Nat.reduceEqDiff, Bool.false_eq_true, rf_ck, rf_rowMany, ld_rowMany, st_rowMany, hc, hC, e1]))
      refine rf_ws_row (R := R) (i := 0) (o := o) (r := r) (fX12_writesState_77 n) hS (by omega) ho FU (wA σ (m + j) (o + 92 + 51 * r) (C r)) hm (by unfold FU; omega) (by omega) (by rw [sA_wA_b (by omega)]; exact hR) (fun x hx => by omega) ?_
      intro σ1 h1 h2 h3
      have hm1 := h1.ms hm
      refine (ih σ1 (r + 1) hm1 (by omega) (by omega) (by rw [h1.ar 36 (by simp; omega), sA_wA_b (by omega)]; exact hR) (by rw [h1.ar 37 (by simp; omega), sA_wA_b (by omega)]; exact hC) (fun x hx => ?_)).mo ?_
      · by_cases e : x = r
        · subst e
          refine ⟨by rw [h2 _ (by omega), sA_wA_eq], h3⟩
        · have := hW x (by omega)
          refine ⟨by rw [h2 _ (by omega), sA_wA_j (by omega)]; exact this.1, fun i hi => ?_⟩
          rw [h2 _ (by omega), sA_wA_j (by omega)]
          exact this.2 i hi
      · rintro σ2 v ⟨q1, q2, q3⟩
        refine ⟨w.tr (h1.tr q1), fun q hq => ?_, q3⟩
        rw [q2 q hq, h2 q (by omega), sA_wA_j (by omega)]
theorem rf_ws_things {m j L o : Nat} {R C W D V : Nat → Int32} (hS : Sar m j L) (ho : o + 252 ≤ L) : ∀ (n : Nat) (σ : St) (t : Nat), MS σ m → 30 - t < n → t ≤ 30 → sA σ (m + 36) = R → sA σ (m + 37) = C → sA σ (m + 18) = W → sA σ (m + 19) = D → sA σ (m + 20) = V →
      (∀ x, x < t → sA σ (m + j) (o + 2 + 3 * x) = W x ∧ sA σ (m + j) (o + 2 + 3 * x + 1) = D x ∧ sA σ (m + j) (o + 2 + 3 * x + 2) = V x) →
      Hx (fX12_writesState_24 n σ m (m + j) (nI (o + 2 + 3 * t)) (nI t)) fun σ' _ => rfM m [] [j] nV σ σ' ∧ (∀ q, (q < o + 2 ∨ o + 252 ≤ q) → sA σ' (m + j) q = sA σ (m + j) q) ∧ (∀ x, x < 30 → sA σ' (m + j) (o + 2 + 3 * x) = W x ∧ sA σ' (m + j) (o + 2 + 3 * x + 1) = D x ∧ sA σ' (m + j) (o + 2 + 3 * x + 2) = V x) ∧ ∀ x, x < 3 → sA σ' (m + j) (o + 92 + 51 * x) = C x ∧ ∀ i, i < 50 → sA σ' (m + j) (o + 92 + 51 * x + 1 + i) = R (50 * x + i) := by
  obtain ⟨hj, hL, hst, hld⟩ := id hS
  intro n
  induction n with
  | zero => intro σ r _ h; omega
  | succ n ih =>
    intro σ t hm hn ht hR hC hW hD hV hK
    rw [n_fX12_writesState_24]
    by_cases hc : 30 ≤ t
    · have h30 : t = 30 := by omega
      subst h30
      (repeat (first | with_reducible refine hx_bs ?_ | with_reducible refine hx_cs ?_ | with_reducible refine hx_t ?_ | with_reducible refine hx_f ?_ | ((conv => arg 1; arg 1; simp (disch := first | assumption | exact MS_A (by assumption) | exact MS_I (by assumption) | exact MS_A (MS_A (by assumption)) | omega | exact Or.inr rfl | exact Or.inl rfl) only [sm_add, sm_mul, sm_le, sm_lt, sm_eq, sm_div, sm_sub, mx_le, mx_lt, mx_eq, xm_le, xm_lt, xm_eq, iz_le, iz_lt, iz_eq, nb0, nb1, sA_wA_b, sA_wA_eq, Nat.zero_le, not_true_eq_false, not_false_eq_true, Nat.reduceEqDiff, Bool.false_eq_true, rf_ck, hc]); first | with_reducible refine hx_bs ?_ | with_reducible refine hx_cs ?_ | with_reducible refine hx_t ?_ | with_reducible refine hx_f ?_ | with_reducible refine hx_nm ?_))); (try (conv => arg 1; arg 1; simp (disch := first | assumption | exact MS_A (by assumption) | exact MS_I (by assumption) | exact MS_A (MS_A (by assumption)) | omega | exact Or.inr rfl | exact Or.inl rfl) only [sm_add, sm_mul, sm_le, sm_lt, sm_eq, sm_div, sm_sub, mx_le, mx_lt, mx_eq, xm_le, xm_lt, xm_eq, iz_le, iz_lt, iz_eq, nb0, nb1, sA_wA_b, sA_wA_eq, Nat.zero_le, not_true_eq_false, not_false_eq_true, Nat.reduceEqDiff, Bool.false_eq_true, rf_ck, hc]))
      rw [show o + 2 + 3 * 30 = o + 92 + 51 * 0 by omega]
      refine (rf_ws_rows hS ho FU σ 0 hm (by unfold FU; omega) (by omega) hR hC (fun x hx => by omega)).mo ?_
      rintro σ1 v ⟨q1, q2, q3⟩
      exact ⟨q1, fun q hq => q2 q (by omega), fun x hx => ⟨by rw [q2 _ (by omega)]; exact (hK x hx).1, by rw [q2 _ (by omega)]; exact (hK x hx).2.1, by rw [q2 _ (by omega)]; exact (hK x hx).2.2⟩, q3⟩
    · have w1 : rfM m [] [j] nV σ (wA σ (m + j) (o + 2 + 3 * t) (W t)) := rfM.wA (by simp) (by omega)
      have w2 : rfM m [] [j] nV (wA σ (m + j) (o + 2 + 3 * t) (W t)) (wA (wA σ (m + j) (o + 2 + 3 * t) (W t)) (m + j) (o + 2 + 3 * t + 1) (D t)) := rfM.wA (by simp) (by omega)
      have w3 : rfM m [] [j] nV (wA (wA σ (m + j) (o + 2 + 3 * t) (W t)) (m + j) (o + 2 + 3 * t + 1) (D t)) (wA (wA (wA σ (m + j) (o + 2 + 3 * t) (W t)) (m + j) (o + 2 + 3 * t + 1) (D t)) (m + j) (o + 2 + 3 * t + 2) (V t)) := rfM.wA (by simp) (by omega)
      have e1 := hst σ (o + 2 + 3 * t) (W t) hm (by omega)
      have e2 := hst (wA σ (m + j) (o + 2 + 3 * t) (W t)) (o + 2 + 3 * t + 1) (D t) hm (by omega)
      have e3 := hst (wA (wA σ (m + j) (o + 2 + 3 * t) (W t)) (m + j) (o + 2 + 3 * t + 1) (D t)) (o + 2 + 3 * t + 2) (V t) hm (by omega)
      (repeat (first | with_reducible refine hx_bs ?_ | with_reducible refine hx_cs ?_ | with_reducible refine hx_t ?_ | with_reducible refine hx_f ?_ | ((conv => arg 1; arg 1; simp (disch := first | assumption | exact MS_A (by assumption) | exact MS_I (by assumption) | exact MS_A (MS_A (by assumption)) | omega | exact Or.inr rfl | exact Or.inl rfl) only [sm_add, sm_mul, sm_le, sm_lt, sm_eq, sm_div, sm_sub, mx_le, mx_lt, mx_eq, xm_le, xm_lt, xm_eq, iz_le, iz_lt, iz_eq, nb0, nb1, sA_wA_b, sA_wA_eq, Nat.zero_le, not_true_eq_false, not_false_eq_true, Nat.reduceEqDiff, Bool.false_eq_true, rf_ck, rf_word, ld_word, st_word, rf_def, ld_def, st_def, rf_valueOf, ld_valueOf, st_valueOf, hc, hW, hD, hV, e1, e2, e3]); first | with_reducible refine hx_bs ?_ | with_reducible refine hx_cs ?_ | with_reducible refine hx_t ?_ | with_reducible refine hx_f ?_ | with_reducible refine hx_nm ?_))); (try (conv => arg 1; arg 1; simp (disch := first | assumption | exact MS_A (by assumption) | exact MS_I (by assumption) | exact MS_A (MS_A (by assumption)) | omega | exact Or.inr rfl | exact Or.inl rfl) only [sm_add, sm_mul, sm_le, sm_lt, sm_eq, sm_div, sm_sub, mx_le, mx_lt, mx_eq, xm_le, xm_lt, xm_eq, iz_le, iz_lt, iz_eq, nb0, nb1, sA_wA_b, sA_wA_eq, Nat.zero_le, not_true_eq_false, not_false_eq_true, Nat.reduceEqDiff, Bool.false_eq_true, rf_ck, rf_word, ld_word, st_word, rf_def, ld_def, st_def, rf_valueOf, ld_valueOf, st_valueOf, hc, hW, hD, hV, e1, e2, e3]))
      generalize hσ1 : wA (wA (wA σ (m + j) (o + 2 + 3 * t) (W t)) (m + j) (o + 2 + 3 * t + 1) (D t)) (m + j) (o + 2 + 3 * t + 2) (V t) = σ1 at w3 ⊢
      have WW := w1.tr (w2.tr w3)
      have hoth : ∀ q, (q < o + 2 + 3 * t ∨ o + 2 + 3 * t + 3 ≤ q) → sA σ1 (m + j) q = sA σ (m + j) q := by
        intro q hq
        rw [← hσ1, sA_wA_j (by omega), sA_wA_j (by omega), sA_wA_j (by omega)]
      rw [show o + 2 + 3 * t + 3 = o + 2 + 3 * (t + 1) by omega]
      refine (ih σ1 (t + 1) (WW.ms hm) (by omega) (by omega) (by rw [WW.ar 36 (by simp; omega)]; exact hR) (by rw [WW.ar 37 (by simp; omega)]; exact hC) (by rw [WW.ar 18 (by simp; omega)]; exact hW) (by rw [WW.ar 19 (by simp; omega)]; exact hD) (by rw [WW.ar 20 (by simp; omega)]; exact hV) (fun x hx => ?_)).mo ?_
      · by_cases e : x = t
        · subst e
          rw [← hσ1]
          refine ⟨?_, ?_, sA_wA_eq⟩
          · rw [sA_wA_j (by omega), sA_wA_j (by omega), sA_wA_eq]
          · rw [sA_wA_j (by omega), sA_wA_eq]
        · have := hK x (by omega)
          exact ⟨by rw [hoth _ (by omega)]; exact this.1, by rw [hoth _ (by omega)]; exact this.2.1, by rw [hoth _ (by omega)]; exact this.2.2⟩
      · rintro σ2 v ⟨q1, q2, q3⟩
        exact ⟨WW.tr q1, fun q hq => by rw [q2 q hq, hoth q (by omega)], q3⟩
theorem rf_writesState {m j L o : Nat} {σ : St} (hS : Sar m j L) (ho : o + 252 ≤ L) (hm : MS σ m) : Hx (fX12_writesState σ m (m + j) (nI o)) fun σ' _ => rfM m [] [j] nV σ σ' ∧ (∀ q, (q < o ∨ o + 252 ≤ q) → sA σ' (m + j) q = sA σ (m + j) q) ∧ Rda (snpR (sA σ' (m + j)) o) (curR σ m) := by
  obtain ⟨hj, hL, hst, hld⟩ := id hS
  have w1 : rfM m [] [j] nV σ (wA σ (m + j) o (sI σ (fid 16 40) m)) := rfM.wA (by simp) (by omega)
  have w2 : rfM m [] [j] nV (wA σ (m + j) o (sI σ (fid 16 40) m)) (wA (wA σ (m + j) o (sI σ (fid 16 40) m)) (m + j) (o + 1) (sI σ (fid 16 41) m)) := rfM.wA (by simp) (by omega)
  have e1 := hst σ o (sI σ (fid 16 40) m) hm (by omega)
  have e2 := hst (wA σ (m + j) o (sI σ (fid 16 40) m)) (o + 1) (sI σ (fid 16 41) m) hm (by omega)
  rw [n_fX12_writesState]
  (repeat (first | with_reducible refine hx_bs ?_ | with_reducible refine hx_cs ?_ | with_reducible refine hx_t ?_ | with_reducible refine hx_f ?_ | ((conv => arg 1; arg 1; simp (disch := first | assumption | exact MS_A (by assumption) | exact MS_I (by assumption) | exact MS_A (MS_A (by assumption)) | omega | exact Or.inr rfl | exact Or.inl rfl) only [sm_add, sm_mul, sm_le, sm_lt, sm_eq, sm_div, sm_sub, mx_le, mx_lt, mx_eq, xm_le, xm_lt, xm_eq, iz_le, iz_lt, iz_eq, nb0, nb1, sA_wA_b, sA_wA_eq, Nat.zero_le, not_true_eq_false, not_false_eq_true, Nat.reduceEqDiff, Bool.false_eq_true, rf_ck, rf_gI, rf_pI, e1, e2, sI_wA_]); first | with_reducible refine hx_bs ?_ | with_reducible refine hx_cs ?_ | with_reducible refine hx_t ?_ | with_reducible refine hx_f ?_ | with_reducible refine hx_nm ?_))); (try (conv => arg 1; arg 1; simp (disch := first | assumption | exact MS_A (by assumption) | exact MS_I (by assumption) | exact MS_A (MS_A (by assumption)) | omega | exact Or.inr rfl | exact Or.inl rfl) only [sm_add, sm_mul, sm_le, sm_lt, sm_eq, sm_div, sm_sub, mx_le, mx_lt, mx_eq, xm_le, xm_lt, xm_eq, iz_le, iz_lt, iz_eq, nb0, nb1, sA_wA_b, sA_wA_eq, Nat.zero_le, not_true_eq_false, not_false_eq_true, Nat.reduceEqDiff, Bool.false_eq_true, rf_ck, rf_gI, rf_pI, e1, e2, sI_wA_]))
  generalize hσ1 : wA (wA σ (m + j) o (sI σ (fid 16 40) m)) (m + j) (o + 1) (sI σ (fid 16 41) m) = σ1 at w2 ⊢
  have WW := w1.tr w2
  refine (rf_ws_things hS ho FU σ1 0 (WW.ms hm) (by unfold FU; omega) (by omega) rfl rfl rfl rfl rfl (fun x hx => by omega)).mo ?_
  rintro σ2 v ⟨q1, q2, q3, q4⟩
  have a36 : sA σ1 (m + 36) = sA σ (m + 36) := WW.ar 36 (by simp; omega)
  have a37 : sA σ1 (m + 37) = sA σ (m + 37) := WW.ar 37 (by simp; omega)
  have a18 : sA σ1 (m + 18) = sA σ (m + 18) := WW.ar 18 (by simp; omega)
  have a19 : sA σ1 (m + 19) = sA σ (m + 19) := WW.ar 19 (by simp; omega)
  have a20 : sA σ1 (m + 20) = sA σ (m + 20) := WW.ar 20 (by simp; omega)
  rw [a36, a37] at q4
  rw [a18, a19, a20] at q3
  refine ⟨WW.tr q1, fun q hq => ?_, ?_, ?_, q3, fun r hr => (q4 r hr).1, fun i hi => ?_⟩
  · rw [q2 q (by omega), ← hσ1, sA_wA_j (by omega), sA_wA_j (by omega)]
  · show sA σ2 (m + j) o = _
    rw [q2 o (by omega), ← hσ1, sA_wA_j (by omega), sA_wA_eq]
    rfl
  · show sA σ2 (m + j) (o + 1) = _
    rw [q2 (o + 1) (by omega), ← hσ1, sA_wA_eq]
    rfl
  · show sA σ2 (m + j) (o + 92 + 51 * (i / 50) + 1 + i % 50) = sA σ (m + 36) i
    rw [(q4 (i / 50) (by omega)).2 (i % 50) (by omega), Nat.div_add_mod]
