/-! ===== the reference: a state comes back ===== -/
abbrev A5 : List Nat := [18, 19, 20, 36, 37]
theorem rf_rs_row {m j L o r : Nat} {A : Nat → Int32} {P : St → Unit → Prop} (k77 : St → Nat → Nat → Int32 → Int32 → Option (St × Unit)) (hS : Sar m j L) (hr : r < 3) (ho : o + 252 ≤ L) : ∀ (n : Nat) (σ : St) (i : Nat), MS σ m → 50 - i < n → i ≤ 50 → sA σ (m + j) = A →
      (∀ x, x < i → sA σ (m + 36) (50 * r + x) = A (o + 92 + 51 * r + 1 + x)) →
      (∀ σ', rfM m [] [36] nV σ σ' → (∀ q, (q < 50 * r ∨ 50 * r + 50 ≤ q) → sA σ' (m + 36) q = sA σ (m + 36) q) → (∀ x, x < 50 → sA σ' (m + 36) (50 * r + x) = A (o + 92 + 51 * r + 1 + x)) → Hx (k77 σ' m (m + j) (nI (o + 92 + 51 * (r + 1))) (nI (r + 1))) P) →
      Hx (fX12_readsState_99 k77 n σ m (m + j) (nI (o + 92 + 51 * r + 1 + i)) (nI r) (nI i)) P := by
  obtain ⟨hj, hL, hst, hld⟩ := id hS
  intro n
  induction n with
  | zero => intro σ i _ h; omega
  | succ n ih =>
    intro σ i hm hn hi hR hW hk
    rw [n_fX12_readsState_99]
    refine Hx.ce (sm_le (by omega) (by omega)) (fun hc => ?_) (fun hc => ?_)
    · have hi50 : i = 50 := by omega
      subst hi50
      refine hx_nm ?_
      rw [sm_add, show o + 92 + 51 * r + 1 + 50 = o + 92 + 51 * (r + 1) by omega]
      exact hk σ rfM.rf (fun _ _ => rfl) hW
    · have w : rfM m [] [36] nV σ (wA σ (m + 36) (50 * r + i) (A (o + 92 + 51 * r + 1 + i))) := rfM.wA (by simp) (by omega)
      rw [rf_row hm]
      refine hx_bs ?_
      rw [hld σ _ hm (by omega), hR]
      refine hx_bs ?_
      rw [sm_mul, sm_add, st_row hm (by omega)]
      refine hx_bs (hx_nm (hx_nm ?_))
      rw [sm_add, sm_add]
      rw [show o + 92 + 51 * r + 1 + i + 1 = o + 92 + 51 * r + 1 + (i + 1) by omega]
      refine ih (wA σ (m + 36) (50 * r + i) (A (o + 92 + 51 * r + 1 + i))) (i + 1) hm (by omega) (by omega) (by rw [sA_wA_b (by omega)]; exact hR) (fun x hx => ?_) ?_
      · by_cases e : x = i
        · subst e; exact sA_wA_eq
        · rw [sA_wA_j (by omega)]; exact hW x (by omega)
      · intro σ' h1 h2 h3
        exact hk σ' (w.tr h1) (fun q hq => by rw [h2 q hq, sA_wA_j (by omega)]) h3
theorem rf_rs_rows {m j L o : Nat} {A : Nat → Int32} (hS : Sar m j L) (ho : o + 252 ≤ L) : ∀ (n : Nat) (σ : St) (r : Nat), MS σ m → 3 - r < n → r ≤ 3 → sA σ (m + j) = A →
      (∀ x, x < r → sA σ (m + 37) x = A (o + 92 + 51 * x) ∧ ∀ i, i < 50 → sA σ (m + 36) (50 * x + i) = A (o + 92 + 51 * x + 1 + i)) →
      Hx (fX12_readsState_77 n σ m (m + j) (nI (o + 92 + 51 * r)) (nI r)) fun σ' _ => rfM m [] [36, 37] nV σ σ' ∧ ∀ x, x < 3 → sA σ' (m + 37) x = A (o + 92 + 51 * x) ∧ ∀ i, i < 50 → sA σ' (m + 36) (50 * x + i) = A (o + 92 + 51 * x + 1 + i) := by
  obtain ⟨hj, hL, hst, hld⟩ := id hS
  intro n
  induction n with
  | zero => intro σ r _ h; omega
  | succ n ih =>
    intro σ r hm hn hr hR hW
    rw [n_fX12_readsState_77]
    refine Hx.ce (sm_le (by omega) (by omega)) (fun hc => ?_) (fun hc => ?_)
    · exact Hx.ret ⟨rfM.rf, fun x hx => hW x (by omega)⟩
    · have w : rfM m [] [36, 37] nV σ (wA σ (m + 37) r (A (o + 92 + 51 * r))) := rfM.wA (by simp) (by omega)
      rw [rf_rowMany hm]
      refine hx_bs ?_
      rw [hld σ _ hm (by omega), hR]
      refine hx_bs ?_
      rw [st_rowMany hm (by omega)]
      refine hx_bs (hx_nm ?_)
      rw [sm_add]
      refine rf_rs_row (A := A) (i := 0) (o := o) (r := r) (fX12_readsState_77 n) hS (by omega) ho FU (wA σ (m + 37) r (A (o + 92 + 51 * r))) hm (by unfold FU; omega) (by omega) (by rw [sA_wA_b (by omega)]; exact hR) (fun x hx => by omega) ?_
      intro σ1 h1 h2 h3
      have hm1 := h1.ms hm
      refine (ih σ1 (r + 1) hm1 (by omega) (by omega) (by rw [h1.ar j ⟨by simp; omega, by omega, by omega⟩, sA_wA_b (by omega)]; exact hR) (fun x hx => ?_)).mo ?_
      · have a37 : sA σ1 (m + 37) = sA (wA σ (m + 37) r (A (o + 92 + 51 * r))) (m + 37) := h1.ar 37 ⟨by simp, by omega, by omega⟩
        by_cases e : x = r
        · subst e
          exact ⟨by rw [a37, sA_wA_eq], h3⟩
        · have := hW x (by omega)
          refine ⟨by rw [a37, sA_wA_j (by omega)]; exact this.1, fun i hi => ?_⟩
          rw [h2 _ (by omega), sA_wA_b (by omega)]
          exact this.2 i hi
      · rintro σ2 v ⟨q1, q3⟩
        exact ⟨w.tr ((h1.mo ⟨fun _ q => q, by simp⟩ (fun _ q => q)).tr q1), q3⟩
theorem rf_rs_things {m j L o : Nat} {A : Nat → Int32} (hS : Sar m j L) (ho : o + 252 ≤ L) : ∀ (n : Nat) (σ : St) (t : Nat), MS σ m → 30 - t < n → t ≤ 30 → sA σ (m + j) = A →
      (∀ x, x < t → sA σ (m + 18) x = A (o + 2 + 3 * x) ∧ sA σ (m + 19) x = A (o + 2 + 3 * x + 1) ∧ sA σ (m + 20) x = A (o + 2 + 3 * x + 2)) →
      Hx (fX12_readsState_24 n σ m (m + j) (nI (o + 2 + 3 * t)) (nI t)) fun σ' _ => rfM m [] A5 nV σ σ' ∧ (∀ x, x < 30 → sA σ' (m + 18) x = A (o + 2 + 3 * x) ∧ sA σ' (m + 19) x = A (o + 2 + 3 * x + 1) ∧ sA σ' (m + 20) x = A (o + 2 + 3 * x + 2)) ∧ ∀ x, x < 3 → sA σ' (m + 37) x = A (o + 92 + 51 * x) ∧ ∀ i, i < 50 → sA σ' (m + 36) (50 * x + i) = A (o + 92 + 51 * x + 1 + i) := by
  obtain ⟨hj, hL, hst, hld⟩ := id hS
  intro n
  induction n with
  | zero => intro σ r _ h; omega
  | succ n ih =>
    intro σ t hm hn ht hR hK
    rw [n_fX12_readsState_24]
    refine Hx.ce (sm_le (by omega) (by omega)) (fun hc => ?_) (fun hc => ?_)
    · have h30 : t = 30 := by omega
      subst h30
      rw [show o + 2 + 3 * 30 = o + 92 + 51 * 0 by omega]
      refine (rf_rs_rows hS ho FU σ 0 hm (by unfold FU; omega) (by omega) hR (fun x hx => by omega)).mo ?_
      rintro σ1 v ⟨q1, q3⟩
      refine ⟨q1.mo ⟨fun _ q => q, by simp⟩ (fun _ q => q), fun x hx => ?_, q3⟩
      rw [q1.ar 18 ⟨by simp, by omega, by omega⟩, q1.ar 19 ⟨by simp, by omega, by omega⟩, q1.ar 20 ⟨by simp, by omega, by omega⟩]
      exact hK x hx
    · obtain ⟨σa, ha⟩ : ∃ s, s = wA σ (m + 18) t (A (o + 2 + 3 * t)) := ⟨_, rfl⟩
      have wa : rfM m [] A5 nV σ σa := by rw [ha]; exact rfM.wA (by simp) (by omega)
      have hma := wa.ms hm
      obtain ⟨σb, hb⟩ : ∃ s, s = wA σa (m + 19) t (A (o + 2 + 3 * t + 1)) := ⟨_, rfl⟩
      have wb : rfM m [] A5 nV σa σb := by rw [hb]; exact rfM.wA (by simp) (by omega)
      have hmb := wb.ms hma
      obtain ⟨σ1, hσ1⟩ : ∃ s, s = wA σb (m + 20) t (A (o + 2 + 3 * t + 2)) := ⟨_, rfl⟩
      have wc : rfM m [] A5 nV σb σ1 := by rw [hσ1]; exact rfM.wA (by simp) (by omega)
      have hjA : j ∉ A5 ∧ j ≠ 3 ∧ j ≠ 4 := by
        rcases hj with rfl | rfl | rfl
        all_goals decide
      have Ra : sA σa (m + j) = A := (wa.ar j hjA).trans hR
      have Rb : sA σb (m + j) = A := (wb.ar j hjA).trans Ra
      have Rc : sA σ1 (m + j) = A := (wc.ar j hjA).trans Rb
      rw [rf_word hm]
      refine hx_bs ?_
      rw [hld σ _ hm (by omega), hR]
      refine hx_bs ?_
      rw [st_word hm (by omega), ← ha]
      refine hx_bs ?_
      rw [rf_def hma]
      refine hx_bs ?_
      rw [sm_add, hld σa _ hma (by omega), Ra]
      refine hx_bs ?_
      rw [st_def hma (by omega), ← hb]
      refine hx_bs ?_
      rw [rf_valueOf hmb]
      refine hx_bs ?_
      rw [sm_add, hld σb _ hmb (by omega), Rb]
      refine hx_bs ?_
      rw [st_valueOf hmb (by omega), ← hσ1]
      refine hx_bs (hx_nm (hx_nm ?_))
      rw [sm_add, sm_add]
      have WW := wa.tr (wb.tr wc)
      have c18 : sA σ1 (m + 18) = sA (wA σ (m + 18) t (A (o + 2 + 3 * t))) (m + 18) := by rw [hσ1, sA_wA_b (by omega), hb, sA_wA_b (by omega), ha]
      have c19 : sA σ1 (m + 19) = sA (wA σa (m + 19) t (A (o + 2 + 3 * t + 1))) (m + 19) := by rw [hσ1, sA_wA_b (by omega), hb]
      have d19 : sA σa (m + 19) = sA σ (m + 19) := by rw [ha, sA_wA_b (by omega)]
      have d20 : sA σb (m + 20) = sA σ (m + 20) := by rw [hb, sA_wA_b (by omega), ha, sA_wA_b (by omega)]
      rw [show o + 2 + 3 * t + 3 = o + 2 + 3 * (t + 1) by omega]
      refine (ih σ1 (t + 1) (WW.ms hm) (by omega) (by omega) Rc (fun x hx => ?_)).mo ?_
      · by_cases e : x = t
        · subst e
          refine ⟨?_, ?_, ?_⟩
          · rw [c18, sA_wA_eq]
          · rw [c19, sA_wA_eq]
          · rw [hσ1, sA_wA_eq]
        · have := hK x (by omega)
          refine ⟨?_, ?_, ?_⟩
          · rw [c18, sA_wA_j e]; exact this.1
          · rw [c19, sA_wA_j e, d19]; exact this.2.1
          · rw [hσ1, sA_wA_j e, d20]; exact this.2.2
      · rintro σ2 v ⟨q1, q2, q3⟩
        exact ⟨WW.tr q1, q2, q3⟩
theorem rf_readsState {m j L o : Nat} {σ : St} (hS : Sar m j L) (ho : o + 252 ≤ L) (hm : MS σ m) : Hx (fX12_readsState σ m (m + j) (nI o)) fun σ' _ => rfM m [40, 41] A5 nV σ σ' ∧ Rda (curR σ' m) (snpR (sA σ (m + j)) o) := by
  obtain ⟨hj, hL, hst, hld⟩ := id hS
  obtain ⟨σa, ha⟩ : ∃ s, s = wI σ (fid 16 40) m (sA σ (m + j) o) := ⟨_, rfl⟩
  have wa : rfM m [40, 41] A5 nV σ σa := by rw [ha]; exact rfM.wI (by simp)
  have hma := wa.ms hm
  have Aa : sA σa (m + j) = sA σ (m + j) := by rw [ha, sA_wI_]
  obtain ⟨σ1, hb⟩ : ∃ s, s = wI σa (fid 16 41) m (sA σ (m + j) (o + 1)) := ⟨_, rfl⟩
  have wb : rfM m [40, 41] A5 nV σa σ1 := by rw [hb]; exact rfM.wI (by simp)
  have A1 : sA σ1 (m + j) = sA σ (m + j) := by rw [hb, sA_wI_, Aa]
  rw [n_fX12_readsState, hld σ o hm (by omega)]
  refine hx_bs ?_
  rw [rf_pI hm, ← ha]
  refine hx_bs ?_
  rw [sm_add, hld σa _ hma (by omega), Aa]
  refine hx_bs ?_
  rw [rf_pI hma, ← hb]
  refine hx_bs (hx_nm ?_)
  rw [sm_add]
  have WW := wa.tr wb
  refine (rf_rs_things hS ho FU σ1 0 (WW.ms hm) (by unfold FU; omega) (by omega) A1 (fun x hx => by omega)).mo ?_
  rintro σ2 v ⟨q1, q3, q4⟩
  have i40 : sI σ2 (fid 16 40) m = sA σ (m + j) o := (q1.fd (by simp)).trans (by rw [hb, sI_wI_f (by decide), ha, sI_wI_eq])
  have i41 : sI σ2 (fid 16 41) m = sA σ (m + j) (o + 1) := (q1.fd (by simp)).trans (by rw [hb, sI_wI_eq])
  refine ⟨WW.tr (q1.mo ⟨fun _ q => (by cases q), fun _ q => q⟩ (fun _ q => q)), i40, i41, q3, fun r hr => (q4 r hr).1, fun i hi => ?_⟩
  show sA σ2 (m + 36) i = sA σ (m + j) (o + 92 + 51 * (i / 50) + 1 + i % 50)
  have := (q4 (i / 50) (by omega)).2 (i % 50) (by omega)
  rw [Nat.div_add_mod] at this
  exact this
theorem rf_saves {m : Nat} {σ : St} (hm : MS σ m) : Hx (fX12_saves σ m) fun σ' _ => rfM m [] [38] nV σ σ' ∧ Rda (snpR (sA σ' (m + 38)) 0) (curR σ m) := by
  rw [n_fX12_saves, rf_saved hm]
  refine hx_bs ?_
  rw [rf_ck hm]
  refine hx_bs ?_
  refine Hx.bd (rf_writesState (o := 0) Sar_saved (by omega) hm) (fun σ1 _ h => ?_)
  exact Hx.ret ⟨h.1, h.2.2⟩
theorem rf_forgets {m : Nat} {σ : St} (hm : MS σ m) : Hx (fX12_forgets σ m) fun σ' _ => rfM m [40, 41] A5 nV σ σ' ∧ Rda (curR σ' m) (snpR (sA σ (m + 38)) 0) := by
  rw [n_fX12_forgets, rf_saved hm]
  refine hx_bs ?_
  rw [rf_ck hm]
  refine hx_bs ?_
  refine Hx.bd (rf_readsState (o := 0) Sar_saved (by omega) hm) (fun σ1 _ h => ?_)
  exact Hx.ret h
