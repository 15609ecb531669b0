/-! ===== the reference: the state as a row of ints ===== -/
abbrev Rd := Int32 × Int32 × (Nat → Int32) × (Nat → Int32) × (Nat → Int32) × (Nat → Int32) × (Nat → Int32)
def curR (σ : St) (m : Nat) : Rd := (sI σ (fid 16 40) m, sI σ (fid 16 41) m, sA σ (m + 18), sA σ (m + 19), sA σ (m + 20), sA σ (m + 37), sA σ (m + 36))
def snpR (A : Nat → Int32) (o : Nat) : Rd := (A o, A (o + 1), fun t => A (o + 2 + 3 * t), fun t => A (o + 2 + 3 * t + 1), fun t => A (o + 2 + 3 * t + 2), fun r => A (o + 92 + 51 * r), fun i => A (o + 92 + 51 * (i / 50) + 1 + i % 50))
def Rda (a b : Rd) : Prop := a.1 = b.1 ∧ a.2.1 = b.2.1 ∧ (∀ t, t < 30 → a.2.2.1 t = b.2.2.1 t ∧ a.2.2.2.1 t = b.2.2.2.1 t ∧ a.2.2.2.2.1 t = b.2.2.2.2.1 t) ∧ (∀ r, r < 3 → a.2.2.2.2.2.1 r = b.2.2.2.2.2.1 r) ∧ ∀ i, i < 150 → a.2.2.2.2.2.2 i = b.2.2.2.2.2.2 i
theorem Rda.rf {a : Rd} : Rda a a := ⟨rfl, rfl, fun _ _ => ⟨rfl, rfl, rfl⟩, fun _ _ => rfl, fun _ _ => rfl⟩
theorem Rda.sy {a b : Rd} (h : Rda a b) : Rda b a := ⟨h.1.symm, h.2.1.symm, fun t ht => ⟨(h.2.2.1 t ht).1.symm, (h.2.2.1 t ht).2.1.symm, (h.2.2.1 t ht).2.2.symm⟩, fun r hr => (h.2.2.2.1 r hr).symm, fun i hi => (h.2.2.2.2 i hi).symm⟩
theorem Rda.tr {a b c : Rd} (h : Rda a b) (h' : Rda b c) : Rda a c := ⟨h.1.trans h'.1, h.2.1.trans h'.2.1, fun t ht => ⟨(h.2.2.1 t ht).1.trans (h'.2.2.1 t ht).1, (h.2.2.1 t ht).2.1.trans (h'.2.2.1 t ht).2.1, (h.2.2.1 t ht).2.2.trans (h'.2.2.1 t ht).2.2⟩, fun r hr => (h.2.2.2.1 r hr).trans (h'.2.2.2.1 r hr), fun i hi => (h.2.2.2.2 i hi).trans (h'.2.2.2.2 i hi)⟩
theorem snpR_w {A B : Nat → Int32} {o : Nat} (h : ∀ i, o ≤ i → i < o + 245 → A i = B i) : Rda (snpR A o) (snpR B o) := by
  refine ⟨h _ (by omega) (by omega), h _ (by omega) (by omega), fun t ht => ⟨h _ (by omega) (by omega), h _ (by omega) (by omega), h _ (by omega) (by omega)⟩, fun r hr => h _ (by omega) (by omega), fun i hi => ?_⟩
  have h1 : i / 50 < 3 := by omega
  have h2 : i % 50 < 50 := by omega
  show A (o + 92 + 51 * (i / 50) + 1 + i % 50) = B (o + 92 + 51 * (i / 50) + 1 + i % 50)
  exact h _ (by omega) (by omega)
/-- an array that a state can be written to: its number, its length -/
def Sar (m j L : Nat) : Prop := (j = 38 ∨ j = 39 ∨ j = 40) ∧ L ≤ 5040 ∧ (∀ (σ : St) (k : Nat) (v : Int32), MS σ m → k < L → stI σ (m + j) (nI k) v = some (wA σ (m + j) k v)) ∧ ∀ (σ : St) (k : Nat), MS σ m → k < L → ldI σ (m + j) (nI k) = some (sA σ (m + j) k)
theorem Sar_saved {m : Nat} : Sar m 38 252 := ⟨by omega, by omega, fun _ _ _ h hk => st_saved h hk, fun _ _ h hk => ld_saved h hk⟩
theorem Sar_undos {m : Nat} : Sar m 39 5040 := ⟨by omega, by omega, fun _ _ _ h hk => st_undos h hk, fun _ _ h hk => ld_undos h hk⟩
theorem Sar_redos {m : Nat} : Sar m 40 5040 := ⟨by omega, by omega, fun _ _ _ h hk => st_redos h hk, fun _ _ h hk => ld_redos h hk⟩
theorem rf_ws_row {m j L o r : Nat} {R : Nat → Int32} {P : St → Unit → Prop} (k77 : St → Nat → Nat → Int32 → Int32 → Option (St × Unit)) (hS : Sar m j L) (hr : r < 3) (ho : o + 252 ≤ L) : ∀ (n : Nat) (σ : St) (i : Nat), MS σ m → 50 - i < n → i ≤ 50 → sA σ (m + 36) = R →
      (∀ x, x < i → sA σ (m + j) (o + 92 + 51 * r + 1 + x) = R (50 * r + x)) →
      (∀ σ', rfM m [] [j] nV σ σ' → (∀ q, (q < o + 92 + 51 * r + 1 ∨ o + 92 + 51 * r + 51 ≤ q) → sA σ' (m + j) q = sA σ (m + j) q) → (∀ x, x < 50 → sA σ' (m + j) (o + 92 + 51 * r + 1 + x) = R (50 * r + x)) → Hx (k77 σ' m (m + j) (nI (o + 92 + 51 * (r + 1))) (nI (r + 1))) P) →
      Hx (fX12_writesState_99 k77 n σ m (m + j) (nI (o + 92 + 51 * r + 1 + i)) (nI r) (nI i)) P := by
  obtain ⟨hj, hL, hst, hld⟩ := id hS
  intro n
  induction n with
  | zero => intro σ i _ h; omega
  | succ n ih =>
    intro σ i hm hn hi hR hW hk
    rw [n_fX12_writesState_99]
    refine Hx.ce (sm_le (by omega) (by omega)) (fun hc => ?_) (fun hc => ?_)
    · have hi50 : i = 50 := by omega
      subst hi50
      refine hx_nm ?_
      rw [sm_add, show o + 92 + 51 * r + 1 + 50 = o + 92 + 51 * (r + 1) by omega]
      exact hk σ rfM.rf (fun _ _ => rfl) hW
    · have w : rfM m [] [j] nV σ (wA σ (m + j) (o + 92 + 51 * r + 1 + i) (R (50 * r + i))) := rfM.wA (by simp) (by omega)
      have e1 := hst σ (o + 92 + 51 * r + 1 + i) (R (50 * r + i)) hm (by omega)
      rw [rf_row hm]
      refine hx_bs ?_
      rw [sm_mul, sm_add, ld_row hm (by omega), hR]
      refine hx_bs ?_
      rw [e1]
      refine hx_bs (hx_nm (hx_nm ?_))
      rw [sm_add, sm_add]
      rw [show o + 92 + 51 * r + 1 + i + 1 = o + 92 + 51 * r + 1 + (i + 1) by omega]
      refine ih (wA σ (m + j) (o + 92 + 51 * r + 1 + i) (R (50 * r + i))) (i + 1) hm (by omega) (by omega) (by rw [sA_wA_b (by omega)]; exact hR) (fun x hx => ?_) ?_
      · by_cases e : x = i
        · subst e; exact sA_wA_eq
        · rw [sA_wA_j (by omega)]; exact hW x (by omega)
      · intro σ' h1 h2 h3
        exact hk σ' (w.tr h1) (fun q hq => by rw [h2 q hq, sA_wA_j (by omega)]) h3
theorem rf_ws_rows {m j L o : Nat} {R C : Nat → Int32} (hS : Sar m j L) (ho : o + 252 ≤ L) : ∀ (n : Nat) (σ : St) (r : Nat), MS σ m → 3 - r < n → r ≤ 3 → sA σ (m + 36) = R → sA σ (m + 37) = C →
      (∀ x, x < r → sA σ (m + j) (o + 92 + 51 * x) = C x ∧ ∀ i, i < 50 → sA σ (m + j) (o + 92 + 51 * x + 1 + i) = R (50 * x + i)) →
      Hx (fX12_writesState_77 n σ m (m + j) (nI (o + 92 + 51 * r)) (nI r)) fun σ' _ => rfM m [] [j] nV σ σ' ∧ (∀ q, (q < o + 92 ∨ o + 252 ≤ q) → sA σ' (m + j) q = sA σ (m + j) q) ∧ ∀ x, x < 3 → sA σ' (m + j) (o + 92 + 51 * x) = C x ∧ ∀ i, i < 50 → sA σ' (m + j) (o + 92 + 51 * x + 1 + i) = R (50 * x + i) := by
  obtain ⟨hj, hL, hst, hld⟩ := id hS
  intro n
  induction n with
  | zero => intro σ r _ h; omega
  | succ n ih =>
    intro σ r hm hn hr hR hC hW
    rw [n_fX12_writesState_77]
    refine Hx.ce (sm_le (by omega) (by omega)) (fun hc => ?_) (fun hc => ?_)
    · exact Hx.ret ⟨rfM.rf, fun _ _ => rfl, fun x hx => hW x (by omega)⟩
    · have w : rfM m [] [j] nV σ (wA σ (m + j) (o + 92 + 51 * r) (C r)) := rfM.wA (by simp) (by omega)
      have e1 := hst σ (o + 92 + 51 * r) (C r) hm (by omega)
      rw [rf_rowMany hm]
      refine hx_bs ?_
      rw [ld_rowMany hm (by omega), hC]
      refine hx_bs ?_
      rw [e1]
      refine hx_bs (hx_nm ?_)
      rw [sm_add]
      refine rf_ws_row (R := R) (i := 0) (o := o) (r := r) (fX12_writesState_77 n) hS (by omega) ho FU (wA σ (m + j) (o + 92 + 51 * r) (C r)) hm (by unfold FU; omega) (by omega) (by rw [sA_wA_b (by omega)]; exact hR) (fun x hx => by omega) ?_
      intro σ1 h1 h2 h3
      have hm1 := h1.ms hm
      refine (ih σ1 (r + 1) hm1 (by omega) (by omega) (by rw [h1.ar 36 ⟨by simp; omega, by omega, by omega⟩, sA_wA_b (by omega)]; exact hR) (by rw [h1.ar 37 ⟨by simp; omega, by omega, by omega⟩, sA_wA_b (by omega)]; exact hC) (fun x hx => ?_)).mo ?_
      · by_cases e : x = r
        · subst e
          refine ⟨by rw [h2 _ (by omega), sA_wA_eq], h3⟩
        · have := hW x (by omega)
          refine ⟨by rw [h2 _ (by omega), sA_wA_j (by omega)]; exact this.1, fun i hi => ?_⟩
          rw [h2 _ (by omega), sA_wA_j (by omega)]
          exact this.2 i hi
      · rintro σ2 v ⟨q1, q2, q3⟩
        refine ⟨w.tr (h1.tr q1), fun q hq => ?_, q3⟩
        rw [q2 q hq, h2 q (by omega), sA_wA_j (by omega)]
theorem rf_ws_things {m j L o : Nat} {R C W D V : Nat → Int32} (hS : Sar m j L) (ho : o + 252 ≤ L) : ∀ (n : Nat) (σ : St) (t : Nat), MS σ m → 30 - t < n → t ≤ 30 → sA σ (m + 36) = R → sA σ (m + 37) = C → sA σ (m + 18) = W → sA σ (m + 19) = D → sA σ (m + 20) = V →
      (∀ x, x < t → sA σ (m + j) (o + 2 + 3 * x) = W x ∧ sA σ (m + j) (o + 2 + 3 * x + 1) = D x ∧ sA σ (m + j) (o + 2 + 3 * x + 2) = V x) →
      Hx (fX12_writesState_24 n σ m (m + j) (nI (o + 2 + 3 * t)) (nI t)) fun σ' _ => rfM m [] [j] nV σ σ' ∧ (∀ q, (q < o + 2 ∨ o + 252 ≤ q) → sA σ' (m + j) q = sA σ (m + j) q) ∧ (∀ x, x < 30 → sA σ' (m + j) (o + 2 + 3 * x) = W x ∧ sA σ' (m + j) (o + 2 + 3 * x + 1) = D x ∧ sA σ' (m + j) (o + 2 + 3 * x + 2) = V x) ∧ ∀ x, x < 3 → sA σ' (m + j) (o + 92 + 51 * x) = C x ∧ ∀ i, i < 50 → sA σ' (m + j) (o + 92 + 51 * x + 1 + i) = R (50 * x + i) := by
  obtain ⟨hj, hL, hst, hld⟩ := id hS
  intro n
  induction n with
  | zero => intro σ r _ h; omega
  | succ n ih =>
    intro σ t hm hn ht hR hC hW hD hV hK
    rw [n_fX12_writesState_24]
    refine Hx.ce (sm_le (by omega) (by omega)) (fun hc => ?_) (fun hc => ?_)
    · have h30 : t = 30 := by omega
      subst h30
      rw [show o + 2 + 3 * 30 = o + 92 + 51 * 0 by omega]
      refine (rf_ws_rows hS ho FU σ 0 hm (by unfold FU; omega) (by omega) hR hC (fun x hx => by omega)).mo ?_
      rintro σ1 v ⟨q1, q2, q3⟩
      exact ⟨q1, fun q hq => q2 q (by omega), fun x hx => ⟨by rw [q2 _ (by omega)]; exact (hK x hx).1, by rw [q2 _ (by omega)]; exact (hK x hx).2.1, by rw [q2 _ (by omega)]; exact (hK x hx).2.2⟩, q3⟩
    · obtain ⟨σa, ha⟩ : ∃ s, s = wA σ (m + j) (o + 2 + 3 * t) (W t) := ⟨_, rfl⟩
      have wa : rfM m [] [j] nV σ σa := by rw [ha]; exact rfM.wA (by simp) (by omega)
      have hma := wa.ms hm
      obtain ⟨σb, hb⟩ : ∃ s, s = wA σa (m + j) (o + 2 + 3 * t + 1) (D t) := ⟨_, rfl⟩
      have wb : rfM m [] [j] nV σa σb := by rw [hb]; exact rfM.wA (by simp) (by omega)
      have hmb := wb.ms hma
      obtain ⟨σ1, hσ1⟩ : ∃ s, s = wA σb (m + j) (o + 2 + 3 * t + 2) (V t) := ⟨_, rfl⟩
      have wc : rfM m [] [j] nV σb σ1 := by rw [hσ1]; exact rfM.wA (by simp) (by omega)
      have e1 : stI σ (m + j) (nI (o + 2 + 3 * t)) (W t) = some σa := by rw [ha]; exact hst σ _ _ hm (by omega)
      have e2 : stI σa (m + j) (nI (o + 2 + 3 * t + 1)) (D t) = some σb := by rw [hb]; exact hst σa _ _ hma (by omega)
      have e3 : stI σb (m + j) (nI (o + 2 + 3 * t + 2)) (V t) = some σ1 := by rw [hσ1]; exact hst σb _ _ hmb (by omega)
      have Da : sA σa (m + 19) = D := (wa.ar 19 ⟨by simp; omega, by omega, by omega⟩).trans hD
      have Vb : sA σb (m + 20) = V := ((wa.tr wb).ar 20 ⟨by simp; omega, by omega, by omega⟩).trans hV
      rw [rf_word hm]
      refine hx_bs ?_
      rw [ld_word hm (by omega), hW]
      refine hx_bs ?_
      rw [e1]
      refine hx_bs ?_
      rw [rf_def hma]
      refine hx_bs ?_
      rw [ld_def hma (by omega), Da]
      refine hx_bs ?_
      rw [sm_add, e2]
      refine hx_bs ?_
      rw [rf_valueOf hmb]
      refine hx_bs ?_
      rw [ld_valueOf hmb (by omega), Vb]
      refine hx_bs ?_
      rw [sm_add, e3]
      refine hx_bs (hx_nm (hx_nm ?_))
      rw [sm_add, sm_add]
      have WW := wa.tr (wb.tr wc)
      have hoth : ∀ q, (q < o + 2 + 3 * t ∨ o + 2 + 3 * t + 3 ≤ q) → sA σ1 (m + j) q = sA σ (m + j) q := by
        intro q hq
        rw [hσ1, sA_wA_j (by omega), hb, sA_wA_j (by omega), ha, sA_wA_j (by omega)]
      rw [show o + 2 + 3 * t + 3 = o + 2 + 3 * (t + 1) by omega]
      refine (ih σ1 (t + 1) (WW.ms hm) (by omega) (by omega) (by rw [WW.ar 36 ⟨by simp; omega, by omega, by omega⟩]; exact hR) (by rw [WW.ar 37 ⟨by simp; omega, by omega, by omega⟩]; exact hC) (by rw [WW.ar 18 ⟨by simp; omega, by omega, by omega⟩]; exact hW) (by rw [WW.ar 19 ⟨by simp; omega, by omega, by omega⟩]; exact hD) (by rw [WW.ar 20 ⟨by simp; omega, by omega, by omega⟩]; exact hV) (fun x hx => ?_)).mo ?_
      · by_cases e : x = t
        · subst e
          refine ⟨?_, ?_, ?_⟩
          · rw [hσ1, sA_wA_j (by omega), hb, sA_wA_j (by omega), ha, sA_wA_eq]
          · rw [hσ1, sA_wA_j (by omega), hb, sA_wA_eq]
          · rw [hσ1, sA_wA_eq]
        · have := hK x (by omega)
          exact ⟨by rw [hoth _ (by omega)]; exact this.1, by rw [hoth _ (by omega)]; exact this.2.1, by rw [hoth _ (by omega)]; exact this.2.2⟩
      · rintro σ2 v ⟨q1, q2, q3⟩
        exact ⟨WW.tr q1, fun q hq => by rw [q2 q hq, hoth q (by omega)], q3⟩
theorem rf_writesState {m j L o : Nat} {σ : St} (hS : Sar m j L) (ho : o + 252 ≤ L) (hm : MS σ m) : Hx (fX12_writesState σ m (m + j) (nI o)) fun σ' _ => rfM m [] [j] nV σ σ' ∧ (∀ q, (q < o ∨ o + 252 ≤ q) → sA σ' (m + j) q = sA σ (m + j) q) ∧ Rda (snpR (sA σ' (m + j)) o) (curR σ m) := by
  obtain ⟨hj, hL, hst, hld⟩ := id hS
  have w1 : rfM m [] [j] nV σ (wA σ (m + j) o (sI σ (fid 16 40) m)) := rfM.wA (by simp) (by omega)
  have w2 : rfM m [] [j] nV (wA σ (m + j) o (sI σ (fid 16 40) m)) (wA (wA σ (m + j) o (sI σ (fid 16 40) m)) (m + j) (o + 1) (sI σ (fid 16 41) m)) := rfM.wA (by simp) (by omega)
  have e1 := hst σ o (sI σ (fid 16 40) m) hm (by omega)
  have e2 := hst (wA σ (m + j) o (sI σ (fid 16 40) m)) (o + 1) (sI σ (fid 16 41) m) hm (by omega)
  rw [n_fX12_writesState, rf_gI hm]
  refine hx_bs ?_
  rw [e1]
  refine hx_bs ?_
  rw [rf_gI (ms_wA hm)]
  refine hx_bs ?_
  rw [show sI (wA σ (m + j) o (sI σ (fid 16 40) m)) (fid 16 41) m = sI σ (fid 16 41) m from rfl, sm_add, e2]
  refine hx_bs (hx_nm ?_)
  rw [sm_add]
  generalize hσ1 : wA (wA σ (m + j) o (sI σ (fid 16 40) m)) (m + j) (o + 1) (sI σ (fid 16 41) m) = σ1 at w2 ⊢
  have WW := w1.tr w2
  refine (rf_ws_things hS ho FU σ1 0 (WW.ms hm) (by unfold FU; omega) (by omega) rfl rfl rfl rfl rfl (fun x hx => by omega)).mo ?_
  rintro σ2 v ⟨q1, q2, q3, q4⟩
  have a36 : sA σ1 (m + 36) = sA σ (m + 36) := WW.ar 36 ⟨by simp; omega, by omega, by omega⟩
  have a37 : sA σ1 (m + 37) = sA σ (m + 37) := WW.ar 37 ⟨by simp; omega, by omega, by omega⟩
  have a18 : sA σ1 (m + 18) = sA σ (m + 18) := WW.ar 18 ⟨by simp; omega, by omega, by omega⟩
  have a19 : sA σ1 (m + 19) = sA σ (m + 19) := WW.ar 19 ⟨by simp; omega, by omega, by omega⟩
  have a20 : sA σ1 (m + 20) = sA σ (m + 20) := WW.ar 20 ⟨by simp; omega, by omega, by omega⟩
  rw [a36, a37] at q4
  rw [a18, a19, a20] at q3
  refine ⟨WW.tr q1, fun q hq => ?_, ?_, ?_, q3, fun r hr => (q4 r hr).1, fun i hi => ?_⟩
  · rw [q2 q (by omega), ← hσ1, sA_wA_j (by omega), sA_wA_j (by omega)]
  · show sA σ2 (m + j) o = _
    rw [q2 o (by omega), ← hσ1, sA_wA_j (by omega), sA_wA_eq]
    rfl
  · show sA σ2 (m + j) (o + 1) = _
    rw [q2 (o + 1) (by omega), ← hσ1, sA_wA_eq]
    rfl
  · show sA σ2 (m + j) (o + 92 + 51 * (i / 50) + 1 + i % 50) = sA σ (m + 36) i
    rw [(q4 (i / 50) (by omega)).2 (i % 50) (by omega), Nat.div_add_mod]
