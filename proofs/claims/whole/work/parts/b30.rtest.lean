/-! ===== the reference: a row, a slot, a step that isn't there ===== -/
def Tst (m : Nat) (P : Prop) (σ σ' : St) (v : Int32) : Prop := (P ∧ v = nI 0 ∧ σ' = σ) ∨ (¬ P ∧ v = nI 1 ∧ rfM m [0] [] nV σ σ' ∧ Fi σ' m 0 (nI 1))
theorem rf_failsB {m : Nat} {P : Prop} {dP : Decidable P} {σ : St} (hm : MS σ m) (h0 : Fi σ m 0 (nI 0)) : Hx (fX12_fails σ m (nI (@ite _ P dP 1 0)) (nI 1)) (Tst m P σ) := by
  by_cases c : P
  · rw [if_pos c, rf_fails1 hm h0]
    exact Hx.ret (Or.inl ⟨c, rfl, rfl⟩)
  · rw [if_neg c]
    exact (rf_fails0 hm h0 (by omega) (by omega)).mo (fun σ' v g => Or.inr ⟨c, g⟩)
theorem rf_noRow {m : Nat} {z : Int} {σ : St} (hz : -2147483648 ≤ z ∧ z < 2147483648) (hm : MS σ m) (h0 : Fi σ m 0 (nI 0)) : Hx (fX12_noRow σ m (iz z)) (Tst m (0 ≤ z ∧ z ≤ 2) σ) := by
  rw [n_fX12_noRow, show nI 0 = iz 0 from rfl, show nI 2 = iz 2 from rfl, rf_in hz.1 hz.2 (by omega) (by omega) (by omega) (by omega)]
  refine hx_cs ?_
  rw [rf_ck hm]
  refine hx_bs ?_
  refine Hx.bd (rf_failsB hm h0) (fun σ1 v h => ?_)
  rcases h with ⟨h1, rfl, rfl⟩ | ⟨h1, rfl, h2⟩
  · rw [ckZ0]; exact hx_bs (Hx.ret (Or.inl ⟨h1, rfl, rfl⟩))
  · rw [ckZ1]; exact hx_bs (Hx.ret (Or.inr ⟨h1, rfl, h2⟩))
theorem rf_noSlot {m : Nat} {z : Int} {σ : St} (hz : -2147483648 ≤ z ∧ z < 2147483648) (hm : MS σ m) (h0 : Fi σ m 0 (nI 0)) : Hx (fX12_noSlot σ m (iz z)) (Tst m (0 ≤ z ∧ z ≤ 9) σ) := by
  rw [n_fX12_noSlot, show nI 0 = iz 0 from rfl, show nI 9 = iz 9 from rfl, rf_in hz.1 hz.2 (by omega) (by omega) (by omega) (by omega)]
  refine hx_cs ?_
  rw [rf_ck hm]
  refine hx_bs ?_
  refine Hx.bd (rf_failsB hm h0) (fun σ1 v h => ?_)
  rcases h with ⟨h1, rfl, rfl⟩ | ⟨h1, rfl, h2⟩
  · rw [ckZ0]; exact hx_bs (Hx.ret (Or.inl ⟨h1, rfl, rfl⟩))
  · rw [ckZ1]; exact hx_bs (Hx.ret (Or.inr ⟨h1, rfl, h2⟩))
