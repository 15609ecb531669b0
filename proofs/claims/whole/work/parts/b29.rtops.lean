/-! ===== the reference: what only tells a field ===== -/
theorem rf_clearTape {m : Nat} {v : Int32} {σ : St} (hm : MS σ m) (h8 : Fi σ m 8 v) : Hx (fX12_clearTape σ m) (fun σ' u => u = v ∧ rfM m [0, 8] [] nV σ σ' ∧ Fi σ' m 0 (nI 0) ∧ Fi σ' m 8 (nI 0)) := by
  have r1 : rfM m [0, 8] [] nV σ (wI σ (fid 16 0) m (nI 0)) := rfM.wI (by simp)
  have hm1 := r1.ms hm
  have k8 : Fi (wI σ (fid 16 0) m (nI 0)) m 8 v := fi_wn h8 (by decide)
  rw [n_fX12_clearTape, rf_pI hm]
  refine hx_bs ?_
  rw [fi_g hm1 k8]
  refine hx_bs ?_
  rw [rf_pI hm1]
  exact hx_bs (Hx.ret ⟨rfl, r1.tr (rfM.wI (by simp)), fi_wn fi_wI (by decide), fi_wI⟩)
theorem rf_errorPosition {m : Nat} {v : Int32} {σ : St} (hm : MS σ m) (h : Fi σ m 9 v) : Hx (fX12_errorPosition σ m) (fun σ' u => u = v ∧ rfM m [0] [] nV σ σ' ∧ Fi σ' m 0 (nI 0)) := by
  have k : Fi (wI σ (fid 16 0) m (nI 0)) m 9 v := fi_wn h (by decide)
  rw [n_fX12_errorPosition, rf_pI hm]
  refine hx_bs ?_
  rw [fi_g (ms_wI hm) k]
  exact hx_bs (Hx.ret ⟨rfl, rfM.wI (by simp), fi_wI⟩)
theorem rf_failed {m : Nat} {v : Int32} {σ : St} (hm : MS σ m) (h : Fi σ m 45 v) : Hx (fX12_failed σ m) (fun σ' u => u = v ∧ rfM m [0] [] nV σ σ' ∧ Fi σ' m 0 (nI 0)) := by
  have k : Fi (wI σ (fid 16 0) m (nI 0)) m 45 v := fi_wn h (by decide)
  rw [n_fX12_failed, rf_pI hm]
  refine hx_bs ?_
  rw [fi_g (ms_wI hm) k]
  exact hx_bs (Hx.ret ⟨rfl, rfM.wI (by simp), fi_wI⟩)
theorem rf_ring {m : Nat} {v : Int32} {σ : St} (hm : MS σ m) (h : Fi σ m 46 v) : Hx (fX12_ring σ m) (fun σ' u => u = v ∧ rfM m [0] [] nV σ σ' ∧ Fi σ' m 0 (nI 0)) := by
  have k : Fi (wI σ (fid 16 0) m (nI 0)) m 46 v := fi_wn h (by decide)
  rw [n_fX12_ring, rf_pI hm]
  refine hx_bs ?_
  rw [fi_g (ms_wI hm) k]
  exact hx_bs (Hx.ret ⟨rfl, rfM.wI (by simp), fi_wI⟩)
theorem rf_names {m : Nat} {v : Int32} {σ : St} (hm : MS σ m) (h : Fi σ m 40 v) : Hx (fX12_names σ m) (fun σ' u => u = v ∧ rfM m [0] [] nV σ σ' ∧ Fi σ' m 0 (nI 0)) := by
  have k : Fi (wI σ (fid 16 0) m (nI 0)) m 40 v := fi_wn h (by decide)
  rw [n_fX12_names, rf_pI hm]
  refine hx_bs ?_
  rw [fi_g (ms_wI hm) k]
  exact hx_bs (Hx.ret ⟨rfl, rfM.wI (by simp), fi_wI⟩)
theorem rf_functions {m : Nat} {v : Int32} {σ : St} (hm : MS σ m) (h : Fi σ m 41 v) : Hx (fX12_functions σ m) (fun σ' u => u = v ∧ rfM m [0] [] nV σ σ' ∧ Fi σ' m 0 (nI 0)) := by
  have k : Fi (wI σ (fid 16 0) m (nI 0)) m 41 v := fi_wn h (by decide)
  rw [n_fX12_functions, rf_pI hm]
  refine hx_bs ?_
  rw [fi_g (ms_wI hm) k]
  exact hx_bs (Hx.ret ⟨rfl, rfM.wI (by simp), fi_wI⟩)
theorem rf_steps {m : Nat} {v : Int32} {σ : St} (hm : MS σ m) (h : Fi σ m 56 v) : Hx (fX12_steps σ m) (fun σ' u => u = v ∧ rfM m [0] [] nV σ σ' ∧ Fi σ' m 0 (nI 0)) := by
  have k : Fi (wI σ (fid 16 0) m (nI 0)) m 56 v := fi_wn h (by decide)
  rw [n_fX12_steps, rf_pI hm]
  refine hx_bs ?_
  rw [fi_g (ms_wI hm) k]
  exact hx_bs (Hx.ret ⟨rfl, rfM.wI (by simp), fi_wI⟩)
