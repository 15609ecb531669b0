/-! ===== the reference: what a line made is dropped again ===== -/
theorem rf_146_0 {m k0 v0 dn : Nat} {σ : St} (hm : MS σ m) (h0 : Fi σ m 0 (nI 0)) (h25 : Fi σ m 25 (nI (dn + 1))) : Hx (fX12_run_146 σ m (nI k0) (nI v0) (nI 0)) (fun σ' v => v = nI 0 ∧ rfM m [0, 5, 21, 25] [] nV σ σ' ∧ Fi σ' m 0 (nI 2) ∧ Fi σ' m 21 (nI k0) ∧ Fi σ' m 5 (nI v0) ∧ Fi σ' m 25 (nI dn)) := by
  obtain ⟨σa, ea⟩ : ∃ s, s = wI σ (fid 16 21) m (nI k0) := ⟨_, rfl⟩
  have wa : rfM m [0, 5, 21, 25] [] nV σ σa := by rw [ea]; exact rfM.wI (by simp)
  have hma := wa.ms hm
  obtain ⟨σb, eb⟩ : ∃ s, s = wI σa (fid 16 5) m (nI v0) := ⟨_, rfl⟩
  have wb : rfM m [0, 5, 21, 25] [] nV σa σb := by rw [eb]; exact rfM.wI (by simp)
  have hmb := wb.ms hma
  have b25 : Fi σb m 25 (nI (dn + 1)) := by rw [eb]; exact fi_wn (by rw [ea]; exact fi_wn h25 (by decide)) (by decide)
  obtain ⟨σc, ec⟩ : ∃ s, s = wI σb (fid 16 25) m (nI dn) := ⟨_, rfl⟩
  have wc : rfM m [0, 5, 21, 25] [] nV σb σc := by rw [ec]; exact rfM.wI (by simp)
  have hmc := wc.ms hmb
  have c21 : Fi σc m 21 (nI k0) := by rw [ec, eb, ea]; exact fi_wn (fi_wn fi_wI (by decide)) (by decide)
  have c5 : Fi σc m 5 (nI v0) := by rw [ec, eb]; exact fi_wn fi_wI (by decide)
  have c25 : Fi σc m 25 (nI dn) := by rw [ec]; exact fi_wI
  have c0 : Fi σc m 0 (nI 0) := by rw [ec, eb, ea]; exact fi_wn (fi_wn (fi_wn h0 (by decide)) (by decide)) (by decide)
  rw [n_fX12_run_146, rf_pI hm, ← ea]
  refine hx_bs ?_
  rw [rf_pI hma, ← eb]
  refine hx_bs ?_
  rw [fi_g hmb b25]
  refine hx_bs ?_
  rw [sm_sub (by omega), Nat.add_sub_cancel, rf_pI hmb, ← ec]
  refine hx_bs ?_
  refine Hx.ce rfl (fun _ => ?_) (fun z => absurd rfl z)
  refine (rf_208_0 hmc c0).mo (fun σ' v g => ?_)
  obtain ⟨g1, g2, g3⟩ := g
  exact ⟨g1, wa.tr (wb.tr (wc.tr (g2.mo ⟨by simp, fun _ q => q⟩ (fun _ q => q)))), g3, c21.keep g2 (by simp), c5.keep g2 (by simp), c25.keep g2 (by simp)⟩
theorem rf_146_1 {m k0 v0 dn vi f : Nat} {q : Qv} {σ : St} (hm : MS σ m) (h0 : Fi σ m 0 (nI 0)) (h32 : Fi σ m 32 (nI f)) (h25 : Fi σ m 25 (nI (dn + 1))) (hv : 600 ≤ v0 ∧ v0 < 12600) (h57 : Fi σ m 57 (nI vi)) (hV : Vl σ m vi q) (hvi : vi < 12600) : Hx (fX12_run_146 σ m (nI k0) (nI v0) (nI 1)) (fun σ' v => v = nI f ∧ rfM m [5, 21, 25, 57] [] (fun i => i = v0) σ σ' ∧ Fi σ' m 21 (nI k0) ∧ Fi σ' m 25 (nI dn) ∧ ∃ i' vm', Fi σ' m 57 (nI i') ∧ Fi σ' m 5 (nI vm') ∧ (v0 ≤ vm' ∧ vm' ≤ v0 + 1) ∧ (600 ≤ i' ∧ i' < vm') ∧ Vl σ' m i' q) := by
  obtain ⟨σa, ea⟩ : ∃ s, s = wI σ (fid 16 21) m (nI k0) := ⟨_, rfl⟩
  have wa : rfM m [5, 21, 25] [] nV σ σa := by rw [ea]; exact rfM.wI (by simp)
  have hma := wa.ms hm
  obtain ⟨σb, eb⟩ : ∃ s, s = wI σa (fid 16 5) m (nI v0) := ⟨_, rfl⟩
  have wb : rfM m [5, 21, 25] [] nV σa σb := by rw [eb]; exact rfM.wI (by simp)
  have hmb := wb.ms hma
  have b25 : Fi σb m 25 (nI (dn + 1)) := by rw [eb]; exact fi_wn (by rw [ea]; exact fi_wn h25 (by decide)) (by decide)
  obtain ⟨σc, ec⟩ : ∃ s, s = wI σb (fid 16 25) m (nI dn) := ⟨_, rfl⟩
  have wc : rfM m [5, 21, 25] [] nV σb σc := by rw [ec]; exact rfM.wI (by simp)
  have hmc := wc.ms hmb
  have w3 := wa.tr (wb.tr wc)
  have c21 : Fi σc m 21 (nI k0) := by rw [ec, eb, ea]; exact fi_wn (fi_wn fi_wI (by decide)) (by decide)
  have c5 : Fi σc m 5 (nI v0) := by rw [ec, eb]; exact fi_wn fi_wI (by decide)
  have c25 : Fi σc m 25 (nI dn) := by rw [ec]; exact fi_wI
  have c0 := h0.keep w3 (by decide)
  have c57 := h57.keep w3 (by decide)
  have c32 := h32.keep w3 (by decide)
  have cV := hV.keepM w3 (fun z => z)
  rw [n_fX12_run_146, rf_pI hm, ← ea]
  refine hx_bs ?_
  rw [rf_pI hma, ← eb]
  refine hx_bs ?_
  rw [fi_g hmb b25]
  refine hx_bs ?_
  rw [sm_sub (by omega), Nat.add_sub_cancel, rf_pI hmb, ← ec]
  refine hx_bs ?_
  refine Hx.ce (sm_eq (show 1 < 2147483648 by omega) (by omega)) (fun z => absurd z (by omega)) (fun _ => ?_)
  rw [fi_g hmc c57]
  refine hx_bs ?_
  rw [sm_sub (by omega), rf_inN (by omega) (by omega) (by omega)]
  refine hx_cs (Hx.ce nb0 (fun z => ?_) (fun z => ?_))
  · rw [rf_ck hmc]
    refine hx_bs ?_
    rw [rf_newValue hmc c5 hv.2]
    refine hx_cs ?_
    have r4 : rfM m [5, 21, 25, 57] [] (fun i => i = v0) σc (wI σc (fid 16 5) m (nI (v0 + 1))) := rfM.wI (by simp)
    have hm4 := r4.ms hmc
    have d57 : Fi (wI σc (fid 16 5) m (nI (v0 + 1))) m 57 (nI vi) := fi_wn c57 (by decide)
    have d5 : Fi (wI σc (fid 16 5) m (nI (v0 + 1))) m 5 (nI (v0 + 1)) := fi_wI
    have dV : Vl (wI σc (fid 16 5) m (nI (v0 + 1))) m vi q := cV
    rw [fi_g hm4 d57]
    refine hx_bs ?_
    rw [rf_ck hm4]
    refine hx_bs ?_
    refine Hx.bd (rf_copiesValue hm4 hv.2 hvi dV) (fun σ5 _ h => ?_)
    obtain ⟨r5, v5⟩ := h
    have hm5 := r5.ms hm4
    rw [rf_pI hm5]
    refine hx_bs ?_
    have r6 : rfM m [5, 21, 25, 57] [] (fun i => i = v0) σ5 (wI σ5 (fid 16 57) m (nI v0)) := rfM.wI (by simp)
    have hall : rfM m [5, 21, 25, 57] [] (fun i => i = v0) σ (wI σ5 (fid 16 57) m (nI v0)) := (w3.mo ⟨by simp, fun _ q => q⟩ (fun _ q => q.elim)).tr (r4.tr ((r5.mo ⟨by simp, fun _ q => q⟩ (fun _ q => q)).tr r6))
    have back : rfM m [5, 57] [] (fun i => i = v0) σc (wI σ5 (fid 16 57) m (nI v0)) := (rfM.wI (f := 5) (v := nI (v0 + 1)) (by simp)).tr ((r5.mo ⟨by simp, fun _ q => q⟩ (fun _ q => q)).tr (rfM.wI (by simp)))
    rw [rf_208_1 (r6.ms hm5) (c0.keep back (by decide)) (c32.keep back (by decide))]
    exact Hx.ret ⟨rfl, hall, c21.keep back (by decide), c25.keep back (by decide), v0, v0 + 1, fi_wI, fi_wn (d5.keep r5 (by simp)) (by decide), ⟨by omega, by omega⟩, ⟨by omega, by omega⟩, v5⟩
  · have z := Classical.not_not.mp z
    rw [rf_208_1 hmc c0 c32]
    exact Hx.ret ⟨rfl, w3.mo ⟨by simp, fun _ q => q⟩ (fun _ q => q.elim), c21, c25, vi, v0, c57, c5, ⟨by omega, by omega⟩, ⟨by omega, by omega⟩, cV⟩
