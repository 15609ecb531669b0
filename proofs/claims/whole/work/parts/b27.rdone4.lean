/-! ===== the reference: a name is told, with its steps; how a call ends ===== -/
theorem rf_50_1 {m vm w d vi j : Nat} {l : List It} {q : Qv} {nsR nsS : List NE} {fsR fsS : List FE} {T : List Th} {WS WR : List Nat} {c : Rd} {U D : List Rd} {sts : Sts} {res : Nat ⊕ List NE} {σ : St} (hm : MS σ m) (hB : Rbk σ m vm nsR fsR) (h32 : Fi σ m 32 (nI 1)) (h33 : Fi σ m 33 (nI w)) (hw : w < 2147483648) (hD : Dfn σ m vm d l 0) (hK : Kv σ m vm vi q) (hH : RHi σ m c U D) (hS : Ste σ m vm sts) (h5 : Fi σ m 5 (nI vm)) (hv : 600 ≤ vm ∧ vm + 20 ≤ 12600)
    (hlen : fix (nsR.map (·.1)) w = none → nsR.length < 20) (uS : Unq WS) (uR : Unq WR) (hfb : fbd fsR = fbd fsS) (hT : T = Ths nsS fsS) (hTs : T.Pairwise thlt) (hac : Acy T) (hTR : ∀ e, e ∈ Ths (plR nsR (fix (nsR.map (·.1)) w) (w, l, q)) fsR ↔ e ∈ T) (hpm : ∀ e, e ∈ plR nsR (fix (nsR.map (·.1)) w) (w, l, q) ↔ e ∈ nsS) (hWS : nsS.map (·.1) = WS) (hWR : (plR nsR (fix (nsR.map (·.1)) w) (w, l, q)).map (·.1) = WR)
    (hj : T[j]? = some (0, w, l)) (hr : rnw T fsS 20 nsS (usrL nsS fsS j) = some res) (hwd : ∀ e ∈ plR nsR (fix (nsR.map (·.1)) w) (w, l, q), wd e.1) :
    Hx (fX12_isDone_50 σ m (nI d) (nI vi)) (fun σ' v => ∃ σ1, rfM m [65] [34] VAh σ σ1 ∧ TlP m vm (plp nsR (fix (nsR.map (·.1)) w)) d c U D nsR fsR fsR WR sts (nI vi) True res σ1 σ' v) := by
  have nv : ∀ i, 600 ≤ i → i < vm → ¬ VAh i := fun i h1 _ z => by
    have z : 400 ≤ i ∧ i < 600 := z
    omega
  have hsl := hS.2.1
  rw [n_fX12_isDone_50]
  refine rf_54 (vm := vm) (by omega) FU 0 σ (by unfold FU; omega) (by omega) hm hS (fun j s hj => absurd hj (by omega)) (fun σ1 m1 r1 hA => ?_)
  refine (rf_108N m1 (hB.keepM r1 (by unfold Rnot; decide) nv) (h32.keep r1 (by decide)) (h33.keep r1 (by decide)) hw (hD.keepM r1 (by decide) nv) (hK.keepM r1 nv) (hH.keep r1 (by decide) (by decide)) hA (h5.keep r1 (by decide)) hv hlen uS uR hfb hT hTs hac hTR hpm hWS hWR hj hr hwd).mo (fun σ2 v g => ⟨σ1, r1, g⟩)
/-- how a call ends: what is thrown stands in field 0 -/
theorem rf_fails0 {m c : Nat} {σ : St} (hm : MS σ m) (h0 : Fi σ m 0 (nI 0)) (hc : 0 < c) (hc2 : c < 2147483648) : Hx (fX12_fails σ m (nI 0) (nI c)) (fun σ' v => v = nI 1 ∧ rfM m [0] [] nV σ σ' ∧ Fi σ' m 0 (nI c)) := by
  rw [n_fX12_fails]
  refine Hx.ce rfl (fun _ => ?_) (fun z => absurd rfl z)
  rw [fi_g hm h0]
  refine hx_bs (Hx.ce rfl (fun _ => ?_) (fun z => absurd rfl z))
  rw [rf_pI hm]
  refine hx_bs ?_
  rw [n_fX12_fails_16, fi_g (ms_wI hm) fi_wI]
  refine hx_bs (Hx.ce (sm_eq hc2 (by omega)) (fun z => absurd z (by omega)) (fun _ => Hx.ret ⟨rfl, rfM.wI (by simp), fi_wI⟩))
theorem rf_fails1 {m c : Nat} {σ : St} (hm : MS σ m) (h0 : Fi σ m 0 (nI 0)) : fX12_fails σ m (nI 1) (nI c) = some (σ, nI 0) := by
  apply hx_eq
  rw [n_fX12_fails]
  refine Hx.ce (sm_eq (show 1 < 2147483648 by omega) (by omega)) (fun z => absurd z (by omega)) (fun _ => ?_)
  rw [n_fX12_fails_16, fi_g hm h0]
  exact hx_bs (Hx.ce rfl (fun _ => Hx.ret ⟨rfl, rfl⟩) (fun z => absurd rfl z))
theorem rf_208_0 {m : Nat} {σ : St} (hm : MS σ m) (h0 : Fi σ m 0 (nI 0)) : Hx (fX12_run_208 σ m (nI 0)) (fun σ' v => v = nI 0 ∧ rfM m [0] [] nV σ σ' ∧ Fi σ' m 0 (nI 2)) := by
  rw [n_fX12_run_208, rf_ck hm]
  refine hx_bs ?_
  refine Hx.bd (rf_fails0 hm h0 (show 0 < 2 by omega) (by omega)) (fun σ1 v h => ?_)
  obtain ⟨rfl, h1, h2⟩ := h
  refine Hx.ce (sm_eq (show 1 < 2147483648 by omega) (by omega)) (fun z => absurd z (by omega)) (fun _ => Hx.ret ⟨rfl, h1, h2⟩)
theorem rf_208_1 {m f : Nat} {σ : St} (hm : MS σ m) (h0 : Fi σ m 0 (nI 0)) (h32 : Fi σ m 32 (nI f)) : fX12_run_208 σ m (nI 1) = some (σ, nI f) := by
  apply hx_eq
  rw [n_fX12_run_208, rf_ck hm]
  refine hx_bs ?_
  rw [rf_fails1 hm h0]
  refine hx_cs (Hx.ce rfl (fun _ => ?_) (fun z => absurd rfl z))
  rw [fi_g hm h32]
  exact hx_bs (Hx.ret ⟨rfl, rfl⟩)
