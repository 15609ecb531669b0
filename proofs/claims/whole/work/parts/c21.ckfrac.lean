/-! ===== calls of the one that was built: a fraction is written ===== -/
theorem sbd_clear {x b : Nat} {wr : List Nat} {σ : St} (hp : HP (PX x) σ) (h : KWr σ b wr) : Hx (fJ4_setLength_d00df σ b (nI 0)) (fun σ' _ => cW x (s1 b) 0 0 σ σ' ∧ KWr σ' b [] ∧ sF σ' (fid 1 0) b = sF σ (fid 1 0) b) := by
  obtain ⟨h1, h2, h3, ⟨h4, h5, h6, h7⟩, h8⟩ := id h
  have eC : gI σ 1 1 b = some (nI 0) := (sm_gI (ci := 1) h1).trans (congrArg some h2)
  have eE : fJ5_ensureCapacityInternal_d00df σ b (nI 0) = some (σ, ()) := by
    apply hx_eq
    rw [n_fJ5_ensureCapacityInternal_d00df, sm_gF (ci := 1) h1]
    refine hx_bs ?_
    rw [sm_aln h4 (by omega)]
    refine hx_bs ?_
    rw [eC]
    refine hx_bs ?_
    rw [sh_r0]
    refine hx_nm ?_
    refine Hx.cs (fun _ => Hx.ret ⟨rfl, rfl⟩) (fun q => absurd ?_ q)
    generalize sN σ (sF σ (fid 1 0) b) = N at *
    have e : nI 0 - nI N = iz (((0 : Nat) : Int) - (N : Int)) := by
      rw [sm_iz, sm_iz, iz_sub]
    rw [e, show nI 0 = iz 0 from rfl, iz_le (by omega) (by omega) (by omega) (by omega)]
    omega
  rw [n_fJ4_setLength_d00df, sm_ckK h1]
  refine hx_bs ?_
  have h76 : ∀ τ : St, cW x (s1 b) 0 0 σ τ → sK τ b = 2 → (∀ f, f ≠ fid 1 2 → sI τ f b = sI σ f b) → sF τ (fid 1 0) b = sF σ (fid 1 0) b → sK τ (sF σ (fid 1 0) b) = 101 → sN τ (sF σ (fid 1 0) b) = sN σ (sF σ (fid 1 0) b) → Hx (fJ5_setLength_d00df_76 τ b (nI 0)) (fun σ' _ => cW x (s1 b) 0 0 σ σ' ∧ KWr σ' b [] ∧ sF σ' (fid 1 0) b = sF σ (fid 1 0) b) := by
    intro τ hG k2 hI hFF hK hNN
    rw [n_fJ5_setLength_d00df_76, sm_pI (ci := 1) k2]
    refine hx_bs (Hx.ret ⟨hG.tr0 (cWi hG.hp (by omega) (by omega)) (fun r _ hr => hr), ⟨k2, ?_, ?_, ?_, fun i c hi => by cases hi⟩, hFF⟩)
    · exact (sI_wI_f (by decide)).trans ((hI _ (by decide)).trans h2)
    · exact sI_wI_eq
    · show sK τ (sF τ (fid 1 0) b) = 101 ∧ ([] : List Nat).length ≤ sN τ (sF τ (fid 1 0) b) ∧ 16 ≤ sN τ (sF τ (fid 1 0) b) ∧ sN τ (sF τ (fid 1 0) b) ≤ 3000
      rw [hFF, hNN]
      exact ⟨hK, Nat.zero_le _, h6, h7⟩
  have main : Hx (fJ5_setLength_d00df σ b (nI 0)) (fun σ' _ => cW x (s1 b) 0 0 σ σ' ∧ KWr σ' b [] ∧ sF σ' (fid 1 0) b = sF σ (fid 1 0) b) := by
    rw [n_fJ5_setLength_d00df, if_pos (by decide), sm_ckK h1]
    refine hx_bs ?_
    rw [eE]
    refine hx_cs ?_
    have eL : gI σ 1 3 b = some (nI wr.length) := (sm_gI (ci := 1) h1).trans (congrArg some h3)
    rw [eL]
    refine hx_bs (Hx.ce (sm_le (by omega) (by omega)) (fun _ => ?_) (fun q => absurd (Nat.zero_le _) q))
    refine hx_bs (Hx.cs (fun _ => ?_) (fun _ => ?_))
    · exact h76 σ (cW.rf hp) h1 (fun _ _ => rfl) rfl h4 rfl
    · rw [sm_pI (ci := 1) h1]
      refine hx_bs ?_
      exact h76 _ (cWi hp (by omega) (by omega)) h1 (fun f hf => sI_wI_f hf) rfl h4 rfl
  exact Hx.bd main (fun σ' _ g => Hx.ret g)
theorem TxF.fx {x b a n d : Nat} {s : Int} {σ0 σ : St} {wr wr0 : List Nat} (h : TxF x b σ0 σ wr) (h0 : KWr σ0 b wr0) (hA : FX σ0 a s n d) : FX σ a s n d := by
  obtain ⟨k, c, hF, _⟩ := h
  have k1 := hA.1.1
  have k2 := hA.1.2.2.1.1
  have k3 := hA.1.2.2.2.1
  have kb := h0.1
  have ka := h0.2.2.2.1.1
  have ne : ∀ r, sK σ0 r = 6 ∨ sK σ0 r = 8 → ¬ sTx σ0 b r := fun r hr z => by
    rcases z with q | q <;> subst q <;> omega
  exact hA.kW hF ⟨ne _ (Or.inl k1), ne _ (Or.inr k2), ne _ (Or.inr k3)⟩
theorem TxF.b {x b : Nat} {σ0 σ : St} {wr : List Nat} (h : TxF x b σ0 σ wr) : sK σ b = 2 := by obtain ⟨_, _, _, hW, _⟩ := h; exact hW.1
theorem cx_writeFraction {x b a : Nat} {q : Qv} {σ0 : St} (hq : qok q) (h0 : KWr σ0 b []) (hp : HP (PX x) σ0) (hA : FX σ0 a q.1 q.2.1 q.2.2) : Hx (fX11_writeFraction σ0 a b) (fun σ' _ => TxF x b σ0 σ' (wrF q)) := by
  have hsg := hq.sg
  have e30 : dig30 < 10 ^ 36 := by unfold dig30; omega
  have hn36 : q.2.1 < 10 ^ 36 := by have := hq.2.2.2.2.1; omega
  have hd36 : q.2.2 < 10 ^ 36 := by have := hq.2.2.2.2.2; omega
  have hl1 := dgx_len hn36
  have h14 : ∀ (σ : St) (wr : List Nat), TxF x b σ0 σ wr → wr.length ≤ 1 → Hx (fX11_writeFraction_14 σ a b) (fun σ' _ => TxF x b σ0 σ' (wr ++ cod (dgx q.2.1) ++ if q.2.2 = 1 then [] else [47] ++ cod (dgx q.2.2))) := by
    intro σ wr hT hl
    have hX := hT.fx h0 hA
    rw [n_fX11_writeFraction_14, (sm_gF (ci := 5) hX.1.1).trans (congrArg some hX.1.2.1.1)]
    refine hx_bs ?_
    refine Hx.bd (cx_writeDigits h0 hA.2.2.1 hn36 hT (by omega)) (fun σ1 _ hT1 => ?_)
    have hX1 := hT1.fx h0 hA
    rw [sm_ckK hX1.1.1]
    refine hx_bs ?_
    have eW : fX1_isWhole σ1 a = some (σ1, nI (if q.2.2 = 1 then 1 else 0)) := by
      apply hx_eq
      rw [n_fX1_isWhole, (sm_gF (ci := 5) hX1.1.1).trans (congrArg some hX1.1.2.1.2)]
      refine hx_bs ?_
      rw [sm_ckK hX1.1.2.2.2.1]
      refine hx_bs ?_
      rw [cn_isOne hX1.2.2.2]
      refine hx_cs ?_
      have ez : ckZ (nI (if q.2.2 = 1 then 1 else 0)) = some () := by
        split <;> rfl
      rw [ez]
      exact hx_bs (Hx.ret ⟨rfl, rfl⟩)
    rw [eW]
    refine hx_cs (Hx.ce nb0 (fun c => ?_) (fun c => ?_))
    · rw [if_neg c]
      rw [sm_ckK hT1.b]
      refine hx_bs ?_
      refine Hx.bd (hT1.app (c := 47) (by rw [List.length_append, List.length_map]; omega) (by omega)) (fun σ2 _ hT2 => ?_)
      have hX2 := hT2.fx h0 hA
      rw [(sm_gF (ci := 5) hX2.1.1).trans (congrArg some hX2.1.2.1.2)]
      refine hx_bs ?_
      refine Hx.bd (cx_writeDigits h0 hA.2.2.2 hd36 hT2 (by rw [List.length_append, List.length_append, List.length_map, List.length_singleton]; omega)) (fun σ3 _ hT3 => ?_)
      refine Hx.ret ?_
      rw [List.append_assoc (wr ++ (dgx q.2.1).map (48 + ·))] at hT3
      exact hT3
    · rw [if_pos (Classical.not_not.mp c), List.append_nil]
      exact Hx.ret hT1
  have hT0 : TxF x b σ0 σ0 [] := TxF.rf hp h0
  rw [n_fX11_writeFraction, (sm_gI (ci := 5) hA.1.1).trans (congrArg some hA.2.1.2)]
  refine hx_bs (Hx.ce (show (nI 0 ≤ iz q.1) = (0 ≤ q.1) by rw [show nI 0 = iz 0 from rfl, iz_le (by omega) (by omega) (by omega) (by omega)]) (fun c => ?_) (fun c => ?_))
  · have e : sgW q = [] := if_neg (by omega)
    unfold wrF
    rw [e]
    exact h14 σ0 [] hT0 (by show 0 ≤ 1; omega)
  · have e : sgW q = [45] := if_pos (by omega)
    unfold wrF
    rw [e, sm_ckK hT0.b]
    refine hx_bs ?_
    refine Hx.bd (hT0.app (c := 45) (by show 0 ≤ 1000; omega) (by omega)) (fun σ1 _ hT1 => ?_)
    exact h14 σ1 [45] hT1 (by show 1 ≤ 1; omega)
