/-! ===== calls of the one that was built: meanDigits, wholes ===== -/
theorem n2_fX11_meanDigits_22 (n : Nat) (σ : St) (x1 : Nat) (x2 x3 : Int32) : fX11_meanDigits_22 (n + 1) σ x1 x2 x3 = (Option.bind (aln σ x1) fun v1 => if v1 ≤ x3 then (Option.bind (aln σ x1) fun v3 => Option.bind (ckND (FP.ddiv (FP.i2d x2) (FP.i2d v3))) fun _ => some (σ, FP.ddiv (FP.i2d x2) (FP.i2d v3))) else (Option.bind (ldQ σ 8 x1 x3) fun v5 => Option.bind (gF σ 14 3 v5) fun v6 => if v6 = 0 then (nm (x3 + nI 1) fun v1 => fX11_meanDigits_22 n σ x1 x2 v1) else (Option.bind (ldQ σ 8 x1 x3) fun v8 => Option.bind (gF σ 14 3 v8) fun v9 => Option.bind (gF σ 5 2 v9) fun v10 => Option.bind (ckK σ 8 v10) fun _ => cb (fX3_digitCount σ v10) fun σ11 v12 => nm (x2 + v12) fun v14 => nm (x3 + nI 1) fun v1 => fX11_meanDigits_22 n σ11 x1 v14 v1))) := rfl
theorem n2_fX11_meanDigits (σ : St) (x0 : Nat) : fX11_meanDigits σ x0 = (Option.bind (ckK σ 16 x0) fun _ => cb (fX11_present σ x0) fun σ1 a2 => Option.bind (gF σ1 11 0 a2) fun v4 => Option.bind (gF σ1 4 0 v4) fun v5 => Option.bind (aln σ1 v5) fun v6 => if v6 = nI 0 then (some (σ1, (0 : UInt64))) else (fX11_meanDigits_22 FU σ1 v5 (nI 0) (nI 0))) := rfl
theorem n2_fX11_wholes_4 (n : Nat) (σ : St) (x0 : Nat) (x1 x2 : Int32) : fX11_wholes_4 (n + 1) σ x0 x1 x2 = (Option.bind (gF σ 15 9 x0) fun v1 => Option.bind (aln σ v1) fun v2 => if v2 ≤ x2 then (Option.bind (ckNF (FP.fdiv (FP.i2f x1) 1092616192)) fun _ => some (σ, FP.fdiv (FP.i2f x1) 1092616192)) else (Option.bind (gF σ 15 9 x0) fun v5 => Option.bind (ldQ σ 4 v5 x2) fun v6 => Option.bind (ckK σ 6 v6) fun _ => cb (fX1_isWhole σ v6) fun σ7 v8 => if v8 = nI 0 then (nm (x2 + nI 1) fun v1 => fX11_wholes_4 n σ7 x0 x1 v1) else (nm (x1 + nI 1) fun v11 => nm (x2 + nI 1) fun v1 => fX11_wholes_4 n σ7 x0 v11 v1))) := rfl
theorem cl_md {σ : St} {x b na fa : Nat} {ns : List NE} {fs : List FE} (hB : KBk σ x b na fa ns fs) : ∀ (n y k : Nat), ns.length - k < n → k ≤ ns.length → 0 < ns.length → y ≤ 36 * k → y + dsum (ns.drop k) = dsum ns → Hx (fX11_meanDigits_22 n σ na (nI y) (nI k)) (fun σ' v => v = mdv ns ∧ σ' = σ) := by
  have b20 := hB.1.2.2.1
  have h36 := dig30_36
  obtain ⟨g1, g2, g3, g4, g5⟩ := ob_f hB
  intro n
  induction n with
  | zero => intro y k h; omega
  | succ n ih =>
    intro y k hn hk h0 hy hs
    rw [n2_fX11_meanDigits_22, g3]
    refine hx_bs (Hx.ce (sm_le (by omega) (by omega)) (fun c => ?_) (fun c => ?_))
    · rw [List.drop_of_length_le c] at hs
      have hs : y = dsum ns := hs
      subst hs
      refine hx_bs ?_
      unfold mdv
      rw [if_neg (show ¬ ns.length = 0 by omega), ckND_all ns.length (by omega) (by omega) (dsum ns) (by omega)]
      exact hx_bs (Hx.ret ⟨rfl, rfl⟩)
    · have hk2 : k < ns.length := by omega
      have hd : ns.drop k = ns[k] :: ns.drop (k + 1) := List.drop_eq_getElem_cons hk2
      have hK := hB.2.2.2.1 k _ (List.getElem?_eq_getElem hk2)
      have hV : KF σ x (sF σ (fid 14 3) (sQ σ na k)) ns[k].2.2 := hK.2.2.2.2
      have hq := hV.2.2.1
      have hv0 : sF σ (fid 14 3) (sQ σ na k) ≠ 0 := by rcases hV.1 with z | z <;> omega
      rw [hB.ld hk2]
      refine hx_bs ?_
      rw [sm_gF (ci := 14) hK.1.2]
      refine hx_bs (Hx.cs (fun z => absurd z hv0) (fun _ => ?_))
      refine hx_bs ?_
      rw [sm_gF (ci := 14) hK.1.2]
      refine hx_bs ?_
      rw [(sm_gF (ci := 5) hV.2.2.2.1.1).trans (congrArg some hV.2.2.2.1.2.1.2)]
      refine hx_bs ?_
      rw [sm_ckK hV.2.2.2.1.2.2.2.1]
      refine hx_bs ?_
      have hx36 : ns[k].2.2.2.2 < 10 ^ 36 := by have := hq.2.2.2.2.2; omega
      rw [cn_digitCount hV.2.2.2.2.2.2 hx36]
      refine hx_cs ?_
      have l3 := dgx_len hx36
      rw [sm_add]
      refine hx_nm ?_
      rw [sm_add]
      refine hx_nm (ih _ (k + 1) (by omega) hk2 h0 (by omega) ?_)
      rw [hd] at hs
      have hs : y + ((dgx ns[k].2.2.2.2).length + dsum (ns.drop (k + 1))) = dsum ns := hs
      omega
theorem ki_meanDigits {σ : St} {x o : Nat} {s : Kst} {A : As} (h : KI σ x o s) (hA : s.2.2.2.2.2.2.2.2[s.2.2.2.2.2.2.2.1]? = some A) : fX11_meanDigits σ x = some (σ, mdv A.1) := by
  obtain ⟨t, b, na, fa, pr, hS, f0, hB, hU⟩ := h.2.2.2.2.1.book h.1.2.1 hA
  obtain ⟨g1, g2, g3, g4, g5⟩ := ob_f hB
  have b20 := hB.1.2.2.1
  have key : Hx (fX11_meanDigits σ x) (fun σ' v => v = mdv A.1 ∧ σ' = σ) := by
    rw [n2_fX11_meanDigits, sm_ckK h.1.2.1.k0]
    refine hx_bs ?_
    rw [pr]
    refine hx_cs ?_
    rw [f0]
    refine hx_bs ?_
    rw [g1]
    refine hx_bs ?_
    rw [g3]
    refine hx_bs (Hx.ce (sm_eq (by omega) (by omega)) (fun c => ?_) (fun c => ?_))
    · unfold mdv
      rw [if_pos c]
      exact Hx.ret ⟨rfl, rfl⟩
    · exact cl_md hB FU 0 0 (by unfold FU; omega) (by omega) (by omega) (by omega) (by rw [List.drop_zero, Nat.zero_add])
  exact hx_eq (key.mo (fun σ' v g => ⟨g.2, g.1⟩))
theorem cl_wh {σ : St} {x : Nat} {qs : List Qv} (hx : XS σ x) (hS : KSl σ x qs) (hl : qs.length = 10) : ∀ (n y k : Nat), 10 - k < n → k ≤ 10 → y ≤ k → y + whl (qs.drop k) = whl qs → Hx (fX11_wholes_4 n σ x (nI y) (nI k)) (fun σ' v => v = whv qs ∧ σ' = σ) := by
  intro n
  induction n with
  | zero => intro y k h; omega
  | succ n ih =>
    intro y k hn hk hy hs
    have e9 : gF σ 15 9 x = some (x + 8) := hx.gf 15 9 0 8 (by decide) (by decide)
    have e10 : aln σ (x + 8) = some (nI 10) := (sm_aln (hx.kd 8 104 (by decide)) (by omega)).trans (by rw [hx.nn 8 10 (by decide)])
    rw [n2_fX11_wholes_4, e9]
    refine hx_bs ?_
    rw [e10]
    refine hx_bs (Hx.ce (sm_le (by omega) (by omega)) (fun c => ?_) (fun c => ?_))
    · rw [List.drop_of_length_le (by omega)] at hs
      have hs : y = whl qs := hs
      subst hs
      rw [ckNF_all (whl qs) (by omega)]
      exact hx_bs (Hx.ret ⟨rfl, rfl⟩)
    · have hk2 : k < qs.length := by omega
      have hd : qs.drop k = qs[k] :: qs.drop (k + 1) := List.drop_eq_getElem_cons hk2
      obtain ⟨_, e2, hF, _⟩ := hS.f hx (List.getElem?_eq_getElem hk2)
      rw [hd] at hs
      have hs : y + ((if qs[k].2.2 = 1 then 1 else 0) + whl (qs.drop (k + 1))) = whl qs := hs
      refine hx_bs ?_
      rw [e2]
      refine hx_bs ?_
      rw [sm_ckK hF.2.2.2.1.1]
      refine hx_bs ?_
      have eW : fX1_isWhole σ (sQ σ (x + 8) k) = some (σ, nI (if qs[k].2.2 = 1 then 1 else 0)) := by
        apply hx_eq
        rw [n_fX1_isWhole, (sm_gF (ci := 5) hF.2.2.2.1.1).trans (congrArg some hF.2.2.2.1.2.1.2)]
        refine hx_bs ?_
        rw [sm_ckK hF.2.2.2.1.2.2.2.1]
        refine hx_bs ?_
        rw [cn_isOne hF.2.2.2.2.2.2]
        refine hx_cs ?_
        have ez : ckZ (nI (if qs[k].2.2 = 1 then 1 else 0)) = some () := by
          split <;> rfl
        rw [ez]
        exact hx_bs (Hx.ret ⟨rfl, rfl⟩)
      rw [eW]
      by_cases c2 : qs[k].2.2 = 1
      · rw [if_pos c2] at hs
        rw [if_pos c2]
        refine hx_cs (Hx.ce (sm_eq (show 1 < 2147483648 by omega) (by omega)) (fun z => absurd z (by omega)) (fun _ => ?_))
        rw [sm_add]
        refine hx_nm ?_
        rw [sm_add]
        exact hx_nm (ih (y + 1) (k + 1) (by omega) (by omega) (by omega) (by omega))
      · rw [if_neg c2] at hs
        rw [if_neg c2]
        refine hx_cs (Hx.ce (sm_eq (show 0 < 2147483648 by omega) (by omega)) (fun _ => ?_) (fun z => absurd rfl z))
        rw [sm_add]
        exact hx_nm (ih y (k + 1) (by omega) (by omega) (by omega) (by omega))
theorem ki_wholes {σ : St} {x o : Nat} {s : Kst} (h : KI σ x o s) : fX11_wholes σ x = some (σ, whv s.2.2.2.2.1) := by
  have key : Hx (fX11_wholes σ x) (fun σ' v => v = whv s.2.2.2.2.1 ∧ σ' = σ) := by
    show Hx (fX11_wholes_4 FU σ x (nI 0) (nI 0)) _
    exact cl_wh h.1.2.1 h.2.2.1.2.1 h.2.2.1.2.1.1 FU 0 0 (by unfold FU; omega) (by omega) (by omega) (by rw [List.drop_zero, Nat.zero_add])
  exact hx_eq (key.mo (fun σ' v g => ⟨g.2, g.1⟩))
