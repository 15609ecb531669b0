/-! ===== the reference's calls: meanDigits, wholes ===== -/
theorem n2_fX12_meanDigits_9 (n : Nat) (σ : St) (x0 : Nat) (x1 x2 : Int32) : fX12_meanDigits_9 (n + 1) σ x0 x1 x2 = (Option.bind (gI σ 16 40 x0) fun v1 => if v1 ≤ x2 then (Option.bind (gI σ 16 40 x0) fun v3 => if v3 = (nI 0) then (some (σ, (0 : UInt64))) else (Option.bind (gI σ 16 40 x0) fun v5 => Option.bind (ckND (FP.ddiv (FP.i2d x1) (FP.i2d v5))) fun _ => some (σ, (FP.ddiv (FP.i2d x1) (FP.i2d v5))))) else (Option.bind (pI σ 16 77 x0 (nI 0)) fun σ7 => Option.bind (gF σ7 16 39 x0) fun v8 => Option.bind (ldI σ7 v8 x2) fun v9 => Option.bind (ckK σ7 17 x0) fun _ => cb (fX12_loads σ7 x0 (nI 0) v9 (nI 1)) fun σ10 v11 => Option.bind (ckK σ10 17 x0) fun _ => cb (fX12_writesNumber σ10 x0 (nI 0)) fun σ13 v14 => Option.bind (gI σ13 16 77 x0) fun v16 => nm (x1 + v16) fun v17 => nm (x2 + (nI 1)) fun v18 => fX12_meanDigits_9 n σ13 x0 v17 v18)) := rfl
theorem n2_fX12_wholes_34 (k9 : St → Nat → Int32 → Int32 → Option (St × UInt32)) (σ : St) (x0 : Nat) (x2 y0 y1 : Int32) : fX12_wholes_34 k9 σ x0 x2 y0 y1 = nm (y0 + y1) fun v1 => nm (x2 + (nI 1)) fun v2 => k9 σ x0 v1 v2 := rfl
theorem n2_fX12_wholes_9 (n : Nat) (σ : St) (x0 : Nat) (x1 x2 : Int32) : fX12_wholes_9 (n + 1) σ x0 x1 x2 = (if (nI 10) ≤ x2 then (Option.bind (ckNF (FP.fdiv (FP.i2f x1) 1092616192)) fun _ => some (σ, FP.fdiv (FP.i2f x1) 1092616192)) else (Option.bind (gF σ 16 74 x0) fun v3 => Option.bind (ldI σ v3 x2) fun v4 => Option.bind (ckK σ 17 x0) fun _ => cb (fX12_isWhole σ x0 v4) fun σ5 v6 => if v6 = (nI 0) then (fX12_wholes_34 (fX12_wholes_9 n) σ5 x0 x2 x1 (nI 0)) else (fX12_wholes_34 (fX12_wholes_9 n) σ5 x0 x2 x1 (nI 1)))) := rfl
theorem rf_set0' {m : Nat} {β : Type} {σ : St} {k : St → Option (St × β)} {P : St → β → Prop} (hm : MS σ m) (hK : ∀ σ', rfM m [0] [] nV σ σ' → MS σ' m → Hx (k σ') P) : Hx (Option.bind (pI σ 16 0 m (nI 0)) k) P := rf_set0 hm (fun σ' r m1 _ => hK σ' r m1)
def dsum : List NE → Nat
  | [] => 0
  | e :: ns => (dgx e.2.2.2.2).length + dsum ns
def mdv (ns : List NE) : UInt64 := if ns.length = 0 then 0 else FP.ddiv (FP.i2d (nI (dsum ns))) (FP.i2d (nI ns.length))
theorem rf_md_9 {m vm : Nat} {ns : List NE} {fs : List FE} {σ0 : St} (hB0 : Rbk σ0 m vm ns fs) : ∀ (n x k : Nat) (σ : St), ns.length - k < n → k ≤ ns.length → x ≤ 36 * k → x + dsum (ns.drop k) = dsum ns → MS σ m → rfM m [77] [1, 2, 42] nV σ0 σ → Hx (fX12_meanDigits_9 n σ m (nI x) (nI k)) (fun σ' v => v = mdv ns ∧ rfM m [77] [1, 2, 42] nV σ0 σ') := by
  have b20 := hB0.1.2.1
  have h36 := dig30_36
  intro n
  induction n with
  | zero => intro x k σ h; omega
  | succ n ih =>
    intro x k σ hn hk hx hs hm hR
    have hB := hB0.keepM hR (by unfold Rnot; decide) (fun _ _ _ z => z)
    rw [n2_fX12_meanDigits_9, fi_g hm hB.1.1]
    refine hx_bs ?_
    refine Hx.ce (sm_le (by omega) (by omega)) (fun c => ?_) (fun c => ?_)
    · rw [List.drop_of_length_le c] at hs
      have hs : x = dsum ns := hs
      subst hs
      refine hx_bs ?_
      unfold mdv
      refine Hx.ce (sm_eq (by omega) (by omega)) (fun c2 => ?_) (fun c2 => ?_)
      · rw [if_pos c2]
        exact Hx.ret ⟨rfl, hR⟩
      · rw [if_neg c2]
        refine hx_bs ?_
        rw [ckND_all ns.length (by omega) (by omega) (dsum ns) (by omega)]
        exact hx_bs (Hx.ret ⟨rfl, hR⟩)
    · have hk2 : k < ns.length := by omega
      have hd : ns.drop k = ns[k] :: ns.drop (k + 1) := List.drop_eq_getElem_cons hk2
      rw [rf_pI hm]
      refine hx_bs ?_
      have w : rfM m [77] [1, 2, 42] nV σ (wI σ (fid 16 77) m (nI 0)) := rfM.wI (by simp)
      have f77 : Fi (wI σ (fid 16 77) m (nI 0)) m 77 (nI 0) := fi_wI
      generalize wI σ (fid 16 77) m (nI 0) = σ1 at w f77 ⊢
      have m1 := w.ms hm
      have hB1 := hB.keepM w (by unfold Rnot; decide) (fun _ _ _ z => z)
      obtain ⟨_, _, _, vi, u1, u2⟩ := hB1.2.1 k _ (List.getElem?_eq_getElem hk2)
      have hq := u2.2.1
      rw [rf_valueOf m1]
      refine hx_bs ?_
      rw [ld_valueOf m1 (by omega), u1]
      refine hx_bs ?_
      rw [rf_ck m1]
      refine hx_bs ?_
      obtain ⟨σ2, e2, r2, v2⟩ := rf_loads (r := 0) m1 (by omega) (by have := u2.1; omega) u2.2 1 (by omega)
      rw [e2]
      refine hx_cs ?_
      have v2 : Rv σ2 m 0 ns[k].2.2.2.2 := v2
      have m2 := r2.ms m1
      have R2 : rfM m [] [1, 2] nV σ1 σ2 := r2.M
      rw [rf_ck m2]
      refine hx_bs ?_
      have hx36 : ns[k].2.2.2.2 < 10 ^ 36 := by have := hq.2.2.2.2.2; omega
      refine Hx.bd (rf_writesNumber (D0 := []) m2 (by omega) hx36 v2 (RDr.nil (f77.keep R2 (by decide))) (by show 0 + 40 ≤ 1200; omega)) (fun σ3 _ g => ?_)
      obtain ⟨r3, d3⟩ := g
      have d3 : RDr σ3 m (cod (dgx ns[k].2.2.2.2)) := d3
      have l3 := dgx_len hx36
      rw [fi_g (r3.ms m2) d3.1, cod_len]
      refine hx_bs ?_
      rw [sm_add]
      refine hx_nm ?_
      rw [sm_add]
      refine hx_nm ?_
      refine ih _ (k + 1) σ3 (by omega) hk2 (by omega) ?_ (r3.ms m2) (hR.tr (w.tr ((R2.mo ⟨by decide, by decide⟩ (fun _ z => z)).tr (r3.mo ⟨by decide, by decide⟩ (fun _ z => z)))))
      rw [hd] at hs
      have hs : x + ((dgx ns[k].2.2.2.2).length + dsum (ns.drop (k + 1))) = dsum ns := hs
      omega
theorem ri_meanDigits {σ : St} {m : Nat} {c : Rct} {s : Rst} (h : RI σ m c s) : Hx (fX12_meanDigits σ m) (fun σ' v => rfE m σ σ' ∧ v = mdv s.2.2.2.2.2.2.2.1.1 ∧ ∃ c' : Rct, RI σ' m c' s ∧ RBd c c' s s) := by
  show Hx (Option.bind (pI σ 16 0 m (nI 0)) fun σ1 => fX12_meanDigits_9 FU σ1 m (nI 0) (nI 0)) _
  refine rf_set0' h.1.1 (fun σ1 r1 m1 => ?_)
  have h1 := h.k0 r1
  have hB := h1.2.2.1.cur.B
  have b20 := hB.1.2.1
  refine (rf_md_9 hB FU 0 0 σ1 (by unfold FU; omega) (by omega) (by omega) (by rw [List.drop_zero, Nat.zero_add]) m1 rfM.rf).mo (fun σ2 v g => ?_)
  exact ⟨r1.1.tr g.2.1, g.1, c, h1.kd g.2 ⟨by decide, by decide⟩, RBd.rf rfl⟩
def whl : List Qv → Nat
  | [] => 0
  | q :: qs => (if q.2.2 = 1 then 1 else 0) + whl qs
def whv (qs : List Qv) : UInt32 := FP.fdiv (FP.i2f (nI (whl qs))) 1092616192
theorem rf_wh_9 {m vm : Nat} {qs : List Qv} {σ : St} (hm : MS σ m) (hS : RSl σ m vm qs) : ∀ (n x k : Nat), 10 - k < n → k ≤ 10 → x ≤ k → x + whl (qs.drop k) = whl qs → Hx (fX12_wholes_9 n σ m (nI x) (nI k)) (fun σ' v => v = whv qs ∧ σ' = σ) := by
  have hl := hS.1
  intro n
  induction n with
  | zero => intro x k h; omega
  | succ n ih =>
    intro x k hn hk hx hs
    rw [n2_fX12_wholes_9]
    refine Hx.ce (sm_le (by omega) (by omega)) (fun c => ?_) (fun c => ?_)
    · rw [List.drop_of_length_le (by omega)] at hs
      have hs : x = whl qs := hs
      subst hs
      rw [ckNF_all (whl qs) (by omega)]
      exact hx_bs (Hx.ret ⟨rfl, rfl⟩)
    · have hk2 : k < qs.length := by omega
      have hd : qs.drop k = qs[k] :: qs.drop (k + 1) := List.drop_eq_getElem_cons hk2
      obtain ⟨vi, u1, u2⟩ := hS.2 k _ (List.getElem?_eq_getElem hk2)
      rw [hd] at hs
      have hs : x + ((if qs[k].2.2 = 1 then 1 else 0) + whl (qs.drop (k + 1))) = whl qs := hs
      rw [rf_slot hm]
      refine hx_bs ?_
      rw [ld_slot hm (by omega), u1]
      refine hx_bs ?_
      rw [rf_ck hm]
      refine hx_bs ?_
      rw [rf_isWhole hm (by have := u2.1; omega) u2.2]
      refine hx_cs ?_
      by_cases c2 : qs[k].2.2 = 1
      · rw [if_pos c2] at hs ⊢
        refine Hx.ce (sm_eq (show 1 < 2147483648 by omega) (by omega)) (fun z => absurd z (by omega)) (fun _ => ?_)
        rw [n2_fX12_wholes_34, sm_add, sm_add]
        exact hx_nm (hx_nm (ih (x + 1) (k + 1) (by omega) (by omega) (by omega) (by omega)))
      · rw [if_neg c2] at hs ⊢
        refine Hx.ce rfl (fun _ => ?_) (fun z => absurd rfl z)
        rw [n2_fX12_wholes_34, sm_add, sm_add]
        exact hx_nm (hx_nm (ih (x + 0) (k + 1) (by omega) (by omega) (by omega) (by omega)))
theorem ri_wholes {σ : St} {m : Nat} {c : Rct} {s : Rst} (h : RI σ m c s) : Hx (fX12_wholes σ m) (fun σ' v => rfE m σ σ' ∧ v = whv s.2.2.2.2.1 ∧ ∃ c' : Rct, RI σ' m c' s ∧ RBd c c' s s) := by
  show Hx (Option.bind (pI σ 16 0 m (nI 0)) fun σ1 => fX12_wholes_9 FU σ1 m (nI 0) (nI 0)) _
  refine rf_set0' h.1.1 (fun σ1 r1 m1 => ?_)
  have h1 := h.k0 r1
  refine (rf_wh_9 m1 h1.2.1.2.1 FU 0 0 (by unfold FU; omega) (by omega) (by omega) (by rw [List.drop_zero, Nat.zero_add])).mo (fun σ2 v g => ?_)
  obtain ⟨g1, rfl⟩ := g
  exact ⟨r1.1, g1, c, h1, RBd.rf rfl⟩
