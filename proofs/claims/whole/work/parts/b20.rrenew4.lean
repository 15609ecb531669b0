/-! ===== the reference works anew ===== -/
theorem rn_2 {m vm o : Nat} {ns : List NE} {fs : List FE} {lf : Nat → Prop} {eo : Th} {Q : St → Int32 → Prop} (ho : tg ns fs o = some eo) (ho30 : o < 30)
    (hlf : ∀ t, lf t ↔ t ≠ o ∧ ∃ e, ns[t]? = some e ∧ Rch (Ths ns fs) e.2.1 eo) : ∀ (n i : Nat) (σ : St), 20 - i < n → i ≤ 20 → MS σ m → Rbk σ m vm ns fs → (∀ t, t < i → sA σ (m + 33) t = nI (b01 (lf t))) →
      (∀ σ', MS σ' m → rfM m [] [21, 33] nV σ σ' → LfA σ' m lf → Hx (fX12_renews_47 FU σ' m) Q) → Hx (fX12_renews_2 n σ m (nI o) (nI i)) Q := by
  intro n
  induction n with
  | zero => intro i σ h; omega
  | succ n ih =>
    intro i σ hn hi hm hB hW hK
    obtain ⟨b40, b20, _, _⟩ := hB.1
    rw [n_fX12_renews_2]
    refine Hx.ce (sm_le (by omega) (by omega)) (fun c => ?_) (fun c => ?_)
    · exact hK σ hm rfM.rf (fun t ht => hW t (by omega))
    · have st : ∀ (σ1 : St) (v : Nat), rfM m [] [21, 33] nV σ σ1 → sA σ1 (m + 33) = sA σ (m + 33) → v = b01 (lf i) → Hx (fX12_renews_40 (fX12_renews_2 n) σ1 m (nI o) (nI i) (m + 33) (nI i) (nI v)) Q := by
        intro σ1 v r1 e33 hv
        have hm1 := r1.ms hm
        have v1 : v ≤ 1 := by rw [hv]; exact b01_le _
        rw [n_fX12_renews_40, stb_isLeft hm1 (by omega) (by
          have e : v = 0 ∨ v = 1 := by omega
          rcases e with rfl | rfl
          · exact Or.inl rfl
          · exact Or.inr rfl)]
        refine hx_bs (hx_nm ?_)
        rw [sm_add]
        have w : rfM m [] [21, 33] nV σ1 (wA σ1 (m + 33) i (nI v)) := rfM.wA (by simp) (by omega)
        refine ih (i + 1) _ (by omega) (by omega) (w.ms hm1) (hB.keepM (r1.tr w) (by unfold Rnot; decide) (fun _ _ _ q => q)) (fun t ht => ?_) (fun σ' m' q1 q2 => hK σ' m' ((r1.tr w).tr q1) q2)
        by_cases e : t = i
        · subst e
          rw [sA_wA_eq, hv]
        · rw [sA_wA_j e, e33]; exact hW t (by omega)
      have st0 : ∀ (σ1 : St), rfM m [] [21, 33] nV σ σ1 → sA σ1 (m + 33) = sA σ (m + 33) → ¬ lf i → Hx (fX12_renews_39 (fX12_renews_2 n) σ1 m (nI o) (nI i) (m + 33) (nI i)) Q := by
        intro σ1 r1 e33 hv
        rw [n_fX12_renews_39]
        exact st σ1 0 r1 e33 (b01_n hv).symm
      rw [rf_isLeft hm]
      refine hx_bs ?_
      rw [fi_g hm b40]
      refine hx_bs (Hx.ce (sm_le (by omega) (by omega)) (fun c1 => ?_) (fun c1 => ?_))
      · refine st0 σ rfM.rf rfl (fun q => ?_)
        obtain ⟨_, e, he, _⟩ := (hlf i).mp q
        have := (List.getElem?_eq_some_iff.mp he).1
        omega
      · refine Hx.ce (sm_eq (by omega) (by omega)) (fun c2 => st0 σ rfM.rf rfl (fun q => ((hlf i).mp q).1 c2)) (fun c2 => ?_)
        obtain ⟨e, he⟩ : ∃ e, ns[i]? = some e := ⟨_, List.getElem?_eq_getElem (by omega)⟩
        have hti : tg ns fs i = some (0, e.1, e.2.1) := by
          unfold tg
          rw [if_pos (by omega), he]
          rfl
        have hli : lf i ↔ Rch (Ths ns fs) e.2.1 eo := by
          rw [hlf i]
          constructor
          · rintro ⟨_, e2, h1, h2⟩
            rw [he] at h1
            cases h1
            exact h2
          · intro h; exact ⟨c2, e, he, h⟩
        rw [rf_ck hm]
        refine hx_bs ?_
        refine Hx.bd (rf_doesUse hm hB hti ho) (fun σ6 v h => ?_)
        obtain ⟨rfl, r6⟩ := h
        have r6' : rfM m [] [21, 33] nV σ σ6 := r6.mo ⟨fun _ q => q, by decide⟩ (fun _ q => q)
        have e33 : sA σ6 (m + 33) = sA σ (m + 33) := r6.ar 33 ⟨by decide, by omega, by omega⟩
        refine Hx.ce b01_0 (fun d => ?_) (fun d => ?_)
        · exact st0 σ6 r6' e33 (fun q => d (hli.mp q))
        · exact st σ6 1 r6' e33 (b01_p (hli.mpr (Classical.not_not.mp d))).symm
theorem rf_renews {m vm v0 B o j : Nat} {nsR nsS : List NE} {fsR fsS : List FE} {T : List Th} {WS WR : List Nat} {eo : Th} {res : Nat ⊕ List NE} {σ : St} (uS : Unq WS) (uR : Unq WR) (hfb : fbd fsR = fbd fsS) (hT : T = Ths nsS fsS) (hTs : T.Pairwise thlt) (hac : Acy T) (hTR : ∀ e, e ∈ Ths nsR fsR ↔ e ∈ T) (hpm : ∀ e, e ∈ nsR ↔ e ∈ nsS) (hWS : nsS.map (·.1) = WS) (hWR : nsR.map (·.1) = WR)
    (ho : tg nsR fsR o = some eo) (ho30 : o < 30) (hj : T[j]? = some eo) (hw : rnw T fsS 20 nsS (usrL nsS fsS j) = some res) (hm : MS σ m) (hB : Rbk σ m vm nsR fsR) (h5 : Fi σ m 5 (nI vm)) (hv : 600 ≤ vm ∧ v0 ≤ vm ∧ vm + 20 ≤ B ∧ B ≤ 12600) (hwd : ∀ e ∈ nsR, wd e.1) : Hx (fX12_renews σ m (nI o)) (RnP m v0 B fsR WR res σ) := by
  rw [n_fX12_renews]
  refine rn_2 (vm := vm) (lf := fun t => t ≠ o ∧ ∃ e, nsR[t]? = some e ∧ Rch (Ths nsR fsR) e.2.1 eo) ho ho30 (fun t => Iff.rfl) FU 0 σ (by unfold FU; omega) (by omega) hm hB (fun t ht => absurd ht (by omega)) (fun σ1 m1 r1 hL => ?_)
  refine (rn_47 (v0 := v0) (B := B) uS uR hfb hTs hac 20 nsS (usrL nsS fsS j) nsR _ vm FU σ1 (by unfold FU; omega) hw hT hTR hpm hWS hWR ?_ (fun i hi => (usrL_mem.mp hi).1) (fun t => ?_) m1 (hB.keepM r1 (by unfold Rnot; decide) (fun _ _ _ q => q)) hL (h5.keep r1 (by decide)) hv hwd).mo (fun σ2 v g => ?_)
  · unfold usrL
    exact List.Pairwise.filter _ List.pairwise_lt_range
  · constructor
    · rintro ⟨h1, e, h2, h3⟩
      obtain ⟨i, hi⟩ := List.getElem?_of_mem ((hpm e).mp (List.mem_of_getElem? h2))
      refine ⟨i, usrL_mem.mpr ⟨(List.getElem?_eq_some_iff.mp hi).1, (0, e.1, e.2.1), ?_, eo, ?_, ?_⟩, e.1, ?_, ?_⟩
      · rw [Ths_get, if_pos (List.getElem?_eq_some_iff.mp hi).1, hi]; rfl
      · rw [← hT]; exact hj
      · rw [← hT]; exact (Rch.congr hTR).mp h3
      · rw [← hWS]; exact fst_get hi
      · rw [← hWR]; exact fst_get h2
    · rintro ⟨i, hi, w, h1, h2⟩
      obtain ⟨g1, e2, g2, e3, g3, g4⟩ := usrL_mem.mp hi
      rw [← hT] at g3 g4 g2
      rw [hj] at g3
      cases g3
      rw [← hWS] at h1
      rw [← hWR] at h2
      obtain ⟨ea, u1, u2⟩ := fst_of h1
      obtain ⟨eb, u3, u4⟩ := fst_of h2
      have e9 : e2 = (0, ea.1, ea.2.1) := by
        rw [hT, Ths_get, if_pos g1, u1] at g2
        exact (Option.some.inj g2).symm
      subst e9
      obtain ⟨a', u5⟩ := List.getElem?_of_mem ((hpm eb).mp (List.mem_of_getElem? u3))
      have : i = a' := uS i a' w (by rw [← hWS]; exact h1) (by rw [← hWS, ← u4]; exact fst_get u5)
      subst this
      rw [u1] at u5
      have : ea = eb := Option.some.inj u5
      subst this
      refine ⟨fun q => ?_, ea, u3, (Rch.congr hTR).mpr g4⟩
      subst q
      have hlt : t < 20 := by have := (List.getElem?_eq_some_iff.mp u3).1; have := hB.1.2.1; omega
      unfold tg at ho
      rw [if_pos hlt, u3] at ho
      have ho : (0, ea.1, ea.2.1) = eo := Option.some.inj ho
      subst ho
      exact hac _ (List.mem_of_getElem? hj) g4
  · have r10 := (show rfM m FRn ARn (VRn v0) σ σ1 from r1.mo ⟨by decide, by decide⟩ (fun _ q => q.elim)).tr g.1
    cases res with
    | inl w => exact ⟨r10, g.2⟩
    | inr x => exact ⟨r10, g.2.1, (show rfM m FRg ARn (VRn v0) σ σ1 from r1.mo ⟨by decide, by decide⟩ (fun _ q => q.elim)).tr g.2.2.1, g.2.2.2⟩
