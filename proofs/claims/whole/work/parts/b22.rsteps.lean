/-! ===== the reference: steps ahead, steps shown ===== -/
def VAh : Nat → Prop := fun q => 400 ≤ q ∧ q < 600
def VSh : Nat → Prop := fun q => 200 ≤ q ∧ q < 400
def Ahd (σ : St) (m : Nat) (sts : Sts) : Prop := Fi σ m 65 (nI sts.length) ∧ sts.length ≤ 200 ∧ ∀ j s, sts[j]? = some s → sA σ (m + 34) j = nI s.1 ∧ Vl σ m (400 + j) s.2
def Shn (σ : St) (m : Nat) (sts : Sts) : Prop := Fi σ m 56 (nI sts.length) ∧ sts.length ≤ 200 ∧ ∀ j s, sts[j]? = some s → sA σ (m + 25) j = nI s.1 ∧ Vl σ m (200 + j) s.2
theorem Ahd.keep {m : Nat} {sts : Sts} {F A : List Nat} {V : Nat → Prop} {σ σ' : St} (h : Ahd σ m sts) (hR : rfM m F A V σ σ') (hF : 65 ∉ F) (hA : 34 ∉ A) (hv : ∀ i, 400 ≤ i → i < 600 → ¬ V i) : Ahd σ' m sts := by
  refine ⟨h.1.keep hR hF, h.2.1, fun j s hj => ?_⟩
  have hl := (List.getElem?_eq_some_iff.mp hj).1
  have h2 := h.2.1
  obtain ⟨g1, g2⟩ := h.2.2 j s hj
  exact ⟨by rw [hR.ar 34 ⟨hA, by omega, by omega⟩]; exact g1, g2.keepM hR (hv _ (by omega) (by omega))⟩
theorem Shn.keep {m : Nat} {sts : Sts} {F A : List Nat} {V : Nat → Prop} {σ σ' : St} (h : Shn σ m sts) (hR : rfM m F A V σ σ') (hF : 56 ∉ F) (hA : 25 ∉ A) (hv : ∀ i, 200 ≤ i → i < 400 → ¬ V i) : Shn σ' m sts := by
  refine ⟨h.1.keep hR hF, h.2.1, fun j s hj => ?_⟩
  have hl := (List.getElem?_eq_some_iff.mp hj).1
  have h2 := h.2.1
  obtain ⟨g1, g2⟩ := h.2.2 j s hj
  exact ⟨by rw [hR.ar 25 ⟨hA, by omega, by omega⟩]; exact g1, g2.keepM hR (hv _ (by omega) (by omega))⟩
theorem rf_178 {m : Nat} {sts : Sts} {x2 : Int32} : ∀ (n i : Nat) (σ : St), sts.length - i < n → i ≤ sts.length → MS σ m → Fi σ m 56 (nI sts.length) → Ahd σ m sts → (∀ j s, j < i → sts[j]? = some s → sA σ (m + 25) j = nI s.1 ∧ Vl σ m (200 + j) s.2) →
    Hx (fX12_isDone_178 n σ m x2 (nI i)) (fun σ' v => v = nI 1 ∧ rfM m [57] [25] VSh σ σ' ∧ Shn σ' m sts ∧ Fi σ' m 57 x2) := by
  intro n
  induction n with
  | zero => intro i σ h; omega
  | succ n ih =>
    intro i σ hn hi hm h56 hA hW
    have h200 := hA.2.1
    rw [n_fX12_isDone_178, fi_g hm h56]
    refine hx_bs (Hx.ce (sm_le (by omega) (by omega)) (fun c => ?_) (fun c => ?_))
    · rw [rf_pI hm]
      have w : rfM m [57] [25] VSh σ (wI σ (fid 16 57) m x2) := rfM.wI (by simp)
      refine hx_bs (Hx.ret ⟨rfl, w, ⟨fi_wn h56 (by decide), h200, fun j s hj => ?_⟩, fi_wI⟩)
      have hl := (List.getElem?_eq_some_iff.mp hj).1
      exact hW j s (by omega) hj
    · obtain ⟨s, hs⟩ : ∃ s, sts[i]? = some s := ⟨_, List.getElem?_eq_getElem (by omega)⟩
      obtain ⟨g1, g2⟩ := hA.2.2 i s hs
      rw [rf_shownKind hm]
      refine hx_bs ?_
      rw [rf_aheadKind hm]
      refine hx_bs ?_
      rw [ld_aheadKind hm (by omega), g1]
      refine hx_bs ?_
      obtain ⟨σa, ea⟩ : ∃ t, t = wA σ (m + 25) i (nI s.1) := ⟨_, rfl⟩
      have wa : rfM m [] [25] nV σ σa := by rw [ea]; exact rfM.wA (by simp) (by omega)
      have hma := wa.ms hm
      rw [st_shownKind hm (by omega), ← ea]
      refine hx_bs ?_
      rw [rf_ck hma]
      refine hx_bs ?_
      rw [sm_add, sm_add]
      refine Hx.bd (rf_copiesValue hma (by omega) (by omega) (g2.keepM wa (fun q => q))) (fun σ1 _ h => ?_)
      obtain ⟨r1, v1⟩ := h
      have r1' : rfM m [57] [25] VSh σ σ1 := (wa.mo ⟨by simp, fun _ q => q⟩ (fun _ q => q.elim)).tr (r1.mo ⟨by simp, by simp⟩ (fun q hq => by
        have hq : q = 200 + i := hq
        exact ⟨by omega, by omega⟩))
      refine hx_nm ?_
      rw [sm_add]
      refine (ih (i + 1) σ1 (by omega) (by omega) (r1.ms hma) ((h56.keep wa (by simp)).keep r1 (by simp)) (hA.keep r1' (by simp) (by simp) (fun q a b hq => by
        have hq : 200 ≤ q ∧ q < 400 := hq
        omega)) (fun j s' hj hs' => ?_)).mo (fun σ2 v g => ⟨g.1, r1'.tr g.2.1, g.2.2⟩)
      have a25 : sA σ1 (m + 25) = sA σa (m + 25) := r1.ar 25 ⟨by simp, by omega, by omega⟩
      by_cases e : j = i
      · subst e
        rw [hs] at hs'
        cases hs'
        exact ⟨by rw [a25, ea, sA_wA_eq], v1⟩
      · obtain ⟨q1, q2⟩ := hW j s' (by omega) hs'
        exact ⟨by rw [a25, ea, sA_wA_j e]; exact q1, (q2.keepM wa (fun q => q)).keepM r1 (fun q => by
          have q : 200 + j = 200 + i := q
          omega)⟩
theorem rf_54 {m vm : Nat} {sts : Sts} {x1 x2 : Int32} {Q : St → Int32 → Prop} (hvm : vm ≤ 12600) : ∀ (n i : Nat) (σ : St), sts.length - i < n → i ≤ sts.length → MS σ m → Ste σ m vm sts → (∀ j s, j < i → sts[j]? = some s → sA σ (m + 34) j = nI s.1 ∧ Vl σ m (400 + j) s.2) →
    (∀ σ', MS σ' m → rfM m [65] [34] VAh σ σ' → Ahd σ' m sts → Hx (fX12_isDone_108 σ' m x1 x2) Q) → Hx (fX12_isDone_54 n σ m x1 x2 (nI i)) Q := by
  intro n
  induction n with
  | zero => intro i σ h; omega
  | succ n ih =>
    intro i σ hn hi hm hS hW hK
    obtain ⟨h55, h200, hst⟩ := id hS
    rw [n_fX12_isDone_54, fi_g hm h55]
    refine hx_bs (Hx.ce (sm_le (by omega) (by omega)) (fun c => ?_) (fun c => ?_))
    · refine hx_bs ?_
      rw [rf_pI hm]
      refine hx_bs (hK _ (ms_wI hm) (rfM.wI (by simp)) ⟨fi_wI, h200, fun j s hj => ?_⟩)
      have hl := (List.getElem?_eq_some_iff.mp hj).1
      exact hW j s (by omega) hj
    · obtain ⟨s, hs⟩ : ∃ s, sts[i]? = some s := ⟨_, List.getElem?_eq_getElem (by omega)⟩
      obtain ⟨g1, vi, g2, g3, g4⟩ := hst i s hs
      have hvi : vi < 200 ∨ 600 ≤ vi ∧ vi < vm := by
        rcases g4 with q | q
        · exact Or.inl (by omega)
        · exact Or.inr q
      rw [rf_aheadKind hm]
      refine hx_bs ?_
      rw [rf_stepKind hm]
      refine hx_bs ?_
      rw [ld_stepKind hm (by omega), g1]
      refine hx_bs ?_
      obtain ⟨σa, ea⟩ : ∃ t, t = wA σ (m + 34) i (nI s.1) := ⟨_, rfl⟩
      have wa : rfM m [] [34] nV σ σa := by rw [ea]; exact rfM.wA (by simp) (by omega)
      have hma := wa.ms hm
      have a24 : sA σa (m + 24) i = nI vi := by rw [wa.ar 24 ⟨by simp, by omega, by omega⟩]; exact g2
      rw [st_aheadKind hm (by omega), ← ea]
      refine hx_bs ?_
      rw [rf_stepValue hma]
      refine hx_bs ?_
      rw [ld_stepValue hma (by omega), a24]
      refine hx_bs ?_
      rw [rf_ck hma]
      refine hx_bs ?_
      rw [sm_add]
      refine Hx.bd (rf_copiesValue hma (by omega) (by omega) (g3.keepM wa (fun q => q))) (fun σ1 _ h => ?_)
      obtain ⟨r1, v1⟩ := h
      have r1' : rfM m [65] [34] VAh σ σ1 := (wa.mo ⟨by simp, fun _ q => q⟩ (fun _ q => q.elim)).tr (r1.mo ⟨by simp, by simp⟩ (fun q hq => by
        have hq : q = 400 + i := hq
        exact ⟨by omega, by omega⟩))
      refine hx_nm ?_
      rw [sm_add]
      have hS1 : Ste σ1 m vm sts := by
        refine ⟨h55.keep r1' (by simp), h200, fun j s' hj => ?_⟩
        obtain ⟨u1, vj, u2, u3, u4⟩ := hst j s' hj
        have hvj : vj < 200 ∨ 600 ≤ vj ∧ vj < vm := by
          rcases u4 with q | q
          · exact Or.inl (by omega)
          · exact Or.inr q
        exact ⟨by rw [r1'.ar 23 ⟨by simp, by omega, by omega⟩]; exact u1, vj, by rw [r1'.ar 24 ⟨by simp, by omega, by omega⟩]; exact u2, u3.keepM r1' (fun q => by
          have q : 400 ≤ vj ∧ vj < 600 := q
          omega), u4⟩
      refine ih (i + 1) σ1 (by omega) (by omega) (r1.ms hma) hS1 (fun j s' hj hs' => ?_) (fun σ2 m2 q1 q2 => hK σ2 m2 (r1'.tr q1) q2)
      have a34 : sA σ1 (m + 34) = sA σa (m + 34) := r1.ar 34 ⟨by simp, by omega, by omega⟩
      by_cases e : j = i
      · subst e
        rw [hs] at hs'
        cases hs'
        exact ⟨by rw [a34, ea, sA_wA_eq], v1⟩
      · obtain ⟨q1, q2⟩ := hW j s' (by omega) hs'
        exact ⟨by rw [a34, ea, sA_wA_j e]; exact q1, (q2.keepM wa (fun q => q)).keepM r1 (fun q => by
          have q : 400 + j = 400 + i := q
          omega)⟩
theorem rf_158 {m : Nat} {sts : Sts} {x2 : Int32} {f : Nat} {σ : St} (hm : MS σ m) (h32 : Fi σ m 32 (nI f)) (hf : f < 2) (hA : Ahd σ m sts) : Hx (fX12_isDone_158 σ m x2) (fun σ' v => v = nI 1 ∧ rfM m [56, 57] [25] VSh σ σ' ∧ Shn σ' m sts ∧ Fi σ' m 57 x2) := by
  rw [n_fX12_isDone_158, fi_g hm h32]
  refine hx_bs (Hx.ce (sm_eq (by omega) (by omega)) (fun c => absurd c (by omega)) (fun _ => ?_))
  rw [fi_g hm hA.1]
  refine hx_bs ?_
  rw [rf_pI hm]
  refine hx_bs ?_
  have w : rfM m [56, 57] [25] VSh σ (wI σ (fid 16 56) m (nI sts.length)) := rfM.wI (by simp)
  refine (rf_178 (sts := sts) FU 0 _ (by have := hA.2.1; unfold FU; omega) (by omega) (ms_wI hm) fi_wI (hA.keep w (by simp) (by simp) (fun q a b hq => by
    have hq : 200 ≤ q ∧ q < 400 := hq
    omega)) (fun j s hj => absurd hj (by omega))).mo (fun σ' v g => ?_)
  exact ⟨g.1, w.tr (g.2.1.mo ⟨by simp, fun _ q => q⟩ (fun _ q => q)), g.2.2⟩
