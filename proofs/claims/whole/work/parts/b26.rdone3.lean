/-! ===== the reference: what is done with a line that was read ===== -/
abbrev AWU : List Nat := [1, 2, 21, 22, 23, 24, 26, 27, 28, 29]
def VWK (vm : Nat) : Nat → Prop := fun i => i < 200 ∨ i = vm
theorem rf_isRefusedZ {m vm d np : Nat} (told tAt pr : Nat) {ns : List NE} {fs : List FE} {T : List Th} {l : List It} {σ : St} (hm : MS σ m) (hB : Rbk σ m vm ns fs) (hD : Dfn σ m vm d l np) (h32 : Fi σ m 32 (nI 0)) : Hx (fX12_isRefused σ m (nI d)) (Rfp σ m (rfs ns fs T 0 told tAt pr l)) := by
  have hlt := hB.lt
  have u := rf_unknownAt hm hB hD
  rw [n_fX12_isRefused, rf_ck hm]
  refine hx_bs ?_
  cases hu : unk ns fs l with
  | some p =>
    have e : rfs ns fs T 0 told tAt pr l = some (1, p, []) := by unfold rfs; rw [hu]
    have hpb : p ≤ 200 := by
      obtain ⟨_, _, s, _, _, _, h5⟩ := hD
      refine unk_b (fun it hit => ?_) hu
      obtain ⟨j, hj, e⟩ := List.getElem_of_mem hit
      have := h5.2 j it (by rw [List.getElem?_eq_getElem hj, e])
      exact this.1.2.2.2.2
    rw [hu, show iz (oi (some p)) = nI p from (sm_iz p).symm] at u
    rw [e, u]
    refine hx_cs ?_
    refine Hx.ce (nIm (by omega)) (fun c => c.elim) (fun _ => ?_)
    rw [rf_ck hm]
    refine hx_bs ?_
    rw [u]
    refine hx_cs ?_
    rw [rf_ck hm]
    refine hx_bs ?_
    refine Hx.bd (rf_refuse1 hm rfM.rf) ?_
    rintro σ1 v ⟨rfl, h1⟩
    rw [ckZ1]
    exact hx_bs (Hx.ret h1)
  | none =>
    have e : rfs ns fs T 0 told tAt pr l = none := by unfold rfs; rw [hu]; exact if_pos rfl
    rw [hu, show oi none = -1 from rfl] at u
    rw [e, u]
    refine hx_cs ?_
    refine Hx.ce rfl (fun _ => ?_) (fun z => absurd rfl z)
    rw [fi_g hm h32]
    refine hx_bs ?_
    refine Hx.ce rfl (fun _ => ?_) (fun z => absurd rfl z)
    exact Hx.ret ⟨rfl, rfM.rf⟩
theorem rf_isDone_pre {m vm d np form told tAt pr : Nat} {ns : List NE} {fs : List FE} {T : List Th} {l : List It} {σ : St} {Q : St → Int32 → Prop} (hK : Bok ns fs T) (hm : MS σ m) (hB : Rbk σ m vm ns fs) (hD : Dfn σ m vm d l np) (h5 : Fi σ m 5 (nI vm)) (hv : 600 ≤ vm ∧ vm < 12600) (h32 : Fi σ m 32 (nI form)) (hf : form ≤ 2)
    (hRef : Hx (fX12_isRefused σ m (nI d)) (Rfp σ m (rfs ns fs T form told tAt pr l)))
    (href : ∀ x σ', rfs ns fs T form told tAt pr l = some x → Rfp σ m (some x) σ' (nI 1) → Q σ' (nI 0))
    (hfun : rfs ns fs T form told tAt pr l = none → form = 2 → ∀ σ', rfM m [] [21] nV σ σ' → Hx (fX12_isDone_108 σ' m (nI d) (iz (-1))) Q)
    (hbad : rfs ns fs T form told tAt pr l = none → form ≠ 2 → ∃ r, wrk (nvl ns) (fbd fs) 1000000 [] l [] 0 [] = some r ∧
      (r.1 ≠ 0 → ∀ σ', rfM m [43, 44, 45, 46, 55] AWU VW σ σ' → Fi σ' m 43 (nI r.1) → Fi σ' m 44 (nI r.2.1) → Fi σ' m 45 (iz (-1)) → Fi σ' m 46 (nI 0) → Q σ' (nI 0)) ∧
      (r.1 = 0 → form = 0 → ∀ σ' vi, rfM m [55] AWU VW σ σ' → Vl σ' m vi r.2.2.1 → Pv vm r.2.2.2.length vi → Ste σ' m vm r.2.2.2 → Hx (fX12_isDone_50 σ' m (nI d) (nI vi)) Q) ∧
      (r.1 = 0 → form = 1 → ∀ σ' vi vm', rfM m [5, 55] AWU (VWK vm) σ σ' → Fi σ' m 5 (nI vm') → (vm ≤ vm' ∧ vm' ≤ vm + 1) → Kv σ' m vm' vi r.2.2.1 → Ste σ' m vm r.2.2.2 → Hx (fX12_isDone_50 σ' m (nI d) (nI vi)) Q)) : Hx (fX12_isDone σ m (nI d)) Q := by
  rw [n_fX12_isDone, rf_ck hm]
  refine hx_bs ?_
  refine Hx.bd hRef (fun σ1 v h => ?_)
  cases hx : rfs ns fs T form told tAt pr l with
  | some x =>
    rw [hx] at h
    have h0 := h
    obtain ⟨c, p, rg⟩ := x
    obtain ⟨rfl, _⟩ := h
    refine Hx.ce (sm_eq (show 1 < 2147483648 by omega) (by omega)) (fun z => absurd z (by omega)) (fun _ => ?_)
    exact Hx.ret (href _ _ hx h0)
  | none =>
    rw [hx] at h
    obtain ⟨rfl, r1⟩ := h
    have hm1 := r1.ms hm
    have k32 := h32.keep r1 (by decide)
    refine Hx.ce rfl (fun _ => ?_) (fun z => absurd rfl z)
    rw [fi_g hm1 k32]
    refine hx_bs (Hx.ce (sm_le (by omega) (by omega)) (fun c => hfun hx (by omega) σ1 r1) (fun c => ?_))
    obtain ⟨r, hw, g1, g2, g3⟩ := hbad hx (by omega)
    rw [rf_ck hm1]
    refine hx_bs ?_
    refine Hx.bd (rf_worked (by omega) (show 1000000 < 4000000000 by omega) hw hm1 (hB.keepM r1 (by unfold Rnot; decide) (fun _ _ _ q => q)) (hD.keepM r1 (by decide) (fun _ _ _ q => q))) (fun σ7 v8 h7 => ?_)
    rcases h7 with ⟨r0, rR, ⟨vi, rfl, hV, hP⟩, hSt⟩ | ⟨r0, rR, rfl, f43, f44, f45, f46⟩
    · have hm7 := rR.ms hm1
      have hsl : r.2.2.2.length ≤ 200 := hSt.2.1
      have hvi : vi < 200 ∨ 600 ≤ vi ∧ vi < vm := by
        rcases hP with q | q
        · exact Or.inl (by omega)
        · exact Or.inr q
      have all7 : rfM m [55] AWU VW σ σ7 := (r1.mo ⟨by decide, by decide⟩ (fun _ q => q.elim)).tr (rR.mo ⟨by decide, by decide⟩ (fun _ q => q))
      refine Hx.ce (nIm (by omega)) (fun z => z.elim) (fun _ => ?_)
      rw [fi_g hm7 (k32.keep rR (by decide))]
      refine hx_bs (Hx.ce (sm_eq (by omega) (by omega)) (fun c1 => ?_) (fun c1 => ?_))
      · rw [rf_ck hm7]
        refine hx_bs ?_
        refine Hx.bd (rf_keeps hm7 ((h5.keep r1 (by decide)).keep rR (by decide)) hv hV (by omega)) (fun σ8 v h8 => ?_)
        obtain ⟨i', vm', rfl, k5, kv, ki, kV, kR⟩ := h8
        refine g3 r0 c1 σ8 i' vm' ((all7.mo ⟨by decide, fun _ q => q⟩ (fun _ q => Or.inl q)).tr (kR.mo ⟨by decide, by decide⟩ (fun _ q => Or.inr q))) k5 kv ⟨⟨ki.1, ki.2, by omega⟩, kV⟩ ?_
        obtain ⟨s1, s2, s3⟩ := hSt
        refine ⟨s1.keep kR (by decide), s2, fun j s hj => ?_⟩
        obtain ⟨u1, vj, u2, u3, u4⟩ := s3 j s hj
        have hvj : vj < 200 ∨ 600 ≤ vj ∧ vj < vm := by
          rcases u4 with q | q
          · exact Or.inl (by omega)
          · exact Or.inr q
        exact ⟨by rw [kR.ar 23 ⟨by decide, by omega, by omega⟩]; exact u1, vj, by rw [kR.ar 24 ⟨by decide, by omega, by omega⟩]; exact u2, u3.keepM kR (fun q => by
          have q : vj = vm := q
          omega), u4⟩
      · exact g2 r0 (by omega) σ7 vi all7 hV hP hSt
    · refine Hx.ce rfl (fun _ => ?_) (fun z => absurd rfl z)
      exact Hx.ret (g1 r0 σ7 ((r1.mo ⟨by decide, by decide⟩ (fun _ q => q.elim)).tr (rR.mo ⟨by decide, by decide⟩ (fun _ q => q))) f43 f44 f45 f46)
theorem rf_50_0 {m vm d vi : Nat} {q : Qv} {sts : Sts} {σ : St} (hvm : vm ≤ 12600) (hm : MS σ m) (h32 : Fi σ m 32 (nI 0)) (hV : Vl σ m vi q) (hP : Pv vm sts.length vi) (hS : Ste σ m vm sts) :
    Hx (fX12_isDone_50 σ m (nI d) (nI vi)) (fun σ' v => v = nI 1 ∧ rfM m [56, 57, 65] [25, 34] (fun i => 200 ≤ i ∧ i < 600) σ σ' ∧ Shn σ' m sts ∧ Fi σ' m 57 (nI vi) ∧ Vl σ' m vi q) := by
  have hsl : sts.length ≤ 200 := hS.2.1
  rw [n_fX12_isDone_50]
  refine rf_54 (vm := vm) hvm FU 0 σ (by unfold FU; omega) (by omega) hm hS (fun j s hj => absurd hj (by omega)) (fun σ1 m1 r1 hA => ?_)
  have k32 := h32.keep r1 (by decide)
  rw [n_fX12_isDone_108, fi_g m1 k32]
  refine hx_bs (Hx.ce (sm_le (by omega) (by omega)) (fun _ => ?_) (fun z => absurd (Nat.le_refl 0) z))
  refine (rf_158 (f := 0) m1 k32 (by omega) hA).mo (fun σ2 v g => ?_)
  obtain ⟨rfl, g1, g2, g3⟩ := g
  have hvi : vi < 200 ∨ 600 ≤ vi ∧ vi < vm := by
    rcases hP with q | q
    · exact Or.inl (by omega)
    · exact Or.inr q
  refine ⟨rfl, (r1.mo ⟨by decide, by decide⟩ (fun i q => ?_)).tr (g1.mo ⟨by decide, by decide⟩ (fun i q => ?_)), g2, g3, (hV.keepM r1 (fun q => ?_)).keepM g1 (fun q => ?_)⟩
  · have q : 400 ≤ i ∧ i < 600 := q
    exact ⟨by omega, by omega⟩
  · have q : 200 ≤ i ∧ i < 400 := q
    exact ⟨by omega, by omega⟩
  · have q : 400 ≤ vi ∧ vi < 600 := q
    omega
  · have q : 200 ≤ vi ∧ vi < 400 := q
    omega
