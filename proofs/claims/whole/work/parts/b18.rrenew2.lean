/-! ===== the reference works anew: one name ===== -/
theorem Dfn.up {σ : St} {m vm vm' d np : Nat} {l : List It} (h : Dfn σ m vm d l np) (h1 : vm ≤ vm') (h2 : vm' ≤ 12600) : Dfn σ m vm' d l np := by
  obtain ⟨a1, a2, s, a3, a4, a5, a6⟩ := h
  exact ⟨a1, a2, s, a3, a4, a5, a6.up h1 h2⟩
theorem Rbk.up {σ : St} {m vm vm' : Nat} {ns : List NE} {fs : List FE} (h : Rbk σ m vm ns fs) (h1 : vm ≤ vm') (h2 : vm' ≤ 12600) : Rbk σ m vm' ns fs := by
  refine ⟨h.1, fun k e he => ?_, fun k e he => ?_⟩
  · obtain ⟨b1, b2, ⟨d, b3, b4⟩, vi, b5, b6⟩ := h.2.1 k e he
    exact ⟨b1, b2, ⟨d, b3, b4.up h1 h2⟩, vi, b5, b6.up h1 h2⟩
  · obtain ⟨b1, b2, d, b3, b4⟩ := h.2.2 k e he
    exact ⟨b1, b2, d, b3, b4.up h1 h2⟩
/-- one name gets another value -/
theorem Rbk.setv {σ : St} {m vm b vi : Nat} {ns : List NE} {fs : List FE} {e : NE} {q : Qv} (h : Rbk σ m vm ns fs) (he : ns[b]? = some e) (hK : Kv σ m vm vi q) : Rbk (wA σ (m + 20) b (nI vi)) m vm (ns.set b (e.1, e.2.1, q)) fs := by
  have w : rfM m [] [20] nV σ (wA σ (m + 20) b (nI vi)) := rfM.wA (by simp) (by omega)
  obtain ⟨⟨a1, a2, a3, a4⟩, h2, h3⟩ := h
  have hb := (List.getElem?_eq_some_iff.mp he).1
  refine ⟨⟨by rw [List.length_set]; exact fi_wA a1, by rw [List.length_set]; exact a2, fi_wA a3, a4⟩, fun k e' he' => ?_, fun k e' he' => ?_⟩
  · rw [List.getElem?_set] at he'
    by_cases c : b = k
    · subst c
      rw [if_pos rfl, if_pos hb] at he'
      cases he'
      obtain ⟨b1, b2, ⟨d, b3, b4⟩, _⟩ := h2 b e he
      refine ⟨by rw [sA_wA_b (by omega)]; exact b1, b2, ⟨d, by rw [sA_wA_b (by omega)]; exact b3, b4.keepM w (by decide) (fun _ _ _ q => q)⟩, vi, sA_wA_eq, hK.keepM w (fun _ _ _ q => q)⟩
    · rw [if_neg c] at he'
      obtain ⟨b1, b2, ⟨d, b3, b4⟩, u, b5, b6⟩ := h2 k e' he'
      exact ⟨by rw [sA_wA_b (by omega)]; exact b1, b2, ⟨d, by rw [sA_wA_b (by omega)]; exact b3, b4.keepM w (by decide) (fun _ _ _ q => q)⟩, u, by rw [sA_wA_j (by omega)]; exact b5, b6.keepM w (fun _ _ _ q => q)⟩
  · obtain ⟨b1, b2, d, b3, b4⟩ := h3 k e' he'
    exact ⟨by rw [sA_wA_b (by omega)]; exact b1, b2, d, by rw [sA_wA_b (by omega)]; exact b3, b4.keepM w (by decide) (fun _ _ _ q => q)⟩
abbrev FRn : List Nat := [5, 43, 44, 45, 46, 55]
abbrev FRg : List Nat := [5, 55]
abbrev ARn : List Nat := [1, 2, 20, 21, 22, 23, 24, 26, 27, 28, 29, 33]
def VRn (v0 : Nat) : Nat → Prop := fun i => i < 200 ∨ v0 ≤ i
theorem rn_step {m vm v0 b : Nat} {ns : List NE} {fs : List FE} {lf : Nat → Prop} {e : NE} {r : Rs} {Q : St → Int32 → Prop} {k47 : St → Nat → Option (St × Int32)} {σ : St} (hm : MS σ m) (hB : Rbk σ m vm ns fs) (hL : LfA σ m lf) (h5 : Fi σ m 5 (nI vm)) (hv : 600 ≤ vm ∧ vm < 12600) (hv0 : v0 ≤ vm) (he : ns[b]? = some e) (hw : wrk (nvl ns) (fbd fs) 1000000 [] e.2.1 [] 0 [] = some r)
    (hbad : r.1 ≠ 0 → ∀ σ', rfM m FRn ARn (VRn v0) σ σ' → Fi σ' m 43 (nI 9) → Fi σ' m 44 (nI 0) → Fi σ' m 45 (nI e.1) → Fi σ' m 46 (nI 0) → Q σ' (nI 0))
    (hgood : r.1 = 0 → ∀ σ' vm', rfM m FRg ARn (VRn v0) σ σ' → MS σ' m → Rbk σ' m vm' (ns.set b (e.1, e.2.1, r.2.2.1)) fs → LfA σ' m (fun t => lf t ∧ t ≠ b) → Fi σ' m 5 (nI vm') → vm ≤ vm' ∧ vm' ≤ vm + 1 → Hx (k47 σ' m) Q) : Hx (rnF k47 σ m (nI b)) Q := by
  obtain ⟨b40, b20, _, _⟩ := hB.1
  have hb := (List.getElem?_eq_some_iff.mp he).1
  obtain ⟨g1, g2, ⟨d, g3, g4⟩, _⟩ := hB.2.1 b e he
  unfold rnF
  refine Hx.ce (nIm (by omega)) (fun c => c.elim) (fun _ => ?_)
  rw [rf_def hm]
  refine hx_bs ?_
  rw [ld_def hm (by omega), g3]
  refine hx_bs ?_
  rw [rf_ck hm]
  refine hx_bs ?_
  refine Hx.bd (rf_worked (by omega) (show 1000000 < 4000000000 by omega) hw hm hB g4) (fun σ6 v7 h => ?_)
  rcases h with ⟨r0, rR, ⟨vi, rfl, hV, hP⟩, hSt⟩ | ⟨r0, rR, rfl, _⟩
  · have hsl : r.2.2.2.length ≤ 200 := hSt.2.1
    have hvi : vi < 200 ∨ 600 ≤ vi ∧ vi < vm := by
      rcases hP with q | q
      · exact Or.inl (by omega)
      · exact Or.inr q
    have hm6 := rR.ms hm
    have nw6 : ∀ i, 600 ≤ i → i < vm → ¬ VW i := fun i h1 h2 q => by have q : i < 200 := q; omega
    have hB6 := hB.keepM rR (by unfold Rnot; decide) nw6
    refine Hx.ce (nIm (by omega)) (fun c => c.elim) (fun _ => ?_)
    rw [rf_valueOf hm6]
    refine hx_bs ?_
    rw [rf_ck hm6]
    refine hx_bs ?_
    refine Hx.bd (rf_keeps hm6 (h5.keep rR (by decide)) hv hV (by omega)) (fun σ7 v h => ?_)
    obtain ⟨i', vm', rfl, k5, kv, ki, kV, kR⟩ := h
    have hm7 := kR.ms hm6
    have hB7 := (hB6.keepM kR (by unfold Rnot; decide) (fun i h1 h2 q => by have q : i = vm := q; omega)).up kv.1 (by omega)
    have hB8 := hB7.setv he (show Kv σ7 m vm' i' r.2.2.1 from ⟨⟨ki.1, ki.2, by omega⟩, kV⟩)
    have w8 : rfM m FRg ARn (VRn v0) σ7 (wA σ7 (m + 20) b (nI i')) := rfM.wA (by simp) (by omega)
    have hm8 := w8.ms hm7
    rw [st_valueOf hm7 (by omega)]
    refine hx_bs ?_
    rw [rf_isLeft hm8]
    refine hx_bs ?_
    rw [stb_isLeft hm8 (by omega) (Or.inl rfl)]
    refine hx_bs ?_
    have w9 : rfM m [] [33] nV (wA σ7 (m + 20) b (nI i')) (wA (wA σ7 (m + 20) b (nI i')) (m + 33) b (nI 0)) := rfM.wA (by simp) (by omega)
    have hall : rfM m FRg ARn (VRn v0) σ (wA (wA σ7 (m + 20) b (nI i')) (m + 33) b (nI 0)) := by
      refine ((rR.mo ⟨by decide, by decide⟩ (fun i q => Or.inl q)).tr ((kR.mo ⟨by decide, by decide⟩ (fun i q => ?_)).tr w8)).tr (w9.mo ⟨by decide, by decide⟩ (fun _ q => q.elim))
      have q : i = vm := q
      exact Or.inr (by omega)
    refine hgood r0 _ vm' hall (w9.ms hm8) (hB8.keepM w9 (by unfold Rnot; decide) (fun _ _ _ q => q)) (fun t ht => ?_) (fi_wA (fi_wA k5)) kv
    by_cases c : t = b
    · subst c
      rw [sA_wA_eq, b01_n (fun q => q.2 rfl)]
    · rw [sA_wA_j c, sA_wA_b (by omega), kR.ar 33 ⟨by decide, by omega, by omega⟩, rR.ar 33 ⟨by decide, by omega, by omega⟩, hL t ht]
      congr 2
      exact propext ⟨fun q => ⟨q, c⟩, fun q => q.1⟩
  · have hm6 := rR.ms hm
    refine Hx.ce rfl (fun _ => ?_) (fun q => absurd rfl q)
    rw [rf_ck hm6]
    refine hx_bs ?_
    refine Hx.bd (rf_refuses hm6) (fun σ7 v h => ?_)
    obtain ⟨_, q1, q2, q3, q4, q5⟩ := h
    have hm7 := q1.ms hm6
    rw [rf_word hm7]
    refine hx_bs ?_
    rw [ld_word hm7 (by omega), q1.ar 18 ⟨by decide, by omega, by omega⟩, rR.ar 18 ⟨by decide, by omega, by omega⟩, g1]
    refine hx_bs ?_
    rw [rf_pI hm7]
    refine hx_bs (Hx.ret (hbad r0 _ ?_ (fi_wn q2 (by decide)) (fi_wn q3 (by decide)) fi_wI (fi_wn q5 (by decide))))
    exact ((rR.mo ⟨by decide, by decide⟩ (fun i q => Or.inl q)).tr (q1.mo ⟨by decide, by decide⟩ (fun _ q => q.elim))).tr (rfM.wI (by decide))
