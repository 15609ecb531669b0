/-! ===== calls of the one that was built: errors: names worked anew ===== -/
theorem KI.work {σ σ' : St} {x o : Nat} {s : Kst} (h : KI σ x o s) (g : cM x (sM σ x 0) 0 0 σ σ') (hQ' : SQ σ' x) : KI σ' x o s ∧ cO x 0 0 σ σ' := by
  obtain ⟨hp, hx, _, _, hQ⟩ := id h.1
  have ho := h.2.2.2.1.1.1
  obtain ⟨w, wp, hw⟩ := h.2.2.2.2.2
  obtain ⟨k0, c0, hF⟩ := g.w
  have hS : ∀ r, sM σ x 0 r → sScr σ x o r := fun r hr => by
    rcases hr with q | q | q | ⟨q, _⟩
    · exact Or.inr (Or.inl q)
    · exact Or.inr (Or.inr (Or.inl q))
    · exact Or.inr (Or.inr (Or.inr (Or.inl q)))
    · exact absurd rfl q
  refine ⟨h.scr g hQ' hS ⟨w, wp, hw.kW hF hx (fun q => ?_)⟩, g.mo (fun r _ hr => (hS r hr).mo (Or.inr ho)) (Nat.le_refl _) (Nat.le_refl _)⟩
  have := q.low hQ (Or.inl rfl) (by omega)
  omega
theorem cl_wn {x o b na fa : Nat} {s : Kst} {A : As} (hbd : ∀ e ∈ A.2.1, ∀ it ∈ e.2.2, OkI A.2.1 it) (hok : ∀ e ∈ A.1, (∀ it ∈ e.2.1, OkI A.2.1 it) ∧ hts e.2.1 0 = some 1) (hcn : Cn A.1 A.2.1) : ∀ (n k : Nat) (σ : St), A.1.length - k < n → k ≤ A.1.length → KI σ x o s → KBk σ x b na fa A.1 A.2.1 → Hx (fX11_wrongNames_12 n σ x b (nI 0) (nI k)) (fun σ' v => v = nI 0 ∧ KI σ' x o s ∧ cO x 0 0 σ σ') := by
  intro n
  induction n with
  | zero => intro k σ h; omega
  | succ n ih =>
    intro k σ hn hk h hB
    obtain ⟨hp, hx, _, _, hQ⟩ := id h.1
    obtain ⟨g1, g2, g3, g4, g5⟩ := ob_f hB
    have b20 := hB.1.2.2.1
    rw [n_fX11_wrongNames_12, g1]
    refine hx_bs ?_
    rw [g3]
    refine hx_bs (Hx.ce (sm_le (by omega) (by omega)) (fun c => Hx.ret ⟨rfl, h, cO.rf hp⟩) (fun c => ?_))
    have hk2 : k < A.1.length := by omega
    obtain ⟨e, he⟩ := get_some (l := A.1) (i := k) hk2
    have hm := List.mem_of_getElem? he
    have hK := hB.2.2.2.1 k e he
    obtain ⟨r, hw, hr0, hrv⟩ := hcn e hm
    obtain ⟨hoki, hhts⟩ := hok e hm
    refine hx_bs ?_
    rw [hB.ld hk2]
    refine hx_bs ?_
    rw [show gF σ 15 18 x = some (x + 75) from hx.gf 15 18 0 75 (by decide) (by decide)]
    refine hx_bs ?_
    rw [sm_gF (ci := 14) hK.1.2]
    refine hx_bs ?_
    rw [show gF σ 15 16 x = some (x + 18) from hx.gf 15 16 0 18 (by decide) (by decide)]
    refine hx_bs ?_
    rw [hx.ck 75 7 (by decide)]
    refine hx_bs ?_
    refine Hx.bd (cm_work (o := 0) (Or.inl rfl) hbd hp hx hQ hB hK.2.2.2.1 hoki hhts (Or.inl rfl) (Nat.le_refl 1000000) hw) (fun σ2 v g => ?_)
    obtain ⟨rfl, hM2, hQ2, _, hR⟩ := g
    obtain ⟨hX, hqk, _⟩ := hR hr0
    obtain ⟨h2, hO⟩ := h.work hM2 hQ2
    have cb2 := hM2.toB (fun r _ hr => sM.mu (Or.inl rfl) hr)
    have hB2 := hB.kB cb2 hQ
    have hK2 := hK.kB cb2 hQ
    have hx2 := h2.1.2.1
    have hV : KF σ2 x (sF σ2 (fid 14 3) (sQ σ na k)) e.2.2 := hK2.2.2.2.2
    have hv0 : sF σ2 (fid 14 3) (sQ σ na k) ≠ 0 := by rcases hV.1 with z | z <;> omega
    rw [hr0]
    refine Hx.ce rfl (fun _ => ?_) (fun z => absurd rfl z)
    rw [sm_gF (ci := 14) hK2.1.2]
    refine hx_bs (Hx.cs (fun z => absurd z hv0) (fun _ => ?_))
    rw [show gF σ2 15 18 x = some (x + 75) from hx2.gf 15 18 0 75 (by decide) (by decide)]
    refine hx_bs ?_
    rw [show gF σ2 6 8 (x + 75) = some (x + 80) from hx2.gf 6 8 75 80 (by decide) (by decide)]
    refine hx_bs (hx_bs ?_)
    rw [hx2.ck 80 6 (by decide)]
    refine hx_bs ?_
    rw [hrv] at hX
    have hsg : -1 ≤ e.2.2.1 ∧ e.2.2.1 ≤ 1 := by rcases hV.2.2.1.1 with z | z | z <;> rw [z] <;> decide
    rw [cf_isSame hX hV.2.2.2 hsg hsg, if_pos ⟨rfl, rfl, rfl⟩]
    refine hx_cs (Hx.ce (sm_eq (show 1 < 2147483648 by omega) (by omega)) (fun z => absurd z (by omega)) (fun _ => ?_))
    rw [n_fX11_wrongNames_79, sm_add]
    exact hx_nm ((ih (k + 1) σ2 (by omega) (by omega) h2 hB2).mo (fun σ3 v g => ⟨g.1, g.2.1, hO.tr g.2.2⟩))
theorem ki_wrongNames {x o : Nat} {s : Kst} {A : As} {σ : St} (h : KI σ x o s) (hA : s.2.2.2.2.2.2.2.2[s.2.2.2.2.2.2.2.1]? = some A) (hz : Bkz A) : Hx (fX11_wrongNames σ x) (fun σ' v => v = nI 0 ∧ KI σ' x o s ∧ cO x 0 0 σ σ') := by
  obtain ⟨t, b, na, fa, pr, hS, f0, hB, hU⟩ := h.2.2.2.2.1.book h.1.2.1 hA
  rw [n_fX11_wrongNames, sm_ckK h.1.2.1.k0]
  refine hx_bs ?_
  rw [pr]
  refine hx_cs ?_
  rw [f0]
  refine hx_bs ?_
  exact cl_wn hz.1.1.2.2.2 hz.1.2.2.2.2 hz.2.2.2 FU 0 σ (by have := hz.1.2.2.1.1; unfold FU; omega) (by omega) h hB
