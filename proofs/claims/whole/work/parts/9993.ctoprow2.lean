/-- a call of a row that isn't there -/
theorem cx_noRow {x now : Nat} {H : List As} {A : As} {v : Int32} {σ : St} (hx : XS σ x) (hH : KHis σ x now H) (hA : H[now]? = some A) (h : ¬ ∃ r : Nat, r < 3 ∧ v = nI r) : fX11_isRow σ x v = some (σ, nI 0) := by
  rw [cx_isRow hx hH hA, b01_n h]
theorem cx_rowE {x now r : Nat} {H : List As} {A : As} {σ : St} (hx : XS σ x) (hH : KHis σ x now H) (hA : H[now]? = some A) (hr : r < 3) : fX11_isRow σ x (nI r) = some (σ, nI 1) := by
  rw [cx_isRow hx hH hA, b01_p ⟨r, hr, rfl⟩]
/-- out -/
theorem cx_out {x now r : Nat} {H : List As} {A : As} {vs : List Qv} {q : Qv} {σ : St} (hp : HP (PX x) σ) (hx : XS σ x) (hQ : SQ σ x) (hH : KHis σ x now H) (hA : H[now]? = some A) (hr : r < 3) (hvs : A.2.2[r]? = some vs) (hq : KAn σ x q) :
    Hx (fX11_out σ x (nI r)) (fun σ' v => if csm q (vs.drop (cbl q vs)) = 0 then (∃ σ1, cW x (sRw x) 0 0 σ σ1 ∧ xI [] x σ σ1 ∧ KHis σ1 x now H ∧ σ' = th σ1) ∧ v = .inl "java/util/NoSuchElementException" else cW x (sRw x) 65 4 σ σ' ∧ xI [fid 15 14, fid 15 15] x σ σ' ∧ KHis σ' x (if now + 1 < 21 then now + 1 else 20) (chg now H (A.1, A.2.1, A.2.2.set r (vs.eraseIdx (cbl q vs)))) ∧ v = .inr (nI (vs.length - 1))) := by
  obtain ⟨s, ra, pr, hS, f1, l1, hR, ck⟩ := hH.row hx hA hvs
  have hl := hR.1.2.2
  have hcb := cbl_le q vs
  have hcs := csm_le q (vs.drop (cbl q vs))
  rw [List.length_drop] at hcs
  rw [n_fX11_out, sm_ckK (show sK σ x = 16 from hx.kd 0 16 (by decide))]
  refine hx_bs ?_
  rw [cx_rowE hx hH hA hr]
  refine hx_cs (Hx.ce (sm_eq (by omega) (by omega)) (fun c => absurd c (by omega)) (fun _ => ?_))
  rw [sm_ckK (show sK σ x = 16 from hx.kd 0 16 (by decide))]
  refine hx_bs ?_
  rw [pr]
  refine hx_cs ?_
  rw [f1]
  refine hx_bs ?_
  rw [l1]
  refine hx_bs ?_
  rw [show gF σ 15 16 x = some (x + 18) from hx.gf 15 16 0 18 (by decide) (by decide)]
  refine hx_bs ?_
  rw [KAn.f (q := q) hx]
  refine hx_bs ?_
  rw [hx.ck 18 10 (by decide)]
  refine hx_bs ?_
  refine Hx.bd (cr_countBelow hp hx hQ hR hq) (fun σ1 v h => ?_)
  obtain ⟨hF1, rfl⟩ := h
  have hP1 := s37_P hF1
  have cb1 := sRw_B hP1 hx
  have hx1 := hx.kW hF1
  have hQ1 := sRw_Q hP1 hx hQ
  have hR1 := hR.kB cb1 hQ
  have hI1 : xI [] x σ σ1 := xI.of hF1 hx (by rintro (h | h) <;> omega)
  have hq1 : KAn σ1 x q := hq.kB hI1 cb1 hQ
  have hH1 := hH.kW hF1 hx cb1 hQ (by rintro (h | h) <;> omega) (by rintro (h | h) <;> omega)
  rw [KAn.f (q := q) hx1]
  refine hx_bs ?_
  rw [sm_ckK hR1.1.2.1]
  refine hx_bs ?_
  rw [cb_countSame hR1 hq1 hcb]
  refine hx_cs (Hx.ce (sm_eq (by omega) (by omega)) (fun c => ?_) (fun c => ?_))
  · refine Hx.ret ?_
    rw [if_pos c]
    exact ⟨⟨σ1, hP1, hI1, hH1, rfl⟩, rfl⟩
  · rw [sm_ckK hR1.1.2.1]
    refine hx_bs ?_
    refine Hx.bd (cb_rowWithout hF1.hp hx1 hQ1 hR1 (show cbl q vs < vs.length by omega)) (fun σ2 r2 h => ?_)
    obtain ⟨hF2, hR2⟩ := h
    have cb2 := hF2.toB0 hx1
    have hx2 := hx1.kW hF2
    have hQ2 := hQ1.st hF2 hx1 (fun r hr => hr.elim)
    have hH2 := hH1.kW hF2 hx1 cb2 hQ1 (fun h => h) (fun h => h)
    have hI2 : xI [] x σ1 σ2 := xI.of hF2 hx1 (fun h => h)
    have hP2 := hP1.tr hF2 (fun r _ h => h.elim)
    refine cx_setRow hF2.hp hx2 hQ2 hH2 hA hr hR2 (fun σ3 hF3 hI3 hH3 => ?_)
    have hR3 := hR2.kB (sRw_B hF3 hx2) hQ2
    obtain ⟨a3, k1, k2, _, _, _⟩ := hR3.f
    rw [k1]
    refine hx_bs ?_
    rw [k2, ers_len (show cbl q vs < vs.length by omega)]
    refine hx_bs (Hx.ret ?_)
    rw [if_neg c]
    refine ⟨(hP2.tr hF3 (fun r _ hr => hr)).mo (fun r _ hr => hr) (by omega) (by omega), ?_, hH3, rfl⟩
    exact (hI1.tr (L := []) hI2 (fun f h => h) (fun f h => h)).tr hI3 (fun f h => by cases h) (fun f h => h)
/-- empty -/
theorem cx_empty {x now r : Nat} {H : List As} {A : As} {vs : List Qv} {σ : St} (hp : HP (PX x) σ) (hx : XS σ x) (hQ : SQ σ x) (hH : KHis σ x now H) (hA : H[now]? = some A) (hr : r < 3) (hvs : A.2.2[r]? = some vs) :
    Hx (fX11_empty σ x (nI r)) (fun σ' v => cW x (sRw x) 65 4 σ σ' ∧ xI [fid 15 14, fid 15 15] x σ σ' ∧ KHis σ' x (if now + 1 < 21 then now + 1 else 20) (chg now H (A.1, A.2.1, A.2.2.set r [])) ∧ v = .inr (nI vs.length)) := by
  obtain ⟨s, ra, pr, hS, f1, l1, hR, ck⟩ := hH.row hx hA hvs
  obtain ⟨a, g1, g2, _, _, _⟩ := hR.f
  obtain ⟨e1, hF2, hR2⟩ := cb_rowNew hp hx hQ
  have hx2 := hx.kW hF2
  have hQ2 := hQ.st hF2 hx (fun r hr => hr.elim)
  have hS2 := hS.kB (hF2.toB0 hx) hQ
  have hI2 : xI [] x σ (rwN σ 0) := xI.of hF2 hx (fun h => h)
  rw [n_fX11_empty, sm_ckK (show sK σ x = 16 from hx.kd 0 16 (by decide))]
  refine hx_bs ?_
  rw [cx_rowE hx hH hA hr]
  refine hx_cs (Hx.ce (sm_eq (by omega) (by omega)) (fun c => absurd c (by omega)) (fun _ => ?_))
  rw [sm_ckK (show sK σ x = 16 from hx.kd 0 16 (by decide))]
  refine hx_bs ?_
  rw [pr]
  refine hx_cs ?_
  rw [f1]
  refine hx_bs ?_
  rw [l1]
  refine hx_bs ?_
  rw [g1]
  refine hx_bs ?_
  rw [g2]
  refine hx_bs ?_
  rw [sm_ckK (show sK σ x = 16 from hx.kd 0 16 (by decide))]
  refine hx_bs ?_
  rw [pr]
  refine hx_cs (hx_nm (hx_nm ?_))
  rw [sm_ckK (show sK (nw 11 0 1 σ) (sz σ) = 11 from if_pos rfl)]
  refine hx_bs ?_
  rw [e1]
  refine hx_cs ?_
  rw [sm_ckK hS2.1.2.1]
  refine hx_bs ?_
  refine Hx.bd (cb_withRow hF2.hp hx2 hQ2 hS2 hR2 hr) (fun σ3 s3 h => ?_)
  obtain ⟨hF3, hS3⟩ := h
  have hx3 := hx2.kW hF3
  have hQ3 := hQ2.st hF3 hx2 (fun r hr => hr.elim)
  have hFF := hF2.tr hF3 (fun r _ hr => hr)
  have hH3 := hH.kW hFF hx (hFF.toB0 hx) hQ (fun h => h) (fun h => h)
  rw [sm_ckK (show sK σ3 x = 16 from hx3.kd 0 16 (by decide))]
  refine hx_bs ?_
  refine Hx.bd (cx_change hF3.hp hx3 hQ3 hH3 hS3) (fun σ4 _ h => ?_)
  obtain ⟨k1, k2, k3⟩ := h
  refine Hx.ret ⟨((hFF.mo (S' := sRw x) (fun r _ h => h.elim) (Nat.le_refl _) (Nat.le_refl _)).tr0 k1 (fun r _ hr => by rcases hr with h | h; exact Or.inl h; exact Or.inr (Or.inl h))).mo (fun r _ hr => hr) (by omega) (by omega), ?_, k3, rfl⟩
  exact (xI.of (L := []) hFF hx (fun h => h)).tr k2 (fun f h => by cases h) (fun f h => h)
/-- count -/
theorem cx_count {x now r : Nat} {H : List As} {A : As} {vs : List Qv} {q : Qv} {isSame : Int32} {σ : St} (hp : HP (PX x) σ) (hx : XS σ x) (hQ : SQ σ x) (hH : KHis σ x now H) (hA : H[now]? = some A) (hr : r < 3) (hvs : A.2.2[r]? = some vs) (hq : KAn σ x q) :
    Hx (fX11_count σ x (nI r) isSame) (fun σ' v => cW x (sRw x) 0 0 σ σ' ∧ xI [] x σ σ' ∧ KHis σ' x now H ∧ v = .inr (nI (if isSame = nI 0 then cbl q vs else csm q (vs.drop (cbl q vs))))) := by
  obtain ⟨s, ra, pr, hS, f1, l1, hR, ck⟩ := hH.row hx hA hvs
  have hcb := cbl_le q vs
  rw [n_fX11_count, sm_ckK (show sK σ x = 16 from hx.kd 0 16 (by decide))]
  refine hx_bs ?_
  rw [cx_rowE hx hH hA hr]
  refine hx_cs (Hx.ce (sm_eq (by omega) (by omega)) (fun c => absurd c (by omega)) (fun _ => ?_))
  rw [show gF σ 15 16 x = some (x + 18) from hx.gf 15 16 0 18 (by decide) (by decide)]
  refine hx_bs ?_
  rw [sm_ckK (show sK σ x = 16 from hx.kd 0 16 (by decide))]
  refine hx_bs ?_
  rw [pr]
  refine hx_cs ?_
  rw [f1]
  refine hx_bs ?_
  rw [l1]
  refine hx_bs ?_
  rw [KAn.f (q := q) hx]
  refine hx_bs ?_
  rw [hx.ck 18 10 (by decide)]
  refine hx_bs ?_
  refine Hx.bd (cr_countBelow hp hx hQ hR hq) (fun σ1 v h => ?_)
  obtain ⟨hF1, rfl⟩ := h
  have hP1 := s37_P hF1
  have cb1 := sRw_B hP1 hx
  have hx1 := hx.kW hF1
  have hI1 : xI [] x σ σ1 := xI.of hF1 hx (by rintro (h | h) <;> omega)
  have hq1 : KAn σ1 x q := hq.kB hI1 cb1 hQ
  have hH1 := hH.kW hF1 hx cb1 hQ (by rintro (h | h) <;> omega) (by rintro (h | h) <;> omega)
  by_cases c : isSame = nI 0
  · rw [if_pos c, if_pos c]
    exact Hx.ret ⟨hP1, hI1, hH1, rfl⟩
  · rw [if_neg c, if_neg c]
    obtain ⟨s', ra', pr', hS', f1', l1', hR', ck'⟩ := hH1.row hx1 hA hvs
    rw [sm_ckK (show sK σ1 x = 16 from hx1.kd 0 16 (by decide))]
    refine hx_bs ?_
    rw [pr']
    refine hx_cs ?_
    rw [f1']
    refine hx_bs ?_
    rw [l1']
    refine hx_bs ?_
    rw [KAn.f (q := q) hx1]
    refine hx_bs ?_
    rw [sm_ckK hR'.1.2.1]
    refine hx_bs ?_
    rw [cb_countSame hR' hq1 hcb]
    exact hx_cs (Hx.ret ⟨hP1, hI1, hH1, rfl⟩)
