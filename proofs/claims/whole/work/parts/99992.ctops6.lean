/-! ===== the class' calls: a copy is the answer ===== -/
theorem cx_clearTape {x : Nat} {n : Int32} {σ : St} (hp : HP (PX x) σ) (hx : XS σ x) (h : sI σ (fid 15 1) x = n) : Hx (fX11_clearTape σ x) (fun σ' v => v = n ∧ cW x (s1 x) 0 0 σ σ' ∧ xI [fid 15 1] x σ σ' ∧ sI σ' (fid 15 1) x = nI 0) := by
  have k0 : sK σ x = 15 + 1 := hx.kd 0 16 (by decide)
  rw [n_fX11_clearTape, (sm_gI k0).trans (congrArg some h)]
  refine hx_bs ?_
  rw [sm_pI k0]
  refine hx_bs (Hx.ret ⟨rfl, cWi hp (by omega) (by omega), ⟨fun f hf => ?_, fun f => rfl⟩, sI_wI_eq⟩)
  simp only [List.mem_cons, List.not_mem_nil, or_false] at hf
  exact sI_wI_f hf
theorem cx_takeCopy {x b now : Nat} {H : List As} {q : Qv} {σ : St} (hp : HP (PX x) σ) (hx : XS σ x) (hQ : SQ σ x) (hH : KHis σ x now H) (hq : qok q) (hb : FX σ b q.1 q.2.1 q.2.2) :
    Hx (fX11_takeCopy σ x b) (fun σ' v => v = iz q.1 ∧ cW x (s1 x) 15 5 σ σ' ∧ xAn x σ σ' ∧ KHis σ' x now H ∧ KAn σ' x q) := by
  have hz := hx.z
  rw [n_fX11_takeCopy]
  refine hx_nm (hx_nm ?_)
  rw [sm_ckK (show sK (nw 6 0 3 σ) (sz σ) = 6 from if_pos rfl)]
  refine hx_bs ?_
  refine Hx.bd (cf_copy hp hb hq.n4.1 hq.n4.2) (fun σ1 _ h => ?_)
  obtain ⟨hF1, hX1⟩ := h
  have hx1 := hx.kW hF1
  have cb1 := hF1.toB0 hx
  have hQ1 := hQ.st hF1 hx (fun r hr => hr.elim)
  have hH1 := hH.kW hF1 hx cb1 hQ (fun h => h) (fun h => h)
  have kf := KF.made hx hQ hF1 (Nat.le_refl _) hq hX1
  have hI1 : xI [] x σ σ1 := xI.of hF1 hx (fun h => h)
  obtain ⟨p1, p2, p3, p4, p5, p6⟩ := cx_setAnswer hF1.hp hx1 hQ1 hH1 kf
  rw [p1]
  refine hx_bs ?_
  rw [KAn.f (q := q) (hx1.kW p2)]
  refine hx_bs ?_
  rw [KF.sgn p5]
  exact hx_bs (Hx.ret ⟨rfl, (hF1.mo (S' := s1 x) (fun r _ h => h.elim) (Nat.le_refl _) (Nat.le_refl _)).tr0 p2 (fun r _ hr => hr), ⟨fun f => (p3.1 f).trans (hI1.1 f (fun q => by cases q)), fun f hf => (p3.2 f hf).trans (hI1.2 f)⟩, p4, p5⟩)
