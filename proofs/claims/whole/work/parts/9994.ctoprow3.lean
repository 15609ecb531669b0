/-- of the class' first cell only the answer is written -/
def xAn (x : Nat) (σ σ' : St) : Prop := (∀ f, sI σ' f x = sI σ f x) ∧ ∀ f, f ≠ fid 15 8 → sF σ' f x = sF σ f x
/-- another answer -/
theorem cx_setAnswer {x a now : Nat} {H : List As} {q : Qv} {σ : St} (hp : HP (PX x) σ) (hx : XS σ x) (hQ : SQ σ x) (hH : KHis σ x now H) (ha : KF σ x a q) : pF σ 15 8 x a = some (wF σ (fid 15 8) x a) ∧ cW x (s1 x) 0 0 σ (wF σ (fid 15 8) x a) ∧ xAn x σ (wF σ (fid 15 8) x a) ∧ KHis (wF σ (fid 15 8) x a) x now H ∧ KAn (wF σ (fid 15 8) x a) x q ∧ cB x σ (wF σ (fid 15 8) x a) := by
  have k0 : sK σ x = 15 + 1 := hx.kd 0 16 (by decide)
  have hF : cW x (s1 x) 0 0 σ (wF σ (fid 15 8) x a) := (cW.rf hp).wf (Or.inr ⟨by decide, rfl⟩) (by omega) (by omega)
  have hB := cB.of hF (fun r _ hs => by have : r = x := hs; omega) (fun T hT hs => by have : x + T = x := hs; rcases hT with g | g | g <;> omega) hx
  refine ⟨sm_pF k0, hF, ⟨fun f => rfl, fun f hf => sF_wF_f hf⟩, ⟨hH.1, fun i A hA => (hH.2 i A hA).kB hB hQ⟩, ?_, hB⟩
  unfold KAn
  rw [sF_wF_eq]
  exact ha.kB hB hQ
theorem cx_takeLeast {x now r : Nat} {H : List As} {A : As} {vs : List Qv} {v : Int32} {σ : St} (hp : HP (PX x) σ) (hx : XS σ x) (hQ : SQ σ x) (hH : KHis σ x now H) (hA : H[now]? = some A) (hr : r < 3) (hvs : A.2.2[r]? = some vs) :
    Hx (fX11_takeLeast σ x (nI r) v) (fun σ' w => (∃ i q, v = nI i ∧ vs[i]? = some q ∧ cW x (s1 x) 0 0 σ σ' ∧ xAn x σ σ' ∧ KHis σ' x now H ∧ KAn σ' x q ∧ w = .inr (iz q.1)) ∨ (¬ ∃ i : Nat, i < vs.length ∧ v = nI i) ∧ σ' = th σ ∧ w = .inl "java/lang/IndexOutOfBoundsException") := by
  obtain ⟨s, ra, pr, hS, f1, l1, hR, ck⟩ := hH.row hx hA hvs
  obtain ⟨a, g1, g2, _, _, hi⟩ := hR.f
  have hl := hR.1.2.2
  have hz1 := Int32.toInt_lt v
  have hz2 := Int32.le_toInt v
  rw [n_fX11_takeLeast, sm_ckK (show sK σ x = 16 from hx.kd 0 16 (by decide))]
  refine hx_bs ?_
  rw [cx_rowE hx hH hA hr]
  refine hx_cs (Hx.ce (sm_eq (by omega) (by omega)) (fun c => absurd c (by omega)) (fun _ => ?_))
  rw [sm_ckK (show sK σ x = 16 from hx.kd 0 16 (by decide))]
  refine hx_bs ?_
  rw [pr]
  refine hx_cs ?_
  rw [f1]
  refine hx_bs ?_
  rw [l1]
  refine hx_bs ?_
  rw [g1]
  refine hx_bs ?_
  by_cases c : v < nI 0
  · rw [if_pos c, n_fX11_takeLeast_39]
    refine Hx.ret (Or.inr ⟨?_, rfl, rfl⟩)
    rintro ⟨i, h1, rfl⟩
    rw [sm_lt (by omega) (by omega)] at c
    omega
  · rw [if_neg c, g2]
    refine hx_bs ?_
    by_cases c2 : v < nI vs.length
    · rw [if_pos c2]
      have e := iz_self v
      rw [e, xm_lt (by omega) (by omega) (by omega)] at c c2
      have e2 : v = nI v.toInt.toNat := by
        rw [sm_iz, Int.toNat_of_nonneg (by omega)]
        exact e
      have hlt : v.toInt.toNat < vs.length := by omega
      obtain ⟨l2, kf⟩ := hi v.toInt.toNat _ (List.getElem?_eq_getElem hlt)
      rw [← e2] at l2
      rw [l2]
      refine hx_bs ?_
      obtain ⟨p1, p2, p3, p4, p5, p6⟩ := cx_setAnswer hp hx hQ hH kf
      rw [p1]
      refine hx_bs ?_
      rw [KAn.f (q := vs[v.toInt.toNat]) (hx.kW p2)]
      refine hx_bs ?_
      rw [(sm_gI p5.2.2.2.2.1.1).trans (congrArg some p5.2.2.2.2.1.2)]
      exact hx_bs (Hx.ret (Or.inl ⟨_, _, e2, List.getElem?_eq_getElem hlt, p2, p3, p4, p5, rfl⟩))
    · rw [if_neg c2, n_fX11_takeLeast_39]
      refine Hx.ret (Or.inr ⟨?_, rfl, rfl⟩)
      rintro ⟨i, h1, rfl⟩
      rw [sm_lt (by omega) (by omega)] at c2
      omega
/-- takeNext -/
theorem cx_takeNext {x now r : Nat} {H : List As} {A : As} {vs : List Qv} {q : Qv} {σ : St} (hp : HP (PX x) σ) (hx : XS σ x) (hQ : SQ σ x) (hH : KHis σ x now H) (hA : H[now]? = some A) (hr : r < 3) (hvs : A.2.2[r]? = some vs) (hq : KAn σ x q) :
    Hx (fX11_takeNext σ x (nI r)) (fun σ' w => match vs[cbl q vs + csm q (vs.drop (cbl q vs))]? with
      | some q' => cW x (sRw x) 0 0 σ σ' ∧ xAn x σ σ' ∧ KHis σ' x now H ∧ KAn σ' x q' ∧ w = .inr (nI (csm q' (vs.drop (cbl q vs + csm q (vs.drop (cbl q vs))))))
      | none => (∃ σ1, cW x (sRw x) 0 0 σ σ1 ∧ xI [] x σ σ1 ∧ KHis σ1 x now H ∧ σ' = th σ1) ∧ w = .inl "java/util/NoSuchElementException") := by
  obtain ⟨s, ra, pr, hS, f1, l1, hR, ck⟩ := hH.row hx hA hvs
  have hl := hR.1.2.2
  have hcb := cbl_le q vs
  have hcs := csm_le q (vs.drop (cbl q vs))
  rw [List.length_drop] at hcs
  rw [n_fX11_takeNext, sm_ckK (show sK σ x = 16 from hx.kd 0 16 (by decide))]
  refine hx_bs ?_
  rw [cx_rowE hx hH hA hr]
  refine hx_cs (Hx.ce (sm_eq (by omega) (by omega)) (fun c => absurd c (by omega)) (fun _ => ?_))
  rw [sm_ckK (show sK σ x = 16 from hx.kd 0 16 (by decide))]
  refine hx_bs ?_
  rw [pr]
  refine hx_cs ?_
  rw [f1]
  refine hx_bs ?_
  rw [l1]
  refine hx_bs ?_
  rw [show gF σ 15 16 x = some (x + 18) from hx.gf 15 16 0 18 (by decide) (by decide)]
  refine hx_bs ?_
  rw [KAn.f (q := q) hx]
  refine hx_bs ?_
  rw [hx.ck 18 10 (by decide)]
  refine hx_bs ?_
  refine Hx.bd (cr_countBelow hp hx hQ hR hq) (fun σ1 v h => ?_)
  obtain ⟨hF1, rfl⟩ := h
  have hP1 := s37_P hF1
  have cb1 := sRw_B hP1 hx
  have hx1 := hx.kW hF1
  have hQ1 := sRw_Q hP1 hx hQ
  have hR1 := hR.kB cb1 hQ
  have hI1 : xI [] x σ σ1 := xI.of hF1 hx (by rintro (h | h) <;> omega)
  have hq1 : KAn σ1 x q := hq.kB hI1 cb1 hQ
  have hH1 := hH.kW hF1 hx cb1 hQ (by rintro (h | h) <;> omega) (by rintro (h | h) <;> omega)
  obtain ⟨a, g1, g2, _, _, hi⟩ := hR1.f
  rw [KAn.f (q := q) hx1]
  refine hx_bs ?_
  rw [sm_ckK hR1.1.2.1]
  refine hx_bs ?_
  rw [cb_countSame hR1 hq1 hcb]
  refine hx_cs (hx_nm ?_)
  rw [sm_add, g1]
  refine hx_bs ?_
  rw [g2]
  refine hx_bs (Hx.ce (sm_lt (by omega) (by omega)) (fun c => ?_) (fun c => ?_))
  · rw [List.getElem?_eq_getElem c]
    obtain ⟨l2, kf⟩ := hi _ _ (List.getElem?_eq_getElem c)
    refine hx_bs ?_
    rw [l2]
    refine hx_bs ?_
    obtain ⟨p1, p2, p3, p4, p5, p6⟩ := cx_setAnswer hF1.hp hx1 hQ1 hH1 kf
    have hR2 := hR1.kB p6 hQ1
    rw [p1]
    refine hx_bs ?_
    rw [KAn.f (q := q) (hx1.kW p2)]
    refine hx_bs ?_
    rw [sm_ckK hR2.1.2.1]
    refine hx_bs ?_
    rw [cb_countSame hR2 p5 (by omega)]
    refine hx_cs (Hx.ret ⟨hP1.tr0 p2 (fun r _ hr => Or.inl hr), ⟨fun f => (p3.1 f).trans (hI1.1 f (fun q => by cases q)), fun f hf => (p3.2 f hf).trans (hI1.2 f)⟩, p4, p5, rfl⟩)
  · rw [List.getElem?_eq_none (by omega)]
    exact Hx.ret ⟨⟨σ1, hP1, hI1, hH1, rfl⟩, rfl⟩
