/-! ===== the class' calls: a step taken ===== -/
theorem cx_takeStep {x o now : Nat} {sts : Sts} {H : List As} {v : Int32} {σ : St} (hp : HP (PX x) σ) (hx : XS σ x) (hQ : SQ σ x) (hH : KHis σ x now H) (ho : KSp σ x o) (hS : StS σ x (25 - o) sts) (hl : sts.length ≤ 200) :
    Hx (fX11_takeStep σ x v) (fun σ' w => (∃ i s, v = nI i ∧ sts[i]? = some s ∧ cW x (s1 x) 15 5 σ σ' ∧ xAn x σ σ' ∧ KHis σ' x now H ∧ KAn σ' x s.2 ∧ w = .inr (iz s.2.1)) ∨ (¬ ∃ i : Nat, i < sts.length ∧ v = nI i) ∧ σ' = th σ ∧ w = .inl "java/lang/IndexOutOfBoundsException") := by
  have hoo : o = 11 ∨ o = 14 := ho.1
  rcases hS with h | ⟨h1, h2, h3⟩
  · omega
  · obtain ⟨⟨k, k1, n1, n2, _⟩, f0, f1⟩ := hx.o h1
    have fk := (ho.f hx).1
    have kT : sK σ (x + (25 - o + 2)) = 104 := hx.k104 h1.t
    have e2 := (sm_gI (ci := 12) (k := 2) (show sK σ (x + (25 - o)) = 12 + 1 from k)).trans (congrArg some h2)
    rw [n_fX11_takeStep]
    by_cases c1 : v < nI 0
    · rw [if_pos c1, n_fX11_takeStep_27]
      refine Hx.ret (Or.inr ⟨?_, rfl, rfl⟩)
      rintro ⟨i, h1, rfl⟩
      rw [sm_lt (by omega) (by omega)] at c1
      omega
    · rw [if_neg c1, fk]
      refine hx_bs ?_
      rw [e2]
      refine hx_bs ?_
      by_cases c2 : nI sts.length ≤ v
      · rw [if_pos c2, n_fX11_takeStep_27]
        refine Hx.ret (Or.inr ⟨?_, rfl, rfl⟩)
        rintro ⟨i, h1, rfl⟩
        rw [sm_le (by omega) (by omega)] at c2
        omega
      · obtain ⟨i, hi, rfl⟩ := ix_of (by omega) c1 c2
        obtain ⟨q1, q2, q3, q4⟩ := h3 i _ (List.getElem?_eq_getElem hi)
        rw [if_neg c2]
        refine hx_bs ?_
        rw [f1]
        refine hx_bs ?_
        rw [sm_aln kT ⟨by omega, by omega⟩, n2]
        refine hx_bs ?_
        rw [if_pos (by rw [sm_lt (by omega) (by omega)]; omega)]
        refine hx_bs ?_
        rw [f1]
        refine hx_bs ?_
        rw [ldQ_ok (ti := 4) (j := i) kT (by omega) (by omega)]
        refine hx_bs ?_
        rw [sm_ckK (show sK σ x = 16 from hx.kd 0 16 (by decide))]
        refine hx_bs ?_
        refine Hx.bd (cx_takeCopy hp hx hQ hH q4 q3) (fun σ1 v h => ?_)
        obtain ⟨rfl, g1, g2, g3, g4⟩ := h
        exact Hx.ret (Or.inl ⟨i, _, rfl, List.getElem?_eq_getElem hi, g1, g2, g3, g4, rfl⟩)
