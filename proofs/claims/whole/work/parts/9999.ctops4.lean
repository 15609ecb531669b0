/-! ===== the class' calls: a step, parameters ===== -/
theorem cx_stepAt {x o : Nat} {sts : Sts} {v : Int32} {σ : St} (hx : XS σ x) (ho : KSp σ x o) (hS : StS σ x (25 - o) sts) (hl : sts.length ≤ 200) :
    Hx (fX11_stepAt σ x v) (fun σ' w => (∃ i s, v = nI i ∧ sts[i]? = some s ∧ σ' = σ ∧ w = .inr (nI s.1)) ∨ (¬ ∃ i : Nat, i < sts.length ∧ v = nI i) ∧ σ' = th σ ∧ w = .inl "java/lang/IndexOutOfBoundsException") := by
  have hoo : o = 11 ∨ o = 14 := ho.1
  rcases hS with h | ⟨h1, h2, h3⟩
  · omega
  · obtain ⟨⟨k, k1, n1, _, _⟩, f0, _⟩ := hx.o h1
    have fk := (ho.f hx).1
    have e2 := (sm_gI (ci := 12) (k := 2) (show sK σ (x + (25 - o)) = 12 + 1 from k)).trans (congrArg some h2)
    rw [n_fX11_stepAt]
    by_cases c1 : v < nI 0
    · rw [if_pos c1, n_fX11_stepAt_27]
      refine Hx.ret (Or.inr ⟨?_, rfl, rfl⟩)
      rintro ⟨i, h1, rfl⟩
      rw [sm_lt (by omega) (by omega)] at c1
      omega
    · rw [if_neg c1, fk]
      refine hx_bs ?_
      rw [e2]
      refine hx_bs ?_
      by_cases c2 : nI sts.length ≤ v
      · rw [if_pos c2, n_fX11_stepAt_27]
        refine Hx.ret (Or.inr ⟨?_, rfl, rfl⟩)
        rintro ⟨i, h1, rfl⟩
        rw [sm_le (by omega) (by omega)] at c2
        omega
      · obtain ⟨i, hi, rfl⟩ := ix_of (by omega) c1 c2
        rw [if_neg c2]
        refine hx_bs ?_
        rw [f0]
        refine hx_bs ?_
        rw [sm_aln k1 ⟨by omega, by omega⟩, n1]
        refine hx_bs ?_
        rw [if_pos (by rw [sm_lt (by omega) (by omega)]; omega)]
        refine hx_bs ?_
        rw [f0]
        refine hx_bs ?_
        rw [sm_ld (j := i) k1 (by omega) (by omega), (h3 i _ (List.getElem?_eq_getElem hi)).1]
        exact hx_bs (Hx.ret (Or.inl ⟨i, _, rfl, List.getElem?_eq_getElem hi, rfl, rfl⟩))
theorem cx_parameters {x now : Nat} {H : List As} {A : As} {v : Int32} {σ : St} (hx : XS σ x) (hH : KHis σ x now H) (hA : H[now]? = some A) :
    Hx (fX11_parameters σ x v) (fun σ' w => (∃ k e, fixI (A.2.1.map (·.1)) v = some k ∧ A.2.1[k]? = some e ∧ σ' = σ ∧ w = .inr (nI e.2.1)) ∨ fixI (A.2.1.map (·.1)) v = none ∧ σ' = th σ ∧ w = .inl "java/util/NoSuchElementException") := by
  obtain ⟨s, b, na, fa, pr, hS, f0, hB, hU⟩ := hH.book hx hA
  have ck := sm_ckK (show sK σ x = 16 from hx.kd 0 16 (by decide))
  have hln := hB.1.2.2
  rw [n_fX11_parameters, ck]
  refine hx_bs ?_
  rw [pr]
  refine hx_cs ?_
  rw [f0]
  refine hx_bs ?_
  rw [ck]
  refine hx_bs ?_
  rw [pr]
  refine hx_cs ?_
  rw [f0]
  refine hx_bs ?_
  rw [sm_ckK hB.1.2.1]
  refine hx_bs ?_
  rw [cb_find hB (show 1 ≤ 1 by omega), if_neg (by omega), if_neg (by omega)]
  refine hx_cs ?_
  rw [sm_ckK hB.1.2.1]
  refine hx_bs ?_
  cases hf : fixI (A.2.1.map (·.1)) v with
  | none =>
    show Hx (cb (fX0_toldAt σ b (iz (-1))) _) _
    rw [cb_toldM]
    refine hx_cs (Hx.cs (fun _ => ?_) (fun c => absurd rfl c))
    exact Hx.ret (Or.inr ⟨rfl, rfl, rfl⟩)
  | some k =>
    obtain ⟨w, hw, _⟩ := fixI_get hf
    rw [List.getElem?_map] at hw
    cases he : A.2.1[k]? with
    | none => rw [he] at hw; cases hw
    | some e =>
      have hk := (List.getElem?_eq_some_iff.mp he).1
      obtain ⟨t1, t2, t3, t4, t5, t6⟩ := (hB.2.2.2.2 k e he).1.k
      rw [thn_nI, cb_toldAt hB (by omega), if_neg (by omega), Nat.add_sub_cancel_left]
      refine hx_cs ?_
      rw [if_neg t6, t2]
      exact hx_bs (Hx.ret (Or.inl ⟨k, e, rfl, he, rfl, rfl⟩))
