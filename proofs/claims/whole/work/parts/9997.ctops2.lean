/-! ===== the class' calls: comparing, names, steps ===== -/
theorem cx_compare {x i j : Nat} {qs : List Qv} {p q : Qv} {σ : St} (hp : HP (PX x) σ) (hx : XS σ x) (hs : KSl σ x qs) (hi : qs[i]? = some p) (hj : qs[j]? = some q) :
    Hx (fX11_compare σ x (nI i) (nI j)) (fun σ' w => cW x (s2 (x + 37) (x + 39)) 0 0 σ σ' ∧ w = .inr (iz (cmpq p q))) := by
  obtain ⟨f9, l1, kf1, hi10⟩ := hs.f hx hi
  obtain ⟨_, l2, kf2, hj10⟩ := hs.f hx hj
  rw [n_fX11_compare, sm_ckK (show sK σ x = 16 from hx.kd 0 16 (by decide))]
  refine hx_bs ?_
  rw [cx_slotE hx hi10]
  refine hx_cs (Hx.ce (sm_eq (by omega) (by omega)) (fun c => absurd c (by omega)) (fun _ => ?_))
  rw [sm_ckK (show sK σ x = 16 from hx.kd 0 16 (by decide))]
  refine hx_bs ?_
  rw [cx_slotE hx hj10]
  refine hx_cs (Hx.ce (sm_eq (by omega) (by omega)) (fun c => absurd c (by omega)) (fun _ => ?_))
  rw [show gF σ 15 16 x = some (x + 18) from hx.gf 15 16 0 18 (by decide) (by decide)]
  refine hx_bs ?_
  rw [f9]
  refine hx_bs ?_
  rw [l1]
  refine hx_bs (hx_bs ?_)
  rw [l2]
  refine hx_bs ?_
  rw [hx.ck 18 10 (by decide)]
  refine hx_bs ?_
  have q1 := kf1.2.2.1
  have q2 := kf2.2.2.1
  refine Hx.bd (cr_order hp hx kf1.2.2.2 kf2.2.2.2 kf1.s40 kf2.s40 (sml_m4 q1.n4.1) (sml_m4 q1.n4.2) (sml_m4 q2.n4.1) (sml_m4 q2.n4.2) q1.sg q2.sg) (fun σ1 v h => ?_)
  exact Hx.ret ⟨h.1, by rw [h.2]⟩
theorem cx_compareN {x : Nat} {v w : Int32} {σ : St} (hx : XS σ x) (h : (¬ ∃ r : Nat, r < 10 ∧ v = nI r) ∨ ¬ ∃ r : Nat, r < 10 ∧ w = nI r) : fX11_compare σ x v w = some (th σ, .inl "java/lang/IllegalArgumentException") := by
  have ck := sm_ckK (show sK σ x = 16 from hx.kd 0 16 (by decide))
  apply hx_eq
  rw [n_fX11_compare, ck]
  refine hx_bs ?_
  rw [cx_isSlot hx]
  refine hx_cs (Hx.ce b01_0 (fun c => ?_) (fun c => ?_))
  · rw [n_fX11_compare_16]
    exact Hx.ret ⟨rfl, rfl⟩
  · rw [ck]
    refine hx_bs ?_
    rw [cx_isSlot hx]
    refine hx_cs (Hx.ce b01_0 (fun c2 => ?_) (fun c2 => ?_))
    · rw [n_fX11_compare_16]
      exact Hx.ret ⟨rfl, rfl⟩
    · exfalso
      rcases h with h | h
      · exact c h
      · exact c2 h
theorem cx_sign {x : Nat} {q : Qv} {σ : St} (hx : XS σ x) (hq : KAn σ x q) : fX11_sign σ x = some (σ, iz q.1) := by
  apply hx_eq
  rw [n_fX11_sign, KAn.f (q := q) hx]
  refine hx_bs ?_
  rw [KF.sgn hq]
  exact hx_bs (Hx.ret ⟨rfl, rfl⟩)
/-- the present book -/
theorem KHis.book {x now : Nat} {H : List As} {A : As} {σ : St} (h : KHis σ x now H) (hx : XS σ x) (hA : H[now]? = some A) : ∃ s b na fa, fX11_present σ x = some (σ, s) ∧ KSt σ x s A ∧ gF σ 11 0 s = some b ∧ KBk σ x b na fa A.1 A.2.1 ∧ KUs σ x b (Ths A.1 A.2.1) := by
  obtain ⟨pr, hS⟩ := h.present hx hA
  obtain ⟨b, ra, f0, f1, a1, _, _, ⟨⟨na, fa, hB⟩, hU⟩, _⟩ := hS.f
  exact ⟨_, b, na, fa, pr, hS, f0, hB, hU⟩
theorem cx_names {x now : Nat} {H : List As} {A : As} {σ : St} (hx : XS σ x) (hH : KHis σ x now H) (hA : H[now]? = some A) : fX11_names σ x = some (σ, nI A.1.length) ∧ fX11_functions σ x = some (σ, nI A.2.1.length) := by
  obtain ⟨s, b, na, fa, pr, hS, f0, hB, hU⟩ := hH.book hx hA
  obtain ⟨g1, g2, g3, g4, g5⟩ := ob_f hB
  have ck := sm_ckK (show sK σ x = 16 from hx.kd 0 16 (by decide))
  constructor
  · apply hx_eq
    rw [n_fX11_names, ck]
    refine hx_bs ?_
    rw [pr]
    refine hx_cs ?_
    rw [f0]
    refine hx_bs ?_
    rw [g1]
    refine hx_bs ?_
    rw [g3]
    exact hx_bs (Hx.ret ⟨rfl, rfl⟩)
  · apply hx_eq
    rw [n_fX11_functions, ck]
    refine hx_bs ?_
    rw [pr]
    refine hx_cs ?_
    rw [f0]
    refine hx_bs ?_
    rw [g2]
    refine hx_bs ?_
    rw [g4]
    exact hx_bs (Hx.ret ⟨rfl, rfl⟩)
theorem cx_nameAt {x now : Nat} {H : List As} {A : As} {v : Int32} {σ : St} (hx : XS σ x) (hH : KHis σ x now H) (hA : H[now]? = some A) :
    Hx (fX11_nameAt σ x v) (fun σ' w => (∃ i e, v = nI i ∧ A.1[i]? = some e ∧ σ' = σ ∧ w = .inr (nI e.1)) ∨ (¬ ∃ i : Nat, i < A.1.length ∧ v = nI i) ∧ σ' = th σ ∧ w = .inl "java/lang/IndexOutOfBoundsException") := by
  obtain ⟨s, b, na, fa, pr, hS, f0, hB, hU⟩ := hH.book hx hA
  obtain ⟨g1, g2, g3, g4, g5⟩ := ob_f hB
  have hln := hB.1.2.2
  have hz1 := Int32.toInt_lt v
  have hz2 := Int32.le_toInt v
  rw [n_fX11_nameAt, sm_ckK (show sK σ x = 16 from hx.kd 0 16 (by decide))]
  refine hx_bs ?_
  rw [pr]
  refine hx_cs ?_
  rw [f0]
  refine hx_bs ?_
  rw [g1]
  refine hx_bs ?_
  by_cases c1 : v < nI 0
  · rw [if_pos c1, n_fX11_nameAt_21]
    refine Hx.ret (Or.inr ⟨?_, rfl, rfl⟩)
    rintro ⟨i, h1, rfl⟩
    rw [sm_lt (by omega) (by omega)] at c1
    omega
  · rw [if_neg c1, g3]
    refine hx_bs ?_
    by_cases c2 : v < nI A.1.length
    · have c3 : ¬ nI A.1.length ≤ v := by
        rw [iz_self v, xm_lt (by omega) (by omega) (by omega)] at c2
        rw [iz_self v, mx_le (by omega) (by omega) (by omega)]
        omega
      obtain ⟨i, h1, rfl⟩ := ix_of (by omega) c1 c3
      rw [if_pos c2, hB.ld h1]
      refine hx_bs ?_
      rw [(hB.2.2.2.1 i _ (List.getElem?_eq_getElem h1)).k.1]
      exact hx_bs (Hx.ret (Or.inl ⟨i, _, rfl, List.getElem?_eq_getElem h1, rfl, rfl⟩))
    · rw [if_neg c2, n_fX11_nameAt_21]
      refine Hx.ret (Or.inr ⟨?_, rfl, rfl⟩)
      rintro ⟨i, h1, rfl⟩
      rw [sm_lt (by omega) (by omega)] at c2
      omega
/-- the steps kept -/
theorem cx_steps {x o : Nat} {sts : Sts} {σ : St} (hx : XS σ x) (ho : KSp σ x o) (hS : StS σ x (25 - o) sts) : fX11_steps σ x = some (σ, nI sts.length) := by
  have hoo : o = 11 ∨ o = 14 := ho.1
  rcases hS with h | ⟨h1, h2, _⟩
  · omega
  · obtain ⟨⟨k, _⟩, _⟩ := hx.o h1
    apply hx_eq
    rw [n_fX11_steps, (ho.f hx).1]
    refine hx_bs ?_
    rw [(sm_gI (ci := 12) (k := 2) (show sK σ (x + (25 - o)) = 12 + 1 from k)).trans (congrArg some h2)]
    exact hx_bs (Hx.ret ⟨rfl, rfl⟩)
