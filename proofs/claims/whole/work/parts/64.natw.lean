/-! ===== the class' Nat: growth ===== -/
theorem gR.na {σ σ1 : St} {a b l n m : Nat} (ho : Own σ) (hG : gR a m σ σ1) (h : NA σ b l n) (hne : b ≠ a) : NA σ1 b l n := by
  obtain ⟨g1, g2, g3, g4, g5, g6, g7, g8⟩ := hG
  obtain ⟨h1, h2, h3, h4, h5⟩ := h
  have hb : b < sz σ := ho.lt (by rw [h1]; omega)
  have hl : l < sz σ := ho.lt (by rw [h3]; omega)
  exact ⟨by rw [g1]; exact (if_neg (by omega)).trans h1, by rw [g2 _ _ (by omega) (fun q => hne q.2)]; exact h2, by rw [g1]; exact (if_neg (by omega)).trans h3, by rw [g4]; exact (if_neg (by omega)).trans h4, h5⟩
theorem gR.nv {σ σ1 : St} {a b l n m w x : Nat} (ho : Own σ) (hG : gR a m σ σ1) (h : Nv σ b l n w x) (hne : b ≠ a) : Nv σ1 b l n w x := by
  obtain ⟨hA, hU, h3⟩ := h
  have hb : b < sz σ := ho.lt (by rw [hA.1]; omega)
  have hl : l < sz σ := ho.lt (by rw [hA.2.2.1]; omega)
  refine ⟨hG.na ho hA hne, ⟨?_, fun i hi => ?_, hU.2.2⟩, h3⟩
  · rw [(hG.2.2.2.2.1 b (by omega)).1]
    exact hU.1
  · rw [(hG.2.2.2.2.1 l (by omega)).2.1]
    exact hU.2.1 i hi
theorem gR.own {σ σ1 : St} {a m : Nat} (ho : Own σ) (hG : gR a m σ σ1) (h8 : sK σ a = 8) : sK σ1 a = 8 := by
  rw [hG.1]
  exact (if_neg (by have := ho.lt (a := a) (by rw [h8]; omega); omega)).trans h8
theorem nwA_ok {σ : St} {m : Nat} (hm : m ≤ 60000000) : nwA 0 (nI m) σ = some (nw 100 m m σ) := by
  unfold nwA
  rw [sm_clamp (by omega), if_pos]
  refine ⟨?_, hm⟩
  show ¬ nI m < nI 0
  rw [sm_lt (by omega) (by omega)]
  omega
theorem cn_new {σ : St} {a l n m : Nat} (ho : Own σ) (hA : NA σ a l n) (hm4 : 4 ≤ m) (hm : m ≤ 2001) : pF (nw 100 m m σ) 7 0 a (sz σ) = some (wF (nw 100 m m σ) (fid 7 0) a (sz σ)) ∧ gR a m σ (wF (nw 100 m m σ) (fid 7 0) a (sz σ)) ∧ NA (wF (nw 100 m m σ) (fid 7 0) a (sz σ)) a (sz σ) m := by
  have hb : a < sz σ := ho.lt (by rw [hA.1]; omega)
  have hk : sK (nw 100 m m σ) a = 8 := (if_neg (by omega) : (if a = sz σ then 100 else sK σ a) = sK σ a).trans hA.1
  refine ⟨sm_pF hk, ⟨rfl, fun f b h1 h2 => ?_, sF_wF_eq, rfl, fun b h => ⟨fun f => if_neg h, fun j => if_neg h, fun j => if_neg h, fun j => if_neg h⟩, rfl, rfl, rfl⟩, ⟨hk, sF_wF_eq, if_pos rfl, if_pos rfl, hm4, hm⟩⟩
  rw [sF_wF_ne h2]
  exact if_neg h1
theorem cn_copy {σ : St} {a l n m : Nat} (ho : Own σ) (hA : NA σ a l n) (hnm : n < m) (hm : m ≤ 2001) : ∃ σ1, fJ7_copyOf_59c91 σ l (nI m) = some (σ1, sz σ) ∧ pF σ1 7 0 a (sz σ) = some (wF σ1 (fid 7 0) a (sz σ)) ∧ gR a m σ (wF σ1 (fid 7 0) a (sz σ)) ∧
    NA (wF σ1 (fid 7 0) a (sz σ)) a (sz σ) m ∧ ∀ i, i < n → sA (wF σ1 (fid 7 0) a (sz σ)) (sz σ) i = sA σ l i := by
  have hb : a < sz σ := ho.lt (by rw [hA.1]; omega)
  have hl : l < sz σ := ho.lt (by rw [hA.2.2.1]; omega)
  have hn := hA.2.2.2.2
  have hk : sK (nw 100 m m σ) a = 8 := (if_neg (by omega) : (if a = sz σ then 100 else sK σ a) = sK σ a).trans hA.1
  have hkl : sK (nw 100 m m σ) l = 100 := (if_neg (by omega) : (if l = sz σ then 100 else sK σ l) = sK σ l).trans hA.2.2.1
  have hnl : sN (nw 100 m m σ) l = n := (if_neg (by omega) : (if l = sz σ then m else sN σ l) = sN σ l).trans hA.2.2.2.1
  have hkz : sK (nw 100 m m σ) (sz σ) = 100 := if_pos rfl
  have hnz : sN (nw 100 m m σ) (sz σ) = m := if_pos rfl
  have ez : ¬ nI 0 < 0 := by
    show ¬ nI 0 < nI 0
    rw [sm_lt (by omega) (by omega)]
    omega
  have en : ¬ nI n < 0 := by
    show ¬ nI n < nI 0
    rw [sm_lt (by omega) (by omega)]
    omega
  have e1 : fJ7_copyOf_59c91 σ l (nI m) = some (wAs (nw 100 m m σ) (sz σ) (va_cpy (sA (nw 100 m m σ) l) (sA (nw 100 m m σ) (sz σ)) 0 0 n), sz σ) := by
    rw [n_fJ7_copyOf_59c91, na_aln hA]
    simp only [sm_bind, sm_eq (show m < 2147483648 by omega) (show n < 2147483648 by omega)]
    rw [if_neg (by omega), nwA_ok (by omega)]
    simp only [sm_bind, sm_nm]
    rw [show aln (nw 100 m m σ) l = some (nI n) from (sm_aln hkl ⟨by omega, by omega⟩).trans (by rw [hnl])]
    simp only [sm_bind, sm_lt (show m < 2147483648 by omega) (show n < 2147483648 by omega)]
    rw [if_neg (by omega)]
    unfold acp
    rw [sm_clamp (show n < 2147483648 by omega), sm_clamp (show 0 < 2147483648 by omega), if_pos]
    · rfl
    · refine ⟨hkl, hkz, ez, ez, en, by rw [hnl]; omega, by rw [hnz]; omega, Or.inl rfl⟩
  refine ⟨_, e1, sm_pF hk, ⟨rfl, fun f b h1 h2 => ?_, sF_wF_eq, rfl, fun b h => ⟨fun f => if_neg h, fun j => ?_, fun j => if_neg h, fun j => if_neg h⟩, rfl, rfl, rfl⟩, ⟨hk, sF_wF_eq, hkz, hnz, by omega, hm⟩, fun i hi => ?_⟩
  · rw [sF_wF_ne h2]
    exact if_neg h1
  · show (if b = sz σ then va_cpy (sA (nw 100 m m σ) l) (sA (nw 100 m m σ) (sz σ)) 0 0 n j else sA (nw 100 m m σ) b j) = _
    rw [if_neg h]
    exact if_neg h
  · show (if sz σ = sz σ then va_cpy (sA (nw 100 m m σ) l) (sA (nw 100 m m σ) (sz σ)) 0 0 n i else sA (nw 100 m m σ) (sz σ) i) = _
    rw [if_pos rfl]
    unfold va_cpy
    rw [if_pos (by omega)]
    show sA (nw 100 m m σ) l (0 + (i - 0)) = _
    rw [Nat.zero_add, Nat.sub_zero]
    exact if_neg (by omega)
/-- what the write needs: a Nat that may grow, or room in its limbs -/
def rm (P : List Nat) (σ : St) (a Y : Nat) : Prop := a ∈ P ∨ Y < 1000000000 ^ sN σ (lb σ a)
theorem rm.keep {P S : List Nat} {k c a Y : Nat} {σ σ' : St} (h : rm P σ a Y) (hR : cF P S k c σ σ') (h8 : sK σ a = 8) : rm P σ' a Y := by
  rcases h with h | h
  · exact Or.inl h
  · refine Or.inr (Nat.lt_of_lt_of_le h (bp_mono ?_))
    have ha := hR.1.1.1.lt (a := a) (by rw [h8]; omega)
    have hl := hR.1.1.1.lb h8
    rcases hR.2.2.2.1 a (by rw [(hR.2.1.2 a ha).1]; exact h8) with ⟨_, q⟩ | ⟨_, q⟩
    · rw [q, (hR.2.1.2 _ hl).2.1]
      exact Nat.le_refl _
    · exact q ha
theorem rm.mo {P : List Nat} {a Y Z : Nat} {σ : St} (h : rm P σ a Y) (hz : Z ≤ Y) : rm P σ a Z := by
  rcases h with h | h
  · exact Or.inl h
  · exact Or.inr (Nat.lt_of_le_of_lt hz h)
theorem Nt.k8 {σ : St} {a x : Nat} (h : Nt σ a x) : sK σ a = 8 := by
  obtain ⟨l, n, w, h, _⟩ := h
  exact h.1
theorem Nt.inj {σ : St} {a x y : Nat} (h : Nt σ a x) (h' : Nt σ a y) : x = y := by
  obtain ⟨l, n, w, h⟩ := h
  obtain ⟨l', n', w', h'⟩ := h'
  obtain ⟨rfl, rfl, rfl⟩ := h.inj h'
  have hn := h.1.2.2.2.2
  have hw := h.2.2.1
  have hd : ∀ i, i ≤ w' → bq x (w' - i) = bq y (w' - i) := by
    intro i
    induction i with
    | zero =>
      intro _
      rw [Nat.sub_zero, bp_lt.mp h.2.1.2.2, bp_lt.mp h'.2.1.2.2]
    | succ i ih =>
      intro hi
      have e := ih (by omega)
      have e1 : w' - i = (w' - (i + 1)) + 1 := by omega
      rw [e1, bp_dv, bp_dv] at e
      have d1 := h.2.1.2.1 (w' - (i + 1)) (by omega)
      have d2 := h'.2.1.2.1 (w' - (i + 1)) (by omega)
      have d3 := sm_inj (by omega) (by omega) (d1.symm.trans d2)
      omega
  have := hd w' (Nat.le_refl _)
  rw [Nat.sub_self, bq_0, bq_0] at this
  exact this
theorem cn_setTo {P : List Nat} {σ : St} {a b x y : Nat} (hp : HP P σ) (hA : Nt σ a y) (hB : Nt σ b x) (hr : rm P σ a x) (hx : x < 1000000000 ^ 1000) : Hx (fX3_setTo σ a b) (fun σ' _ => cF P [a] 0 0 σ σ' ∧ Nt σ' a x) := by
  obtain ⟨l, n, w, hV⟩ := id hA
  obtain ⟨l2, n2, w2, hB⟩ := hB
  have hn := hV.1.2.2.2.2
  have hn2 := hB.1.2.2.2.2
  have hw2 := hB.2.2.1
  have hW : w2 ≤ 1000 := bwid_le hB.2.2.2 hx
  have hab : a = b ∨ (a ≠ b ∧ l ≠ l2) := by
    by_cases e : a = b
    · exact Or.inl e
    · refine Or.inr ⟨e, fun q => e ?_⟩
      refine ((hp.1.2 a hV.1.1).2 b hB.1.1 ?_).symm
      show sF σ (fid 7 0) b = sF σ (fid 7 0) a
      rw [hB.1.2.1, hV.1.2.1, q]
  rw [n_fX3_setTo]
  (repeat (first | with_reducible refine hx_bs ?_ | with_reducible refine hx_cs ?_ | with_reducible refine hx_t ?_ | with_reducible refine hx_f ?_ | ((conv => arg 1; arg 1; simp (disch := first | assumption | omega) only [sm_add, sm_mul, sm_le, sm_lt, sm_eq, sm_div, sm_sub, mx_le, mx_lt, mx_eq, xm_le, xm_lt, xm_eq, iz_le, iz_lt, iz_eq, nb0, nb1, Nat.zero_le, not_true_eq_false, not_false_eq_true, Nat.reduceEqDiff, Bool.false_eq_true, gF_wA, gF_wI, gI_wA, aln_wA, aln_wI, ckK_wA, ckK_wI, ldI_wA, stI_wA, pI_wA, om_some, jm_of, jm_to, jm_add, jm_mul, jm_div, jm_cmp, jm_sub, na_gF hV.1, na_gI hV.1, na_pI hV.1, na_aln hV.1, na_ck hV.1, na_ld hV.1, na_st hV.1, na_gF hB.1, na_gI hB.1, na_pI hB.1, na_aln hB.1, na_ck hB.1, na_ld hB.1, na_st hB.1, hB.2.1.1]); first | with_reducible refine hx_bs ?_ | with_reducible refine hx_cs ?_ | with_reducible refine hx_t ?_ | with_reducible refine hx_f ?_ | with_reducible refine hx_nm ?_))); (try (conv => arg 1; arg 1; simp (disch := first | assumption | omega) only [sm_add, sm_mul, sm_le, sm_lt, sm_eq, sm_div, sm_sub, mx_le, mx_lt, mx_eq, xm_le, xm_lt, xm_eq, iz_le, iz_lt, iz_eq, nb0, nb1, Nat.zero_le, not_true_eq_false, not_false_eq_true, Nat.reduceEqDiff, Bool.false_eq_true, gF_wA, gF_wI, gI_wA, aln_wA, aln_wI, ckK_wA, ckK_wI, ldI_wA, stI_wA, pI_wA, om_some, jm_of, jm_to, jm_add, jm_mul, jm_div, jm_cmp, jm_sub, na_gF hV.1, na_gI hV.1, na_pI hV.1, na_aln hV.1, na_ck hV.1, na_ld hV.1, na_st hV.1, na_gF hB.1, na_gI hB.1, na_pI hB.1, na_aln hB.1, na_ck hB.1, na_ld hB.1, na_st hB.1, hB.2.1.1]))
  refine Hx.cs (fun c => ?_) (fun c => ?_)
  · rw [n_fX3_setTo_24]
    refine Hx.mo (cn_setTo_loop c hab FU σ 0 hV.1 hB (Nat.zero_le _) (by show w2 - 0 < 4294967296; omega) (fun i hi => absurd hi (Nat.not_lt_zero _))) (fun σ' _ h => ?_)
    exact ⟨cF.nat hp hA hV.1 h.1 h.2, ⟨_, _, _, h.2⟩⟩
  · have haP : a ∈ P := by
      rcases hr with h | h
      · exact h
      · exfalso
        have hl : sN σ (lb σ a) = n := by
          show sN σ (sF σ (fid 7 0) a) = n
          rw [hV.1.2.1, hV.1.2.2.2.1]
        rw [hl] at h
        have := bwid_le hB.2.2.2 h
        omega
    have hne : a ≠ b := by
      intro e
      subst e
      obtain ⟨_, h2, h3⟩ := hV.inj hB
      omega
    (repeat (first | with_reducible refine hx_bs ?_ | with_reducible refine hx_cs ?_ | with_reducible refine hx_t ?_ | with_reducible refine hx_f ?_ | ((conv => arg 1; arg 1; simp (disch := first | assumption | omega) only [sm_add, sm_mul, sm_le, sm_lt, sm_eq, sm_div, sm_sub, mx_le, mx_lt, mx_eq, xm_le, xm_lt, xm_eq, iz_le, iz_lt, iz_eq, nb0, nb1, Nat.zero_le, not_true_eq_false, not_false_eq_true, Nat.reduceEqDiff, Bool.false_eq_true, gF_wA, gF_wI, gI_wA, aln_wA, aln_wI, ckK_wA, ckK_wI, ldI_wA, stI_wA, pI_wA, om_some, jm_of, jm_to, jm_add, jm_mul, jm_div, jm_cmp, jm_sub, na_gF hV.1, na_gI hV.1, na_pI hV.1, na_aln hV.1, na_ck hV.1, na_ld hV.1, na_st hV.1, na_gF hB.1, na_gI hB.1, na_pI hB.1, na_aln hB.1, na_ck hB.1, na_ld hB.1, na_st hB.1, hB.2.1.1]); first | with_reducible refine hx_bs ?_ | with_reducible refine hx_cs ?_ | with_reducible refine hx_t ?_ | with_reducible refine hx_f ?_ | with_reducible refine hx_nm ?_))); (try (conv => arg 1; arg 1; simp (disch := first | assumption | omega) only [sm_add, sm_mul, sm_le, sm_lt, sm_eq, sm_div, sm_sub, mx_le, mx_lt, mx_eq, xm_le, xm_lt, xm_eq, iz_le, iz_lt, iz_eq, nb0, nb1, Nat.zero_le, not_true_eq_false, not_false_eq_true, Nat.reduceEqDiff, Bool.false_eq_true, gF_wA, gF_wI, gI_wA, aln_wA, aln_wI, ckK_wA, ckK_wI, ldI_wA, stI_wA, pI_wA, om_some, jm_of, jm_to, jm_add, jm_mul, jm_div, jm_cmp, jm_sub, na_gF hV.1, na_gI hV.1, na_pI hV.1, na_aln hV.1, na_ck hV.1, na_ld hV.1, na_st hV.1, na_gF hB.1, na_gI hB.1, na_pI hB.1, na_aln hB.1, na_ck hB.1, na_ld hB.1, na_st hB.1, hB.2.1.1]))
    rw [nwA_ok (by omega)]
    obtain ⟨q1, q2, q3⟩ := cn_new (m := w2 * 2) hp.1 hV.1 (by omega) (by omega)
    refine hx_bs (hx_nm ?_)
    rw [q1]
    refine hx_bs ?_
    rw [n_fX3_setTo_24]
    have hB1 := q2.nv hp.1 hB (fun q => hne q.symm)
    have hl2 : l2 < sz σ := hp.1.lt (by rw [hB.1.2.2.1]; omega)
    refine Hx.mo (cn_setTo_loop (by omega) (Or.inr ⟨hne, by omega⟩) FU _ 0 q3 hB1 (Nat.zero_le _) (by show w2 - 0 < 4294967296; omega) (fun i hi => absurd hi (Nat.not_lt_zero _))) (fun σ' _ h => ?_)
    exact ⟨cF.natG hp hA hV.1 haP (by omega) (by omega) aF.rf q2 h.1 h.2, ⟨_, _, _, h.2⟩⟩
