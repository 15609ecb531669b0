/-! ===== the class' Nat: raise, lower, plus, minus, setProduct ===== -/
theorem Nv.af {a l b m n w x : Nat} {σ σ' : St} (h : Nv σ b m n w x) (hR : aF a l σ σ') (h1 : b ≠ a) (h2 : m ≠ l) : Nv σ' b m n w x := ⟨h.1.af hR, h.2.1.af hR h1 h2, h.2.2⟩
theorem bq_add_one {x c k r : Nat} : bq x (k + 1) * c * 1000000000 + (bq x k % 1000000000 * c + r) = bq x k * c + r := by
  have h := bp_dv x k
  have h2 := Nat.div_add_mod (bq x k) 1000000000
  rw [h]
  generalize bq x k = q at *
  have e : q * c = (1000000000 * (q / 1000000000) + q % 1000000000) * c := by rw [h2]
  rw [e, Nat.add_mul, Nat.mul_assoc 1000000000, Nat.mul_comm 1000000000]
  omega
theorem cn_raise_loop {P : List Nat} {a x c d y0 l n w Y : Nat} {σ0 : St} (hp : HP P σ0) (hA0 : Nt σ0 a y0) (hN0 : NA σ0 a l n) (hc1 : 1 ≤ c) (hc2 : c ≤ 1000000000) (hd : d < 1000000000) (hY : Y = x * c + d) (hw : w ≤ n) (hw2 : w ≤ 1000) (hxw : x < 1000000000 ^ w) (h0 : w = 0 ∨ 1000000000 ^ (w - 1) ≤ x) (hr : a ∈ P ∨ Y < 1000000000 ^ n) :
    ∀ (f : Nat) (σ : St) (k q : Nat), aF a l σ0 σ → sI σ (fid 7 1) a = nI w → k ≤ w → w - k < f → bq x k * c + q = bq Y k → q ≤ 1000000000 → (∀ i, i < k → sA σ l i = nI (bq Y i % 1000000000)) → (∀ i, k ≤ i → i < w → sA σ l i = nI (bq x i % 1000000000)) →
    Hx (fX3_raise_6 f σ a (nI c) (nJ q) (nI k)) (fun σ' _ => cF P [a] 0 0 σ0 σ' ∧ Nt σ' a Y) := by
  have hYw : Y < 1000000000 ^ (w + 1) := by
    have h1 : x * c ≤ (1000000000 ^ w - 1) * 1000000000 := Nat.mul_le_mul (by omega) hc2
    have h2 := bp_pos w
    rw [Nat.pow_succ]
    rw [Nat.sub_mul] at h1
    omega
  have hY0 : w = 0 ∨ 1000000000 ^ (w - 1) ≤ Y := by
    rcases h0 with h | h
    · exact Or.inl h
    · refine Or.inr (Nat.le_trans h ?_)
      have : x * 1 ≤ x * c := Nat.mul_le_mul_left x hc1
      omega
  intro f
  induction f with
  | zero => intro σ k q _ _ _ h; omega
  | succ f ih =>
    intro σ k q hR hs hk hf hq hq2 hd1 hd2
    have hN := hN0.af hR
    have hn := hN.2.2.2.2
    rw [n_fX3_raise_6]
    (repeat (first | with_reducible refine hx_bs ?_ | with_reducible refine hx_cs ?_ | with_reducible refine hx_t ?_ | with_reducible refine hx_f ?_ | ((conv => arg 1; arg 1; simp (disch := first | assumption | omega) only [sm_add, sm_mul, sm_le, sm_lt, sm_eq, sm_div, sm_sub, mx_le, mx_lt, mx_eq, xm_le, xm_lt, xm_eq, iz_le, iz_lt, iz_eq, nb0, nb1, Nat.zero_le, not_true_eq_false, not_false_eq_true, Nat.reduceEqDiff, Bool.false_eq_true, gF_wA, gF_wI, gI_wA, aln_wA, aln_wI, ckK_wA, ckK_wI, ldI_wA, stI_wA, pI_wA, om_some, jm_of, jm_to, jm_add, jm_mul, jm_div, jm_cmp, jm_sub, na_gF hN, na_gI hN, na_pI hN, na_aln hN, na_ck hN, na_ld hN, na_st hN, hs]); first | with_reducible refine hx_bs ?_ | with_reducible refine hx_cs ?_ | with_reducible refine hx_t ?_ | with_reducible refine hx_f ?_ | with_reducible refine hx_nm ?_))); (try (conv => arg 1; arg 1; simp (disch := first | assumption | omega) only [sm_add, sm_mul, sm_le, sm_lt, sm_eq, sm_div, sm_sub, mx_le, mx_lt, mx_eq, xm_le, xm_lt, xm_eq, iz_le, iz_lt, iz_eq, nb0, nb1, Nat.zero_le, not_true_eq_false, not_false_eq_true, Nat.reduceEqDiff, Bool.false_eq_true, gF_wA, gF_wI, gI_wA, aln_wA, aln_wI, ckK_wA, ckK_wI, ldI_wA, stI_wA, pI_wA, om_some, jm_of, jm_to, jm_add, jm_mul, jm_div, jm_cmp, jm_sub, na_gF hN, na_gI hN, na_pI hN, na_aln hN, na_ck hN, na_ld hN, na_st hN, hs]))
    refine Hx.cs (fun c1 => ?_) (fun c1 => ?_)
    · have e : k = w := by omega
      subst e
      rw [bp_lt.mp hxw, Nat.zero_mul, Nat.zero_add] at hq
      have hqB : q < 1000000000 := by
        have := bp_lt.mp hYw
        rw [bp_dv] at this
        omega
      have hV1 : ∀ (σ1 : St) (l1 n1 : Nat), NA σ1 a l1 n1 → sI σ1 (fid 7 1) a = nI k → k < n1 → 0 < q → (∀ i, i < k → sA σ1 l1 i = nI (bq Y i % 1000000000)) → Hx (fX3_raise_91 σ1 a (nJ q)) (fun σ' _ => aF a l1 σ1 σ' ∧ Nv σ' a l1 n1 (k + 1) Y) := by
        intro σ1 l1 n1 g1 g2 g3 g0 g4
        have g5 := g1.2.2.2.2
        rw [n_fX3_raise_91]
        (repeat (first | with_reducible refine hx_bs ?_ | with_reducible refine hx_cs ?_ | with_reducible refine hx_t ?_ | with_reducible refine hx_f ?_ | ((conv => arg 1; arg 1; simp (disch := first | assumption | omega) only [sm_add, sm_mul, sm_le, sm_lt, sm_eq, sm_div, sm_sub, mx_le, mx_lt, mx_eq, xm_le, xm_lt, xm_eq, iz_le, iz_lt, iz_eq, nb0, nb1, Nat.zero_le, not_true_eq_false, not_false_eq_true, Nat.reduceEqDiff, Bool.false_eq_true, gF_wA, gF_wI, gI_wA, aln_wA, aln_wI, ckK_wA, ckK_wI, ldI_wA, stI_wA, pI_wA, om_some, jm_of, jm_to, jm_add, jm_mul, jm_div, jm_cmp, jm_sub, na_gF g1, na_gI g1, na_pI g1, na_aln g1, na_ck g1, na_ld g1, na_st g1, g2]); first | with_reducible refine hx_bs ?_ | with_reducible refine hx_cs ?_ | with_reducible refine hx_t ?_ | with_reducible refine hx_f ?_ | with_reducible refine hx_nm ?_))); (try (conv => arg 1; arg 1; simp (disch := first | assumption | omega) only [sm_add, sm_mul, sm_le, sm_lt, sm_eq, sm_div, sm_sub, mx_le, mx_lt, mx_eq, xm_le, xm_lt, xm_eq, iz_le, iz_lt, iz_eq, nb0, nb1, Nat.zero_le, not_true_eq_false, not_false_eq_true, Nat.reduceEqDiff, Bool.false_eq_true, gF_wA, gF_wI, gI_wA, aln_wA, aln_wI, ckK_wA, ckK_wI, ldI_wA, stI_wA, pI_wA, om_some, jm_of, jm_to, jm_add, jm_mul, jm_div, jm_cmp, jm_sub, na_gF g1, na_gI g1, na_pI g1, na_aln g1, na_ck g1, na_ld g1, na_st g1, g2]))
        refine Hx.ret ⟨aF.wA.tr aF.wI, g1, ⟨sI_wI_eq, fun i hi => ?_, hYw⟩, by omega, Or.inr (bp_ge.mpr (by show 0 < bq Y k; omega))⟩
        rw [sA_wI_, sA_wA_if]
        split
        · rename_i e
          rw [e, ← hq, Nat.mod_eq_of_lt hqB]
        · exact g4 i (by omega)
      refine Hx.cs (fun c2 => ?_) (fun c2 => ?_)
      · have eq0 : q = 0 := by
          apply Nat.eq_zero_of_not_pos
          intro hpos
          rw [jm_cmp (by omega) (by omega), if_pos hpos, show iz (1 : Int) = nI 1 from rfl, sm_le (by omega) (by omega)] at c2
          omega
        have hV : Nv σ a l n k Y := ⟨hN, ⟨hs, hd1, bp_lt.mpr (by omega)⟩, hw, hY0⟩
        exact Hx.ret ⟨cF.nat hp hA0 hN0 hR hV, _, _, _, hV⟩
      · have eq0 : 0 < q := by
          apply Nat.pos_of_ne_zero
          intro hz
          rw [hz, jm_cmp (by omega) (by omega), if_neg (by omega), if_pos rfl, show iz (0 : Int) = nI 0 from rfl, sm_le (by omega) (by omega)] at c2
          omega
        (repeat (first | with_reducible refine hx_bs ?_ | with_reducible refine hx_cs ?_ | with_reducible refine hx_t ?_ | with_reducible refine hx_f ?_ | ((conv => arg 1; arg 1; simp (disch := first | assumption | omega) only [sm_add, sm_mul, sm_le, sm_lt, sm_eq, sm_div, sm_sub, mx_le, mx_lt, mx_eq, xm_le, xm_lt, xm_eq, iz_le, iz_lt, iz_eq, nb0, nb1, Nat.zero_le, not_true_eq_false, not_false_eq_true, Nat.reduceEqDiff, Bool.false_eq_true, gF_wA, gF_wI, gI_wA, aln_wA, aln_wI, ckK_wA, ckK_wI, ldI_wA, stI_wA, pI_wA, om_some, jm_of, jm_to, jm_add, jm_mul, jm_div, jm_cmp, jm_sub, na_gF hN, na_gI hN, na_pI hN, na_aln hN, na_ck hN, na_ld hN, na_st hN, hs]); first | with_reducible refine hx_bs ?_ | with_reducible refine hx_cs ?_ | with_reducible refine hx_t ?_ | with_reducible refine hx_f ?_ | with_reducible refine hx_nm ?_))); (try (conv => arg 1; arg 1; simp (disch := first | assumption | omega) only [sm_add, sm_mul, sm_le, sm_lt, sm_eq, sm_div, sm_sub, mx_le, mx_lt, mx_eq, xm_le, xm_lt, xm_eq, iz_le, iz_lt, iz_eq, nb0, nb1, Nat.zero_le, not_true_eq_false, not_false_eq_true, Nat.reduceEqDiff, Bool.false_eq_true, gF_wA, gF_wI, gI_wA, aln_wA, aln_wI, ckK_wA, ckK_wI, ldI_wA, stI_wA, pI_wA, om_some, jm_of, jm_to, jm_add, jm_mul, jm_div, jm_cmp, jm_sub, na_gF hN, na_gI hN, na_pI hN, na_aln hN, na_ck hN, na_ld hN, na_st hN, hs]))
        refine Hx.cs (fun c3 => ?_) (fun c3 => ?_)
        · refine Hx.mo (hV1 σ l n hN hs c3 eq0 hd1) (fun σ' _ h => ⟨cF.nat hp hA0 hN0 (hR.tr h.1) h.2, _, _, _, h.2⟩)
        · have haP : a ∈ P := by
            rcases hr with h | h
            · exact h
            · exfalso
              have e : n = k := by omega
              rw [e] at h
              have := bp_lt.mp h
              omega
          (repeat (first | with_reducible refine hx_bs ?_ | with_reducible refine hx_cs ?_ | with_reducible refine hx_t ?_ | with_reducible refine hx_f ?_ | ((conv => arg 1; arg 1; simp (disch := first | assumption | omega) only [sm_add, sm_mul, sm_le, sm_lt, sm_eq, sm_div, sm_sub, mx_le, mx_lt, mx_eq, xm_le, xm_lt, xm_eq, iz_le, iz_lt, iz_eq, nb0, nb1, Nat.zero_le, not_true_eq_false, not_false_eq_true, Nat.reduceEqDiff, Bool.false_eq_true, gF_wA, gF_wI, gI_wA, aln_wA, aln_wI, ckK_wA, ckK_wI, ldI_wA, stI_wA, pI_wA, om_some, jm_of, jm_to, jm_add, jm_mul, jm_div, jm_cmp, jm_sub, na_gF hN, na_gI hN, na_pI hN, na_aln hN, na_ck hN, na_ld hN, na_st hN, hs]); first | with_reducible refine hx_bs ?_ | with_reducible refine hx_cs ?_ | with_reducible refine hx_t ?_ | with_reducible refine hx_f ?_ | with_reducible refine hx_nm ?_))); (try (conv => arg 1; arg 1; simp (disch := first | assumption | omega) only [sm_add, sm_mul, sm_le, sm_lt, sm_eq, sm_div, sm_sub, mx_le, mx_lt, mx_eq, xm_le, xm_lt, xm_eq, iz_le, iz_lt, iz_eq, nb0, nb1, Nat.zero_le, not_true_eq_false, not_false_eq_true, Nat.reduceEqDiff, Bool.false_eq_true, gF_wA, gF_wI, gI_wA, aln_wA, aln_wI, ckK_wA, ckK_wI, ldI_wA, stI_wA, pI_wA, om_some, jm_of, jm_to, jm_add, jm_mul, jm_div, jm_cmp, jm_sub, na_gF hN, na_gI hN, na_pI hN, na_aln hN, na_ck hN, na_ld hN, na_st hN, hs]))
          obtain ⟨σ1, q1, q2, q3, q4, q5⟩ := cn_copy (m := k * 2 + 1) (hp.1.af hR) hN (by omega) (by omega)
          rw [q1]
          refine hx_cs ?_
          rw [q2]
          refine hx_bs ?_
          have es : sI (wF σ1 (fid 7 0) a (sz σ)) (fid 7 1) a = nI k := by
            rw [(q3.2.2.2.2.1 a (by have := (hp.1.af hR).lt (a := a) (by rw [hN.1]; omega); omega)).1]
            exact hs
          have ez : sz σ = sz σ0 := hR.2.1.1
          refine Hx.mo (hV1 _ _ _ q4 es (by omega) eq0 (fun i hi => (q5 i (by omega)).trans (hd1 i hi))) (fun σ' _ h => ⟨cF.natG hp hA0 hN0 haP (by omega) (by omega) hR q3 (by rw [← ez]; exact h.1) h.2, _, _, _, h.2⟩)
    · have e0 := hd2 k (Nat.le_refl _) (by omega)
      have hdc : bq x k % 1000000000 * c ≤ 999999999 * 1000000000 := Nat.mul_le_mul (by omega) hc2
      have e1 := @bq_add_one x c k q
      rw [hq] at e1
      have e2 := bp_dv Y k
      (repeat (first | with_reducible refine hx_bs ?_ | with_reducible refine hx_cs ?_ | with_reducible refine hx_t ?_ | with_reducible refine hx_f ?_ | ((conv => arg 1; arg 1; simp (disch := first | assumption | omega) only [sm_add, sm_mul, sm_le, sm_lt, sm_eq, sm_div, sm_sub, mx_le, mx_lt, mx_eq, xm_le, xm_lt, xm_eq, iz_le, iz_lt, iz_eq, nb0, nb1, Nat.zero_le, not_true_eq_false, not_false_eq_true, Nat.reduceEqDiff, Bool.false_eq_true, gF_wA, gF_wI, gI_wA, aln_wA, aln_wI, ckK_wA, ckK_wI, ldI_wA, stI_wA, pI_wA, om_some, jm_of, jm_to, jm_add, jm_mul, jm_div, jm_cmp, jm_sub, na_gF hN, na_gI hN, na_pI hN, na_aln hN, na_ck hN, na_ld hN, na_st hN, e0]); first | with_reducible refine hx_bs ?_ | with_reducible refine hx_cs ?_ | with_reducible refine hx_t ?_ | with_reducible refine hx_f ?_ | with_reducible refine hx_nm ?_))); (try (conv => arg 1; arg 1; simp (disch := first | assumption | omega) only [sm_add, sm_mul, sm_le, sm_lt, sm_eq, sm_div, sm_sub, mx_le, mx_lt, mx_eq, xm_le, xm_lt, xm_eq, iz_le, iz_lt, iz_eq, nb0, nb1, Nat.zero_le, not_true_eq_false, not_false_eq_true, Nat.reduceEqDiff, Bool.false_eq_true, gF_wA, gF_wI, gI_wA, aln_wA, aln_wI, ckK_wA, ckK_wI, ldI_wA, stI_wA, pI_wA, om_some, jm_of, jm_to, jm_add, jm_mul, jm_div, jm_cmp, jm_sub, na_gF hN, na_gI hN, na_pI hN, na_aln hN, na_ck hN, na_ld hN, na_st hN, e0]))
      generalize hdg : bq x k % 1000000000 * c = dg at *
      generalize hxx : bq x (k + 1) * c = xx at *
      have e3 : q + dg - (q + dg) / 1000000000 * 1000000000 = bq Y k % 1000000000 := by omega
      rw [e3]
      refine Hx.mo (ih _ (k + 1) ((q + dg) / 1000000000) (hR.tr aF.wA) hs (by omega) (by omega) (by omega) (by omega) (fun i hi => ?_) (fun i h1 h2 => ?_)) (fun σ' _ h => h)
      · rw [sA_wA_if]
        split
        · rename_i e; rw [e]
        · exact hd1 i (by omega)
      · rw [sA_wA_j (by omega)]
        exact hd2 i (by omega) h2
theorem cn_raise {P : List Nat} {σ : St} {a x c d : Nat} (hp : HP P σ) (hA : Nt σ a x) (hc1 : 1 ≤ c) (hc2 : c ≤ 1000000000) (hd : d < 1000000000) (hx : x < 1000000000 ^ 1000) (hr : rm P σ a (x * c + d)) : Hx (fX3_raise σ a (nI c) (nI d)) (fun σ' _ => cF P [a] 0 0 σ σ' ∧ Nt σ' a (x * c + d)) := by
  obtain ⟨l, n, w, hV⟩ := id hA
  have hn := hV.1.2.2.2.2
  have hl : sN σ (lb σ a) = n := by
    show sN σ (sF σ (fid 7 0) a) = n
    rw [hV.1.2.1, hV.1.2.2.2.1]
  have hw := hV.2.2.1
  rw [n_fX3_raise]
  (repeat (first | with_reducible refine hx_bs ?_ | with_reducible refine hx_cs ?_ | with_reducible refine hx_t ?_ | with_reducible refine hx_f ?_ | ((conv => arg 1; arg 1; simp (disch := first | assumption | omega) only [sm_add, sm_mul, sm_le, sm_lt, sm_eq, sm_div, sm_sub, mx_le, mx_lt, mx_eq, xm_le, xm_lt, xm_eq, iz_le, iz_lt, iz_eq, nb0, nb1, Nat.zero_le, not_true_eq_false, not_false_eq_true, Nat.reduceEqDiff, Bool.false_eq_true, gF_wA, gF_wI, gI_wA, aln_wA, aln_wI, ckK_wA, ckK_wI, ldI_wA, stI_wA, pI_wA, om_some, jm_of, jm_to, jm_add, jm_mul, jm_div, jm_cmp, jm_sub, na_gF hV.1, na_gI hV.1, na_pI hV.1, na_aln hV.1, na_ck hV.1, na_ld hV.1, na_st hV.1]); first | with_reducible refine hx_bs ?_ | with_reducible refine hx_cs ?_ | with_reducible refine hx_t ?_ | with_reducible refine hx_f ?_ | with_reducible refine hx_nm ?_))); (try (conv => arg 1; arg 1; simp (disch := first | assumption | omega) only [sm_add, sm_mul, sm_le, sm_lt, sm_eq, sm_div, sm_sub, mx_le, mx_lt, mx_eq, xm_le, xm_lt, xm_eq, iz_le, iz_lt, iz_eq, nb0, nb1, Nat.zero_le, not_true_eq_false, not_false_eq_true, Nat.reduceEqDiff, Bool.false_eq_true, gF_wA, gF_wI, gI_wA, aln_wA, aln_wI, ckK_wA, ckK_wI, ldI_wA, stI_wA, pI_wA, om_some, jm_of, jm_to, jm_add, jm_mul, jm_div, jm_cmp, jm_sub, na_gF hV.1, na_gI hV.1, na_pI hV.1, na_aln hV.1, na_ck hV.1, na_ld hV.1, na_st hV.1]))
  refine cn_raise_loop hp hA hV.1 hc1 hc2 hd rfl hV.2.2.1 (bwid_le hV.2.2.2 hx) hV.2.1.2.2 hV.2.2.2 ?_ FU σ 0 d aF.rf hV.2.1.1 (Nat.zero_le _) (by show w - 0 < 4294967296; omega) (by rw [bq_0, bq_0]) (by omega) (fun i hi => absurd hi (Nat.not_lt_zero _)) (fun i _ hi => hV.2.1.2.1 i hi)
  rcases hr with h | h
  · exact Or.inl h
  · rw [hl] at h
    exact Or.inr h
theorem low_dig {u d c : Nat} (hc : 0 < c) (hd : d < 1000000000) : (u * 1000000000 + d) / c % 1000000000 = (u % c * 1000000000 + d) / c ∧ (u * 1000000000 + d) % c = (u % c * 1000000000 + d) % c := by
  have h1 := Nat.div_add_mod u c
  have h2 := Nat.mod_lt u hc
  generalize u % c = r at *
  generalize u / c = q at *
  have e : u * 1000000000 + d = c * (q * 1000000000) + (r * 1000000000 + d) := by
    rw [← h1, Nat.add_mul, Nat.mul_assoc]
    omega
  rw [e, Nat.mul_add_div hc, Nat.mul_add_mod]
  refine ⟨?_, rfl⟩
  have : (r * 1000000000 + d) / c < 1000000000 := by
    rw [Nat.div_lt_iff_lt_mul hc]
    have h3 : r * 1000000000 + 1000000000 ≤ 1000000000 * c := by
      have : (r + 1) * 1000000000 ≤ c * 1000000000 := Nat.mul_le_mul_right _ h2
      omega
    omega
  rw [Nat.mul_comm q, Nat.mul_add_mod, Nat.mod_eq_of_lt this]
theorem cn_lower_loop {a x c l n w : Nat} (hc1 : 1 ≤ c) (hc2 : c ≤ 1000000000) (hw : w ≤ n) (hxw : x < 1000000000 ^ w) (h0 : w = 0 ∨ 1000000000 ^ (w - 1) ≤ x) : ∀ (k f : Nat) (σ : St), k < f → NA σ a l n → sI σ (fid 7 1) a = nI w → k ≤ w → (∀ i, i < k → sA σ l i = nI (bq x i % 1000000000)) → (∀ i, k ≤ i → i < w → sA σ l i = nI (bq (x / c) i % 1000000000)) →
    Hx (fX3_lower_17 f σ a (nI c) (nJ (bq x k % c)) (iz ((k : Int) - 1))) (fun σ' v => aF a l σ σ' ∧ v = nI (x % c) ∧ ∃ w', Nv σ' a l n w' (x / c)) := by
  intro k
  induction k with
  | zero =>
    intro f σ hf hN hs _ _ hd
    obtain ⟨f, rfl⟩ : ∃ g, f = g + 1 := ⟨f - 1, by omega⟩
    have hn := hN.2.2.2.2
    have hle : x / c ≤ x := Nat.div_le_self _ _
    rw [n_fX3_lower_17, show ((0 : Nat) : Int) - 1 = -1 from rfl, bq_0]
    have t1 : (iz (-1) < nI 0) = True := by
      rw [xm_lt (by omega) (by omega) (by omega)]
      exact eq_true (by omega)
    (repeat (first | with_reducible refine hx_bs ?_ | with_reducible refine hx_cs ?_ | with_reducible refine hx_t ?_ | with_reducible refine hx_f ?_ | ((conv => arg 1; arg 1; simp (disch := first | assumption | omega) only [sm_add, sm_mul, sm_le, sm_lt, sm_eq, sm_div, sm_sub, mx_le, mx_lt, mx_eq, xm_le, xm_lt, xm_eq, iz_le, iz_lt, iz_eq, nb0, nb1, Nat.zero_le, not_true_eq_false, not_false_eq_true, Nat.reduceEqDiff, Bool.false_eq_true, gF_wA, gF_wI, gI_wA, aln_wA, aln_wI, ckK_wA, ckK_wI, ldI_wA, stI_wA, pI_wA, om_some, jm_of, jm_to, jm_add, jm_mul, jm_div, jm_cmp, jm_sub, na_gF hN, na_gI hN, na_pI hN, na_aln hN, na_ck hN, na_ld hN, na_st hN, hs, t1]); first | with_reducible refine hx_bs ?_ | with_reducible refine hx_cs ?_ | with_reducible refine hx_t ?_ | with_reducible refine hx_f ?_ | with_reducible refine hx_nm ?_))); (try (conv => arg 1; arg 1; simp (disch := first | assumption | omega) only [sm_add, sm_mul, sm_le, sm_lt, sm_eq, sm_div, sm_sub, mx_le, mx_lt, mx_eq, xm_le, xm_lt, xm_eq, iz_le, iz_lt, iz_eq, nb0, nb1, Nat.zero_le, not_true_eq_false, not_false_eq_true, Nat.reduceEqDiff, Bool.false_eq_true, gF_wA, gF_wI, gI_wA, aln_wA, aln_wI, ckK_wA, ckK_wI, ldI_wA, stI_wA, pI_wA, om_some, jm_of, jm_to, jm_add, jm_mul, jm_div, jm_cmp, jm_sub, na_gF hN, na_gI hN, na_pI hN, na_aln hN, na_ck hN, na_ld hN, na_st hN, hs, t1]))
    refine Hx.cs (fun c1 => ?_) (fun c1 => ?_)
    · rw [n_fX3_lower_91, jm_to]
      have e : w = 0 := by omega
      subst e
      exact Hx.ret ⟨aF.rf, rfl, 0, hN, ⟨hs, fun i hi => absurd hi (Nat.not_lt_zero _), by omega⟩, hw, Or.inl rfl⟩
    · have e1 : w - 1 + 1 = w := by omega
      have htop := hd (w - 1) (Nat.zero_le _) (by omega)
      have h2 := bp_lt.mp (Nat.lt_of_le_of_lt hle hxw)
      rw [← e1, bp_dv] at h2
      (repeat (first | with_reducible refine hx_bs ?_ | with_reducible refine hx_cs ?_ | with_reducible refine hx_t ?_ | with_reducible refine hx_f ?_ | ((conv => arg 1; arg 1; simp (disch := first | assumption | omega) only [sm_add, sm_mul, sm_le, sm_lt, sm_eq, sm_div, sm_sub, mx_le, mx_lt, mx_eq, xm_le, xm_lt, xm_eq, iz_le, iz_lt, iz_eq, nb0, nb1, Nat.zero_le, not_true_eq_false, not_false_eq_true, Nat.reduceEqDiff, Bool.false_eq_true, gF_wA, gF_wI, gI_wA, aln_wA, aln_wI, ckK_wA, ckK_wI, ldI_wA, stI_wA, pI_wA, om_some, jm_of, jm_to, jm_add, jm_mul, jm_div, jm_cmp, jm_sub, na_gF hN, na_gI hN, na_pI hN, na_aln hN, na_ck hN, na_ld hN, na_st hN, hs, htop]); first | with_reducible refine hx_bs ?_ | with_reducible refine hx_cs ?_ | with_reducible refine hx_t ?_ | with_reducible refine hx_f ?_ | with_reducible refine hx_nm ?_))); (try (conv => arg 1; arg 1; simp (disch := first | assumption | omega) only [sm_add, sm_mul, sm_le, sm_lt, sm_eq, sm_div, sm_sub, mx_le, mx_lt, mx_eq, xm_le, xm_lt, xm_eq, iz_le, iz_lt, iz_eq, nb0, nb1, Nat.zero_le, not_true_eq_false, not_false_eq_true, Nat.reduceEqDiff, Bool.false_eq_true, gF_wA, gF_wI, gI_wA, aln_wA, aln_wI, ckK_wA, ckK_wI, ldI_wA, stI_wA, pI_wA, om_some, jm_of, jm_to, jm_add, jm_mul, jm_div, jm_cmp, jm_sub, na_gF hN, na_gI hN, na_pI hN, na_aln hN, na_ck hN, na_ld hN, na_st hN, hs, htop]))
      have h3 : w - 1 = 0 ∨ 1000000000 ^ (w - 1 - 1) ≤ x / c := by
        by_cases q : w - 1 = 0
        · exact Or.inl q
        · rcases h0 with h | h
          · omega
          · refine Or.inr ?_
            rw [Nat.le_div_iff_mul_le hc1]
            refine Nat.le_trans (Nat.mul_le_mul_left _ hc2) ?_
            rw [← Nat.pow_succ, show (w - 1 - 1).succ = w - 1 by omega]
            exact h
      refine Hx.cs (fun c2 => ?_) (fun c2 => ?_)
      · (repeat (first | with_reducible refine hx_bs ?_ | with_reducible refine hx_cs ?_ | with_reducible refine hx_t ?_ | with_reducible refine hx_f ?_ | ((conv => arg 1; arg 1; simp (disch := first | assumption | omega) only [sm_add, sm_mul, sm_le, sm_lt, sm_eq, sm_div, sm_sub, mx_le, mx_lt, mx_eq, xm_le, xm_lt, xm_eq, iz_le, iz_lt, iz_eq, nb0, nb1, Nat.zero_le, not_true_eq_false, not_false_eq_true, Nat.reduceEqDiff, Bool.false_eq_true, gF_wA, gF_wI, gI_wA, aln_wA, aln_wI, ckK_wA, ckK_wI, ldI_wA, stI_wA, pI_wA, om_some, jm_of, jm_to, jm_add, jm_mul, jm_div, jm_cmp, jm_sub, na_gF hN, na_gI hN, na_pI hN, na_aln hN, na_ck hN, na_ld hN, na_st hN, hs]); first | with_reducible refine hx_bs ?_ | with_reducible refine hx_cs ?_ | with_reducible refine hx_t ?_ | with_reducible refine hx_f ?_ | with_reducible refine hx_nm ?_))); (try (conv => arg 1; arg 1; simp (disch := first | assumption | omega) only [sm_add, sm_mul, sm_le, sm_lt, sm_eq, sm_div, sm_sub, mx_le, mx_lt, mx_eq, xm_le, xm_lt, xm_eq, iz_le, iz_lt, iz_eq, nb0, nb1, Nat.zero_le, not_true_eq_false, not_false_eq_true, Nat.reduceEqDiff, Bool.false_eq_true, gF_wA, gF_wI, gI_wA, aln_wA, aln_wI, ckK_wA, ckK_wI, ldI_wA, stI_wA, pI_wA, om_some, jm_of, jm_to, jm_add, jm_mul, jm_div, jm_cmp, jm_sub, na_gF hN, na_gI hN, na_pI hN, na_aln hN, na_ck hN, na_ld hN, na_st hN, hs]))
        rw [n_fX3_lower_91, jm_to]
        exact Hx.ret ⟨aF.wI, rfl, w - 1, hN, ⟨sI_wI_eq, fun i hi => hd i (Nat.zero_le _) (by omega), bp_lt.mpr (by omega)⟩, by omega, h3⟩
      · rw [n_fX3_lower_91, jm_to]
        exact Hx.ret ⟨aF.rf, rfl, w, hN, ⟨hs, fun i hi => hd i (Nat.zero_le _) hi, Nat.lt_of_le_of_lt hle hxw⟩, hw, Or.inr (bp_ge.mpr (by omega))⟩
  | succ k ih =>
    intro f σ hf hN hs hk hd1 hd2
    obtain ⟨f, rfl⟩ : ∃ g, f = g + 1 := ⟨f - 1, by omega⟩
    have hn := hN.2.2.2.2
    have e1 : iz (((k + 1 : Nat) : Int) - 1) = nI k := by
      rw [sm_iz]
      congr 1
      omega
    have hdk := hd1 k (by omega)
    have hm := Nat.mod_lt (bq x (k + 1)) hc1
    have hdv : (bq x (k + 1) % c * 1000000000 + bq x k % 1000000000) / c < 1000000000 := by
      rw [← (low_dig (u := bq x (k + 1)) (d := bq x k % 1000000000) hc1 (by omega)).1]
      omega
    have hbx : bq x (k + 1) * 1000000000 + bq x k % 1000000000 = bq x k := by
      rw [bp_dv]
      omega
    have hld := low_dig (u := bq x (k + 1)) (d := bq x k % 1000000000) hc1 (by omega)
    rw [hbx, ← bq_div] at hld
    have hmd := jm_mod (a := bq x (k + 1) % c * 1000000000 + bq x k % 1000000000) (b := c) (by omega) hc1 (by omega)
    have e3 : nI k + iz (-1) = iz ((k : Int) - 1) := by
      rw [sm_iz, iz_add]
      rfl
    rw [n_fX3_lower_17, e1]
    (repeat (first | with_reducible refine hx_bs ?_ | with_reducible refine hx_cs ?_ | with_reducible refine hx_t ?_ | with_reducible refine hx_f ?_ | ((conv => arg 1; arg 1; simp (disch := first | assumption | omega) only [sm_add, sm_mul, sm_le, sm_lt, sm_eq, sm_div, sm_sub, mx_le, mx_lt, mx_eq, xm_le, xm_lt, xm_eq, iz_le, iz_lt, iz_eq, nb0, nb1, Nat.zero_le, not_true_eq_false, not_false_eq_true, Nat.reduceEqDiff, Bool.false_eq_true, gF_wA, gF_wI, gI_wA, aln_wA, aln_wI, ckK_wA, ckK_wI, ldI_wA, stI_wA, pI_wA, om_some, jm_of, jm_to, jm_add, jm_mul, jm_div, jm_cmp, jm_sub, na_gF hN, na_gI hN, na_pI hN, na_aln hN, na_ck hN, na_ld hN, na_st hN, hdk, show (k < 0) = False from by simp, ckDL_ok hc1 (show c < 9223372036854775808 by omega)]); first | with_reducible refine hx_bs ?_ | with_reducible refine hx_cs ?_ | with_reducible refine hx_t ?_ | with_reducible refine hx_f ?_ | with_reducible refine hx_nm ?_))); (try (conv => arg 1; arg 1; simp (disch := first | assumption | omega) only [sm_add, sm_mul, sm_le, sm_lt, sm_eq, sm_div, sm_sub, mx_le, mx_lt, mx_eq, xm_le, xm_lt, xm_eq, iz_le, iz_lt, iz_eq, nb0, nb1, Nat.zero_le, not_true_eq_false, not_false_eq_true, Nat.reduceEqDiff, Bool.false_eq_true, gF_wA, gF_wI, gI_wA, aln_wA, aln_wI, ckK_wA, ckK_wI, ldI_wA, stI_wA, pI_wA, om_some, jm_of, jm_to, jm_add, jm_mul, jm_div, jm_cmp, jm_sub, na_gF hN, na_gI hN, na_pI hN, na_aln hN, na_ck hN, na_ld hN, na_st hN, hdk, show (k < 0) = False from by simp, ckDL_ok hc1 (show c < 9223372036854775808 by omega)]))
    rw [jm_sub (Nat.div_mul_le_self _ _), ← Nat.mod_eq_sub_div_mul, e3, ← hld.2, ← hld.1]
    refine Hx.mo (ih f _ (by omega) hN hs (by omega) (fun i hi => ?_) (fun i h1 h2 => ?_)) (fun σ' v h => ⟨aF.wA.tr h.1, h.2⟩)
    · rw [sA_wA_j (by omega)]
      exact hd1 i (by omega)
    · rw [sA_wA_if]
      split
      · rename_i e; rw [e]
      · exact hd2 i (by omega) h2
theorem cn_lower {P : List Nat} {σ : St} {a x c : Nat} (hp : HP P σ) (hA : Nt σ a x) (hc1 : 1 ≤ c) (hc2 : c ≤ 1000000000) : Hx (fX3_lower σ a (nI c)) (fun σ' v => cF P [a] 0 0 σ σ' ∧ v = nI (x % c) ∧ Nt σ' a (x / c)) := by
  obtain ⟨l, n, w, hV⟩ := id hA
  have hn := hV.1.2.2.2.2
  have hw := hV.2.2.1
  rw [n_fX3_lower]
  (repeat (first | with_reducible refine hx_bs ?_ | with_reducible refine hx_cs ?_ | with_reducible refine hx_t ?_ | with_reducible refine hx_f ?_ | ((conv => arg 1; arg 1; simp (disch := first | assumption | omega) only [sm_add, sm_mul, sm_le, sm_lt, sm_eq, sm_div, sm_sub, mx_le, mx_lt, mx_eq, xm_le, xm_lt, xm_eq, iz_le, iz_lt, iz_eq, nb0, nb1, Nat.zero_le, not_true_eq_false, not_false_eq_true, Nat.reduceEqDiff, Bool.false_eq_true, gF_wA, gF_wI, gI_wA, aln_wA, aln_wI, ckK_wA, ckK_wI, ldI_wA, stI_wA, pI_wA, om_some, jm_of, jm_to, jm_add, jm_mul, jm_div, jm_cmp, jm_sub, na_gF hV.1, na_gI hV.1, na_pI hV.1, na_aln hV.1, na_ck hV.1, na_ld hV.1, na_st hV.1, hV.2.1.1, eq_true (show 1 ≤ c from hc1)]); first | with_reducible refine hx_bs ?_ | with_reducible refine hx_cs ?_ | with_reducible refine hx_t ?_ | with_reducible refine hx_f ?_ | with_reducible refine hx_nm ?_))); (try (conv => arg 1; arg 1; simp (disch := first | assumption | omega) only [sm_add, sm_mul, sm_le, sm_lt, sm_eq, sm_div, sm_sub, mx_le, mx_lt, mx_eq, xm_le, xm_lt, xm_eq, iz_le, iz_lt, iz_eq, nb0, nb1, Nat.zero_le, not_true_eq_false, not_false_eq_true, Nat.reduceEqDiff, Bool.false_eq_true, gF_wA, gF_wI, gI_wA, aln_wA, aln_wI, ckK_wA, ckK_wI, ldI_wA, stI_wA, pI_wA, om_some, jm_of, jm_to, jm_add, jm_mul, jm_div, jm_cmp, jm_sub, na_gF hV.1, na_gI hV.1, na_pI hV.1, na_aln hV.1, na_ck hV.1, na_ld hV.1, na_st hV.1, hV.2.1.1, eq_true (show 1 ≤ c from hc1)]))
  have e3 : nI w - nI 1 = iz ((w : Int) - 1) := by
    rw [sm_iz, sm_iz, iz_sub]
    rfl
  refine hx_nm ?_
  rw [e3, show nJ 0 = nJ (bq x w % c) by rw [bp_lt.mp hV.2.1.2.2, Nat.zero_mod]]
  refine Hx.mo (cn_lower_loop hc1 hc2 hw hV.2.1.2.2 hV.2.2.2 w FU σ (by show w < 4294967296; omega) hV.1 hV.2.1.1 (Nat.le_refl _) hV.2.1.2.1 (fun i h1 h2 => by omega)) (fun σ' v h => ?_)
  obtain ⟨h1, h2, w', h3⟩ := h
  exact ⟨cF.nat hp hA hV.1 h1 h3, h2, _, _, _, h3⟩
