/-! ===== the class' Nat: setSmall ===== -/
theorem cn_ss_fin {P : List Nat} {σ : St} {a y v l n w k : Nat} (hp : HP P σ) (hA : Nt σ a y) (hV : Nv σ a l n w y) (h1 : k = 0 ∨ 1000000000 ^ (k - 1) ≤ v) (h2 : v < 1000000000 ^ k) (h3 : k ≤ 2) : Hx (fX3_setSmall_52 (wA (wA σ l 0 (nI (v - v / 1000000000 * 1000000000))) l 1 (nI (v / 1000000000))) a (nI k)) (fun σ' _ => cF P [a] 0 0 σ σ' ∧ Nt σ' a v) := by
  have hN := hV.1
  have hn := hN.2.2.2.2
  have hV' : Nv (wI (wA (wA σ l 0 (nI (v - v / 1000000000 * 1000000000))) l 1 (nI (v / 1000000000))) (fid 7 1) a (nI k)) a l n k v := by
    refine ⟨hN, ⟨sI_wI_eq, fun i hi => ?_, h2⟩, by omega, h1⟩
    rcases (show i = 0 ∨ i = 1 by omega) with rfl | rfl
    · rw [sA_wI_, sA_wA_j (by omega), sA_wA_eq, bq_0]
      exact congrArg nI (Nat.mod_eq_sub_div_mul).symm
    · have hv2 : v < 1000000000 ^ 2 := Nat.lt_of_lt_of_le h2 (bp_mono h3)
      have hq := bp_lt.mp hv2
      rw [bp_dv, bp_dv, bq_0] at hq
      rw [sA_wI_, sA_wA_eq, bp_dv, bq_0, Nat.mod_eq_of_lt (by omega)]
  rw [n_fX3_setSmall_52]
  (repeat (first | with_reducible refine hx_bs ?_ | with_reducible refine hx_cs ?_ | with_reducible refine hx_t ?_ | with_reducible refine hx_f ?_ | ((conv => arg 1; arg 1; simp (disch := first | assumption | omega) only [sm_add, sm_mul, sm_le, sm_lt, sm_eq, sm_div, sm_sub, mx_le, mx_lt, mx_eq, xm_le, xm_lt, xm_eq, iz_le, iz_lt, iz_eq, nb0, nb1, Nat.zero_le, not_true_eq_false, not_false_eq_true, Nat.reduceEqDiff, Bool.false_eq_true, gF_wA, gF_wI, gI_wA, aln_wA, aln_wI, ckK_wA, ckK_wI, ldI_wA, stI_wA, pI_wA, om_some, jm_of, jm_to, jm_add, jm_mul, jm_div, jm_cmp, jm_sub, na_gF hN, na_gI hN, na_pI hN, na_aln hN, na_ck hN, na_ld hN, na_st hN]); first | with_reducible refine hx_bs ?_ | with_reducible refine hx_cs ?_ | with_reducible refine hx_t ?_ | with_reducible refine hx_f ?_ | with_reducible refine hx_nm ?_))); (try (conv => arg 1; arg 1; simp (disch := first | assumption | omega) only [sm_add, sm_mul, sm_le, sm_lt, sm_eq, sm_div, sm_sub, mx_le, mx_lt, mx_eq, xm_le, xm_lt, xm_eq, iz_le, iz_lt, iz_eq, nb0, nb1, Nat.zero_le, not_true_eq_false, not_false_eq_true, Nat.reduceEqDiff, Bool.false_eq_true, gF_wA, gF_wI, gI_wA, aln_wA, aln_wI, ckK_wA, ckK_wI, ldI_wA, stI_wA, pI_wA, om_some, jm_of, jm_to, jm_add, jm_mul, jm_div, jm_cmp, jm_sub, na_gF hN, na_gI hN, na_pI hN, na_aln hN, na_ck hN, na_ld hN, na_st hN]))
  exact Hx.ret ⟨cF.nat hp hA hN (((aF.wA).tr aF.wA).tr aF.wI) hV', ⟨_, _, _, hV'⟩⟩
theorem cn_setSmall {P : List Nat} {σ : St} {a y v : Nat} (hp : HP P σ) (hA : Nt σ a y) (hv : v < 1000000000000000000) : Hx (fX3_setSmall σ a (nJ v)) (fun σ' _ => cF P [a] 0 0 σ σ' ∧ Nt σ' a v) := by
  obtain ⟨l, n, w, hV⟩ := id hA
  have hN := hV.1
  have hn := hN.2.2.2.2
  have hc0 : (nI 0).toNatClampNeg = 0 := sm_clamp (by omega)
  have hc1 : (nI 1).toNatClampNeg = 1 := sm_clamp (by omega)
  have d0 : ∀ u : Int32, sA (wA (wA σ l 0 u) l 1 (nI (v / 1000000000))) l 0 = u := fun u => (sA_wA_j (by omega)).trans sA_wA_eq
  rw [n_fX3_setSmall]
  (repeat (first | with_reducible refine hx_bs ?_ | with_reducible refine hx_cs ?_ | with_reducible refine hx_t ?_ | with_reducible refine hx_f ?_ | ((conv => arg 1; arg 1; simp (disch := first | assumption | omega) only [sm_add, sm_mul, sm_le, sm_lt, sm_eq, sm_div, sm_sub, mx_le, mx_lt, mx_eq, xm_le, xm_lt, xm_eq, iz_le, iz_lt, iz_eq, nb0, nb1, Nat.zero_le, not_true_eq_false, not_false_eq_true, Nat.reduceEqDiff, Bool.false_eq_true, gF_wA, gF_wI, gI_wA, aln_wA, aln_wI, ckK_wA, ckK_wI, ldI_wA, stI_wA, pI_wA, om_some, jm_of, jm_to, jm_add, jm_mul, jm_div, jm_cmp, jm_sub, na_gF hN, na_gI hN, na_pI hN, na_aln hN, na_ck hN, na_ld hN, na_st hN, hc0, hc1, sA_wA_eq]); first | with_reducible refine hx_bs ?_ | with_reducible refine hx_cs ?_ | with_reducible refine hx_t ?_ | with_reducible refine hx_f ?_ | with_reducible refine hx_nm ?_))); (try (conv => arg 1; arg 1; simp (disch := first | assumption | omega) only [sm_add, sm_mul, sm_le, sm_lt, sm_eq, sm_div, sm_sub, mx_le, mx_lt, mx_eq, xm_le, xm_lt, xm_eq, iz_le, iz_lt, iz_eq, nb0, nb1, Nat.zero_le, not_true_eq_false, not_false_eq_true, Nat.reduceEqDiff, Bool.false_eq_true, gF_wA, gF_wI, gI_wA, aln_wA, aln_wI, ckK_wA, ckK_wI, ldI_wA, stI_wA, pI_wA, om_some, jm_of, jm_to, jm_add, jm_mul, jm_div, jm_cmp, jm_sub, na_gF hN, na_gI hN, na_pI hN, na_aln hN, na_ck hN, na_ld hN, na_st hN, hc0, hc1, sA_wA_eq]))
  refine Hx.cs (fun c => ?_) (fun c => ?_)
  · (repeat (first | with_reducible refine hx_bs ?_ | with_reducible refine hx_cs ?_ | with_reducible refine hx_t ?_ | with_reducible refine hx_f ?_ | ((conv => arg 1; arg 1; simp (disch := first | assumption | omega) only [sm_add, sm_mul, sm_le, sm_lt, sm_eq, sm_div, sm_sub, mx_le, mx_lt, mx_eq, xm_le, xm_lt, xm_eq, iz_le, iz_lt, iz_eq, nb0, nb1, Nat.zero_le, not_true_eq_false, not_false_eq_true, Nat.reduceEqDiff, Bool.false_eq_true, gF_wA, gF_wI, gI_wA, aln_wA, aln_wI, ckK_wA, ckK_wI, ldI_wA, stI_wA, pI_wA, om_some, jm_of, jm_to, jm_add, jm_mul, jm_div, jm_cmp, jm_sub, na_gF hN, na_gI hN, na_pI hN, na_aln hN, na_ck hN, na_ld hN, na_st hN, hc0, hc1, d0]); first | with_reducible refine hx_bs ?_ | with_reducible refine hx_cs ?_ | with_reducible refine hx_t ?_ | with_reducible refine hx_f ?_ | with_reducible refine hx_nm ?_))); (try (conv => arg 1; arg 1; simp (disch := first | assumption | omega) only [sm_add, sm_mul, sm_le, sm_lt, sm_eq, sm_div, sm_sub, mx_le, mx_lt, mx_eq, xm_le, xm_lt, xm_eq, iz_le, iz_lt, iz_eq, nb0, nb1, Nat.zero_le, not_true_eq_false, not_false_eq_true, Nat.reduceEqDiff, Bool.false_eq_true, gF_wA, gF_wI, gI_wA, aln_wA, aln_wI, ckK_wA, ckK_wI, ldI_wA, stI_wA, pI_wA, om_some, jm_of, jm_to, jm_add, jm_mul, jm_div, jm_cmp, jm_sub, na_gF hN, na_gI hN, na_pI hN, na_aln hN, na_ck hN, na_ld hN, na_st hN, hc0, hc1, d0]))
    refine Hx.cs (fun c2 => ?_) (fun c2 => ?_)
    · exact cn_ss_fin hp hA hV (Or.inl rfl) (by rw [Nat.pow_zero]; omega) (by omega)
    · exact cn_ss_fin hp hA hV (Or.inr (by rw [Nat.sub_self, Nat.pow_zero]; omega)) (by rw [bw1]; omega) (by omega)
  · exact cn_ss_fin hp hA hV (Or.inr (by show 1000000000 ^ 1 ≤ v; rw [bw1]; omega)) (by rw [bw2]; omega) (by omega)
