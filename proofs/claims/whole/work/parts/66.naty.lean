/-! ===== the class' Nat: plus, minus, setProduct ===== -/
theorem cn_limbA {σ : St} {a l n w k : Nat} (hA : NA σ a l n) (hs : sI σ (fid 7 1) a = nI w) (hw : w ≤ n) (hk : k < 1000000) : fX3_limb σ a (nI k) = some (σ, if k < w then sA σ l k else nI 0) := by
  have hn := hA.2.2.2.2
  apply hx_eq
  rw [n_fX3_limb]
  (repeat (first | with_reducible refine hx_bs ?_ | with_reducible refine hx_cs ?_ | with_reducible refine hx_t ?_ | with_reducible refine hx_f ?_ | ((conv => arg 1; arg 1; simp (disch := first | assumption | omega) only [sm_add, sm_mul, sm_le, sm_lt, sm_eq, sm_div, sm_sub, mx_le, mx_lt, mx_eq, xm_le, xm_lt, xm_eq, iz_le, iz_lt, iz_eq, nb0, nb1, Nat.zero_le, not_true_eq_false, not_false_eq_true, Nat.reduceEqDiff, Bool.false_eq_true, gF_wA, gF_wI, gI_wA, aln_wA, aln_wI, ckK_wA, ckK_wI, ldI_wA, stI_wA, pI_wA, om_some, jm_of, jm_to, jm_add, jm_mul, jm_div, jm_cmp, jm_sub, na_gF hA, na_gI hA, na_pI hA, na_aln hA, na_ck hA, na_ld hA, na_st hA, hs, show (k < 0) = False from by simp]); first | with_reducible refine hx_bs ?_ | with_reducible refine hx_cs ?_ | with_reducible refine hx_t ?_ | with_reducible refine hx_f ?_ | with_reducible refine hx_nm ?_))); (try (conv => arg 1; arg 1; simp (disch := first | assumption | omega) only [sm_add, sm_mul, sm_le, sm_lt, sm_eq, sm_div, sm_sub, mx_le, mx_lt, mx_eq, xm_le, xm_lt, xm_eq, iz_le, iz_lt, iz_eq, nb0, nb1, Nat.zero_le, not_true_eq_false, not_false_eq_true, Nat.reduceEqDiff, Bool.false_eq_true, gF_wA, gF_wI, gI_wA, aln_wA, aln_wI, ckK_wA, ckK_wI, ldI_wA, stI_wA, pI_wA, om_some, jm_of, jm_to, jm_add, jm_mul, jm_div, jm_cmp, jm_sub, na_gF hA, na_gI hA, na_pI hA, na_aln hA, na_ck hA, na_ld hA, na_st hA, hs, show (k < 0) = False from by simp]))
  refine Hx.cs (fun c => Hx.ret ⟨rfl, ?_⟩) (fun c => ?_)
  · rw [if_neg (by omega)]
  · (repeat (first | with_reducible refine hx_bs ?_ | with_reducible refine hx_cs ?_ | with_reducible refine hx_t ?_ | with_reducible refine hx_f ?_ | ((conv => arg 1; arg 1; simp (disch := first | assumption | omega) only [sm_add, sm_mul, sm_le, sm_lt, sm_eq, sm_div, sm_sub, mx_le, mx_lt, mx_eq, xm_le, xm_lt, xm_eq, iz_le, iz_lt, iz_eq, nb0, nb1, Nat.zero_le, not_true_eq_false, not_false_eq_true, Nat.reduceEqDiff, Bool.false_eq_true, gF_wA, gF_wI, gI_wA, aln_wA, aln_wI, ckK_wA, ckK_wI, ldI_wA, stI_wA, pI_wA, om_some, jm_of, jm_to, jm_add, jm_mul, jm_div, jm_cmp, jm_sub, na_gF hA, na_gI hA, na_pI hA, na_aln hA, na_ck hA, na_ld hA, na_st hA]); first | with_reducible refine hx_bs ?_ | with_reducible refine hx_cs ?_ | with_reducible refine hx_t ?_ | with_reducible refine hx_f ?_ | with_reducible refine hx_nm ?_))); (try (conv => arg 1; arg 1; simp (disch := first | assumption | omega) only [sm_add, sm_mul, sm_le, sm_lt, sm_eq, sm_div, sm_sub, mx_le, mx_lt, mx_eq, xm_le, xm_lt, xm_eq, iz_le, iz_lt, iz_eq, nb0, nb1, Nat.zero_le, not_true_eq_false, not_false_eq_true, Nat.reduceEqDiff, Bool.false_eq_true, gF_wA, gF_wI, gI_wA, aln_wA, aln_wI, ckK_wA, ckK_wI, ldI_wA, stI_wA, pI_wA, om_some, jm_of, jm_to, jm_add, jm_mul, jm_div, jm_cmp, jm_sub, na_gF hA, na_gI hA, na_pI hA, na_aln hA, na_ck hA, na_ld hA, na_st hA]))
    exact Hx.ret ⟨rfl, by rw [if_pos (by omega)]⟩
theorem bq_hi {x w i : Nat} (hx : x < 1000000000 ^ w) (hi : w ≤ i) : bq x i = 0 := bp_lt.mp (Nat.lt_of_lt_of_le hx (bp_mono hi))
theorem cn_limbU {σ : St} {a l n w x i k : Nat} (hA : NA σ a l n) (hs : sI σ (fid 7 1) a = nI w) (hw : w ≤ n) (hk : k < 1000000) (hx : x < 1000000000 ^ w) (hd : ∀ j, i ≤ j → j < w → sA σ l j = nI (bq x j % 1000000000)) (hi : i ≤ k) : fX3_limb σ a (nI k) = some (σ, nI (bq x k % 1000000000)) := by
  rw [cn_limbA hA hs hw hk]
  by_cases c : k < w
  · rw [if_pos c, hd k hi c]
  · rw [if_neg c, bq_hi hx (by omega)]
theorem cn_plus_loop {a b l n l2 n2 w v x y W : Nat} (hab : b ≠ a) (hll : l2 ≠ l) (hW : W = (if w < v then v else w)) (hWn : W < n) (hxw : x < 1000000000 ^ w) (hyv : y < 1000000000 ^ v) (hwn : w ≤ n) :
    ∀ (f : Nat) (σ : St) (k : Nat), NA σ a l n → sI σ (fid 7 1) a = nI w → Nv σ b l2 n2 v y → k ≤ W → W - k < f → (∀ i, i < k → sA σ l i = nI (bq (x + y) i % 1000000000)) → (∀ i, k ≤ i → i < w → sA σ l i = nI (bq x i % 1000000000)) →
    Hx (fX3_plus_42 f σ a b (nI W) (nI (bq (x + y) k - bq x k - bq y k)) (nI k)) (fun σ' _ => aF a l σ σ' ∧ ∃ w', Nv σ' a l n w' (x + y)) := by
  intro f
  induction f with
  | zero => intro σ k _ _ _ _ h; omega
  | succ f ih =>
    intro σ k hN hs hB hk hf hd1 hd2
    have hn := hN.2.2.2.2
    have hn2 := hB.1.2.2.2.2
    have hvn := hB.2.2.1
    have q1 := bq_add_le x y k
    have q2 := bq_add_lt x y k
    rw [n_fX3_plus_42]
    (repeat (first | with_reducible refine hx_bs ?_ | with_reducible refine hx_cs ?_ | with_reducible refine hx_t ?_ | with_reducible refine hx_f ?_ | ((conv => arg 1; arg 1; simp (disch := first | assumption | omega) only [sm_add, sm_mul, sm_le, sm_lt, sm_eq, sm_div, sm_sub, mx_le, mx_lt, mx_eq, xm_le, xm_lt, xm_eq, iz_le, iz_lt, iz_eq, nb0, nb1, Nat.zero_le, not_true_eq_false, not_false_eq_true, Nat.reduceEqDiff, Bool.false_eq_true, gF_wA, gF_wI, gI_wA, aln_wA, aln_wI, ckK_wA, ckK_wI, ldI_wA, stI_wA, pI_wA, om_some, jm_of, jm_to, jm_add, jm_mul, jm_div, jm_cmp, jm_sub, na_gF hN, na_gI hN, na_pI hN, na_aln hN, na_ck hN, na_ld hN, na_st hN, na_gF hB.1, na_gI hB.1, na_pI hB.1, na_aln hB.1, na_ck hB.1, na_ld hB.1, na_st hB.1]); first | with_reducible refine hx_bs ?_ | with_reducible refine hx_cs ?_ | with_reducible refine hx_t ?_ | with_reducible refine hx_f ?_ | with_reducible refine hx_nm ?_))); (try (conv => arg 1; arg 1; simp (disch := first | assumption | omega) only [sm_add, sm_mul, sm_le, sm_lt, sm_eq, sm_div, sm_sub, mx_le, mx_lt, mx_eq, xm_le, xm_lt, xm_eq, iz_le, iz_lt, iz_eq, nb0, nb1, Nat.zero_le, not_true_eq_false, not_false_eq_true, Nat.reduceEqDiff, Bool.false_eq_true, gF_wA, gF_wI, gI_wA, aln_wA, aln_wI, ckK_wA, ckK_wI, ldI_wA, stI_wA, pI_wA, om_some, jm_of, jm_to, jm_add, jm_mul, jm_div, jm_cmp, jm_sub, na_gF hN, na_gI hN, na_pI hN, na_aln hN, na_ck hN, na_ld hN, na_st hN, na_gF hB.1, na_gI hB.1, na_pI hB.1, na_aln hB.1, na_ck hB.1, na_ld hB.1, na_st hB.1]))
    refine Hx.cs (fun c => ?_) (fun c => ?_)
    · have e : k = W := by omega
      subst e
      (repeat (first | with_reducible refine hx_bs ?_ | with_reducible refine hx_cs ?_ | with_reducible refine hx_t ?_ | with_reducible refine hx_f ?_ | ((conv => arg 1; arg 1; simp (disch := first | assumption | omega) only [sm_add, sm_mul, sm_le, sm_lt, sm_eq, sm_div, sm_sub, mx_le, mx_lt, mx_eq, xm_le, xm_lt, xm_eq, iz_le, iz_lt, iz_eq, nb0, nb1, Nat.zero_le, not_true_eq_false, not_false_eq_true, Nat.reduceEqDiff, Bool.false_eq_true, gF_wA, gF_wI, gI_wA, aln_wA, aln_wI, ckK_wA, ckK_wI, ldI_wA, stI_wA, pI_wA, om_some, jm_of, jm_to, jm_add, jm_mul, jm_div, jm_cmp, jm_sub, na_gF hN, na_gI hN, na_pI hN, na_aln hN, na_ck hN, na_ld hN, na_st hN, na_gF hB.1, na_gI hB.1, na_pI hB.1, na_aln hB.1, na_ck hB.1, na_ld hB.1, na_st hB.1]); first | with_reducible refine hx_bs ?_ | with_reducible refine hx_cs ?_ | with_reducible refine hx_t ?_ | with_reducible refine hx_f ?_ | with_reducible refine hx_nm ?_))); (try (conv => arg 1; arg 1; simp (disch := first | assumption | omega) only [sm_add, sm_mul, sm_le, sm_lt, sm_eq, sm_div, sm_sub, mx_le, mx_lt, mx_eq, xm_le, xm_lt, xm_eq, iz_le, iz_lt, iz_eq, nb0, nb1, Nat.zero_le, not_true_eq_false, not_false_eq_true, Nat.reduceEqDiff, Bool.false_eq_true, gF_wA, gF_wI, gI_wA, aln_wA, aln_wI, ckK_wA, ckK_wI, ldI_wA, stI_wA, pI_wA, om_some, jm_of, jm_to, jm_add, jm_mul, jm_div, jm_cmp, jm_sub, na_gF hN, na_gI hN, na_pI hN, na_aln hN, na_ck hN, na_ld hN, na_st hN, na_gF hB.1, na_gI hB.1, na_pI hB.1, na_aln hB.1, na_ck hB.1, na_ld hB.1, na_st hB.1]))
      have ex : bq x k = 0 := bq_hi hxw (by rw [hW]; split <;> omega)
      have ey : bq y k = 0 := bq_hi hyv (by rw [hW]; split <;> omega)
      rw [ex, ey] at q1 q2 ⊢
      have hd : ∀ i, i < k + 1 → sA (wI (wA σ l k (nI (bq (x + y) k - 0 - 0))) (fid 7 1) a (nI (k + 1))) l i = nI (bq (x + y) i % 1000000000) := by
        intro i hi
        rw [sA_wI_, sA_wA_if]
        split
        · rename_i e
          rw [e]
          congr 1
          omega
        · exact hd1 i (by omega)
      have hx2 : x + y < 1000000000 ^ (k + 1) := bp_lt.mpr (by rw [bp_dv]; omega)
      rw [n_fX3_trim]
      refine Hx.bd (cn_trim (x := x + y) FU _ (k + 1) hN ⟨sI_wI_eq, hd, hx2⟩ (by omega) (by show k + 1 < 4294967296; omega)) (fun σ' v h => ?_)
      exact Hx.ret ⟨(aF.wA.tr aF.wI).tr h.1, h.2⟩
    · have hl1 := cn_limbU (k := k) hN hs hwn (by omega) hxw hd2 (Nat.le_refl _)
      have hl2 := cn_limbU (k := k) (i := 0) hB.1 hB.2.1.1 hvn (by omega) hyv (fun j _ hj => hB.2.1.2.1 j hj) (Nat.zero_le _)
      (repeat (first | with_reducible refine hx_bs ?_ | with_reducible refine hx_cs ?_ | with_reducible refine hx_t ?_ | with_reducible refine hx_f ?_ | ((conv => arg 1; arg 1; simp (disch := first | assumption | omega) only [sm_add, sm_mul, sm_le, sm_lt, sm_eq, sm_div, sm_sub, mx_le, mx_lt, mx_eq, xm_le, xm_lt, xm_eq, iz_le, iz_lt, iz_eq, nb0, nb1, Nat.zero_le, not_true_eq_false, not_false_eq_true, Nat.reduceEqDiff, Bool.false_eq_true, gF_wA, gF_wI, gI_wA, aln_wA, aln_wI, ckK_wA, ckK_wI, ldI_wA, stI_wA, pI_wA, om_some, jm_of, jm_to, jm_add, jm_mul, jm_div, jm_cmp, jm_sub, na_gF hN, na_gI hN, na_pI hN, na_aln hN, na_ck hN, na_ld hN, na_st hN, na_gF hB.1, na_gI hB.1, na_pI hB.1, na_aln hB.1, na_ck hB.1, na_ld hB.1, na_st hB.1, hl1, hl2]); first | with_reducible refine hx_bs ?_ | with_reducible refine hx_cs ?_ | with_reducible refine hx_t ?_ | with_reducible refine hx_f ?_ | with_reducible refine hx_nm ?_))); (try (conv => arg 1; arg 1; simp (disch := first | assumption | omega) only [sm_add, sm_mul, sm_le, sm_lt, sm_eq, sm_div, sm_sub, mx_le, mx_lt, mx_eq, xm_le, xm_lt, xm_eq, iz_le, iz_lt, iz_eq, nb0, nb1, Nat.zero_le, not_true_eq_false, not_false_eq_true, Nat.reduceEqDiff, Bool.false_eq_true, gF_wA, gF_wI, gI_wA, aln_wA, aln_wI, ckK_wA, ckK_wI, ldI_wA, stI_wA, pI_wA, om_some, jm_of, jm_to, jm_add, jm_mul, jm_div, jm_cmp, jm_sub, na_gF hN, na_gI hN, na_pI hN, na_aln hN, na_ck hN, na_ld hN, na_st hN, na_gF hB.1, na_gI hB.1, na_pI hB.1, na_aln hB.1, na_ck hB.1, na_ld hB.1, na_st hB.1, hl1, hl2]))
      have d1 := bp_dv x k
      have d2 := bp_dv y k
      have d3 := bp_dv (x + y) k
      have q3 := bq_add_le x y (k + 1)
      have q4 := bq_add_lt x y (k + 1)
      have fin : ∀ c', c' = bq (x + y) (k + 1) - bq x (k + 1) - bq y (k + 1) → ∀ u, u = bq (x + y) k % 1000000000 → Hx (fX3_plus_42 f (wA σ l k (nI u)) a b (nI W) (nI c') (nI (k + 1))) (fun σ' _ => aF a l σ σ' ∧ ∃ w', Nv σ' a l n w' (x + y)) := by
        intro c' hc' u hu
        rw [hc', hu]
        refine Hx.mo (ih _ (k + 1) hN hs (hB.af aF.wA hab hll) (by omega) (by omega) (fun i hi => ?_) (fun i h1 h2 => ?_)) (fun σ' _ h => ⟨aF.wA.tr h.1, h.2⟩)
        · rw [sA_wA_if]
          split
          · rename_i e; rw [e]
          · exact hd1 i (by omega)
        · rw [sA_wA_j (by omega)]
          exact hd2 i (by omega) h2
      refine Hx.cs (fun c2 => ?_) (fun c2 => ?_)
      · rw [n_fX3_plus_77]
        (repeat (first | with_reducible refine hx_bs ?_ | with_reducible refine hx_cs ?_ | with_reducible refine hx_t ?_ | with_reducible refine hx_f ?_ | ((conv => arg 1; arg 1; simp (disch := first | assumption | omega) only [sm_add, sm_mul, sm_le, sm_lt, sm_eq, sm_div, sm_sub, mx_le, mx_lt, mx_eq, xm_le, xm_lt, xm_eq, iz_le, iz_lt, iz_eq, nb0, nb1, Nat.zero_le, not_true_eq_false, not_false_eq_true, Nat.reduceEqDiff, Bool.false_eq_true, gF_wA, gF_wI, gI_wA, aln_wA, aln_wI, ckK_wA, ckK_wI, ldI_wA, stI_wA, pI_wA, om_some, jm_of, jm_to, jm_add, jm_mul, jm_div, jm_cmp, jm_sub, na_gF hN, na_gI hN, na_pI hN, na_aln hN, na_ck hN, na_ld hN, na_st hN, na_gF hB.1, na_gI hB.1, na_pI hB.1, na_aln hB.1, na_ck hB.1, na_ld hB.1, na_st hB.1, Nat.zero_mul, Nat.sub_zero]); first | with_reducible refine hx_bs ?_ | with_reducible refine hx_cs ?_ | with_reducible refine hx_t ?_ | with_reducible refine hx_f ?_ | with_reducible refine hx_nm ?_))); (try (conv => arg 1; arg 1; simp (disch := first | assumption | omega) only [sm_add, sm_mul, sm_le, sm_lt, sm_eq, sm_div, sm_sub, mx_le, mx_lt, mx_eq, xm_le, xm_lt, xm_eq, iz_le, iz_lt, iz_eq, nb0, nb1, Nat.zero_le, not_true_eq_false, not_false_eq_true, Nat.reduceEqDiff, Bool.false_eq_true, gF_wA, gF_wI, gI_wA, aln_wA, aln_wI, ckK_wA, ckK_wI, ldI_wA, stI_wA, pI_wA, om_some, jm_of, jm_to, jm_add, jm_mul, jm_div, jm_cmp, jm_sub, na_gF hN, na_gI hN, na_pI hN, na_aln hN, na_ck hN, na_ld hN, na_st hN, na_gF hB.1, na_gI hB.1, na_pI hB.1, na_aln hB.1, na_ck hB.1, na_ld hB.1, na_st hB.1, Nat.zero_mul, Nat.sub_zero]))
        exact fin 0 (by omega) _ (by omega)
      · rw [n_fX3_plus_77]
        (repeat (first | with_reducible refine hx_bs ?_ | with_reducible refine hx_cs ?_ | with_reducible refine hx_t ?_ | with_reducible refine hx_f ?_ | ((conv => arg 1; arg 1; simp (disch := first | assumption | omega) only [sm_add, sm_mul, sm_le, sm_lt, sm_eq, sm_div, sm_sub, mx_le, mx_lt, mx_eq, xm_le, xm_lt, xm_eq, iz_le, iz_lt, iz_eq, nb0, nb1, Nat.zero_le, not_true_eq_false, not_false_eq_true, Nat.reduceEqDiff, Bool.false_eq_true, gF_wA, gF_wI, gI_wA, aln_wA, aln_wI, ckK_wA, ckK_wI, ldI_wA, stI_wA, pI_wA, om_some, jm_of, jm_to, jm_add, jm_mul, jm_div, jm_cmp, jm_sub, na_gF hN, na_gI hN, na_pI hN, na_aln hN, na_ck hN, na_ld hN, na_st hN, na_gF hB.1, na_gI hB.1, na_pI hB.1, na_aln hB.1, na_ck hB.1, na_ld hB.1, na_st hB.1, Nat.one_mul]); first | with_reducible refine hx_bs ?_ | with_reducible refine hx_cs ?_ | with_reducible refine hx_t ?_ | with_reducible refine hx_f ?_ | with_reducible refine hx_nm ?_))); (try (conv => arg 1; arg 1; simp (disch := first | assumption | omega) only [sm_add, sm_mul, sm_le, sm_lt, sm_eq, sm_div, sm_sub, mx_le, mx_lt, mx_eq, xm_le, xm_lt, xm_eq, iz_le, iz_lt, iz_eq, nb0, nb1, Nat.zero_le, not_true_eq_false, not_false_eq_true, Nat.reduceEqDiff, Bool.false_eq_true, gF_wA, gF_wI, gI_wA, aln_wA, aln_wI, ckK_wA, ckK_wI, ldI_wA, stI_wA, pI_wA, om_some, jm_of, jm_to, jm_add, jm_mul, jm_div, jm_cmp, jm_sub, na_gF hN, na_gI hN, na_pI hN, na_aln hN, na_ck hN, na_ld hN, na_st hN, na_gF hB.1, na_gI hB.1, na_pI hB.1, na_aln hB.1, na_ck hB.1, na_ld hB.1, na_st hB.1, Nat.one_mul]))
        exact fin 1 (by omega) _ (by omega)
theorem cn_plus {P : List Nat} {σ : St} {a b x y : Nat} (hp : HP P σ) (hA : Nt σ a x) (hB : Nt σ b y) (haP : a ∈ P) (hab : b ≠ a) (hx : x < 1000000000 ^ 999) (hy : y < 1000000000 ^ 999) : Hx (fX3_plus σ a b) (fun σ' _ => cF P [a] 0 0 σ σ' ∧ Nt σ' a (x + y)) := by
  obtain ⟨l, n, w, hV⟩ := id hA
  obtain ⟨l2, n2, v, hB⟩ := hB
  have hn := hV.1.2.2.2.2
  have hn2 := hB.1.2.2.2.2
  have hw1 := hV.2.2.1
  have hw2 := hB.2.2.1
  have hW1 : w ≤ 999 := bwid_le hV.2.2.2 hx
  have hW2 : v ≤ 999 := bwid_le hB.2.2.2 hy
  have hll : l2 ≠ l := by
    intro q
    refine hab ((hp.1.2 a hV.1.1).2 b hB.1.1 ?_)
    show sF σ (fid 7 0) b = sF σ (fid 7 0) a
    rw [hB.1.2.1, hV.1.2.1, q]
  have ez : ∀ k, 0 = bq (x + y) k - bq x k - bq y k ∨ k ≠ 0 := by
    intro k
    by_cases e : k = 0
    · refine Or.inl ?_
      rw [e, bq_0, bq_0, bq_0]
      omega
    · exact Or.inr e
  have e0 : bq (x + y) 0 - bq x 0 - bq y 0 = 0 := by
    rw [bq_0, bq_0, bq_0]
    omega
  have eW : (if w < v then nI v else nI w) = nI (if w < v then v else w) := by
    split <;> rfl
  rw [n_fX3_plus]
  (repeat (first | with_reducible refine hx_bs ?_ | with_reducible refine hx_cs ?_ | with_reducible refine hx_t ?_ | with_reducible refine hx_f ?_ | ((conv => arg 1; arg 1; simp (disch := first | assumption | omega) only [sm_add, sm_mul, sm_le, sm_lt, sm_eq, sm_div, sm_sub, mx_le, mx_lt, mx_eq, xm_le, xm_lt, xm_eq, iz_le, iz_lt, iz_eq, nb0, nb1, Nat.zero_le, not_true_eq_false, not_false_eq_true, Nat.reduceEqDiff, Bool.false_eq_true, gF_wA, gF_wI, gI_wA, aln_wA, aln_wI, ckK_wA, ckK_wI, ldI_wA, stI_wA, pI_wA, om_some, jm_of, jm_to, jm_add, jm_mul, jm_div, jm_cmp, jm_sub, na_gF hV.1, na_gI hV.1, na_pI hV.1, na_aln hV.1, na_ck hV.1, na_ld hV.1, na_st hV.1, na_gF hB.1, na_gI hB.1, na_pI hB.1, na_aln hB.1, na_ck hB.1, na_ld hB.1, na_st hB.1, hV.2.1.1, hB.2.1.1, eW]); first | with_reducible refine hx_bs ?_ | with_reducible refine hx_cs ?_ | with_reducible refine hx_t ?_ | with_reducible refine hx_f ?_ | with_reducible refine hx_nm ?_))); (try (conv => arg 1; arg 1; simp (disch := first | assumption | omega) only [sm_add, sm_mul, sm_le, sm_lt, sm_eq, sm_div, sm_sub, mx_le, mx_lt, mx_eq, xm_le, xm_lt, xm_eq, iz_le, iz_lt, iz_eq, nb0, nb1, Nat.zero_le, not_true_eq_false, not_false_eq_true, Nat.reduceEqDiff, Bool.false_eq_true, gF_wA, gF_wI, gI_wA, aln_wA, aln_wI, ckK_wA, ckK_wI, ldI_wA, stI_wA, pI_wA, om_some, jm_of, jm_to, jm_add, jm_mul, jm_div, jm_cmp, jm_sub, na_gF hV.1, na_gI hV.1, na_pI hV.1, na_aln hV.1, na_ck hV.1, na_ld hV.1, na_st hV.1, na_gF hB.1, na_gI hB.1, na_pI hB.1, na_aln hB.1, na_ck hB.1, na_ld hB.1, na_st hB.1, hV.2.1.1, hB.2.1.1, eW]))
  have hWl : (if w < v then v else w) ≤ 999 := by split <;> omega
  have hWw : w ≤ (if w < v then v else w) := by split <;> omega
  generalize hW : (if w < v then v else w) = W at *
  (repeat (first | with_reducible refine hx_bs ?_ | with_reducible refine hx_cs ?_ | with_reducible refine hx_t ?_ | with_reducible refine hx_f ?_ | ((conv => arg 1; arg 1; simp (disch := first | assumption | omega) only [sm_add, sm_mul, sm_le, sm_lt, sm_eq, sm_div, sm_sub, mx_le, mx_lt, mx_eq, xm_le, xm_lt, xm_eq, iz_le, iz_lt, iz_eq, nb0, nb1, Nat.zero_le, not_true_eq_false, not_false_eq_true, Nat.reduceEqDiff, Bool.false_eq_true, gF_wA, gF_wI, gI_wA, aln_wA, aln_wI, ckK_wA, ckK_wI, ldI_wA, stI_wA, pI_wA, om_some, jm_of, jm_to, jm_add, jm_mul, jm_div, jm_cmp, jm_sub, na_gF hV.1, na_gI hV.1, na_pI hV.1, na_aln hV.1, na_ck hV.1, na_ld hV.1, na_st hV.1, na_gF hB.1, na_gI hB.1, na_pI hB.1, na_aln hB.1, na_ck hB.1, na_ld hB.1, na_st hB.1]); first | with_reducible refine hx_bs ?_ | with_reducible refine hx_cs ?_ | with_reducible refine hx_t ?_ | with_reducible refine hx_f ?_ | with_reducible refine hx_nm ?_))); (try (conv => arg 1; arg 1; simp (disch := first | assumption | omega) only [sm_add, sm_mul, sm_le, sm_lt, sm_eq, sm_div, sm_sub, mx_le, mx_lt, mx_eq, xm_le, xm_lt, xm_eq, iz_le, iz_lt, iz_eq, nb0, nb1, Nat.zero_le, not_true_eq_false, not_false_eq_true, Nat.reduceEqDiff, Bool.false_eq_true, gF_wA, gF_wI, gI_wA, aln_wA, aln_wI, ckK_wA, ckK_wI, ldI_wA, stI_wA, pI_wA, om_some, jm_of, jm_to, jm_add, jm_mul, jm_div, jm_cmp, jm_sub, na_gF hV.1, na_gI hV.1, na_pI hV.1, na_aln hV.1, na_ck hV.1, na_ld hV.1, na_st hV.1, na_gF hB.1, na_gI hB.1, na_pI hB.1, na_aln hB.1, na_ck hB.1, na_ld hB.1, na_st hB.1]))
  refine Hx.cs (fun c => ?_) (fun c => ?_)
  · rw [n_fX3_plus_37]
    have := cn_plus_loop hab hll hW.symm c hV.2.1.2.2 hB.2.1.2.2 hw1 FU σ 0 hV.1 hV.2.1.1 hB (Nat.zero_le _) (by show W - 0 < 4294967296; omega) (fun i hi => absurd hi (Nat.not_lt_zero _)) (fun i _ hi => hV.2.1.2.1 i hi)
    rw [e0] at this
    refine Hx.mo this (fun σ' _ h => ?_)
    obtain ⟨h1, w', h2⟩ := h
    exact ⟨cF.nat hp hA hV.1 h1 h2, _, _, _, h2⟩
  · (repeat (first | with_reducible refine hx_bs ?_ | with_reducible refine hx_cs ?_ | with_reducible refine hx_t ?_ | with_reducible refine hx_f ?_ | ((conv => arg 1; arg 1; simp (disch := first | assumption | omega) only [sm_add, sm_mul, sm_le, sm_lt, sm_eq, sm_div, sm_sub, mx_le, mx_lt, mx_eq, xm_le, xm_lt, xm_eq, iz_le, iz_lt, iz_eq, nb0, nb1, Nat.zero_le, not_true_eq_false, not_false_eq_true, Nat.reduceEqDiff, Bool.false_eq_true, gF_wA, gF_wI, gI_wA, aln_wA, aln_wI, ckK_wA, ckK_wI, ldI_wA, stI_wA, pI_wA, om_some, jm_of, jm_to, jm_add, jm_mul, jm_div, jm_cmp, jm_sub, na_gF hV.1, na_gI hV.1, na_pI hV.1, na_aln hV.1, na_ck hV.1, na_ld hV.1, na_st hV.1, na_gF hB.1, na_gI hB.1, na_pI hB.1, na_aln hB.1, na_ck hB.1, na_ld hB.1, na_st hB.1]); first | with_reducible refine hx_bs ?_ | with_reducible refine hx_cs ?_ | with_reducible refine hx_t ?_ | with_reducible refine hx_f ?_ | with_reducible refine hx_nm ?_))); (try (conv => arg 1; arg 1; simp (disch := first | assumption | omega) only [sm_add, sm_mul, sm_le, sm_lt, sm_eq, sm_div, sm_sub, mx_le, mx_lt, mx_eq, xm_le, xm_lt, xm_eq, iz_le, iz_lt, iz_eq, nb0, nb1, Nat.zero_le, not_true_eq_false, not_false_eq_true, Nat.reduceEqDiff, Bool.false_eq_true, gF_wA, gF_wI, gI_wA, aln_wA, aln_wI, ckK_wA, ckK_wI, ldI_wA, stI_wA, pI_wA, om_some, jm_of, jm_to, jm_add, jm_mul, jm_div, jm_cmp, jm_sub, na_gF hV.1, na_gI hV.1, na_pI hV.1, na_aln hV.1, na_ck hV.1, na_ld hV.1, na_st hV.1, na_gF hB.1, na_gI hB.1, na_pI hB.1, na_aln hB.1, na_ck hB.1, na_ld hB.1, na_st hB.1]))
    obtain ⟨σ1, q1, q2, q3, q4, q5⟩ := cn_copy (m := W * 2 + 1) hp.1 hV.1 (by omega) (by omega)
    rw [q1]
    refine hx_cs ?_
    rw [q2]
    refine hx_bs ?_
    have hz : a < sz σ := hp.1.lt (by rw [hV.1.1]; omega)
    have es : sI (wF σ1 (fid 7 0) a (sz σ)) (fid 7 1) a = nI w := by
      rw [(q3.2.2.2.2.1 a (by omega)).1]
      exact hV.2.1.1
    have hl2 : l2 < sz σ := hp.1.lt (by rw [hB.1.2.2.1]; omega)
    rw [n_fX3_plus_37]
    have := cn_plus_loop hab (show l2 ≠ sz σ by omega) hW.symm (show W < W * 2 + 1 by omega) hV.2.1.2.2 hB.2.1.2.2 (by omega) FU _ 0 q4 es (q3.nv hp.1 hB hab) (Nat.zero_le _) (by show W - 0 < 4294967296; omega) (fun i hi => absurd hi (Nat.not_lt_zero _)) (fun i _ hi => (q5 i (by omega)).trans (hV.2.1.2.1 i hi))
    rw [e0] at this
    refine Hx.mo this (fun σ' _ h => ?_)
    obtain ⟨h1, w', h2⟩ := h
    exact ⟨cF.natG hp hA hV.1 haP (by omega) (by omega) aF.rf q3 h1 h2, _, _, _, h2⟩
theorem cn_minus_loop {a b l n l2 n2 w v x y : Nat} (hab : b ≠ a) (hll : l2 ≠ l) (hyx : y ≤ x) (hxw : x < 1000000000 ^ w) (hyv : y < 1000000000 ^ v) (hwn : w ≤ n) :
    ∀ (f : Nat) (σ : St) (k : Nat), NA σ a l n → sI σ (fid 7 1) a = nI w → Nv σ b l2 n2 v y → k ≤ w → w - k < f → (∀ i, i < k → sA σ l i = nI (bq (x - y) i % 1000000000)) → (∀ i, k ≤ i → i < w → sA σ l i = nI (bq x i % 1000000000)) →
    Hx (fX3_minus_4 f σ a b (nI (bq x k - bq y k - bq (x - y) k)) (nI k)) (fun σ' _ => aF a l σ σ' ∧ ∃ w', Nv σ' a l n w' (x - y)) := by
  intro f
  induction f with
  | zero => intro σ k _ _ _ _ h; omega
  | succ f ih =>
    intro σ k hN hs hB hk hf hd1 hd2
    have hn := hN.2.2.2.2
    have hn2 := hB.1.2.2.2.2
    have hvn := hB.2.2.1
    have q1 := bq_add_le (x - y) y k
    have q2 := bq_add_lt (x - y) y k
    rw [Nat.sub_add_cancel hyx] at q1 q2
    rw [n_fX3_minus_4]
    (repeat (first | with_reducible refine hx_bs ?_ | with_reducible refine hx_cs ?_ | with_reducible refine hx_t ?_ | with_reducible refine hx_f ?_ | ((conv => arg 1; arg 1; simp (disch := first | assumption | omega) only [sm_add, sm_mul, sm_le, sm_lt, sm_eq, sm_div, sm_sub, mx_le, mx_lt, mx_eq, xm_le, xm_lt, xm_eq, iz_le, iz_lt, iz_eq, nb0, nb1, Nat.zero_le, not_true_eq_false, not_false_eq_true, Nat.reduceEqDiff, Bool.false_eq_true, gF_wA, gF_wI, gI_wA, aln_wA, aln_wI, ckK_wA, ckK_wI, ldI_wA, stI_wA, pI_wA, om_some, jm_of, jm_to, jm_add, jm_mul, jm_div, jm_cmp, jm_sub, na_gF hN, na_gI hN, na_pI hN, na_aln hN, na_ck hN, na_ld hN, na_st hN, na_gF hB.1, na_gI hB.1, na_pI hB.1, na_aln hB.1, na_ck hB.1, na_ld hB.1, na_st hB.1, hs]); first | with_reducible refine hx_bs ?_ | with_reducible refine hx_cs ?_ | with_reducible refine hx_t ?_ | with_reducible refine hx_f ?_ | with_reducible refine hx_nm ?_))); (try (conv => arg 1; arg 1; simp (disch := first | assumption | omega) only [sm_add, sm_mul, sm_le, sm_lt, sm_eq, sm_div, sm_sub, mx_le, mx_lt, mx_eq, xm_le, xm_lt, xm_eq, iz_le, iz_lt, iz_eq, nb0, nb1, Nat.zero_le, not_true_eq_false, not_false_eq_true, Nat.reduceEqDiff, Bool.false_eq_true, gF_wA, gF_wI, gI_wA, aln_wA, aln_wI, ckK_wA, ckK_wI, ldI_wA, stI_wA, pI_wA, om_some, jm_of, jm_to, jm_add, jm_mul, jm_div, jm_cmp, jm_sub, na_gF hN, na_gI hN, na_pI hN, na_aln hN, na_ck hN, na_ld hN, na_st hN, na_gF hB.1, na_gI hB.1, na_pI hB.1, na_aln hB.1, na_ck hB.1, na_ld hB.1, na_st hB.1, hs]))
    refine Hx.cs (fun c => ?_) (fun c => ?_)
    · have e : k = w := by omega
      subst e
      (repeat (first | with_reducible refine hx_bs ?_ | with_reducible refine hx_cs ?_ | with_reducible refine hx_t ?_ | with_reducible refine hx_f ?_ | ((conv => arg 1; arg 1; simp (disch := first | assumption | omega) only [sm_add, sm_mul, sm_le, sm_lt, sm_eq, sm_div, sm_sub, mx_le, mx_lt, mx_eq, xm_le, xm_lt, xm_eq, iz_le, iz_lt, iz_eq, nb0, nb1, Nat.zero_le, not_true_eq_false, not_false_eq_true, Nat.reduceEqDiff, Bool.false_eq_true, gF_wA, gF_wI, gI_wA, aln_wA, aln_wI, ckK_wA, ckK_wI, ldI_wA, stI_wA, pI_wA, om_some, jm_of, jm_to, jm_add, jm_mul, jm_div, jm_cmp, jm_sub, na_gF hN, na_gI hN, na_pI hN, na_aln hN, na_ck hN, na_ld hN, na_st hN, na_gF hB.1, na_gI hB.1, na_pI hB.1, na_aln hB.1, na_ck hB.1, na_ld hB.1, na_st hB.1, hs]); first | with_reducible refine hx_bs ?_ | with_reducible refine hx_cs ?_ | with_reducible refine hx_t ?_ | with_reducible refine hx_f ?_ | with_reducible refine hx_nm ?_))); (try (conv => arg 1; arg 1; simp (disch := first | assumption | omega) only [sm_add, sm_mul, sm_le, sm_lt, sm_eq, sm_div, sm_sub, mx_le, mx_lt, mx_eq, xm_le, xm_lt, xm_eq, iz_le, iz_lt, iz_eq, nb0, nb1, Nat.zero_le, not_true_eq_false, not_false_eq_true, Nat.reduceEqDiff, Bool.false_eq_true, gF_wA, gF_wI, gI_wA, aln_wA, aln_wI, ckK_wA, ckK_wI, ldI_wA, stI_wA, pI_wA, om_some, jm_of, jm_to, jm_add, jm_mul, jm_div, jm_cmp, jm_sub, na_gF hN, na_gI hN, na_pI hN, na_aln hN, na_ck hN, na_ld hN, na_st hN, na_gF hB.1, na_gI hB.1, na_pI hB.1, na_aln hB.1, na_ck hB.1, na_ld hB.1, na_st hB.1, hs]))
      rw [n_fX3_trim]
      refine Hx.bd (cn_trim (x := x - y) FU _ k hN ⟨hs, hd1, by omega⟩ hwn (by show k < 4294967296; omega)) (fun σ' v h => ?_)
      exact Hx.ret ⟨h.1, h.2⟩
    · have hl1 := hd2 k (Nat.le_refl _) (by omega)
      have hl2 := cn_limbU (k := k) (i := 0) hB.1 hB.2.1.1 hvn (by omega) hyv (fun j _ hj => hB.2.1.2.1 j hj) (Nat.zero_le _)
      (repeat (first | with_reducible refine hx_bs ?_ | with_reducible refine hx_cs ?_ | with_reducible refine hx_t ?_ | with_reducible refine hx_f ?_ | ((conv => arg 1; arg 1; simp (disch := first | assumption | omega) only [sm_add, sm_mul, sm_le, sm_lt, sm_eq, sm_div, sm_sub, mx_le, mx_lt, mx_eq, xm_le, xm_lt, xm_eq, iz_le, iz_lt, iz_eq, nb0, nb1, Nat.zero_le, not_true_eq_false, not_false_eq_true, Nat.reduceEqDiff, Bool.false_eq_true, gF_wA, gF_wI, gI_wA, aln_wA, aln_wI, ckK_wA, ckK_wI, ldI_wA, stI_wA, pI_wA, om_some, jm_of, jm_to, jm_add, jm_mul, jm_div, jm_cmp, jm_sub, na_gF hN, na_gI hN, na_pI hN, na_aln hN, na_ck hN, na_ld hN, na_st hN, na_gF hB.1, na_gI hB.1, na_pI hB.1, na_aln hB.1, na_ck hB.1, na_ld hB.1, na_st hB.1, hl1, hl2]); first | with_reducible refine hx_bs ?_ | with_reducible refine hx_cs ?_ | with_reducible refine hx_t ?_ | with_reducible refine hx_f ?_ | with_reducible refine hx_nm ?_))); (try (conv => arg 1; arg 1; simp (disch := first | assumption | omega) only [sm_add, sm_mul, sm_le, sm_lt, sm_eq, sm_div, sm_sub, mx_le, mx_lt, mx_eq, xm_le, xm_lt, xm_eq, iz_le, iz_lt, iz_eq, nb0, nb1, Nat.zero_le, not_true_eq_false, not_false_eq_true, Nat.reduceEqDiff, Bool.false_eq_true, gF_wA, gF_wI, gI_wA, aln_wA, aln_wI, ckK_wA, ckK_wI, ldI_wA, stI_wA, pI_wA, om_some, jm_of, jm_to, jm_add, jm_mul, jm_div, jm_cmp, jm_sub, na_gF hN, na_gI hN, na_pI hN, na_aln hN, na_ck hN, na_ld hN, na_st hN, na_gF hB.1, na_gI hB.1, na_pI hB.1, na_aln hB.1, na_ck hB.1, na_ld hB.1, na_st hB.1, hl1, hl2]))
      have d1 := bp_dv x k
      have d2 := bp_dv y k
      have d3 := bp_dv (x - y) k
      have q3 := bq_add_le (x - y) y (k + 1)
      have q4 := bq_add_lt (x - y) y (k + 1)
      rw [Nat.sub_add_cancel hyx] at q3 q4
      have fin : ∀ c', c' = bq x (k + 1) - bq y (k + 1) - bq (x - y) (k + 1) → ∀ u : Int, u = ((bq (x - y) k % 1000000000 : Nat) : Int) → Hx (fX3_minus_4 f (wA σ l k (iz u)) a b (nI c') (nI (k + 1))) (fun σ' _ => aF a l σ σ' ∧ ∃ w', Nv σ' a l n w' (x - y)) := by
        intro c' hc' u hu
        rw [hc', hu, ← sm_iz]
        refine Hx.mo (ih _ (k + 1) hN hs (hB.af aF.wA hab hll) (by omega) (by omega) (fun i hi => ?_) (fun i h1 h2 => ?_)) (fun σ' _ h => ⟨aF.wA.tr h.1, h.2⟩)
        · rw [sA_wA_if]
          split
          · rename_i e; rw [e]
          · exact hd1 i (by omega)
        · rw [sA_wA_j (by omega)]
          exact hd2 i (by omega) h2
      have ee : nI (bq x k % 1000000000) - nI (bq y k % 1000000000) - nI (bq x k - bq y k - bq (x - y) k) = iz (((bq x k % 1000000000 : Nat) : Int) - ((bq y k % 1000000000 : Nat) : Int) - ((bq x k - bq y k - bq (x - y) k : Nat) : Int)) := by
        rw [sm_iz, sm_iz, sm_iz, iz_sub, iz_sub]
      refine hx_nm ?_
      rw [ee]
      refine Hx.cs (fun c2 => ?_) (fun c2 => ?_)
      · rw [show nI 0 = iz (0 : Int) from rfl, iz_le (by omega) (by omega) (by omega) (by omega)] at c2
        rw [n_fX3_minus_38]
        (repeat (first | with_reducible refine hx_bs ?_ | with_reducible refine hx_cs ?_ | with_reducible refine hx_t ?_ | with_reducible refine hx_f ?_ | ((conv => arg 1; arg 1; simp (disch := first | assumption | omega) only [sm_add, sm_mul, sm_le, sm_lt, sm_eq, sm_div, sm_sub, mx_le, mx_lt, mx_eq, xm_le, xm_lt, xm_eq, iz_le, iz_lt, iz_eq, nb0, nb1, Nat.zero_le, not_true_eq_false, not_false_eq_true, Nat.reduceEqDiff, Bool.false_eq_true, gF_wA, gF_wI, gI_wA, aln_wA, aln_wI, ckK_wA, ckK_wI, ldI_wA, stI_wA, pI_wA, om_some, jm_of, jm_to, jm_add, jm_mul, jm_div, jm_cmp, jm_sub, na_gF hN, na_gI hN, na_pI hN, na_aln hN, na_ck hN, na_ld hN, na_st hN, na_gF hB.1, na_gI hB.1, na_pI hB.1, na_aln hB.1, na_ck hB.1, na_ld hB.1, na_st hB.1]); first | with_reducible refine hx_bs ?_ | with_reducible refine hx_cs ?_ | with_reducible refine hx_t ?_ | with_reducible refine hx_f ?_ | with_reducible refine hx_nm ?_))); (try (conv => arg 1; arg 1; simp (disch := first | assumption | omega) only [sm_add, sm_mul, sm_le, sm_lt, sm_eq, sm_div, sm_sub, mx_le, mx_lt, mx_eq, xm_le, xm_lt, xm_eq, iz_le, iz_lt, iz_eq, nb0, nb1, Nat.zero_le, not_true_eq_false, not_false_eq_true, Nat.reduceEqDiff, Bool.false_eq_true, gF_wA, gF_wI, gI_wA, aln_wA, aln_wI, ckK_wA, ckK_wI, ldI_wA, stI_wA, pI_wA, om_some, jm_of, jm_to, jm_add, jm_mul, jm_div, jm_cmp, jm_sub, na_gF hN, na_gI hN, na_pI hN, na_aln hN, na_ck hN, na_ld hN, na_st hN, na_gF hB.1, na_gI hB.1, na_pI hB.1, na_aln hB.1, na_ck hB.1, na_ld hB.1, na_st hB.1]))
        rw [show nI 0 = iz (0 : Int) from rfl, iz_add]
        exact fin 0 (by omega) _ (by omega)
      · rw [show nI 0 = iz (0 : Int) from rfl, iz_le (by omega) (by omega) (by omega) (by omega)] at c2
        rw [n_fX3_minus_38]
        (repeat (first | with_reducible refine hx_bs ?_ | with_reducible refine hx_cs ?_ | with_reducible refine hx_t ?_ | with_reducible refine hx_f ?_ | ((conv => arg 1; arg 1; simp (disch := first | assumption | omega) only [sm_add, sm_mul, sm_le, sm_lt, sm_eq, sm_div, sm_sub, mx_le, mx_lt, mx_eq, xm_le, xm_lt, xm_eq, iz_le, iz_lt, iz_eq, nb0, nb1, Nat.zero_le, not_true_eq_false, not_false_eq_true, Nat.reduceEqDiff, Bool.false_eq_true, gF_wA, gF_wI, gI_wA, aln_wA, aln_wI, ckK_wA, ckK_wI, ldI_wA, stI_wA, pI_wA, om_some, jm_of, jm_to, jm_add, jm_mul, jm_div, jm_cmp, jm_sub, na_gF hN, na_gI hN, na_pI hN, na_aln hN, na_ck hN, na_ld hN, na_st hN, na_gF hB.1, na_gI hB.1, na_pI hB.1, na_aln hB.1, na_ck hB.1, na_ld hB.1, na_st hB.1]); first | with_reducible refine hx_bs ?_ | with_reducible refine hx_cs ?_ | with_reducible refine hx_t ?_ | with_reducible refine hx_f ?_ | with_reducible refine hx_nm ?_))); (try (conv => arg 1; arg 1; simp (disch := first | assumption | omega) only [sm_add, sm_mul, sm_le, sm_lt, sm_eq, sm_div, sm_sub, mx_le, mx_lt, mx_eq, xm_le, xm_lt, xm_eq, iz_le, iz_lt, iz_eq, nb0, nb1, Nat.zero_le, not_true_eq_false, not_false_eq_true, Nat.reduceEqDiff, Bool.false_eq_true, gF_wA, gF_wI, gI_wA, aln_wA, aln_wI, ckK_wA, ckK_wI, ldI_wA, stI_wA, pI_wA, om_some, jm_of, jm_to, jm_add, jm_mul, jm_div, jm_cmp, jm_sub, na_gF hN, na_gI hN, na_pI hN, na_aln hN, na_ck hN, na_ld hN, na_st hN, na_gF hB.1, na_gI hB.1, na_pI hB.1, na_aln hB.1, na_ck hB.1, na_ld hB.1, na_st hB.1]))
        rw [show nI 1000000000 = iz (1000000000 : Int) from rfl, iz_add]
        exact fin 1 (by omega) _ (by omega)
theorem cn_minus {P : List Nat} {σ : St} {a b x y : Nat} (hp : HP P σ) (hA : Nt σ a x) (hB : Nt σ b y) (hab : b ≠ a) (hyx : y ≤ x) : Hx (fX3_minus σ a b) (fun σ' _ => cF P [a] 0 0 σ σ' ∧ Nt σ' a (x - y)) := by
  obtain ⟨l, n, w, hV⟩ := id hA
  obtain ⟨l2, n2, v, hB⟩ := hB
  have hn := hV.1.2.2.2.2
  have hw1 := hV.2.2.1
  have hll : l2 ≠ l := by
    intro q
    refine hab ((hp.1.2 a hV.1.1).2 b hB.1.1 ?_)
    show sF σ (fid 7 0) b = sF σ (fid 7 0) a
    rw [hB.1.2.1, hV.1.2.1, q]
  have e0 : bq x 0 - bq y 0 - bq (x - y) 0 = 0 := by
    rw [bq_0, bq_0, bq_0]
    omega
  rw [n_fX3_minus]
  have := cn_minus_loop hab hll hyx hV.2.1.2.2 hB.2.1.2.2 hw1 FU σ 0 hV.1 hV.2.1.1 hB (Nat.zero_le _) (by show w - 0 < 4294967296; omega) (fun i hi => absurd hi (Nat.not_lt_zero _)) (fun i _ hi => hV.2.1.2.1 i hi)
  rw [e0] at this
  refine Hx.mo this (fun σ' _ h => ?_)
  obtain ⟨h1, w', h2⟩ := h
  exact ⟨cF.nat hp hA hV.1 h1 h2, _, _, _, h2⟩
theorem cn_mul_inner {t a b lt n la na l2 nb wa wb x y Z i : Nat} {Q : St → Unit → Prop} (K : St → Nat → Nat → Nat → Int32 → Int32 → Option (St × Unit)) (hta : a ≠ t) (htb : b ≠ t) (hla : la ≠ lt) (hlb : l2 ≠ lt) (hi : i < wa) (hW : wa + wb ≤ n) (hyb : y < 1000000000 ^ wb)
    (hZ : Z < 1000000000 ^ (i + wb)) (hT : Z + 1000000000 ^ i * (bq x i % 1000000000 * y) < 1000000000 ^ (i + wb + 1)) : ∀ (f : Nat) (σ : St) (k : Nat), NA σ t lt n → Nv σ a la na wa x → Nv σ b l2 nb wb y → k ≤ wb → wb - k < f →
    bq (Z + 1000000000 ^ i * (bq x i % 1000000000 * (y % 1000000000 ^ k))) (i + k) - bq Z (i + k) ≤ 999999999 →
    (∀ j, j < i + k → sA σ lt j = nI (bq (Z + 1000000000 ^ i * (bq x i % 1000000000 * (y % 1000000000 ^ k))) j % 1000000000)) → (∀ j, i + k ≤ j → j < wa + wb → sA σ lt j = nI (bq Z j % 1000000000)) →
    (∀ σ', aF t lt σ σ' → (∀ j, j < wa + wb → sA σ' lt j = nI (bq (Z + 1000000000 ^ i * (bq x i % 1000000000 * y)) j % 1000000000)) → Hx (K σ' t a b (nI (wa + wb)) (nI (i + 1))) Q) →
    Hx (fX3_setProduct_69 K f σ t a b (nI (wa + wb)) (nI i) (nJ (bq (Z + 1000000000 ^ i * (bq x i % 1000000000 * (y % 1000000000 ^ k))) (i + k) - bq Z (i + k))) (nI k)) Q := by
  intro f
  induction f with
  | zero => intro σ k _ _ _ _ h; omega
  | succ f ih =>
    intro σ k hN hA hB hk hf hw h1 h2 hK
    have hn := hN.2.2.2.2
    have hna := hA.1.2.2.2.2
    have hnb := hB.1.2.2.2.2
    have hwa := hA.2.2.1
    have hwb := hB.2.2.1
    have hTk : Z + 1000000000 ^ i * (bq x i % 1000000000 * (y % 1000000000 ^ k)) ≤ Z + 1000000000 ^ i * (bq x i % 1000000000 * y) := Nat.add_le_add_left (Nat.mul_le_mul_left _ (Nat.mul_le_mul_left _ (Nat.mod_le _ _))) _
    have eT : Z + 1000000000 ^ i * (bq x i % 1000000000 * (y % 1000000000 ^ (k + 1))) = (Z + 1000000000 ^ i * (bq x i % 1000000000 * (y % 1000000000 ^ k))) + 1000000000 ^ (i + k) * (bq x i % 1000000000 * (bq y k % 1000000000)) := by
      rw [mod_bp, Nat.mul_add, Nat.mul_add, Nat.pow_add, ← Nat.add_assoc]
      congr 1
      rw [Nat.mul_assoc, Nat.mul_left_comm (1000000000 ^ k)]
    have hdd : bq x i % 1000000000 * (bq y k % 1000000000) ≤ 999999999 * 999999999 := Nat.mul_le_mul (by omega) (by omega)
    have hZT : bq Z (i + k) ≤ bq (Z + 1000000000 ^ i * (bq x i % 1000000000 * (y % 1000000000 ^ k))) (i + k) := bq_mono _ (Nat.le_add_right _ _)
    have eTq := bq_add_mul (Z + 1000000000 ^ i * (bq x i % 1000000000 * (y % 1000000000 ^ k))) (bq x i % 1000000000 * (bq y k % 1000000000)) (i + k)
    have dZ := bp_dv Z (i + k)
    have dT := bp_dv (Z + 1000000000 ^ i * (bq x i % 1000000000 * (y % 1000000000 ^ (k + 1)))) (i + k)
    rw [eT, eTq] at dT
    have hlow : ∀ j, j < i + k → bq (Z + 1000000000 ^ i * (bq x i % 1000000000 * (y % 1000000000 ^ (k + 1)))) j % 1000000000 = bq (Z + 1000000000 ^ i * (bq x i % 1000000000 * (y % 1000000000 ^ k))) j % 1000000000 := fun j hj => by rw [eT]; exact bq_add_low hj
    rw [n_fX3_setProduct_69]
    (repeat (first | with_reducible refine hx_bs ?_ | with_reducible refine hx_cs ?_ | with_reducible refine hx_t ?_ | with_reducible refine hx_f ?_ | ((conv => arg 1; arg 1; simp (disch := first | assumption | omega) only [sm_add, sm_mul, sm_le, sm_lt, sm_eq, sm_div, sm_sub, mx_le, mx_lt, mx_eq, xm_le, xm_lt, xm_eq, iz_le, iz_lt, iz_eq, nb0, nb1, Nat.zero_le, not_true_eq_false, not_false_eq_true, Nat.reduceEqDiff, Bool.false_eq_true, gF_wA, gF_wI, gI_wA, aln_wA, aln_wI, ckK_wA, ckK_wI, ldI_wA, stI_wA, pI_wA, om_some, jm_of, jm_to, jm_add, jm_mul, jm_div, jm_cmp, jm_sub, na_gF hN, na_gI hN, na_pI hN, na_aln hN, na_ck hN, na_ld hN, na_st hN, na_gF hA.1, na_gI hA.1, na_pI hA.1, na_aln hA.1, na_ck hA.1, na_ld hA.1, na_st hA.1, na_gF hB.1, na_gI hB.1, na_pI hB.1, na_aln hB.1, na_ck hB.1, na_ld hB.1, na_st hB.1, hB.2.1.1]); first | with_reducible refine hx_bs ?_ | with_reducible refine hx_cs ?_ | with_reducible refine hx_t ?_ | with_reducible refine hx_f ?_ | with_reducible refine hx_nm ?_))); (try (conv => arg 1; arg 1; simp (disch := first | assumption | omega) only [sm_add, sm_mul, sm_le, sm_lt, sm_eq, sm_div, sm_sub, mx_le, mx_lt, mx_eq, xm_le, xm_lt, xm_eq, iz_le, iz_lt, iz_eq, nb0, nb1, Nat.zero_le, not_true_eq_false, not_false_eq_true, Nat.reduceEqDiff, Bool.false_eq_true, gF_wA, gF_wI, gI_wA, aln_wA, aln_wI, ckK_wA, ckK_wI, ldI_wA, stI_wA, pI_wA, om_some, jm_of, jm_to, jm_add, jm_mul, jm_div, jm_cmp, jm_sub, na_gF hN, na_gI hN, na_pI hN, na_aln hN, na_ck hN, na_ld hN, na_st hN, na_gF hA.1, na_gI hA.1, na_pI hA.1, na_aln hA.1, na_ck hA.1, na_ld hA.1, na_st hA.1, na_gF hB.1, na_gI hB.1, na_pI hB.1, na_aln hB.1, na_ck hB.1, na_ld hB.1, na_st hB.1, hB.2.1.1]))
    refine Hx.cs (fun c => ?_) (fun c => ?_)
    · have e : k = wb := by omega
      subst e
      rw [Nat.mod_eq_of_lt hyb] at hw h1 ⊢
      have e1 := bq_hi hZ (Nat.le_refl _)
      rw [e1] at hw ⊢
      (repeat (first | with_reducible refine hx_bs ?_ | with_reducible refine hx_cs ?_ | with_reducible refine hx_t ?_ | with_reducible refine hx_f ?_ | ((conv => arg 1; arg 1; simp (disch := first | assumption | omega) only [sm_add, sm_mul, sm_le, sm_lt, sm_eq, sm_div, sm_sub, mx_le, mx_lt, mx_eq, xm_le, xm_lt, xm_eq, iz_le, iz_lt, iz_eq, nb0, nb1, Nat.zero_le, not_true_eq_false, not_false_eq_true, Nat.reduceEqDiff, Bool.false_eq_true, gF_wA, gF_wI, gI_wA, aln_wA, aln_wI, ckK_wA, ckK_wI, ldI_wA, stI_wA, pI_wA, om_some, jm_of, jm_to, jm_add, jm_mul, jm_div, jm_cmp, jm_sub, na_gF hN, na_gI hN, na_pI hN, na_aln hN, na_ck hN, na_ld hN, na_st hN, na_gF hA.1, na_gI hA.1, na_pI hA.1, na_aln hA.1, na_ck hA.1, na_ld hA.1, na_st hA.1, na_gF hB.1, na_gI hB.1, na_pI hB.1, na_aln hB.1, na_ck hB.1, na_ld hB.1, na_st hB.1, hB.2.1.1]); first | with_reducible refine hx_bs ?_ | with_reducible refine hx_cs ?_ | with_reducible refine hx_t ?_ | with_reducible refine hx_f ?_ | with_reducible refine hx_nm ?_))); (try (conv => arg 1; arg 1; simp (disch := first | assumption | omega) only [sm_add, sm_mul, sm_le, sm_lt, sm_eq, sm_div, sm_sub, mx_le, mx_lt, mx_eq, xm_le, xm_lt, xm_eq, iz_le, iz_lt, iz_eq, nb0, nb1, Nat.zero_le, not_true_eq_false, not_false_eq_true, Nat.reduceEqDiff, Bool.false_eq_true, gF_wA, gF_wI, gI_wA, aln_wA, aln_wI, ckK_wA, ckK_wI, ldI_wA, stI_wA, pI_wA, om_some, jm_of, jm_to, jm_add, jm_mul, jm_div, jm_cmp, jm_sub, na_gF hN, na_gI hN, na_pI hN, na_aln hN, na_ck hN, na_ld hN, na_st hN, na_gF hA.1, na_gI hA.1, na_pI hA.1, na_aln hA.1, na_ck hA.1, na_ld hA.1, na_st hA.1, na_gF hB.1, na_gI hB.1, na_pI hB.1, na_aln hB.1, na_ck hB.1, na_ld hB.1, na_st hB.1, hB.2.1.1]))
      refine hK _ aF.wA (fun j hj => ?_)
      rw [sA_wA_if]
      split
      · rename_i e
        rw [e, Nat.sub_zero]
        exact congrArg nI (Nat.mod_eq_of_lt (by omega)).symm
      · by_cases hjk : j < i + k
        · exact h1 j hjk
        · rw [h2 j (by omega) hj, bq_hi hZ (by omega), bq_hi hT (by omega)]
    · have r1 := h2 (i + k) (Nat.le_refl _) (by omega)
      have r2 := hA.2.1.2.1 i hi
      have r3 := hB.2.1.2.1 k (by omega)
      (repeat (first | with_reducible refine hx_bs ?_ | with_reducible refine hx_cs ?_ | with_reducible refine hx_t ?_ | with_reducible refine hx_f ?_ | ((conv => arg 1; arg 1; simp (disch := first | assumption | omega) only [sm_add, sm_mul, sm_le, sm_lt, sm_eq, sm_div, sm_sub, mx_le, mx_lt, mx_eq, xm_le, xm_lt, xm_eq, iz_le, iz_lt, iz_eq, nb0, nb1, Nat.zero_le, not_true_eq_false, not_false_eq_true, Nat.reduceEqDiff, Bool.false_eq_true, gF_wA, gF_wI, gI_wA, aln_wA, aln_wI, ckK_wA, ckK_wI, ldI_wA, stI_wA, pI_wA, om_some, jm_of, jm_to, jm_add, jm_mul, jm_div, jm_cmp, jm_sub, na_gF hN, na_gI hN, na_pI hN, na_aln hN, na_ck hN, na_ld hN, na_st hN, na_gF hA.1, na_gI hA.1, na_pI hA.1, na_aln hA.1, na_ck hA.1, na_ld hA.1, na_st hA.1, na_gF hB.1, na_gI hB.1, na_pI hB.1, na_aln hB.1, na_ck hB.1, na_ld hB.1, na_st hB.1, hB.2.1.1, r1, r2, r3]); first | with_reducible refine hx_bs ?_ | with_reducible refine hx_cs ?_ | with_reducible refine hx_t ?_ | with_reducible refine hx_f ?_ | with_reducible refine hx_nm ?_))); (try (conv => arg 1; arg 1; simp (disch := first | assumption | omega) only [sm_add, sm_mul, sm_le, sm_lt, sm_eq, sm_div, sm_sub, mx_le, mx_lt, mx_eq, xm_le, xm_lt, xm_eq, iz_le, iz_lt, iz_eq, nb0, nb1, Nat.zero_le, not_true_eq_false, not_false_eq_true, Nat.reduceEqDiff, Bool.false_eq_true, gF_wA, gF_wI, gI_wA, aln_wA, aln_wI, ckK_wA, ckK_wI, ldI_wA, stI_wA, pI_wA, om_some, jm_of, jm_to, jm_add, jm_mul, jm_div, jm_cmp, jm_sub, na_gF hN, na_gI hN, na_pI hN, na_aln hN, na_ck hN, na_ld hN, na_st hN, na_gF hA.1, na_gI hA.1, na_pI hA.1, na_aln hA.1, na_ck hA.1, na_ld hA.1, na_st hA.1, na_gF hB.1, na_gI hB.1, na_pI hB.1, na_aln hB.1, na_ck hB.1, na_ld hB.1, na_st hB.1, hB.2.1.1, r1, r2, r3]))
      generalize hTk9 : bq (Z + 1000000000 ^ i * (bq x i % 1000000000 * (y % 1000000000 ^ k))) (i + k) = Tq at *
      generalize hZq9 : bq Z (i + k) = Zq at *
      generalize hdd9 : bq x i % 1000000000 * (bq y k % 1000000000) = dd at *
      have e3 : (Tq - Zq + (dd + Zq % 1000000000)) - (Tq - Zq + (dd + Zq % 1000000000)) / 1000000000 * 1000000000 = (Tq + dd) % 1000000000 := by omega
      have eo : (Tq - Zq + (dd + Zq % 1000000000)) / 1000000000 = bq (Z + 1000000000 ^ i * (bq x i % 1000000000 * (y % 1000000000 ^ (k + 1)))) (i + (k + 1)) - bq Z (i + (k + 1)) := by
        rw [show i + (k + 1) = i + k + 1 by omega, eT, dT, dZ]
        omega
      have hle : (Tq - Zq + (dd + Zq % 1000000000)) / 1000000000 ≤ 999999999 := by omega
      rw [e3]
      rw [eo] at hle ⊢
      refine ih _ (k + 1) hN (hA.af aF.wA hta hla) (hB.af aF.wA htb hlb) (by omega) (by omega) hle (fun j hj => ?_) (fun j hj hj2 => ?_) (fun σ' hR hU => hK σ' (aF.wA.tr hR) hU)
      · by_cases hjk : j = i + k
        · subst hjk
          rw [sA_wA_eq, eT, eTq]
        · rw [sA_wA_j hjk, hlow j (by omega)]
          exact h1 j (by omega)
      · rw [sA_wA_j (by omega)]
        exact h2 j (by omega) hj2
theorem cn_mul_outer {t a b lt n la na l2 nb wa wb x y : Nat} (hta : a ≠ t) (htb : b ≠ t) (hla : la ≠ lt) (hlb : l2 ≠ lt) (hW : wa + wb ≤ n) (hxa : x < 1000000000 ^ wa) (hyb : y < 1000000000 ^ wb) : ∀ (f : Nat) (σ : St) (i : Nat), NA σ t lt n → Nv σ a la na wa x → Nv σ b l2 nb wb y → i ≤ wa → wa - i < f →
    (∀ j, j < wa + wb → sA σ lt j = nI (bq (x % 1000000000 ^ i * y) j % 1000000000)) → Hx (fX3_setProduct_54 f σ t a b (nI (wa + wb)) (nI i)) (fun σ' _ => aF t lt σ σ' ∧ ∃ w', Nv σ' t lt n w' (x * y)) := by
  intro f
  induction f with
  | zero => intro σ i _ _ _ _ h; omega
  | succ f ih =>
    intro σ i hN hA hB hi hf hd
    have hn := hN.2.2.2.2
    have hna := hA.1.2.2.2.2
    have hnb := hB.1.2.2.2.2
    have hwa := hA.2.2.1
    have hwb := hB.2.2.1
    have hxy : x * y < 1000000000 ^ (wa + wb) := by
      rw [Nat.pow_add]
      exact Nat.mul_lt_mul'' hxa hyb
    rw [n_fX3_setProduct_54]
    (repeat (first | with_reducible refine hx_bs ?_ | with_reducible refine hx_cs ?_ | with_reducible refine hx_t ?_ | with_reducible refine hx_f ?_ | ((conv => arg 1; arg 1; simp (disch := first | assumption | omega) only [sm_add, sm_mul, sm_le, sm_lt, sm_eq, sm_div, sm_sub, mx_le, mx_lt, mx_eq, xm_le, xm_lt, xm_eq, iz_le, iz_lt, iz_eq, nb0, nb1, Nat.zero_le, not_true_eq_false, not_false_eq_true, Nat.reduceEqDiff, Bool.false_eq_true, gF_wA, gF_wI, gI_wA, aln_wA, aln_wI, ckK_wA, ckK_wI, ldI_wA, stI_wA, pI_wA, om_some, jm_of, jm_to, jm_add, jm_mul, jm_div, jm_cmp, jm_sub, na_gF hN, na_gI hN, na_pI hN, na_aln hN, na_ck hN, na_ld hN, na_st hN, na_gF hA.1, na_gI hA.1, na_pI hA.1, na_aln hA.1, na_ck hA.1, na_ld hA.1, na_st hA.1, na_gF hB.1, na_gI hB.1, na_pI hB.1, na_aln hB.1, na_ck hB.1, na_ld hB.1, na_st hB.1, hA.2.1.1]); first | with_reducible refine hx_bs ?_ | with_reducible refine hx_cs ?_ | with_reducible refine hx_t ?_ | with_reducible refine hx_f ?_ | with_reducible refine hx_nm ?_))); (try (conv => arg 1; arg 1; simp (disch := first | assumption | omega) only [sm_add, sm_mul, sm_le, sm_lt, sm_eq, sm_div, sm_sub, mx_le, mx_lt, mx_eq, xm_le, xm_lt, xm_eq, iz_le, iz_lt, iz_eq, nb0, nb1, Nat.zero_le, not_true_eq_false, not_false_eq_true, Nat.reduceEqDiff, Bool.false_eq_true, gF_wA, gF_wI, gI_wA, aln_wA, aln_wI, ckK_wA, ckK_wI, ldI_wA, stI_wA, pI_wA, om_some, jm_of, jm_to, jm_add, jm_mul, jm_div, jm_cmp, jm_sub, na_gF hN, na_gI hN, na_pI hN, na_aln hN, na_ck hN, na_ld hN, na_st hN, na_gF hA.1, na_gI hA.1, na_pI hA.1, na_aln hA.1, na_ck hA.1, na_ld hA.1, na_st hA.1, na_gF hB.1, na_gI hB.1, na_pI hB.1, na_aln hB.1, na_ck hB.1, na_ld hB.1, na_st hB.1, hA.2.1.1]))
    refine Hx.cs (fun c => ?_) (fun c => ?_)
    · have e : i = wa := by omega
      subst e
      rw [Nat.mod_eq_of_lt hxa] at hd
      (repeat (first | with_reducible refine hx_bs ?_ | with_reducible refine hx_cs ?_ | with_reducible refine hx_t ?_ | with_reducible refine hx_f ?_ | ((conv => arg 1; arg 1; simp (disch := first | assumption | omega) only [sm_add, sm_mul, sm_le, sm_lt, sm_eq, sm_div, sm_sub, mx_le, mx_lt, mx_eq, xm_le, xm_lt, xm_eq, iz_le, iz_lt, iz_eq, nb0, nb1, Nat.zero_le, not_true_eq_false, not_false_eq_true, Nat.reduceEqDiff, Bool.false_eq_true, gF_wA, gF_wI, gI_wA, aln_wA, aln_wI, ckK_wA, ckK_wI, ldI_wA, stI_wA, pI_wA, om_some, jm_of, jm_to, jm_add, jm_mul, jm_div, jm_cmp, jm_sub, na_gF hN, na_gI hN, na_pI hN, na_aln hN, na_ck hN, na_ld hN, na_st hN]); first | with_reducible refine hx_bs ?_ | with_reducible refine hx_cs ?_ | with_reducible refine hx_t ?_ | with_reducible refine hx_f ?_ | with_reducible refine hx_nm ?_))); (try (conv => arg 1; arg 1; simp (disch := first | assumption | omega) only [sm_add, sm_mul, sm_le, sm_lt, sm_eq, sm_div, sm_sub, mx_le, mx_lt, mx_eq, xm_le, xm_lt, xm_eq, iz_le, iz_lt, iz_eq, nb0, nb1, Nat.zero_le, not_true_eq_false, not_false_eq_true, Nat.reduceEqDiff, Bool.false_eq_true, gF_wA, gF_wI, gI_wA, aln_wA, aln_wI, ckK_wA, ckK_wI, ldI_wA, stI_wA, pI_wA, om_some, jm_of, jm_to, jm_add, jm_mul, jm_div, jm_cmp, jm_sub, na_gF hN, na_gI hN, na_pI hN, na_aln hN, na_ck hN, na_ld hN, na_st hN]))
      rw [n_fX3_trim]
      refine Hx.bd (cn_trim (x := x * y) FU _ (i + wb) hN ⟨sI_wI_eq, hd, hxy⟩ hW (by show i + wb < 4294967296; omega)) (fun σ' v h => ?_)
      exact Hx.ret ⟨aF.wI.tr h.1, h.2⟩
    · have e1 : x % 1000000000 ^ (i + 1) * y = x % 1000000000 ^ i * y + 1000000000 ^ i * (bq x i % 1000000000 * y) := by
        rw [mod_bp, Nat.add_mul, Nat.mul_assoc]
      have e0 : x % 1000000000 ^ i * y + 1000000000 ^ i * (bq x i % 1000000000 * (y % 1000000000 ^ 0)) = x % 1000000000 ^ i * y := by
        rw [Nat.pow_zero, Nat.mod_one, Nat.mul_zero, Nat.mul_zero, Nat.add_zero]
      have hZ : x % 1000000000 ^ i * y < 1000000000 ^ (i + wb) := by
        rw [Nat.pow_add]
        exact Nat.mul_lt_mul'' (Nat.mod_lt _ (bp_pos i)) hyb
      have hT : x % 1000000000 ^ i * y + 1000000000 ^ i * (bq x i % 1000000000 * y) < 1000000000 ^ (i + wb + 1) := by
        rw [← e1, show i + wb + 1 = (i + 1) + wb by omega, Nat.pow_add 1000000000 (i + 1) wb]
        exact Nat.mul_lt_mul'' (Nat.mod_lt _ (bp_pos (i + 1))) hyb
      have := cn_mul_inner (t := t) (a := a) (b := b) (lt := lt) (n := n) (x := x) (y := y) (Z := x % 1000000000 ^ i * y) (i := i) (Q := fun σ' _ => aF t lt σ σ' ∧ ∃ w', Nv σ' t lt n w' (x * y)) (fX3_setProduct_54 f) hta htb hla hlb (show i < wa by omega) hW hyb hZ hT FU σ 0 hN hA hB (Nat.zero_le _) (by show wb - 0 < 4294967296; omega)
        (by rw [e0, Nat.sub_self]; omega) (fun j hj => by rw [e0]; exact hd j (by omega)) (fun j _ hj => hd j hj)
        (fun σ' hR hU => Hx.mo (ih σ' (i + 1) (hN.af hR) (hA.af hR hta hla) (hB.af hR htb hlb) (by omega) (by omega) (fun j hj => by rw [e1]; exact hU j hj)) (fun σ2 _ h => ⟨hR.tr h.1, h.2⟩))
      rw [e0, Nat.sub_self] at this
      exact this
theorem cn_mul_clear {t a b lt n la na l2 nb wa wb x y : Nat} (hta : a ≠ t) (htb : b ≠ t) (hla : la ≠ lt) (hlb : l2 ≠ lt) (hW : wa + wb ≤ n) (hxa : x < 1000000000 ^ wa) (hyb : y < 1000000000 ^ wb) : ∀ (f : Nat) (σ : St) (k : Nat), NA σ t lt n → Nv σ a la na wa x → Nv σ b l2 nb wb y → k ≤ wa + wb → wa + wb - k < f →
    (∀ j, j < k → sA σ lt j = nI 0) → Hx (fX3_setProduct_31 f σ t a b (nI (wa + wb)) (nI k)) (fun σ' _ => aF t lt σ σ' ∧ ∃ w', Nv σ' t lt n w' (x * y)) := by
  intro f
  induction f with
  | zero => intro σ i _ _ _ _ h; omega
  | succ f ih =>
    intro σ k hN hA hB hk hf hd
    have hn := hN.2.2.2.2
    rw [n_fX3_setProduct_31]
    (repeat (first | with_reducible refine hx_bs ?_ | with_reducible refine hx_cs ?_ | with_reducible refine hx_t ?_ | with_reducible refine hx_f ?_ | ((conv => arg 1; arg 1; simp (disch := first | assumption | omega) only [sm_add, sm_mul, sm_le, sm_lt, sm_eq, sm_div, sm_sub, mx_le, mx_lt, mx_eq, xm_le, xm_lt, xm_eq, iz_le, iz_lt, iz_eq, nb0, nb1, Nat.zero_le, not_true_eq_false, not_false_eq_true, Nat.reduceEqDiff, Bool.false_eq_true, gF_wA, gF_wI, gI_wA, aln_wA, aln_wI, ckK_wA, ckK_wI, ldI_wA, stI_wA, pI_wA, om_some, jm_of, jm_to, jm_add, jm_mul, jm_div, jm_cmp, jm_sub, na_gF hN, na_gI hN, na_pI hN, na_aln hN, na_ck hN, na_ld hN, na_st hN, na_gF hA.1, na_gI hA.1, na_pI hA.1, na_aln hA.1, na_ck hA.1, na_ld hA.1, na_st hA.1, na_gF hB.1, na_gI hB.1, na_pI hB.1, na_aln hB.1, na_ck hB.1, na_ld hB.1, na_st hB.1]); first | with_reducible refine hx_bs ?_ | with_reducible refine hx_cs ?_ | with_reducible refine hx_t ?_ | with_reducible refine hx_f ?_ | with_reducible refine hx_nm ?_))); (try (conv => arg 1; arg 1; simp (disch := first | assumption | omega) only [sm_add, sm_mul, sm_le, sm_lt, sm_eq, sm_div, sm_sub, mx_le, mx_lt, mx_eq, xm_le, xm_lt, xm_eq, iz_le, iz_lt, iz_eq, nb0, nb1, Nat.zero_le, not_true_eq_false, not_false_eq_true, Nat.reduceEqDiff, Bool.false_eq_true, gF_wA, gF_wI, gI_wA, aln_wA, aln_wI, ckK_wA, ckK_wI, ldI_wA, stI_wA, pI_wA, om_some, jm_of, jm_to, jm_add, jm_mul, jm_div, jm_cmp, jm_sub, na_gF hN, na_gI hN, na_pI hN, na_aln hN, na_ck hN, na_ld hN, na_st hN, na_gF hA.1, na_gI hA.1, na_pI hA.1, na_aln hA.1, na_ck hA.1, na_ld hA.1, na_st hA.1, na_gF hB.1, na_gI hB.1, na_pI hB.1, na_aln hB.1, na_ck hB.1, na_ld hB.1, na_st hB.1]))
    refine Hx.cs (fun c => ?_) (fun c => ?_)
    · refine cn_mul_outer hta htb hla hlb hW hxa hyb FU σ 0 hN hA hB (Nat.zero_le _) (by show wa - 0 < 4294967296; omega) (fun j hj => ?_)
      rw [hd j (by omega), Nat.pow_zero, Nat.mod_one, Nat.zero_mul]
      show nI 0 = nI (0 / _ % _)
      rw [Nat.zero_div, Nat.zero_mod]
    · (repeat (first | with_reducible refine hx_bs ?_ | with_reducible refine hx_cs ?_ | with_reducible refine hx_t ?_ | with_reducible refine hx_f ?_ | ((conv => arg 1; arg 1; simp (disch := first | assumption | omega) only [sm_add, sm_mul, sm_le, sm_lt, sm_eq, sm_div, sm_sub, mx_le, mx_lt, mx_eq, xm_le, xm_lt, xm_eq, iz_le, iz_lt, iz_eq, nb0, nb1, Nat.zero_le, not_true_eq_false, not_false_eq_true, Nat.reduceEqDiff, Bool.false_eq_true, gF_wA, gF_wI, gI_wA, aln_wA, aln_wI, ckK_wA, ckK_wI, ldI_wA, stI_wA, pI_wA, om_some, jm_of, jm_to, jm_add, jm_mul, jm_div, jm_cmp, jm_sub, na_gF hN, na_gI hN, na_pI hN, na_aln hN, na_ck hN, na_ld hN, na_st hN]); first | with_reducible refine hx_bs ?_ | with_reducible refine hx_cs ?_ | with_reducible refine hx_t ?_ | with_reducible refine hx_f ?_ | with_reducible refine hx_nm ?_))); (try (conv => arg 1; arg 1; simp (disch := first | assumption | omega) only [sm_add, sm_mul, sm_le, sm_lt, sm_eq, sm_div, sm_sub, mx_le, mx_lt, mx_eq, xm_le, xm_lt, xm_eq, iz_le, iz_lt, iz_eq, nb0, nb1, Nat.zero_le, not_true_eq_false, not_false_eq_true, Nat.reduceEqDiff, Bool.false_eq_true, gF_wA, gF_wI, gI_wA, aln_wA, aln_wI, ckK_wA, ckK_wI, ldI_wA, stI_wA, pI_wA, om_some, jm_of, jm_to, jm_add, jm_mul, jm_div, jm_cmp, jm_sub, na_gF hN, na_gI hN, na_pI hN, na_aln hN, na_ck hN, na_ld hN, na_st hN]))
      refine Hx.mo (ih _ (k + 1) hN (hA.af aF.wA hta hla) (hB.af aF.wA htb hlb) (by omega) (by omega) (fun j hj => ?_)) (fun σ2 _ h => ⟨aF.wA.tr h.1, h.2⟩)
      rw [sA_wA_if]
      split
      · rfl
      · exact hd j (by omega)
theorem cn_setProduct {P : List Nat} {σ : St} {t a b x y z : Nat} (hp : HP P σ) (hT : Nt σ t z) (hA : Nt σ a x) (hB : Nt σ b y) (htP : t ∈ P) (hta : a ≠ t) (htb : b ≠ t) (hx : x < 1000000000 ^ 500) (hy : y < 1000000000 ^ 500) : Hx (fX3_setProduct σ t a b) (fun σ' _ => cF P [t] 0 0 σ σ' ∧ Nt σ' t (x * y)) := by
  obtain ⟨lt, n, w, hV⟩ := id hT
  obtain ⟨la, na, wa, hA⟩ := hA
  obtain ⟨l2, nb, wb, hB⟩ := hB
  have hn := hV.1.2.2.2.2
  have hna := hA.1.2.2.2.2
  have hnb := hB.1.2.2.2.2
  have hW1 : wa ≤ 500 := bwid_le hA.2.2.2 hx
  have hW2 : wb ≤ 500 := bwid_le hB.2.2.2 hy
  have hll : ∀ {b l2 n2 v y : Nat}, Nv σ b l2 n2 v y → b ≠ t → l2 ≠ lt := by
    intro b l2 n2 v y hB hab q
    refine hab ((hp.1.2 t hV.1.1).2 b hB.1.1 ?_)
    show sF σ (fid 7 0) b = sF σ (fid 7 0) t
    rw [hB.1.2.1, hV.1.2.1, q]
  rw [n_fX3_setProduct]
  (repeat (first | with_reducible refine hx_bs ?_ | with_reducible refine hx_cs ?_ | with_reducible refine hx_t ?_ | with_reducible refine hx_f ?_ | ((conv => arg 1; arg 1; simp (disch := first | assumption | omega) only [sm_add, sm_mul, sm_le, sm_lt, sm_eq, sm_div, sm_sub, mx_le, mx_lt, mx_eq, xm_le, xm_lt, xm_eq, iz_le, iz_lt, iz_eq, nb0, nb1, Nat.zero_le, not_true_eq_false, not_false_eq_true, Nat.reduceEqDiff, Bool.false_eq_true, gF_wA, gF_wI, gI_wA, aln_wA, aln_wI, ckK_wA, ckK_wI, ldI_wA, stI_wA, pI_wA, om_some, jm_of, jm_to, jm_add, jm_mul, jm_div, jm_cmp, jm_sub, na_gF hV.1, na_gI hV.1, na_pI hV.1, na_aln hV.1, na_ck hV.1, na_ld hV.1, na_st hV.1, na_gF hA.1, na_gI hA.1, na_pI hA.1, na_aln hA.1, na_ck hA.1, na_ld hA.1, na_st hA.1, na_gF hB.1, na_gI hB.1, na_pI hB.1, na_aln hB.1, na_ck hB.1, na_ld hB.1, na_st hB.1, hA.2.1.1, hB.2.1.1]); first | with_reducible refine hx_bs ?_ | with_reducible refine hx_cs ?_ | with_reducible refine hx_t ?_ | with_reducible refine hx_f ?_ | with_reducible refine hx_nm ?_))); (try (conv => arg 1; arg 1; simp (disch := first | assumption | omega) only [sm_add, sm_mul, sm_le, sm_lt, sm_eq, sm_div, sm_sub, mx_le, mx_lt, mx_eq, xm_le, xm_lt, xm_eq, iz_le, iz_lt, iz_eq, nb0, nb1, Nat.zero_le, not_true_eq_false, not_false_eq_true, Nat.reduceEqDiff, Bool.false_eq_true, gF_wA, gF_wI, gI_wA, aln_wA, aln_wI, ckK_wA, ckK_wI, ldI_wA, stI_wA, pI_wA, om_some, jm_of, jm_to, jm_add, jm_mul, jm_div, jm_cmp, jm_sub, na_gF hV.1, na_gI hV.1, na_pI hV.1, na_aln hV.1, na_ck hV.1, na_ld hV.1, na_st hV.1, na_gF hA.1, na_gI hA.1, na_pI hA.1, na_aln hA.1, na_ck hA.1, na_ld hA.1, na_st hA.1, na_gF hB.1, na_gI hB.1, na_pI hB.1, na_aln hB.1, na_ck hB.1, na_ld hB.1, na_st hB.1, hA.2.1.1, hB.2.1.1]))
  refine Hx.cs (fun c => ?_) (fun c => ?_)
  · rw [n_fX3_setProduct_28]
    refine Hx.mo (cn_mul_clear hta htb (hll hA hta) (hll hB htb) c hA.2.1.2.2 hB.2.1.2.2 FU σ 0 hV.1 hA hB (Nat.zero_le _) (by show wa + wb - 0 < 4294967296; omega) (fun i hi => absurd hi (Nat.not_lt_zero _))) (fun σ' _ h => ?_)
    obtain ⟨h1, w', h2⟩ := h
    exact ⟨cF.nat hp hT hV.1 h1 h2, _, _, _, h2⟩
  · (repeat (first | with_reducible refine hx_bs ?_ | with_reducible refine hx_cs ?_ | with_reducible refine hx_t ?_ | with_reducible refine hx_f ?_ | ((conv => arg 1; arg 1; simp (disch := first | assumption | omega) only [sm_add, sm_mul, sm_le, sm_lt, sm_eq, sm_div, sm_sub, mx_le, mx_lt, mx_eq, xm_le, xm_lt, xm_eq, iz_le, iz_lt, iz_eq, nb0, nb1, Nat.zero_le, not_true_eq_false, not_false_eq_true, Nat.reduceEqDiff, Bool.false_eq_true, gF_wA, gF_wI, gI_wA, aln_wA, aln_wI, ckK_wA, ckK_wI, ldI_wA, stI_wA, pI_wA, om_some, jm_of, jm_to, jm_add, jm_mul, jm_div, jm_cmp, jm_sub, na_gF hV.1, na_gI hV.1, na_pI hV.1, na_aln hV.1, na_ck hV.1, na_ld hV.1, na_st hV.1]); first | with_reducible refine hx_bs ?_ | with_reducible refine hx_cs ?_ | with_reducible refine hx_t ?_ | with_reducible refine hx_f ?_ | with_reducible refine hx_nm ?_))); (try (conv => arg 1; arg 1; simp (disch := first | assumption | omega) only [sm_add, sm_mul, sm_le, sm_lt, sm_eq, sm_div, sm_sub, mx_le, mx_lt, mx_eq, xm_le, xm_lt, xm_eq, iz_le, iz_lt, iz_eq, nb0, nb1, Nat.zero_le, not_true_eq_false, not_false_eq_true, Nat.reduceEqDiff, Bool.false_eq_true, gF_wA, gF_wI, gI_wA, aln_wA, aln_wI, ckK_wA, ckK_wI, ldI_wA, stI_wA, pI_wA, om_some, jm_of, jm_to, jm_add, jm_mul, jm_div, jm_cmp, jm_sub, na_gF hV.1, na_gI hV.1, na_pI hV.1, na_aln hV.1, na_ck hV.1, na_ld hV.1, na_st hV.1]))
    rw [nwA_ok (by omega)]
    obtain ⟨q1, q2, q3⟩ := cn_new (m := (wa + wb) * 2) hp.1 hV.1 (by omega) (by omega)
    refine hx_bs (hx_nm ?_)
    rw [q1]
    refine hx_bs ?_
    have hl1 : la < sz σ := hp.1.lt (by rw [hA.1.2.2.1]; omega)
    have hl2 : l2 < sz σ := hp.1.lt (by rw [hB.1.2.2.1]; omega)
    rw [n_fX3_setProduct_28]
    refine Hx.mo (cn_mul_clear hta htb (show la ≠ sz σ by omega) (show l2 ≠ sz σ by omega) (by omega) hA.2.1.2.2 hB.2.1.2.2 FU _ 0 q3 (q2.nv hp.1 hA hta) (q2.nv hp.1 hB htb) (Nat.zero_le _) (by show wa + wb - 0 < 4294967296; omega) (fun i hi => absurd hi (Nat.not_lt_zero _))) (fun σ' _ h => ?_)
    obtain ⟨h1, w', h2⟩ := h
    exact ⟨cF.natG hp hT hV.1 htP (by omega) (by omega) aF.rf q2 h1 h2, _, _, _, h2⟩
