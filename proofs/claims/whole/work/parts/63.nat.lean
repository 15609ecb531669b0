/-! ===== the class' Nat: reads, setTo, trim, setSmall, against ===== -/
theorem hx_eq {α : Type} {o : Option (St × α)} {σ : St} {v : α} (h : Hx o (fun σ' v' => σ' = σ ∧ v' = v)) : o = some (σ, v) := by
  obtain ⟨σ', v', h1, rfl, rfl⟩ := h
  exact h1
theorem Nv.w0 {σ : St} {a l n w x : Nat} (h : Nv σ a l n w x) : w = 0 ↔ x = 0 := by
  obtain ⟨_, ⟨_, _, h1⟩, _, h2⟩ := h
  constructor
  · intro e
    rw [e] at h1
    simp at h1
    exact h1
  · intro e
    rcases h2 with h2 | h2
    · exact h2
    · have := bp_pos (w - 1)
      omega
theorem Nv.wk {σ : St} {a l n w x : Nat} (h : Nv σ a l n w x) (k : Nat) : k < w ↔ 1000000000 ^ k ≤ x := by
  obtain ⟨_, ⟨_, _, h1⟩, _, h2⟩ := h
  constructor
  · intro e
    rcases h2 with h2 | h2
    · omega
    · exact Nat.le_trans (bp_mono (by omega)) h2
  · intro e
    apply Nat.lt_of_not_le
    intro q
    have := bp_mono q
    omega
theorem Nv.top {σ : St} {a l n w x : Nat} (h : Nv σ a l n (w + 1) x) : 0 < bq x w ∧ bq x w < 1000000000 := by
  obtain ⟨_, ⟨_, _, h1⟩, _, h2⟩ := h
  have e : 1000000000 ^ w ≤ x := by
    rcases h2 with h2 | h2
    · omega
    · exact h2
  have := bp_ge.mp e
  have h3 := bp_lt.mp h1
  rw [bp_dv] at h3
  omega
theorem Nv.inj {σ : St} {a l n w l' n' w' x y : Nat} (h : Nv σ a l n w x) (h' : Nv σ a l' n' w' y) : l' = l ∧ n' = n ∧ w' = w := by
  have e1 : l' = l := h'.1.2.1.symm.trans h.1.2.1
  have e2 : n' = n := by
    rw [← h.1.2.2.2.1, ← h'.1.2.2.2.1, e1]
  refine ⟨e1, e2, ?_⟩
  have q1 := h.2.2.1
  have q2 := h'.2.2.1
  have q3 := h.1.2.2.2.2
  exact sm_inj (by omega) (by omega) (h'.2.1.1.symm.trans h.2.1.1)
theorem bw2 : 1000000000 ^ 2 = 1000000000000000000 := rfl
theorem bw1 : 1000000000 ^ 1 = 1000000000 := rfl
theorem bw3 : 1000000000 ^ 3 = 1000000000000000000000000000 := rfl
theorem bw4 : 1000000000 ^ 4 = 1000000000000000000000000000000000000 := rfl
theorem cn_isZero {σ : St} {a x : Nat} (h : Nt σ a x) : fX3_isZero σ a = some (σ, nI (if x = 0 then 1 else 0)) := by
  obtain ⟨l, n, w, h⟩ := h
  have e := h.w0
  obtain ⟨hA, hU, hw, _⟩ := h
  have hn := hA.2.2.2.2
  apply hx_eq
  rw [n_fX3_isZero]
  (repeat (first | with_reducible refine hx_bs ?_ | with_reducible refine hx_cs ?_ | with_reducible refine hx_t ?_ | with_reducible refine hx_f ?_ | ((conv => arg 1; arg 1; simp (disch := first | assumption | omega) only [sm_add, sm_mul, sm_le, sm_lt, sm_eq, sm_div, sm_sub, mx_le, mx_lt, mx_eq, xm_le, xm_lt, xm_eq, iz_le, iz_lt, iz_eq, nb0, nb1, Nat.zero_le, not_true_eq_false, not_false_eq_true, Nat.reduceEqDiff, Bool.false_eq_true, gF_wA, gF_wI, gI_wA, aln_wA, aln_wI, ckK_wA, ckK_wI, ldI_wA, stI_wA, pI_wA, om_some, jm_of, jm_to, jm_add, jm_mul, jm_div, jm_cmp, jm_sub, na_gF hA, na_gI hA, na_pI hA, na_aln hA, na_ck hA, na_ld hA, na_st hA, hU.1]); first | with_reducible refine hx_bs ?_ | with_reducible refine hx_cs ?_ | with_reducible refine hx_t ?_ | with_reducible refine hx_f ?_ | with_reducible refine hx_nm ?_))); (try (conv => arg 1; arg 1; simp (disch := first | assumption | omega) only [sm_add, sm_mul, sm_le, sm_lt, sm_eq, sm_div, sm_sub, mx_le, mx_lt, mx_eq, xm_le, xm_lt, xm_eq, iz_le, iz_lt, iz_eq, nb0, nb1, Nat.zero_le, not_true_eq_false, not_false_eq_true, Nat.reduceEqDiff, Bool.false_eq_true, gF_wA, gF_wI, gI_wA, aln_wA, aln_wI, ckK_wA, ckK_wI, ldI_wA, stI_wA, pI_wA, om_some, jm_of, jm_to, jm_add, jm_mul, jm_div, jm_cmp, jm_sub, na_gF hA, na_gI hA, na_pI hA, na_aln hA, na_ck hA, na_ld hA, na_st hA, hU.1]))
  refine Hx.cs (fun c => Hx.ret ⟨rfl, ?_⟩) (fun c => Hx.ret ⟨rfl, ?_⟩)
  · rw [if_pos (e.mp c)]
  · rw [if_neg (fun q => c (e.mpr q))]
theorem cn_isLong {σ : St} {a x : Nat} (h : Nt σ a x) : fX3_isLong σ a = some (σ, nI (if x < 1000000000000000000 then 1 else 0)) := by
  obtain ⟨l, n, w, h⟩ := h
  have e := h.wk 2
  rw [bw2] at e
  obtain ⟨hA, hU, hw, _⟩ := h
  have hn := hA.2.2.2.2
  apply hx_eq
  rw [n_fX3_isLong]
  (repeat (first | with_reducible refine hx_bs ?_ | with_reducible refine hx_cs ?_ | with_reducible refine hx_t ?_ | with_reducible refine hx_f ?_ | ((conv => arg 1; arg 1; simp (disch := first | assumption | omega) only [sm_add, sm_mul, sm_le, sm_lt, sm_eq, sm_div, sm_sub, mx_le, mx_lt, mx_eq, xm_le, xm_lt, xm_eq, iz_le, iz_lt, iz_eq, nb0, nb1, Nat.zero_le, not_true_eq_false, not_false_eq_true, Nat.reduceEqDiff, Bool.false_eq_true, gF_wA, gF_wI, gI_wA, aln_wA, aln_wI, ckK_wA, ckK_wI, ldI_wA, stI_wA, pI_wA, om_some, jm_of, jm_to, jm_add, jm_mul, jm_div, jm_cmp, jm_sub, na_gF hA, na_gI hA, na_pI hA, na_aln hA, na_ck hA, na_ld hA, na_st hA, hU.1]); first | with_reducible refine hx_bs ?_ | with_reducible refine hx_cs ?_ | with_reducible refine hx_t ?_ | with_reducible refine hx_f ?_ | with_reducible refine hx_nm ?_))); (try (conv => arg 1; arg 1; simp (disch := first | assumption | omega) only [sm_add, sm_mul, sm_le, sm_lt, sm_eq, sm_div, sm_sub, mx_le, mx_lt, mx_eq, xm_le, xm_lt, xm_eq, iz_le, iz_lt, iz_eq, nb0, nb1, Nat.zero_le, not_true_eq_false, not_false_eq_true, Nat.reduceEqDiff, Bool.false_eq_true, gF_wA, gF_wI, gI_wA, aln_wA, aln_wI, ckK_wA, ckK_wI, ldI_wA, stI_wA, pI_wA, om_some, jm_of, jm_to, jm_add, jm_mul, jm_div, jm_cmp, jm_sub, na_gF hA, na_gI hA, na_pI hA, na_aln hA, na_ck hA, na_ld hA, na_st hA, hU.1]))
  refine Hx.cs (fun c => Hx.ret ⟨rfl, ?_⟩) (fun c => Hx.ret ⟨rfl, ?_⟩)
  · rw [if_neg (by omega)]
  · rw [if_pos (by omega)]
theorem cn_isOne {σ : St} {a x : Nat} (h : Nt σ a x) : fX3_isOne σ a = some (σ, nI (if x = 1 then 1 else 0)) := by
  obtain ⟨l, n, w, h⟩ := h
  have e := h.wk 1
  have e0 := h.wk 0
  rw [bw1] at e
  rw [Nat.pow_zero] at e0
  obtain ⟨hA, hU, hw, _⟩ := h
  have hn := hA.2.2.2.2
  apply hx_eq
  rw [n_fX3_isOne]
  (repeat (first | with_reducible refine hx_bs ?_ | with_reducible refine hx_cs ?_ | with_reducible refine hx_t ?_ | with_reducible refine hx_f ?_ | ((conv => arg 1; arg 1; simp (disch := first | assumption | omega) only [sm_add, sm_mul, sm_le, sm_lt, sm_eq, sm_div, sm_sub, mx_le, mx_lt, mx_eq, xm_le, xm_lt, xm_eq, iz_le, iz_lt, iz_eq, nb0, nb1, Nat.zero_le, not_true_eq_false, not_false_eq_true, Nat.reduceEqDiff, Bool.false_eq_true, gF_wA, gF_wI, gI_wA, aln_wA, aln_wI, ckK_wA, ckK_wI, ldI_wA, stI_wA, pI_wA, om_some, jm_of, jm_to, jm_add, jm_mul, jm_div, jm_cmp, jm_sub, na_gF hA, na_gI hA, na_pI hA, na_aln hA, na_ck hA, na_ld hA, na_st hA, hU.1]); first | with_reducible refine hx_bs ?_ | with_reducible refine hx_cs ?_ | with_reducible refine hx_t ?_ | with_reducible refine hx_f ?_ | with_reducible refine hx_nm ?_))); (try (conv => arg 1; arg 1; simp (disch := first | assumption | omega) only [sm_add, sm_mul, sm_le, sm_lt, sm_eq, sm_div, sm_sub, mx_le, mx_lt, mx_eq, xm_le, xm_lt, xm_eq, iz_le, iz_lt, iz_eq, nb0, nb1, Nat.zero_le, not_true_eq_false, not_false_eq_true, Nat.reduceEqDiff, Bool.false_eq_true, gF_wA, gF_wI, gI_wA, aln_wA, aln_wI, ckK_wA, ckK_wI, ldI_wA, stI_wA, pI_wA, om_some, jm_of, jm_to, jm_add, jm_mul, jm_div, jm_cmp, jm_sub, na_gF hA, na_gI hA, na_pI hA, na_aln hA, na_ck hA, na_ld hA, na_st hA, hU.1]))
  refine Hx.cs (fun c => ?_) (fun c => Hx.ret ⟨rfl, ?_⟩)
  · have hd := hU.2.1 0 (by omega)
    rw [bq_0, Nat.mod_eq_of_lt (by omega)] at hd
    (repeat (first | with_reducible refine hx_bs ?_ | with_reducible refine hx_cs ?_ | with_reducible refine hx_t ?_ | with_reducible refine hx_f ?_ | ((conv => arg 1; arg 1; simp (disch := first | assumption | omega) only [sm_add, sm_mul, sm_le, sm_lt, sm_eq, sm_div, sm_sub, mx_le, mx_lt, mx_eq, xm_le, xm_lt, xm_eq, iz_le, iz_lt, iz_eq, nb0, nb1, Nat.zero_le, not_true_eq_false, not_false_eq_true, Nat.reduceEqDiff, Bool.false_eq_true, gF_wA, gF_wI, gI_wA, aln_wA, aln_wI, ckK_wA, ckK_wI, ldI_wA, stI_wA, pI_wA, om_some, jm_of, jm_to, jm_add, jm_mul, jm_div, jm_cmp, jm_sub, na_gF hA, na_gI hA, na_pI hA, na_aln hA, na_ck hA, na_ld hA, na_st hA, hd]); first | with_reducible refine hx_bs ?_ | with_reducible refine hx_cs ?_ | with_reducible refine hx_t ?_ | with_reducible refine hx_f ?_ | with_reducible refine hx_nm ?_))); (try (conv => arg 1; arg 1; simp (disch := first | assumption | omega) only [sm_add, sm_mul, sm_le, sm_lt, sm_eq, sm_div, sm_sub, mx_le, mx_lt, mx_eq, xm_le, xm_lt, xm_eq, iz_le, iz_lt, iz_eq, nb0, nb1, Nat.zero_le, not_true_eq_false, not_false_eq_true, Nat.reduceEqDiff, Bool.false_eq_true, gF_wA, gF_wI, gI_wA, aln_wA, aln_wI, ckK_wA, ckK_wI, ldI_wA, stI_wA, pI_wA, om_some, jm_of, jm_to, jm_add, jm_mul, jm_div, jm_cmp, jm_sub, na_gF hA, na_gI hA, na_pI hA, na_aln hA, na_ck hA, na_ld hA, na_st hA, hd]))
    refine Hx.cs (fun c2 => Hx.ret ⟨rfl, ?_⟩) (fun c2 => Hx.ret ⟨rfl, ?_⟩)
    · rw [if_pos (by omega)]
    · rw [if_neg (by omega)]
  · rw [if_neg (by omega)]
theorem cn_fits {σ : St} {a x : Nat} (h : Nt σ a x) : fX3_fits σ a = some (σ, nI (if x < 1000000000000000000000000000000 then 1 else 0)) := by
  obtain ⟨l, n, w, h⟩ := h
  have e3 := h.wk 3
  have e4 := h.wk 4
  rw [bw3] at e3
  rw [bw4] at e4
  obtain ⟨hA, hU, hw, _⟩ := h
  have hn := hA.2.2.2.2
  apply hx_eq
  rw [n_fX3_fits]
  (repeat (first | with_reducible refine hx_bs ?_ | with_reducible refine hx_cs ?_ | with_reducible refine hx_t ?_ | with_reducible refine hx_f ?_ | rw [n_fX3_fits_28] | ((conv => arg 1; arg 1; simp (disch := first | assumption | omega) only [sm_add, sm_mul, sm_le, sm_lt, sm_eq, sm_div, sm_sub, mx_le, mx_lt, mx_eq, xm_le, xm_lt, xm_eq, iz_le, iz_lt, iz_eq, nb0, nb1, Nat.zero_le, not_true_eq_false, not_false_eq_true, Nat.reduceEqDiff, Bool.false_eq_true, gF_wA, gF_wI, gI_wA, aln_wA, aln_wI, ckK_wA, ckK_wI, ldI_wA, stI_wA, pI_wA, om_some, jm_of, jm_to, jm_add, jm_mul, jm_div, jm_cmp, jm_sub, na_gF hA, na_gI hA, na_pI hA, na_aln hA, na_ck hA, na_ld hA, na_st hA, hU.1]); first | with_reducible refine hx_bs ?_ | with_reducible refine hx_cs ?_ | with_reducible refine hx_t ?_ | with_reducible refine hx_f ?_ | with_reducible refine hx_nm ?_))); (try (conv => arg 1; arg 1; simp (disch := first | assumption | omega) only [sm_add, sm_mul, sm_le, sm_lt, sm_eq, sm_div, sm_sub, mx_le, mx_lt, mx_eq, xm_le, xm_lt, xm_eq, iz_le, iz_lt, iz_eq, nb0, nb1, Nat.zero_le, not_true_eq_false, not_false_eq_true, Nat.reduceEqDiff, Bool.false_eq_true, gF_wA, gF_wI, gI_wA, aln_wA, aln_wI, ckK_wA, ckK_wI, ldI_wA, stI_wA, pI_wA, om_some, jm_of, jm_to, jm_add, jm_mul, jm_div, jm_cmp, jm_sub, na_gF hA, na_gI hA, na_pI hA, na_aln hA, na_ck hA, na_ld hA, na_st hA, hU.1]))
  refine Hx.cs (fun c => ?_) (fun c => ?_)
  · (try rw [n_fX3_fits_28])
    exact Hx.ret ⟨rfl, by rw [if_pos (by omega)]⟩
  · (repeat (first | with_reducible refine hx_bs ?_ | with_reducible refine hx_cs ?_ | with_reducible refine hx_t ?_ | with_reducible refine hx_f ?_ | ((conv => arg 1; arg 1; simp (disch := first | assumption | omega) only [sm_add, sm_mul, sm_le, sm_lt, sm_eq, sm_div, sm_sub, mx_le, mx_lt, mx_eq, xm_le, xm_lt, xm_eq, iz_le, iz_lt, iz_eq, nb0, nb1, Nat.zero_le, not_true_eq_false, not_false_eq_true, Nat.reduceEqDiff, Bool.false_eq_true, gF_wA, gF_wI, gI_wA, aln_wA, aln_wI, ckK_wA, ckK_wI, ldI_wA, stI_wA, pI_wA, om_some, jm_of, jm_to, jm_add, jm_mul, jm_div, jm_cmp, jm_sub, na_gF hA, na_gI hA, na_pI hA, na_aln hA, na_ck hA, na_ld hA, na_st hA, hU.1]); first | with_reducible refine hx_bs ?_ | with_reducible refine hx_cs ?_ | with_reducible refine hx_t ?_ | with_reducible refine hx_f ?_ | with_reducible refine hx_nm ?_))); (try (conv => arg 1; arg 1; simp (disch := first | assumption | omega) only [sm_add, sm_mul, sm_le, sm_lt, sm_eq, sm_div, sm_sub, mx_le, mx_lt, mx_eq, xm_le, xm_lt, xm_eq, iz_le, iz_lt, iz_eq, nb0, nb1, Nat.zero_le, not_true_eq_false, not_false_eq_true, Nat.reduceEqDiff, Bool.false_eq_true, gF_wA, gF_wI, gI_wA, aln_wA, aln_wI, ckK_wA, ckK_wI, ldI_wA, stI_wA, pI_wA, om_some, jm_of, jm_to, jm_add, jm_mul, jm_div, jm_cmp, jm_sub, na_gF hA, na_gI hA, na_pI hA, na_aln hA, na_ck hA, na_ld hA, na_st hA, hU.1]))
    refine Hx.cs (fun c1 => ?_) (fun c1 => Hx.ret ⟨rfl, ?_⟩)
    · have hd := hU.2.1 3 (by omega)
      have hq : bq x 3 = x / 1000000000000000000000000000 := rfl
      rw [hq, Nat.mod_eq_of_lt (by omega)] at hd
      (repeat (first | with_reducible refine hx_bs ?_ | with_reducible refine hx_cs ?_ | with_reducible refine hx_t ?_ | with_reducible refine hx_f ?_ | ((conv => arg 1; arg 1; simp (disch := first | assumption | omega) only [sm_add, sm_mul, sm_le, sm_lt, sm_eq, sm_div, sm_sub, mx_le, mx_lt, mx_eq, xm_le, xm_lt, xm_eq, iz_le, iz_lt, iz_eq, nb0, nb1, Nat.zero_le, not_true_eq_false, not_false_eq_true, Nat.reduceEqDiff, Bool.false_eq_true, gF_wA, gF_wI, gI_wA, aln_wA, aln_wI, ckK_wA, ckK_wI, ldI_wA, stI_wA, pI_wA, om_some, jm_of, jm_to, jm_add, jm_mul, jm_div, jm_cmp, jm_sub, na_gF hA, na_gI hA, na_pI hA, na_aln hA, na_ck hA, na_ld hA, na_st hA, hd]); first | with_reducible refine hx_bs ?_ | with_reducible refine hx_cs ?_ | with_reducible refine hx_t ?_ | with_reducible refine hx_f ?_ | with_reducible refine hx_nm ?_))); (try (conv => arg 1; arg 1; simp (disch := first | assumption | omega) only [sm_add, sm_mul, sm_le, sm_lt, sm_eq, sm_div, sm_sub, mx_le, mx_lt, mx_eq, xm_le, xm_lt, xm_eq, iz_le, iz_lt, iz_eq, nb0, nb1, Nat.zero_le, not_true_eq_false, not_false_eq_true, Nat.reduceEqDiff, Bool.false_eq_true, gF_wA, gF_wI, gI_wA, aln_wA, aln_wI, ckK_wA, ckK_wI, ldI_wA, stI_wA, pI_wA, om_some, jm_of, jm_to, jm_add, jm_mul, jm_div, jm_cmp, jm_sub, na_gF hA, na_gI hA, na_pI hA, na_aln hA, na_ck hA, na_ld hA, na_st hA, hd]))
      refine Hx.cs (fun c2 => Hx.ret ⟨rfl, ?_⟩) (fun c2 => ?_)
      · rw [if_neg (by omega)]
      · (try rw [n_fX3_fits_28])
        exact Hx.ret ⟨rfl, by rw [if_pos (by omega)]⟩
    · rw [if_neg (by omega)]
theorem cn_limb {σ : St} {a x k : Nat} (h : Nt σ a x) (hk : k < 1000000) : fX3_limb σ a (nI k) = some (σ, nI (bq x k % 1000000000)) := by
  obtain ⟨l, n, w, h⟩ := h
  have e := h.wk k
  obtain ⟨hA, hU, hw, _⟩ := h
  have hn := hA.2.2.2.2
  apply hx_eq
  rw [n_fX3_limb]
  (repeat (first | with_reducible refine hx_bs ?_ | with_reducible refine hx_cs ?_ | with_reducible refine hx_t ?_ | with_reducible refine hx_f ?_ | ((conv => arg 1; arg 1; simp (disch := first | assumption | omega) only [sm_add, sm_mul, sm_le, sm_lt, sm_eq, sm_div, sm_sub, mx_le, mx_lt, mx_eq, xm_le, xm_lt, xm_eq, iz_le, iz_lt, iz_eq, nb0, nb1, Nat.zero_le, not_true_eq_false, not_false_eq_true, Nat.reduceEqDiff, Bool.false_eq_true, gF_wA, gF_wI, gI_wA, aln_wA, aln_wI, ckK_wA, ckK_wI, ldI_wA, stI_wA, pI_wA, om_some, jm_of, jm_to, jm_add, jm_mul, jm_div, jm_cmp, jm_sub, na_gF hA, na_gI hA, na_pI hA, na_aln hA, na_ck hA, na_ld hA, na_st hA, hU.1, show (k < 0) = False from by simp]); first | with_reducible refine hx_bs ?_ | with_reducible refine hx_cs ?_ | with_reducible refine hx_t ?_ | with_reducible refine hx_f ?_ | with_reducible refine hx_nm ?_))); (try (conv => arg 1; arg 1; simp (disch := first | assumption | omega) only [sm_add, sm_mul, sm_le, sm_lt, sm_eq, sm_div, sm_sub, mx_le, mx_lt, mx_eq, xm_le, xm_lt, xm_eq, iz_le, iz_lt, iz_eq, nb0, nb1, Nat.zero_le, not_true_eq_false, not_false_eq_true, Nat.reduceEqDiff, Bool.false_eq_true, gF_wA, gF_wI, gI_wA, aln_wA, aln_wI, ckK_wA, ckK_wI, ldI_wA, stI_wA, pI_wA, om_some, jm_of, jm_to, jm_add, jm_mul, jm_div, jm_cmp, jm_sub, na_gF hA, na_gI hA, na_pI hA, na_aln hA, na_ck hA, na_ld hA, na_st hA, hU.1, show (k < 0) = False from by simp]))
  refine Hx.cs (fun c => Hx.ret ⟨rfl, ?_⟩) (fun c => ?_)
  · rw [bp_lt.mp (by omega)]
  · have hd := hU.2.1 k (by omega)
    (repeat (first | with_reducible refine hx_bs ?_ | with_reducible refine hx_cs ?_ | with_reducible refine hx_t ?_ | with_reducible refine hx_f ?_ | ((conv => arg 1; arg 1; simp (disch := first | assumption | omega) only [sm_add, sm_mul, sm_le, sm_lt, sm_eq, sm_div, sm_sub, mx_le, mx_lt, mx_eq, xm_le, xm_lt, xm_eq, iz_le, iz_lt, iz_eq, nb0, nb1, Nat.zero_le, not_true_eq_false, not_false_eq_true, Nat.reduceEqDiff, Bool.false_eq_true, gF_wA, gF_wI, gI_wA, aln_wA, aln_wI, ckK_wA, ckK_wI, ldI_wA, stI_wA, pI_wA, om_some, jm_of, jm_to, jm_add, jm_mul, jm_div, jm_cmp, jm_sub, na_gF hA, na_gI hA, na_pI hA, na_aln hA, na_ck hA, na_ld hA, na_st hA, hd]); first | with_reducible refine hx_bs ?_ | with_reducible refine hx_cs ?_ | with_reducible refine hx_t ?_ | with_reducible refine hx_f ?_ | with_reducible refine hx_nm ?_))); (try (conv => arg 1; arg 1; simp (disch := first | assumption | omega) only [sm_add, sm_mul, sm_le, sm_lt, sm_eq, sm_div, sm_sub, mx_le, mx_lt, mx_eq, xm_le, xm_lt, xm_eq, iz_le, iz_lt, iz_eq, nb0, nb1, Nat.zero_le, not_true_eq_false, not_false_eq_true, Nat.reduceEqDiff, Bool.false_eq_true, gF_wA, gF_wI, gI_wA, aln_wA, aln_wI, ckK_wA, ckK_wI, ldI_wA, stI_wA, pI_wA, om_some, jm_of, jm_to, jm_add, jm_mul, jm_div, jm_cmp, jm_sub, na_gF hA, na_gI hA, na_pI hA, na_aln hA, na_ck hA, na_ld hA, na_st hA, hd]))
    exact Hx.ret ⟨rfl, rfl⟩
theorem cn_asLong {σ : St} {a x : Nat} (h : Nt σ a x) (hx : x < 1000000000000000000) : fX3_asLong σ a = some (σ, nJ x) := by
  obtain ⟨l, n, w, h⟩ := h
  have e0 := h.wk 0
  have e1 := h.wk 1
  have e2 := h.wk 2
  rw [bw2] at e2
  rw [bw1] at e1
  rw [Nat.pow_zero] at e0
  obtain ⟨hA, hU, hw, _⟩ := h
  have hn := hA.2.2.2.2
  apply hx_eq
  rw [n_fX3_asLong]
  (repeat (first | with_reducible refine hx_bs ?_ | with_reducible refine hx_cs ?_ | with_reducible refine hx_t ?_ | with_reducible refine hx_f ?_ | ((conv => arg 1; arg 1; simp (disch := first | assumption | omega) only [sm_add, sm_mul, sm_le, sm_lt, sm_eq, sm_div, sm_sub, mx_le, mx_lt, mx_eq, xm_le, xm_lt, xm_eq, iz_le, iz_lt, iz_eq, nb0, nb1, Nat.zero_le, not_true_eq_false, not_false_eq_true, Nat.reduceEqDiff, Bool.false_eq_true, gF_wA, gF_wI, gI_wA, aln_wA, aln_wI, ckK_wA, ckK_wI, ldI_wA, stI_wA, pI_wA, om_some, jm_of, jm_to, jm_add, jm_mul, jm_div, jm_cmp, jm_sub, na_gF hA, na_gI hA, na_pI hA, na_aln hA, na_ck hA, na_ld hA, na_st hA, hU.1]); first | with_reducible refine hx_bs ?_ | with_reducible refine hx_cs ?_ | with_reducible refine hx_t ?_ | with_reducible refine hx_f ?_ | with_reducible refine hx_nm ?_))); (try (conv => arg 1; arg 1; simp (disch := first | assumption | omega) only [sm_add, sm_mul, sm_le, sm_lt, sm_eq, sm_div, sm_sub, mx_le, mx_lt, mx_eq, xm_le, xm_lt, xm_eq, iz_le, iz_lt, iz_eq, nb0, nb1, Nat.zero_le, not_true_eq_false, not_false_eq_true, Nat.reduceEqDiff, Bool.false_eq_true, gF_wA, gF_wI, gI_wA, aln_wA, aln_wI, ckK_wA, ckK_wI, ldI_wA, stI_wA, pI_wA, om_some, jm_of, jm_to, jm_add, jm_mul, jm_div, jm_cmp, jm_sub, na_gF hA, na_gI hA, na_pI hA, na_aln hA, na_ck hA, na_ld hA, na_st hA, hU.1]))
  refine Hx.cs (fun c => ?_) (fun c => ?_)
  · rw [n_fX3_asLong_19]
    (repeat (first | with_reducible refine hx_bs ?_ | with_reducible refine hx_cs ?_ | with_reducible refine hx_t ?_ | with_reducible refine hx_f ?_ | ((conv => arg 1; arg 1; simp (disch := first | assumption | omega) only [sm_add, sm_mul, sm_le, sm_lt, sm_eq, sm_div, sm_sub, mx_le, mx_lt, mx_eq, xm_le, xm_lt, xm_eq, iz_le, iz_lt, iz_eq, nb0, nb1, Nat.zero_le, not_true_eq_false, not_false_eq_true, Nat.reduceEqDiff, Bool.false_eq_true, gF_wA, gF_wI, gI_wA, aln_wA, aln_wI, ckK_wA, ckK_wI, ldI_wA, stI_wA, pI_wA, om_some, jm_of, jm_to, jm_add, jm_mul, jm_div, jm_cmp, jm_sub, na_gF hA, na_gI hA, na_pI hA, na_aln hA, na_ck hA, na_ld hA, na_st hA, hU.1]); first | with_reducible refine hx_bs ?_ | with_reducible refine hx_cs ?_ | with_reducible refine hx_t ?_ | with_reducible refine hx_f ?_ | with_reducible refine hx_nm ?_))); (try (conv => arg 1; arg 1; simp (disch := first | assumption | omega) only [sm_add, sm_mul, sm_le, sm_lt, sm_eq, sm_div, sm_sub, mx_le, mx_lt, mx_eq, xm_le, xm_lt, xm_eq, iz_le, iz_lt, iz_eq, nb0, nb1, Nat.zero_le, not_true_eq_false, not_false_eq_true, Nat.reduceEqDiff, Bool.false_eq_true, gF_wA, gF_wI, gI_wA, aln_wA, aln_wI, ckK_wA, ckK_wI, ldI_wA, stI_wA, pI_wA, om_some, jm_of, jm_to, jm_add, jm_mul, jm_div, jm_cmp, jm_sub, na_gF hA, na_gI hA, na_pI hA, na_aln hA, na_ck hA, na_ld hA, na_st hA, hU.1]))
    refine Hx.cs (fun c2 => ?_) (fun c2 => ?_)
    · rw [n_fX3_asLong_42]
      (try simp (disch := first | assumption | omega) only [sm_add, sm_mul, sm_le, sm_lt, sm_eq, sm_div, sm_sub, mx_le, mx_lt, mx_eq, xm_le, xm_lt, xm_eq, iz_le, iz_lt, iz_eq, nb0, nb1, Nat.zero_le, not_true_eq_false, not_false_eq_true, Nat.reduceEqDiff, Bool.false_eq_true, gF_wA, gF_wI, gI_wA, aln_wA, aln_wI, ckK_wA, ckK_wI, ldI_wA, stI_wA, pI_wA, om_some, jm_of, jm_to, jm_add, jm_mul, jm_div, jm_cmp, jm_sub, na_gF hA, na_gI hA, na_pI hA, na_aln hA, na_ck hA, na_ld hA, na_st hA])
      exact Hx.ret ⟨rfl, congrArg nJ (by omega)⟩
    · have hd := hU.2.1 0 (by omega)
      rw [bq_0, Nat.mod_eq_of_lt (by omega)] at hd
      (repeat (first | with_reducible refine hx_bs ?_ | with_reducible refine hx_cs ?_ | with_reducible refine hx_t ?_ | with_reducible refine hx_f ?_ | rw [n_fX3_asLong_42] | ((conv => arg 1; arg 1; simp (disch := first | assumption | omega) only [sm_add, sm_mul, sm_le, sm_lt, sm_eq, sm_div, sm_sub, mx_le, mx_lt, mx_eq, xm_le, xm_lt, xm_eq, iz_le, iz_lt, iz_eq, nb0, nb1, Nat.zero_le, not_true_eq_false, not_false_eq_true, Nat.reduceEqDiff, Bool.false_eq_true, gF_wA, gF_wI, gI_wA, aln_wA, aln_wI, ckK_wA, ckK_wI, ldI_wA, stI_wA, pI_wA, om_some, jm_of, jm_to, jm_add, jm_mul, jm_div, jm_cmp, jm_sub, na_gF hA, na_gI hA, na_pI hA, na_aln hA, na_ck hA, na_ld hA, na_st hA, hd]); first | with_reducible refine hx_bs ?_ | with_reducible refine hx_cs ?_ | with_reducible refine hx_t ?_ | with_reducible refine hx_f ?_ | with_reducible refine hx_nm ?_))); (try (conv => arg 1; arg 1; simp (disch := first | assumption | omega) only [sm_add, sm_mul, sm_le, sm_lt, sm_eq, sm_div, sm_sub, mx_le, mx_lt, mx_eq, xm_le, xm_lt, xm_eq, iz_le, iz_lt, iz_eq, nb0, nb1, Nat.zero_le, not_true_eq_false, not_false_eq_true, Nat.reduceEqDiff, Bool.false_eq_true, gF_wA, gF_wI, gI_wA, aln_wA, aln_wI, ckK_wA, ckK_wI, ldI_wA, stI_wA, pI_wA, om_some, jm_of, jm_to, jm_add, jm_mul, jm_div, jm_cmp, jm_sub, na_gF hA, na_gI hA, na_pI hA, na_aln hA, na_ck hA, na_ld hA, na_st hA, hd]))
      (try simp (disch := first | assumption | omega) only [sm_add, sm_mul, sm_le, sm_lt, sm_eq, sm_div, sm_sub, mx_le, mx_lt, mx_eq, xm_le, xm_lt, xm_eq, iz_le, iz_lt, iz_eq, nb0, nb1, Nat.zero_le, not_true_eq_false, not_false_eq_true, Nat.reduceEqDiff, Bool.false_eq_true, gF_wA, gF_wI, gI_wA, aln_wA, aln_wI, ckK_wA, ckK_wI, ldI_wA, stI_wA, pI_wA, om_some, jm_of, jm_to, jm_add, jm_mul, jm_div, jm_cmp, jm_sub, na_gF hA, na_gI hA, na_pI hA, na_aln hA, na_ck hA, na_ld hA, na_st hA])
      exact Hx.ret ⟨rfl, congrArg nJ (by omega)⟩
  · have hd := hU.2.1 0 (by omega)
    rw [bq_0] at hd
    have hd1 := hU.2.1 1 (by omega)
    have hq : bq x 1 = x / 1000000000 := rfl
    rw [hq, Nat.mod_eq_of_lt (by omega)] at hd1
    (repeat (first | with_reducible refine hx_bs ?_ | with_reducible refine hx_cs ?_ | with_reducible refine hx_t ?_ | with_reducible refine hx_f ?_ | rw [n_fX3_asLong_19] | ((conv => arg 1; arg 1; simp (disch := first | assumption | omega) only [sm_add, sm_mul, sm_le, sm_lt, sm_eq, sm_div, sm_sub, mx_le, mx_lt, mx_eq, xm_le, xm_lt, xm_eq, iz_le, iz_lt, iz_eq, nb0, nb1, Nat.zero_le, not_true_eq_false, not_false_eq_true, Nat.reduceEqDiff, Bool.false_eq_true, gF_wA, gF_wI, gI_wA, aln_wA, aln_wI, ckK_wA, ckK_wI, ldI_wA, stI_wA, pI_wA, om_some, jm_of, jm_to, jm_add, jm_mul, jm_div, jm_cmp, jm_sub, na_gF hA, na_gI hA, na_pI hA, na_aln hA, na_ck hA, na_ld hA, na_st hA, hU.1, hd1]); first | with_reducible refine hx_bs ?_ | with_reducible refine hx_cs ?_ | with_reducible refine hx_t ?_ | with_reducible refine hx_f ?_ | with_reducible refine hx_nm ?_))); (try (conv => arg 1; arg 1; simp (disch := first | assumption | omega) only [sm_add, sm_mul, sm_le, sm_lt, sm_eq, sm_div, sm_sub, mx_le, mx_lt, mx_eq, xm_le, xm_lt, xm_eq, iz_le, iz_lt, iz_eq, nb0, nb1, Nat.zero_le, not_true_eq_false, not_false_eq_true, Nat.reduceEqDiff, Bool.false_eq_true, gF_wA, gF_wI, gI_wA, aln_wA, aln_wI, ckK_wA, ckK_wI, ldI_wA, stI_wA, pI_wA, om_some, jm_of, jm_to, jm_add, jm_mul, jm_div, jm_cmp, jm_sub, na_gF hA, na_gI hA, na_pI hA, na_aln hA, na_ck hA, na_ld hA, na_st hA, hU.1, hd1]))
    refine Hx.cs (fun c2 => by omega) (fun c2 => ?_)
    (repeat (first | with_reducible refine hx_bs ?_ | with_reducible refine hx_cs ?_ | with_reducible refine hx_t ?_ | with_reducible refine hx_f ?_ | rw [n_fX3_asLong_42] | ((conv => arg 1; arg 1; simp (disch := first | assumption | omega) only [sm_add, sm_mul, sm_le, sm_lt, sm_eq, sm_div, sm_sub, mx_le, mx_lt, mx_eq, xm_le, xm_lt, xm_eq, iz_le, iz_lt, iz_eq, nb0, nb1, Nat.zero_le, not_true_eq_false, not_false_eq_true, Nat.reduceEqDiff, Bool.false_eq_true, gF_wA, gF_wI, gI_wA, aln_wA, aln_wI, ckK_wA, ckK_wI, ldI_wA, stI_wA, pI_wA, om_some, jm_of, jm_to, jm_add, jm_mul, jm_div, jm_cmp, jm_sub, na_gF hA, na_gI hA, na_pI hA, na_aln hA, na_ck hA, na_ld hA, na_st hA, hd]); first | with_reducible refine hx_bs ?_ | with_reducible refine hx_cs ?_ | with_reducible refine hx_t ?_ | with_reducible refine hx_f ?_ | with_reducible refine hx_nm ?_))); (try (conv => arg 1; arg 1; simp (disch := first | assumption | omega) only [sm_add, sm_mul, sm_le, sm_lt, sm_eq, sm_div, sm_sub, mx_le, mx_lt, mx_eq, xm_le, xm_lt, xm_eq, iz_le, iz_lt, iz_eq, nb0, nb1, Nat.zero_le, not_true_eq_false, not_false_eq_true, Nat.reduceEqDiff, Bool.false_eq_true, gF_wA, gF_wI, gI_wA, aln_wA, aln_wI, ckK_wA, ckK_wI, ldI_wA, stI_wA, pI_wA, om_some, jm_of, jm_to, jm_add, jm_mul, jm_div, jm_cmp, jm_sub, na_gF hA, na_gI hA, na_pI hA, na_aln hA, na_ck hA, na_ld hA, na_st hA, hd]))
    (try simp (disch := first | assumption | omega) only [sm_add, sm_mul, sm_le, sm_lt, sm_eq, sm_div, sm_sub, mx_le, mx_lt, mx_eq, xm_le, xm_lt, xm_eq, iz_le, iz_lt, iz_eq, nb0, nb1, Nat.zero_le, not_true_eq_false, not_false_eq_true, Nat.reduceEqDiff, Bool.false_eq_true, gF_wA, gF_wI, gI_wA, aln_wA, aln_wI, ckK_wA, ckK_wI, ldI_wA, stI_wA, pI_wA, om_some, jm_of, jm_to, jm_add, jm_mul, jm_div, jm_cmp, jm_sub, na_gF hA, na_gI hA, na_pI hA, na_aln hA, na_ck hA, na_ld hA, na_st hA])
    exact Hx.ret ⟨rfl, congrArg nJ (by omega)⟩
theorem cn_setTo_loop {a b l n l2 n2 w x : Nat} (hwn : w ≤ n) (hab : a = b ∨ (a ≠ b ∧ l ≠ l2)) : ∀ (f : Nat) (σ : St) (k : Nat), NA σ a l n → Nv σ b l2 n2 w x → k ≤ w → w - k < f → (∀ i, i < k → sA σ l i = nI (bq x i % 1000000000)) →
    Hx (fX3_setTo_26 f σ a b (nI k)) (fun σ' _ => aF a l σ σ' ∧ Nv σ' a l n w x) := by
  intro f
  induction f with
  | zero => intro σ k _ _ _ h _; omega
  | succ f ih =>
    intro σ k hA hB hk hf hd
    have hn := hA.2.2.2.2
    have hn2 := hB.1.2.2.2.2
    have hw2 := hB.2.2.1
    rw [n_fX3_setTo_26]
    (repeat (first | with_reducible refine hx_bs ?_ | with_reducible refine hx_cs ?_ | with_reducible refine hx_t ?_ | with_reducible refine hx_f ?_ | ((conv => arg 1; arg 1; simp (disch := first | assumption | omega) only [sm_add, sm_mul, sm_le, sm_lt, sm_eq, sm_div, sm_sub, mx_le, mx_lt, mx_eq, xm_le, xm_lt, xm_eq, iz_le, iz_lt, iz_eq, nb0, nb1, Nat.zero_le, not_true_eq_false, not_false_eq_true, Nat.reduceEqDiff, Bool.false_eq_true, gF_wA, gF_wI, gI_wA, aln_wA, aln_wI, ckK_wA, ckK_wI, ldI_wA, stI_wA, pI_wA, om_some, jm_of, jm_to, jm_add, jm_mul, jm_div, jm_cmp, jm_sub, na_gF hA, na_gI hA, na_pI hA, na_aln hA, na_ck hA, na_ld hA, na_st hA, na_gF hB.1, na_gI hB.1, na_pI hB.1, na_aln hB.1, na_ck hB.1, na_ld hB.1, na_st hB.1, hB.2.1.1]); first | with_reducible refine hx_bs ?_ | with_reducible refine hx_cs ?_ | with_reducible refine hx_t ?_ | with_reducible refine hx_f ?_ | with_reducible refine hx_nm ?_))); (try (conv => arg 1; arg 1; simp (disch := first | assumption | omega) only [sm_add, sm_mul, sm_le, sm_lt, sm_eq, sm_div, sm_sub, mx_le, mx_lt, mx_eq, xm_le, xm_lt, xm_eq, iz_le, iz_lt, iz_eq, nb0, nb1, Nat.zero_le, not_true_eq_false, not_false_eq_true, Nat.reduceEqDiff, Bool.false_eq_true, gF_wA, gF_wI, gI_wA, aln_wA, aln_wI, ckK_wA, ckK_wI, ldI_wA, stI_wA, pI_wA, om_some, jm_of, jm_to, jm_add, jm_mul, jm_div, jm_cmp, jm_sub, na_gF hA, na_gI hA, na_pI hA, na_aln hA, na_ck hA, na_ld hA, na_st hA, na_gF hB.1, na_gI hB.1, na_pI hB.1, na_aln hB.1, na_ck hB.1, na_ld hB.1, na_st hB.1, hB.2.1.1]))
    refine Hx.cs (fun c => ?_) (fun c => ?_)
    · (repeat (first | with_reducible refine hx_bs ?_ | with_reducible refine hx_cs ?_ | with_reducible refine hx_t ?_ | with_reducible refine hx_f ?_ | ((conv => arg 1; arg 1; simp (disch := first | assumption | omega) only [sm_add, sm_mul, sm_le, sm_lt, sm_eq, sm_div, sm_sub, mx_le, mx_lt, mx_eq, xm_le, xm_lt, xm_eq, iz_le, iz_lt, iz_eq, nb0, nb1, Nat.zero_le, not_true_eq_false, not_false_eq_true, Nat.reduceEqDiff, Bool.false_eq_true, gF_wA, gF_wI, gI_wA, aln_wA, aln_wI, ckK_wA, ckK_wI, ldI_wA, stI_wA, pI_wA, om_some, jm_of, jm_to, jm_add, jm_mul, jm_div, jm_cmp, jm_sub, na_gF hA, na_gI hA, na_pI hA, na_aln hA, na_ck hA, na_ld hA, na_st hA, na_gF hB.1, na_gI hB.1, na_pI hB.1, na_aln hB.1, na_ck hB.1, na_ld hB.1, na_st hB.1, hB.2.1.1]); first | with_reducible refine hx_bs ?_ | with_reducible refine hx_cs ?_ | with_reducible refine hx_t ?_ | with_reducible refine hx_f ?_ | with_reducible refine hx_nm ?_))); (try (conv => arg 1; arg 1; simp (disch := first | assumption | omega) only [sm_add, sm_mul, sm_le, sm_lt, sm_eq, sm_div, sm_sub, mx_le, mx_lt, mx_eq, xm_le, xm_lt, xm_eq, iz_le, iz_lt, iz_eq, nb0, nb1, Nat.zero_le, not_true_eq_false, not_false_eq_true, Nat.reduceEqDiff, Bool.false_eq_true, gF_wA, gF_wI, gI_wA, aln_wA, aln_wI, ckK_wA, ckK_wI, ldI_wA, stI_wA, pI_wA, om_some, jm_of, jm_to, jm_add, jm_mul, jm_div, jm_cmp, jm_sub, na_gF hA, na_gI hA, na_pI hA, na_aln hA, na_ck hA, na_ld hA, na_st hA, na_gF hB.1, na_gI hB.1, na_pI hB.1, na_aln hB.1, na_ck hB.1, na_ld hB.1, na_st hB.1, hB.2.1.1]))
      have e : k = w := by omega
      refine Hx.ret ⟨aF.wI, hA, ⟨sI_wI_eq, fun i hi => hd i (by omega), hB.2.1.2.2⟩, hwn, hB.2.2.2⟩
    · (repeat (first | with_reducible refine hx_bs ?_ | with_reducible refine hx_cs ?_ | with_reducible refine hx_t ?_ | with_reducible refine hx_f ?_ | ((conv => arg 1; arg 1; simp (disch := first | assumption | omega) only [sm_add, sm_mul, sm_le, sm_lt, sm_eq, sm_div, sm_sub, mx_le, mx_lt, mx_eq, xm_le, xm_lt, xm_eq, iz_le, iz_lt, iz_eq, nb0, nb1, Nat.zero_le, not_true_eq_false, not_false_eq_true, Nat.reduceEqDiff, Bool.false_eq_true, gF_wA, gF_wI, gI_wA, aln_wA, aln_wI, ckK_wA, ckK_wI, ldI_wA, stI_wA, pI_wA, om_some, jm_of, jm_to, jm_add, jm_mul, jm_div, jm_cmp, jm_sub, na_gF hA, na_gI hA, na_pI hA, na_aln hA, na_ck hA, na_ld hA, na_st hA, na_gF hB.1, na_gI hB.1, na_pI hB.1, na_aln hB.1, na_ck hB.1, na_ld hB.1, na_st hB.1, hB.2.1.2.1 k (by omega)]); first | with_reducible refine hx_bs ?_ | with_reducible refine hx_cs ?_ | with_reducible refine hx_t ?_ | with_reducible refine hx_f ?_ | with_reducible refine hx_nm ?_))); (try (conv => arg 1; arg 1; simp (disch := first | assumption | omega) only [sm_add, sm_mul, sm_le, sm_lt, sm_eq, sm_div, sm_sub, mx_le, mx_lt, mx_eq, xm_le, xm_lt, xm_eq, iz_le, iz_lt, iz_eq, nb0, nb1, Nat.zero_le, not_true_eq_false, not_false_eq_true, Nat.reduceEqDiff, Bool.false_eq_true, gF_wA, gF_wI, gI_wA, aln_wA, aln_wI, ckK_wA, ckK_wI, ldI_wA, stI_wA, pI_wA, om_some, jm_of, jm_to, jm_add, jm_mul, jm_div, jm_cmp, jm_sub, na_gF hA, na_gI hA, na_pI hA, na_aln hA, na_ck hA, na_ld hA, na_st hA, na_gF hB.1, na_gI hB.1, na_pI hB.1, na_aln hB.1, na_ck hB.1, na_ld hB.1, na_st hB.1, hB.2.1.2.1 k (by omega)]))
      refine Hx.mo (ih _ (k + 1) hA ?_ (by omega) (by omega) ?_) (fun σ' _ h => ⟨aF.wA.tr h.1, h.2⟩)
      · rcases hab with rfl | ⟨h1, h2⟩
        · have hl : l2 = l := hB.1.2.1.symm.trans hA.2.1
          rw [hl] at hB ⊢
          refine ⟨hB.1, ⟨hB.2.1.1, fun i hi => ?_, hB.2.1.2.2⟩, hB.2.2⟩
          rw [sA_wA_if]
          split
          · rename_i e; rw [e]
          · exact hB.2.1.2.1 i hi
        · refine ⟨hB.1, ⟨hB.2.1.1, fun i hi => ?_, hB.2.1.2.2⟩, hB.2.2⟩
          rw [sA_wA_b (fun q => h2 q.symm)]
          exact hB.2.1.2.1 i hi
      · intro i hi
        rw [sA_wA_if]
        split
        · rename_i e; rw [e]
        · exact hd i (by omega)
theorem cn_trim {a l n x : Nat} : ∀ (f : Nat) (σ : St) (w : Nat), NA σ a l n → Nu σ a l w x → w ≤ n → w < f → Hx (fX3_trim_0 f σ a) (fun σ' _ => aF a l σ σ' ∧ ∃ w', Nv σ' a l n w' x) := by
  intro f
  induction f with
  | zero => intro σ w _ _ _ h; omega
  | succ f ih =>
    intro σ w hA hU hw hf
    have hn := hA.2.2.2.2
    rw [n_fX3_trim_0]
    (repeat (first | with_reducible refine hx_bs ?_ | with_reducible refine hx_cs ?_ | with_reducible refine hx_t ?_ | with_reducible refine hx_f ?_ | ((conv => arg 1; arg 1; simp (disch := first | assumption | omega) only [sm_add, sm_mul, sm_le, sm_lt, sm_eq, sm_div, sm_sub, mx_le, mx_lt, mx_eq, xm_le, xm_lt, xm_eq, iz_le, iz_lt, iz_eq, nb0, nb1, Nat.zero_le, not_true_eq_false, not_false_eq_true, Nat.reduceEqDiff, Bool.false_eq_true, gF_wA, gF_wI, gI_wA, aln_wA, aln_wI, ckK_wA, ckK_wI, ldI_wA, stI_wA, pI_wA, om_some, jm_of, jm_to, jm_add, jm_mul, jm_div, jm_cmp, jm_sub, na_gF hA, na_gI hA, na_pI hA, na_aln hA, na_ck hA, na_ld hA, na_st hA, hU.1]); first | with_reducible refine hx_bs ?_ | with_reducible refine hx_cs ?_ | with_reducible refine hx_t ?_ | with_reducible refine hx_f ?_ | with_reducible refine hx_nm ?_))); (try (conv => arg 1; arg 1; simp (disch := first | assumption | omega) only [sm_add, sm_mul, sm_le, sm_lt, sm_eq, sm_div, sm_sub, mx_le, mx_lt, mx_eq, xm_le, xm_lt, xm_eq, iz_le, iz_lt, iz_eq, nb0, nb1, Nat.zero_le, not_true_eq_false, not_false_eq_true, Nat.reduceEqDiff, Bool.false_eq_true, gF_wA, gF_wI, gI_wA, aln_wA, aln_wI, ckK_wA, ckK_wI, ldI_wA, stI_wA, pI_wA, om_some, jm_of, jm_to, jm_add, jm_mul, jm_div, jm_cmp, jm_sub, na_gF hA, na_gI hA, na_pI hA, na_aln hA, na_ck hA, na_ld hA, na_st hA, hU.1]))
    refine Hx.cs (fun c => Hx.ret ⟨aF.rf, w, hA, hU, hw, Or.inl (by omega)⟩) (fun c => ?_)
    have hd := hU.2.1 (w - 1) (by omega)
    (repeat (first | with_reducible refine hx_bs ?_ | with_reducible refine hx_cs ?_ | with_reducible refine hx_t ?_ | with_reducible refine hx_f ?_ | ((conv => arg 1; arg 1; simp (disch := first | assumption | omega) only [sm_add, sm_mul, sm_le, sm_lt, sm_eq, sm_div, sm_sub, mx_le, mx_lt, mx_eq, xm_le, xm_lt, xm_eq, iz_le, iz_lt, iz_eq, nb0, nb1, Nat.zero_le, not_true_eq_false, not_false_eq_true, Nat.reduceEqDiff, Bool.false_eq_true, gF_wA, gF_wI, gI_wA, aln_wA, aln_wI, ckK_wA, ckK_wI, ldI_wA, stI_wA, pI_wA, om_some, jm_of, jm_to, jm_add, jm_mul, jm_div, jm_cmp, jm_sub, na_gF hA, na_gI hA, na_pI hA, na_aln hA, na_ck hA, na_ld hA, na_st hA, hU.1, hd]); first | with_reducible refine hx_bs ?_ | with_reducible refine hx_cs ?_ | with_reducible refine hx_t ?_ | with_reducible refine hx_f ?_ | with_reducible refine hx_nm ?_))); (try (conv => arg 1; arg 1; simp (disch := first | assumption | omega) only [sm_add, sm_mul, sm_le, sm_lt, sm_eq, sm_div, sm_sub, mx_le, mx_lt, mx_eq, xm_le, xm_lt, xm_eq, iz_le, iz_lt, iz_eq, nb0, nb1, Nat.zero_le, not_true_eq_false, not_false_eq_true, Nat.reduceEqDiff, Bool.false_eq_true, gF_wA, gF_wI, gI_wA, aln_wA, aln_wI, ckK_wA, ckK_wI, ldI_wA, stI_wA, pI_wA, om_some, jm_of, jm_to, jm_add, jm_mul, jm_div, jm_cmp, jm_sub, na_gF hA, na_gI hA, na_pI hA, na_aln hA, na_ck hA, na_ld hA, na_st hA, hU.1, hd]))
    have e1 : w - 1 + 1 = w := by omega
    have h2 := bp_lt.mp hU.2.2
    rw [← e1, bp_dv] at h2
    refine Hx.cs (fun c2 => ?_) (fun c2 => ?_)
    · (repeat (first | with_reducible refine hx_bs ?_ | with_reducible refine hx_cs ?_ | with_reducible refine hx_t ?_ | with_reducible refine hx_f ?_ | ((conv => arg 1; arg 1; simp (disch := first | assumption | omega) only [sm_add, sm_mul, sm_le, sm_lt, sm_eq, sm_div, sm_sub, mx_le, mx_lt, mx_eq, xm_le, xm_lt, xm_eq, iz_le, iz_lt, iz_eq, nb0, nb1, Nat.zero_le, not_true_eq_false, not_false_eq_true, Nat.reduceEqDiff, Bool.false_eq_true, gF_wA, gF_wI, gI_wA, aln_wA, aln_wI, ckK_wA, ckK_wI, ldI_wA, stI_wA, pI_wA, om_some, jm_of, jm_to, jm_add, jm_mul, jm_div, jm_cmp, jm_sub, na_gF hA, na_gI hA, na_pI hA, na_aln hA, na_ck hA, na_ld hA, na_st hA, hU.1]); first | with_reducible refine hx_bs ?_ | with_reducible refine hx_cs ?_ | with_reducible refine hx_t ?_ | with_reducible refine hx_f ?_ | with_reducible refine hx_nm ?_))); (try (conv => arg 1; arg 1; simp (disch := first | assumption | omega) only [sm_add, sm_mul, sm_le, sm_lt, sm_eq, sm_div, sm_sub, mx_le, mx_lt, mx_eq, xm_le, xm_lt, xm_eq, iz_le, iz_lt, iz_eq, nb0, nb1, Nat.zero_le, not_true_eq_false, not_false_eq_true, Nat.reduceEqDiff, Bool.false_eq_true, gF_wA, gF_wI, gI_wA, aln_wA, aln_wI, ckK_wA, ckK_wI, ldI_wA, stI_wA, pI_wA, om_some, jm_of, jm_to, jm_add, jm_mul, jm_div, jm_cmp, jm_sub, na_gF hA, na_gI hA, na_pI hA, na_aln hA, na_ck hA, na_ld hA, na_st hA, hU.1]))
      refine Hx.mo (ih _ (w - 1) hA ⟨sI_wI_eq, fun i hi => hU.2.1 i (by omega), bp_lt.mpr (by omega)⟩ (by omega) (by omega)) (fun σ' _ h => ⟨aF.wI.tr h.1, h.2⟩)
    · exact Hx.ret ⟨aF.rf, w, hA, hU, hw, Or.inr (bp_ge.mpr (by omega))⟩
theorem cn_ag_loop {σ : St} {a b l n l2 n2 w x y : Nat} (hA : Nv σ a l n w x) (hB : Nv σ b l2 n2 w y) : ∀ (i f : Nat), i ≤ w → i < f → bq x i = bq y i → fX3_against_35 f σ a b (iz ((i : Int) - 1)) = some (σ, iz (cmp3 x y)) := by
  intro i
  induction i with
  | zero =>
    intro f _ hf he
    obtain ⟨f, rfl⟩ : ∃ g, f = g + 1 := ⟨f - 1, by omega⟩
    rw [bq_0, bq_0] at he
    apply hx_eq
    rw [n_fX3_against_35]
    (repeat (first | with_reducible refine hx_bs ?_ | with_reducible refine hx_cs ?_ | with_reducible refine hx_t ?_ | with_reducible refine hx_f ?_ | ((conv => arg 1; arg 1; simp (disch := first | assumption | omega) only [sm_add, sm_mul, sm_le, sm_lt, sm_eq, sm_div, sm_sub, mx_le, mx_lt, mx_eq, xm_le, xm_lt, xm_eq, iz_le, iz_lt, iz_eq, nb0, nb1, Nat.zero_le, not_true_eq_false, not_false_eq_true, Nat.reduceEqDiff, Bool.false_eq_true, gF_wA, gF_wI, gI_wA, aln_wA, aln_wI, ckK_wA, ckK_wI, ldI_wA, stI_wA, pI_wA, om_some, jm_of, jm_to, jm_add, jm_mul, jm_div, jm_cmp, jm_sub, show ((0 : Nat) : Int) - 1 = -1 from rfl]); first | with_reducible refine hx_bs ?_ | with_reducible refine hx_cs ?_ | with_reducible refine hx_t ?_ | with_reducible refine hx_f ?_ | with_reducible refine hx_nm ?_))); (try (conv => arg 1; arg 1; simp (disch := first | assumption | omega) only [sm_add, sm_mul, sm_le, sm_lt, sm_eq, sm_div, sm_sub, mx_le, mx_lt, mx_eq, xm_le, xm_lt, xm_eq, iz_le, iz_lt, iz_eq, nb0, nb1, Nat.zero_le, not_true_eq_false, not_false_eq_true, Nat.reduceEqDiff, Bool.false_eq_true, gF_wA, gF_wI, gI_wA, aln_wA, aln_wI, ckK_wA, ckK_wI, ldI_wA, stI_wA, pI_wA, om_some, jm_of, jm_to, jm_add, jm_mul, jm_div, jm_cmp, jm_sub, show ((0 : Nat) : Int) - 1 = -1 from rfl]))
    rw [he]
    refine Hx.ret ⟨rfl, ?_⟩
    unfold cmp3
    rw [if_neg (by omega), if_pos rfl]
    rfl
  | succ i ih =>
    intro f hi hf he
    obtain ⟨f, rfl⟩ : ∃ g, f = g + 1 := ⟨f - 1, by omega⟩
    have hn := hA.1.2.2.2.2
    have hn2 := hB.1.2.2.2.2
    have hw1 := hA.2.2.1
    have hw2 := hB.2.2.1
    have hd := hA.2.1.2.1 i (by omega)
    have hd2 := hB.2.1.2.1 i (by omega)
    rw [bp_dv, bp_dv] at he
    have e1 : iz (((i + 1 : Nat) : Int) - 1) = nI i := by
      rw [sm_iz]
      congr 1
      omega
    apply hx_eq
    rw [n_fX3_against_35, e1]
    (repeat (first | with_reducible refine hx_bs ?_ | with_reducible refine hx_cs ?_ | with_reducible refine hx_t ?_ | with_reducible refine hx_f ?_ | ((conv => arg 1; arg 1; simp (disch := first | assumption | omega) only [sm_add, sm_mul, sm_le, sm_lt, sm_eq, sm_div, sm_sub, mx_le, mx_lt, mx_eq, xm_le, xm_lt, xm_eq, iz_le, iz_lt, iz_eq, nb0, nb1, Nat.zero_le, not_true_eq_false, not_false_eq_true, Nat.reduceEqDiff, Bool.false_eq_true, gF_wA, gF_wI, gI_wA, aln_wA, aln_wI, ckK_wA, ckK_wI, ldI_wA, stI_wA, pI_wA, om_some, jm_of, jm_to, jm_add, jm_mul, jm_div, jm_cmp, jm_sub, na_gF hA.1, na_gI hA.1, na_pI hA.1, na_aln hA.1, na_ck hA.1, na_ld hA.1, na_st hA.1, na_gF hB.1, na_gI hB.1, na_pI hB.1, na_aln hB.1, na_ck hB.1, na_ld hB.1, na_st hB.1, hd, hd2, show (i < 0) = False from by simp]); first | with_reducible refine hx_bs ?_ | with_reducible refine hx_cs ?_ | with_reducible refine hx_t ?_ | with_reducible refine hx_f ?_ | with_reducible refine hx_nm ?_))); (try (conv => arg 1; arg 1; simp (disch := first | assumption | omega) only [sm_add, sm_mul, sm_le, sm_lt, sm_eq, sm_div, sm_sub, mx_le, mx_lt, mx_eq, xm_le, xm_lt, xm_eq, iz_le, iz_lt, iz_eq, nb0, nb1, Nat.zero_le, not_true_eq_false, not_false_eq_true, Nat.reduceEqDiff, Bool.false_eq_true, gF_wA, gF_wI, gI_wA, aln_wA, aln_wI, ckK_wA, ckK_wI, ldI_wA, stI_wA, pI_wA, om_some, jm_of, jm_to, jm_add, jm_mul, jm_div, jm_cmp, jm_sub, na_gF hA.1, na_gI hA.1, na_pI hA.1, na_aln hA.1, na_ck hA.1, na_ld hA.1, na_st hA.1, na_gF hB.1, na_gI hB.1, na_pI hB.1, na_aln hB.1, na_ck hB.1, na_ld hB.1, na_st hB.1, hd, hd2, show (i < 0) = False from by simp]))
    refine Hx.cs (fun c => ?_) (fun c => ?_)
    · have e2 : nI i + iz (-1) = iz ((i : Int) - 1) := by
        rw [sm_iz, iz_add]
        rfl
      refine hx_nm ?_
      rw [e2, ih f (by omega) (by omega) (by omega)]
      exact Hx.ret ⟨rfl, rfl⟩
    · have hm1 := @bq_mono x y i
      have hm2 := @bq_mono y x i
      (repeat (first | with_reducible refine hx_bs ?_ | with_reducible refine hx_cs ?_ | with_reducible refine hx_t ?_ | with_reducible refine hx_f ?_ | ((conv => arg 1; arg 1; simp (disch := first | assumption | omega) only [sm_add, sm_mul, sm_le, sm_lt, sm_eq, sm_div, sm_sub, mx_le, mx_lt, mx_eq, xm_le, xm_lt, xm_eq, iz_le, iz_lt, iz_eq, nb0, nb1, Nat.zero_le, not_true_eq_false, not_false_eq_true, Nat.reduceEqDiff, Bool.false_eq_true, gF_wA, gF_wI, gI_wA, aln_wA, aln_wI, ckK_wA, ckK_wI, ldI_wA, stI_wA, pI_wA, om_some, jm_of, jm_to, jm_add, jm_mul, jm_div, jm_cmp, jm_sub, na_gF hA.1, na_gI hA.1, na_pI hA.1, na_aln hA.1, na_ck hA.1, na_ld hA.1, na_st hA.1, na_gF hB.1, na_gI hB.1, na_pI hB.1, na_aln hB.1, na_ck hB.1, na_ld hB.1, na_st hB.1, hd, hd2]); first | with_reducible refine hx_bs ?_ | with_reducible refine hx_cs ?_ | with_reducible refine hx_t ?_ | with_reducible refine hx_f ?_ | with_reducible refine hx_nm ?_))); (try (conv => arg 1; arg 1; simp (disch := first | assumption | omega) only [sm_add, sm_mul, sm_le, sm_lt, sm_eq, sm_div, sm_sub, mx_le, mx_lt, mx_eq, xm_le, xm_lt, xm_eq, iz_le, iz_lt, iz_eq, nb0, nb1, Nat.zero_le, not_true_eq_false, not_false_eq_true, Nat.reduceEqDiff, Bool.false_eq_true, gF_wA, gF_wI, gI_wA, aln_wA, aln_wI, ckK_wA, ckK_wI, ldI_wA, stI_wA, pI_wA, om_some, jm_of, jm_to, jm_add, jm_mul, jm_div, jm_cmp, jm_sub, na_gF hA.1, na_gI hA.1, na_pI hA.1, na_aln hA.1, na_ck hA.1, na_ld hA.1, na_st hA.1, na_gF hB.1, na_gI hB.1, na_pI hB.1, na_aln hB.1, na_ck hB.1, na_ld hB.1, na_st hB.1, hd, hd2]))
      refine Hx.cs (fun c2 => Hx.ret ⟨rfl, ?_⟩) (fun c2 => Hx.ret ⟨rfl, ?_⟩)
      · unfold cmp3
        have : y < x := by
          apply Nat.lt_of_not_le
          intro q
          have := hm1 q
          omega
        rw [if_neg (by omega), if_neg (by omega), sm_iz]
        rfl
      · unfold cmp3
        have : x < y := by
          apply Nat.lt_of_not_le
          intro q
          have := hm2 q
          omega
        rw [if_pos this]
theorem cn_against {σ : St} {a b x y : Nat} (hA : Nt σ a x) (hB : Nt σ b y) : fX3_against σ a b = some (σ, iz (cmp3 x y)) := by
  obtain ⟨l, n, w, hA⟩ := hA
  obtain ⟨l2, n2, w2, hB⟩ := hB
  have hn := hA.1.2.2.2.2
  have hn2 := hB.1.2.2.2.2
  have hw1 := hA.2.2.1
  have hw2 := hB.2.2.1
  apply hx_eq
  rw [n_fX3_against]
  (repeat (first | with_reducible refine hx_bs ?_ | with_reducible refine hx_cs ?_ | with_reducible refine hx_t ?_ | with_reducible refine hx_f ?_ | ((conv => arg 1; arg 1; simp (disch := first | assumption | omega) only [sm_add, sm_mul, sm_le, sm_lt, sm_eq, sm_div, sm_sub, mx_le, mx_lt, mx_eq, xm_le, xm_lt, xm_eq, iz_le, iz_lt, iz_eq, nb0, nb1, Nat.zero_le, not_true_eq_false, not_false_eq_true, Nat.reduceEqDiff, Bool.false_eq_true, gF_wA, gF_wI, gI_wA, aln_wA, aln_wI, ckK_wA, ckK_wI, ldI_wA, stI_wA, pI_wA, om_some, jm_of, jm_to, jm_add, jm_mul, jm_div, jm_cmp, jm_sub, na_gF hA.1, na_gI hA.1, na_pI hA.1, na_aln hA.1, na_ck hA.1, na_ld hA.1, na_st hA.1, na_gF hB.1, na_gI hB.1, na_pI hB.1, na_aln hB.1, na_ck hB.1, na_ld hB.1, na_st hB.1, hA.2.1.1, hB.2.1.1]); first | with_reducible refine hx_bs ?_ | with_reducible refine hx_cs ?_ | with_reducible refine hx_t ?_ | with_reducible refine hx_f ?_ | with_reducible refine hx_nm ?_))); (try (conv => arg 1; arg 1; simp (disch := first | assumption | omega) only [sm_add, sm_mul, sm_le, sm_lt, sm_eq, sm_div, sm_sub, mx_le, mx_lt, mx_eq, xm_le, xm_lt, xm_eq, iz_le, iz_lt, iz_eq, nb0, nb1, Nat.zero_le, not_true_eq_false, not_false_eq_true, Nat.reduceEqDiff, Bool.false_eq_true, gF_wA, gF_wI, gI_wA, aln_wA, aln_wI, ckK_wA, ckK_wI, ldI_wA, stI_wA, pI_wA, om_some, jm_of, jm_to, jm_add, jm_mul, jm_div, jm_cmp, jm_sub, na_gF hA.1, na_gI hA.1, na_pI hA.1, na_aln hA.1, na_ck hA.1, na_ld hA.1, na_st hA.1, na_gF hB.1, na_gI hB.1, na_pI hB.1, na_aln hB.1, na_ck hB.1, na_ld hB.1, na_st hB.1, hA.2.1.1, hB.2.1.1]))
  refine Hx.cs (fun c => ?_) (fun c => ?_)
  · subst c
    (repeat (first | with_reducible refine hx_bs ?_ | with_reducible refine hx_cs ?_ | with_reducible refine hx_t ?_ | with_reducible refine hx_f ?_ | ((conv => arg 1; arg 1; simp (disch := first | assumption | omega) only [sm_add, sm_mul, sm_le, sm_lt, sm_eq, sm_div, sm_sub, mx_le, mx_lt, mx_eq, xm_le, xm_lt, xm_eq, iz_le, iz_lt, iz_eq, nb0, nb1, Nat.zero_le, not_true_eq_false, not_false_eq_true, Nat.reduceEqDiff, Bool.false_eq_true, gF_wA, gF_wI, gI_wA, aln_wA, aln_wI, ckK_wA, ckK_wI, ldI_wA, stI_wA, pI_wA, om_some, jm_of, jm_to, jm_add, jm_mul, jm_div, jm_cmp, jm_sub, na_gF hA.1, na_gI hA.1, na_pI hA.1, na_aln hA.1, na_ck hA.1, na_ld hA.1, na_st hA.1, hA.2.1.1]); first | with_reducible refine hx_bs ?_ | with_reducible refine hx_cs ?_ | with_reducible refine hx_t ?_ | with_reducible refine hx_f ?_ | with_reducible refine hx_nm ?_))); (try (conv => arg 1; arg 1; simp (disch := first | assumption | omega) only [sm_add, sm_mul, sm_le, sm_lt, sm_eq, sm_div, sm_sub, mx_le, mx_lt, mx_eq, xm_le, xm_lt, xm_eq, iz_le, iz_lt, iz_eq, nb0, nb1, Nat.zero_le, not_true_eq_false, not_false_eq_true, Nat.reduceEqDiff, Bool.false_eq_true, gF_wA, gF_wI, gI_wA, aln_wA, aln_wI, ckK_wA, ckK_wI, ldI_wA, stI_wA, pI_wA, om_some, jm_of, jm_to, jm_add, jm_mul, jm_div, jm_cmp, jm_sub, na_gF hA.1, na_gI hA.1, na_pI hA.1, na_aln hA.1, na_ck hA.1, na_ld hA.1, na_st hA.1, hA.2.1.1]))
    have e1 : nI w - nI 1 = iz ((w : Int) - 1) := by
      rw [sm_iz, sm_iz, iz_sub]
      rfl
    rw [e1, cn_ag_loop hA hB w FU (Nat.le_refl _) (by show w < 4294967296; omega) (by rw [bp_lt.mp hA.2.1.2.2, bp_lt.mp hB.2.1.2.2])]
    exact Hx.ret ⟨rfl, rfl⟩
  · (repeat (first | with_reducible refine hx_bs ?_ | with_reducible refine hx_cs ?_ | with_reducible refine hx_t ?_ | with_reducible refine hx_f ?_ | ((conv => arg 1; arg 1; simp (disch := first | assumption | omega) only [sm_add, sm_mul, sm_le, sm_lt, sm_eq, sm_div, sm_sub, mx_le, mx_lt, mx_eq, xm_le, xm_lt, xm_eq, iz_le, iz_lt, iz_eq, nb0, nb1, Nat.zero_le, not_true_eq_false, not_false_eq_true, Nat.reduceEqDiff, Bool.false_eq_true, gF_wA, gF_wI, gI_wA, aln_wA, aln_wI, ckK_wA, ckK_wI, ldI_wA, stI_wA, pI_wA, om_some, jm_of, jm_to, jm_add, jm_mul, jm_div, jm_cmp, jm_sub, na_gF hA.1, na_gI hA.1, na_pI hA.1, na_aln hA.1, na_ck hA.1, na_ld hA.1, na_st hA.1, na_gF hB.1, na_gI hB.1, na_pI hB.1, na_aln hB.1, na_ck hB.1, na_ld hB.1, na_st hB.1, hA.2.1.1, hB.2.1.1]); first | with_reducible refine hx_bs ?_ | with_reducible refine hx_cs ?_ | with_reducible refine hx_t ?_ | with_reducible refine hx_f ?_ | with_reducible refine hx_nm ?_))); (try (conv => arg 1; arg 1; simp (disch := first | assumption | omega) only [sm_add, sm_mul, sm_le, sm_lt, sm_eq, sm_div, sm_sub, mx_le, mx_lt, mx_eq, xm_le, xm_lt, xm_eq, iz_le, iz_lt, iz_eq, nb0, nb1, Nat.zero_le, not_true_eq_false, not_false_eq_true, Nat.reduceEqDiff, Bool.false_eq_true, gF_wA, gF_wI, gI_wA, aln_wA, aln_wI, ckK_wA, ckK_wI, ldI_wA, stI_wA, pI_wA, om_some, jm_of, jm_to, jm_add, jm_mul, jm_div, jm_cmp, jm_sub, na_gF hA.1, na_gI hA.1, na_pI hA.1, na_aln hA.1, na_ck hA.1, na_ld hA.1, na_st hA.1, na_gF hB.1, na_gI hB.1, na_pI hB.1, na_aln hB.1, na_ck hB.1, na_ld hB.1, na_st hB.1, hA.2.1.1, hB.2.1.1]))
    refine Hx.cs (fun c2 => Hx.ret ⟨rfl, ?_⟩) (fun c2 => Hx.ret ⟨rfl, ?_⟩)
    · have h1 := (hA.wk w2).mp (by omega)
      have h2 := hB.2.1.2.2
      unfold cmp3
      rw [if_neg (by omega), if_neg (by omega), sm_iz]
      rfl
    · have h1 := (hB.wk w).mp (by omega)
      have h2 := hA.2.1.2.2
      unfold cmp3
      rw [if_pos (by omega)]
