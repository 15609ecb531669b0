theorem cr_fact_loop {x into M : Nat} (hI : into + 1 ∈ PX x) (hI3 : into + 3 ∈ PX x) (hix : x + 40 < into) (hM : M ≤ 100) : ∀ (f : Nat) (σ : St) (k : Nat), HP (PX x) σ → XS σ x → FS σ into → 2 ≤ k → k ≤ 102 → 103 - k < f → (k ≤ M + 1 ∨ k = 2 ∧ M ≤ 1) → Nt σ (into + 1) (fct (k - 1)) → sml (fct (k - 1)) 10 →
    Hx (fX5_factorial_41 f σ into (nI M) (nI k)) (fun σ' _ => cW x (s3 into (into + 1) (into + 3)) 0 0 σ σ' ∧ ∃ j, j ≤ 101 ∧ 1 ≤ j ∧ (j = M ∨ (j = 1 ∧ M ≤ 1) ∨ dig30 ≤ fct j ∧ j ≤ M) ∧ FX σ' into 1 (fct j) 1 ∧ sml (fct j) 10) := by
  have hfin : ∀ (σ : St) (v : Nat), HP (PX x) σ → FS σ into → Nt σ (into + 1) v → Hx (fX5_factorial_73 σ into) (fun σ' _ => cW x (s3 into (into + 1) (into + 3)) 0 0 σ σ' ∧ FX σ' into 1 v 1) := by
    intro σ v hp fsI hN
    obtain ⟨z, hZ⟩ := hp.2 _ hI3
    rw [n_fX5_factorial_73]
    simp only [fx_d fsI, sm_bind, fx_kd fsI]
    refine Hx.bd (cw_setSmall hp hZ (by omega)) (fun σ1 _ h => ?_)
    obtain ⟨hF1, hZ1⟩ := h
    have fs1 := fsI.kW hF1
    have k6 : sK σ1 into = 6 := fs1.1
    have hF2 := cWi (f := fid 5 0) (v := iz (1 : Int)) hF1.hp (show sK σ1 into ≠ 8 by omega) (show sK σ1 into ≠ 100 by omega)
    rw [show nI 1 = iz (1 : Int) from rfl, fx_p fs1]
    refine hx_bs (Hx.ret ⟨?_, fs1.kW hF2, SgI k6, (hN.kW hF1 (by simp only [s1]; omega)).kW hF2 (by simp only [s1]; omega), hZ1.kW hF2 (by simp only [s1]; omega)⟩)
    exact (hF1.mo (fun r _ hr => by simp only [s1, s3] at hr ⊢; omega) (Nat.le_refl _) (Nat.le_refl _)).tr0 hF2 (fun r _ hr => by simp only [s1, s3] at hr ⊢; omega)
  intro f
  induction f with
  | zero => intro σ k _ _ _ _ _ h; omega
  | succ f ih =>
    intro σ k hp hx fsI h2 hk hf hkM hN hb
    rw [n_fX5_factorial_41]
    refine Hx.cs (fun c => ?_) (fun c => ?_)
    · rw [sm_lt (by omega) (by omega)] at c
      refine Hx.mo (hfin σ _ hp fsI hN) (fun σ' _ h => ⟨h.1, k - 1, by omega, by omega, ?_, h.2, hb⟩)
      rcases hkM with h | h
      · exact Or.inl (by omega)
      · by_cases e : M = 1
        · exact Or.inl (by omega)
        · exact Or.inr (Or.inl ⟨by omega, by omega⟩)
    · rw [sm_lt (by omega) (by omega)] at c
      rw [fx_n fsI]
      refine hx_bs ?_
      rw [fx_kn fsI]
      refine hx_bs ?_
      rw [cn_fits hN]
      refine hx_cs (Hx.cs (fun c2 => ?_) (fun c2 => ?_))
      · rw [nb0, lit30] at c2
        exact Hx.mo (hfin σ _ hp fsI hN) (fun σ' _ h => ⟨h.1, k - 1, by omega, by omega, Or.inr (Or.inr ⟨by omega, by omega⟩), h.2, hb⟩)
      · rw [nb0, lit30] at c2
        have c2 := Classical.not_not.mp c2
        have hs := Nat.lt_trans c2 dig30_bp
        have e1 : fct (k - 1) * k + 0 = fct (k + 1 - 1) := by
          rw [show k + 1 - 1 = (k - 1) + 1 by omega, Nat.add_zero, Nat.mul_comm]
          show k * _ = (k - 1 + 1) * _
          rw [show k - 1 + 1 = k by omega]
        have hb2 : sml (fct (k - 1) * k + 0) 10 := by
          rw [Nat.add_zero]
          exact lt_bp (bp_mul hs (sml_lit (show k < 1000000000 by omega))) (by omega)
        rw [fx_n fsI]
        refine hx_bs ?_
        rw [fx_kn fsI]
        refine hx_bs ?_
        refine Hx.bd (cw_raise hp hN (show 1 ≤ k by omega) (by omega) (show 0 < 1000000000 by omega) (lt_bp hs (by omega)) (Or.inl hI)) (fun σ1 _ h => ?_)
        obtain ⟨hF1, hN1⟩ := h
        refine hx_nm ?_
        rw [sm_add]
        rw [e1] at hN1 hb2
        refine Hx.mo (ih σ1 (k + 1) hF1.hp (hx.kW hF1) (fsI.kW hF1) (by omega) (by omega) (by omega) (Or.inl (by omega)) hN1 hb2) (fun σ2 _ h => ⟨?_, h.2⟩)
        exact (hF1.mo (S' := s3 into (into + 1) (into + 3)) (fun r _ hr => by simp only [s1, s3] at hr ⊢; omega) (Nat.le_refl _) (Nat.le_refl _)).tr0 h.1 (fun r _ hr => hr)
theorem fct_mono {a b : Nat} (h : a ≤ b) : fct a ≤ fct b := by
  induction b with
  | zero =>
    obtain rfl : a = 0 := by omega
    exact Nat.le_refl _
  | succ b ih =>
    by_cases h9 : a = b + 1
    · subst h9; exact Nat.le_refl _
    · exact Nat.le_trans (ih (by omega)) (Nat.le_mul_of_pos_left _ (by omega))
theorem fct_28 : fct 28 < dig30 := by decide +kernel
theorem fct_29 : dig30 ≤ fct 29 := by decide +kernel
theorem cr_factorial {x a into n : Nat} {s : Int} {σ : St} (hp : HP (PX x) σ) (hx : XS σ x) (hA : FX σ a s n 1) (fsI : FS σ into) (hI : into + 1 ∈ PX x) (hI3 : into + 3 ∈ PX x) (hia : into ≠ a) (hax : x + 40 < a ∨ a + 3 < x + 19) (hix : x + 40 < into) (hn : n < dig30) :
    Hx (fX5_factorial σ (x + 18) a into) (fun σ' _ => cW x (sR x into) 0 0 σ σ' ∧ ∃ w, FX σ' into 1 w 1 ∧ sml (w) 10 ∧ (n ≤ 28 → w = fct n) ∧ (28 < n → dig30 ≤ w)) := by
  obtain ⟨fsA, sgA, hN, hD⟩ := hA
  have nea := fsI.ne fsA hia
  obtain ⟨z, hZ⟩ := hp.2 _ hI
  have hgo : ∀ M : Nat, M ≤ 100 → (n ≤ 100 → M = n) → (100 < n → M = 100) → Hx (fX5_factorial_29 σ into (nI M)) (fun σ' _ => cW x (sR x into) 0 0 σ σ' ∧ ∃ w, FX σ' into 1 w 1 ∧ sml (w) 10 ∧ (n ≤ 28 → w = fct n) ∧ (28 < n → dig30 ≤ w)) := by
    intro M hM h1 h2
    rw [n_fX5_factorial_29]
    simp only [fx_n fsI, sm_bind, fx_kn fsI]
    refine Hx.bd (cw_setSmall hp hZ (by omega)) (fun σ1 _ h => ?_)
    obtain ⟨hF1, hZ1⟩ := h
    refine Hx.mo (cr_fact_loop hI hI3 hix hM FU σ1 2 hF1.hp (hx.kW hF1) (fsI.kW hF1) (by omega) (by omega) (by show 103 - 2 < 4294967296; omega) (by omega) hZ1 (lt_bp (sml_lit (show 1 < 1000000000 by omega)) (by omega))) (fun σ2 _ h => ?_)
    obtain ⟨hF2, j, hj, hj1, hjM, hX, hb⟩ := h
    refine ⟨((hF1.mo (S' := sR x into) (fun r _ hr => by simp only [s1, sR] at hr ⊢; omega) (Nat.le_refl _) (Nat.le_refl _)).tr0 hF2 (fun r _ hr => by simp only [s3, sR] at hr ⊢; omega)), _, hX, hb, fun hn28 => ?_, fun hn28 => ?_⟩
    · have e := h1 (by omega)
      rcases hjM with h | h | h
      · rw [h, e]
      · obtain ⟨rfl, h9⟩ := h
        rw [e] at h9
        rcases (show n = 0 ∨ n = 1 by omega) with rfl | rfl <;> rfl
      · exfalso
        have := fct_mono (show j ≤ 28 by omega)
        have := fct_28
        omega
    · rcases hjM with h | h | h
      · refine Nat.le_trans fct_29 (fct_mono ?_)
        by_cases c : n ≤ 100
        · have := h1 c; omega
        · have := h2 (by omega); omega
      · exfalso
        by_cases c : n ≤ 100
        · have := h1 c; omega
        · have := h2 (by omega); omega
      · exact h.1
  obtain ⟨l, m, w, hV⟩ := id hN
  have hV1 := hV.wk 1
  rw [bw1] at hV1
  have hw := hV.2.2.1
  have hm := hV.1.2.2.2.2
  rw [n_fX5_factorial]
  simp only [fx_n fsA, sm_bind, na_gI hV.1, hV.2.1.1]
  refine Hx.cs (fun c => ?_) (fun c => ?_)
  · rw [sm_le (by omega) (by omega)] at c
    simp only [sm_bind, fx_kn fsA, cn_limb hN (show 0 < 1000000 by omega), sm_cb, bq_0]
    rw [Nat.mod_eq_of_lt (by omega)]
    by_cases c2 : 100 < n
    · rw [if_pos (by rw [sm_lt (by omega) (by omega)]; exact c2)]
      exact hgo 100 (by omega) (by omega) (fun _ => rfl)
    · rw [if_neg (by rw [sm_lt (by omega) (by omega)]; exact c2)]
      exact hgo n (by omega) (fun _ => rfl) (by omega)
  · rw [sm_le (by omega) (by omega)] at c
    exact hgo 100 (by omega) (by omega) (fun _ => rfl)
theorem cn_isMultiple {σ : St} {a y p : Nat} (h : Nt σ a y) (hp : p = 2 ∨ p = 5) : fX3_isMultiple σ a (nI p) = some (σ, nI (if y % p = 0 then 1 else 0)) := by
  obtain ⟨l, n, w, h⟩ := h
  have e := h.w0
  obtain ⟨hA, hU, hw, _⟩ := h
  have hn := hA.2.2.2.2
  have hd9 : ∀ d q : Nat, q = 2 ∨ q = 5 → d = y % 1000000000 → fX3_isMultiple_23 σ (nI d) (nI q) = some (σ, nI (if y % q = 0 then 1 else 0)) := by
    intro d q hq hd
    rw [n_fX3_isMultiple_23, ckD_ok (by omega) (by omega)]
    have hdb : d < 1000000000 := by omega
    simp only [sm_bind, sm_mod (show d < 2147483648 by omega) (show 0 < q by omega) (show q < 2147483648 by omega)]
    have hm : d % q = y % q := by
      rcases hq with rfl | rfl <;> omega
    rw [hm]
    have hlt : y % q < 5 := by
      rcases hq with rfl | rfl <;> omega
    by_cases c : y % q = 0
    · rw [if_pos (by rw [c]), if_pos c, n_fX3_isMultiple_27]
    · rw [if_neg (by rw [sm_eq (by omega) (by omega)]; exact c), if_neg c]
  apply hx_eq
  rw [n_fX3_isMultiple]
  (repeat (first | with_reducible refine hx_bs ?_ | with_reducible refine hx_cs ?_ | with_reducible refine hx_t ?_ | with_reducible refine hx_f ?_ | ((conv => arg 1; arg 1; simp (disch := first | assumption | omega) only [sm_add, sm_mul, sm_le, sm_lt, sm_eq, sm_div, sm_sub, mx_le, mx_lt, mx_eq, xm_le, xm_lt, xm_eq, iz_le, iz_lt, iz_eq, nb0, nb1, Nat.zero_le, not_true_eq_false, not_false_eq_true, Nat.reduceEqDiff, Bool.false_eq_true, gF_wA, gF_wI, gI_wA, aln_wA, aln_wI, ckK_wA, ckK_wI, ldI_wA, stI_wA, pI_wA, om_some, jm_of, jm_to, jm_add, jm_mul, jm_div, jm_cmp, jm_sub, na_gF hA, na_gI hA, na_pI hA, na_aln hA, na_ck hA, na_ld hA, na_st hA, hU.1]); first | with_reducible refine hx_bs ?_ | with_reducible refine hx_cs ?_ | with_reducible refine hx_t ?_ | with_reducible refine hx_f ?_ | with_reducible refine hx_nm ?_))); (try (conv => arg 1; arg 1; simp (disch := first | assumption | omega) only [sm_add, sm_mul, sm_le, sm_lt, sm_eq, sm_div, sm_sub, mx_le, mx_lt, mx_eq, xm_le, xm_lt, xm_eq, iz_le, iz_lt, iz_eq, nb0, nb1, Nat.zero_le, not_true_eq_false, not_false_eq_true, Nat.reduceEqDiff, Bool.false_eq_true, gF_wA, gF_wI, gI_wA, aln_wA, aln_wI, ckK_wA, ckK_wI, ldI_wA, stI_wA, pI_wA, om_some, jm_of, jm_to, jm_add, jm_mul, jm_div, jm_cmp, jm_sub, na_gF hA, na_gI hA, na_pI hA, na_aln hA, na_ck hA, na_ld hA, na_st hA, hU.1]))
  refine Hx.cs (fun c => ?_) (fun c => ?_)
  · rw [n_fX3_isMultiple_27]
    have : y = 0 := e.mp c
    exact Hx.ret ⟨rfl, by rw [this, Nat.zero_mod, if_pos rfl]⟩
  · have hd := hU.2.1 0 (by omega)
    rw [bq_0] at hd
    (repeat (first | with_reducible refine hx_bs ?_ | with_reducible refine hx_cs ?_ | with_reducible refine hx_t ?_ | with_reducible refine hx_f ?_ | ((conv => arg 1; arg 1; simp (disch := first | assumption | omega) only [sm_add, sm_mul, sm_le, sm_lt, sm_eq, sm_div, sm_sub, mx_le, mx_lt, mx_eq, xm_le, xm_lt, xm_eq, iz_le, iz_lt, iz_eq, nb0, nb1, Nat.zero_le, not_true_eq_false, not_false_eq_true, Nat.reduceEqDiff, Bool.false_eq_true, gF_wA, gF_wI, gI_wA, aln_wA, aln_wI, ckK_wA, ckK_wI, ldI_wA, stI_wA, pI_wA, om_some, jm_of, jm_to, jm_add, jm_mul, jm_div, jm_cmp, jm_sub, na_gF hA, na_gI hA, na_pI hA, na_aln hA, na_ck hA, na_ld hA, na_st hA, hd]); first | with_reducible refine hx_bs ?_ | with_reducible refine hx_cs ?_ | with_reducible refine hx_t ?_ | with_reducible refine hx_f ?_ | with_reducible refine hx_nm ?_))); (try (conv => arg 1; arg 1; simp (disch := first | assumption | omega) only [sm_add, sm_mul, sm_le, sm_lt, sm_eq, sm_div, sm_sub, mx_le, mx_lt, mx_eq, xm_le, xm_lt, xm_eq, iz_le, iz_lt, iz_eq, nb0, nb1, Nat.zero_le, not_true_eq_false, not_false_eq_true, Nat.reduceEqDiff, Bool.false_eq_true, gF_wA, gF_wI, gI_wA, aln_wA, aln_wI, ckK_wA, ckK_wI, ldI_wA, stI_wA, pI_wA, om_some, jm_of, jm_to, jm_add, jm_mul, jm_div, jm_cmp, jm_sub, na_gF hA, na_gI hA, na_pI hA, na_aln hA, na_ck hA, na_ld hA, na_st hA, hd]))
    rcases hp with rfl | rfl
    · refine Hx.cs (fun _ => ?_) (fun q => absurd rfl q)
      rw [hd9 _ 2 (Or.inl rfl) rfl]
      exact Hx.ret ⟨rfl, rfl⟩
    · refine Hx.cs (fun q => ?_) (fun _ => ?_)
      · omega
      · rw [hd9 _ 5 (Or.inr rfl) rfl]
        exact Hx.ret ⟨rfl, rfl⟩
theorem cr_round {x a into n d st : Nat} {s : Int} {σ : St} (hp : HP (PX x) σ) (hx : XS σ x) (hA : FX σ a s n d) (fsI : FS σ into) (hI : into + 1 ∈ PX x) (hI3 : into + 3 ∈ PX x) (hia : into ≠ a) (hax : x + 40 < a ∨ a + 3 < x + 19) (hix : x + 40 < into) (hst : st = 12 ∨ st = 13 ∨ st = 14) (hq : qok (s, n, d)) :
    Hx (fX5_round σ (x + 18) a (nI st) into) (fun σ' _ => cW x (sR x into) 0 0 σ σ' ∧ FX σ' into (if rnd st (s, n, d) = 0 then 0 else s) (rnd st (s, n, d)) 1 ∧ sml (rnd st (s, n, d)) 5) := by
  obtain ⟨fsA, sgA, hN, hD⟩ := hA
  have nea := fsI.ne fsA hia
  have hsg := hq.sg
  have hn4 : sml (n) 4 := Nat.lt_trans hq.2.2.2.2.1 dig30_bp
  have hd4 : sml (d) 4 := Nat.lt_trans hq.2.2.2.2.2 dig30_bp
  have hd0 : 0 < d := hq.2.2.1
  have hsn : s = 0 ↔ n = 0 := hq.2.1
  obtain ⟨z3, hZ3⟩ := hp.2 _ hI3
  have hQ4 : sml (n / d) 4 := bp_dvd d hn4
  have hr4 : sml (n % d) 4 := Nat.lt_trans (Nat.mod_lt _ hd0) hd4
  rw [n_fX5_round]
  have hG := cW.rf (S := (sR x into)) hp
  (try simp (disch := first | assumption | omega) only [sm_bind, sm_cb, sm_nm, ↓reduceIte, xf_9_0 hx, xf_9_1 hx, xf_9_2 hx, xf_9_3 hx, xf_9_4 hx, xf_9_5 hx, xf_9_6 hx, xf_9_7 hx, xf_9_8 hx, xf_9_9 hx, xf_9_10 hx, xf_9_11 hx, xf_9_12 hx, xf_9_13 hx, xf_9_14 hx, xf_9_15 hx, xf_9_16 hx, xf_5_1_45 hx, xf_5_2_45 hx, xf_5_1_50 hx, xf_5_2_50 hx, xf_5_1_55 hx, xf_5_2_55 hx, xf_5_1_60 hx, xf_5_2_60 hx, xk_18 hx, xk_19 hx, xk_21 hx, xk_23 hx, xk_25 hx, xk_27 hx, xk_29 hx, xk_31 hx, xk_33 hx, xk_35 hx, xk_37 hx, xk_39 hx, xk_41 hx, xk_43 hx, xk_45 hx, xk_46 hx, xk_48 hx, xk_50 hx, xk_51 hx, xk_53 hx, xk_55 hx, xk_56 hx, xk_58 hx, xk_60 hx, xk_61 hx, xk_63 hx, sgA.2, fx_n fsA, fx_d fsA, fx_i fsA, fx_p fsA, fx_k fsA, fx_kn fsA, fx_kd fsA, fx_n fsI, fx_d fsI, fx_i fsI, fx_p fsI, fx_k fsI, fx_kn fsI, fx_kd fsI, nb0, nb1])
  refine Hx.bd (cw_divide hp hx hN hD hI (show x + 23 ∈ PX x by simp) (lt_bp hn4 (by omega)) (by omega)) (fun σ1 v1 h1 => ?_)
  obtain ⟨hF1, hQ, hR⟩ := h1
  have hp1 := hF1.hp
  have hx1 := hx.kW hF1
  have hG1 := hG.tr0 hF1 (fun r _ hr => by simp only [s1, s2, s3, sG, sR, sRc] at hr ⊢; omega)
  replace fsA := fsA.kW hF1
  replace fsI := fsI.kW hF1
  try replace sgA := sgA.kW hF1 (by first | (simp only [s1, s2, s3, sG, sR, sRc, Nat.add_left_cancel_iff, Nat.reduceEqDiff, or_self, or_false, false_or, not_false_eq_true, Nat.add_le_add_iff_left, Nat.reduceLeDiff, and_false, false_and]; done) | (simp only [s1, s2, s3, sG, sR, sRc]; omega))
  try replace hN := hN.kW hF1 (by first | (simp only [s1, s2, s3, sG, sR, sRc, Nat.add_left_cancel_iff, Nat.reduceEqDiff, or_self, or_false, false_or, not_false_eq_true, Nat.add_le_add_iff_left, Nat.reduceLeDiff, and_false, false_and]; done) | (simp only [s1, s2, s3, sG, sR, sRc]; omega))
  try replace hD := hD.kW hF1 (by first | (simp only [s1, s2, s3, sG, sR, sRc, Nat.add_left_cancel_iff, Nat.reduceEqDiff, or_self, or_false, false_or, not_false_eq_true, Nat.add_le_add_iff_left, Nat.reduceLeDiff, and_false, false_and]; done) | (simp only [s1, s2, s3, sG, sR, sRc]; omega))
  try replace hZ3 := hZ3.kW hF1 (by first | (simp only [s1, s2, s3, sG, sR, sRc, Nat.add_left_cancel_iff, Nat.reduceEqDiff, or_self, or_false, false_or, not_false_eq_true, Nat.add_le_add_iff_left, Nat.reduceLeDiff, and_false, false_and]; done) | (simp only [s1, s2, s3, sG, sR, sRc]; omega))
  (try simp (disch := first | assumption | omega) only [sm_bind, sm_cb, sm_nm, ↓reduceIte, xf_9_0 hx1, xf_9_1 hx1, xf_9_2 hx1, xf_9_3 hx1, xf_9_4 hx1, xf_9_5 hx1, xf_9_6 hx1, xf_9_7 hx1, xf_9_8 hx1, xf_9_9 hx1, xf_9_10 hx1, xf_9_11 hx1, xf_9_12 hx1, xf_9_13 hx1, xf_9_14 hx1, xf_9_15 hx1, xf_9_16 hx1, xf_5_1_45 hx1, xf_5_2_45 hx1, xf_5_1_50 hx1, xf_5_2_50 hx1, xf_5_1_55 hx1, xf_5_2_55 hx1, xf_5_1_60 hx1, xf_5_2_60 hx1, xk_18 hx1, xk_19 hx1, xk_21 hx1, xk_23 hx1, xk_25 hx1, xk_27 hx1, xk_29 hx1, xk_31 hx1, xk_33 hx1, xk_35 hx1, xk_37 hx1, xk_39 hx1, xk_41 hx1, xk_43 hx1, xk_45 hx1, xk_46 hx1, xk_48 hx1, xk_50 hx1, xk_51 hx1, xk_53 hx1, xk_55 hx1, xk_56 hx1, xk_58 hx1, xk_60 hx1, xk_61 hx1, xk_63 hx1, sgA.2, fx_n fsA, fx_d fsA, fx_i fsA, fx_p fsA, fx_k fsA, fx_kn fsA, fx_kd fsA, fx_n fsI, fx_d fsI, fx_i fsI, fx_p fsI, fx_k fsI, fx_kn fsI, fx_kd fsI, nb0, nb1])
  -- the end: up or not
  have hend : ∀ (τ : St) (u : Nat), cW x (sR x into) 0 0 σ τ → XS τ x → FS τ a → FS τ into → Sg τ a s → Nt τ (into + 3) z3 → Nt τ (into + 1) (n / d) → u ≤ 1 → rnd st (s, n, d) = n / d + u → Hx (fX5_round_122 τ a into (nI u)) (fun σ' _ => cW x (sR x into) 0 0 σ σ' ∧ FX σ' into (if rnd st (s, n, d) = 0 then 0 else s) (rnd st (s, n, d)) 1 ∧ sml (rnd st (s, n, d)) 5) := by
    intro τ u hGT hxT fsA fsI sgA hZ3 hQ hu he
    have hv5 : sml (rnd st (s, n, d)) 5 := by
      rw [he]
      exact lt_bp (bp_add hQ4 (lt_bp (sml_lit (show u < 1000000000 by omega)) (by omega))) (by omega)
    have h136 : ∀ (τ' : St), cW x (sR x into) 0 0 σ τ' → FS τ' a → FS τ' into → Sg τ' a s → Nt τ' (into + 3) z3 → Nt τ' (into + 1) (rnd st (s, n, d)) → Hx (fX5_round_136 τ' a into) (fun σ' _ => cW x (sR x into) 0 0 σ σ' ∧ FX σ' into (if rnd st (s, n, d) = 0 then 0 else s) (rnd st (s, n, d)) 1 ∧ sml (rnd st (s, n, d)) 5) := by
      intro τ' hG9 fsA fsI sgA hZ3 hQ
      rw [n_fX5_round_136]
      simp only [fx_d fsI, sm_bind, fx_kd fsI]
      refine Hx.bd (cw_setSmall hG9.hp hZ3 (by omega)) (fun σ1 _ h => ?_)
      obtain ⟨hF1, hZ1⟩ := h
      have fsA1 := fsA.kW hF1
      have fsI1 := fsI.kW hF1
      have sgA1 := sgA.kW hF1 (by simp only [s1]; omega)
      have hQ1 := hQ.kW hF1 (by simp only [s1]; omega)
      simp only [fx_i fsA1, sgA1.2, sm_bind, fx_k fsI1]
      refine Hx.bd (cf_setSign hF1.hp fsI1 hQ1) (fun σ2 _ h => ?_)
      obtain ⟨hF2, hS2⟩ := h
      exact Hx.ret ⟨(hG9.tr0 hF1 (fun r _ hr => by simp only [s1, sR] at hr ⊢; omega)).tr0 hF2 (fun r _ hr => by simp only [s1, sR] at hr ⊢; omega), ⟨fsI1.kW hF2, hS2, hQ1.kW hF2 (by simp only [s1]; omega), hZ1.kW hF2 (by simp only [s1]; omega)⟩, hv5⟩
    rw [n_fX5_round_122]
    refine Hx.cs (fun c => ?_) (fun c => ?_)
    · rw [sm_eq (by omega) (by omega)] at c
      rw [c, Nat.add_zero] at he
      rw [← he] at hQ
      exact h136 τ hGT fsA fsI sgA hZ3 hQ
    · rw [sm_eq (by omega) (by omega)] at c
      have e1 : rnd st (s, n, d) = n / d * 1 + 1 := by omega
      simp only [fx_n fsI, sm_bind, fx_kn fsI]
      refine Hx.bd (cw_raise hGT.hp hQ (show 1 ≤ 1 by omega) (by omega) (show 1 < 1000000000 by omega) (lt_bp hQ4 (by omega)) (Or.inl hI)) (fun σ1 _ h => ?_)
      obtain ⟨hF1, hQ1⟩ := h
      rw [← e1] at hQ1
      exact h136 σ1 (hGT.tr0 hF1 (fun r _ hr => by simp only [s1, sR] at hr ⊢; omega)) (fsA.kW hF1) (fsI.kW hF1) (sgA.kW hF1 (by simp only [s1]; omega)) (hZ3.kW hF1 (by simp only [s1]; omega)) hQ1
  refine Hx.cs (fun c => ?_) (fun c => ?_)
  · rw [sm_eq (by omega) (by omega)] at c
    subst c
    have hlt2 : sml (n % d * 2 + 0) 5 := by
      rw [Nat.add_zero]
      exact bp_mul hr4 (sml_lit (show 2 < 1000000000 by omega))
    (try simp (disch := first | assumption | omega) only [sm_bind, sm_cb, sm_nm, ↓reduceIte, xf_9_0 hx1, xf_9_1 hx1, xf_9_2 hx1, xf_9_3 hx1, xf_9_4 hx1, xf_9_5 hx1, xf_9_6 hx1, xf_9_7 hx1, xf_9_8 hx1, xf_9_9 hx1, xf_9_10 hx1, xf_9_11 hx1, xf_9_12 hx1, xf_9_13 hx1, xf_9_14 hx1, xf_9_15 hx1, xf_9_16 hx1, xf_5_1_45 hx1, xf_5_2_45 hx1, xf_5_1_50 hx1, xf_5_2_50 hx1, xf_5_1_55 hx1, xf_5_2_55 hx1, xf_5_1_60 hx1, xf_5_2_60 hx1, xk_18 hx1, xk_19 hx1, xk_21 hx1, xk_23 hx1, xk_25 hx1, xk_27 hx1, xk_29 hx1, xk_31 hx1, xk_33 hx1, xk_35 hx1, xk_37 hx1, xk_39 hx1, xk_41 hx1, xk_43 hx1, xk_45 hx1, xk_46 hx1, xk_48 hx1, xk_50 hx1, xk_51 hx1, xk_53 hx1, xk_55 hx1, xk_56 hx1, xk_58 hx1, xk_60 hx1, xk_61 hx1, xk_63 hx1, sgA.2, fx_n fsA, fx_d fsA, fx_i fsA, fx_p fsA, fx_k fsA, fx_kn fsA, fx_kd fsA, fx_n fsI, fx_d fsI, fx_i fsI, fx_p fsI, fx_k fsI, fx_kn fsI, fx_kd fsI, nb0, nb1])
    refine Hx.bd (cw_raise hp1 hR (show 1 ≤ 2 by omega) (by omega) (show 0 < 1000000000 by omega) (lt_bp hr4 (by omega)) (Or.inl (by simp))) (fun σ2 v2 h2 => ?_)
    obtain ⟨hF2, hR⟩ := h2
    have hp2 := hF2.hp
    have hx2 := hx1.kW hF2
    have hG2 := hG1.tr0 hF2 (fun r _ hr => by simp only [s1, s2, s3, sG, sR, sRc] at hr ⊢; omega)
    replace fsA := fsA.kW hF2
    replace fsI := fsI.kW hF2
    try replace sgA := sgA.kW hF2 (by first | (simp only [s1, s2, s3, sG, sR, sRc, Nat.add_left_cancel_iff, Nat.reduceEqDiff, or_self, or_false, false_or, not_false_eq_true, Nat.add_le_add_iff_left, Nat.reduceLeDiff, and_false, false_and]; done) | (simp only [s1, s2, s3, sG, sR, sRc]; omega))
    try replace hN := hN.kW hF2 (by first | (simp only [s1, s2, s3, sG, sR, sRc, Nat.add_left_cancel_iff, Nat.reduceEqDiff, or_self, or_false, false_or, not_false_eq_true, Nat.add_le_add_iff_left, Nat.reduceLeDiff, and_false, false_and]; done) | (simp only [s1, s2, s3, sG, sR, sRc]; omega))
    try replace hD := hD.kW hF2 (by first | (simp only [s1, s2, s3, sG, sR, sRc, Nat.add_left_cancel_iff, Nat.reduceEqDiff, or_self, or_false, false_or, not_false_eq_true, Nat.add_le_add_iff_left, Nat.reduceLeDiff, and_false, false_and]; done) | (simp only [s1, s2, s3, sG, sR, sRc]; omega))
    try replace hZ3 := hZ3.kW hF2 (by first | (simp only [s1, s2, s3, sG, sR, sRc, Nat.add_left_cancel_iff, Nat.reduceEqDiff, or_self, or_false, false_or, not_false_eq_true, Nat.add_le_add_iff_left, Nat.reduceLeDiff, and_false, false_and]; done) | (simp only [s1, s2, s3, sG, sR, sRc]; omega))
    try replace hQ := hQ.kW hF2 (by first | (simp only [s1, s2, s3, sG, sR, sRc, Nat.add_left_cancel_iff, Nat.reduceEqDiff, or_self, or_false, false_or, not_false_eq_true, Nat.add_le_add_iff_left, Nat.reduceLeDiff, and_false, false_and]; done) | (simp only [s1, s2, s3, sG, sR, sRc]; omega))
    (try simp (disch := first | assumption | omega) only [sm_bind, sm_cb, sm_nm, ↓reduceIte, xf_9_0 hx2, xf_9_1 hx2, xf_9_2 hx2, xf_9_3 hx2, xf_9_4 hx2, xf_9_5 hx2, xf_9_6 hx2, xf_9_7 hx2, xf_9_8 hx2, xf_9_9 hx2, xf_9_10 hx2, xf_9_11 hx2, xf_9_12 hx2, xf_9_13 hx2, xf_9_14 hx2, xf_9_15 hx2, xf_9_16 hx2, xf_5_1_45 hx2, xf_5_2_45 hx2, xf_5_1_50 hx2, xf_5_2_50 hx2, xf_5_1_55 hx2, xf_5_2_55 hx2, xf_5_1_60 hx2, xf_5_2_60 hx2, xk_18 hx2, xk_19 hx2, xk_21 hx2, xk_23 hx2, xk_25 hx2, xk_27 hx2, xk_29 hx2, xk_31 hx2, xk_33 hx2, xk_35 hx2, xk_37 hx2, xk_39 hx2, xk_41 hx2, xk_43 hx2, xk_45 hx2, xk_46 hx2, xk_48 hx2, xk_50 hx2, xk_51 hx2, xk_53 hx2, xk_55 hx2, xk_56 hx2, xk_58 hx2, xk_60 hx2, xk_61 hx2, xk_63 hx2, sgA.2, fx_n fsA, fx_d fsA, fx_i fsA, fx_p fsA, fx_k fsA, fx_kn fsA, fx_kd fsA, fx_n fsI, fx_d fsI, fx_i fsI, fx_p fsI, fx_k fsI, fx_kn fsI, fx_kd fsI, nb0, nb1, cn_against hR hD])
    have hb := cmp3_b (n % d * 2 + 0) d
    have ernd : rnd 14 (s, n, d) = if d < 2 * (n % d) ∨ 2 * (n % d) = d ∧ n / d % 2 = 1 then n / d + 1 else n / d := by
      unfold rnd
      simp only [if_pos]
    refine Hx.cs (fun c1 => ?_) (fun c1 => ?_)
    · rw [show nI 0 = iz (0 : Int) from rfl, iz_lt (by omega) (by omega) (by omega) (by omega)] at c1
      have c1 : d < n % d * 2 + 0 := by
        unfold cmp3 at c1
        split at c1
        · omega
        · split at c1 <;> omega
      rw [n_fX5_round_69, n_fX5_round_74]
      exact hend _ 1 hG2 hx2 fsA fsI sgA hZ3 hQ (by omega) (by rw [ernd, if_pos (Or.inl (by omega))])
    · rw [show nI 0 = iz (0 : Int) from rfl, iz_lt (by omega) (by omega) (by omega) (by omega)] at c1
      have c1 : ¬ d < n % d * 2 + 0 := by
        intro q
        unfold cmp3 at c1
        rw [if_neg (by omega), if_neg (by omega)] at c1
        omega
      refine Hx.cs (fun c2 => ?_) (fun c2 => ?_)
      · rw [cmp3_0] at c2
        (try simp (disch := first | assumption | omega) only [sm_bind, sm_cb, sm_nm, ↓reduceIte, xf_9_0 hx2, xf_9_1 hx2, xf_9_2 hx2, xf_9_3 hx2, xf_9_4 hx2, xf_9_5 hx2, xf_9_6 hx2, xf_9_7 hx2, xf_9_8 hx2, xf_9_9 hx2, xf_9_10 hx2, xf_9_11 hx2, xf_9_12 hx2, xf_9_13 hx2, xf_9_14 hx2, xf_9_15 hx2, xf_9_16 hx2, xf_5_1_45 hx2, xf_5_2_45 hx2, xf_5_1_50 hx2, xf_5_2_50 hx2, xf_5_1_55 hx2, xf_5_2_55 hx2, xf_5_1_60 hx2, xf_5_2_60 hx2, xk_18 hx2, xk_19 hx2, xk_21 hx2, xk_23 hx2, xk_25 hx2, xk_27 hx2, xk_29 hx2, xk_31 hx2, xk_33 hx2, xk_35 hx2, xk_37 hx2, xk_39 hx2, xk_41 hx2, xk_43 hx2, xk_45 hx2, xk_46 hx2, xk_48 hx2, xk_50 hx2, xk_51 hx2, xk_53 hx2, xk_55 hx2, xk_56 hx2, xk_58 hx2, xk_60 hx2, xk_61 hx2, xk_63 hx2, sgA.2, fx_n fsA, fx_d fsA, fx_i fsA, fx_p fsA, fx_k fsA, fx_kn fsA, fx_kd fsA, fx_n fsI, fx_d fsI, fx_i fsI, fx_p fsI, fx_k fsI, fx_kn fsI, fx_kd fsI, nb0, nb1, cn_isMultiple hQ (Or.inl rfl)])
        refine Hx.cs (fun c3 => ?_) (fun c3 => ?_)
        · rw [n_fX5_round_69, n_fX5_round_74]
          exact hend _ 1 hG2 hx2 fsA fsI sgA hZ3 hQ (by omega) (by rw [ernd, if_pos (Or.inr ⟨by omega, by omega⟩)])
        · rw [n_fX5_round_73, n_fX5_round_74]
          exact hend _ 0 hG2 hx2 fsA fsI sgA hZ3 hQ (by omega) (by rw [ernd, if_neg (by omega)]; rfl)
      · rw [cmp3_0] at c2
        rw [n_fX5_round_73, n_fX5_round_74]
        exact hend _ 0 hG2 hx2 fsA fsI sgA hZ3 hQ (by omega) (by rw [ernd, if_neg (by omega)]; rfl)
  · rw [sm_eq (by omega) (by omega)] at c
    have ernd : rnd st (s, n, d) = if n % d ≠ 0 ∧ (if st = 12 then s < 0 else 0 < s) then n / d + 1 else n / d := by
      unfold rnd
      simp only [if_neg c]
    (try simp (disch := first | assumption | omega) only [sm_bind, sm_cb, sm_nm, ↓reduceIte, xf_9_0 hx1, xf_9_1 hx1, xf_9_2 hx1, xf_9_3 hx1, xf_9_4 hx1, xf_9_5 hx1, xf_9_6 hx1, xf_9_7 hx1, xf_9_8 hx1, xf_9_9 hx1, xf_9_10 hx1, xf_9_11 hx1, xf_9_12 hx1, xf_9_13 hx1, xf_9_14 hx1, xf_9_15 hx1, xf_9_16 hx1, xf_5_1_45 hx1, xf_5_2_45 hx1, xf_5_1_50 hx1, xf_5_2_50 hx1, xf_5_1_55 hx1, xf_5_2_55 hx1, xf_5_1_60 hx1, xf_5_2_60 hx1, xk_18 hx1, xk_19 hx1, xk_21 hx1, xk_23 hx1, xk_25 hx1, xk_27 hx1, xk_29 hx1, xk_31 hx1, xk_33 hx1, xk_35 hx1, xk_37 hx1, xk_39 hx1, xk_41 hx1, xk_43 hx1, xk_45 hx1, xk_46 hx1, xk_48 hx1, xk_50 hx1, xk_51 hx1, xk_53 hx1, xk_55 hx1, xk_56 hx1, xk_58 hx1, xk_60 hx1, xk_61 hx1, xk_63 hx1, sgA.2, fx_n fsA, fx_d fsA, fx_i fsA, fx_p fsA, fx_k fsA, fx_kn fsA, fx_kd fsA, fx_n fsI, fx_d fsI, fx_i fsI, fx_p fsI, fx_k fsI, fx_kn fsI, fx_kd fsI, nb0, nb1, cn_isZero hR])
    refine Hx.cs (fun c1 => ?_) (fun c1 => ?_)
    · have hr0 : n % d ≠ 0 := c1
      have hs0 : s ≠ 0 := by
        intro e
        rw [hsn.mp e, Nat.zero_mod] at hr0
        exact hr0 rfl
      have h12 : (nI st = nI 12) = (st = 12) := sm_eq (by omega) (by omega)
      have hle : (nI 0 ≤ iz s) = (0 ≤ s) := by rw [show nI 0 = iz (0 : Int) from rfl, iz_le (by omega) (by omega) (by omega) (by omega)]
      have h101 : ∀ b : Nat, b ≤ 1 → (b = 1 ↔ s < 0) → Hx (fX5_round_101 σ1 a (nI st) into (nI b)) (fun σ' _ => cW x (sR x into) 0 0 σ σ' ∧ FX σ' into (if rnd st (s, n, d) = 0 then 0 else s) (rnd st (s, n, d)) 1 ∧ sml (rnd st (s, n, d)) 5) := by
        intro b hb hbs
        rw [n_fX5_round_101]
        refine Hx.cs (fun c2 => ?_) (fun c2 => ?_)
        · rw [h12] at c2
          rw [n_fX5_round_112]
          refine Hx.cs (fun c3 => ?_) (fun c3 => ?_)
          · rw [sm_eq (by omega) (by omega)] at c3
            rw [n_fX5_round_120]
            exact hend _ 1 hG1 hx1 fsA fsI sgA hZ3 hQ (by omega) (by rw [ernd, if_pos ⟨hr0, by rw [if_pos c2]; exact hbs.mp c3⟩])
          · rw [sm_eq (by omega) (by omega)] at c3
            rw [n_fX5_round_119, n_fX5_round_120]
            exact hend _ 0 hG1 hx1 fsA fsI sgA hZ3 hQ (by omega) (by rw [ernd, if_neg (fun q => by rw [if_pos c2] at q; exact c3 (hbs.mpr q.2))]; rfl)
        · rw [h12] at c2
          rw [n_fX5_round_112]
          refine Hx.cs (fun c3 => ?_) (fun c3 => ?_)
          · rw [sm_eq (by omega) (by omega)] at c3
            rw [n_fX5_round_120]
            exact hend _ 1 hG1 hx1 fsA fsI sgA hZ3 hQ (by omega) (by rw [ernd, if_pos ⟨hr0, by rw [if_neg c2]; omega⟩])
          · rw [sm_eq (by omega) (by omega)] at c3
            rw [n_fX5_round_119, n_fX5_round_120]
            exact hend _ 0 hG1 hx1 fsA fsI sgA hZ3 hQ (by omega) (by rw [ernd, if_neg (fun q => by rw [if_neg c2] at q; omega)]; rfl)
      (try simp (disch := first | assumption | omega) only [sm_bind, sm_cb, sm_nm, ↓reduceIte, xf_9_0 hx1, xf_9_1 hx1, xf_9_2 hx1, xf_9_3 hx1, xf_9_4 hx1, xf_9_5 hx1, xf_9_6 hx1, xf_9_7 hx1, xf_9_8 hx1, xf_9_9 hx1, xf_9_10 hx1, xf_9_11 hx1, xf_9_12 hx1, xf_9_13 hx1, xf_9_14 hx1, xf_9_15 hx1, xf_9_16 hx1, xf_5_1_45 hx1, xf_5_2_45 hx1, xf_5_1_50 hx1, xf_5_2_50 hx1, xf_5_1_55 hx1, xf_5_2_55 hx1, xf_5_1_60 hx1, xf_5_2_60 hx1, xk_18 hx1, xk_19 hx1, xk_21 hx1, xk_23 hx1, xk_25 hx1, xk_27 hx1, xk_29 hx1, xk_31 hx1, xk_33 hx1, xk_35 hx1, xk_37 hx1, xk_39 hx1, xk_41 hx1, xk_43 hx1, xk_45 hx1, xk_46 hx1, xk_48 hx1, xk_50 hx1, xk_51 hx1, xk_53 hx1, xk_55 hx1, xk_56 hx1, xk_58 hx1, xk_60 hx1, xk_61 hx1, xk_63 hx1, sgA.2, fx_n fsA, fx_d fsA, fx_i fsA, fx_p fsA, fx_k fsA, fx_kn fsA, fx_kd fsA, fx_n fsI, fx_d fsI, fx_i fsI, fx_p fsI, fx_k fsI, fx_kn fsI, fx_kd fsI, nb0, nb1, hle])
      refine Hx.cs (fun c2 => ?_) (fun c2 => ?_)
      · exact h101 0 (by omega) (by omega)
      · exact h101 1 (by omega) (by omega)
    · have hr0 : n % d = 0 := Classical.not_not.mp c1
      rw [n_fX5_round_119, n_fX5_round_120]
      exact hend _ 0 hG1 hx1 fsA fsI sgA hZ3 hQ (by omega) (by rw [ernd, if_neg (fun q => q.1 hr0)]; rfl)
